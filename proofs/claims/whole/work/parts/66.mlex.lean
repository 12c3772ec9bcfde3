/-! THE REFERENCE: how a text is parted -/
abbrev PR : Type := Int32 × Int32 × Int32 × Int32 × Int32 × Int32 × Int32 × Int64
abbrev mpO (Z : MZ) (p : PR) (tu : Int32) : va_E := .inr (11, [.int Z.1.1, .int Z.1.2.1, .int Z.1.2.2, Z.2.1.1, Z.2.1.2, .ref 71, .int Z.2.2.1.1.1, .int Z.2.2.1.1.2.1, .int p.1, .int p.2.1, .int p.2.2.1, .int p.2.2.2.1, .int p.2.2.2.2.1, .int p.2.2.2.2.2.1, .int p.2.2.2.2.2.2.1, .long p.2.2.2.2.2.2.2, .ref 72, .ref 73, .ref 74, .ref 75, .ref 76, .int Z.2.2.2.1.1, .int Z.2.2.2.1.2.1, .int Z.2.2.2.1.2.2.1, .int tu, .int Z.2.2.2.1.2.2.2.1, .int Z.2.2.2.1.2.2.2.2, .ref 77, .ref 78, .ref 79, .ref 80, .ref 81, .ref 82, .int Z.2.2.2.2, .ref 83])
def ByOk (tp : Nat → Int32) : Prop := ∀ k, ∃ y : BitVec 8, tp k = (Int8.ofBitVec y).toInt32
def by8P (c : Int32) : Prop := ((c &&& 255 = 32) ↔ c = 32) ∧ inB (c &&& 255) 97 122 = inB c 97 122 ∧ inB (c &&& 255) 48 57 = inB c 48 57 ∧ ((c &&& 255 = 59) ↔ c = 59) ∧ ((c &&& 255 = 44) ↔ c = 44) ∧ c &&& 255 ≠ -1 ∧ (inB c 97 122 = true → c &&& 255 = c) ∧ (inB c 48 57 = true → c &&& 255 = c)
theorem by8_all : ∀ y : BitVec 8, (((Int8.ofBitVec y).toInt32 &&& 255 = 32) ↔ (Int8.ofBitVec y).toInt32 = 32) ∧ inB ((Int8.ofBitVec y).toInt32 &&& 255) 97 122 = inB (Int8.ofBitVec y).toInt32 97 122 ∧ inB ((Int8.ofBitVec y).toInt32 &&& 255) 48 57 = inB (Int8.ofBitVec y).toInt32 48 57 ∧ (((Int8.ofBitVec y).toInt32 &&& 255 = 59) ↔ (Int8.ofBitVec y).toInt32 = 59) ∧ (((Int8.ofBitVec y).toInt32 &&& 255 = 44) ↔ (Int8.ofBitVec y).toInt32 = 44) ∧ (Int8.ofBitVec y).toInt32 &&& 255 ≠ -1 ∧ (inB (Int8.ofBitVec y).toInt32 97 122 = true → (Int8.ofBitVec y).toInt32 &&& 255 = (Int8.ofBitVec y).toInt32) ∧ (inB (Int8.ofBitVec y).toInt32 48 57 = true → (Int8.ofBitVec y).toInt32 &&& 255 = (Int8.ofBitVec y).toInt32) := by decide +kernel
theorem by8 {tp : Nat → Int32} (B : ByOk tp) (k : Nat) : by8P (tp k) := by
  obtain ⟨y, e⟩ := B k
  rw [e]; exact by8_all y
def w32G (tp : Nat → Int32) : Nat → Nat → Int64 → Int64
  | 0, _, v => v
  | r + 1, p, v => w32G tp r (p + 1) (32 * v + ((tp p - 97) + 1).toInt64)
theorem w32G_s (tp : Nat → Int32) : ∀ r p v, w32G tp (r + 1) p v = w32G tp r (p + 1) (32 * v + ((tp p - 97) + 1).toInt64) := fun _ _ _ => rfl
theorem let_spec {h : tm_H} {c : Int32} : tC mX11_isLetter [.int c] h = some (h, some (.int (bI (inB c 97 122)))) := by
  unfold inB
  by_cases a : c < 97
  · simp only [cX11_isLetter_, bX11_isLetter_0, bX11_isLetter_6, bX11_isLetter_12, bX11_isLetter_17, bX11_isLetter_16, tk1_some, tk0_some, tkc_some, tkc_none, ↓reduceIte, a, bI_t, bI_f, show ((1 : Int32) = 0) = False from by decide, not_false_eq_true, not_true, if_true, if_false, Bool.false_eq_true, tm_rb0, tm_rb1]
  · by_cases b : 122 < c
    · simp only [cX11_isLetter_, bX11_isLetter_0, bX11_isLetter_6, bX11_isLetter_12, bX11_isLetter_17, bX11_isLetter_16, tk1_some, tk0_some, tkc_some, tkc_none, ↓reduceIte, a, b, bI_t, bI_f, show ((1 : Int32) = 0) = False from by decide, not_false_eq_true, not_true, if_true, if_false, Bool.false_eq_true, tm_rb0, tm_rb1]
    · simp only [cX11_isLetter_, bX11_isLetter_0, bX11_isLetter_6, bX11_isLetter_12, bX11_isLetter_17, bX11_isLetter_16, tk1_some, tk0_some, tkc_some, tkc_none, ↓reduceIte, a, b, bI_t, bI_f, show ((1 : Int32) = 0) = False from by decide, not_false_eq_true, not_true, if_true, if_false, Bool.false_eq_true, tm_rb0, tm_rb1]
theorem dig_spec {h : tm_H} {c : Int32} : tC mX11_isDigit [.int c] h = some (h, some (.int (bI (inB c 48 57)))) := by
  unfold inB
  by_cases a : c < 48
  · simp only [cX11_isDigit_, bX11_isDigit_0, bX11_isDigit_6, bX11_isDigit_12, bX11_isDigit_17, bX11_isDigit_16, tk1_some, tk0_some, tkc_some, tkc_none, ↓reduceIte, a, bI_t, bI_f, show ((1 : Int32) = 0) = False from by decide, not_false_eq_true, not_true, if_true, if_false, Bool.false_eq_true, tm_rb0, tm_rb1]
  · by_cases b : 57 < c
    · simp only [cX11_isDigit_, bX11_isDigit_0, bX11_isDigit_6, bX11_isDigit_12, bX11_isDigit_17, bX11_isDigit_16, tk1_some, tk0_some, tkc_some, tkc_none, ↓reduceIte, a, b, bI_t, bI_f, show ((1 : Int32) = 0) = False from by decide, not_false_eq_true, not_true, if_true, if_false, Bool.false_eq_true, tm_rb0, tm_rb1]
    · simp only [cX11_isDigit_, bX11_isDigit_0, bX11_isDigit_6, bX11_isDigit_12, bX11_isDigit_17, bX11_isDigit_16, tk1_some, tk0_some, tkc_some, tkc_none, ↓reduceIte, a, b, bI_t, bI_f, show ((1 : Int32) = 0) = False from by decide, not_false_eq_true, not_true, if_true, if_false, Bool.false_eq_true, tm_rb0, tm_rb1]
section ML
variable {h : tm_H} {n : Nat} {tp : Nat → Int32} {Z : MZ} {tu : Int32}
def bytS (tp : Nat → Int32) (n k : Nat) : Int32 := if k < n then tp k &&& 255 else -1
theorem byt_spec {p : PR} (o : h 70 = mpO Z p tu) (ha : h 71 = aB 700 tp) (ez : Z.2.2.1.1.2.1 = nI n) (hn : n ≤ 700) {k : Nat} (hk : k ≤ 700) : tC mX11_byteAt [.ref 70, .int (nI k)] h = some (h, some (.int (bytS tp n k))) := by
  unfold bytS
  by_cases l : k < n
  · have l' : ¬ nI n ≤ nI k := nI_ge l (by omega)
    simp only [cX11_byteAt_, bX11_byteAt_0, bX11_byteAt_5, bX11_byteAt_8, bX11_byteAt_12, bX11_byteAt_14, bX11_byteAt_22, bX11_byteAt_21, tk1_some, tk0_some, tkc_some, tkc_none, ↓reduceIte, o, gf_11_7, gf_11_5, ez, l', ha, tm_ai_in rfl (show k < 700 by omega) (show 700 < 2 ^ 31 by decide), l, bI_t, bI_f, show ((1 : Int32) = 0) = False from by decide, not_false_eq_true, not_true, if_true, if_false, Bool.false_eq_true, tm_rb0, tm_rb1]
  · have l' : nI n ≤ nI k := (nI_leI (by omega) (by omega)).mpr (by omega)
    simp only [cX11_byteAt_, bX11_byteAt_0, bX11_byteAt_5, bX11_byteAt_8, bX11_byteAt_12, bX11_byteAt_14, bX11_byteAt_22, bX11_byteAt_21, tk1_some, tk0_some, tkc_some, tkc_none, ↓reduceIte, o, gf_11_7, ez, l', l, bI_t, bI_f, show ((1 : Int32) = 0) = False from by decide, not_false_eq_true, not_true, if_true, if_false, Bool.false_eq_true, tm_rb0, tm_rb1]
theorem bytU {p : PR} (ha : h 71 = aB 700 tp) (ez : Z.2.2.1.1.2.1 = nI n) (hn : n ≤ 700) {k : Nat} (hk : k ≤ 700) : tC mX11_byteAt [.ref 70, .int (nI k)] (tm_up h 70 (mpO Z p tu)) = some (tm_up h 70 (mpO Z p tu), some (.int (bytS tp n k))) :=
  byt_spec tm_up_same (by rw [tm_up_ne (by decide)]; exact ha) ez hn hk
theorem ml_skip (B : ByOk tp) (ha : h 71 = aB 700 tp) (ez : Z.2.2.1.1.2.1 = nI n) (hn : n ≤ 700) {q : Int32 × Int32 × Int32 × Int32 × Int32 × Int32 × Int64} {x1 x2 : Value} : ∀ r b, b + r = n → tE mX11_goesOn 9 [.ref 70, x1, x2] [] (tm_up h 70 (mpO Z (nI b, q) tu)) = tE mX11_goesOn 35 [.ref 70, x1, x2] [] (tm_up h 70 (mpO Z (nI (skS tp r b), q) tu)) := by
  intro r
  induction r with
  | zero =>
    intro b hb
    obtain rfl : b = n := by omega
    have e : bytS tp b b = -1 := by unfold bytS; exact if_neg (by omega)
    have P := bytU (p := (nI b, q)) (tu := tu) (h := h) ha ez hn (k := b) (by omega)
    rw [e] at P
    simp only [bX11_goesOn_9, bX11_goesOn_14, bX11_goesOn_17, tk1_some, tk0_some, tkc_some, tkc_none, ↓reduceIte, tm_up_same, gf_11_8, tm_isO, P, show ((-1 : Int32) = 32) = False from by decide, not_false_eq_true, if_true, skS]
  | succ r ih =>
    intro b hb
    have e : bytS tp n b = tp b &&& 255 := by unfold bytS; exact if_pos (by omega)
    have P := bytU (p := (nI b, q)) (tu := tu) (h := h) ha ez hn (k := b) (by omega)
    rw [e] at P
    unfold skS
    rw [bX11_goesOn_9]
    by_cases c : tp b = 32
    · have c' : tp b &&& 255 = 32 := (by8 B b).1.mpr c
      rw [if_pos c, ← ih (b + 1) (by omega)]
      simp only [bX11_goesOn_14, bX11_goesOn_17, bX11_goesOn_22, bX11_goesOn_27, bX11_goesOn_32, tk1_some, tk0_some, tkc_some, tkc_none, ↓reduceIte, tm_up_same, gf_11_8, tm_isO, P, c', not_true, if_false, tm_pf_eq, ps_11_8, Option.map_some, tm_up_up, nI_k1]
    · have c' : ¬ tp b &&& 255 = 32 := fun y => c ((by8 B b).1.mp y)
      rw [if_neg c]
      simp only [bX11_goesOn_14, bX11_goesOn_17, tk1_some, tk0_some, tkc_some, tkc_none, ↓reduceIte, tm_up_same, gf_11_8, tm_isO, P, c', not_false_eq_true, if_true]
theorem inB_rn {c lo hi : Int32} : inB c lo hi = true ↔ ¬ c < lo ∧ ¬ hi < c := by
  unfold inB
  by_cases a : c < lo
  · rw [if_pos a]; exact ⟨fun y => (by cases y), fun y => absurd a y.1⟩
  · rw [if_neg a]
    by_cases b : hi < c
    · rw [if_pos b]; exact ⟨fun y => (by cases y), fun y => absurd b y.2⟩
    · rw [if_neg b]; exact ⟨fun _ => ⟨a, b⟩, fun _ => rfl⟩
theorem rnS_if (tp : Nat → Int32) (lo hi : Int32) (r p : Nat) : rnS tp lo hi (r + 1) p = if inB (tp p) lo hi = true then rnS tp lo hi r (p + 1) else p := by
  show (if tp p < lo then p else if hi < tp p then p else rnS tp lo hi r (p + 1)) = _
  unfold inB
  by_cases a : tp p < lo
  · rw [if_pos a, if_pos a]; rfl
  · rw [if_neg a, if_neg a]
    by_cases b : hi < tp p
    · rw [if_pos b, if_pos b]; rfl
    · rw [if_neg b, if_neg b, if_pos rfl]
theorem ml_word (B : ByOk tp) (ha : h 71 = aB 700 tp) (ez : Z.2.2.1.1.2.1 = nI n) (hn : n ≤ 700) {so pl mk nu fl wa : Int32} {x1 : Value} : ∀ r b c wd, b + r = n → c ≤ b → ∃ wd', tE mX11_goesOn 89 [.ref 70, x1, .int (nI c)] [] (tm_up h 70 (mpO Z (nI b, so, pl, mk, nu, fl, wa, wd) tu)) = tE mX11_goesOn 152 [.ref 70, x1, .int (nI (c + (rnS tp 97 122 r b - b)))] [] (tm_up h 70 (mpO Z (nI (rnS tp 97 122 r b), so, pl, mk, nu, fl, wa, wd') tu)) ∧ (c + (rnS tp 97 122 r b - b) ≤ 8 → wd' = w32G tp (rnS tp 97 122 r b - b) b wd) := by
  intro r
  induction r with
  | zero =>
    intro b c wd hb hc
    obtain rfl : b = n := by omega
    have e : bytS tp b b = -1 := by unfold bytS; exact if_neg (by omega)
    have P := bytU (p := (nI b, so, pl, mk, nu, fl, wa, wd)) (tu := tu) (h := h) ha ez hn (k := b) (by omega)
    rw [e] at P
    refine ⟨wd, ?_, fun _ => by show wd = w32G tp (b - b) b wd; rw [Nat.sub_self]; rfl⟩
    show _ = tE mX11_goesOn 152 [.ref 70, x1, .int (nI (c + (b - b)))] [] (tm_up h 70 (mpO Z (nI b, so, pl, mk, nu, fl, wa, wd) tu))
    rw [Nat.sub_self, Nat.add_zero]
    simp only [bX11_goesOn_89, bX11_goesOn_94, bX11_goesOn_97, bX11_goesOn_100, tk1_some, tk0_some, tkc_some, tkc_none, ↓reduceIte, tm_up_same, gf_11_8, tm_isO, P, let_spec, show inB (-1) 97 122 = false from by decide, bI_f, if_true]
  | succ r ih =>
    intro b c wd hb hc
    have e : bytS tp n b = tp b &&& 255 := by unfold bytS; exact if_pos (by omega)
    have P := fun wd => bytU (p := (nI b, so, pl, mk, nu, fl, wa, wd)) (tu := tu) (h := h) ha ez hn (k := b) (by omega)
    simp only [e] at P
    have iu := (by8 B b).2.1
    rw [rnS_if]
    cases ib : inB (tp b) 97 122 with
    | false =>
      rw [ib] at iu
      refine ⟨wd, ?_, fun _ => by show wd = w32G tp (b - b) b wd; rw [Nat.sub_self]; rfl⟩
      show _ = tE mX11_goesOn 152 [.ref 70, x1, .int (nI (c + (b - b)))] [] (tm_up h 70 (mpO Z (nI b, so, pl, mk, nu, fl, wa, wd) tu))
      rw [Nat.sub_self, Nat.add_zero]
      simp only [bX11_goesOn_89, bX11_goesOn_94, bX11_goesOn_97, bX11_goesOn_100, tk1_some, tk0_some, tkc_some, tkc_none, ↓reduceIte, tm_up_same, gf_11_8, tm_isO, P, let_spec, iu, bI_f, if_true]
    | true =>
      rw [if_pos rfl]
      rw [ib] at iu
      have ub := (by8 B b).2.2.2.2.2.2.1 ib
      rw [ub] at P iu
      have rb := rnS_b tp 97 122 r (b + 1)
      by_cases l : c < 8
      · have l' : ¬ (8 : Int32) ≤ nI c := fun y => (nI_ge (show c < 8 by omega) (show 8 < 2 ^ 31 by decide)) y
        obtain ⟨wd', e1, e2⟩ := ih (b + 1) (c + 1) (32 * wd + ((tp b - 97) + 1).toInt64) (by omega) (by omega)
        refine ⟨wd', ?_, fun hc8 => ?_⟩
        · rw [show c + (rnS tp 97 122 r (b + 1) - b) = c + 1 + (rnS tp 97 122 r (b + 1) - (b + 1)) by omega, ← e1]
          simp only [bX11_goesOn_89, bX11_goesOn_94, bX11_goesOn_97, bX11_goesOn_100, bX11_goesOn_103, bX11_goesOn_109, bX11_goesOn_117, bX11_goesOn_123, bX11_goesOn_126, bX11_goesOn_136, bX11_goesOn_144, bX11_goesOn_149, tk1_some, tk0_some, tkc_some, tkc_none, ↓reduceIte, tm_up_same, gf_11_8, gf_11_15, tm_isO, P, let_spec, iu, bI_t, show ((1 : Int32) = 0) = False from by decide, if_false, l', tm_pf_eq, ps_11_15, ps_11_8, Option.map_some, tm_up_up, nI_k1]
        · rw [e2 (by omega), show rnS tp 97 122 r (b + 1) - b = (rnS tp 97 122 r (b + 1) - (b + 1)) + 1 by omega]; rfl
      · have l' : (8 : Int32) ≤ nI c := (nI_leI (show 8 < 2 ^ 31 by decide) (by omega)).mpr (by omega)
        obtain ⟨wd', e1, e2⟩ := ih (b + 1) (c + 1) wd (by omega) (by omega)
        refine ⟨wd', ?_, fun hc8 => absurd hc8 (by omega)⟩
        rw [show c + (rnS tp 97 122 r (b + 1) - b) = c + 1 + (rnS tp 97 122 r (b + 1) - (b + 1)) by omega, ← e1]
        simp only [bX11_goesOn_89, bX11_goesOn_94, bX11_goesOn_97, bX11_goesOn_100, bX11_goesOn_103, bX11_goesOn_136, bX11_goesOn_144, bX11_goesOn_149, tk1_some, tk0_some, tkc_some, tkc_none, ↓reduceIte, tm_up_same, gf_11_8, tm_isO, P, let_spec, iu, bI_t, show ((1 : Int32) = 0) = False from by decide, if_false, if_true, l', tm_pf_eq, ps_11_8, Option.map_some, tm_up_up, nI_k1]
theorem ml_num (B : ByOk tp) (ha : h 71 = aB 700 tp) (ez : Z.2.2.1.1.2.1 = nI n) (hn : n ≤ 700) {so pl mk fl wa : Int32} {wd : Int64} {x1 : Value} : ∀ r b c nu, b + r = n → c ≤ b → ∃ nu', tE mX11_goesOn 178 [.ref 70, x1, .int (nI c)] [] (tm_up h 70 (mpO Z (nI b, so, pl, mk, nu, fl, wa, wd) tu)) = tE mX11_goesOn 236 [.ref 70, x1, .int (nI (c + (rnS tp 48 57 r b - b)))] [] (tm_up h 70 (mpO Z (nI (rnS tp 48 57 r b), so, pl, mk, nu', fl, wa, wd) tu)) ∧ (c + (rnS tp 48 57 r b - b) ≤ 3 → nu' = vlG tp (rnS tp 48 57 r b - b) b nu) := by
  intro r
  induction r with
  | zero =>
    intro b c nu hb hc
    obtain rfl : b = n := by omega
    have e : bytS tp b b = -1 := by unfold bytS; exact if_neg (by omega)
    have P := bytU (p := (nI b, so, pl, mk, nu, fl, wa, wd)) (tu := tu) (h := h) ha ez hn (k := b) (by omega)
    rw [e] at P
    refine ⟨nu, ?_, fun _ => by show nu = vlG tp (b - b) b nu; rw [Nat.sub_self]; rfl⟩
    show _ = tE mX11_goesOn 236 [.ref 70, x1, .int (nI (c + (b - b)))] [] (tm_up h 70 (mpO Z (nI b, so, pl, mk, nu, fl, wa, wd) tu))
    rw [Nat.sub_self, Nat.add_zero]
    simp only [bX11_goesOn_178, bX11_goesOn_183, bX11_goesOn_186, bX11_goesOn_189, tk1_some, tk0_some, tkc_some, tkc_none, ↓reduceIte, tm_up_same, gf_11_8, tm_isO, P, dig_spec, show inB (-1) 48 57 = false from by decide, bI_f, if_true]
  | succ r ih =>
    intro b c nu hb hc
    have e : bytS tp n b = tp b &&& 255 := by unfold bytS; exact if_pos (by omega)
    have P := fun nu => bytU (p := (nI b, so, pl, mk, nu, fl, wa, wd)) (tu := tu) (h := h) ha ez hn (k := b) (by omega)
    simp only [e] at P
    have iu := (by8 B b).2.2.1
    rw [rnS_if]
    cases ib : inB (tp b) 48 57 with
    | false =>
      rw [ib] at iu
      refine ⟨nu, ?_, fun _ => by show nu = vlG tp (b - b) b nu; rw [Nat.sub_self]; rfl⟩
      show _ = tE mX11_goesOn 236 [.ref 70, x1, .int (nI (c + (b - b)))] [] (tm_up h 70 (mpO Z (nI b, so, pl, mk, nu, fl, wa, wd) tu))
      rw [Nat.sub_self, Nat.add_zero]
      simp only [bX11_goesOn_178, bX11_goesOn_183, bX11_goesOn_186, bX11_goesOn_189, tk1_some, tk0_some, tkc_some, tkc_none, ↓reduceIte, tm_up_same, gf_11_8, tm_isO, P, dig_spec, iu, bI_f, if_true]
    | true =>
      rw [if_pos rfl]
      rw [ib] at iu
      have ub := (by8 B b).2.2.2.2.2.2.2 ib
      rw [ub] at P iu
      have rb := rnS_b tp 48 57 r (b + 1)
      by_cases l : c < 3
      · have l' : ¬ (3 : Int32) ≤ nI c := fun y => (nI_ge (show c < 3 by omega) (show 3 < 2 ^ 31 by decide)) y
        have er : 10 * nu + tp b - 48 = nu * 10 + (tp b - 48) := by rw [Int32.mul_comm, Int32.sub_eq_add_neg, Int32.sub_eq_add_neg, Int32.add_assoc]
        obtain ⟨nu', e1, e2⟩ := ih (b + 1) (c + 1) (nu * 10 + (tp b - 48)) (by omega) (by omega)
        refine ⟨nu', ?_, fun hc8 => ?_⟩
        · rw [show c + (rnS tp 48 57 r (b + 1) - b) = c + 1 + (rnS tp 48 57 r (b + 1) - (b + 1)) by omega, ← e1]
          simp only [bX11_goesOn_178, bX11_goesOn_183, bX11_goesOn_186, bX11_goesOn_189, bX11_goesOn_192, bX11_goesOn_197, bX11_goesOn_204, bX11_goesOn_210, bX11_goesOn_213, bX11_goesOn_220, bX11_goesOn_228, bX11_goesOn_233, tk1_some, tk0_some, tkc_some, tkc_none, ↓reduceIte, tm_up_same, gf_11_8, gf_11_12, tm_isO, P, dig_spec, iu, bI_t, show ((1 : Int32) = 0) = False from by decide, if_false, l', er, tm_pf_eq, ps_11_12, ps_11_8, Option.map_some, tm_up_up, nI_k1]
        · rw [e2 (by omega), show rnS tp 48 57 r (b + 1) - b = (rnS tp 48 57 r (b + 1) - (b + 1)) + 1 by omega]; rfl
      · have l' : (3 : Int32) ≤ nI c := (nI_leI (show 3 < 2 ^ 31 by decide) (by omega)).mpr (by omega)
        obtain ⟨nu', e1, e2⟩ := ih (b + 1) (c + 1) nu (by omega) (by omega)
        refine ⟨nu', ?_, fun hc8 => absurd hc8 (by omega)⟩
        rw [show c + (rnS tp 48 57 r (b + 1) - b) = c + 1 + (rnS tp 48 57 r (b + 1) - (b + 1)) by omega, ← e1]
        simp only [bX11_goesOn_178, bX11_goesOn_183, bX11_goesOn_186, bX11_goesOn_189, bX11_goesOn_192, bX11_goesOn_220, bX11_goesOn_228, bX11_goesOn_233, tk1_some, tk0_some, tkc_some, tkc_none, ↓reduceIte, tm_up_same, gf_11_8, tm_isO, P, dig_spec, iu, bI_t, show ((1 : Int32) = 0) = False from by decide, if_false, if_true, l', tm_pf_eq, ps_11_8, Option.map_some, tm_up_up, nI_k1]
/-- the token at hand is the one behind the place b -/
def mTk (tp : Nat → Int32) (T : Tok) (p : PR) : Prop :=
  p.2.2.1 = nI T.1 ∧
  (T.2.2 = 0 → p.2.1 = 1) ∧
  (T.2.2 = 1 → p.2.1 = 2 ∧ p.1 = nI T.2.1 ∧ p.2.2.2.2.2.2.2 = w32G tp (T.2.1 - T.1) T.1 0) ∧
  (T.2.2 = 2 → p.2.1 = 3 ∧ p.1 = nI T.2.1 ∧ p.2.2.2.2.1 = vlG tp (T.2.1 - T.1) T.1 0) ∧
  (T.2.2 = 3 → p.2.1 = 4 ∧ p.1 = nI T.2.1 ∧ p.2.2.2.1 = 59) ∧
  (T.2.2 = 4 → p.2.1 = 4 ∧ p.1 = nI T.2.1 ∧ p.2.2.2.1 = 44) ∧
  (T.2.2 = 5 → p.2.1 = 0)
theorem mTk_0 {tp : Nat → Int32} {T : Tok} {p : PR} (e : T.2.2 = 0) (a : p.2.2.1 = nI T.1) (f : p.2.1 = 1) : mTk tp T p := ⟨a, fun _ => f, fun y => absurd (e.symm.trans y) (by decide), fun y => absurd (e.symm.trans y) (by decide), fun y => absurd (e.symm.trans y) (by decide), fun y => absurd (e.symm.trans y) (by decide), fun y => absurd (e.symm.trans y) (by decide)⟩
theorem mTk_1 {tp : Nat → Int32} {T : Tok} {p : PR} (e : T.2.2 = 1) (a : p.2.2.1 = nI T.1) (f : p.2.1 = 2 ∧ p.1 = nI T.2.1 ∧ p.2.2.2.2.2.2.2 = w32G tp (T.2.1 - T.1) T.1 0) : mTk tp T p := ⟨a, fun y => absurd (e.symm.trans y) (by decide), fun _ => f, fun y => absurd (e.symm.trans y) (by decide), fun y => absurd (e.symm.trans y) (by decide), fun y => absurd (e.symm.trans y) (by decide), fun y => absurd (e.symm.trans y) (by decide)⟩
theorem mTk_2 {tp : Nat → Int32} {T : Tok} {p : PR} (e : T.2.2 = 2) (a : p.2.2.1 = nI T.1) (f : p.2.1 = 3 ∧ p.1 = nI T.2.1 ∧ p.2.2.2.2.1 = vlG tp (T.2.1 - T.1) T.1 0) : mTk tp T p := ⟨a, fun y => absurd (e.symm.trans y) (by decide), fun y => absurd (e.symm.trans y) (by decide), fun _ => f, fun y => absurd (e.symm.trans y) (by decide), fun y => absurd (e.symm.trans y) (by decide), fun y => absurd (e.symm.trans y) (by decide)⟩
theorem mTk_3 {tp : Nat → Int32} {T : Tok} {p : PR} (e : T.2.2 = 3) (a : p.2.2.1 = nI T.1) (f : p.2.1 = 4 ∧ p.1 = nI T.2.1 ∧ p.2.2.2.1 = 59) : mTk tp T p := ⟨a, fun y => absurd (e.symm.trans y) (by decide), fun y => absurd (e.symm.trans y) (by decide), fun y => absurd (e.symm.trans y) (by decide), fun _ => f, fun y => absurd (e.symm.trans y) (by decide), fun y => absurd (e.symm.trans y) (by decide)⟩
theorem mTk_4 {tp : Nat → Int32} {T : Tok} {p : PR} (e : T.2.2 = 4) (a : p.2.2.1 = nI T.1) (f : p.2.1 = 4 ∧ p.1 = nI T.2.1 ∧ p.2.2.2.1 = 44) : mTk tp T p := ⟨a, fun y => absurd (e.symm.trans y) (by decide), fun y => absurd (e.symm.trans y) (by decide), fun y => absurd (e.symm.trans y) (by decide), fun y => absurd (e.symm.trans y) (by decide), fun _ => f, fun y => absurd (e.symm.trans y) (by decide)⟩
theorem mTk_5 {tp : Nat → Int32} {T : Tok} {p : PR} (e : T.2.2 = 5) (a : p.2.2.1 = nI T.1) (f : p.2.1 = 0) : mTk tp T p := ⟨a, fun y => absurd (e.symm.trans y) (by decide), fun y => absurd (e.symm.trans y) (by decide), fun y => absurd (e.symm.trans y) (by decide), fun y => absurd (e.symm.trans y) (by decide), fun y => absurd (e.symm.trans y) (by decide), fun _ => f⟩
theorem m_goes (B : ByOk tp) (ha : h 71 = aB 700 tp) (ez : Z.2.2.1.1.2.1 = nI n) (hn : n ≤ 700) {p : PR} (o : h 70 = mpO Z p tu) {b : Nat} (hb : b ≤ n) (pa : p.1 = nI b) (ps : p.2.1 ≠ 5) : ∃ p', tC mX11_goesOn [.ref 70] h = some (tm_up h 70 (mpO Z p' tu), none) ∧ mTk tp (tokS tp n b) p' ∧ p'.2.2.2.2.2.1 = p.2.2.2.2.2.1 ∧ p'.2.2.2.2.2.2.1 = p.2.2.2.2.2.2.1 := by
  obtain ⟨at', so, pl, mk, nu, fl, wa, wd⟩ := p
  obtain rfl : at' = nI b := pa
  have e0 := ml_skip B ha ez hn (q := (so, pl, mk, nu, fl, wa, wd)) (x1 := tm_U) (x2 := tm_U) (tu := tu) (n - b) b (by omega)
  rw [← o, tm_up_id] at e0
  have ps' : (so = 5) = False := eq_false ps
  have hs := skS_b tp (n - b) b
  have P := bytU (p := (nI (skS tp (n - b) b), 0, nI (skS tp (n - b) b), 0, nu, fl, wa, wd)) (tu := tu) (h := h) ha ez hn (k := skS tp (n - b) b) (by omega)
  have st : tC mX11_goesOn [.ref 70] h = tE mX11_goesOn 61 [.ref 70, tm_U, tm_U] [.int (bytS tp n (skS tp (n - b) b))] (tm_up h 70 (mpO Z (nI (skS tp (n - b) b), 0, nI (skS tp (n - b) b), 0, nu, fl, wa, wd) tu)) := by
    simp only [cX11_goesOn_, bX11_goesOn_0, bX11_goesOn_4, bX11_goesOn_35, bX11_goesOn_40, bX11_goesOn_43, bX11_goesOn_48, bX11_goesOn_53, bX11_goesOn_58, tk1_some, tk0_some, tkc_some, tkc_none, ↓reduceIte, o, gf_11_9, ps', not_false_eq_true, if_true, e0, tm_up_same, tm_up_up, gf_11_8, tm_pf_eq, ps_11_10, ps_11_9, ps_11_11, Option.map_some, tm_isO, P]
  rw [st]
  unfold tokS
  generalize skS tp (n - b) b = s at hs P
  by_cases c0 : n ≤ s
  · have e : bytS tp n s = -1 := by unfold bytS; exact if_neg (by omega)
    rw [e, if_pos c0]
    refine ⟨(nI s, 1, nI s, 0, nu, fl, wa, wd), ?_, mTk_0 rfl rfl (rfl), rfl, rfl⟩
    simp only [bX11_goesOn_61, bX11_goesOn_69, bX11_goesOn_74, bX11_goesOn_281, tk1_some, tk0_some, tkc_some, tkc_none, ↓reduceIte, not_true, if_false, tm_pf_eq, tm_up_same, ps_11_9, Option.map_some, tm_up_up]
  · have e : bytS tp n s = tp s &&& 255 := by unfold bytS; exact if_pos (by omega)
    obtain ⟨f1, f2, f3, f4, f5, f6, f7, f8⟩ := by8 B s
    rw [e, if_neg c0]
    have s77 : tE mX11_goesOn 61 [.ref 70, tm_U, tm_U] [.int (tp s &&& 255)] (tm_up h 70 (mpO Z (nI s, 0, nI s, 0, nu, fl, wa, wd) tu)) = tE mX11_goesOn 81 [.ref 70, .int (tp s &&& 255), .int 0] [.int (bI (inB (tp s) 97 122))] (tm_up h 70 (mpO Z (nI s, 0, nI s, 0, nu, fl, wa, wd) tu)) := by
      simp only [bX11_goesOn_61, bX11_goesOn_77, tk1_some, tk0_some, tkc_some, tkc_none, ↓reduceIte, f6, not_false_eq_true, if_true, let_spec, f2]
    rw [s77]
    unfold tokW
    cases ib : inB (tp s) 97 122 with
    | true =>
      obtain ⟨n1, n2⟩ := inB_rn.mp ib
      rw [if_neg n1, if_neg n2]
      obtain ⟨wd', e1, e2⟩ := ml_word B ha ez hn (so := 0) (pl := nI s) (mk := 0) (nu := nu) (fl := fl) (wa := wa) (x1 := .int (tp s &&& 255)) (tu := tu) (n - s) s 0 0 (by omega) (by omega)
      have rb := rnS_b tp 97 122 (n - s) s
      have rs := rnS_s (tp := tp) (lo := 97) (hi := 122) (r := n - s) (p := s) (by omega) n1 n2
      rw [nI_0, Nat.zero_add] at e1
      rw [Nat.zero_add] at e2
      generalize rnS tp 97 122 (n - s) s = m at e1 e2 rb rs
      have go : tE mX11_goesOn 81 [.ref 70, .int (tp s &&& 255), .int 0] [.int (bI true)] (tm_up h 70 (mpO Z (nI s, 0, nI s, 0, nu, fl, wa, wd) tu)) = tE mX11_goesOn 152 [.ref 70, .int (tp s &&& 255), .int (nI (m - s))] [] (tm_up h 70 (mpO Z (nI m, 0, nI s, 0, nu, fl, wa, wd') tu)) := by
        simp only [bX11_goesOn_81, bX11_goesOn_84, tk1_some, tk0_some, tkc_some, tkc_none, ↓reduceIte, bI_t, show ((1 : Int32) = 0) = False from by decide, if_false, tm_pf_eq, tm_up_same, ps_11_15, Option.map_some, tm_up_up, e1]
      rw [go]
      by_cases l : 8 < m - s
      · have l' : (8 : Int32) < nI (m - s) := nI_lt (a := 8) l (by omega)
        rw [if_pos l]
        refine ⟨(nI m, 0, nI s, 0, nu, fl, wa, wd'), ?_, mTk_5 rfl rfl (rfl), rfl, rfl⟩
        simp only [bX11_goesOn_152, bX11_goesOn_281, l', if_true]
      · have l' : ¬ (8 : Int32) < nI (m - s) := nI_nlt (b := m - s) (a := 8) (by omega) (by decide)
        rw [if_neg l]
        refine ⟨(nI m, 2, nI s, 0, nu, fl, wa, wd'), ?_, mTk_1 rfl rfl (⟨rfl, rfl, e2 (by omega)⟩), rfl, rfl⟩
        simp only [bX11_goesOn_152, bX11_goesOn_158, bX11_goesOn_163, bX11_goesOn_281, tk1_some, tk0_some, tkc_some, tkc_none, ↓reduceIte, l', if_false, tm_pf_eq, tm_up_same, ps_11_9, Option.map_some, tm_up_up]
    | false =>
      have nl : tp s < 97 ∨ 122 < tp s := by
        by_cases a : tp s < 97
        · exact Or.inl a
        · refine Or.inr (Classical.byContradiction fun y => ?_)
          rw [inB_rn.mpr ⟨a, y⟩] at ib; cases ib
      have tx : (if tp s < 97 then tokX tp n s else if 122 < tp s then tokX tp n s else (s, rnS tp 97 122 (n - s) s, if 8 < rnS tp 97 122 (n - s) s - s then 5 else 1)) = tokX tp n s := by
        rcases nl with a | a
        · rw [if_pos a]
        · by_cases c : tp s < 97
          · rw [if_pos c]
          · rw [if_neg c, if_pos a]
      rw [tx]
      have s170 : tE mX11_goesOn 81 [.ref 70, .int (tp s &&& 255), .int 0] [.int (bI false)] (tm_up h 70 (mpO Z (nI s, 0, nI s, 0, nu, fl, wa, wd) tu)) = tE mX11_goesOn 170 [.ref 70, .int (tp s &&& 255), .int 0] [.int (bI (inB (tp s) 48 57))] (tm_up h 70 (mpO Z (nI s, 0, nI s, 0, nu, fl, wa, wd) tu)) := by
        simp only [bX11_goesOn_81, bX11_goesOn_166, tk1_some, tk0_some, tkc_some, tkc_none, ↓reduceIte, bI_f, if_true, dig_spec, f3]
      rw [s170]
      unfold tokX
      cases id : inB (tp s) 48 57 with
      | true =>
        obtain ⟨n1, n2⟩ := inB_rn.mp id
        rw [if_neg n1, if_neg n2]
        obtain ⟨nu', e1, e2⟩ := ml_num B ha ez hn (so := 0) (pl := nI s) (mk := 0) (fl := fl) (wa := wa) (wd := wd) (x1 := .int (tp s &&& 255)) (tu := tu) (n - s) s 0 0 (by omega) (by omega)
        have rb := rnS_b tp 48 57 (n - s) s
        rw [nI_0, Nat.zero_add] at e1
        rw [Nat.zero_add] at e2
        generalize rnS tp 48 57 (n - s) s = m at e1 e2 rb
        have go : tE mX11_goesOn 170 [.ref 70, .int (tp s &&& 255), .int 0] [.int (bI true)] (tm_up h 70 (mpO Z (nI s, 0, nI s, 0, nu, fl, wa, wd) tu)) = tE mX11_goesOn 236 [.ref 70, .int (tp s &&& 255), .int (nI (m - s))] [] (tm_up h 70 (mpO Z (nI m, 0, nI s, 0, nu', fl, wa, wd) tu)) := by
          simp only [bX11_goesOn_170, bX11_goesOn_173, tk1_some, tk0_some, tkc_some, tkc_none, ↓reduceIte, bI_t, show ((1 : Int32) = 0) = False from by decide, if_false, tm_pf_eq, tm_up_same, ps_11_12, Option.map_some, tm_up_up, e1]
        rw [go]
        by_cases l : 3 < m - s
        · have l' : (3 : Int32) < nI (m - s) := nI_lt (a := 3) l (by omega)
          rw [if_pos l]
          refine ⟨(nI m, 0, nI s, 0, nu', fl, wa, wd), ?_, mTk_5 rfl rfl (rfl), rfl, rfl⟩
          simp only [bX11_goesOn_236, bX11_goesOn_281, l', if_true]
        · have l' : ¬ (3 : Int32) < nI (m - s) := nI_nlt (b := m - s) (a := 3) (by omega) (by decide)
          rw [if_neg l]
          refine ⟨(nI m, 3, nI s, 0, nu', fl, wa, wd), ?_, mTk_2 rfl rfl (⟨rfl, rfl, e2 (by omega)⟩), rfl, rfl⟩
          simp only [bX11_goesOn_236, bX11_goesOn_241, bX11_goesOn_246, bX11_goesOn_281, tk1_some, tk0_some, tkc_some, tkc_none, ↓reduceIte, l', if_false, tm_pf_eq, tm_up_same, ps_11_9, Option.map_some, tm_up_up]
      | false =>
        have nl2 : tp s < 48 ∨ 57 < tp s := by
          by_cases a : tp s < 48
          · exact Or.inl a
          · refine Or.inr (Classical.byContradiction fun y => ?_)
            rw [inB_rn.mpr ⟨a, y⟩] at id; cases id
        have ty : (if tp s < 48 then (s, s + 1, sgS (tp s)) else if 57 < tp s then (s, s + 1, sgS (tp s)) else (s, rnS tp 48 57 (n - s) s, if 3 < rnS tp 48 57 (n - s) s - s then 5 else 2)) = (s, s + 1, sgS (tp s)) := by
          rcases nl2 with a | a
          · rw [if_pos a]
          · by_cases c : tp s < 48
            · rw [if_pos c]
            · rw [if_neg c, if_pos a]
        rw [ty]
        unfold sgS
        by_cases s1 : tp s = 59
        · have s1' : (tp s &&& 255 = 59) = True := eq_true (f4.mpr s1)
          rw [if_pos s1]
          refine ⟨(nI (s + 1), 4, nI s, tp s &&& 255, nu, fl, wa, wd), ?_, mTk_3 rfl rfl (⟨rfl, rfl, f4.mpr s1⟩), rfl, rfl⟩
          simp only [bX11_goesOn_170, bX11_goesOn_249, bX11_goesOn_261, bX11_goesOn_266, bX11_goesOn_271, bX11_goesOn_276, bX11_goesOn_281, tk1_some, tk0_some, tkc_some, tkc_none, ↓reduceIte, bI_f, if_true, s1', tm_pf_eq, tm_up_same, ps_11_9, ps_11_11, ps_11_8, gf_11_8, Option.map_some, tm_up_up, nI_k1]
        · have s1' : ¬ tp s &&& 255 = 59 := fun y => s1 (f4.mp y)
          rw [if_neg s1]
          by_cases s2 : tp s = 44
          · have s2' : (tp s &&& 255 = 44) = True := eq_true (f5.mpr s2)
            rw [if_pos s2]
            refine ⟨(nI (s + 1), 4, nI s, tp s &&& 255, nu, fl, wa, wd), ?_, mTk_4 rfl rfl (⟨rfl, rfl, f5.mpr s2⟩), rfl, rfl⟩
            simp only [bX11_goesOn_170, bX11_goesOn_249, bX11_goesOn_255, bX11_goesOn_261, bX11_goesOn_266, bX11_goesOn_271, bX11_goesOn_276, bX11_goesOn_281, tk1_some, tk0_some, tkc_some, tkc_none, ↓reduceIte, bI_f, if_true, if_false, s1', s2', not_true, tm_pf_eq, tm_up_same, ps_11_9, ps_11_11, ps_11_8, gf_11_8, Option.map_some, tm_up_up, nI_k1]
          · have s2' : ¬ tp s &&& 255 = 44 := fun y => s2 (f5.mp y)
            rw [if_neg s2]
            refine ⟨(nI s, 0, nI s, 0, nu, fl, wa, wd), ?_, mTk_5 rfl rfl (rfl), rfl, rfl⟩
            simp only [bX11_goesOn_170, bX11_goesOn_249, bX11_goesOn_255, bX11_goesOn_281, tk1_some, tk0_some, tkc_some, tkc_none, ↓reduceIte, bI_f, if_true, if_false, s1', s2', not_false_eq_true]
theorem m_goesO {p : PR} (o : h 70 = mpO Z p tu) (ps : p.2.1 = 5) : tC mX11_goesOn [.ref 70] h = some (h, none) := by
  simp only [cX11_goesOn_, bX11_goesOn_0, bX11_goesOn_4, bX11_goesOn_8, tk1_some, tk0_some, tkc_some, tkc_none, ↓reduceIte, o, gf_11_9, ps, not_true, if_false]
end ML
