/-! NUMBERS OF WORDS: by 27 the class's, by 32 the reference's; both part words alike -/
def dgW (c : Int32) : Nat := (c - 96).toNatClampNeg
def LetI (c : Int32) : Prop := ¬ c < 97 ∧ ¬ 122 < c
theorem let_all : ∀ m, m < 26 → (((Int32.ofNat (m + 97)) - 97) + 1).toInt64 = Int64.ofNat (m + 1) ∧ dgW (Int32.ofNat (m + 97)) = m + 1 := by decide
theorem let_ex {c : Int32} (h : LetI c) : ∃ m, m < 26 ∧ c = Int32.ofNat (m + 97) := by
  obtain ⟨h1, h2⟩ := h
  have a : 97 ≤ c.toInt := by have := Int32.not_lt.mp h1; exact Int32.le_iff_toInt_le.mp this
  have b : c.toInt ≤ 122 := by have := Int32.not_lt.mp h2; exact Int32.le_iff_toInt_le.mp this
  refine ⟨(c.toInt - 97).toNat, by omega, ?_⟩
  apply Int32.toInt_inj.mp
  rw [Int32.toInt_ofNat_of_lt (by omega)]
  omega
theorem let_d {c : Int32} (h : LetI c) : ((c - 97) + 1).toInt64 = Int64.ofNat (dgW c) ∧ 1 ≤ dgW c ∧ dgW c ≤ 26 ∧ c = Int32.ofNat (dgW c + 96) := by
  obtain ⟨m, hm, rfl⟩ := let_ex h
  obtain ⟨e1, e2⟩ := let_all m hm
  rw [e2]
  exact ⟨e1, by omega, by omega, rfl⟩
def rvW (B : Nat) : List Nat → Nat
  | [] => 0
  | d :: l => d + B * rvW B l
def drW (tp : Nat → Int32) : Nat → Nat → List Nat → List Nat
  | 0, _, acc => acc
  | r + 1, p, acc => drW tp r (p + 1) (dgW (tp p) :: acc)
def LetR (tp : Nat → Int32) (r p : Nat) : Prop := ∀ i, i < r → LetI (tp (p + i))
theorem LetR_s {tp : Nat → Int32} {r p : Nat} (h : LetR tp (r + 1) p) : LetI (tp p) ∧ LetR tp r (p + 1) :=
  ⟨h 0 (by omega), fun i hi => by have := h (i + 1) (by omega); rw [show p + (i + 1) = p + 1 + i by omega] at this; exact this⟩
theorem w32_rv (tp : Nat → Int32) : ∀ r p acc, LetR tp r p → w32G tp r p (Int64.ofNat (rvW 32 acc)) = Int64.ofNat (rvW 32 (drW tp r p acc))
  | 0, _, _, _ => rfl
  | r + 1, p, acc, h => by
    obtain ⟨a, b⟩ := LetR_s h
    have e : 32 * Int64.ofNat (rvW 32 acc) + ((tp p - 97) + 1).toInt64 = Int64.ofNat (rvW 32 (dgW (tp p) :: acc)) := by
      show _ = Int64.ofNat (dgW (tp p) + 32 * rvW 32 acc)
      rw [(let_d a).1, Int64.ofNat_add, Int64.ofNat_mul, Int64.add_comm]; rfl
    unfold w32G drW
    rw [e]; exact w32_rv tp r (p + 1) _ b
theorem wn_rv (tp : Nat → Int32) : ∀ r p acc, LetR tp r p → wnG tp r p (Int64.ofNat (rvW 27 acc)) = Int64.ofNat (rvW 27 (drW tp r p acc))
  | 0, _, _, _ => rfl
  | r + 1, p, acc, h => by
    obtain ⟨a, b⟩ := LetR_s h
    have e : Int64.ofNat (rvW 27 acc) * 27 + ((tp p - 97) + 1).toInt64 = Int64.ofNat (rvW 27 (dgW (tp p) :: acc)) := by
      show _ = Int64.ofNat (dgW (tp p) + 27 * rvW 27 acc)
      rw [(let_d a).1, Int64.ofNat_add, Int64.ofNat_mul, Int64.add_comm, Int64.mul_comm]; rfl
    unfold wnG drW
    rw [e]; exact wn_rv tp r (p + 1) _ b
def DgL (l : List Nat) : Prop := ∀ d, d ∈ l → 1 ≤ d ∧ d ≤ 26
theorem DgL_c {d : Nat} {l : List Nat} (h : DgL (d :: l)) : (1 ≤ d ∧ d ≤ 26) ∧ DgL l := ⟨h d (List.Mem.head _), fun x hx => h x (List.Mem.tail _ hx)⟩
theorem DgL_dr (tp : Nat → Int32) : ∀ r p acc, LetR tp r p → DgL acc → DgL (drW tp r p acc)
  | 0, _, _, _, h => h
  | r + 1, p, acc, h, g => by
    obtain ⟨a, b⟩ := LetR_s h
    refine DgL_dr tp r (p + 1) _ b fun d hd => ?_
    cases hd with
    | head => exact ⟨(let_d a).2.1, (let_d a).2.2.1⟩
    | tail _ q => exact g d q
theorem dr_len (tp : Nat → Int32) : ∀ r p acc, (drW tp r p acc).length = r + acc.length
  | 0, _, _ => by unfold drW; omega
  | r + 1, p, acc => by unfold drW; rw [dr_len tp r]; rw [List.length_cons]; omega
theorem rv_inj {B : Nat} (hB : 26 < B) : ∀ l1 l2, DgL l1 → DgL l2 → rvW B l1 = rvW B l2 → l1 = l2
  | [], [], _, _, _ => rfl
  | [], d :: l, _, h, e => by
    have := (DgL_c h).1
    have e' : 0 = d + B * rvW B l := e
    omega
  | d :: l, [], h, _, e => by
    have := (DgL_c h).1
    have e' : d + B * rvW B l = 0 := e
    omega
  | d :: l, d2 :: l2, h, h2, e => by
    obtain ⟨a, b⟩ := DgL_c h
    obtain ⟨a2, b2⟩ := DgL_c h2
    have e' : d + B * rvW B l = d2 + B * rvW B l2 := e
    have m := congrArg (· % B) e'
    simp only [Nat.add_mul_mod_self_left] at m
    rw [Nat.mod_eq_of_lt (by omega), Nat.mod_eq_of_lt (by omega)] at m
    subst m
    have e2 : B * rvW B l = B * rvW B l2 := by omega
    rw [rv_inj hB l l2 b b2 (Nat.eq_of_mul_eq_mul_left (by omega) e2)]
theorem rv_lt {B : Nat} (hB : 26 < B) : ∀ l, DgL l → rvW B l < B ^ l.length
  | [], _ => by show 0 < B ^ 0; rw [Nat.pow_zero]; omega
  | d :: l, h => by
    obtain ⟨a, b⟩ := DgL_c h
    have i := rv_lt hB l b
    show d + B * rvW B l < B ^ (l.length + 1)
    rw [Nat.pow_succ, Nat.mul_comm (B ^ l.length) B]
    have : B * (rvW B l + 1) ≤ B * B ^ l.length := Nat.mul_le_mul_left B i
    rw [Nat.mul_add, Nat.mul_one] at this
    omega
theorem rv_b {B : Nat} (hB : 26 < B) (hB2 : B ≤ 32) {l : List Nat} (h : DgL l) (hl : l.length ≤ 8) : rvW B l < 2 ^ 63 := by
  have a := rv_lt hB l h
  have b : B ^ l.length ≤ B ^ 8 := Nat.pow_le_pow_right (by omega) hl
  have c : B ^ 8 ≤ 32 ^ 8 := Nat.pow_le_pow_left hB2 8
  have d : 32 ^ 8 < 2 ^ 63 := by decide
  omega
theorem i64_inj {a b : Nat} (ha : a < 2 ^ 63) (hb : b < 2 ^ 63) (e : Int64.ofNat a = Int64.ofNat b) : a = b := by
  have := congrArg Int64.toInt e
  rw [Int64.toInt_ofNat_of_lt ha, Int64.toInt_ofNat_of_lt hb] at this
  omega
theorem rv_eq {B : Nat} (hB : 26 < B) (hB2 : B ≤ 32) {l1 l2 : List Nat} (h1 : DgL l1) (h2 : DgL l2) (n1 : l1.length ≤ 8) (n2 : l2.length ≤ 8) : Int64.ofNat (rvW B l1) = Int64.ofNat (rvW B l2) ↔ l1 = l2 :=
  ⟨fun e => rv_inj hB l1 l2 h1 h2 (i64_inj (rv_b hB hB2 h1 n1) (rv_b hB hB2 h2 n2) e), fun e => by rw [e]⟩
theorem lgc_0 {x y : Int64} : (lg_cmp x y = 0) = (x = y) := by
  unfold lg_cmp
  by_cases a : x > y
  · rw [if_pos a]
    exact propext ⟨fun z => absurd z (by decide), fun z => by subst z; exact absurd a (Int64.lt_irrefl)⟩
  · rw [if_neg a]
    by_cases b : x = y
    · rw [if_pos b]; exact propext ⟨fun _ => b, fun _ => rfl⟩
    · rw [if_neg b]; exact propext ⟨fun z => absurd z (by decide), fun z => absurd z b⟩
theorem dr_eq {tp tx : Nat → Int32} : ∀ r p q acc acc', acc.length = acc'.length → (drW tp r p acc = drW tx r q acc' ↔ acc = acc' ∧ ∀ i, i < r → dgW (tp (p + i)) = dgW (tx (q + i)))
  | 0, p, q, acc, acc', _ => ⟨fun h => ⟨h, fun i hi => absurd hi (by omega)⟩, fun h => h.1⟩
  | r + 1, p, q, acc, acc', hl => by
    unfold drW
    rw [dr_eq r (p + 1) (q + 1) _ _ (by rw [List.length_cons, List.length_cons, hl])]
    refine ⟨fun h => ?_, fun h => ?_⟩
    · obtain ⟨a, b⟩ := List.cons.inj h.1
      refine ⟨b, fun i hi => ?_⟩
      match i with
      | 0 => exact a
      | i + 1 => have := h.2 i (by omega); rw [show p + (i + 1) = p + 1 + i by omega, show q + (i + 1) = q + 1 + i by omega]; exact this
    · refine ⟨by rw [h.1, show dgW (tp p) = dgW (tx q) from h.2 0 (by omega)], fun i hi => ?_⟩
      have := h.2 (i + 1) (by omega)
      rw [show p + (i + 1) = p + 1 + i by omega, show q + (i + 1) = q + 1 + i by omega] at this; exact this
theorem eqF_iff {tp : Nat → Int32} {tx : List Int32} {s : Nat} : ∀ r j, (eqF tp tx s r j = true ↔ ∀ i, i < r → tp (s + (j + i)) = tx.getD (j + i) 0)
  | 0, j => ⟨fun _ i hi => absurd hi (by omega), fun _ => rfl⟩
  | r + 1, j => by
    unfold eqF
    by_cases c : tp (s + j) = tx.getD j 0
    · rw [if_pos c, eqF_iff r (j + 1)]
      refine ⟨fun h i hi => ?_, fun h i hi => ?_⟩
      · match i with
        | 0 => exact c
        | i + 1 => have := h i (by omega); rw [show j + (i + 1) = j + 1 + i by omega]; exact this
      · have := h (i + 1) (by omega)
        rw [show j + (i + 1) = j + 1 + i by omega] at this; exact this
    · rw [if_neg c]
      exact ⟨fun z => (by cases z), fun h => absurd (h 0 (by omega)) c⟩
/-- the words of the text are made of letters -/
theorem tok_let {tp : Nat → Int32} {n p : Nat} (hp : p ≤ n) (e : (tokS tp n p).2.2 = 1) : LetR tp ((tokS tp n p).2.1 - (tokS tp n p).1) (tokS tp n p).1 ∧ (tokS tp n p).2.1 - (tokS tp n p).1 ≤ 8 := by
  unfold tokS at e ⊢
  by_cases c : n ≤ skS tp (n - p) p
  · rw [if_pos c] at e; exact absurd (show (0 : Int32) = 1 from e) (by decide)
  · rw [if_neg c] at e ⊢
    unfold tokW at e ⊢
    by_cases a : tp (skS tp (n - p) p) < 97
    · rw [if_pos a] at e; exact absurd e tokX_so.2
    · rw [if_neg a] at e ⊢
      by_cases b : 122 < tp (skS tp (n - p) p)
      · rw [if_pos b] at e; exact absurd e tokX_so.2
      · rw [if_neg b] at e ⊢
        by_cases d : 8 < rnS tp 97 122 (n - skS tp (n - p) p) (skS tp (n - p) p) - skS tp (n - p) p
        · rw [if_pos d] at e; exact absurd (show (5 : Int32) = 1 from e) (by decide)
        · rw [if_neg d]
          exact ⟨fun i hi => rnS_in (n - skS tp (n - p) p) (skS tp (n - p) p) (skS tp (n - p) p + i) (Nat.le_add_right _ _) (by have : i < rnS tp 97 122 (n - skS tp (n - p) p) (skS tp (n - p) p) - skS tp (n - p) p := hi; omega), Nat.not_lt.mp d⟩
abbrev txF (k : Nat) : Nat → Int32 := fun i => (tm_text k).getD i 0
theorem tx_let : ∀ k, k < 42 → ∀ i, i < (tm_text k).length → ¬ txF k i < 97 ∧ ¬ 122 < txF k i := by decide
theorem tx_two : ∀ k, k < 21 → tm_text (k + 21) = tm_text k := by decide
def wdG (k : Nat) : Int64 := w32G (txF k) (tm_text k).length 0 0
theorem wof_loop {h : tm_H} {k : Nat} (hk : k < 42) : ∀ r j v, j + r = (tm_text k).length → tE mX11_wordOf 4 [.retAddr k, .long v, tm_U, .int (nI j)] [] h = some (h, some (.long (w32G (txF k) r j v))) := by
  have hl := tx_len k hk
  intro r
  induction r with
  | zero =>
    intro j v hj
    obtain rfl : j = (tm_text k).length := by omega
    rw [bX11_wordOf_4 hk, if_pos (show Int32.ofNat (tm_text k).length ≤ nI (tm_text k).length from Int32.le_refl _), bX11_wordOf_36]; rfl
  | succ r ih =>
    intro j v hj
    have e1 : ¬ nI (tm_text k).length ≤ nI j := nI_ge (by omega) (by omega)
    have g0 : ¬ nI j < 0 := nI_pos (by omega)
    have c : (nI j).toNatClampNeg < (tm_text k).length := by rw [nI_clamp (by omega)]; omega
    rw [bX11_wordOf_4 hk, if_neg (show ¬ Int32.ofNat (tm_text k).length ≤ nI j from e1), bX11_wordOf_12 hk g0 c, nI_clamp (show j < 2 ^ 31 by omega), nI_k1, ih (j + 1) _ (by omega)]; rfl
theorem wof_spec {h : tm_H} {k : Nat} (hk : k < 42) : tC mX11_wordOf [.retAddr k] h = some (h, some (.long (wdG k))) := by
  have e := wof_loop (h := h) hk (tm_text k).length 0 0 (by omega)
  rw [nI_0] at e
  rw [cX11_wordOf_, bX11_wordOf_0 rfl, e]; rfl
theorem isWd_iff {tp : Nat → Int32} {T : Tok} {k : Nat} (hk : k < 42) (e : T.2.2 = 1) (L : LetR tp (T.2.1 - T.1) T.1) (hl : T.2.1 - T.1 ≤ 8) : isWd tp T k = decide (w32G tp (T.2.1 - T.1) T.1 0 = wdG k) := by
  have tl := tx_len k hk
  have TL : LetR (txF k) (tm_text k).length 0 := fun i hi => by rw [Nat.zero_add]; exact tx_let k hk i hi
  have a1 : w32G tp (T.2.1 - T.1) T.1 0 = Int64.ofNat (rvW 32 (drW tp (T.2.1 - T.1) T.1 [])) := w32_rv tp (T.2.1 - T.1) T.1 [] L
  have a2 : wdG k = Int64.ofNat (rvW 32 (drW (txF k) (tm_text k).length 0 [])) := w32_rv (txF k) (tm_text k).length 0 [] TL
  have D0 : DgL [] := fun d hd => by cases hd
  have q := rv_eq (B := 32) (by decide) (by decide) (DgL_dr tp _ _ _ L D0) (DgL_dr (txF k) _ _ _ TL D0) (by rw [dr_len]; exact hl) (by rw [dr_len]; show (tm_text k).length + 0 ≤ 8; omega)
  rw [a1, a2]
  unfold isWd
  rw [if_pos e]
  by_cases c : T.2.1 - T.1 = (tm_text k).length
  · rw [if_pos c]
    have E : (eqF tp (tm_text k) T.1 (tm_text k).length 0 = true ↔ Int64.ofNat (rvW 32 (drW tp (T.2.1 - T.1) T.1 [])) = Int64.ofNat (rvW 32 (drW (txF k) (tm_text k).length 0 []))) := by
      rw [q, c, dr_eq _ _ _ _ _ rfl, eqF_iff]
      refine ⟨fun h => ⟨rfl, fun i hi => ?_⟩, fun h i hi => ?_⟩
      · have := h i hi
        rw [Nat.zero_add] at this ⊢
        rw [this]
      · have := h.2 i hi
        rw [Nat.zero_add] at this ⊢
        have x := (let_d (L i (by omega))).2.2.2
        have y := (let_d (tx_let k hk i hi)).2.2.2
        rw [x, this]; exact y.symm
    cases g : eqF tp (tm_text k) T.1 (tm_text k).length 0 with
    | true => exact (decide_eq_true (E.mp g)).symm
    | false => exact (decide_eq_false (fun z => by have := E.mpr z; rw [g] at this; cases this)).symm
  · rw [if_neg c]
    refine (decide_eq_false fun z => c ?_).symm
    have := congrArg List.length (q.mp z)
    rw [dr_len, dr_len] at this
    exact this
