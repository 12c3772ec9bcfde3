/-! TOKENS: how a text is parted; the class's -/
def skS (tp : Nat → Int32) : Nat → Nat → Nat
  | 0, p => p
  | r + 1, p => if tp p = 32 then skS tp r (p + 1) else p
def rnS (tp : Nat → Int32) (lo hi : Int32) : Nat → Nat → Nat
  | 0, p => p
  | r + 1, p => if tp p < lo then p else if hi < tp p then p else rnS tp lo hi r (p + 1)
def sgS (c : Int32) : Int32 := if c = 59 then 3 else if c = 44 then 4 else 5
abbrev Tok : Type := Nat × Nat × Int32
def tokX (tp : Nat → Int32) (n s : Nat) : Tok :=
  if tp s < 48 then (s, s + 1, sgS (tp s)) else if 57 < tp s then (s, s + 1, sgS (tp s)) else (s, rnS tp 48 57 (n - s) s, if 3 < rnS tp 48 57 (n - s) s - s then 5 else 2)
def tokW (tp : Nat → Int32) (n s : Nat) : Tok :=
  if tp s < 97 then tokX tp n s else if 122 < tp s then tokX tp n s else (s, rnS tp 97 122 (n - s) s, if 8 < rnS tp 97 122 (n - s) s - s then 5 else 1)
def tokS (tp : Nat → Int32) (n p : Nat) : Tok :=
  if n ≤ skS tp (n - p) p then (skS tp (n - p) p, skS tp (n - p) p, 0) else tokW tp n (skS tp (n - p) p)
theorem skS_b (tp : Nat → Int32) : ∀ r p, p ≤ skS tp r p ∧ skS tp r p ≤ p + r
  | 0, p => ⟨Nat.le_refl _, Nat.le_refl _⟩
  | r + 1, p => by
    have := skS_b tp r (p + 1)
    unfold skS; split <;> omega
theorem rnS_b (tp : Nat → Int32) (lo hi : Int32) : ∀ r p, p ≤ rnS tp lo hi r p ∧ rnS tp lo hi r p ≤ p + r
  | 0, p => ⟨Nat.le_refl _, Nat.le_refl _⟩
  | r + 1, p => by
    have := rnS_b tp lo hi r (p + 1)
    unfold rnS; split
    · omega
    · split <;> omega
theorem rnS_s {tp : Nat → Int32} {lo hi : Int32} {r p : Nat} (hr : 0 < r) (h1 : ¬ tp p < lo) (h2 : ¬ hi < tp p) : p < rnS tp lo hi r p := by
  obtain ⟨r', rfl⟩ : ∃ r', r = r' + 1 := ⟨r - 1, by omega⟩
  have := rnS_b tp lo hi r' (p + 1)
  unfold rnS; rw [if_neg h1, if_neg h2]; omega
theorem rnS_in {tp : Nat → Int32} {lo hi : Int32} : ∀ r p k, p ≤ k → k < rnS tp lo hi r p → ¬ tp k < lo ∧ ¬ hi < tp k
  | 0, p, k, h1, h2 => by unfold rnS at h2; omega
  | r + 1, p, k, h1, h2 => by
    unfold rnS at h2
    split at h2
    · omega
    · rename_i a
      split at h2
      · omega
      · rename_i b
        by_cases e : k = p
        · subst e; exact ⟨a, b⟩
        · exact rnS_in r (p + 1) k (by omega) h2
theorem tokX_b {tp : Nat → Int32} {n s : Nat} (h : s < n) : (tokX tp n s).1 = s ∧ s < (tokX tp n s).2.1 ∧ (tokX tp n s).2.1 ≤ n := by
  unfold tokX
  split
  · exact ⟨rfl, Nat.lt_succ_self _, h⟩
  · split
    · exact ⟨rfl, Nat.lt_succ_self _, h⟩
    · rename_i a b
      have := rnS_b tp 48 57 (n - s) s
      exact ⟨rfl, rnS_s (by omega) a b, by show rnS tp 48 57 (n - s) s ≤ n; omega⟩
theorem tokW_b {tp : Nat → Int32} {n s : Nat} (h : s < n) : (tokW tp n s).1 = s ∧ s < (tokW tp n s).2.1 ∧ (tokW tp n s).2.1 ≤ n := by
  unfold tokW
  split
  · exact tokX_b h
  · split
    · exact tokX_b h
    · rename_i a b
      have := rnS_b tp 97 122 (n - s) s
      exact ⟨rfl, rnS_s (by omega) a b, by show rnS tp 97 122 (n - s) s ≤ n; omega⟩
theorem tokX_so {tp : Nat → Int32} {n s : Nat} : (tokX tp n s).2.2 ≠ 0 ∧ (tokX tp n s).2.2 ≠ 1 := by
  unfold tokX sgS
  split
  · dsimp only; split
    · decide
    · split <;> decide
  · split
    · dsimp only; split
      · decide
      · split <;> decide
    · dsimp only; split <;> decide
theorem tokW_so {tp : Nat → Int32} {n s : Nat} : (tokW tp n s).2.2 ≠ 0 := by
  unfold tokW
  split
  · exact tokX_so.1
  · split
    · exact tokX_so.1
    · dsimp only; split <;> decide
theorem tokS_b {tp : Nat → Int32} {n p : Nat} (h : p ≤ n) : p ≤ (tokS tp n p).1 ∧ (tokS tp n p).1 ≤ (tokS tp n p).2.1 ∧ (tokS tp n p).2.1 ≤ n ∧ ((tokS tp n p).2.2 ≠ 0 → (tokS tp n p).1 < (tokS tp n p).2.1) ∧ ((tokS tp n p).2.2 = 0 → (tokS tp n p).1 = n) := by
  have b := skS_b tp (n - p) p
  unfold tokS
  split
  · refine ⟨b.1, Nat.le_refl _, by show skS tp (n - p) p ≤ n; omega, fun z => absurd rfl z, fun _ => by show skS tp (n - p) p = n; omega⟩
  · have w := tokW_b (tp := tp) (n := n) (s := skS tp (n - p) p) (by omega)
    exact ⟨by omega, by omega, w.2.2, fun _ => by omega, fun z => absurd z tokW_so⟩
abbrev tkO (a n s b : Nat) (so : Int32) : va_E := .inr (7, [.ref a, .int (nI n), .int (nI s), .int (nI b), .int so])
section TK
variable {h : tm_H} {o a n s b : Nat} {so : Int32} {tp : Nat → Int32}
theorem run_loop (ha : h a = aB 700 tp) (hoa : o ≠ a) (hn : n ≤ 700) {lo hi : Int32} : ∀ r p, p + r = n → tE mX7_takeRun 0 [.ref o, .int lo, .int hi] [] (tm_up h o (tkO a n s p so)) = some (tm_up h o (tkO a n s (rnS tp lo hi r p) so), none) := by
  have t0 : 700 < 2 ^ 31 := by decide
  have ha' : ∀ e, tm_up h o e a = aB 700 tp := fun e => by rw [tm_up_ne (Ne.symm hoa)]; exact ha
  intro r
  induction r with
  | zero =>
    intro p hp
    obtain rfl : p = n := by omega
    simp only [bX7_takeRun_4, bX7_takeRun_8, bX7_takeRun_11, bX7_takeRun_15, bX7_takeRun_19, bX7_takeRun_20, bX7_takeRun_24, bX7_takeRun_28, bX7_takeRun_32, bX7_takeRun_33, bX7_takeRun_37, bX7_takeRun_42, bX7_takeRun_47, bX7_takeRun_50, bX7_takeRun_0, tk1_some, tk0_some, tkc_some, tkc_none, ↓reduceIte, tm_up_same, gf_7_3, gf_7_1, Int32.le_refl, if_true, rnS]
  | succ r ih =>
    intro p hp
    have e1 : ¬ nI n ≤ nI p := nI_ge (by omega) (by omega)
    rw [bX7_takeRun_0]
    unfold rnS
    by_cases c1 : tp p < lo
    · simp only [bX7_takeRun_4, bX7_takeRun_8, bX7_takeRun_11, bX7_takeRun_15, bX7_takeRun_19, bX7_takeRun_20, bX7_takeRun_24, bX7_takeRun_28, bX7_takeRun_32, bX7_takeRun_33, bX7_takeRun_37, bX7_takeRun_42, bX7_takeRun_47, bX7_takeRun_50, tk1_some, tk0_some, tkc_some, tkc_none, ↓reduceIte, tm_up_same, gf_7_3, gf_7_1, gf_7_0, e1, if_false, ha', tm_ai_in rfl (show p < 700 by omega) t0, c1, if_true]
    · by_cases c2 : hi < tp p
      · simp only [bX7_takeRun_4, bX7_takeRun_8, bX7_takeRun_11, bX7_takeRun_15, bX7_takeRun_19, bX7_takeRun_20, bX7_takeRun_24, bX7_takeRun_28, bX7_takeRun_32, bX7_takeRun_33, bX7_takeRun_37, bX7_takeRun_42, bX7_takeRun_47, bX7_takeRun_50, tk1_some, tk0_some, tkc_some, tkc_none, ↓reduceIte, tm_up_same, gf_7_3, gf_7_1, gf_7_0, e1, if_false, ha', tm_ai_in rfl (show p < 700 by omega) t0, c1, c2, if_true]
      · have e := ih (p + 1) (by omega)
        simp only [bX7_takeRun_4, bX7_takeRun_8, bX7_takeRun_11, bX7_takeRun_15, bX7_takeRun_19, bX7_takeRun_20, bX7_takeRun_24, bX7_takeRun_28, bX7_takeRun_32, bX7_takeRun_33, bX7_takeRun_37, bX7_takeRun_42, bX7_takeRun_47, bX7_takeRun_50, tk1_some, tk0_some, tkc_some, tkc_none, ↓reduceIte, tm_up_same, gf_7_3, gf_7_1, gf_7_0, e1, if_false, ha', tm_ai_in rfl (show p < 700 by omega) t0, c1, c2, tm_pf_eq, ps_7_3, Option.map_some, tm_up_up, nI_k1, e]
theorem run_spec (ho : h o = tkO a n s b so) (ha : h a = aB 700 tp) (hoa : o ≠ a) (hn : n ≤ 700) (hb : b ≤ n) {lo hi : Int32} : tC mX7_takeRun [.ref o, .int lo, .int hi] h = some (tm_up h o (tkO a n s (rnS tp lo hi (n - b) b) so), none) := by
  have e := run_loop (s := s) (so := so) ha hoa hn (lo := lo) (hi := hi) (n - b) b (by omega)
  rw [← ho, tm_up_id] at e
  rw [cX7_takeRun_, e]
theorem skip_loop (ha : h a = aB 700 tp) (hoa : o ≠ a) (hn : n ≤ 700) {x : Value} : ∀ r p, p + r = n → tE mX7_step 8 [.ref o, x] [] (tm_up h o (tkO a n p b so)) = tE mX7_step 46 [.ref o, x] [] (tm_up h o (tkO a n (skS tp r p) b so)) := by
  have t0 : 700 < 2 ^ 31 := by decide
  have ha' : ∀ e, tm_up h o e a = aB 700 tp := fun e => by rw [tm_up_ne (Ne.symm hoa)]; exact ha
  intro r
  induction r with
  | zero =>
    intro p hp
    obtain rfl : p = n := by omega
    simp only [bX7_step_8, bX7_step_12, bX7_step_16, tk1_some, tk0_some, tkc_some, tkc_none, ↓reduceIte, tm_up_same, gf_7_2, gf_7_1, Int32.le_refl, if_true, skS]
  | succ r ih =>
    intro p hp
    have e1 : ¬ nI n ≤ nI p := nI_ge (by omega) (by omega)
    rw [bX7_step_8]
    unfold skS
    by_cases c1 : tp p = 32
    · have e := ih (p + 1) (by omega)
      simp only [bX7_step_12, bX7_step_16, bX7_step_19, bX7_step_23, bX7_step_27, bX7_step_28, bX7_step_33, bX7_step_38, bX7_step_43, tk1_some, tk0_some, tkc_some, tkc_none, ↓reduceIte, tm_up_same, gf_7_2, gf_7_1, gf_7_0, e1, if_false, ha', tm_ai_in rfl (show p < 700 by omega) t0, c1, not_true, tm_pf_eq, ps_7_2, Option.map_some, tm_up_up, nI_k1, e, if_true]
    · simp only [bX7_step_12, bX7_step_16, bX7_step_19, bX7_step_23, bX7_step_27, bX7_step_28, tk1_some, tk0_some, tkc_some, tkc_none, ↓reduceIte, tm_up_same, gf_7_2, gf_7_1, gf_7_0, e1, if_false, ha', tm_ai_in rfl (show p < 700 by omega) t0, c1, not_false_eq_true, if_true]
theorem step_spec (ho : h o = tkO a n s b so) (ha : h a = aB 700 tp) (hoa : o ≠ a) (hn : n ≤ 700) (hb : b ≤ n) : tC mX7_step [.ref o] h = some (tm_up h o (tkO a n (tokS tp n b).1 (tokS tp n b).2.1 (tokS tp n b).2.2), none) := by
  have t0 : 700 < 2 ^ 31 := by decide
  have ha' : ∀ e, tm_up h o e a = aB 700 tp := fun e => by rw [tm_up_ne (Ne.symm hoa)]; exact ha
  have e := skip_loop (b := b) (so := so) ha hoa hn (x := tm_U) (n - b) b (by omega)
  have kb := skS_b tp (n - b) b
  unfold tokS
  generalize skS tp (n - b) b = k at e kb
  have R := fun lo hi => run_spec (h := tm_up h o (tkO a n k k so)) (o := o) (lo := lo) (hi := hi) tm_up_same (ha' _) hoa hn (by omega)
  simp only [tm_up_up] at R
  by_cases c0 : n ≤ k
  · have f0 : ¬ nI k < nI n := nI_nlt c0 (by omega)
    simp only [cX7_step_, bX7_step_0, bX7_step_5, bX7_step_46, bX7_step_51, bX7_step_54, bX7_step_58, bX7_step_62, bX7_step_65, bX7_step_70, tk1_some, tk0_some, tkc_some, tkc_none, ↓reduceIte, ho, gf_7_3, gf_7_2, gf_7_1, tm_pf_eq, ps_7_2, ps_7_3, ps_7_4, Option.map_some, tm_up_same, tm_up_up, e, f0, if_false, c0, if_true]
  · have f0 : nI k < nI n := nI_lt (by omega) (by omega)
    rw [if_neg c0]
    have hd : tC mX7_step [.ref o] h = tE mX7_step 71 [.ref o, tm_U] [] (tm_up h o (tkO a n k k so)) := by
      simp only [cX7_step_, bX7_step_0, bX7_step_5, bX7_step_46, bX7_step_51, bX7_step_54, bX7_step_58, bX7_step_62, tk1_some, tk0_some, tkc_some, tkc_none, ↓reduceIte, ho, gf_7_3, gf_7_2, gf_7_1, tm_pf_eq, ps_7_2, ps_7_3, Option.map_some, tm_up_same, tm_up_up, e, f0, if_true]
    rw [hd]
    have X : tE mX7_step 127 [.ref o, .int (tp k)] [] (tm_up h o (tkO a n k k so)) = some (tm_up h o (tkO a n (tokX tp n k).1 (tokX tp n k).2.1 (tokX tp n k).2.2), none) := by
      have Y : tE mX7_step 172 [.ref o, .int (tp k)] [] (tm_up h o (tkO a n k k so)) = some (tm_up h o (tkO a n k (k + 1) (sgS (tp k))), none) := by
        unfold sgS
        by_cases s1 : tp k = 59
        · simp only [bX7_step_172, bX7_step_179, bX7_step_194, bX7_step_197, bX7_step_202, bX7_step_207, tk1_some, tk0_some, tkc_some, tkc_none, ↓reduceIte, s1, not_true, if_false, if_true, tm_pf_eq, ps_7_4, ps_7_3, gf_7_2, Option.map_some, tm_up_same, tm_up_up, nI_k1]
        · by_cases s2 : tp k = 44
          · simp only [bX7_step_172, bX7_step_183, bX7_step_189, bX7_step_194, bX7_step_197, bX7_step_202, bX7_step_207, tk1_some, tk0_some, tkc_some, tkc_none, ↓reduceIte, s2, show ((44 : Int32) = 59) = False from by decide, not_false_eq_true, not_true, if_false, if_true, tm_pf_eq, ps_7_4, ps_7_3, gf_7_2, Option.map_some, tm_up_same, tm_up_up, nI_k1]
          · simp only [bX7_step_172, bX7_step_183, bX7_step_193, bX7_step_194, bX7_step_197, bX7_step_202, bX7_step_207, tk1_some, tk0_some, tkc_some, tkc_none, ↓reduceIte, s1, s2, not_false_eq_true, if_false, if_true, tm_pf_eq, ps_7_4, ps_7_3, gf_7_2, Option.map_some, tm_up_same, tm_up_up, nI_k1]
      unfold tokX
      by_cases d1 : tp k < 48
      · rw [bX7_step_127, if_pos d1, if_pos d1, Y]
      · by_cases d2 : 57 < tp k
        · rw [bX7_step_127, if_neg d1, bX7_step_133, if_pos d2, if_neg d1, if_pos d2, Y]
        · rw [bX7_step_127, if_neg d1, bX7_step_133, if_neg d2, if_neg d1, if_neg d2]
          have rb := rnS_b tp 48 57 (n - k) k
          have R1 := R 48 57
          generalize rnS tp 48 57 (n - k) k = m at R1 rb
          have es : nI m - nI k = nI (m - k) := nI_sub (by omega)
          by_cases l : 3 < m - k
          · have l' : (3 : Int32) < nI (m - k) := nI_lt (a := 3) l (by omega)
            simp only [bX7_step_139, bX7_step_147, bX7_step_152, bX7_step_156, bX7_step_165, bX7_step_166, bX7_step_169, bX7_step_207, tk1_some, tk0_some, tkc_some, tkc_none, ↓reduceIte, tm_up_same, tm_isO, R1, gf_7_3, gf_7_2, es, l, l', if_true, tm_pf_eq, ps_7_4, Option.map_some, tm_up_up]
          · have l' : ¬ (3 : Int32) < nI (m - k) := nI_nlt (b := m - k) (a := 3) (by omega) (by decide)
            simp only [bX7_step_139, bX7_step_147, bX7_step_152, bX7_step_156, bX7_step_161, bX7_step_166, bX7_step_169, bX7_step_207, tk1_some, tk0_some, tkc_some, tkc_none, ↓reduceIte, tm_up_same, tm_isO, R1, gf_7_3, gf_7_2, es, l, l', if_false, tm_pf_eq, ps_7_4, Option.map_some, tm_up_up]
    unfold tokW
    by_cases w1 : tp k < 97
    · rw [if_pos w1]
      simp only [bX7_step_71, bX7_step_75, bX7_step_79, bX7_step_80, tk1_some, tk0_some, tkc_some, tkc_none, ↓reduceIte, tm_up_same, gf_7_0, gf_7_2, ha', tm_ai_in rfl (show k < 700 by omega) t0, w1, if_true]
      exact X
    · by_cases w2 : 122 < tp k
      · rw [if_neg w1, if_pos w2]
        simp only [bX7_step_71, bX7_step_75, bX7_step_79, bX7_step_80, bX7_step_87, tk1_some, tk0_some, tkc_some, tkc_none, ↓reduceIte, tm_up_same, gf_7_0, gf_7_2, ha', tm_ai_in rfl (show k < 700 by omega) t0, w1, w2, if_true, if_false]
        exact X
      · rw [if_neg w1, if_neg w2]
        have rb := rnS_b tp 97 122 (n - k) k
        have R1 := R 97 122
        generalize rnS tp 97 122 (n - k) k = m at R1 rb
        have es : nI m - nI k = nI (m - k) := nI_sub (by omega)
        by_cases l : 8 < m - k
        · have l' : (8 : Int32) < nI (m - k) := nI_lt (a := 8) l (by omega)
          simp only [bX7_step_71, bX7_step_75, bX7_step_79, bX7_step_80, bX7_step_87, bX7_step_93, bX7_step_101, bX7_step_106, bX7_step_110, bX7_step_120, bX7_step_121, bX7_step_124, bX7_step_207, tk1_some, tk0_some, tkc_some, tkc_none, ↓reduceIte, tm_up_same, gf_7_0, gf_7_2, gf_7_3, ha', tm_ai_in rfl (show k < 700 by omega) t0, w1, w2, if_false, tm_isO, R1, es, l, l', if_true, tm_pf_eq, ps_7_4, Option.map_some, tm_up_up]
        · have l' : ¬ (8 : Int32) < nI (m - k) := nI_nlt (b := m - k) (a := 8) (by omega) (by decide)
          simp only [bX7_step_71, bX7_step_75, bX7_step_79, bX7_step_80, bX7_step_87, bX7_step_93, bX7_step_101, bX7_step_106, bX7_step_110, bX7_step_116, bX7_step_121, bX7_step_124, bX7_step_207, tk1_some, tk0_some, tkc_some, tkc_none, ↓reduceIte, tm_up_same, gf_7_0, gf_7_2, gf_7_3, ha', tm_ai_in rfl (show k < 700 by omega) t0, w1, w2, if_false, tm_isO, R1, es, l, l', tm_pf_eq, ps_7_4, Option.map_some, tm_up_up]
theorem tk_sort (ho : h o = tkO a n s b so) : tC mX7_sort [.ref o] h = some (h, some (.int so)) := by
  simp only [cX7_sort_, bX7_sort_0, bX7_sort_4, tk1_some, tk0_some, tkc_some, tkc_none, ↓reduceIte, ho, gf_7_4]
theorem tk_place (ho : h o = tkO a n s b so) : tC mX7_place [.ref o] h = some (h, some (.int (nI s))) := by
  simp only [cX7_place_, bX7_place_0, bX7_place_4, tk1_some, tk0_some, tkc_some, tkc_none, ↓reduceIte, ho, gf_7_2]
theorem begin_spec {a0 n0 s0 b0 : Nat} {so0 : Int32} (ho : h o = tkO a0 n0 s0 b0 so0) (ha : h a = aB 700 tp) (hoa : o ≠ a) (hn : n ≤ 700) : tC mX7_begin [.ref o, .ref a, .int (nI n)] h = some (tm_up h o (tkO a n (tokS tp n 0).1 (tokS tp n 0).2.1 (tokS tp n 0).2.2), none) := by
  have ha' : ∀ e, tm_up h o e a = aB 700 tp := fun e => by rw [tm_up_ne (Ne.symm hoa)]; exact ha
  have S := step_spec (h := tm_up h o (tkO a n s0 0 so0)) (o := o) tm_up_same (ha' _) hoa hn (Nat.zero_le _)
  have k : keptS (nI n) 0 (nI 700) = nI n := keptS_in hn (by decide)
  rw [tm_up_up] at S
  simp only [tkO, nI_0] at S
  simp only [cX7_begin_, bX7_begin_0, bX7_begin_5, bX7_begin_10, bX7_begin_13, bX7_begin_16, bX7_begin_21, bX7_begin_25, tk1_some, tk0_some, tkc_some, tkc_none, ↓reduceIte, ho, tm_pf_eq, ps_7_0, ps_7_1, ps_7_3, Option.map_some, ha', tm_al_i (show 1 < 3 by decide), kept_spec, k, tm_up_same, tm_up_up, tm_isO, S]
/-- the word at hand is this text -/
def eqF (tp : Nat → Int32) (tx : List Int32) (s : Nat) : Nat → Nat → Bool
  | 0, _ => true
  | r + 1, j => if tp (s + j) = tx.getD j 0 then eqF tp tx s r (j + 1) else false
def isWd (tp : Nat → Int32) (T : Tok) (k : Nat) : Bool :=
  if T.2.2 = 1 then (if T.2.1 - T.1 = (tm_text k).length then eqF tp (tm_text k) T.1 (tm_text k).length 0 else false) else false
theorem tx_len : ∀ k, k < 42 → (tm_text k).length ≤ 6 := by decide
theorem isw_loop (ho : h o = tkO a n s b so) (ha : h a = aB 700 tp) {k : Nat} (hk : k < 42) (hs : s + (tm_text k).length ≤ 700) : ∀ r j, j + r = (tm_text k).length → tE mX7_isWord 30 [.ref o, .retAddr k, .int (nI (tm_text k).length), .int (nI j)] [] h = some (h, some (.int (bI (eqF tp (tm_text k) s r j)))) := by
  have t0 : 700 < 2 ^ 31 := by decide
  have hl := tx_len k hk
  intro r
  induction r with
  | zero =>
    intro j hj
    obtain rfl : j = (tm_text k).length := by omega
    simp only [bX7_isWord_30, bX7_isWord_62, Int32.le_refl, if_true, eqF, bI_t, tm_rb1]
  | succ r ih =>
    intro j hj
    have e1 : ¬ nI (tm_text k).length ≤ nI j := nI_ge (by omega) (by omega)
    have e := ih (j + 1) (by omega)
    have g0 : ¬ nI j < 0 := nI_pos (by omega)
    have c : (nI j).toNatClampNeg < (tm_text k).length := by rw [nI_clamp (by omega)]; omega
    rw [bX7_isWord_30]
    unfold eqF
    by_cases z : tp (s + j) = (tm_text k).getD j 0
    · simp only [bX7_isWord_35, bX7_isWord_39, bX7_isWord_43, bX7_isWord_46 hk g0 c, bX7_isWord_56, tk1_some, tk0_some, tkc_some, tkc_none, ↓reduceIte, e1, if_false, ho, gf_7_0, gf_7_2, ha, nI_add, tm_ai_in rfl (show s + j < 700 by omega) t0, nI_clamp (show j < 2 ^ 31 by omega), z, if_true, nI_k1, e]
    · simp only [bX7_isWord_35, bX7_isWord_39, bX7_isWord_43, bX7_isWord_46 hk g0 c, bX7_isWord_54, tk1_some, tk0_some, tkc_some, tkc_none, ↓reduceIte, e1, if_false, ho, gf_7_0, gf_7_2, ha, nI_add, tm_ai_in rfl (show s + j < 700 by omega) t0, nI_clamp (show j < 2 ^ 31 by omega), z, tm_rb0, bI_f]
theorem isw_spec (ho : h o = tkO a n s b so) (ha : h a = aB 700 tp) {k : Nat} (hk : k < 42) (hs : s ≤ b) (hb : b ≤ 700) : tC mX7_isWord [.ref o, .retAddr k] h = some (h, some (.int (bI (isWd tp (s, b, so) k)))) := by
  have hl := tx_len k hk
  unfold isWd
  by_cases c : so = 1
  · rw [if_pos c]
    by_cases d : b - s = (tm_text k).length
    · rw [if_pos d]
      have e := isw_loop ho ha hk (by omega) (tm_text k).length 0 (by omega)
      have ed : nI b - nI s = nI (tm_text k).length := by rw [nI_sub hs, d]
      rw [nI_0] at e
      simp only [cX7_isWord_, bX7_isWord_0 hk, bX7_isWord_9, bX7_isWord_13, bX7_isWord_17, bX7_isWord_21, bX7_isWord_28, tk1_some, tk0_some, tkc_some, tkc_none, ↓reduceIte, ho, gf_7_4, gf_7_3, gf_7_2, c, not_true, if_false, ed, show (Int32.ofNat (tm_text k).length) = nI (tm_text k).length from rfl, if_true]
      rw [c] at ho
      exact e
    · rw [if_neg d]
      have ed : ¬ nI b - nI s = nI (tm_text k).length := by rw [nI_sub hs]; exact fun z => d ((nI_eq (by omega) (by omega)).mp z)
      simp only [cX7_isWord_, bX7_isWord_0 hk, bX7_isWord_9, bX7_isWord_13, bX7_isWord_17, bX7_isWord_21, bX7_isWord_26, tk1_some, tk0_some, tkc_some, tkc_none, ↓reduceIte, ho, gf_7_4, gf_7_3, gf_7_2, c, not_true, if_false, ed, show (Int32.ofNat (tm_text k).length) = nI (tm_text k).length from rfl, tm_rb0, bI_f]
  · rw [if_neg c]
    simp only [cX7_isWord_, bX7_isWord_0 hk, bX7_isWord_9, bX7_isWord_26, tk1_some, tk0_some, tkc_some, tkc_none, ↓reduceIte, ho, gf_7_4, c, not_false_eq_true, if_true, tm_rb0, bI_f]
def wnG (tp : Nat → Int32) : Nat → Nat → Int64 → Int64
  | 0, _, v => v
  | r + 1, p, v => wnG tp r (p + 1) (v * 27 + ((tp p - 97) + 1).toInt64)
def vlG (tp : Nat → Int32) : Nat → Nat → Int32 → Int32
  | 0, _, v => v
  | r + 1, p, v => vlG tp r (p + 1) (v * 10 + (tp p - 48))
theorem wn_loop (ho : h o = tkO a n s b so) (ha : h a = aB 700 tp) (hb : b ≤ 700) : ∀ r p v, p + r = b → tE mX7_wordNumber 7 [.ref o, .long v, tm_U, .int (nI p)] [] h = some (h, some (.long (wnG tp r p v))) := by
  have t0 : 700 < 2 ^ 31 := by decide
  intro r
  induction r with
  | zero =>
    intro p v hp
    obtain rfl : p = b := by omega
    simp only [bX7_wordNumber_7, bX7_wordNumber_12, bX7_wordNumber_40, tk1_some, tk0_some, tkc_some, tkc_none, ↓reduceIte, ho, gf_7_3, Int32.le_refl, if_true, wnG]
  | succ r ih =>
    intro p v hp
    have e1 : ¬ nI b ≤ nI p := nI_ge (by omega) (by omega)
    have e := ih (p + 1) (v * 27 + ((tp p - 97) + 1).toInt64) (by omega)
    rw [bX7_wordNumber_7]
    simp only [bX7_wordNumber_12, bX7_wordNumber_15, bX7_wordNumber_24, bX7_wordNumber_26 (a0 := .ref o) rfl, tk1_some, tk0_some, tkc_some, tkc_none, ↓reduceIte, ho, gf_7_3, gf_7_0, e1, if_false, ha, tm_ai_in rfl (show p < 700 by omega) t0, nI_k1, e, wnG]
theorem wn_spec (ho : h o = tkO a n s b so) (ha : h a = aB 700 tp) (hs : s ≤ b) (hb : b ≤ 700) : tC mX7_wordNumber [.ref o] h = some (h, some (.long (wnG tp (b - s) s 0))) := by
  have e := wn_loop ho ha hb (b - s) s 0 (by omega)
  simp only [cX7_wordNumber_, bX7_wordNumber_0, bX7_wordNumber_6 (a2 := tm_U) rfl, tk1_some, tk0_some, tkc_some, tkc_none, ↓reduceIte, ho, gf_7_2, e]
theorem vl_loop (ho : h o = tkO a n s b so) (ha : h a = aB 700 tp) (hb : b ≤ 700) : ∀ r p v, p + r = b → tE mX7_wholeNumber 7 [.ref o, .int v, .int (nI p)] [] h = some (h, some (.int (vlG tp r p v))) := by
  have t0 : 700 < 2 ^ 31 := by decide
  intro r
  induction r with
  | zero =>
    intro p v hp
    obtain rfl : p = b := by omega
    simp only [bX7_wholeNumber_7, bX7_wholeNumber_12, bX7_wholeNumber_36, tk1_some, tk0_some, tkc_some, tkc_none, ↓reduceIte, ho, gf_7_3, Int32.le_refl, if_true, vlG]
  | succ r ih =>
    intro p v hp
    have e1 : ¬ nI b ≤ nI p := nI_ge (by omega) (by omega)
    have e := ih (p + 1) (v * 10 + (tp p - 48)) (by omega)
    rw [bX7_wholeNumber_7]
    simp only [bX7_wholeNumber_12, bX7_wholeNumber_15, bX7_wholeNumber_23, bX7_wholeNumber_25, tk1_some, tk0_some, tkc_some, tkc_none, ↓reduceIte, ho, gf_7_3, gf_7_0, e1, if_false, ha, tm_ai_in rfl (show p < 700 by omega) t0, nI_k1, e, vlG]
theorem vl_spec (ho : h o = tkO a n s b so) (ha : h a = aB 700 tp) (hs : s ≤ b) (hb : b ≤ 700) : tC mX7_wholeNumber [.ref o] h = some (h, some (.int (vlG tp (b - s) s 0))) := by
  have e := vl_loop ho ha hb (b - s) s 0 (by omega)
  simp only [cX7_wholeNumber_, bX7_wholeNumber_0, bX7_wholeNumber_6, tk1_some, tk0_some, tkc_some, tkc_none, ↓reduceIte, ho, gf_7_2, e]
end TK
