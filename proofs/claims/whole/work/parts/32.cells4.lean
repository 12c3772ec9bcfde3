/-! CELLS of the class: a cut's sizes, heats, cracks, and a cell that turns -/
def rowF (g sz : Nat → Int32) (i j : Nat) : Nat → Int32 := fun k => if i * 5 ≤ k ∧ k < i * 5 + j then g k else sz k
theorem rowF_0 (g sz : Nat → Int32) (i : Nat) : rowF g sz i 0 = sz := by
  funext k; unfold rowF; rw [if_neg (by omega)]
theorem rowF_s (g sz : Nat → Int32) (i j : Nat) : upd (rowF g sz i j) (i * 5 + j) (g (i * 5 + j)) = rowF g sz i (j + 1) := by
  funext k; unfold rowF upd
  by_cases e : k = i * 5 + j
  · subst e; rw [if_pos rfl, if_pos (by omega)]
  · rw [if_neg e]
    show (if i * 5 ≤ k ∧ k < i * 5 + j then g k else sz k) = _
    by_cases e1 : i * 5 ≤ k ∧ k < i * 5 + j
    · rw [if_pos e1, if_pos (by omega)]
    · rw [if_neg e1, if_neg (by omega)]
theorem rowF_at (g sz : Nat → Int32) (i j : Nat) : rowF g sz i (j + 1) (i * 5 + j) = g (i * 5 + j) := by
  unfold rowF; rw [if_pos (by omega)]
def sizG (sw : Int32) (ht rm : Nat → Int32) (k : Nat) : Int32 := sw * ht k / 100 + rm k
section CE6
variable {h : tm_H} {c : Nat} {A : Nat → Nat → Int32} {p q bk cuts w : Nat} {sq water : Int32} {tenth turned : Nat} {crk : Int32}
theorem size_loop (H : CAt h c A p q bk cuts w sq water tenth turned crk) {i : Nat} (hi : i < 8) {sw : Int32} : ∀ r j x, j + r = w → tE mX4_sizeCut 15 [.ref c, .int (nI i), .int sw, .int (nI j), x] [] (tm_up h (c + 1 + 5) (aI 40 (rowF (sizG sw (A 8) (A 3)) (A 5) i j))) = some (tm_up h (c + 1 + 5) (aI 40 (rowF (sizG sw (A 8) (A 3)) (A 5) i w)), none) := by
  have hw := ca_w H
  have t0 : 40 < 2 ^ 31 := by decide
  intro r
  induction r with
  | zero =>
    intro j x hj
    obtain rfl : j = w := by omega
    have H1 := CAt_arr H (show 5 < 8 by decide) (rowF (sizG sw (A 8) (A 3)) (A 5) i j)
    rw [bX4_sizeCut_15]
    simp only [bX4_sizeCut_4, bX4_sizeCut_7, bX4_sizeCut_12, bX4_sizeCut_20, bX4_sizeCut_23, bX4_sizeCut_34, bX4_sizeCut_41, bX4_sizeCut_44, bX4_sizeCut_52, bX4_sizeCut_55, bX4_sizeCut_57, bX4_sizeCut_63, tk1_some, tk0_some, tkc_some, tkc_none, ↓reduceIte, ca_o H1, gf_4_12, Int32.le_refl, if_true]
  | succ r ih =>
    intro j x hj
    have H1 := CAt_arr H (show 5 < 8 by decide) (rowF (sizG sw (A 8) (A 3)) (A 5) i j)
    have e1 : ¬ nI w ≤ nI j := nI_ge (by omega) (by omega)
    have e4 := ih (j + 1) (.int (nI (i * 5 + j))) (by omega)
    have u8 := ca_p H1
    have u3 := ca_3 H1
    have u5 := ca_5 H1
    rw [upA_ne _ _ (by decide)] at u8 u3
    rw [upA_same] at u5
    have e5 : tm_sa 0 (aI 40 (rowF (sizG sw (A 8) (A 3)) (A 5) i j)) (nI (i * 5 + j)) (sw * A 8 (i * 5 + j) / 100 + A 3 (i * 5 + j)) = some (aI 40 (rowF (sizG sw (A 8) (A 3)) (A 5) i (j + 1))) := by
      rw [tm_sa_in rfl (show i * 5 + j < 40 by omega) t0, ← rowF_s]; rfl
    rw [bX4_sizeCut_15]
    simp only [bX4_sizeCut_4, bX4_sizeCut_7, bX4_sizeCut_12, bX4_sizeCut_20, bX4_sizeCut_23, bX4_sizeCut_34, bX4_sizeCut_41, bX4_sizeCut_44, bX4_sizeCut_52, bX4_sizeCut_55, bX4_sizeCut_57, bX4_sizeCut_63, tk1_some, tk0_some, tkc_some, tkc_none, ↓reduceIte, ca_o H1, gf_4_12, gf_4_5, gf_4_8, gf_4_3, e1, if_false, i5j, u8, u3, tm_ai_in rfl (show i * 5 + j < 40 by omega) t0, tm_si_eq, u5, e5, Option.map_some, tm_up_up, nI_k1]
    exact e4
theorem size_spec (H : CAt h c A p q bk cuts w sq water tenth turned crk) {i : Nat} (hi : i < 8) {lo hi' : Int32} {cnt : Nat → Nat} {tab : Nat → Nat → Int32} (K : BkAt h bk lo hi' cnt tab) (k1 : 0 < cnt 1) : tC mX4_sizeCut [.ref c, .int (nI i)] h = some (tm_up h (c + 1 + 5) (aI 40 (rowF (sizG (tab 1 4) (A 8) (A 3)) (A 5) i w)), none) := by
  have e := size_loop H hi (sw := tab 1 4) w 0 tm_U (by omega)
  rw [rowF_0, ← H.2.1 5 (by decide), tm_up_id, nI_0] at e
  simp only [cX4_sizeCut_, bX4_sizeCut_0, bX4_sizeCut_4, bX4_sizeCut_7, bX4_sizeCut_12, bX4_sizeCut_20, bX4_sizeCut_23, bX4_sizeCut_34, bX4_sizeCut_41, bX4_sizeCut_44, bX4_sizeCut_52, bX4_sizeCut_55, bX4_sizeCut_57, bX4_sizeCut_63, tk1_some, tk0_some, tkc_some, tkc_none, ↓reduceIte, ca_o H, gf_4_10, bk_o K, gf_3_1, bk_l1 K, tm_isO, bk_at1 K (show (4 : Int32) = nI 4 from rfl) k1 (by decide), e]
/-- what a cell has lost and gained -/
def coolG (pulls flow water : Int32) (ha op : Nat → Int32) (cuts w i : Nat) (k : Nat) : Int32 :=
  ha k - pulls * (ha k - water) / 100 * op k / 100 / nI (k - i * 5 + 1) + (if flow = 0 then 0 else gainS4 ha cuts w flow i (k - i * 5))
def movS (g ha : Nat → Int32) (i : Nat) : Nat → Bool
  | 0 => false
  | j + 1 => movS g ha i j || decide (g (i * 5 + j) ≠ ha (i * 5 + j))
theorem bI_or (a b : Bool) : bI a ||| bI b = bI (a || b) := by cases a <;> cases b <;> decide
theorem cool_loop (H : CAt h c A p q bk cuts w sq water tenth turned crk) {i : Nat} (hi : i < cuts) {pulls flow : Int32} {g : Nat → Int32} (hg : ∀ j, j < w → g (i * 5 + j) = A 9 (i * 5 + j) - pulls * (A 9 (i * 5 + j) - water) / 100 * A 1 (i * 5 + j) / 100 / nI (j + 1) + (if flow = 0 then 0 else gainS4 (A 9) cuts w flow i j)) : ∀ r j x6 x7 x8 x9, j + r = w → tE mX4_coolCut 32 [.ref c, .int (nI i), .int pulls, .int flow, .int (bI (movS g (A 9) i j)), .int (nI j), x6, x7, x8, x9] [] (tm_up h p (aI 40 (rowF g (A 8) i j))) = some (tm_up h p (aI 40 (rowF g (A 8) i w)), some (.int (bI (movS g (A 9) i w)))) := by
  have hw := ca_w H
  have hc := ca_c H
  have t0 : 40 < 2 ^ 31 := by decide
  intro r
  induction r with
  | zero =>
    intro j x6 x7 x8 x9 hj
    obtain rfl : j = w := by omega
    have H1 := CAt_p H (rowF g (A 8) i j)
    rw [bX4_coolCut_32]
    simp only [bX4_coolCut_4, bX4_coolCut_7, bX4_coolCut_12, bX4_coolCut_17, bX4_coolCut_20, bX4_coolCut_25, bX4_coolCut_38, bX4_coolCut_41, bX4_coolCut_53, bX4_coolCut_56, bX4_coolCut_71, bX4_coolCut_80, bX4_coolCut_96, bX4_coolCut_107, bX4_coolCut_119, bX4_coolCut_121, bX4_coolCut_125, bX4_coolCut_128, bX4_coolCut_133, bX4_coolCut_136, bX4_coolCut_111, bX4_coolCut_142, tk1_some, tk0_some, tkc_some, tkc_none, ↓reduceIte, ca_o H1, gf_4_12, Int32.le_refl, if_true, tm_rbb]
  | succ r ih =>
    intro j x6 x7 x8 x9 hj
    have H1 := CAt_p H (rowF g (A 8) i j)
    have H2 := CAt_p H (rowF g (A 8) i (j + 1))
    have e1 : ¬ nI w ≤ nI j := nI_ge (by omega) (by omega)
    have e4 := fun x6 x7 x8 x9 => ih (j + 1) x6 x7 x8 x9 (by omega)
    have u8 := ca_p H1
    have u9 := ca_q H1
    have u1 := ca_1 H1
    have v8 := ca_p H2
    rw [upA_ne _ _ (by decide)] at u9 u1
    rw [upA_same] at u8 v8
    have z : ¬ nI (j + 1) = 0 := fun y => nI_nle (show 0 < j + 1 by omega) (show j + 1 < 2 ^ 31 by omega) (by rw [y]; exact Int32.le_refl _)
    have g1 := gained_spec H1 hi (show j < w by omega) (flow := flow)
    rw [upA_ne _ _ (by decide)] at g1
    have ek := (hg j (by omega)).symm
    have e5 : tm_sa 0 (aI 40 (rowF g (A 8) i j)) (nI (i * 5 + j)) (g (i * 5 + j)) = some (aI 40 (rowF g (A 8) i (j + 1))) := by
      rw [tm_sa_in rfl (show i * 5 + j < 40 by omega) t0, ← rowF_s]
    have e6 : tm_ai 0 (aI 40 (rowF g (A 8) i (j + 1))) (nI (i * 5 + j)) = some (.int (g (i * 5 + j))) := by
      rw [tm_ai_in rfl (show i * 5 + j < 40 by omega) t0, rowF_at]
    have e7 : movS g (A 9) i (j + 1) = (movS g (A 9) i j || decide (g (i * 5 + j) ≠ A 9 (i * 5 + j))) := rfl
    rw [e7] at e4
    generalize hm : movS g (A 9) i j = mv at e4 ⊢
    rw [bX4_coolCut_32]
    by_cases f0 : flow = 0
    all_goals (first | rw [if_pos f0] at ek | rw [if_neg f0] at ek)
    all_goals (try replace f0 : (flow = 0) = True := eq_true f0)
    all_goals by_cases m0 : g (i * 5 + j) = A 9 (i * 5 + j)
    all_goals (first | rw [decide_eq_false (not_not_intro m0)] at e4 | rw [decide_eq_true m0] at e4)
    all_goals (first | rw [Bool.or_false] at e4 | rw [Bool.or_true, bI_t] at e4)
    all_goals (try replace m0 : (g (i * 5 + j) = A 9 (i * 5 + j)) = True := eq_true m0)
    all_goals simp only [bX4_coolCut_4, bX4_coolCut_7, bX4_coolCut_12, bX4_coolCut_17, bX4_coolCut_20, bX4_coolCut_25, bX4_coolCut_38, bX4_coolCut_41, bX4_coolCut_53, bX4_coolCut_56, bX4_coolCut_71, bX4_coolCut_80, bX4_coolCut_96, bX4_coolCut_107, bX4_coolCut_119, bX4_coolCut_121, bX4_coolCut_125, bX4_coolCut_128, bX4_coolCut_133, bX4_coolCut_136, bX4_coolCut_111, bX4_coolCut_142, bX4_coolCut_83 z, tk1_some, tk0_some, tkc_some, tkc_none, ↓reduceIte, ca_o H1, ca_o H2, gf_4_12, gf_4_9, gf_4_14, gf_4_1, gf_4_8, e1, if_false, if_true, i5j, u8, u9, u1, v8, tm_ai_in rfl (show i * 5 + j < 40 by omega) t0, nI_k1, f0, not_true, not_false_eq_true, tm_isO, g1, ek, tm_si_eq, e5, e6, Option.map_some, tm_up_up, rowF_at, m0]
    all_goals exact e4 _ _ _ _
theorem cool_spec (H : CAt h c A p q bk cuts w sq water tenth turned crk) {i : Nat} (hi : i < cuts) {lo hi' : Int32} {cnt : Nat → Nat} {tab : Nat → Nat → Int32} (K : BkAt h bk lo hi' cnt tab) (k1 : 0 < cnt 1) : tC mX4_coolCut [.ref c, .int (nI i)] h = some (tm_up h p (aI 40 (rowF (coolG (tab 1 1) (tab 1 3) water (A 9) (A 1) cuts w i) (A 8) i w)), some (.int (bI (movS (coolG (tab 1 1) (tab 1 3) water (A 9) (A 1) cuts w i) (A 9) i w)))) := by
  have e := cool_loop H hi (pulls := tab 1 1) (flow := tab 1 3) (g := coolG (tab 1 1) (tab 1 3) water (A 9) (A 1) cuts w i) (fun j hj => by unfold coolG; rw [show i * 5 + j - i * 5 = j by omega]) w 0 tm_U tm_U tm_U tm_U (by omega)
  rw [rowF_0, ← ca_p H, tm_up_id, nI_0, show movS (coolG (tab 1 1) (tab 1 3) water (A 9) (A 1) cuts w i) (A 9) i 0 = false from rfl, bI_f] at e
  simp only [cX4_coolCut_, bX4_coolCut_0, bX4_coolCut_4, bX4_coolCut_7, bX4_coolCut_12, bX4_coolCut_17, bX4_coolCut_20, bX4_coolCut_25, bX4_coolCut_38, bX4_coolCut_41, bX4_coolCut_53, bX4_coolCut_56, bX4_coolCut_71, bX4_coolCut_80, bX4_coolCut_96, bX4_coolCut_107, bX4_coolCut_119, bX4_coolCut_121, bX4_coolCut_125, bX4_coolCut_128, bX4_coolCut_133, bX4_coolCut_136, bX4_coolCut_111, bX4_coolCut_142, tk1_some, tk0_some, tkc_some, tkc_none, ↓reduceIte, ca_o H, gf_4_10, bk_o K, gf_3_1, bk_l1 K, tm_isO, bk_at1 K (show (1 : Int32) = nI 1 from rfl) k1 (by decide), bk_at1 K (show (3 : Int32) = nI 3 from rfl) k1 (by decide), e]
/-- the cell at which a cut cracks, from the j-th on, r left -/
def crkS (sz mp : Nat → Int32) (w : Nat) (sq : Int32) (i : Nat) (crk : Int32) : Nat → Nat → Int32
  | 0, _ => crk
  | r + 1, j => if crk = -1 then (if (if 0 ≤ pullS sz w sq i j then pullS sz w sq i j else 0 - pullS sz w sq i j) ≤ mp (i * 5 + j) then crkS sz mp w sq i crk r (j + 1) else nI (i * 5 + j)) else crk
theorem crkS_no (sz mp : Nat → Int32) (w : Nat) (sq : Int32) (i : Nat) {crk : Int32} (hk : ¬ crk = -1) : ∀ r j, crkS sz mp w sq i crk r j = crk
  | 0, _ => rfl
  | r + 1, j => by unfold crkS; rw [if_neg hk]
theorem crk_loop {i : Nat} (hi : i < 8) : ∀ r j x crk h, CAt h c A p q bk cuts w sq water tenth turned crk → j + r = w → tE mX4_strainCut 15 [.ref c, .int (nI i), .int (totS (A 5) w i), .int (curS (A 5) w i), .int (nI j), x] [] h = some (tm_up h c (cO c p q bk cuts w sq water tenth turned (crkS (A 5) (A 4) w sq i crk r j)), none) := by
  have t0 : 40 < 2 ^ 31 := by decide
  intro r
  induction r with
  | zero =>
    intro j x crk h H hj
    obtain rfl : j = w := by omega
    rw [bX4_strainCut_15]
    simp only [bX4_strainCut_5, bX4_strainCut_11, bX4_strainCut_21, bX4_strainCut_24, bX4_strainCut_28, bX4_strainCut_32, bX4_strainCut_49, bX4_strainCut_56, bX4_strainCut_59, bX4_strainCut_62, bX4_strainCut_68, bX4_strainCut_74, tk1_some, tk0_some, tkc_some, tkc_none, ↓reduceIte, ca_o H, gf_4_12, Int32.le_refl, if_true, crkS]
    rw [← ca_o H, tm_up_id]
  | succ r ih =>
    intro j x crk h H hj
    have hw := ca_w H
    have e1 : ¬ nI w ≤ nI j := nI_ge (by omega) (by omega)
    rw [bX4_strainCut_15]
    by_cases k0 : crk = -1
    · subst k0
      have e4 := ih (j + 1) (.int (nI (i * 5 + j))) (-1) h H (by omega)
      have P := pb_spec H (show i < 8 from hi) (show j < 5 by omega) (t := totS (A 5) w i) (k := curS (A 5) w i)
      rw [show (A 5 (i * 5 + j) * nI w - totS (A 5) w i) * sq - curS (A 5) w i * sprd w j * nI w = pullS (A 5) w sq i j from rfl] at P
      have H1 := CAt_o H water tenth turned (nI (i * 5 + j))
      have e5 := ih (j + 1) (.int (nI (i * 5 + j))) _ _ H1 (by omega)
      have ne : ¬ nI (i * 5 + j) = -1 := fun y => absurd (nI_pos' (show i * 5 + j < 2 ^ 31 by omega)) (by rw [y]; decide)
      rw [crkS_no _ _ _ _ _ ne, tm_up_up] at e5
      by_cases b0 : (if 0 ≤ pullS (A 5) w sq i j then pullS (A 5) w sq i j else 0 - pullS (A 5) w sq i j) ≤ A 4 (i * 5 + j)
      all_goals simp only [bX4_strainCut_5, bX4_strainCut_11, bX4_strainCut_21, bX4_strainCut_24, bX4_strainCut_28, bX4_strainCut_32, bX4_strainCut_49, bX4_strainCut_56, bX4_strainCut_59, bX4_strainCut_62, bX4_strainCut_68, bX4_strainCut_74, tk1_some, tk0_some, tkc_some, tkc_none, ↓reduceIte, ca_o H, gf_4_12, gf_4_17, gf_4_4, e1, if_false, if_true, not_true, tm_isO, P, i5j, ca_4 H, tm_ai_in rfl (show i * 5 + j < 40 by omega) t0, b0, nI_k1, crkS, tm_pf_eq, ps_4_17, Option.map_some]
      · exact e4
      · exact e5
    · simp only [bX4_strainCut_5, bX4_strainCut_11, bX4_strainCut_21, bX4_strainCut_24, bX4_strainCut_28, bX4_strainCut_32, bX4_strainCut_49, bX4_strainCut_56, bX4_strainCut_59, bX4_strainCut_62, bX4_strainCut_68, bX4_strainCut_74, tk1_some, tk0_some, tkc_some, tkc_none, ↓reduceIte, ca_o H, gf_4_12, gf_4_17, e1, if_false, k0, not_false_eq_true, if_true, crkS]
      rw [← ca_o H, tm_up_id]
theorem crk_spec (H : CAt h c A p q bk cuts w sq water tenth turned crk) {i : Nat} (hi : i < 8) : tC mX4_strainCut [.ref c, .int (nI i)] h = some (tm_up h c (cO c p q bk cuts w sq water tenth turned (crkS (A 5) (A 4) w sq i crk w 0)), none) := by
  have e := crk_loop hi w 0 tm_U crk h H (by omega)
  rw [nI_0] at e
  simp only [cX4_strainCut_, bX4_strainCut_0, bX4_strainCut_5, bX4_strainCut_11, bX4_strainCut_21, bX4_strainCut_24, bX4_strainCut_28, bX4_strainCut_32, bX4_strainCut_49, bX4_strainCut_56, bX4_strainCut_59, bX4_strainCut_62, bX4_strainCut_68, bX4_strainCut_74, tk1_some, tk0_some, tkc_some, tkc_none, ↓reduceIte, ca_o H, tm_isO, tot_spec H hi, cur_spec H hi, e]
end CE6
