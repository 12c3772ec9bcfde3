/-! THE REFERENCE's calls: cuts; curve -/
section M30
variable {h : tm_H} {S : SS}
theorem has_0 (w0 : sBo S = true → 0 < widS S ∧ widS S ≤ 5) {i : Int32} : hasS S i 0 = (decide (0 ≤ i) && decide (i < nI (cutS S))) := by
  unfold hasS
  by_cases a : 0 ≤ i
  · by_cases c : i < nI (cutS S)
    · have bo : sBo S = true := by
        cases bo : sBo S with
        | true => rfl
        | false =>
          rw [show cutS S = 0 by unfold cutS; rw [bo]; rfl, nI_0] at c
          exact absurd c (Int32.not_lt.mpr a)
      have := w0 bo
      have e : (0 : Int32) < nI (widS S) := nI_lt (a := 0) this.1 (by omega)
      rw [decide_eq_true a, decide_eq_true c, decide_eq_true e, decide_eq_true (Int32.le_refl 0)]; rfl
    · rw [decide_eq_false c]; simp only [Bool.and_false, Bool.false_and]
  · rw [decide_eq_false a]; simp only [Bool.false_and]
theorem m_cut (X : MInv h S) (Q : sBo S = true → PB S) (w0 : sBo S = true → 0 < widS S ∧ widS S ≤ 5) {i : Int32} : tC mX11_isCut [.ref 130, .int i] h = some (h, some (.int (bI (hasS S i 0)))) := by
  rw [has_0 w0]
  cases bo : sBo S with
  | false =>
    have bk := (m_bk X).2 bo
    have e : (decide (0 ≤ i) && decide (i < nI (cutS S))) = false := by
      by_cases a : 0 ≤ i
      · have : ¬ i < nI (cutS S) := by
          rw [show cutS S = 0 by unfold cutS; rw [bo]; rfl, nI_0]; exact Int32.not_lt.mpr a
        rw [decide_eq_false this]; simp only [Bool.and_false]
      · rw [decide_eq_false a]; simp only [Bool.false_and]
    rw [e]
    simp only [cX11_isCut_, bX11_isCut_0, bX11_isCut_4n, bX11_isCut_26, bX11_isCut_27, tk1_some, tk0_some, tkc_some, tkc_none, ↓reduceIte, bk, tm_rb0, bI_f]
  | true =>
    obtain ⟨b, nn, G, nm, Z, z1, z2, M, R, _⟩ := MI_bar X bo
    obtain ⟨_, _, en, ew, _⟩ := Q bo
    obtain ⟨_, hm, km, cl, tu, th, om, HA, _⟩ := R
    have bk : tm_gf (h 130) 11 3 = some (.ref b) := by rw [HA.1, gf_11_3, z1]
    have g0 : tm_gf (h b) 10 0 = some (.int (nI (cutS S))) := by rw [M.1, gf_10_0, en]
    by_cases a : i < 0
    · rw [decide_eq_false (Int32.not_le.mpr a)]
      simp only [cX11_isCut_, bX11_isCut_0, bX11_isCut_4r, bX11_isCut_7, bX11_isCut_26, bX11_isCut_27, tk1_some, tk0_some, tkc_some, tkc_none, ↓reduceIte, bk, a, if_true, tm_rb0, bI_f, Bool.false_and]
    · rw [decide_eq_true (Int32.not_lt.mp a)]
      by_cases c : nI (cutS S) ≤ i
      · rw [decide_eq_false (Int32.not_lt.mpr c)]
        simp only [cX11_isCut_, bX11_isCut_0, bX11_isCut_4r, bX11_isCut_7, bX11_isCut_11, bX11_isCut_16, bX11_isCut_19, bX11_isCut_26, bX11_isCut_27, tk1_some, tk0_some, tkc_some, tkc_none, ↓reduceIte, bk, a, if_false, g0, c, if_true, tm_rb0, bI_f, Bool.and_false]
      · rw [decide_eq_true (Int32.not_le.mp c)]
        simp only [cX11_isCut_, bX11_isCut_0, bX11_isCut_4r, bX11_isCut_7, bX11_isCut_11, bX11_isCut_16, bX11_isCut_19, bX11_isCut_22, bX11_isCut_27, tk1_some, tk0_some, tkc_some, tkc_none, ↓reduceIte, bk, a, if_false, g0, c, tm_rb1, bI_t, Bool.and_self]
theorem m_curve (X : MInv h S) (P : PX S) (Q : sBo S = true → PB S) (w0 : sBo S = true → 0 < widS S ∧ widS S ≤ 5) {i : Int32} : ∃ h', tC mX11_curve [.ref 130, .int i] h = some (h', some (sCurve S i).2) ∧ MInv h' (sCurve S i).1 ∧ FrM h h' := by
  obtain ⟨h1, E1, X1, F1, _, I1⟩ := m_thr X (v := 0)
  have IC := m_cut X1 Q w0 (i := i)
  unfold sCurve
  cases hs : hasS S i 0 with
  | false =>
    rw [hs, bI_f] at IC
    obtain ⟨h2, X2, F2, _, _, _, _, D2, _⟩ := m_note X1 (t := 1) (by decide)
    refine ⟨h2, ?_, X2, FrM_tr F1 F2⟩
    simp only [cX11_curve_, bX11_curve_0, bX11_curve_5, bX11_curve_10, bX11_curve_33, bX11_curve_38, tk1_some, tk0_some, tkc_some, tkc_none, ↓reduceIte, E1, I1, IC, if_true, D2, Bool.false_eq_true, if_false]
  | true =>
    rw [hs, bI_t] at IC
    obtain ⟨ei, li, _, lj, bo⟩ := has_nat P hs
    obtain ⟨b, nn, G, nm, Z, hm, km, W, a1, a2, K, e5, _, _, _, g16, g17, _⟩ := m_see X1 P bo (Q bo)
    have c8 := px_c P
    have w5 := px_w P
    have PP := mcur W a1 a2 (by decide) (fun i j x y => by omega) K (Q bo).2.2.2.1 w5 li
    rw [← ei, curS_c (fun j hj => e5 _ j li hj)] at PP
    obtain ⟨h2, X2, F2, I2, _, _, _, _, D2⟩ := m_note X1 (t := 0) (by decide)
    have D2 := fun v => (D2 rfl v).1
    refine ⟨h2, ?_, X2, FrM_tr F1 F2⟩
    simp only [cX11_curve_, bX11_curve_0, bX11_curve_5, bX11_curve_10, bX11_curve_13, bX11_curve_19, bX11_curve_23, bX11_curve_27, bX11_curve_30, bX11_curve_38, tk1_some, tk0_some, tkc_some, tkc_none, ↓reduceIte, E1, I1, IC, show ((1 : Int32) = 0) = False from by decide, if_false, g16, g17, PP, D2, if_true, sAns]
end M30
