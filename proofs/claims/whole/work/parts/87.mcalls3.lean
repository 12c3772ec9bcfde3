/-! THE REFERENCE's calls: which cell is one; clay -/
section M28
variable {h : tm_H} {S : SS}
theorem m_cell (X : MInv h S) (Q : sBo S = true → PB S) {i j : Int32} : tC mX11_isCell [.ref 130, .int i, .int j] h = some (h, some (.int (bI (hasS S i j)))) := by
  cases bo : sBo S with
  | false =>
    have bk := (m_bk X).2 bo
    have e : hasS S i j = false := by
      unfold hasS
      by_cases a : 0 ≤ i
      · have : ¬ i < nI (cutS S) := by
          rw [show cutS S = 0 by unfold cutS; rw [bo]; rfl, nI_0]; exact Int32.not_lt.mpr a
        rw [decide_eq_false this]; simp only [Bool.and_false, Bool.false_and]
      · rw [decide_eq_false a]; simp only [Bool.false_and]
    rw [e]
    simp only [cX11_isCell_, bX11_isCell_0, bX11_isCell_4n, bX11_isCell_41, bX11_isCell_42, tk1_some, tk0_some, tkc_some, tkc_none, ↓reduceIte, bk, tm_rb0, bI_f]
  | true =>
    obtain ⟨b, nn, G, nm, Z, z1, z2, M, R, _⟩ := MI_bar X bo
    obtain ⟨_, _, en, ew, _⟩ := Q bo
    obtain ⟨_, hm, km, cl, tu, th, om, HA, _⟩ := R
    have bk : tm_gf (h 130) 11 3 = some (.ref b) := by rw [HA.1, gf_11_3, z1]
    have g0 : tm_gf (h b) 10 0 = some (.int (nI (cutS S))) := by rw [M.1, gf_10_0, en]
    have g1 : tm_gf (h b) 10 1 = some (.int (nI (widS S))) := by rw [M.1, gf_10_1, ew]
    unfold hasS
    by_cases a : i < 0
    · rw [decide_eq_false (Int32.not_le.mpr a)]
      simp only [cX11_isCell_, bX11_isCell_0, bX11_isCell_4r, bX11_isCell_7, bX11_isCell_41, bX11_isCell_42, tk1_some, tk0_some, tkc_some, tkc_none, ↓reduceIte, bk, a, if_true, tm_rb0, bI_f, Bool.false_and]
    · rw [decide_eq_true (Int32.not_lt.mp a)]
      by_cases c : nI (cutS S) ≤ i
      · rw [decide_eq_false (Int32.not_lt.mpr c)]
        simp only [cX11_isCell_, bX11_isCell_0, bX11_isCell_4r, bX11_isCell_7, bX11_isCell_11, bX11_isCell_16, bX11_isCell_19, bX11_isCell_41, bX11_isCell_42, tk1_some, tk0_some, tkc_some, tkc_none, ↓reduceIte, bk, a, if_false, g0, c, if_true, tm_rb0, bI_f, Bool.and_false, Bool.false_and]
      · rw [decide_eq_true (Int32.not_le.mp c)]
        by_cases d : j < 0
        · rw [decide_eq_false (Int32.not_le.mpr d)]
          simp only [cX11_isCell_, bX11_isCell_0, bX11_isCell_4r, bX11_isCell_7, bX11_isCell_11, bX11_isCell_16, bX11_isCell_19, bX11_isCell_22, bX11_isCell_41, bX11_isCell_42, tk1_some, tk0_some, tkc_some, tkc_none, ↓reduceIte, bk, a, if_false, g0, c, d, if_true, tm_rb0, bI_f, Bool.and_false, Bool.false_and]
        · rw [decide_eq_true (Int32.not_lt.mp d)]
          by_cases e : nI (widS S) ≤ j
          · rw [decide_eq_false (Int32.not_lt.mpr e)]
            simp only [cX11_isCell_, bX11_isCell_0, bX11_isCell_4r, bX11_isCell_7, bX11_isCell_11, bX11_isCell_16, bX11_isCell_19, bX11_isCell_22, bX11_isCell_26, bX11_isCell_31, bX11_isCell_34, bX11_isCell_41, bX11_isCell_42, tk1_some, tk0_some, tkc_some, tkc_none, ↓reduceIte, bk, a, if_false, g0, c, d, g1, e, if_true, tm_rb0, bI_f, Bool.and_false]
          · rw [decide_eq_true (Int32.not_le.mp e)]
            simp only [cX11_isCell_, bX11_isCell_0, bX11_isCell_4r, bX11_isCell_7, bX11_isCell_11, bX11_isCell_16, bX11_isCell_19, bX11_isCell_22, bX11_isCell_26, bX11_isCell_31, bX11_isCell_34, bX11_isCell_37, bX11_isCell_42, tk1_some, tk0_some, tkc_some, tkc_none, ↓reduceIte, bk, a, if_false, g0, c, d, g1, e, tm_rb1, bI_t, Bool.and_self]
theorem m_clay (X : MInv h S) (P : PX S) (Q : sBo S = true → PB S) {i j t : Int32} : ∃ h', tC mX11_clay [.ref 130, .int i, .int j, .int t] h = some (h', some (sClay S i j t).2) ∧ MInv h' (sClay S i j t).1 ∧ FrM h h' := by
  obtain ⟨h1, E1, X1, F1, _, I1⟩ := m_thr X (v := 0)
  have IC := m_cell X1 Q (i := i) (j := j)
  unfold sClay
  cases hs : hasS S i j with
  | false =>
    rw [hs, bI_f] at IC
    obtain ⟨h2, X2, F2, _, _, D2, _⟩ := m_note X1 (t := 1) (by decide)
    refine ⟨h2, ?_, X2, FrM_tr F1 F2⟩
    simp only [cX11_clay_, bX11_clay_0, bX11_clay_5, bX11_clay_11, bX11_clay_14, bX11_clay_19, tk1_some, tk0_some, tkc_some, tkc_none, ↓reduceIte, E1, I1, IC, not_true, if_false, D2, tm_rb0, Bool.false_eq_true, sDen]
  | true =>
    rw [hs, bI_t] at IC
    obtain ⟨ei, li, ej, lj, bo⟩ := has_nat P hs
    cases iv : inB t 0 3 with
    | false =>
      obtain ⟨h2, X2, F2, _, _, D2, _⟩ := m_note X1 (t := 2) (by decide)
      refine ⟨h2, ?_, X2, FrM_tr F1 F2⟩
      simp only [cX11_clay_, bX11_clay_0, bX11_clay_5, bX11_clay_11, bX11_clay_20, bX11_clay_26, bX11_clay_29, bX11_clay_34, tk1_some, tk0_some, tkc_some, tkc_none, ↓reduceIte, E1, I1, IC, show ((1 : Int32) = 0) = False from by decide, not_false_eq_true, if_true, m_in, iv, bI_f, not_true, if_false, D2, tm_rb0, Bool.false_eq_true, sDen]
    | true =>
      obtain ⟨b, nn, G, nm, Z, z1, z2, M, R, put⟩ := MI_bar X1 bo
      obtain ⟨_, g22, _⟩ := MR_f R
      have t4 := P.2.2.1
      have le0 : (nI (sR S).2.2.2.1 ≤ 0) = ((sR S).2.2.2.1 = 0) := nI_le0 (by omega)
      by_cases d : (sR S).2.2.2.1 = 0
      · have d' : nI (sR S).2.2.2.1 = 0 := by rw [d]; rfl
        have l0 : nI (sR S).2.2.2.1 ≤ 0 := by rw [le0]; exact d
        obtain ⟨ez, hm, km, cl, tu, th, om, HA, e8, e2, e6, e0, O⟩ := R
        have c8 := px_c P
        have w5 := px_w P
        have lx : iN i * 5 + iN j < 40 := by omega
        have H2 := MA_a4 HA (upd cl (iN i * 5 + iN j) t)
        have Es : tm_si 0 h1 134 (5 * i + j) t = some (tm_up h1 134 (aI 40 (upd cl (iN i * 5 + iN j) t))) := by
          rw [ei, ej, i5j', tm_si_eq, HA.2.2.2.1]
          rw [iN_nI (show iN i < 2 ^ 31 by omega), iN_nI (show iN j < 2 ^ 31 by omega), tm_sa_in rfl lx (by decide)]; rfl
        obtain ⟨X2, G2⟩ := put (tm_up h1 134 (aI 40 (upd cl (iN i * 5 + iN j) t))) Z (sH S) (clayA (sB S 1 2) (iN i * 5 + iN j) t (sR S).1, (sR S).2) ⟨ez, hm, km, _, tu, th, om, H2, e8, e2, e6, fun a c x y => by
          show upd cl _ t (a * 5 + c) = upd ((sR S).1 0) _ t (a * 5 + c)
          by_cases q : a * 5 + c = iN i * 5 + iN j
          · rw [q, upd_at, upd_at]
          · rw [upd_off q, upd_off q]; exact e0 a c x y, O⟩ (ZEq_rf Z) (FrC_u (by decide) (by decide))
        obtain ⟨h3, X3, F3, I3, _, _, _, _, D3⟩ := m_note X2 (t := 0) (by decide)
        have D3 := (D3 rfl 0).2
        rw [if_pos rfl, if_pos rfl, if_pos d']
        refine ⟨h3, ?_, X3, FrM_tr F1 (FrM_tr G2 F3)⟩
        have g18 : tm_gf (h1 130) 11 18 = some (.ref 134) := by rw [HA.1, gf_11_18]
        simp only [cX11_clay_, bX11_clay_0, bX11_clay_5, bX11_clay_11, bX11_clay_20, bX11_clay_26, bX11_clay_35, bX11_clay_39, bX11_clay_48, bX11_clay_52, bX11_clay_59, bX11_clay_63, tk1_some, tk0_some, tkc_some, tkc_none, ↓reduceIte, E1, I1, IC, show ((1 : Int32) = 0) = False from by decide, not_false_eq_true, if_true, m_in, iv, bI_t, g22, l0, g18, Es, I3, D3, tm_rb1]
      · have d' : ¬ nI (sR S).2.2.2.1 = 0 := fun y => d (by rw [← le0, y]; decide)
        have l0 : ¬ nI (sR S).2.2.2.1 ≤ 0 := by rw [le0]; exact d
        obtain ⟨h2, X2, F2, _, _, D2, _⟩ := m_note X1 (t := 5) (by decide)
        rw [if_pos rfl, if_pos rfl, if_neg d']
        refine ⟨h2, ?_, X2, FrM_tr F1 F2⟩
        simp only [cX11_clay_, bX11_clay_0, bX11_clay_5, bX11_clay_11, bX11_clay_20, bX11_clay_26, bX11_clay_35, bX11_clay_39, bX11_clay_42, bX11_clay_47, tk1_some, tk0_some, tkc_some, tkc_none, ↓reduceIte, E1, I1, IC, show ((1 : Int32) = 0) = False from by decide, not_false_eq_true, if_true, m_in, iv, bI_t, g22, l0, if_false, D2, tm_rb0, sDen]
end M28
