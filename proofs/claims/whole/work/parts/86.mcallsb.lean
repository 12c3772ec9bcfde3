/-! THE REFERENCE's calls: pull, bend, crack -/
section M29
variable {h : tm_H} {S : SS}
/-- what can be read of the bar -/
theorem m_see (X : MInv h S) (P : PX S) (bo : sBo S = true) (Q : PB S) : ∃ (b nn : Nat) (G : Nat → Nat → Int32) (nm : Nat → Int64) (Z : MZ) (hm km : Nat → Int32), MW h b (sC S) (sB S) nn G nm ∧ h 72 = aI 40 hm ∧ h 73 = aI 40 km ∧ (∀ i j, i < cutS S → j < widS S → ∃ k, k < sC S 2 ∧ km (i * 5 + j) = nI k) ∧ EqI (cutS S) (widS S) (szM (sB S) hm km) ((sR S).1 5) ∧ EqI (cutS S) (widS S) hm ((sR S).1 8) ∧ EqI (cutS S) (widS S) km ((sR S).1 2) ∧ MR h Z (sH S) (sR S) (cutS S) (widS S) ∧ tm_gf (h 70) 11 16 = some (.ref 72) ∧ tm_gf (h 70) 11 17 = some (.ref 73) ∧ tm_gf (h 70) 11 3 = some (.ref b) := by
  obtain ⟨b, nn, G, nm, Z, z1, z2, M, R, _⟩ := MI_bar X bo
  have R0 := R
  obtain ⟨_, hm, km, cl, tu, th, om, HA, e8, e2, e6, e0, O⟩ := R
  obtain ⟨_, h5, en, ew, K, RA, SA, OA⟩ := Q
  have c8 := px_c P
  have w5 := px_w P
  refine ⟨b, nn, G, nm, Z, hm, km, MW_of HA.1 z1 M z2, HA.2.1, HA.2.2.1, fun i j x y => ?_, (sz_eqM w5 c8 e8 e2 SA RA).1, e8, e2, R0, by rw [HA.1, gf_11_16], by rw [HA.1, gf_11_17], by rw [HA.1, gf_11_3, z1]⟩
  rw [e2 i j x y]; exact K.1 _ (by omega)
theorem m_pull (X : MInv h S) (P : PX S) (Q : sBo S = true → PB S) {i j : Int32} : ∃ h', tC mX11_pull [.ref 70, .int i, .int j] h = some (h', some (sPull S i j).2) ∧ MInv h' (sPull S i j).1 ∧ FrM h h' := by
  obtain ⟨h1, E1, X1, F1, _, I1⟩ := m_thr X (v := 0)
  have IC := m_cell X1 Q (i := i) (j := j)
  unfold sPull
  cases hs : hasS S i j with
  | false =>
    rw [hs, bI_f] at IC
    obtain ⟨h2, X2, F2, _, _, _, D2, _⟩ := m_note X1 (t := 1) (by decide)
    refine ⟨h2, ?_, X2, FrM_tr F1 F2⟩
    simp only [cX11_pull_, bX11_pull_0, bX11_pull_5, bX11_pull_11, bX11_pull_39, bX11_pull_44, tk1_some, tk0_some, tkc_some, tkc_none, ↓reduceIte, E1, I1, IC, if_true, D2, Bool.false_eq_true, if_false]
  | true =>
    rw [hs, bI_t] at IC
    obtain ⟨ei, li, ej, lj, bo⟩ := has_nat P hs
    obtain ⟨b, nn, G, nm, Z, hm, km, W, a1, a2, K, e5, _, _, _, g16, g17, _⟩ := m_see X1 P bo (Q bo)
    have c8 := px_c P
    have w5 := px_w P
    have PP := mpull W a1 a2 (by decide) (fun i j x y => by omega) K (Q bo).2.2.2.1 w5 li lj
    rw [← ei, ← ej, pullS_c (fun j hj => e5 _ j li hj) lj] at PP
    obtain ⟨h2, X2, F2, I2, _, _, _, _, D2⟩ := m_note X1 (t := 0) (by decide)
    have D2 := (D2 rfl 0).1
    refine ⟨h2, ?_, X2, FrM_tr F1 F2⟩
    simp only [cX11_pull_, bX11_pull_0, bX11_pull_5, bX11_pull_11, bX11_pull_14, bX11_pull_19, bX11_pull_23, bX11_pull_28, bX11_pull_34, bX11_pull_44, tk1_some, tk0_some, tkc_some, tkc_none, ↓reduceIte, E1, I1, IC, show ((1 : Int32) = 0) = False from by decide, if_false, g16, g17, PP, D2, show (0 : Int32).toInt64 = 0 from rfl, Int64.add_zero, if_true]
theorem m_bend_ (X : MInv h S) (P : PX S) (Q : sBo S = true → PB S) {what : Int32} : ∃ h', tC mX11_bend [.ref 70, .int what] h = some (h', some (sBend S what).2) ∧ MInv h' (sBend S what).1 ∧ FrM h h' := by
  obtain ⟨h1, E1, X1, F1, _, I1⟩ := m_thr X (v := 0)
  unfold sBend
  cases bo : sBo S with
  | false =>
    have bk := (m_bk X1).2 bo
    obtain ⟨h2, X2, F2, _, _, _, _, D2, _⟩ := m_note X1 (t := 1) (by decide)
    refine ⟨h2, ?_, X2, FrM_tr F1 F2⟩
    simp only [cX11_bend_, bX11_bend_0, bX11_bend_5, bX11_bend_9n, bX11_bend_21, bX11_bend_26, tk1_some, tk0_some, tkc_some, tkc_none, ↓reduceIte, E1, bk, I1, D2, Bool.false_eq_true, if_false]
  | true =>
    cases iv : inB what 0 2 with
    | false =>
      obtain ⟨b0, bk⟩ := (m_bk X1).1 bo
      obtain ⟨h2, X2, F2, _, _, _, _, D2, _⟩ := m_note X1 (t := 1) (by decide)
      refine ⟨h2, ?_, X2, FrM_tr F1 F2⟩
      simp only [cX11_bend_, bX11_bend_0, bX11_bend_5, bX11_bend_9r, bX11_bend_12, bX11_bend_18, bX11_bend_21, bX11_bend_26, tk1_some, tk0_some, tkc_some, tkc_none, ↓reduceIte, E1, bk, m_in, iv, bI_f, not_true, if_false, I1, D2, Bool.false_eq_true, if_true]
    | true =>
      obtain ⟨b, nn, G, nm, Z, hm, km, W, a1, a2, K, e5, _, _, R, g16, g17, bk⟩ := m_see X1 P bo (Q bo)
      obtain ⟨_, _, _, _, g25, g26, _⟩ := MR_f R
      have PP := mbend W a1 a2 (px_c P) K (Q bo).2.2.1 (Q bo).2.2.2.1 (px_w P)
      rw [bendS_c e5] at PP
      obtain ⟨h2, X2, F2, I2, _, _, _, _, D2⟩ := m_note X1 (t := 0) (by decide)
      have D2 := fun v => (D2 rfl v).1
      by_cases d0 : what = 0
      · rw [if_pos rfl, if_pos rfl, if_pos d0]
        refine ⟨h2, ?_, X2, FrM_tr F1 F2⟩
        simp only [cX11_bend_, bX11_bend_0, bX11_bend_5, bX11_bend_9r, bX11_bend_12, bX11_bend_18, bX11_bend_27, bX11_bend_32, bX11_bend_36, bX11_bend_55, bX11_bend_58, tk1_some, tk0_some, tkc_some, tkc_none, ↓reduceIte, E1, bk, m_in, iv, bI_t, show ((1 : Int32) = 0) = False from by decide, not_false_eq_true, if_true, (eq_true d0 : (what = 0) = True), not_true, if_false, I1, PP, D2, sAns]
      · by_cases d1 : what = 1
        · rw [if_pos rfl, if_pos rfl, if_neg d0, if_pos d1]
          refine ⟨h2, ?_, X2, FrM_tr F1 F2⟩
          simp only [cX11_bend_, bX11_bend_0, bX11_bend_5, bX11_bend_9r, bX11_bend_12, bX11_bend_18, bX11_bend_27, bX11_bend_39, bX11_bend_44, bX11_bend_48, bX11_bend_55, bX11_bend_58, tk1_some, tk0_some, tkc_some, tkc_none, ↓reduceIte, E1, bk, m_in, iv, bI_t, show ((1 : Int32) = 0) = False from by decide, not_false_eq_true, if_true, d0, (eq_true d1 : (what = 1) = True), not_true, if_false, g25, I1, D2, sAns]
        · rw [if_pos rfl, if_pos rfl, if_neg d0, if_neg d1]
          refine ⟨h2, ?_, X2, FrM_tr F1 F2⟩
          simp only [cX11_bend_, bX11_bend_0, bX11_bend_5, bX11_bend_9r, bX11_bend_12, bX11_bend_18, bX11_bend_27, bX11_bend_39, bX11_bend_51, bX11_bend_55, bX11_bend_58, tk1_some, tk0_some, tkc_some, tkc_none, ↓reduceIte, E1, bk, m_in, iv, bI_t, show ((1 : Int32) = 0) = False from by decide, not_false_eq_true, if_true, d0, d1, g26, I1, D2, sAns]
theorem m_crack_ (X : MInv h S) {what : Int32} : ∃ h', tC mX11_crack [.ref 70, .int what] h = some (h', some (sCrack S what).2) ∧ MInv h' (sCrack S what).1 ∧ FrM h h' := by
  obtain ⟨h1, E1, X1, F1, _, I1⟩ := m_thr X (v := 0)
  unfold sCrack
  cases bo : sBo S with
  | false =>
    have bk := (m_bk X1).2 bo
    obtain ⟨h2, X2, F2, _, D2, _⟩ := m_note X1 (t := 1) (by decide)
    refine ⟨h2, ?_, X2, FrM_tr F1 F2⟩
    simp only [cX11_crack_, bX11_crack_0, bX11_crack_5, bX11_crack_9n, bX11_crack_21, bX11_crack_26, tk1_some, tk0_some, tkc_some, tkc_none, ↓reduceIte, E1, bk, I1, D2, Bool.false_eq_true, if_false, sRef]
  | true =>
    obtain ⟨b0, bk⟩ := (m_bk X1).1 bo
    cases iv : inB what 0 2 with
    | false =>
      obtain ⟨h2, X2, F2, _, D2, _⟩ := m_note X1 (t := 1) (by decide)
      refine ⟨h2, ?_, X2, FrM_tr F1 F2⟩
      simp only [cX11_crack_, bX11_crack_0, bX11_crack_5, bX11_crack_9r, bX11_crack_12, bX11_crack_18, bX11_crack_21, bX11_crack_26, tk1_some, tk0_some, tkc_some, tkc_none, ↓reduceIte, E1, bk, m_in, iv, bI_f, not_true, if_false, I1, D2, Bool.false_eq_true, if_true, sRef]
    | true =>
      obtain ⟨b, nn, G, nm, Z, z1, z2, M, R, put⟩ := MI_bar X1 bo
      obtain ⟨_, g22, g23, _⟩ := MR_f R
      obtain ⟨h2, X2, F2, I2, _, _, _, _, D2⟩ := m_note X1 (t := 0) (by decide)
      have D2 := fun v => (D2 rfl v).1
      by_cases e : (sR S).2.2.1 = -1
      · have e' : ((sR S).2.2.1 = -1) = True := eq_true e
        rw [if_pos rfl, if_pos rfl, if_pos e]
        refine ⟨h2, ?_, X2, FrM_tr F1 F2⟩
        simp only [cX11_crack_, bX11_crack_0, bX11_crack_5, bX11_crack_9r, bX11_crack_12, bX11_crack_18, bX11_crack_27, bX11_crack_31, bX11_crack_35, bX11_crack_41, tk1_some, tk0_some, tkc_some, tkc_none, ↓reduceIte, E1, bk, m_in, iv, bI_t, show ((1 : Int32) = 0) = False from by decide, not_false_eq_true, if_true, g23, e', not_true, if_false, I1, D2, sAns]
      · by_cases d0 : what = 0
        · rw [if_pos rfl, if_pos rfl, if_neg e, if_pos d0]
          refine ⟨h2, ?_, X2, FrM_tr F1 F2⟩
          simp only [cX11_crack_, bX11_crack_0, bX11_crack_5, bX11_crack_9r, bX11_crack_12, bX11_crack_18, bX11_crack_27, bX11_crack_31, bX11_crack_42, bX11_crack_47, bX11_crack_51, bX11_crack_74, bX11_crack_77, tk1_some, tk0_some, tkc_some, tkc_none, ↓reduceIte, E1, bk, m_in, iv, bI_t, show ((1 : Int32) = 0) = False from by decide, not_false_eq_true, if_true, g23, e, (eq_true d0 : (what = 0) = True), not_true, if_false, g22, I1, D2, sAns]
        · by_cases d1 : what = 1
          · rw [if_pos rfl, if_pos rfl, if_neg e, if_neg d0, if_pos d1]
            refine ⟨h2, ?_, X2, FrM_tr F1 F2⟩
            simp only [cX11_crack_, bX11_crack_0, bX11_crack_5, bX11_crack_9r, bX11_crack_12, bX11_crack_18, bX11_crack_27, bX11_crack_31, bX11_crack_42, bX11_crack_54, bX11_crack_59, bX11_crack_63, bX11_crack_74, bX11_crack_77, tk1_some, tk0_some, tkc_some, tkc_none, ↓reduceIte, E1, bk, m_in, iv, bI_t, show ((1 : Int32) = 0) = False from by decide, not_false_eq_true, if_true, g23, e, d0, (eq_true d1 : (what = 1) = True), not_true, if_false, I1, D2, sAns]
          · rw [if_pos rfl, if_pos rfl, if_neg e, if_neg d0, if_neg d1]
            refine ⟨h2, ?_, X2, FrM_tr F1 F2⟩
            simp only [cX11_crack_, bX11_crack_0, bX11_crack_5, bX11_crack_9r, bX11_crack_12, bX11_crack_18, bX11_crack_27, bX11_crack_31, bX11_crack_42, bX11_crack_54, bX11_crack_68, bX11_crack_72, bX11_crack_74, bX11_crack_77, tk1_some, tk0_some, tkc_some, tkc_none, ↓reduceIte, E1, bk, m_in, iv, bI_t, show ((1 : Int32) = 0) = False from by decide, not_false_eq_true, if_true, g23, e, d0, d1, I1, D2, sAns]
end M29
/-! THE REFERENCE's calls: cuts; curve -/
section M30
variable {h : tm_H} {S : SS}
theorem has_0 (w0 : sBo S = true → 0 < widS S ∧ widS S ≤ 5) {i : Int32} : hasS S i 0 = (decide (0 ≤ i) && decide (i < nI (cutS S))) := by
  unfold hasS
  by_cases a : 0 ≤ i
  · by_cases c : i < nI (cutS S)
    · have bo : sBo S = true := by
        cases bo : sBo S with
        | true => rfl
        | false =>
          rw [show cutS S = 0 by unfold cutS; rw [bo]; rfl, nI_0] at c
          exact absurd c (Int32.not_lt.mpr a)
      have := w0 bo
      have e : (0 : Int32) < nI (widS S) := nI_lt (a := 0) this.1 (by omega)
      rw [decide_eq_true a, decide_eq_true c, decide_eq_true e, decide_eq_true (Int32.le_refl 0)]; rfl
    · rw [decide_eq_false c]; simp only [Bool.and_false, Bool.false_and]
  · rw [decide_eq_false a]; simp only [Bool.false_and]
theorem m_cut (X : MInv h S) (Q : sBo S = true → PB S) (w0 : sBo S = true → 0 < widS S ∧ widS S ≤ 5) {i : Int32} : tC mX11_isCut [.ref 70, .int i] h = some (h, some (.int (bI (hasS S i 0)))) := by
  rw [has_0 w0]
  cases bo : sBo S with
  | false =>
    have bk := (m_bk X).2 bo
    have e : (decide (0 ≤ i) && decide (i < nI (cutS S))) = false := by
      by_cases a : 0 ≤ i
      · have : ¬ i < nI (cutS S) := by
          rw [show cutS S = 0 by unfold cutS; rw [bo]; rfl, nI_0]; exact Int32.not_lt.mpr a
        rw [decide_eq_false this]; simp only [Bool.and_false]
      · rw [decide_eq_false a]; simp only [Bool.false_and]
    rw [e]
    simp only [cX11_isCut_, bX11_isCut_0, bX11_isCut_4n, bX11_isCut_26, bX11_isCut_27, tk1_some, tk0_some, tkc_some, tkc_none, ↓reduceIte, bk, tm_rb0, bI_f]
  | true =>
    obtain ⟨b, nn, G, nm, Z, z1, z2, M, R, _⟩ := MI_bar X bo
    obtain ⟨_, _, en, ew, _⟩ := Q bo
    obtain ⟨_, hm, km, cl, tu, th, om, HA, _⟩ := R
    have bk : tm_gf (h 70) 11 3 = some (.ref b) := by rw [HA.1, gf_11_3, z1]
    have g0 : tm_gf (h b) 10 0 = some (.int (nI (cutS S))) := by rw [M.1, gf_10_0, en]
    by_cases a : i < 0
    · rw [decide_eq_false (Int32.not_le.mpr a)]
      simp only [cX11_isCut_, bX11_isCut_0, bX11_isCut_4r, bX11_isCut_7, bX11_isCut_26, bX11_isCut_27, tk1_some, tk0_some, tkc_some, tkc_none, ↓reduceIte, bk, a, if_true, tm_rb0, bI_f, Bool.false_and]
    · rw [decide_eq_true (Int32.not_lt.mp a)]
      by_cases c : nI (cutS S) ≤ i
      · rw [decide_eq_false (Int32.not_lt.mpr c)]
        simp only [cX11_isCut_, bX11_isCut_0, bX11_isCut_4r, bX11_isCut_7, bX11_isCut_11, bX11_isCut_16, bX11_isCut_19, bX11_isCut_26, bX11_isCut_27, tk1_some, tk0_some, tkc_some, tkc_none, ↓reduceIte, bk, a, if_false, g0, c, if_true, tm_rb0, bI_f, Bool.and_false]
      · rw [decide_eq_true (Int32.not_le.mp c)]
        simp only [cX11_isCut_, bX11_isCut_0, bX11_isCut_4r, bX11_isCut_7, bX11_isCut_11, bX11_isCut_16, bX11_isCut_19, bX11_isCut_22, bX11_isCut_27, tk1_some, tk0_some, tkc_some, tkc_none, ↓reduceIte, bk, a, if_false, g0, c, tm_rb1, bI_t, Bool.and_self]
theorem m_curve (X : MInv h S) (P : PX S) (Q : sBo S = true → PB S) (w0 : sBo S = true → 0 < widS S ∧ widS S ≤ 5) {i : Int32} : ∃ h', tC mX11_curve [.ref 70, .int i] h = some (h', some (sCurve S i).2) ∧ MInv h' (sCurve S i).1 ∧ FrM h h' := by
  obtain ⟨h1, E1, X1, F1, _, I1⟩ := m_thr X (v := 0)
  have IC := m_cut X1 Q w0 (i := i)
  unfold sCurve
  cases hs : hasS S i 0 with
  | false =>
    rw [hs, bI_f] at IC
    obtain ⟨h2, X2, F2, _, _, _, _, D2, _⟩ := m_note X1 (t := 1) (by decide)
    refine ⟨h2, ?_, X2, FrM_tr F1 F2⟩
    simp only [cX11_curve_, bX11_curve_0, bX11_curve_5, bX11_curve_10, bX11_curve_33, bX11_curve_38, tk1_some, tk0_some, tkc_some, tkc_none, ↓reduceIte, E1, I1, IC, if_true, D2, Bool.false_eq_true, if_false]
  | true =>
    rw [hs, bI_t] at IC
    obtain ⟨ei, li, _, lj, bo⟩ := has_nat P hs
    obtain ⟨b, nn, G, nm, Z, hm, km, W, a1, a2, K, e5, _, _, _, g16, g17, _⟩ := m_see X1 P bo (Q bo)
    have c8 := px_c P
    have w5 := px_w P
    have PP := mcur W a1 a2 (by decide) (fun i j x y => by omega) K (Q bo).2.2.2.1 w5 li
    rw [← ei, curS_c (fun j hj => e5 _ j li hj)] at PP
    obtain ⟨h2, X2, F2, I2, _, _, _, _, D2⟩ := m_note X1 (t := 0) (by decide)
    have D2 := fun v => (D2 rfl v).1
    refine ⟨h2, ?_, X2, FrM_tr F1 F2⟩
    simp only [cX11_curve_, bX11_curve_0, bX11_curve_5, bX11_curve_10, bX11_curve_13, bX11_curve_19, bX11_curve_23, bX11_curve_27, bX11_curve_30, bX11_curve_38, tk1_some, tk0_some, tkc_some, tkc_none, ↓reduceIte, E1, I1, IC, show ((1 : Int32) = 0) = False from by decide, if_false, g16, g17, PP, D2, if_true, sAns]
end M30
/-! THE REFERENCE's calls: cloud; a cell -/
section M31
variable {h : tm_H} {S : SS}
theorem m_cloud (X : MInv h S) (P : PX S) (Q : sBo S = true → PB S) (w0 : sBo S = true → 0 < widS S ∧ widS S ≤ 5) {i hard : Int32} : ∃ h', tC mX11_cloud [.ref 70, .int i, .int hard] h = some (h', some (sCloud S i hard).2) ∧ MInv h' (sCloud S i hard).1 ∧ FrM h h' := by
  obtain ⟨h1, E1, X1, F1, _, I1⟩ := m_thr X (v := 0)
  have IC := m_cut X1 Q w0 (i := i)
  unfold sCloud
  cases hs : hasS S i 0 with
  | false =>
    rw [hs, bI_f] at IC
    obtain ⟨h2, X2, F2, _, D2, _⟩ := m_note X1 (t := 1) (by decide)
    refine ⟨h2, ?_, X2, FrM_tr F1 F2⟩
    simp only [cX11_cloud_, bX11_cloud_0, bX11_cloud_5, bX11_cloud_10, bX11_cloud_13, bX11_cloud_18, tk1_some, tk0_some, tkc_some, tkc_none, ↓reduceIte, E1, I1, IC, not_true, D2, Bool.false_eq_true, if_false, sRef]
  | true =>
    rw [hs, bI_t] at IC
    cases iv : inB hard 0 99 with
    | false =>
      obtain ⟨h2, X2, F2, _, D2, _⟩ := m_note X1 (t := 2) (by decide)
      refine ⟨h2, ?_, X2, FrM_tr F1 F2⟩
      simp only [cX11_cloud_, bX11_cloud_0, bX11_cloud_5, bX11_cloud_10, bX11_cloud_19, bX11_cloud_26, bX11_cloud_46, bX11_cloud_51, tk1_some, tk0_some, tkc_some, tkc_none, ↓reduceIte, E1, I1, IC, show ((1 : Int32) = 0) = False from by decide, not_false_eq_true, if_true, m_in, iv, bI_f, D2, Bool.false_eq_true, if_false, sRef]
    | true =>
      obtain ⟨ei, li, _, lj, bo⟩ := has_nat P hs
      obtain ⟨b, nn, G, nm, Z, hm, km, W, a1, a2, K, e5, _, e2, _, g16, g17, _⟩ := m_see X1 P bo (Q bo)
      have c8 := px_c P
      have w5 := px_w P
      have PP := mcloud W a2 (by decide) (fun i j x y => by omega) K (Q bo).2.2.2.1 w5 li (hard := hard)
      rw [← ei, cloudG_c (fun j hj => e2 _ j li hj) (widS S) 0 (by omega)] at PP
      obtain ⟨h2, X2, F2, I2, _, _, _, _, D2⟩ := m_note X1 (t := 0) (by decide)
      have D2 := fun v => (D2 rfl v).1
      refine ⟨h2, ?_, X2, FrM_tr F1 F2⟩
      simp only [cX11_cloud_, bX11_cloud_0, bX11_cloud_5, bX11_cloud_10, bX11_cloud_19, bX11_cloud_26, bX11_cloud_29, bX11_cloud_35, bX11_cloud_40, bX11_cloud_43, bX11_cloud_51, tk1_some, tk0_some, tkc_some, tkc_none, ↓reduceIte, E1, I1, IC, show ((1 : Int32) = 0) = False from by decide, not_false_eq_true, if_true, m_in, iv, bI_t, if_false, g17, PP, D2, sAns]
theorem in4 {v : Int32} (h : inB v 0 4 = true) : v = 0 ∨ v = 1 ∨ v = 2 ∨ v = 3 ∨ v = 4 := by
  obtain ⟨k, hk, rfl⟩ := inB_nk (hi := 4) (by decide) h
  have : k = 0 ∨ k = 1 ∨ k = 2 ∨ k = 3 ∨ k = 4 := by omega
  rcases this with e | e | e | e | e <;> subst e
  · exact Or.inl rfl
  · exact Or.inr (Or.inl rfl)
  · exact Or.inr (Or.inr (Or.inl rfl))
  · exact Or.inr (Or.inr (Or.inr (Or.inl rfl)))
  · exact Or.inr (Or.inr (Or.inr (Or.inr rfl)))
theorem out4 {v : Int32} (h : inB v 0 4 = false) : ¬ v = 0 ∧ ¬ v = 1 ∧ ¬ v = 2 ∧ ¬ v = 3 ∧ ¬ v = 4 := by
  refine ⟨fun e => ?_, fun e => ?_, fun e => ?_, fun e => ?_, fun e => ?_⟩ <;> subst e <;> exact absurd h (by decide)
theorem m_cel (X : MInv h S) (P : PX S) (Q : sBo S = true → PB S) {i j what : Int32} : ∃ h', tC mX11_cell [.ref 70, .int i, .int j, .int what] h = some (h', some (.int (cellS S i j what))) ∧ MInv h' S ∧ FrM h h' := by
  obtain ⟨h1, E1, X1, F1, _, I1⟩ := m_thr X (v := 0)
  have IC := m_cell X1 Q (i := i) (j := j)
  refine ⟨h1, ?_, X1, F1⟩
  unfold cellS
  cases hs : hasS S i j with
  | false =>
    rw [hs, bI_f] at IC
    simp only [cX11_cell_, bX11_cell_0, bX11_cell_5, bX11_cell_11, bX11_cell_23, tk1_some, tk0_some, tkc_some, tkc_none, ↓reduceIte, E1, I1, IC, if_true, Bool.false_eq_true, if_false]
  | true =>
    rw [hs, bI_t] at IC
    obtain ⟨ei, li, ej, lj, bo⟩ := has_nat P hs
    cases iv : inB what 0 4 with
    | false =>
      obtain ⟨o0, o1, o2, o3, o4⟩ := out4 iv
      simp only [cX11_cell_, bX11_cell_0, bX11_cell_5, bX11_cell_11, bX11_cell_14, bX11_cell_20, bX11_cell_23, tk1_some, tk0_some, tkc_some, tkc_none, ↓reduceIte, E1, I1, IC, show ((1 : Int32) = 0) = False from by decide, if_true, m_in, iv, bI_f, not_true, if_false, o0, o1, o2, o3, o4]
    | true =>
      obtain ⟨b, nn, G, nm, Z, hm0, km0, W, a1, a2, K, e5, _, _, R, g16, g17, _⟩ := m_see X1 P bo (Q bo)
      obtain ⟨_, hm, km, cl, tu, th, om, HA, e8, e2, e6, e0, O⟩ := R
      have c8 := px_c P
      have w5 := px_w P
      have t0 : (40 : Nat) < 2 ^ 31 := by decide
      have lx : iN i * 5 + iN j < 40 := by omega
      have ex : 5 * i + j = nI (iN i * 5 + iN j) := by
        have := i5j' (iN i) (iN j)
        rw [← ei, ← ej] at this; exact this
      have q16 : tm_ai 0 (h1 72) (nI (iN i * 5 + iN j)) = some (.int ((sR S).1 8 (iN i * 5 + iN j))) := by rw [HA.2.1, tm_ai_in rfl lx t0, e8 _ _ li lj]
      have q17 : tm_ai 0 (h1 73) (nI (iN i * 5 + iN j)) = some (.int ((sR S).1 2 (iN i * 5 + iN j))) := by rw [HA.2.2.1, tm_ai_in rfl lx t0, e2 _ _ li lj]
      have q18 : tm_ai 0 (h1 74) (nI (iN i * 5 + iN j)) = some (.int ((sR S).1 0 (iN i * 5 + iN j))) := by rw [HA.2.2.2.1, tm_ai_in rfl lx t0, e0 _ _ li lj]
      have q19 : tm_ai 0 (h1 75) (nI (iN i * 5 + iN j)) = some (.int ((sR S).1 6 (iN i * 5 + iN j))) := by rw [HA.2.2.2.2.1, tm_ai_in rfl lx t0, e6 _ _ li lj]
      have g18 : tm_gf (h1 70) 11 18 = some (.ref 74) := by rw [HA.1, gf_11_18]
      have g19 : tm_gf (h1 70) 11 19 = some (.ref 75) := by rw [HA.1, gf_11_19]
      obtain ⟨k, hk, ek⟩ := K (iN i) (iN j) li lj
      have PS := msize W a1 a2 t0 lx hk ek
      rw [e5 _ _ li lj] at PS
      rcases in4 iv with e | e | e | e | e <;> subst e
      · simp only [cX11_cell_, bX11_cell_0, bX11_cell_5, bX11_cell_11, bX11_cell_14, bX11_cell_20, bX11_cell_23, bX11_cell_25, bX11_cell_36, bX11_cell_40, bX11_cell_43, bX11_cell_105, bX11_cell_46, bX11_cell_51, bX11_cell_55, bX11_cell_58, bX11_cell_61, bX11_cell_66, bX11_cell_70, bX11_cell_73, bX11_cell_76, bX11_cell_81, bX11_cell_86, bX11_cell_90, bX11_cell_95, bX11_cell_98, bX11_cell_102, tk1_some, tk0_some, tkc_some, tkc_none, ↓reduceIte, E1, I1, IC, show ((1 : Int32) = 0) = False from by decide, if_true, m_in, iv, bI_t, not_true, not_false_eq_true, if_false, ex, g16, q16]
      · simp only [cX11_cell_, bX11_cell_0, bX11_cell_5, bX11_cell_11, bX11_cell_14, bX11_cell_20, bX11_cell_23, bX11_cell_25, bX11_cell_36, bX11_cell_40, bX11_cell_43, bX11_cell_105, bX11_cell_46, bX11_cell_51, bX11_cell_55, bX11_cell_58, bX11_cell_61, bX11_cell_66, bX11_cell_70, bX11_cell_73, bX11_cell_76, bX11_cell_81, bX11_cell_86, bX11_cell_90, bX11_cell_95, bX11_cell_98, bX11_cell_102, tk1_some, tk0_some, tkc_some, tkc_none, ↓reduceIte, E1, I1, IC, show ((1 : Int32) = 0) = False from by decide, if_true, m_in, iv, bI_t, not_true, not_false_eq_true, if_false, ex, g17, q17]
      · simp only [cX11_cell_, bX11_cell_0, bX11_cell_5, bX11_cell_11, bX11_cell_14, bX11_cell_20, bX11_cell_23, bX11_cell_25, bX11_cell_36, bX11_cell_40, bX11_cell_43, bX11_cell_105, bX11_cell_46, bX11_cell_51, bX11_cell_55, bX11_cell_58, bX11_cell_61, bX11_cell_66, bX11_cell_70, bX11_cell_73, bX11_cell_76, bX11_cell_81, bX11_cell_86, bX11_cell_90, bX11_cell_95, bX11_cell_98, bX11_cell_102, tk1_some, tk0_some, tkc_some, tkc_none, ↓reduceIte, E1, I1, IC, show ((1 : Int32) = 0) = False from by decide, show ((2 : Int32) = 0) = False from by decide, show ((2 : Int32) = 1) = False from by decide, if_true, m_in, iv, bI_t, not_true, not_false_eq_true, if_false, ex, g18, q18]
      · simp only [cX11_cell_, bX11_cell_0, bX11_cell_5, bX11_cell_11, bX11_cell_14, bX11_cell_20, bX11_cell_23, bX11_cell_25, bX11_cell_36, bX11_cell_40, bX11_cell_43, bX11_cell_105, bX11_cell_46, bX11_cell_51, bX11_cell_55, bX11_cell_58, bX11_cell_61, bX11_cell_66, bX11_cell_70, bX11_cell_73, bX11_cell_76, bX11_cell_81, bX11_cell_86, bX11_cell_90, bX11_cell_95, bX11_cell_98, bX11_cell_102, tk1_some, tk0_some, tkc_some, tkc_none, ↓reduceIte, E1, I1, IC, show ((1 : Int32) = 0) = False from by decide, show ((3 : Int32) = 0) = False from by decide, show ((3 : Int32) = 1) = False from by decide, show ((3 : Int32) = 2) = False from by decide, if_true, m_in, iv, bI_t, not_true, not_false_eq_true, if_false, ex, g16, g17, PS]
      · simp only [cX11_cell_, bX11_cell_0, bX11_cell_5, bX11_cell_11, bX11_cell_14, bX11_cell_20, bX11_cell_23, bX11_cell_25, bX11_cell_36, bX11_cell_40, bX11_cell_43, bX11_cell_105, bX11_cell_46, bX11_cell_51, bX11_cell_55, bX11_cell_58, bX11_cell_61, bX11_cell_66, bX11_cell_70, bX11_cell_73, bX11_cell_76, bX11_cell_81, bX11_cell_86, bX11_cell_90, bX11_cell_95, bX11_cell_98, bX11_cell_102, tk1_some, tk0_some, tkc_some, tkc_none, ↓reduceIte, E1, I1, IC, show ((1 : Int32) = 0) = False from by decide, show ((4 : Int32) = 0) = False from by decide, show ((4 : Int32) = 1) = False from by decide, show ((4 : Int32) = 2) = False from by decide, show ((4 : Int32) = 3) = False from by decide, if_true, m_in, iv, bI_t, not_true, not_false_eq_true, if_false, ex, g19, q19]
end M31
