/-! THE REFERENCE's calls: pull, bend, crack -/
section M29
variable {h : tm_H} {S : SS}
/-- what can be read of the bar -/
theorem m_see (X : MInv h S) (P : PX S) (bo : sBo S = true) (Q : PB S) : ∃ (b nn : Nat) (G : Nat → Nat → Int32) (nm : Nat → Int64) (Z : MZ) (hm km : Nat → Int32), MW h b (sC S) (sB S) nn G nm ∧ h 132 = aI 40 hm ∧ h 133 = aI 40 km ∧ (∀ i j, i < cutS S → j < widS S → ∃ k, k < sC S 2 ∧ km (i * 5 + j) = nI k) ∧ EqI (cutS S) (widS S) (szM (sB S) hm km) ((sR S).1 5) ∧ EqI (cutS S) (widS S) hm ((sR S).1 8) ∧ EqI (cutS S) (widS S) km ((sR S).1 2) ∧ MR h Z (sH S) (sR S) (cutS S) (widS S) ∧ tm_gf (h 130) 11 16 = some (.ref 132) ∧ tm_gf (h 130) 11 17 = some (.ref 133) ∧ tm_gf (h 130) 11 3 = some (.ref b) := by
  obtain ⟨b, nn, G, nm, Z, z1, z2, M, R, _⟩ := MI_bar X bo
  have R0 := R
  obtain ⟨_, hm, km, cl, tu, th, om, HA, e8, e2, e6, e0, O⟩ := R
  obtain ⟨_, h5, en, ew, K, RA, SA, OA⟩ := Q
  have c8 := px_c P
  have w5 := px_w P
  refine ⟨b, nn, G, nm, Z, hm, km, MW_of HA.1 z1 M z2, HA.2.1, HA.2.2.1, fun i j x y => ?_, (sz_eqM w5 c8 e8 e2 SA RA).1, e8, e2, R0, by rw [HA.1, gf_11_16], by rw [HA.1, gf_11_17], by rw [HA.1, gf_11_3, z1]⟩
  rw [e2 i j x y]; exact K.1 _ (by omega)
theorem m_pull (X : MInv h S) (P : PX S) (Q : sBo S = true → PB S) {i j : Int32} : ∃ h', tC mX11_pull [.ref 130, .int i, .int j] h = some (h', some (sPull S i j).2) ∧ MInv h' (sPull S i j).1 ∧ FrM h h' := by
  obtain ⟨h1, E1, X1, F1, _, I1⟩ := m_thr X (v := 0)
  have IC := m_cell X1 Q (i := i) (j := j)
  unfold sPull
  cases hs : hasS S i j with
  | false =>
    rw [hs, bI_f] at IC
    obtain ⟨h2, X2, F2, _, _, _, D2, _⟩ := m_note X1 (t := 1) (by decide)
    refine ⟨h2, ?_, X2, FrM_tr F1 F2⟩
    simp only [cX11_pull_, bX11_pull_0, bX11_pull_5, bX11_pull_11, bX11_pull_39, bX11_pull_44, tk1_some, tk0_some, tkc_some, tkc_none, ↓reduceIte, E1, I1, IC, if_true, D2, Bool.false_eq_true, if_false]
  | true =>
    rw [hs, bI_t] at IC
    obtain ⟨ei, li, ej, lj, bo⟩ := has_nat P hs
    obtain ⟨b, nn, G, nm, Z, hm, km, W, a1, a2, K, e5, _, _, _, g16, g17, _⟩ := m_see X1 P bo (Q bo)
    have c8 := px_c P
    have w5 := px_w P
    have PP := mpull W a1 a2 (by decide) (fun i j x y => by omega) K (Q bo).2.2.2.1 w5 li lj
    rw [← ei, ← ej, pullS_c (fun j hj => e5 _ j li hj) lj] at PP
    obtain ⟨h2, X2, F2, I2, _, _, _, _, D2⟩ := m_note X1 (t := 0) (by decide)
    have D2 := (D2 rfl 0).1
    refine ⟨h2, ?_, X2, FrM_tr F1 F2⟩
    simp only [cX11_pull_, bX11_pull_0, bX11_pull_5, bX11_pull_11, bX11_pull_14, bX11_pull_19, bX11_pull_23, bX11_pull_28, bX11_pull_34, bX11_pull_44, tk1_some, tk0_some, tkc_some, tkc_none, ↓reduceIte, E1, I1, IC, show ((1 : Int32) = 0) = False from by decide, if_false, g16, g17, PP, D2, show (0 : Int32).toInt64 = 0 from rfl, Int64.add_zero, if_true]
theorem m_bend_ (X : MInv h S) (P : PX S) (Q : sBo S = true → PB S) {what : Int32} : ∃ h', tC mX11_bend [.ref 130, .int what] h = some (h', some (sBend S what).2) ∧ MInv h' (sBend S what).1 ∧ FrM h h' := by
  obtain ⟨h1, E1, X1, F1, _, I1⟩ := m_thr X (v := 0)
  unfold sBend
  cases bo : sBo S with
  | false =>
    have bk := (m_bk X1).2 bo
    obtain ⟨h2, X2, F2, _, _, _, _, D2, _⟩ := m_note X1 (t := 1) (by decide)
    refine ⟨h2, ?_, X2, FrM_tr F1 F2⟩
    simp only [cX11_bend_, bX11_bend_0, bX11_bend_5, bX11_bend_9n, bX11_bend_21, bX11_bend_26, tk1_some, tk0_some, tkc_some, tkc_none, ↓reduceIte, E1, bk, I1, D2, Bool.false_eq_true, if_false]
  | true =>
    cases iv : inB what 0 2 with
    | false =>
      obtain ⟨b0, bk⟩ := (m_bk X1).1 bo
      obtain ⟨h2, X2, F2, _, _, _, _, D2, _⟩ := m_note X1 (t := 1) (by decide)
      refine ⟨h2, ?_, X2, FrM_tr F1 F2⟩
      simp only [cX11_bend_, bX11_bend_0, bX11_bend_5, bX11_bend_9r, bX11_bend_12, bX11_bend_18, bX11_bend_21, bX11_bend_26, tk1_some, tk0_some, tkc_some, tkc_none, ↓reduceIte, E1, bk, m_in, iv, bI_f, not_true, if_false, I1, D2, Bool.false_eq_true, if_true]
    | true =>
      obtain ⟨b, nn, G, nm, Z, hm, km, W, a1, a2, K, e5, _, _, R, g16, g17, bk⟩ := m_see X1 P bo (Q bo)
      obtain ⟨_, _, _, _, g25, g26, _⟩ := MR_f R
      have PP := mbend W a1 a2 (px_c P) K (Q bo).2.2.1 (Q bo).2.2.2.1 (px_w P)
      rw [bendS_c e5] at PP
      obtain ⟨h2, X2, F2, I2, _, _, _, _, D2⟩ := m_note X1 (t := 0) (by decide)
      have D2 := fun v => (D2 rfl v).1
      by_cases d0 : what = 0
      · rw [if_pos rfl, if_pos rfl, if_pos d0]
        refine ⟨h2, ?_, X2, FrM_tr F1 F2⟩
        simp only [cX11_bend_, bX11_bend_0, bX11_bend_5, bX11_bend_9r, bX11_bend_12, bX11_bend_18, bX11_bend_27, bX11_bend_32, bX11_bend_36, bX11_bend_55, bX11_bend_58, tk1_some, tk0_some, tkc_some, tkc_none, ↓reduceIte, E1, bk, m_in, iv, bI_t, show ((1 : Int32) = 0) = False from by decide, not_false_eq_true, if_true, (eq_true d0 : (what = 0) = True), not_true, if_false, I1, PP, D2, sAns]
      · by_cases d1 : what = 1
        · rw [if_pos rfl, if_pos rfl, if_neg d0, if_pos d1]
          refine ⟨h2, ?_, X2, FrM_tr F1 F2⟩
          simp only [cX11_bend_, bX11_bend_0, bX11_bend_5, bX11_bend_9r, bX11_bend_12, bX11_bend_18, bX11_bend_27, bX11_bend_39, bX11_bend_44, bX11_bend_48, bX11_bend_55, bX11_bend_58, tk1_some, tk0_some, tkc_some, tkc_none, ↓reduceIte, E1, bk, m_in, iv, bI_t, show ((1 : Int32) = 0) = False from by decide, not_false_eq_true, if_true, d0, (eq_true d1 : (what = 1) = True), not_true, if_false, g25, I1, D2, sAns]
        · rw [if_pos rfl, if_pos rfl, if_neg d0, if_neg d1]
          refine ⟨h2, ?_, X2, FrM_tr F1 F2⟩
          simp only [cX11_bend_, bX11_bend_0, bX11_bend_5, bX11_bend_9r, bX11_bend_12, bX11_bend_18, bX11_bend_27, bX11_bend_39, bX11_bend_51, bX11_bend_55, bX11_bend_58, tk1_some, tk0_some, tkc_some, tkc_none, ↓reduceIte, E1, bk, m_in, iv, bI_t, show ((1 : Int32) = 0) = False from by decide, not_false_eq_true, if_true, d0, d1, g26, I1, D2, sAns]
theorem m_crack_ (X : MInv h S) {what : Int32} : ∃ h', tC mX11_crack [.ref 130, .int what] h = some (h', some (sCrack S what).2) ∧ MInv h' (sCrack S what).1 ∧ FrM h h' := by
  obtain ⟨h1, E1, X1, F1, _, I1⟩ := m_thr X (v := 0)
  unfold sCrack
  cases bo : sBo S with
  | false =>
    have bk := (m_bk X1).2 bo
    obtain ⟨h2, X2, F2, _, D2, _⟩ := m_note X1 (t := 1) (by decide)
    refine ⟨h2, ?_, X2, FrM_tr F1 F2⟩
    simp only [cX11_crack_, bX11_crack_0, bX11_crack_5, bX11_crack_9n, bX11_crack_21, bX11_crack_26, tk1_some, tk0_some, tkc_some, tkc_none, ↓reduceIte, E1, bk, I1, D2, Bool.false_eq_true, if_false, sRef]
  | true =>
    obtain ⟨b0, bk⟩ := (m_bk X1).1 bo
    cases iv : inB what 0 2 with
    | false =>
      obtain ⟨h2, X2, F2, _, D2, _⟩ := m_note X1 (t := 1) (by decide)
      refine ⟨h2, ?_, X2, FrM_tr F1 F2⟩
      simp only [cX11_crack_, bX11_crack_0, bX11_crack_5, bX11_crack_9r, bX11_crack_12, bX11_crack_18, bX11_crack_21, bX11_crack_26, tk1_some, tk0_some, tkc_some, tkc_none, ↓reduceIte, E1, bk, m_in, iv, bI_f, not_true, if_false, I1, D2, Bool.false_eq_true, if_true, sRef]
    | true =>
      obtain ⟨b, nn, G, nm, Z, z1, z2, M, R, put⟩ := MI_bar X1 bo
      obtain ⟨_, g22, g23, _⟩ := MR_f R
      obtain ⟨h2, X2, F2, I2, _, _, _, _, D2⟩ := m_note X1 (t := 0) (by decide)
      have D2 := fun v => (D2 rfl v).1
      by_cases e : (sR S).2.2.1 = -1
      · have e' : ((sR S).2.2.1 = -1) = True := eq_true e
        rw [if_pos rfl, if_pos rfl, if_pos e]
        refine ⟨h2, ?_, X2, FrM_tr F1 F2⟩
        simp only [cX11_crack_, bX11_crack_0, bX11_crack_5, bX11_crack_9r, bX11_crack_12, bX11_crack_18, bX11_crack_27, bX11_crack_31, bX11_crack_35, bX11_crack_41, tk1_some, tk0_some, tkc_some, tkc_none, ↓reduceIte, E1, bk, m_in, iv, bI_t, show ((1 : Int32) = 0) = False from by decide, not_false_eq_true, if_true, g23, e', not_true, if_false, I1, D2, sAns]
      · by_cases d0 : what = 0
        · rw [if_pos rfl, if_pos rfl, if_neg e, if_pos d0]
          refine ⟨h2, ?_, X2, FrM_tr F1 F2⟩
          simp only [cX11_crack_, bX11_crack_0, bX11_crack_5, bX11_crack_9r, bX11_crack_12, bX11_crack_18, bX11_crack_27, bX11_crack_31, bX11_crack_42, bX11_crack_47, bX11_crack_51, bX11_crack_74, bX11_crack_77, tk1_some, tk0_some, tkc_some, tkc_none, ↓reduceIte, E1, bk, m_in, iv, bI_t, show ((1 : Int32) = 0) = False from by decide, not_false_eq_true, if_true, g23, e, (eq_true d0 : (what = 0) = True), not_true, if_false, g22, I1, D2, sAns]
        · by_cases d1 : what = 1
          · rw [if_pos rfl, if_pos rfl, if_neg e, if_neg d0, if_pos d1]
            refine ⟨h2, ?_, X2, FrM_tr F1 F2⟩
            simp only [cX11_crack_, bX11_crack_0, bX11_crack_5, bX11_crack_9r, bX11_crack_12, bX11_crack_18, bX11_crack_27, bX11_crack_31, bX11_crack_42, bX11_crack_54, bX11_crack_59, bX11_crack_63, bX11_crack_74, bX11_crack_77, tk1_some, tk0_some, tkc_some, tkc_none, ↓reduceIte, E1, bk, m_in, iv, bI_t, show ((1 : Int32) = 0) = False from by decide, not_false_eq_true, if_true, g23, e, d0, (eq_true d1 : (what = 1) = True), not_true, if_false, I1, D2, sAns]
          · rw [if_pos rfl, if_pos rfl, if_neg e, if_neg d0, if_neg d1]
            refine ⟨h2, ?_, X2, FrM_tr F1 F2⟩
            simp only [cX11_crack_, bX11_crack_0, bX11_crack_5, bX11_crack_9r, bX11_crack_12, bX11_crack_18, bX11_crack_27, bX11_crack_31, bX11_crack_42, bX11_crack_54, bX11_crack_68, bX11_crack_72, bX11_crack_74, bX11_crack_77, tk1_some, tk0_some, tkc_some, tkc_none, ↓reduceIte, E1, bk, m_in, iv, bI_t, show ((1 : Int32) = 0) = False from by decide, not_false_eq_true, if_true, g23, e, d0, d1, I1, D2, sAns]
end M29
