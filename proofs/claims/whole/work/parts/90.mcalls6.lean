/-! THE REFERENCE's calls: cloud; a cell -/
section M31
variable {h : tm_H} {S : SS}
theorem m_cloud (X : MInv h S) (P : PX S) (Q : sBo S = true → PB S) (w0 : sBo S = true → 0 < widS S ∧ widS S ≤ 5) {i hard : Int32} : ∃ h', tC mX11_cloud [.ref 130, .int i, .int hard] h = some (h', some (sCloud S i hard).2) ∧ MInv h' (sCloud S i hard).1 ∧ FrM h h' := by
  obtain ⟨h1, E1, X1, F1, _, I1⟩ := m_thr X (v := 0)
  have IC := m_cut X1 Q w0 (i := i)
  unfold sCloud
  cases hs : hasS S i 0 with
  | false =>
    rw [hs, bI_f] at IC
    obtain ⟨h2, X2, F2, _, D2, _⟩ := m_note X1 (t := 1) (by decide)
    refine ⟨h2, ?_, X2, FrM_tr F1 F2⟩
    simp only [cX11_cloud_, bX11_cloud_0, bX11_cloud_5, bX11_cloud_10, bX11_cloud_13, bX11_cloud_18, tk1_some, tk0_some, tkc_some, tkc_none, ↓reduceIte, E1, I1, IC, not_true, D2, Bool.false_eq_true, if_false, sRef]
  | true =>
    rw [hs, bI_t] at IC
    cases iv : inB hard 0 99 with
    | false =>
      obtain ⟨h2, X2, F2, _, D2, _⟩ := m_note X1 (t := 2) (by decide)
      refine ⟨h2, ?_, X2, FrM_tr F1 F2⟩
      simp only [cX11_cloud_, bX11_cloud_0, bX11_cloud_5, bX11_cloud_10, bX11_cloud_19, bX11_cloud_26, bX11_cloud_46, bX11_cloud_51, tk1_some, tk0_some, tkc_some, tkc_none, ↓reduceIte, E1, I1, IC, show ((1 : Int32) = 0) = False from by decide, not_false_eq_true, if_true, m_in, iv, bI_f, D2, Bool.false_eq_true, if_false, sRef]
    | true =>
      obtain ⟨ei, li, _, lj, bo⟩ := has_nat P hs
      obtain ⟨b, nn, G, nm, Z, hm, km, W, a1, a2, K, e5, _, e2, _, g16, g17, _⟩ := m_see X1 P bo (Q bo)
      have c8 := px_c P
      have w5 := px_w P
      have PP := mcloud W a2 (by decide) (fun i j x y => by omega) K (Q bo).2.2.2.1 w5 li (hard := hard)
      rw [← ei, cloudG_c (fun j hj => e2 _ j li hj) (widS S) 0 (by omega)] at PP
      obtain ⟨h2, X2, F2, I2, _, _, _, _, D2⟩ := m_note X1 (t := 0) (by decide)
      have D2 := fun v => (D2 rfl v).1
      refine ⟨h2, ?_, X2, FrM_tr F1 F2⟩
      simp only [cX11_cloud_, bX11_cloud_0, bX11_cloud_5, bX11_cloud_10, bX11_cloud_19, bX11_cloud_26, bX11_cloud_29, bX11_cloud_35, bX11_cloud_40, bX11_cloud_43, bX11_cloud_51, tk1_some, tk0_some, tkc_some, tkc_none, ↓reduceIte, E1, I1, IC, show ((1 : Int32) = 0) = False from by decide, not_false_eq_true, if_true, m_in, iv, bI_t, if_false, g17, PP, D2, sAns]
theorem in4 {v : Int32} (h : inB v 0 4 = true) : v = 0 ∨ v = 1 ∨ v = 2 ∨ v = 3 ∨ v = 4 := by
  obtain ⟨k, hk, rfl⟩ := inB_nk (hi := 4) (by decide) h
  have : k = 0 ∨ k = 1 ∨ k = 2 ∨ k = 3 ∨ k = 4 := by omega
  rcases this with e | e | e | e | e <;> subst e
  · exact Or.inl rfl
  · exact Or.inr (Or.inl rfl)
  · exact Or.inr (Or.inr (Or.inl rfl))
  · exact Or.inr (Or.inr (Or.inr (Or.inl rfl)))
  · exact Or.inr (Or.inr (Or.inr (Or.inr rfl)))
theorem out4 {v : Int32} (h : inB v 0 4 = false) : ¬ v = 0 ∧ ¬ v = 1 ∧ ¬ v = 2 ∧ ¬ v = 3 ∧ ¬ v = 4 := by
  refine ⟨fun e => ?_, fun e => ?_, fun e => ?_, fun e => ?_, fun e => ?_⟩ <;> subst e <;> exact absurd h (by decide)
theorem m_cel (X : MInv h S) (P : PX S) (Q : sBo S = true → PB S) {i j what : Int32} : ∃ h', tC mX11_cell [.ref 130, .int i, .int j, .int what] h = some (h', some (.int (cellS S i j what))) ∧ MInv h' S ∧ FrM h h' := by
  obtain ⟨h1, E1, X1, F1, _, I1⟩ := m_thr X (v := 0)
  have IC := m_cell X1 Q (i := i) (j := j)
  refine ⟨h1, ?_, X1, F1⟩
  unfold cellS
  cases hs : hasS S i j with
  | false =>
    rw [hs, bI_f] at IC
    simp only [cX11_cell_, bX11_cell_0, bX11_cell_5, bX11_cell_11, bX11_cell_23, tk1_some, tk0_some, tkc_some, tkc_none, ↓reduceIte, E1, I1, IC, if_true, Bool.false_eq_true, if_false]
  | true =>
    rw [hs, bI_t] at IC
    obtain ⟨ei, li, ej, lj, bo⟩ := has_nat P hs
    cases iv : inB what 0 4 with
    | false =>
      obtain ⟨o0, o1, o2, o3, o4⟩ := out4 iv
      simp only [cX11_cell_, bX11_cell_0, bX11_cell_5, bX11_cell_11, bX11_cell_14, bX11_cell_20, bX11_cell_23, tk1_some, tk0_some, tkc_some, tkc_none, ↓reduceIte, E1, I1, IC, show ((1 : Int32) = 0) = False from by decide, if_true, m_in, iv, bI_f, not_true, if_false, o0, o1, o2, o3, o4]
    | true =>
      obtain ⟨b, nn, G, nm, Z, hm0, km0, W, a1, a2, K, e5, _, _, R, g16, g17, _⟩ := m_see X1 P bo (Q bo)
      obtain ⟨_, hm, km, cl, tu, th, om, HA, e8, e2, e6, e0, O⟩ := R
      have c8 := px_c P
      have w5 := px_w P
      have t0 : (40 : Nat) < 2 ^ 31 := by decide
      have lx : iN i * 5 + iN j < 40 := by omega
      have ex : 5 * i + j = nI (iN i * 5 + iN j) := by
        have := i5j' (iN i) (iN j)
        rw [← ei, ← ej] at this; exact this
      have q16 : tm_ai 0 (h1 132) (nI (iN i * 5 + iN j)) = some (.int ((sR S).1 8 (iN i * 5 + iN j))) := by rw [HA.2.1, tm_ai_in rfl lx t0, e8 _ _ li lj]
      have q17 : tm_ai 0 (h1 133) (nI (iN i * 5 + iN j)) = some (.int ((sR S).1 2 (iN i * 5 + iN j))) := by rw [HA.2.2.1, tm_ai_in rfl lx t0, e2 _ _ li lj]
      have q18 : tm_ai 0 (h1 134) (nI (iN i * 5 + iN j)) = some (.int ((sR S).1 0 (iN i * 5 + iN j))) := by rw [HA.2.2.2.1, tm_ai_in rfl lx t0, e0 _ _ li lj]
      have q19 : tm_ai 0 (h1 135) (nI (iN i * 5 + iN j)) = some (.int ((sR S).1 6 (iN i * 5 + iN j))) := by rw [HA.2.2.2.2.1, tm_ai_in rfl lx t0, e6 _ _ li lj]
      have g18 : tm_gf (h1 130) 11 18 = some (.ref 134) := by rw [HA.1, gf_11_18]
      have g19 : tm_gf (h1 130) 11 19 = some (.ref 135) := by rw [HA.1, gf_11_19]
      obtain ⟨k, hk, ek⟩ := K (iN i) (iN j) li lj
      have PS := msize W a1 a2 t0 lx hk ek
      rw [e5 _ _ li lj] at PS
      rcases in4 iv with e | e | e | e | e <;> subst e
      · simp only [cX11_cell_, bX11_cell_0, bX11_cell_5, bX11_cell_11, bX11_cell_14, bX11_cell_20, bX11_cell_23, bX11_cell_25, bX11_cell_36, bX11_cell_40, bX11_cell_43, bX11_cell_105, bX11_cell_46, bX11_cell_51, bX11_cell_55, bX11_cell_58, bX11_cell_61, bX11_cell_66, bX11_cell_70, bX11_cell_73, bX11_cell_76, bX11_cell_81, bX11_cell_86, bX11_cell_90, bX11_cell_95, bX11_cell_98, bX11_cell_102, tk1_some, tk0_some, tkc_some, tkc_none, ↓reduceIte, E1, I1, IC, show ((1 : Int32) = 0) = False from by decide, if_true, m_in, iv, bI_t, not_true, not_false_eq_true, if_false, ex, g16, q16]
      · simp only [cX11_cell_, bX11_cell_0, bX11_cell_5, bX11_cell_11, bX11_cell_14, bX11_cell_20, bX11_cell_23, bX11_cell_25, bX11_cell_36, bX11_cell_40, bX11_cell_43, bX11_cell_105, bX11_cell_46, bX11_cell_51, bX11_cell_55, bX11_cell_58, bX11_cell_61, bX11_cell_66, bX11_cell_70, bX11_cell_73, bX11_cell_76, bX11_cell_81, bX11_cell_86, bX11_cell_90, bX11_cell_95, bX11_cell_98, bX11_cell_102, tk1_some, tk0_some, tkc_some, tkc_none, ↓reduceIte, E1, I1, IC, show ((1 : Int32) = 0) = False from by decide, if_true, m_in, iv, bI_t, not_true, not_false_eq_true, if_false, ex, g17, q17]
      · simp only [cX11_cell_, bX11_cell_0, bX11_cell_5, bX11_cell_11, bX11_cell_14, bX11_cell_20, bX11_cell_23, bX11_cell_25, bX11_cell_36, bX11_cell_40, bX11_cell_43, bX11_cell_105, bX11_cell_46, bX11_cell_51, bX11_cell_55, bX11_cell_58, bX11_cell_61, bX11_cell_66, bX11_cell_70, bX11_cell_73, bX11_cell_76, bX11_cell_81, bX11_cell_86, bX11_cell_90, bX11_cell_95, bX11_cell_98, bX11_cell_102, tk1_some, tk0_some, tkc_some, tkc_none, ↓reduceIte, E1, I1, IC, show ((1 : Int32) = 0) = False from by decide, show ((2 : Int32) = 0) = False from by decide, show ((2 : Int32) = 1) = False from by decide, if_true, m_in, iv, bI_t, not_true, not_false_eq_true, if_false, ex, g18, q18]
      · simp only [cX11_cell_, bX11_cell_0, bX11_cell_5, bX11_cell_11, bX11_cell_14, bX11_cell_20, bX11_cell_23, bX11_cell_25, bX11_cell_36, bX11_cell_40, bX11_cell_43, bX11_cell_105, bX11_cell_46, bX11_cell_51, bX11_cell_55, bX11_cell_58, bX11_cell_61, bX11_cell_66, bX11_cell_70, bX11_cell_73, bX11_cell_76, bX11_cell_81, bX11_cell_86, bX11_cell_90, bX11_cell_95, bX11_cell_98, bX11_cell_102, tk1_some, tk0_some, tkc_some, tkc_none, ↓reduceIte, E1, I1, IC, show ((1 : Int32) = 0) = False from by decide, show ((3 : Int32) = 0) = False from by decide, show ((3 : Int32) = 1) = False from by decide, show ((3 : Int32) = 2) = False from by decide, if_true, m_in, iv, bI_t, not_true, not_false_eq_true, if_false, ex, g16, g17, PS]
      · simp only [cX11_cell_, bX11_cell_0, bX11_cell_5, bX11_cell_11, bX11_cell_14, bX11_cell_20, bX11_cell_23, bX11_cell_25, bX11_cell_36, bX11_cell_40, bX11_cell_43, bX11_cell_105, bX11_cell_46, bX11_cell_51, bX11_cell_55, bX11_cell_58, bX11_cell_61, bX11_cell_66, bX11_cell_70, bX11_cell_73, bX11_cell_76, bX11_cell_81, bX11_cell_86, bX11_cell_90, bX11_cell_95, bX11_cell_98, bX11_cell_102, tk1_some, tk0_some, tkc_some, tkc_none, ↓reduceIte, E1, I1, IC, show ((1 : Int32) = 0) = False from by decide, show ((4 : Int32) = 0) = False from by decide, show ((4 : Int32) = 1) = False from by decide, show ((4 : Int32) = 2) = False from by decide, show ((4 : Int32) = 3) = False from by decide, if_true, m_in, iv, bI_t, not_true, not_false_eq_true, if_false, ex, g19, q19]
end M31
