/-! THE REFERENCE's calls: trouble, fault, where; layers are read -/
section M32
variable {h : tm_H} {S : SS}
theorem m_top (X : MInv h S) : tm_gf (h 130) 11 1 = some (.int (sT S)) ∧ tm_gf (h 130) 11 2 = some (.int (sWhere S)) ∧ tm_gf (h 130) 11 6 = some (.int (nI (sN S))) ∧ tm_gf (h 130) 11 13 = some (.int (sF S)) ∧ tm_gf (h 130) 11 33 = some (.int (nI (sBl S))) ∧ tm_gf (h 130) 11 31 = some (.ref 141) ∧ tm_gf (h 130) 11 32 = some (.ref 142) ∧ tm_gf (h 130) 11 34 = some (.ref 143) ∧ tm_gf (h 130) 11 5 = some (.ref 131) := by
  obtain ⟨Z, tn, o, T, put⟩ := MI_get X
  rw [o]
  refine ⟨?_, ?_, ?_, ?_, ?_, ?_, ?_, ?_, ?_⟩
  · rw [gf_11_1, T.1]
  · rw [gf_11_2, T.1]
  · rw [gf_11_6, T.2.1]
  · rw [gf_11_13, T.2.2.1]
  · rw [gf_11_33, T.2.2.2]
  · rw [gf_11_31]
  · rw [gf_11_32]
  · rw [gf_11_34]
  · rw [gf_11_5]
theorem m_trouble (X : MInv h S) : ∃ h', tC mX11_trouble [.ref 130] h = some (h', some (.int (sT S))) ∧ MInv h' S ∧ FrM h h' := by
  obtain ⟨h1, E1, X1, F1, _, I1⟩ := m_thr X (v := 0)
  refine ⟨h1, ?_, X1, F1⟩
  simp only [cX11_trouble_, bX11_trouble_0, bX11_trouble_5, bX11_trouble_9, tk1_some, tk0_some, tkc_some, tkc_none, ↓reduceIte, E1, (m_top X1).1]
theorem m_fault (X : MInv h S) : ∃ h', tC mX11_fault [.ref 130] h = some (h', some (.int (sF S))) ∧ MInv h' S ∧ FrM h h' := by
  obtain ⟨h1, E1, X1, F1, _, I1⟩ := m_thr X (v := 0)
  refine ⟨h1, ?_, X1, F1⟩
  simp only [cX11_fault_, bX11_fault_0, bX11_fault_5, bX11_fault_9, tk1_some, tk0_some, tkc_some, tkc_none, ↓reduceIte, E1, (m_top X1).2.2.2.1]
theorem m_where (X : MInv h S) : ∃ h', tC mX11_where [.ref 130] h = some (h', some (.int (sWhere S))) ∧ MInv h' S ∧ FrM h h' := by
  obtain ⟨h1, E1, X1, F1, _, I1⟩ := m_thr X (v := 0)
  refine ⟨h1, ?_, X1, F1⟩
  simp only [cX11_where_, bX11_where_0, bX11_where_5, bX11_where_9, tk1_some, tk0_some, tkc_some, tkc_none, ↓reduceIte, E1, (m_top X1).2.1]
theorem m_layer (X : MInv h S) {l : Int32} : ∃ h', tC mX11_layer [.ref 130, .int l] h = some (h', some (.int (sLayer S l))) ∧ MInv h' S ∧ FrM h h' := by
  obtain ⟨h1, E1, X1, F1, _, I1⟩ := m_thr X (v := 0)
  refine ⟨h1, ?_, X1, F1⟩
  unfold sLayer
  cases bo : sBo S with
  | false =>
    have bk := (m_bk X1).2 bo
    simp only [cX11_layer_, bX11_layer_0, bX11_layer_5, bX11_layer_9n, bX11_layer_31, bX11_layer_32, tk1_some, tk0_some, tkc_some, tkc_none, ↓reduceIte, E1, bk, Bool.false_eq_true, if_false]
  | true =>
    obtain ⟨b0, bk⟩ := (m_bk X1).1 bo
    cases iv : inB l 0 8 with
    | false => simp only [cX11_layer_, bX11_layer_0, bX11_layer_5, bX11_layer_9r, bX11_layer_12, bX11_layer_19, bX11_layer_31, bX11_layer_32, tk1_some, tk0_some, tkc_some, tkc_none, ↓reduceIte, E1, bk, m_in, iv, bI_f, if_true, Bool.false_eq_true, if_false]
    | true =>
      have g31 := (m_top X1).2.2.2.2.2.1
      obtain ⟨k, hk, rfl⟩ := inB_nk (hi := 8) (by decide) iv
      obtain ⟨Z, m, c, s, h0, hm, T, A, tp, B, t1, t2, t3, ⟨f, l1, l2, l3⟩, t4, bl⟩ := X1
      have q : tm_ai 0 (h1 141) (nI k) = some (.int (layS S (nI k))) := by
        rw [l1, tm_ai_in rfl (show k < 9 by omega) (by decide)]
        unfold layS
        by_cases e : k = 8
        · subst e; rw [if_pos (show nI 8 = 8 from rfl), l3]
        · rw [if_neg (fun y => e (by have := congrArg iN y; rw [iN_nI (by omega)] at this; exact this)), iN_nI (by omega), l2 k (by omega)]
      simp only [cX11_layer_, bX11_layer_0, bX11_layer_5, bX11_layer_9r, bX11_layer_12, bX11_layer_19, bX11_layer_22, bX11_layer_26, bX11_layer_28, bX11_layer_32, tk1_some, tk0_some, tkc_some, tkc_none, ↓reduceIte, E1, bk, m_in, iv, bI_t, show ((1 : Int32) = 0) = False from by decide, if_true, if_false, g31, q]
end M32
