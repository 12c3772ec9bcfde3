/-! THE REFERENCE's calls: trouble, fault, where; layers are read -/
section M32
variable {h : tm_H} {S : SS}
theorem m_top (X : MInv h S) : tm_gf (h 70) 11 1 = some (.int (sT S)) ∧ tm_gf (h 70) 11 2 = some (.int (sWhere S)) ∧ tm_gf (h 70) 11 6 = some (.int (nI (sN S))) ∧ tm_gf (h 70) 11 13 = some (.int (sF S)) ∧ tm_gf (h 70) 11 33 = some (.int (nI (sBl S))) ∧ tm_gf (h 70) 11 31 = some (.ref 81) ∧ tm_gf (h 70) 11 32 = some (.ref 82) ∧ tm_gf (h 70) 11 34 = some (.ref 83) ∧ tm_gf (h 70) 11 5 = some (.ref 71) := by
  obtain ⟨Z, tn, o, T, put⟩ := MI_get X
  rw [o]
  refine ⟨?_, ?_, ?_, ?_, ?_, ?_, ?_, ?_, ?_⟩
  · rw [gf_11_1, T.1]
  · rw [gf_11_2, T.1]
  · rw [gf_11_6, T.2.1]
  · rw [gf_11_13, T.2.2.1]
  · rw [gf_11_33, T.2.2.2]
  · rw [gf_11_31]
  · rw [gf_11_32]
  · rw [gf_11_34]
  · rw [gf_11_5]
theorem m_trouble (X : MInv h S) : ∃ h', tC mX11_trouble [.ref 70] h = some (h', some (.int (sT S))) ∧ MInv h' S ∧ FrM h h' := by
  obtain ⟨h1, E1, X1, F1, _, I1⟩ := m_thr X (v := 0)
  refine ⟨h1, ?_, X1, F1⟩
  simp only [cX11_trouble_, bX11_trouble_0, bX11_trouble_5, bX11_trouble_9, tk1_some, tk0_some, tkc_some, tkc_none, ↓reduceIte, E1, (m_top X1).1]
theorem m_fault (X : MInv h S) : ∃ h', tC mX11_fault [.ref 70] h = some (h', some (.int (sF S))) ∧ MInv h' S ∧ FrM h h' := by
  obtain ⟨h1, E1, X1, F1, _, I1⟩ := m_thr X (v := 0)
  refine ⟨h1, ?_, X1, F1⟩
  simp only [cX11_fault_, bX11_fault_0, bX11_fault_5, bX11_fault_9, tk1_some, tk0_some, tkc_some, tkc_none, ↓reduceIte, E1, (m_top X1).2.2.2.1]
theorem m_where (X : MInv h S) : ∃ h', tC mX11_where [.ref 70] h = some (h', some (.int (sWhere S))) ∧ MInv h' S ∧ FrM h h' := by
  obtain ⟨h1, E1, X1, F1, _, I1⟩ := m_thr X (v := 0)
  refine ⟨h1, ?_, X1, F1⟩
  simp only [cX11_where_, bX11_where_0, bX11_where_5, bX11_where_9, tk1_some, tk0_some, tkc_some, tkc_none, ↓reduceIte, E1, (m_top X1).2.1]
theorem m_layer (X : MInv h S) {l : Int32} : ∃ h', tC mX11_layer [.ref 70, .int l] h = some (h', some (.int (sLayer S l))) ∧ MInv h' S ∧ FrM h h' := by
  obtain ⟨h1, E1, X1, F1, _, I1⟩ := m_thr X (v := 0)
  refine ⟨h1, ?_, X1, F1⟩
  unfold sLayer
  cases bo : sBo S with
  | false =>
    have bk := (m_bk X1).2 bo
    simp only [cX11_layer_, bX11_layer_0, bX11_layer_5, bX11_layer_9n, bX11_layer_31, bX11_layer_32, tk1_some, tk0_some, tkc_some, tkc_none, ↓reduceIte, E1, bk, Bool.false_eq_true, if_false]
  | true =>
    obtain ⟨b0, bk⟩ := (m_bk X1).1 bo
    cases iv : inB l 0 8 with
    | false => simp only [cX11_layer_, bX11_layer_0, bX11_layer_5, bX11_layer_9r, bX11_layer_12, bX11_layer_19, bX11_layer_31, bX11_layer_32, tk1_some, tk0_some, tkc_some, tkc_none, ↓reduceIte, E1, bk, m_in, iv, bI_f, if_true, Bool.false_eq_true, if_false]
    | true =>
      have g31 := (m_top X1).2.2.2.2.2.1
      obtain ⟨k, hk, rfl⟩ := inB_nk (hi := 8) (by decide) iv
      obtain ⟨Z, m, c, s, h0, hm, T, A, tp, B, t1, t2, t3, ⟨f, l1, l2, l3⟩, t4, bl⟩ := X1
      have q : tm_ai 0 (h1 81) (nI k) = some (.int (layS S (nI k))) := by
        rw [l1, tm_ai_in rfl (show k < 9 by omega) (by decide)]
        unfold layS
        by_cases e : k = 8
        · subst e; rw [if_pos (show nI 8 = 8 from rfl), l3]
        · rw [if_neg (fun y => e (by have := congrArg iN y; rw [iN_nI (by omega)] at this; exact this)), iN_nI (by omega), l2 k (by omega)]
      simp only [cX11_layer_, bX11_layer_0, bX11_layer_5, bX11_layer_9r, bX11_layer_12, bX11_layer_19, bX11_layer_22, bX11_layer_26, bX11_layer_28, bX11_layer_32, tk1_some, tk0_some, tkc_some, tkc_none, ↓reduceIte, E1, bk, m_in, iv, bI_t, show ((1 : Int32) = 0) = False from by decide, if_true, if_false, g31, q]
end M32
/-! THE REFERENCE's calls: a layer is laid -/
section M33
variable {h : tm_H} {S : SS}
theorem MA_c {h' : tm_H} {Z : MZ} {tn : Nat} {hm km cl tu th om : Nat → Int32} (E : ∀ k, (k = 70 ∨ (72 ≤ k ∧ k ≤ 77) ∨ 83 < k) → h' k = h k) (H : MA h Z tn hm km cl tu th om) : MA h' Z tn hm km cl tu th om :=
  ⟨by rw [E 70 (by omega)]; exact H.1, by rw [E 72 (by omega)]; exact H.2.1, by rw [E 73 (by omega)]; exact H.2.2.1, by rw [E 74 (by omega)]; exact H.2.2.2.1, by rw [E 75 (by omega)]; exact H.2.2.2.2.1, by rw [E 76 (by omega)]; exact H.2.2.2.2.2.1, by rw [E 77 (by omega)]; exact H.2.2.2.2.2.2⟩
theorem MBB_c {h' : tm_H} {Z : MZ} {m : Nat} (E : ∀ k, (k = 70 ∨ (72 ≤ k ∧ k ≤ 77) ∨ 83 < k) → h' k = h k) (B : MBB h Z m S) : MBB h' Z m S := by
  refine ⟨fun bo => ?_, B.2⟩
  obtain ⟨b, nn, G, nm, z1, z2, z3, M, ez, hm, km, cl, tu, th, om, HA, r⟩ := B.1 bo
  exact ⟨b, nn, G, nm, z1, z2, z3, MBk_c (fun k x y => E k (by omega)) M, ez, hm, km, cl, tu, th, om, MA_c E HA, r⟩
theorem MI_141 (X : MInv h S) : ∃ f, h 81 = aI 9 f ∧ (∀ k, k < 8 → f k = sD S k) ∧ f 8 = sCa S ∧ ∀ f' d' c', (∀ k, k < 8 → f' k = d' k) → f' 8 = c' → MInv (tm_up h 81 (aI 9 f')) (sBil S d' c') := by
  obtain ⟨Z, m, c, s, h0, hm, T, ⟨tn, hm0, km, cl, tu, th, om, HA⟩, tp, B, ⟨f1, t1⟩, ⟨f2, t2⟩, ⟨f3, t3⟩, ⟨f, l1, l2, l3⟩, ⟨f5, t4⟩, ⟨f6, b1, b2⟩⟩ := X
  refine ⟨f, l1, l2, l3, fun f' d' c' q1 q2 => ?_⟩
  have nx : ∀ k, k ≠ 81 → tm_up h 81 (aI 9 f') k = h k := fun k x => tm_up_ne x
  refine ⟨Z, m, c, s, by rw [nx 0 (by decide)]; exact h0, hm, T, ⟨tn, hm0, km, cl, tu, th, om, MA_c (fun k x => nx k (by omega)) HA⟩, by rw [nx 71 (by decide)]; exact tp, ?_, ⟨f1, by rw [nx 78 (by decide)]; exact t1⟩, ⟨f2, by rw [nx 79 (by decide)]; exact t2⟩, ⟨f3, by rw [nx 80 (by decide)]; exact t3⟩, ⟨f', tm_up_same, q1, q2⟩, ⟨f5, by rw [nx 82 (by decide)]; exact t4⟩, ⟨f6, by rw [nx 83 (by decide)]; exact b1, b2⟩⟩
  exact MBB_c (S := S) (fun k x => nx k (by omega)) B
theorem m_lay (X : MInv h S) {l v : Int32} : ∃ h', tC mX11_lay [.ref 70, .int l, .int v] h = some (h', some (sLay S l v).2) ∧ MInv h' (sLay S l v).1 ∧ FrM h h' := by
  obtain ⟨h1, E1, X1, F1, _, I1⟩ := m_thr X (v := 0)
  unfold sLay
  cases bo : sBo S with
  | false =>
    have bk := (m_bk X1).2 bo
    obtain ⟨h2, X2, F2, _, _, D2, _⟩ := m_note X1 (t := 1) (by decide)
    refine ⟨h2, ?_, X2, FrM_tr F1 F2⟩
    simp only [cX11_lay_, bX11_lay_0, bX11_lay_5, bX11_lay_9n, bX11_lay_22, bX11_lay_27, tk1_some, tk0_some, tkc_some, tkc_none, ↓reduceIte, E1, bk, I1, D2, tm_rb0, Bool.false_eq_true, if_false, sDen]
  | true =>
    obtain ⟨b0, bk⟩ := (m_bk X1).1 bo
    cases iv : inB l 0 8 with
    | false =>
      obtain ⟨h2, X2, F2, _, _, D2, _⟩ := m_note X1 (t := 1) (by decide)
      refine ⟨h2, ?_, X2, FrM_tr F1 F2⟩
      simp only [cX11_lay_, bX11_lay_0, bX11_lay_5, bX11_lay_9r, bX11_lay_12, bX11_lay_19, bX11_lay_22, bX11_lay_27, tk1_some, tk0_some, tkc_some, tkc_none, ↓reduceIte, E1, bk, m_in, iv, bI_f, not_true, if_false, I1, D2, tm_rb0, Bool.false_eq_true, if_true, sDen]
    | true =>
      cases jv : inB v 0 9999 with
      | false =>
        obtain ⟨h2, X2, F2, _, _, D2, _⟩ := m_note X1 (t := 2) (by decide)
        refine ⟨h2, ?_, X2, FrM_tr F1 F2⟩
        simp only [cX11_lay_, bX11_lay_0, bX11_lay_5, bX11_lay_9r, bX11_lay_12, bX11_lay_19, bX11_lay_28, bX11_lay_36, bX11_lay_39, bX11_lay_44, tk1_some, tk0_some, tkc_some, tkc_none, ↓reduceIte, E1, bk, m_in, iv, jv, bI_f, bI_t, show ((1 : Int32) = 0) = False from by decide, not_false_eq_true, not_true, if_false, I1, D2, tm_rb0, Bool.false_eq_true, if_true, sDen]
      | true =>
        have g31 := (m_top X1).2.2.2.2.2.1
        obtain ⟨k, hk, rfl⟩ := inB_nk (hi := 8) (by decide) iv
        obtain ⟨f, l1, l2, l3, put⟩ := MI_141 X1
        have Es : tm_si 0 h1 81 (nI k) v = some (tm_up h1 81 (aI 9 (upd f k v))) := by
          rw [tm_si_eq, l1, tm_sa_in rfl (show k < 9 by omega) (by decide)]; rfl
        have Y : ∃ d' c', MInv (tm_up h1 81 (aI 9 (upd f k v))) (sBil S d' c') ∧ (if nI k = 8 then (sTr (sBil S (sD S) v) 0, Value.int 1) else (sTr (sBil S (upd (sD S) (iN (nI k)) v) (sCa S)) 0, .int 1)) = (sTr (sBil S d' c') 0, .int 1) := by
          by_cases e : k = 8
          · subst e
            exact ⟨sD S, v, put _ _ _ (fun j hj => by rw [upd_off (by omega)]; exact l2 j hj) (upd_at _ _ _), if_pos rfl⟩
          · refine ⟨upd (sD S) k v, sCa S, put _ _ _ (fun j hj => ?_) (by rw [upd_off (by omega)]; exact l3), ?_⟩
            · by_cases q : j = k
              · subst q; rw [upd_at, upd_at]
              · rw [upd_off q, upd_off q]; exact l2 j hj
            · rw [if_neg (fun y => e (by have := congrArg iN y; rw [iN_nI (by omega)] at this; exact this)), iN_nI (by omega)]
        obtain ⟨d', c', X2, eY⟩ := Y
        rw [if_pos rfl, if_pos rfl, if_pos rfl, eY]
        obtain ⟨h3, X3, F3, I3, _, _, _, _, D3⟩ := m_note X2 (t := 0) (by decide)
        have D3 := (D3 rfl 0).2
        refine ⟨h3, ?_, X3, FrM_tr F1 (FrM_tr (FrM_up (by decide)) F3)⟩
        simp only [cX11_lay_, bX11_lay_0, bX11_lay_5, bX11_lay_9r, bX11_lay_12, bX11_lay_19, bX11_lay_28, bX11_lay_36, bX11_lay_45, bX11_lay_49, bX11_lay_52, bX11_lay_56, tk1_some, tk0_some, tkc_some, tkc_none, ↓reduceIte, E1, bk, m_in, iv, jv, bI_t, show ((1 : Int32) = 0) = False from by decide, not_false_eq_true, if_true, g31, Es, I3, D3, tm_rb1]
end M33
/-! THE REFERENCE's calls: a blade is learned -/
section M34
variable {h : tm_H} {S : SS}
theorem MI_143 (X : MInv h S) : ∃ Z tn f, h 70 = moO Z (nI tn) ∧ h 83 = aI 80 f ∧ Z.2.2.2.2 = nI (sBl S) ∧ (∀ k, k < sBl S → f (4 * k) = sMk S (k * 3) ∧ f (4 * k + 1) = sMk S (k * 3 + 1) ∧ f (4 * k + 2) = sMk S (k * 3 + 2) ∧ f (4 * k + 3) = sHw S k) ∧ ∀ f' mk' hw' n', (∀ k, k < n' → f' (4 * k) = mk' (k * 3) ∧ f' (4 * k + 1) = mk' (k * 3 + 1) ∧ f' (4 * k + 2) = mk' (k * 3 + 2) ∧ f' (4 * k + 3) = hw' k) → MInv (tm_up (tm_up h 83 (aI 80 f')) 70 (moO (Z.1, Z.2.1, Z.2.2.1, Z.2.2.2.1, nI n') (nI tn))) (sBla S mk' hw' n') := by
  obtain ⟨Z, m, c, s, h0, hm, T, ⟨tn, hm0, km, cl, tu, th, om, HA⟩, tp, B, ⟨f1, t1⟩, ⟨f2, t2⟩, ⟨f3, t3⟩, ⟨f4, l1, l2⟩, ⟨f5, t4⟩, ⟨f, b1, b2⟩⟩ := X
  refine ⟨Z, tn, f, HA.1, b1, T.2.2.2, b2, fun f' mk' hw' n' q => ?_⟩
  have n1 : ∀ k, k ≠ 83 → tm_up h 83 (aI 80 f') k = h k := fun k x => tm_up_ne x
  have HA1 : MA (tm_up h 83 (aI 80 f')) Z tn hm0 km cl tu th om := MA_c (fun k x => n1 k (by omega)) HA
  have B1 : MBB (tm_up h 83 (aI 80 f')) Z m S := MBB_c (fun k x => n1 k (by omega)) B
  have e143 : tm_up h 83 (aI 80 f') 83 = aI 80 f' := tm_up_same
  generalize tm_up h 83 (aI 80 f') = h1 at n1 HA1 B1 e143
  have nx : ∀ k e, k ≠ 70 → tm_up h1 70 e k = h1 k := fun k e x => tm_up_ne x
  refine ⟨(Z.1, Z.2.1, Z.2.2.1, Z.2.2.2.1, nI n'), m, c, s, by rw [nx 0 _ (by decide), n1 0 (by decide)]; exact h0, hm, ⟨T.1, T.2.1, T.2.2.1, rfl⟩, ⟨tn, hm0, km, cl, tu, th, om, MA_o HA1 _ tn⟩, by rw [nx 71 _ (by decide), n1 71 (by decide)]; exact tp, ⟨fun bo => ?_, B1.2⟩, ⟨f1, by rw [nx 78 _ (by decide), n1 78 (by decide)]; exact t1⟩, ⟨f2, by rw [nx 79 _ (by decide), n1 79 (by decide)]; exact t2⟩, ⟨f3, by rw [nx 80 _ (by decide), n1 80 (by decide)]; exact t3⟩, ⟨f4, by rw [nx 81 _ (by decide), n1 81 (by decide)]; exact l1, l2⟩, ⟨f5, by rw [nx 82 _ (by decide), n1 82 (by decide)]; exact t4⟩, ⟨f', by rw [nx 83 _ (by decide)]; exact e143, q⟩⟩
  obtain ⟨b, nn, G, nm, z1, z2, z3, M, R⟩ := B1.1 bo
  have et : nI tn = nI (sR S).2.1 := by
    obtain ⟨_, _, _, _, _, _, _, HR, _⟩ := R
    have := HA1.1
    rw [HR.1] at this
    have := congrArg (fun e => tm_gf e 11 24) this
    simp only [gf_11_24, Option.some.injEq, Value.int.injEq] at this
    exact this.symm
  refine ⟨b, nn, G, nm, z1, z2, z3, MBk_c (fun k x y => nx k _ (by omega)) M, ?_⟩
  rw [et]
  exact MR_z R rfl
theorem i4 (k j : Nat) : 4 * nI k + nI j = nI (4 * k + j) := by rw [show (4 : Int32) = nI 4 from rfl, nI_mul, nI_add]
theorem m_learn (X : MInv h S) (P : PX S) {heat water clay how : Int32} : ∃ h', tC mX11_learn [.ref 70, .int heat, .int water, .int clay, .int how] h = some (h', some (sLearn S heat water clay how).2) ∧ MInv h' (sLearn S heat water clay how).1 ∧ FrM h h' := by
  obtain ⟨h1, E1, X1, F1, _, I1⟩ := m_thr X (v := 0)
  unfold sLearn
  cases bo : sBo S with
  | false =>
    have bk := (m_bk X1).2 bo
    obtain ⟨h2, X2, F2, _, D2, _⟩ := m_note X1 (t := 1) (by decide)
    refine ⟨h2, ?_, X2, FrM_tr F1 F2⟩
    simp only [cX11_learn_, bX11_learn_0, bX11_learn_5, bX11_learn_9n, bX11_learn_12, bX11_learn_17, tk1_some, tk0_some, tkc_some, tkc_none, ↓reduceIte, E1, bk, I1, D2, Bool.false_eq_true, if_false, sRef]
  | true =>
    obtain ⟨b0, bk⟩ := (m_bk X1).1 bo
    have L : tC mX11_learn [.ref 70, .int heat, .int water, .int clay, .int how] h = if learnC heat water clay how = true then tE mX11_learn 65 [.ref 70, .int heat, .int water, .int clay, .int how] [] h1 else tE mX11_learn 59 [.ref 70, .int heat, .int water, .int clay, .int how] [] h1 := by
      unfold learnC
      cases c1 : inB heat 0 999 with
      | false => simp only [cX11_learn_, bX11_learn_0, bX11_learn_5, bX11_learn_9r, bX11_learn_18, bX11_learn_26, tk1_some, tk0_some, tkc_some, tkc_none, ↓reduceIte, E1, bk, m_in, c1, bI_f, if_true, Bool.false_eq_true, if_false]
      | true =>
        cases c2 : inB water 0 999 with
        | false => simp only [cX11_learn_, bX11_learn_0, bX11_learn_5, bX11_learn_9r, bX11_learn_18, bX11_learn_26, bX11_learn_29, bX11_learn_37, tk1_some, tk0_some, tkc_some, tkc_none, ↓reduceIte, E1, bk, m_in, c1, c2, bI_f, bI_t, show ((1 : Int32) = 0) = False from by decide, if_true, Bool.false_eq_true, if_false]
        | true =>
          cases c3 : inB clay 0 3 with
          | false => simp only [cX11_learn_, bX11_learn_0, bX11_learn_5, bX11_learn_9r, bX11_learn_18, bX11_learn_26, bX11_learn_29, bX11_learn_37, bX11_learn_40, bX11_learn_46, tk1_some, tk0_some, tkc_some, tkc_none, ↓reduceIte, E1, bk, m_in, c1, c2, c3, bI_f, bI_t, show ((1 : Int32) = 0) = False from by decide, if_true, Bool.false_eq_true, if_false]
          | true =>
            cases c4 : inB how 0 2 with
            | false => simp only [cX11_learn_, bX11_learn_0, bX11_learn_5, bX11_learn_9r, bX11_learn_18, bX11_learn_26, bX11_learn_29, bX11_learn_37, bX11_learn_40, bX11_learn_46, bX11_learn_49, bX11_learn_56, tk1_some, tk0_some, tkc_some, tkc_none, ↓reduceIte, E1, bk, m_in, c1, c2, c3, c4, bI_f, bI_t, show ((1 : Int32) = 0) = False from by decide, not_true, if_true, Bool.false_eq_true, if_false]
            | true => simp only [cX11_learn_, bX11_learn_0, bX11_learn_5, bX11_learn_9r, bX11_learn_18, bX11_learn_26, bX11_learn_29, bX11_learn_37, bX11_learn_40, bX11_learn_46, bX11_learn_49, bX11_learn_56, tk1_some, tk0_some, tkc_some, tkc_none, ↓reduceIte, E1, bk, m_in, c1, c2, c3, c4, bI_t, show ((1 : Int32) = 0) = False from by decide, not_false_eq_true, if_true, if_false]
    rw [L, if_pos rfl]
    cases lc : learnC heat water clay how with
    | false =>
      obtain ⟨h2, X2, F2, _, D2, _⟩ := m_note X1 (t := 2) (by decide)
      refine ⟨h2, ?_, X2, FrM_tr F1 F2⟩
      simp only [bX11_learn_59, bX11_learn_64, tk1_some, tk0_some, tkc_some, tkc_none, ↓reduceIte, I1, D2, Bool.false_eq_true, if_false, sRef]
    | true =>
      rw [if_pos rfl, if_pos rfl]
      have g33 := (m_top X1).2.2.2.2.1
      have b20 : sBl S ≤ 20 := P.2.1
      have lm : (nI (sBl S) = 20) = (20 ≤ sBl S) := lim_e (m := 20) (by decide) b20
      by_cases d : 20 ≤ sBl S
      · rw [if_pos d]
        obtain ⟨h2, X2, F2, _, D2, _⟩ := m_note X1 (t := 3) (by decide)
        refine ⟨h2, ?_, X2, FrM_tr F1 F2⟩
        simp only [bX11_learn_65, bX11_learn_69, bX11_learn_74, bX11_learn_79, tk1_some, tk0_some, tkc_some, tkc_none, ↓reduceIte, g33, lm, d, not_true, if_false, I1, D2, sRef]
      · rw [if_neg d]
        obtain ⟨Z, tn, f, o, a, zb, rel, put⟩ := MI_143 X1
        obtain ⟨z1, z2, z3, z4, z5⟩ := Z
        obtain rfl : z5 = nI (sBl S) := zb
        have X2 := put (upd (upd (upd (upd f (4 * sBl S) heat) (4 * sBl S + 1) water) (4 * sBl S + 2) clay) (4 * sBl S + 3) how) (mkA S heat water clay) (upd (sHw S) (sBl S) how) (sBl S + 1) (fun k hk => by
          unfold mkA
          by_cases e : k = sBl S
          · subst e
            refine ⟨?_, ?_, ?_, ?_⟩
            · rw [upd_off (by omega), upd_off (by omega), upd_off (by omega), upd_at, upd_off (by omega), upd_off (by omega), upd_at]
            · rw [upd_off (by omega), upd_off (by omega), upd_at, upd_off (by omega), upd_at]
            · rw [upd_off (by omega), upd_at, upd_at]
            · rw [upd_at, upd_at]
          · obtain ⟨r0, r1, r2, r3⟩ := rel k (by omega)
            refine ⟨?_, ?_, ?_, ?_⟩
            · rw [upd_off (by omega), upd_off (by omega), upd_off (by omega), upd_off (by omega), upd_off (by omega), upd_off (by omega), upd_off (by omega)]; exact r0
            · rw [upd_off (by omega), upd_off (by omega), upd_off (by omega), upd_off (by omega), upd_off (by omega), upd_off (by omega), upd_off (by omega)]; exact r1
            · rw [upd_off (by omega), upd_off (by omega), upd_off (by omega), upd_off (by omega), upd_off (by omega), upd_off (by omega), upd_off (by omega)]; exact r2
            · rw [upd_off (by omega), upd_off (by omega), upd_off (by omega), upd_off (by omega), upd_off e]; exact r3)
        obtain ⟨h3, X3, F3, I3, _, _, _, _, D3⟩ := m_note X2 (t := 0) (by decide)
        have D3 := fun v => (D3 rfl v).1
        refine ⟨h3, ?_, X3, FrM_tr F1 (FrM_tr (FrM_tr (FrM_up (by decide)) (FrM_up (by decide))) F3)⟩
        have t0 : (80 : Nat) < 2 ^ 31 := by decide
        have s1 : tm_si 0 h1 83 (4 * nI (sBl S)) heat = some (tm_up h1 83 (aI 80 (upd f (4 * sBl S) heat))) := by
          have e := i4 (sBl S) 0
          rw [nI_0, Int32.add_zero, Nat.add_zero] at e
          rw [e, tm_si_eq, a, tm_sa_in rfl (show 4 * sBl S < 80 by omega) t0]; rfl
        have s2 : ∀ g (v : Int32) (j : Nat) (jI : Int32), jI = nI j → j < 4 → tm_si 0 (tm_up h1 83 (aI 80 g)) 83 (4 * nI (sBl S) + jI) v = some (tm_up h1 83 (aI 80 (upd g (4 * sBl S + j) v))) := fun g v j jI ej hj => by
          rw [ej, i4, tm_si_eq, tm_up_same, tm_sa_in rfl (show 4 * sBl S + j < 80 by omega) t0]
          show some (tm_up (tm_up h1 83 (aI 80 g)) 83 _) = _
          rw [tm_up_up]
        have nx : ∀ e, tm_up h1 83 e 70 = moO (z1, z2, z3, z4, nI (sBl S)) (nI tn) := fun e => by rw [tm_up_ne (by decide)]; exact o
        have g34 := (m_top X1).2.2.2.2.2.2.2.1
        simp only [bX11_learn_65, bX11_learn_69, bX11_learn_80, bX11_learn_84, bX11_learn_89, bX11_learn_92, bX11_learn_96, bX11_learn_101, bX11_learn_106, bX11_learn_110, bX11_learn_115, bX11_learn_120, bX11_learn_124, bX11_learn_129, bX11_learn_135, bX11_learn_140, bX11_learn_145, bX11_learn_150, bX11_learn_153, tk1_some, tk0_some, tkc_some, tkc_none, ↓reduceIte, o, gf_11_33, gf_11_34, lm, d, not_false_eq_true, if_true, s1, nx, s2 _ water 1 1 rfl (by decide), s2 _ clay 2 2 rfl (by decide), s2 _ how 3 3 rfl (by decide), tm_pf_eq, ps_11_33, Option.map_some, nI_k1, tm_up_same, tm_isO, D3]
end M34
/-! THE REFERENCE's calls: cold -/
section M35
variable {h h2 : tm_H} {S : SS} {b : Nat} {w cuts : Nat} {hm f : Nat → Int32}
theorem mcold_in (bk : tm_gf (h 70) 11 3 = some (.ref b)) (g16 : tm_gf (h 70) 11 16 = some (.ref 72)) (g1 : tm_gf (h b) 10 1 = some (.int (nI w))) (a1 : h 72 = aI 40 hm) (hcc : cuts ≤ 8) (hw : w ≤ 5) (E : EqI cuts w hm f) (I : tm_isObj (h 70) 11 = true) (D : ∀ v : Int32, tC mX11_done [.ref 70, .int v] h = some (h2, some (.int v))) {i : Nat} (hi : i < cuts) : ∀ r j, j + r = w → tE mX11_cold 33 [.ref 70, .int (nI i), .int (nI j)] [] h = if coldR f i r j = true then tE mX11_cold 20 [.ref 70, .int (nI (i + 1)), .int (nI w)] [] h else some (h2, some (.int 0)) := by
  intro r
  induction r with
  | zero =>
    intro j hj
    obtain rfl : j = w := by omega
    rw [bX11_cold_33]
    simp only [bX11_cold_38, bX11_cold_41, bX11_cold_71, tk1_some, tk0_some, tkc_some, tkc_none, ↓reduceIte, bk, g1, Int32.le_refl, if_true, coldR, nI_k1]
  | succ r ih =>
    intro j hj
    have e1 : ¬ nI w ≤ nI j := nI_ge (by omega) (by omega)
    have q : tm_ai 0 (h 72) (nI (i * 5 + j)) = some (.int (f (i * 5 + j))) := by
      rw [a1, tm_ai_in rfl (show i * 5 + j < 40 by omega) (by decide), E i j hi (by omega)]
    have e := ih (j + 1) (by omega)
    rw [bX11_cold_33]
    unfold coldR
    by_cases d : f (i * 5 + j) ≤ 99
    · rw [if_pos d, ← e]
      simp only [bX11_cold_38, bX11_cold_41, bX11_cold_44, bX11_cold_48, bX11_cold_54, bX11_cold_65, tk1_some, tk0_some, tkc_some, tkc_none, ↓reduceIte, bk, g1, e1, if_false, g16, i5j', q, d, if_true, nI_k1]
    · rw [if_neg d]
      simp only [bX11_cold_38, bX11_cold_41, bX11_cold_44, bX11_cold_48, bX11_cold_54, bX11_cold_59, bX11_cold_64, tk1_some, tk0_some, tkc_some, tkc_none, ↓reduceIte, bk, g1, e1, if_false, g16, i5j', q, d, I, D, Bool.false_eq_true]
theorem mcold_out (bk : tm_gf (h 70) 11 3 = some (.ref b)) (g16 : tm_gf (h 70) 11 16 = some (.ref 72)) (g0 : tm_gf (h b) 10 0 = some (.int (nI cuts))) (g1 : tm_gf (h b) 10 1 = some (.int (nI w))) (a1 : h 72 = aI 40 hm) (hcc : cuts ≤ 8) (hw : w ≤ 5) (E : EqI cuts w hm f) (I : tm_isObj (h 70) 11 = true) (D : ∀ v : Int32, tC mX11_done [.ref 70, .int v] h = some (h2, some (.int v))) : ∀ r i x, i + r = cuts → tE mX11_cold 20 [.ref 70, .int (nI i), x] [] h = some (h2, some (.int (bI (coldG f w r i)))) := by
  intro r
  induction r with
  | zero =>
    intro i x hi
    obtain rfl : i = cuts := by omega
    rw [bX11_cold_20]
    simp only [bX11_cold_25, bX11_cold_28, bX11_cold_77, bX11_cold_82, tk1_some, tk0_some, tkc_some, tkc_none, ↓reduceIte, bk, g0, Int32.le_refl, if_true, I, D, coldG, bI_t]
  | succ r ih =>
    intro i x hi
    have e1 : ¬ nI cuts ≤ nI i := nI_ge (by omega) (by omega)
    have e := mcold_in bk g16 g1 a1 hcc hw E I D (show i < cuts by omega) w 0 (by omega)
    rw [nI_0] at e
    rw [bX11_cold_20]
    simp only [bX11_cold_25, bX11_cold_28, bX11_cold_31, tk1_some, tk0_some, tkc_some, tkc_none, ↓reduceIte, bk, g0, e1, if_false, e]
    unfold coldG
    by_cases d : coldR f i w 0 = true
    · rw [if_pos d, if_pos d, ih (i + 1) _ (by omega)]
    · rw [if_neg d, if_neg d]; rfl
theorem m_cold (X : MInv h S) (P : PX S) (Q : sBo S = true → PB S) : ∃ h', tC mX11_cold [.ref 70] h = some (h', some (sCold S).2) ∧ MInv h' (sCold S).1 ∧ FrM h h' := by
  obtain ⟨h1, E1, X1, F1, _, I1⟩ := m_thr X (v := 0)
  unfold sCold
  cases bo : sBo S with
  | false =>
    have bk := (m_bk X1).2 bo
    obtain ⟨h2, X2, F2, _, D2, _⟩ := m_note X1 (t := 1) (by decide)
    refine ⟨h2, ?_, X2, FrM_tr F1 F2⟩
    simp only [cX11_cold_, bX11_cold_0, bX11_cold_5, bX11_cold_9n, bX11_cold_12, bX11_cold_17, tk1_some, tk0_some, tkc_some, tkc_none, ↓reduceIte, E1, bk, I1, D2, Bool.false_eq_true, if_false, sRef]
  | true =>
    obtain ⟨b, nn, G, nm, Z, hm, km, W, a1, a2, K, e5, e8, e2, R, g16, g17, bk⟩ := m_see X1 P bo (Q bo)
    obtain ⟨h2, X2, F2, I2, _, _, _, _, D2⟩ := m_note X1 (t := 0) (by decide)
    have D2 := fun v => (D2 rfl v).1
    have M := mw_b W
    have g0 : tm_gf (h1 b) 10 0 = some (.int (nI (cutS S))) := by rw [mb_o M, gf_10_0, (Q bo).2.2.1]
    have g1 : tm_gf (h1 b) 10 1 = some (.int (nI (widS S))) := by rw [mb_o M, gf_10_1, (Q bo).2.2.2.1]
    have e := mcold_out bk g16 g0 g1 a1 (px_c P) (px_w P) e8 I1 D2 (cutS S) 0 tm_U (by omega)
    rw [nI_0] at e
    refine ⟨h2, ?_, X2, FrM_tr F1 F2⟩
    simp only [cX11_cold_, bX11_cold_0, bX11_cold_5, bX11_cold_9r, bX11_cold_18, tk1_some, tk0_some, tkc_some, tkc_none, ↓reduceIte, E1, bk, e, if_true, sAns]
end M35
