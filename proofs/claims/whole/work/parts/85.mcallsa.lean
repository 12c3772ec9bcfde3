/-! THE REFERENCE's calls: the bar -/
section M26
variable {h : tm_H} {S : SS}
theorem FrC_M {h h' : tm_H} (F : FrC h h') : FrM h h' := fun k hk => F k (by omega) (by omega)
theorem MI_bar (X : MInv h S) (bo : sBo S = true) : ∃ (b nn : Nat) (G : Nat → Nat → Int32) (nm : Nat → Int64) (Z : MZ), Z.2.1.1 = .ref b ∧ 83 < b ∧ MBk h b (sC S) (sB S) nn G nm ∧ MR h Z (sH S) (sR S) (cutS S) (widS S) ∧ (∀ h' Z' fh s', MR h' Z' fh s' (cutS S) (widS S) → ZEq Z Z' → FrC h h' → MInv h' (sBr S fh s') ∧ FrM h h') := by
  obtain ⟨Z, m, c, s, h0, hm, T, A, tp, B, ⟨f1, t1⟩, ⟨f2, t2⟩, ⟨f3, t3⟩, ⟨f4, l1, l2⟩, ⟨f5, t4⟩, ⟨f6, b1, b2⟩⟩ := X
  obtain ⟨b, nn, G, nm, z1, z2, z3, M, R⟩ := B.1 bo
  refine ⟨b, nn, G, nm, Z, z1, z2, M, R, fun h' Z' fh s' R' Q F => ⟨?_, FrC_M F⟩⟩
  have R0 := R'
  obtain ⟨_, hm', km', cl', tu', th', om', HA', _⟩ := R'
  refine ⟨Z', m, c, s, by rw [F 0 (by decide) (by decide)]; exact h0, hm, ?_, ⟨_, hm', km', cl', tu', th', om', HA'⟩, by rw [F 71 (by decide) (by decide)]; exact tp, ⟨fun _ => ⟨b, nn, G, nm, ?_, z2, z3, MBk_C z2 F M, R0⟩, fun y => ?_⟩, ⟨f1, by rw [F 78 (by decide) (by decide)]; exact t1⟩, ⟨f2, by rw [F 79 (by decide) (by decide)]; exact t2⟩, ⟨f3, by rw [F 80 (by decide) (by decide)]; exact t3⟩, ⟨f4, by rw [F 81 (by decide) (by decide)]; exact l1, l2⟩, ⟨f5, by rw [F 82 (by decide) (by decide)]; exact t4⟩, ⟨f6, by rw [F 83 (by decide) (by decide)]; exact b1, b2⟩⟩
  · obtain ⟨q1, q2, q3, q4⟩ := Q
    exact ⟨by rw [q1]; exact T.1, by rw [q3]; exact T.2.1, by rw [q3]; exact T.2.2.1, by rw [q4]; exact T.2.2.2⟩
  · rw [Q.2.1]; exact z1
  · rw [show sBo (sBr S fh s') = sBo S from rfl, bo] at y; cases y
theorem m_heat (X : MInv h S) (P : PX S) {v : Int32} : ∃ h', tC mX11_heat [.ref 70, .int v] h = some (h', some (sHeat S v).2) ∧ MInv h' (sHeat S v).1 ∧ FrM h h' := by
  obtain ⟨h1, E1, X1, F1, _, I1⟩ := m_thr X (v := 0)
  unfold sHeat
  cases bo : sBo S with
  | false =>
    have bk := (m_bk X1).2 bo
    obtain ⟨h2, X2, F2, _, _, D2, _⟩ := m_note X1 (t := 1) (by decide)
    refine ⟨h2, ?_, X2, FrM_tr F1 F2⟩
    simp only [cX11_heat_, bX11_heat_0, bX11_heat_5, bX11_heat_9n, bX11_heat_12, bX11_heat_17, tk1_some, tk0_some, tkc_some, tkc_none, ↓reduceIte, E1, bk, I1, D2, tm_rb0, Bool.false_eq_true, if_false, sDen]
  | true =>
    obtain ⟨b0, bk⟩ := (m_bk X1).1 bo
    cases iv : inB v 0 999 with
    | false =>
      obtain ⟨h2, X2, F2, _, _, D2, _⟩ := m_note X1 (t := 2) (by decide)
      refine ⟨h2, ?_, X2, FrM_tr F1 F2⟩
      simp only [cX11_heat_, bX11_heat_0, bX11_heat_5, bX11_heat_9r, bX11_heat_18, bX11_heat_26, bX11_heat_29, bX11_heat_34, tk1_some, tk0_some, tkc_some, tkc_none, ↓reduceIte, E1, bk, m_in, iv, bI_f, not_true, if_false, I1, D2, tm_rb0, Bool.false_eq_true, if_true, sDen]
    | true =>
      obtain ⟨b, nn, G, nm, Z, z1, z2, M, R, put⟩ := MI_bar X1 bo
      obtain ⟨_, hm, km, cl, tu, th, om, HA, e8, e2, e6, e0, O⟩ := R
      obtain ⟨h2, Z2, P2, R2, Q2, F2⟩ := MR_hot (tab := sB S) (px_c P) (px_w P) HA e0 (v := v)
      obtain ⟨X2, G2⟩ := put h2 Z2 v _ R2 Q2 F2
      obtain ⟨h3, X3, F3, I3, _, _, _, _, D3⟩ := m_note X2 (t := 0) (by decide)
      have D3 := (D3 rfl 0).2
      refine ⟨h3, ?_, X3, FrM_tr F1 (FrM_tr G2 F3)⟩
      simp only [cX11_heat_, bX11_heat_0, bX11_heat_5, bX11_heat_9r, bX11_heat_18, bX11_heat_26, bX11_heat_35, bX11_heat_40, bX11_heat_44, tk1_some, tk0_some, tkc_some, tkc_none, ↓reduceIte, E1, bk, m_in, iv, bI_t, show ((1 : Int32) = 0) = False from by decide, not_false_eq_true, if_true, I1, P2, I3, D3, tm_rb1]
end M26
/-! THE REFERENCE's calls: go -/
/-- what is kept of book and bar -/
def PB (S : SS) : Prop := (∃ lo hi, BkF lo hi (sC S) (sB S)) ∧ sC S 2 ≤ 5 ∧ sB S 0 0 = nI (cutS S) ∧ sB S 0 1 = nI (widS S) ∧ BOk (sC S) (sB S) (cutS S) (widS S) (sR S)
section M27
variable {h : tm_H} {S : SS}
theorem MR_f {Z : MZ} {fh : Int32} {s : BSt} {cuts w : Nat} (R : MR h Z fh s cuts w) : tm_gf (h 70) 11 21 = some (.int fh) ∧ tm_gf (h 70) 11 22 = some (.int (nI s.2.2.2.1)) ∧ tm_gf (h 70) 11 23 = some (.int s.2.2.1) ∧ tm_gf (h 70) 11 24 = some (.int (nI s.2.1)) ∧ tm_gf (h 70) 11 25 = some (.int s.2.2.2.2.1) ∧ tm_gf (h 70) 11 26 = some (.int s.2.2.2.2.2) ∧ tm_isObj (h 70) 11 = true := by
  obtain ⟨ez, hm, km, cl, tu, th, om, HA, _⟩ := R
  rw [HA.1]
  refine ⟨?_, ?_, ?_, ?_, ?_, ?_, tm_isO⟩
  · rw [gf_11_21, ez]
  · rw [gf_11_22, ez]
  · rw [gf_11_23, ez]
  · rw [gf_11_24]
  · rw [gf_11_25, ez]
  · rw [gf_11_26, ez]
theorem m_go_ (X : MInv h S) (P : PX S) (Q : sBo S = true → PB S) {n : Int32} : ∃ h', tC mX11_go [.ref 70, .int n] h = some (h', some (sGo S n).2) ∧ MInv h' (sGo S n).1 ∧ FrM h h' := by
  obtain ⟨h1, E1, X1, F1, _, I1⟩ := m_thr X (v := 0)
  unfold sGo
  cases bo : sBo S with
  | false =>
    have bk := (m_bk X1).2 bo
    obtain ⟨h2, X2, F2, _, D2, _⟩ := m_note X1 (t := 1) (by decide)
    refine ⟨h2, ?_, X2, FrM_tr F1 F2⟩
    simp only [cX11_go_, bX11_go_0, bX11_go_5, bX11_go_9n, bX11_go_12, bX11_go_17, tk1_some, tk0_some, tkc_some, tkc_none, ↓reduceIte, E1, bk, I1, D2, Bool.false_eq_true, if_false, sRef]
  | true =>
    obtain ⟨b0, bk⟩ := (m_bk X1).1 bo
    cases iv : inB n 1 60 with
    | false =>
      obtain ⟨h2, X2, F2, _, D2, _⟩ := m_note X1 (t := 2) (by decide)
      refine ⟨h2, ?_, X2, FrM_tr F1 F2⟩
      simp only [cX11_go_, bX11_go_0, bX11_go_5, bX11_go_9r, bX11_go_18, bX11_go_25, bX11_go_28, bX11_go_33, tk1_some, tk0_some, tkc_some, tkc_none, ↓reduceIte, E1, bk, m_in, iv, bI_f, not_true, if_false, I1, D2, Bool.false_eq_true, if_true, sRef]
    | true =>
      obtain ⟨b, nn, G, nm, Z, z1, z2, M, R, put⟩ := MI_bar X1 bo
      obtain ⟨_, g22, g23, _, _, _, _⟩ := MR_f R
      by_cases d : nI (sR S).2.2.2.1 + n ≤ 400
      · by_cases e : (sR S).2.2.1 = -1
        · obtain ⟨⟨lo, hi, F⟩, h5, en, ew, BO⟩ := Q bo
          obtain ⟨i1, i2⟩ := inB_r iv
          have n0 : 0 ≤ n := Int32.le_trans (by decide) i1
          have eN : nI (iN n) = n := nI_iN n0
          have lN : iN n ≤ 60 := iN_le n0 (by decide) (show n ≤ nI 60 from i2)
          have t4 := P.2.2.1
          obtain ⟨h2, Z2, k2, P2, R2, Q2, F2, T2⟩ := m_goL F h5 z2 (px_c P) en ew (px_w P) (N := iN n) (by omega) (iN n) 0 h1 Z (sR S) (by omega) z1 M BO R (by omega)
          rw [nI_0, eN] at P2
          obtain ⟨X2, G2⟩ := put h2 Z2 (sH S) _ R2 Q2 F2
          obtain ⟨h3, X3, F3, I3, _, _, _, _, D3⟩ := m_note X2 (t := 0) (by decide)
          have D3 := (D3 rfl (nI k2)).1
          have ek : k2 = (goS S n).2.2.2.1 - (sR S).2.2.2.1 := by
            have : k2 + (sR S).2.2.2.1 = 0 + (goS S n).2.2.2.1 := T2
            omega
          rw [ek] at P2 D3
          rw [if_pos rfl, if_pos rfl, if_pos d, if_pos e]
          refine ⟨h3, ?_, X3, FrM_tr F1 (FrM_tr G2 F3)⟩
          simp only [cX11_go_, bX11_go_0, bX11_go_5, bX11_go_9r, bX11_go_18, bX11_go_25, bX11_go_34, bX11_go_38, bX11_go_52, bX11_go_56, bX11_go_66, bX11_go_91, bX11_go_96, tk1_some, tk0_some, tkc_some, tkc_none, ↓reduceIte, E1, bk, m_in, iv, bI_t, show ((1 : Int32) = 0) = False from by decide, not_false_eq_true, if_true, g22, d, g23, e, P2, I3, D3]
        · obtain ⟨h2, X2, F2, _, D2, _⟩ := m_note X1 (t := 5) (by decide)
          rw [if_pos rfl, if_pos rfl, if_pos d, if_neg e]
          refine ⟨h2, ?_, X2, FrM_tr F1 F2⟩
          simp only [cX11_go_, bX11_go_0, bX11_go_5, bX11_go_9r, bX11_go_18, bX11_go_25, bX11_go_34, bX11_go_38, bX11_go_52, bX11_go_56, bX11_go_60, bX11_go_65, tk1_some, tk0_some, tkc_some, tkc_none, ↓reduceIte, E1, bk, m_in, iv, bI_t, show ((1 : Int32) = 0) = False from by decide, not_false_eq_true, if_true, g22, d, g23, e, if_false, I1, D2, sRef]
      · obtain ⟨h2, X2, F2, _, D2, _⟩ := m_note X1 (t := 3) (by decide)
        rw [if_pos rfl, if_pos rfl, if_neg d]
        refine ⟨h2, ?_, X2, FrM_tr F1 F2⟩
        simp only [cX11_go_, bX11_go_0, bX11_go_5, bX11_go_9r, bX11_go_18, bX11_go_25, bX11_go_34, bX11_go_38, bX11_go_46, bX11_go_51, tk1_some, tk0_some, tkc_some, tkc_none, ↓reduceIte, E1, bk, m_in, iv, bI_t, show ((1 : Int32) = 0) = False from by decide, not_false_eq_true, if_true, g22, d, if_false, I1, D2, sRef]
end M27
/-! THE REFERENCE's calls: which cell is one; clay -/
section M28
variable {h : tm_H} {S : SS}
theorem m_cell (X : MInv h S) (Q : sBo S = true → PB S) {i j : Int32} : tC mX11_isCell [.ref 70, .int i, .int j] h = some (h, some (.int (bI (hasS S i j)))) := by
  cases bo : sBo S with
  | false =>
    have bk := (m_bk X).2 bo
    have e : hasS S i j = false := by
      unfold hasS
      by_cases a : 0 ≤ i
      · have : ¬ i < nI (cutS S) := by
          rw [show cutS S = 0 by unfold cutS; rw [bo]; rfl, nI_0]; exact Int32.not_lt.mpr a
        rw [decide_eq_false this]; simp only [Bool.and_false, Bool.false_and]
      · rw [decide_eq_false a]; simp only [Bool.false_and]
    rw [e]
    simp only [cX11_isCell_, bX11_isCell_0, bX11_isCell_4n, bX11_isCell_41, bX11_isCell_42, tk1_some, tk0_some, tkc_some, tkc_none, ↓reduceIte, bk, tm_rb0, bI_f]
  | true =>
    obtain ⟨b, nn, G, nm, Z, z1, z2, M, R, _⟩ := MI_bar X bo
    obtain ⟨_, _, en, ew, _⟩ := Q bo
    obtain ⟨_, hm, km, cl, tu, th, om, HA, _⟩ := R
    have bk : tm_gf (h 70) 11 3 = some (.ref b) := by rw [HA.1, gf_11_3, z1]
    have g0 : tm_gf (h b) 10 0 = some (.int (nI (cutS S))) := by rw [M.1, gf_10_0, en]
    have g1 : tm_gf (h b) 10 1 = some (.int (nI (widS S))) := by rw [M.1, gf_10_1, ew]
    unfold hasS
    by_cases a : i < 0
    · rw [decide_eq_false (Int32.not_le.mpr a)]
      simp only [cX11_isCell_, bX11_isCell_0, bX11_isCell_4r, bX11_isCell_7, bX11_isCell_41, bX11_isCell_42, tk1_some, tk0_some, tkc_some, tkc_none, ↓reduceIte, bk, a, if_true, tm_rb0, bI_f, Bool.false_and]
    · rw [decide_eq_true (Int32.not_lt.mp a)]
      by_cases c : nI (cutS S) ≤ i
      · rw [decide_eq_false (Int32.not_lt.mpr c)]
        simp only [cX11_isCell_, bX11_isCell_0, bX11_isCell_4r, bX11_isCell_7, bX11_isCell_11, bX11_isCell_16, bX11_isCell_19, bX11_isCell_41, bX11_isCell_42, tk1_some, tk0_some, tkc_some, tkc_none, ↓reduceIte, bk, a, if_false, g0, c, if_true, tm_rb0, bI_f, Bool.and_false, Bool.false_and]
      · rw [decide_eq_true (Int32.not_le.mp c)]
        by_cases d : j < 0
        · rw [decide_eq_false (Int32.not_le.mpr d)]
          simp only [cX11_isCell_, bX11_isCell_0, bX11_isCell_4r, bX11_isCell_7, bX11_isCell_11, bX11_isCell_16, bX11_isCell_19, bX11_isCell_22, bX11_isCell_41, bX11_isCell_42, tk1_some, tk0_some, tkc_some, tkc_none, ↓reduceIte, bk, a, if_false, g0, c, d, if_true, tm_rb0, bI_f, Bool.and_false, Bool.false_and]
        · rw [decide_eq_true (Int32.not_lt.mp d)]
          by_cases e : nI (widS S) ≤ j
          · rw [decide_eq_false (Int32.not_lt.mpr e)]
            simp only [cX11_isCell_, bX11_isCell_0, bX11_isCell_4r, bX11_isCell_7, bX11_isCell_11, bX11_isCell_16, bX11_isCell_19, bX11_isCell_22, bX11_isCell_26, bX11_isCell_31, bX11_isCell_34, bX11_isCell_41, bX11_isCell_42, tk1_some, tk0_some, tkc_some, tkc_none, ↓reduceIte, bk, a, if_false, g0, c, d, g1, e, if_true, tm_rb0, bI_f, Bool.and_false]
          · rw [decide_eq_true (Int32.not_le.mp e)]
            simp only [cX11_isCell_, bX11_isCell_0, bX11_isCell_4r, bX11_isCell_7, bX11_isCell_11, bX11_isCell_16, bX11_isCell_19, bX11_isCell_22, bX11_isCell_26, bX11_isCell_31, bX11_isCell_34, bX11_isCell_37, bX11_isCell_42, tk1_some, tk0_some, tkc_some, tkc_none, ↓reduceIte, bk, a, if_false, g0, c, d, g1, e, tm_rb1, bI_t, Bool.and_self]
theorem m_clay (X : MInv h S) (P : PX S) (Q : sBo S = true → PB S) {i j t : Int32} : ∃ h', tC mX11_clay [.ref 70, .int i, .int j, .int t] h = some (h', some (sClay S i j t).2) ∧ MInv h' (sClay S i j t).1 ∧ FrM h h' := by
  obtain ⟨h1, E1, X1, F1, _, I1⟩ := m_thr X (v := 0)
  have IC := m_cell X1 Q (i := i) (j := j)
  unfold sClay
  cases hs : hasS S i j with
  | false =>
    rw [hs, bI_f] at IC
    obtain ⟨h2, X2, F2, _, _, D2, _⟩ := m_note X1 (t := 1) (by decide)
    refine ⟨h2, ?_, X2, FrM_tr F1 F2⟩
    simp only [cX11_clay_, bX11_clay_0, bX11_clay_5, bX11_clay_11, bX11_clay_14, bX11_clay_19, tk1_some, tk0_some, tkc_some, tkc_none, ↓reduceIte, E1, I1, IC, not_true, if_false, D2, tm_rb0, Bool.false_eq_true, sDen]
  | true =>
    rw [hs, bI_t] at IC
    obtain ⟨ei, li, ej, lj, bo⟩ := has_nat P hs
    cases iv : inB t 0 3 with
    | false =>
      obtain ⟨h2, X2, F2, _, _, D2, _⟩ := m_note X1 (t := 2) (by decide)
      refine ⟨h2, ?_, X2, FrM_tr F1 F2⟩
      simp only [cX11_clay_, bX11_clay_0, bX11_clay_5, bX11_clay_11, bX11_clay_20, bX11_clay_26, bX11_clay_29, bX11_clay_34, tk1_some, tk0_some, tkc_some, tkc_none, ↓reduceIte, E1, I1, IC, show ((1 : Int32) = 0) = False from by decide, not_false_eq_true, if_true, m_in, iv, bI_f, not_true, if_false, D2, tm_rb0, Bool.false_eq_true, sDen]
    | true =>
      obtain ⟨b, nn, G, nm, Z, z1, z2, M, R, put⟩ := MI_bar X1 bo
      obtain ⟨_, g22, _⟩ := MR_f R
      have t4 := P.2.2.1
      have le0 : (nI (sR S).2.2.2.1 ≤ 0) = ((sR S).2.2.2.1 = 0) := nI_le0 (by omega)
      by_cases d : (sR S).2.2.2.1 = 0
      · have d' : nI (sR S).2.2.2.1 = 0 := by rw [d]; rfl
        have l0 : nI (sR S).2.2.2.1 ≤ 0 := by rw [le0]; exact d
        obtain ⟨ez, hm, km, cl, tu, th, om, HA, e8, e2, e6, e0, O⟩ := R
        have c8 := px_c P
        have w5 := px_w P
        have lx : iN i * 5 + iN j < 40 := by omega
        have H2 := MA_a4 HA (upd cl (iN i * 5 + iN j) t)
        have Es : tm_si 0 h1 74 (5 * i + j) t = some (tm_up h1 74 (aI 40 (upd cl (iN i * 5 + iN j) t))) := by
          rw [ei, ej, i5j', tm_si_eq, HA.2.2.2.1]
          rw [iN_nI (show iN i < 2 ^ 31 by omega), iN_nI (show iN j < 2 ^ 31 by omega), tm_sa_in rfl lx (by decide)]; rfl
        obtain ⟨X2, G2⟩ := put (tm_up h1 74 (aI 40 (upd cl (iN i * 5 + iN j) t))) Z (sH S) (clayA (sB S 1 2) (iN i * 5 + iN j) t (sR S).1, (sR S).2) ⟨ez, hm, km, _, tu, th, om, H2, e8, e2, e6, fun a c x y => by
          show upd cl _ t (a * 5 + c) = upd ((sR S).1 0) _ t (a * 5 + c)
          by_cases q : a * 5 + c = iN i * 5 + iN j
          · rw [q, upd_at, upd_at]
          · rw [upd_off q, upd_off q]; exact e0 a c x y, O⟩ (ZEq_rf Z) (FrC_u (by decide) (by decide))
        obtain ⟨h3, X3, F3, I3, _, _, _, _, D3⟩ := m_note X2 (t := 0) (by decide)
        have D3 := (D3 rfl 0).2
        rw [if_pos rfl, if_pos rfl, if_pos d']
        refine ⟨h3, ?_, X3, FrM_tr F1 (FrM_tr G2 F3)⟩
        have g18 : tm_gf (h1 70) 11 18 = some (.ref 74) := by rw [HA.1, gf_11_18]
        simp only [cX11_clay_, bX11_clay_0, bX11_clay_5, bX11_clay_11, bX11_clay_20, bX11_clay_26, bX11_clay_35, bX11_clay_39, bX11_clay_48, bX11_clay_52, bX11_clay_59, bX11_clay_63, tk1_some, tk0_some, tkc_some, tkc_none, ↓reduceIte, E1, I1, IC, show ((1 : Int32) = 0) = False from by decide, not_false_eq_true, if_true, m_in, iv, bI_t, g22, l0, g18, Es, I3, D3, tm_rb1]
      · have d' : ¬ nI (sR S).2.2.2.1 = 0 := fun y => d (by rw [← le0, y]; decide)
        have l0 : ¬ nI (sR S).2.2.2.1 ≤ 0 := by rw [le0]; exact d
        obtain ⟨h2, X2, F2, _, _, D2, _⟩ := m_note X1 (t := 5) (by decide)
        rw [if_pos rfl, if_pos rfl, if_neg d']
        refine ⟨h2, ?_, X2, FrM_tr F1 F2⟩
        simp only [cX11_clay_, bX11_clay_0, bX11_clay_5, bX11_clay_11, bX11_clay_20, bX11_clay_26, bX11_clay_35, bX11_clay_39, bX11_clay_42, bX11_clay_47, tk1_some, tk0_some, tkc_some, tkc_none, ↓reduceIte, E1, I1, IC, show ((1 : Int32) = 0) = False from by decide, not_false_eq_true, if_true, m_in, iv, bI_t, g22, l0, if_false, D2, tm_rb0, sDen]
end M28
