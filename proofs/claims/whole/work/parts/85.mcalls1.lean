/-! THE REFERENCE's calls: the bar -/
section M26
variable {h : tm_H} {S : SS}
theorem FrC_M {h h' : tm_H} (F : FrC h h') : FrM h h' := fun k hk => F k (by omega) (by omega)
theorem MI_bar (X : MInv h S) (bo : sBo S = true) : ∃ (b nn : Nat) (G : Nat → Nat → Int32) (nm : Nat → Int64) (Z : MZ), Z.2.1.1 = .ref b ∧ 143 < b ∧ MBk h b (sC S) (sB S) nn G nm ∧ MR h Z (sH S) (sR S) (cutS S) (widS S) ∧ (∀ h' Z' fh s', MR h' Z' fh s' (cutS S) (widS S) → ZEq Z Z' → FrC h h' → MInv h' (sBr S fh s') ∧ FrM h h') := by
  obtain ⟨Z, m, c, s, h0, hm, T, A, tp, B, ⟨f1, t1⟩, ⟨f2, t2⟩, ⟨f3, t3⟩, ⟨f4, l1, l2⟩, ⟨f5, t4⟩, ⟨f6, b1, b2⟩⟩ := X
  obtain ⟨b, nn, G, nm, z1, z2, z3, M, R⟩ := B.1 bo
  refine ⟨b, nn, G, nm, Z, z1, z2, M, R, fun h' Z' fh s' R' Q F => ⟨?_, FrC_M F⟩⟩
  have R0 := R'
  obtain ⟨_, hm', km', cl', tu', th', om', HA', _⟩ := R'
  refine ⟨Z', m, c, s, by rw [F 0 (by decide) (by decide)]; exact h0, hm, ?_, ⟨_, hm', km', cl', tu', th', om', HA'⟩, by rw [F 131 (by decide) (by decide)]; exact tp, ⟨fun _ => ⟨b, nn, G, nm, ?_, z2, z3, MBk_C z2 F M, R0⟩, fun y => ?_⟩, ⟨f1, by rw [F 138 (by decide) (by decide)]; exact t1⟩, ⟨f2, by rw [F 139 (by decide) (by decide)]; exact t2⟩, ⟨f3, by rw [F 140 (by decide) (by decide)]; exact t3⟩, ⟨f4, by rw [F 141 (by decide) (by decide)]; exact l1, l2⟩, ⟨f5, by rw [F 142 (by decide) (by decide)]; exact t4⟩, ⟨f6, by rw [F 143 (by decide) (by decide)]; exact b1, b2⟩⟩
  · obtain ⟨q1, q2, q3, q4⟩ := Q
    exact ⟨by rw [q1]; exact T.1, by rw [q3]; exact T.2.1, by rw [q3]; exact T.2.2.1, by rw [q4]; exact T.2.2.2⟩
  · rw [Q.2.1]; exact z1
  · rw [show sBo (sBr S fh s') = sBo S from rfl, bo] at y; cases y
theorem m_heat (X : MInv h S) (P : PX S) {v : Int32} : ∃ h', tC mX11_heat [.ref 130, .int v] h = some (h', some (sHeat S v).2) ∧ MInv h' (sHeat S v).1 ∧ FrM h h' := by
  obtain ⟨h1, E1, X1, F1, _, I1⟩ := m_thr X (v := 0)
  unfold sHeat
  cases bo : sBo S with
  | false =>
    have bk := (m_bk X1).2 bo
    obtain ⟨h2, X2, F2, _, _, D2, _⟩ := m_note X1 (t := 1) (by decide)
    refine ⟨h2, ?_, X2, FrM_tr F1 F2⟩
    simp only [cX11_heat_, bX11_heat_0, bX11_heat_5, bX11_heat_9n, bX11_heat_12, bX11_heat_17, tk1_some, tk0_some, tkc_some, tkc_none, ↓reduceIte, E1, bk, I1, D2, tm_rb0, Bool.false_eq_true, if_false, sDen]
  | true =>
    obtain ⟨b0, bk⟩ := (m_bk X1).1 bo
    cases iv : inB v 0 999 with
    | false =>
      obtain ⟨h2, X2, F2, _, _, D2, _⟩ := m_note X1 (t := 2) (by decide)
      refine ⟨h2, ?_, X2, FrM_tr F1 F2⟩
      simp only [cX11_heat_, bX11_heat_0, bX11_heat_5, bX11_heat_9r, bX11_heat_18, bX11_heat_26, bX11_heat_29, bX11_heat_34, tk1_some, tk0_some, tkc_some, tkc_none, ↓reduceIte, E1, bk, m_in, iv, bI_f, not_true, if_false, I1, D2, tm_rb0, Bool.false_eq_true, if_true, sDen]
    | true =>
      obtain ⟨b, nn, G, nm, Z, z1, z2, M, R, put⟩ := MI_bar X1 bo
      obtain ⟨_, hm, km, cl, tu, th, om, HA, e8, e2, e6, e0, O⟩ := R
      obtain ⟨h2, Z2, P2, R2, Q2, F2⟩ := MR_hot (tab := sB S) (px_c P) (px_w P) HA e0 (v := v)
      obtain ⟨X2, G2⟩ := put h2 Z2 v _ R2 Q2 F2
      obtain ⟨h3, X3, F3, I3, _, _, _, _, D3⟩ := m_note X2 (t := 0) (by decide)
      have D3 := (D3 rfl 0).2
      refine ⟨h3, ?_, X3, FrM_tr F1 (FrM_tr G2 F3)⟩
      simp only [cX11_heat_, bX11_heat_0, bX11_heat_5, bX11_heat_9r, bX11_heat_18, bX11_heat_26, bX11_heat_35, bX11_heat_40, bX11_heat_44, tk1_some, tk0_some, tkc_some, tkc_none, ↓reduceIte, E1, bk, m_in, iv, bI_t, show ((1 : Int32) = 0) = False from by decide, not_false_eq_true, if_true, I1, P2, I3, D3, tm_rb1]
end M26
