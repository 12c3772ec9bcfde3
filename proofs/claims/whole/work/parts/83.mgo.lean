/-! THE REFERENCE: tenths pass, many -/
section M24
variable {b n : Nat} {cnt : Nat → Nat} {tab G : Nat → Nat → Int32} {nm : Nat → Int64} {w cuts : Nat} {lo hi' : Int32}
theorem once_1 {sq water : Int32} {A : Nat → Nat → Int32} {tn tenth : Nat} {crk : Int32} : (onceS cnt tab cuts w sq water tenth A tn crk).1 1 = A 1 :=
  cutsT_ke (by decide) (by decide) (by decide) (by decide) (by decide) (by decide) (by decide) cuts 0 _
theorem BOk_step (F : BkF lo hi' cnt tab) (h5 : cnt 2 ≤ 5) (hw : w ≤ 5) (hc : cuts ≤ 8) {water : Int32} {s : BSt} (B : BOk cnt tab cuts w s) : BOk cnt tab cuts w (barStep cnt tab cuts w (sqS w w) water s) := by
  obtain ⟨K, R, S, O⟩ := B
  refine ⟨KN_once F h5 hw hc K, RmA_once F h5 R, onceS_sz hw, fun i j x y => ?_⟩
  show (onceS cnt tab cuts w (sqS w w) water s.2.2.2.1 s.1 s.2.1 s.2.2.1).1 1 _ = opS (tab 1 2) ((onceS cnt tab cuts w (sqS w w) water s.2.2.2.1 s.1 s.2.1 s.2.2.1).1 0 _)
  rw [once_1, once_0]; exact O i j x y
theorem BOk_bar (F : BkF lo hi' cnt tab) (h5 : cnt 2 ≤ 5) (hw : w ≤ 5) (hc : cuts ≤ 8) {water : Int32} : ∀ r (s : BSt), BOk cnt tab cuts w s → BOk cnt tab cuts w (barS cnt tab cuts w (sqS w w) water r s)
  | 0, _, B => B
  | r + 1, s, B => by
    unfold barS
    by_cases d : s.2.2.1 = -1
    · rw [if_pos d]; exact BOk_bar F h5 hw hc r _ (BOk_step F h5 hw hc B)
    · rw [if_neg d]; exact B
theorem MBk_C {h h' : tm_H} (hb : 83 < b) (F : FrC h h') (M : MBk h b cnt tab n G nm) : MBk h' b cnt tab n G nm := MBk_c (fun k x y => F k (by omega) (by omega)) M
theorem ZEq_rf (Z : MZ) : ZEq Z Z := ⟨rfl, rfl, rfl, rfl⟩
theorem m_goL (F : BkF lo hi' cnt tab) (h5 : cnt 2 ≤ 5) (hb : 83 < b) (hcc : cuts ≤ 8) (en : tab 0 0 = nI cuts) (ew : tab 0 1 = nI w) (hw : w ≤ 5) {fh : Int32} {N : Nat} (hN : N < 2 ^ 31) : ∀ r k h (Z : MZ) (s : BSt), k + r = N → Z.2.1.1 = .ref b → MBk h b cnt tab n G nm → BOk cnt tab cuts w s → MR h Z fh s cuts w → s.2.2.2.1 + r < 1000 →
    ∃ h' Z' k', tE mX11_go 68 [.ref 70, .int (nI N), .int (nI k)] [] h = tE mX11_go 91 [.ref 70, .int (nI N), .int (nI k')] [] h' ∧ MR h' Z' fh (barS cnt tab cuts w (sqS w w) (tab 1 0) r s) cuts w ∧ ZEq Z Z' ∧ FrC h h' ∧ k' + s.2.2.2.1 = k + (barS cnt tab cuts w (sqS w w) (tab 1 0) r s).2.2.2.1 := by
  intro r
  induction r with
  | zero =>
    intro k h Z s hk zb M B H ht
    obtain rfl : k = N := by omega
    refine ⟨h, Z, k, ?_, H, ZEq_rf Z, FrC_rf h, rfl⟩
    rw [bX11_go_68, if_pos (Int32.le_refl _)]
  | succ r ih =>
    intro k h Z s hk zb M B H ht
    have e1 : ¬ nI N ≤ nI k := nI_ge (by omega) hN
    have H0 := H
    obtain ⟨ez, hm, km, cl, tu, th, om, HA, _⟩ := H
    have ec : Z.2.2.2.1.2.2.1 = s.2.2.1 := by rw [ez]
    unfold barS
    by_cases d : s.2.2.1 = -1
    · rw [if_pos d]
      obtain ⟨h1, Z1, P1, H1, Q1, F1⟩ := m_passes F h5 zb hb M hcc en ew hw B H0 d (by omega)
      obtain ⟨h2, Z2, k2, E2, H2, Q2, F2, T2⟩ := ih (k + 1) h1 Z1 _ (by omega) (by rw [Q1.2.1]; exact zb) (MBk_C hb F1 M) (BOk_step F h5 hw hcc B) H1 (by show s.2.2.2.1 + 1 + r < 1000; omega)
      refine ⟨h2, Z2, k2, ?_, H2, ZEq_tr Q1 Q2, FrC_tr F1 F2, ?_⟩
      · rw [bX11_go_68, if_neg e1, ← E2]
        simp only [bX11_go_73, bX11_go_77, bX11_go_81, bX11_go_85, tk1_some, tk0_some, tkc_some, tkc_none, ↓reduceIte, HA.1, gf_11_23, ec, d, not_true, if_false, tm_isO, P1, nI_k1]
      · have : k2 + (s.2.2.2.1 + 1) = k + 1 + (barS cnt tab cuts w (sqS w w) (tab 1 0) r (barStep cnt tab cuts w (sqS w w) (tab 1 0) s)).2.2.2.1 := T2
        omega
    · rw [if_neg d]
      refine ⟨h, Z, k, ?_, H0, ZEq_rf Z, FrC_rf h, rfl⟩
      rw [bX11_go_68, if_neg e1]
      simp only [bX11_go_73, bX11_go_77, tk1_some, tk0_some, tkc_some, tkc_none, ↓reduceIte, HA.1, gf_11_23, ec, d, not_false_eq_true, if_true]
theorem m_agL (F : BkF lo hi' cnt tab) (h5 : cnt 2 ≤ 5) (hb : 83 < b) (hcc : cuts ≤ 8) (en : tab 0 0 = nI cuts) (ew : tab 0 1 = nI w) (hw : w ≤ 5) {fh : Int32} {N : Nat} (hN : N < 1000) : ∀ r h (Z : MZ) (s : BSt), s.2.2.2.1 + r = N → Z.2.1.1 = .ref b → MBk h b cnt tab n G nm → BOk cnt tab cuts w s → MR h Z fh s cuts w → (barS cnt tab cuts w (sqS w w) (tab 1 0) r s).2.2.2.1 = s.2.2.2.1 + r →
    ∃ h' Z', tE mX11_again 44 [.ref 70, .int (nI N)] [] h = tE mX11_again 59 [.ref 70, .int (nI N)] [] h' ∧ MR h' Z' fh (barS cnt tab cuts w (sqS w w) (tab 1 0) r s) cuts w ∧ ZEq Z Z' ∧ FrC h h' := by
  intro r
  induction r with
  | zero =>
    intro h Z s hk zb M B H hs
    have H0 := H
    obtain ⟨ez, hm, km, cl, tu, th, om, HA, _⟩ := H
    have et : Z.2.2.2.1.2.1 = nI N := by rw [ez]; show nI s.2.2.2.1 = nI N; rw [show s.2.2.2.1 = N by omega]
    refine ⟨h, Z, ?_, H0, ZEq_rf Z, FrC_rf h⟩
    simp only [bX11_again_44, bX11_again_48, tk1_some, tk0_some, tkc_some, tkc_none, ↓reduceIte, HA.1, gf_11_22, et, Int32.le_refl, if_true]
  | succ r ih =>
    intro h Z s hk zb M B H hs
    have H0 := H
    obtain ⟨ez, hm, km, cl, tu, th, om, HA, _⟩ := H
    have et : Z.2.2.2.1.2.1 = nI s.2.2.2.1 := by rw [ez]
    have e1 : ¬ nI N ≤ nI s.2.2.2.1 := nI_ge (by omega) (by omega)
    unfold barS at hs ⊢
    by_cases d : s.2.2.1 = -1
    · rw [if_pos d] at hs ⊢
      obtain ⟨h1, Z1, P1, H1, Q1, F1⟩ := m_passes F h5 zb hb M hcc en ew hw B H0 d (by omega)
      obtain ⟨h2, Z2, E2, H2, Q2, F2⟩ := ih h1 Z1 _ (show s.2.2.2.1 + 1 + r = N by omega) (by rw [Q1.2.1]; exact zb) (MBk_C hb F1 M) (BOk_step F h5 hw hcc B) H1 (by show _ = s.2.2.2.1 + 1 + r; rw [hs]; omega)
      refine ⟨h2, Z2, ?_, H2, ZEq_tr Q1 Q2, FrC_tr F1 F2⟩
      rw [← E2]
      rw [bX11_again_44]
      simp only [bX11_again_48, bX11_again_52, bX11_again_56, tk1_some, tk0_some, tkc_some, tkc_none, ↓reduceIte, HA.1, gf_11_22, et, e1, if_false, tm_isO, P1]
    · rw [if_neg d] at hs
      omega
end M24
