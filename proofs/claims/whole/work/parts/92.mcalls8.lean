/-! THE REFERENCE's calls: a layer is laid -/
section M33
variable {h : tm_H} {S : SS}
theorem MA_c {h' : tm_H} {Z : MZ} {tn : Nat} {hm km cl tu th om : Nat → Int32} (E : ∀ k, (k = 130 ∨ (132 ≤ k ∧ k ≤ 137) ∨ 143 < k) → h' k = h k) (H : MA h Z tn hm km cl tu th om) : MA h' Z tn hm km cl tu th om :=
  ⟨by rw [E 130 (by omega)]; exact H.1, by rw [E 132 (by omega)]; exact H.2.1, by rw [E 133 (by omega)]; exact H.2.2.1, by rw [E 134 (by omega)]; exact H.2.2.2.1, by rw [E 135 (by omega)]; exact H.2.2.2.2.1, by rw [E 136 (by omega)]; exact H.2.2.2.2.2.1, by rw [E 137 (by omega)]; exact H.2.2.2.2.2.2⟩
theorem MBB_c {h' : tm_H} {Z : MZ} {m : Nat} (E : ∀ k, (k = 130 ∨ (132 ≤ k ∧ k ≤ 137) ∨ 143 < k) → h' k = h k) (B : MBB h Z m S) : MBB h' Z m S := by
  refine ⟨fun bo => ?_, B.2⟩
  obtain ⟨b, nn, G, nm, z1, z2, z3, M, ez, hm, km, cl, tu, th, om, HA, r⟩ := B.1 bo
  exact ⟨b, nn, G, nm, z1, z2, z3, MBk_c (fun k x y => E k (by omega)) M, ez, hm, km, cl, tu, th, om, MA_c E HA, r⟩
theorem MI_141 (X : MInv h S) : ∃ f, h 141 = aI 9 f ∧ (∀ k, k < 8 → f k = sD S k) ∧ f 8 = sCa S ∧ ∀ f' d' c', (∀ k, k < 8 → f' k = d' k) → f' 8 = c' → MInv (tm_up h 141 (aI 9 f')) (sBil S d' c') := by
  obtain ⟨Z, m, c, s, h0, hm, T, ⟨tn, hm0, km, cl, tu, th, om, HA⟩, tp, B, ⟨f1, t1⟩, ⟨f2, t2⟩, ⟨f3, t3⟩, ⟨f, l1, l2, l3⟩, ⟨f5, t4⟩, ⟨f6, b1, b2⟩⟩ := X
  refine ⟨f, l1, l2, l3, fun f' d' c' q1 q2 => ?_⟩
  have nx : ∀ k, k ≠ 141 → tm_up h 141 (aI 9 f') k = h k := fun k x => tm_up_ne x
  refine ⟨Z, m, c, s, by rw [nx 0 (by decide)]; exact h0, hm, T, ⟨tn, hm0, km, cl, tu, th, om, MA_c (fun k x => nx k (by omega)) HA⟩, by rw [nx 131 (by decide)]; exact tp, ?_, ⟨f1, by rw [nx 138 (by decide)]; exact t1⟩, ⟨f2, by rw [nx 139 (by decide)]; exact t2⟩, ⟨f3, by rw [nx 140 (by decide)]; exact t3⟩, ⟨f', tm_up_same, q1, q2⟩, ⟨f5, by rw [nx 142 (by decide)]; exact t4⟩, ⟨f6, by rw [nx 143 (by decide)]; exact b1, b2⟩⟩
  exact MBB_c (S := S) (fun k x => nx k (by omega)) B
theorem m_lay (X : MInv h S) {l v : Int32} : ∃ h', tC mX11_lay [.ref 130, .int l, .int v] h = some (h', some (sLay S l v).2) ∧ MInv h' (sLay S l v).1 ∧ FrM h h' := by
  obtain ⟨h1, E1, X1, F1, _, I1⟩ := m_thr X (v := 0)
  unfold sLay
  cases bo : sBo S with
  | false =>
    have bk := (m_bk X1).2 bo
    obtain ⟨h2, X2, F2, _, _, D2, _⟩ := m_note X1 (t := 1) (by decide)
    refine ⟨h2, ?_, X2, FrM_tr F1 F2⟩
    simp only [cX11_lay_, bX11_lay_0, bX11_lay_5, bX11_lay_9n, bX11_lay_22, bX11_lay_27, tk1_some, tk0_some, tkc_some, tkc_none, ↓reduceIte, E1, bk, I1, D2, tm_rb0, Bool.false_eq_true, if_false, sDen]
  | true =>
    obtain ⟨b0, bk⟩ := (m_bk X1).1 bo
    cases iv : inB l 0 8 with
    | false =>
      obtain ⟨h2, X2, F2, _, _, D2, _⟩ := m_note X1 (t := 1) (by decide)
      refine ⟨h2, ?_, X2, FrM_tr F1 F2⟩
      simp only [cX11_lay_, bX11_lay_0, bX11_lay_5, bX11_lay_9r, bX11_lay_12, bX11_lay_19, bX11_lay_22, bX11_lay_27, tk1_some, tk0_some, tkc_some, tkc_none, ↓reduceIte, E1, bk, m_in, iv, bI_f, not_true, if_false, I1, D2, tm_rb0, Bool.false_eq_true, if_true, sDen]
    | true =>
      cases jv : inB v 0 9999 with
      | false =>
        obtain ⟨h2, X2, F2, _, _, D2, _⟩ := m_note X1 (t := 2) (by decide)
        refine ⟨h2, ?_, X2, FrM_tr F1 F2⟩
        simp only [cX11_lay_, bX11_lay_0, bX11_lay_5, bX11_lay_9r, bX11_lay_12, bX11_lay_19, bX11_lay_28, bX11_lay_36, bX11_lay_39, bX11_lay_44, tk1_some, tk0_some, tkc_some, tkc_none, ↓reduceIte, E1, bk, m_in, iv, jv, bI_f, bI_t, show ((1 : Int32) = 0) = False from by decide, not_false_eq_true, not_true, if_false, I1, D2, tm_rb0, Bool.false_eq_true, if_true, sDen]
      | true =>
        have g31 := (m_top X1).2.2.2.2.2.1
        obtain ⟨k, hk, rfl⟩ := inB_nk (hi := 8) (by decide) iv
        obtain ⟨f, l1, l2, l3, put⟩ := MI_141 X1
        have Es : tm_si 0 h1 141 (nI k) v = some (tm_up h1 141 (aI 9 (upd f k v))) := by
          rw [tm_si_eq, l1, tm_sa_in rfl (show k < 9 by omega) (by decide)]; rfl
        have Y : ∃ d' c', MInv (tm_up h1 141 (aI 9 (upd f k v))) (sBil S d' c') ∧ (if nI k = 8 then (sTr (sBil S (sD S) v) 0, Value.int 1) else (sTr (sBil S (upd (sD S) (iN (nI k)) v) (sCa S)) 0, .int 1)) = (sTr (sBil S d' c') 0, .int 1) := by
          by_cases e : k = 8
          · subst e
            exact ⟨sD S, v, put _ _ _ (fun j hj => by rw [upd_off (by omega)]; exact l2 j hj) (upd_at _ _ _), if_pos rfl⟩
          · refine ⟨upd (sD S) k v, sCa S, put _ _ _ (fun j hj => ?_) (by rw [upd_off (by omega)]; exact l3), ?_⟩
            · by_cases q : j = k
              · subst q; rw [upd_at, upd_at]
              · rw [upd_off q, upd_off q]; exact l2 j hj
            · rw [if_neg (fun y => e (by have := congrArg iN y; rw [iN_nI (by omega)] at this; exact this)), iN_nI (by omega)]
        obtain ⟨d', c', X2, eY⟩ := Y
        rw [if_pos rfl, if_pos rfl, if_pos rfl, eY]
        obtain ⟨h3, X3, F3, I3, _, _, _, _, D3⟩ := m_note X2 (t := 0) (by decide)
        have D3 := (D3 rfl 0).2
        refine ⟨h3, ?_, X3, FrM_tr F1 (FrM_tr (FrM_up (by decide)) F3)⟩
        simp only [cX11_lay_, bX11_lay_0, bX11_lay_5, bX11_lay_9r, bX11_lay_12, bX11_lay_19, bX11_lay_28, bX11_lay_36, bX11_lay_45, bX11_lay_49, bX11_lay_52, bX11_lay_56, tk1_some, tk0_some, tkc_some, tkc_none, ↓reduceIte, E1, bk, m_in, iv, jv, bI_t, show ((1 : Int32) = 0) = False from by decide, not_false_eq_true, if_true, g31, Es, I3, D3, tm_rb1]
end M33
