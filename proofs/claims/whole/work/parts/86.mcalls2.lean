/-! THE REFERENCE's calls: go -/
/-- what is kept of book and bar -/
def PB (S : SS) : Prop := (∃ lo hi, BkF lo hi (sC S) (sB S)) ∧ sC S 2 ≤ 5 ∧ sB S 0 0 = nI (cutS S) ∧ sB S 0 1 = nI (widS S) ∧ BOk (sC S) (sB S) (cutS S) (widS S) (sR S)
section M27
variable {h : tm_H} {S : SS}
theorem MR_f {Z : MZ} {fh : Int32} {s : BSt} {cuts w : Nat} (R : MR h Z fh s cuts w) : tm_gf (h 130) 11 21 = some (.int fh) ∧ tm_gf (h 130) 11 22 = some (.int (nI s.2.2.2.1)) ∧ tm_gf (h 130) 11 23 = some (.int s.2.2.1) ∧ tm_gf (h 130) 11 24 = some (.int (nI s.2.1)) ∧ tm_gf (h 130) 11 25 = some (.int s.2.2.2.2.1) ∧ tm_gf (h 130) 11 26 = some (.int s.2.2.2.2.2) ∧ tm_isObj (h 130) 11 = true := by
  obtain ⟨ez, hm, km, cl, tu, th, om, HA, _⟩ := R
  rw [HA.1]
  refine ⟨?_, ?_, ?_, ?_, ?_, ?_, tm_isO⟩
  · rw [gf_11_21, ez]
  · rw [gf_11_22, ez]
  · rw [gf_11_23, ez]
  · rw [gf_11_24]
  · rw [gf_11_25, ez]
  · rw [gf_11_26, ez]
theorem m_go_ (X : MInv h S) (P : PX S) (Q : sBo S = true → PB S) {n : Int32} : ∃ h', tC mX11_go [.ref 130, .int n] h = some (h', some (sGo S n).2) ∧ MInv h' (sGo S n).1 ∧ FrM h h' := by
  obtain ⟨h1, E1, X1, F1, _, I1⟩ := m_thr X (v := 0)
  unfold sGo
  cases bo : sBo S with
  | false =>
    have bk := (m_bk X1).2 bo
    obtain ⟨h2, X2, F2, _, D2, _⟩ := m_note X1 (t := 1) (by decide)
    refine ⟨h2, ?_, X2, FrM_tr F1 F2⟩
    simp only [cX11_go_, bX11_go_0, bX11_go_5, bX11_go_9n, bX11_go_12, bX11_go_17, tk1_some, tk0_some, tkc_some, tkc_none, ↓reduceIte, E1, bk, I1, D2, Bool.false_eq_true, if_false, sRef]
  | true =>
    obtain ⟨b0, bk⟩ := (m_bk X1).1 bo
    cases iv : inB n 1 60 with
    | false =>
      obtain ⟨h2, X2, F2, _, D2, _⟩ := m_note X1 (t := 2) (by decide)
      refine ⟨h2, ?_, X2, FrM_tr F1 F2⟩
      simp only [cX11_go_, bX11_go_0, bX11_go_5, bX11_go_9r, bX11_go_18, bX11_go_25, bX11_go_28, bX11_go_33, tk1_some, tk0_some, tkc_some, tkc_none, ↓reduceIte, E1, bk, m_in, iv, bI_f, not_true, if_false, I1, D2, Bool.false_eq_true, if_true, sRef]
    | true =>
      obtain ⟨b, nn, G, nm, Z, z1, z2, M, R, put⟩ := MI_bar X1 bo
      obtain ⟨_, g22, g23, _, _, _, _⟩ := MR_f R
      by_cases d : nI (sR S).2.2.2.1 + n ≤ 400
      · by_cases e : (sR S).2.2.1 = -1
        · obtain ⟨⟨lo, hi, F⟩, h5, en, ew, BO⟩ := Q bo
          obtain ⟨i1, i2⟩ := inB_r iv
          have n0 : 0 ≤ n := Int32.le_trans (by decide) i1
          have eN : nI (iN n) = n := nI_iN n0
          have lN : iN n ≤ 60 := iN_le n0 (by decide) (show n ≤ nI 60 from i2)
          have t4 := P.2.2.1
          obtain ⟨h2, Z2, k2, P2, R2, Q2, F2, T2⟩ := m_goL F h5 z2 (px_c P) en ew (px_w P) (N := iN n) (by omega) (iN n) 0 h1 Z (sR S) (by omega) z1 M BO R (by omega)
          rw [nI_0, eN] at P2
          obtain ⟨X2, G2⟩ := put h2 Z2 (sH S) _ R2 Q2 F2
          obtain ⟨h3, X3, F3, I3, _, _, _, _, D3⟩ := m_note X2 (t := 0) (by decide)
          have D3 := (D3 rfl (nI k2)).1
          have ek : k2 = (goS S n).2.2.2.1 - (sR S).2.2.2.1 := by
            have : k2 + (sR S).2.2.2.1 = 0 + (goS S n).2.2.2.1 := T2
            omega
          rw [ek] at P2 D3
          rw [if_pos rfl, if_pos rfl, if_pos d, if_pos e]
          refine ⟨h3, ?_, X3, FrM_tr F1 (FrM_tr G2 F3)⟩
          simp only [cX11_go_, bX11_go_0, bX11_go_5, bX11_go_9r, bX11_go_18, bX11_go_25, bX11_go_34, bX11_go_38, bX11_go_52, bX11_go_56, bX11_go_66, bX11_go_91, bX11_go_96, tk1_some, tk0_some, tkc_some, tkc_none, ↓reduceIte, E1, bk, m_in, iv, bI_t, show ((1 : Int32) = 0) = False from by decide, not_false_eq_true, if_true, g22, d, g23, e, P2, I3, D3]
        · obtain ⟨h2, X2, F2, _, D2, _⟩ := m_note X1 (t := 5) (by decide)
          rw [if_pos rfl, if_pos rfl, if_pos d, if_neg e]
          refine ⟨h2, ?_, X2, FrM_tr F1 F2⟩
          simp only [cX11_go_, bX11_go_0, bX11_go_5, bX11_go_9r, bX11_go_18, bX11_go_25, bX11_go_34, bX11_go_38, bX11_go_52, bX11_go_56, bX11_go_60, bX11_go_65, tk1_some, tk0_some, tkc_some, tkc_none, ↓reduceIte, E1, bk, m_in, iv, bI_t, show ((1 : Int32) = 0) = False from by decide, not_false_eq_true, if_true, g22, d, g23, e, if_false, I1, D2, sRef]
      · obtain ⟨h2, X2, F2, _, D2, _⟩ := m_note X1 (t := 3) (by decide)
        rw [if_pos rfl, if_pos rfl, if_neg d]
        refine ⟨h2, ?_, X2, FrM_tr F1 F2⟩
        simp only [cX11_go_, bX11_go_0, bX11_go_5, bX11_go_9r, bX11_go_18, bX11_go_25, bX11_go_34, bX11_go_38, bX11_go_46, bX11_go_51, tk1_some, tk0_some, tkc_some, tkc_none, ↓reduceIte, E1, bk, m_in, iv, bI_t, show ((1 : Int32) = 0) = False from by decide, not_false_eq_true, if_true, g22, d, if_false, I1, D2, sRef]
end M27
