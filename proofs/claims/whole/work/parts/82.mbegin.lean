/-! THE REFERENCE: the bar begins; tenths pass -/
section M23
variable {h : tm_H} {b n : Nat} {cnt : Nat → Nat} {tab G : Nat → Nat → Int32} {nm : Nat → Int64} {w cuts : Nat} {Z : MZ} {lo hi' : Int32}
theorem MA_a2 {tn : Nat} {hm km cl tu th om : Nat → Int32} (H : MA h Z tn hm km cl tu th om) (f : Nat → Int32) : MA (tm_up h 72 (aI 40 f)) Z tn f km cl tu th om :=
  ⟨by rw [tm_up_ne (by decide)]; exact H.1, tm_up_same, by rw [tm_up_ne (by decide)]; exact H.2.2.1, by rw [tm_up_ne (by decide)]; exact H.2.2.2.1, by rw [tm_up_ne (by decide)]; exact H.2.2.2.2.1, by rw [tm_up_ne (by decide)]; exact H.2.2.2.2.2.1, by rw [tm_up_ne (by decide)]; exact H.2.2.2.2.2.2⟩
theorem MA_a3 {tn : Nat} {hm km cl tu th om : Nat → Int32} (H : MA h Z tn hm km cl tu th om) (f : Nat → Int32) : MA (tm_up h 73 (aI 40 f)) Z tn hm f cl tu th om :=
  ⟨by rw [tm_up_ne (by decide)]; exact H.1, by rw [tm_up_ne (by decide)]; exact H.2.1, tm_up_same, by rw [tm_up_ne (by decide)]; exact H.2.2.2.1, by rw [tm_up_ne (by decide)]; exact H.2.2.2.2.1, by rw [tm_up_ne (by decide)]; exact H.2.2.2.2.2.1, by rw [tm_up_ne (by decide)]; exact H.2.2.2.2.2.2⟩
theorem MA_a4 {tn : Nat} {hm km cl tu th om : Nat → Int32} (H : MA h Z tn hm km cl tu th om) (f : Nat → Int32) : MA (tm_up h 74 (aI 40 f)) Z tn hm km f tu th om :=
  ⟨by rw [tm_up_ne (by decide)]; exact H.1, by rw [tm_up_ne (by decide)]; exact H.2.1, by rw [tm_up_ne (by decide)]; exact H.2.2.1, tm_up_same, by rw [tm_up_ne (by decide)]; exact H.2.2.2.2.1, by rw [tm_up_ne (by decide)]; exact H.2.2.2.2.2.1, by rw [tm_up_ne (by decide)]; exact H.2.2.2.2.2.2⟩
theorem MA_a5 {tn : Nat} {hm km cl tu th om : Nat → Int32} (H : MA h Z tn hm km cl tu th om) (f : Nat → Int32) : MA (tm_up h 75 (aI 40 f)) Z tn hm km cl f th om :=
  ⟨by rw [tm_up_ne (by decide)]; exact H.1, by rw [tm_up_ne (by decide)]; exact H.2.1, by rw [tm_up_ne (by decide)]; exact H.2.2.1, by rw [tm_up_ne (by decide)]; exact H.2.2.2.1, tm_up_same, by rw [tm_up_ne (by decide)]; exact H.2.2.2.2.2.1, by rw [tm_up_ne (by decide)]; exact H.2.2.2.2.2.2⟩
theorem FrC_u {a : Nat} {e : va_E} (h1 : 72 ≤ a) (h2 : a ≤ 77) : FrC h (tm_up h a e) := fun k x y => tm_up_ne (by omega)
theorem mbg_loop {tn : Nat} {cl th om : Nat → Int32} {v : Int32} : ∀ r k h hm km tu, k + r = 40 → MA h Z tn (fillF hm v k) (fillF km 0 k) cl (fillF tu (-2) k) th om → ∃ h', tE mX11_begins 32 [.ref 70, .int v, .int (nI k)] [] h = some (h', none) ∧ MA h' Z tn (fillF hm v 40) (fillF km 0 40) cl (fillF tu (-2) 40) th om ∧ FrC h h' := by
  intro r
  induction r with
  | zero =>
    intro k h hm km tu hk H
    obtain rfl : k = 40 := by omega
    refine ⟨h, ?_, H, FrC_rf h⟩
    rw [bX11_begins_32, if_pos (show (40 : Int32) ≤ nI 40 from Int32.le_refl _), bX11_begins_66]
  | succ r ih =>
    intro k h hm km tu hk H
    have t0 : (40 : Nat) < 2 ^ 31 := by decide
    have e1 : ¬ (40 : Int32) ≤ nI k := nI_ge (show k < 40 by omega) t0
    have H1 := MA_a2 H (fillF hm v (k + 1))
    have E1 : tm_si 0 h 72 (nI k) v = some (tm_up h 72 (aI 40 (fillF hm v (k + 1)))) := by
      rw [tm_si_eq, H.2.1, tm_sa_in rfl (show k < 40 by omega) t0, fillF_s]; rfl
    have F1 : FrC h (tm_up h 72 (aI 40 (fillF hm v (k + 1)))) := FrC_u (by decide) (by decide)
    generalize tm_up h 72 (aI 40 (fillF hm v (k + 1))) = h1 at H1 E1 F1
    have H2 := MA_a3 H1 (fillF km 0 (k + 1))
    have E2 : tm_si 0 h1 73 (nI k) 0 = some (tm_up h1 73 (aI 40 (fillF km 0 (k + 1)))) := by
      rw [tm_si_eq, H1.2.2.1, tm_sa_in rfl (show k < 40 by omega) t0, fillF_s]; rfl
    have F2 : FrC h1 (tm_up h1 73 (aI 40 (fillF km 0 (k + 1)))) := FrC_u (by decide) (by decide)
    generalize tm_up h1 73 (aI 40 (fillF km 0 (k + 1))) = h2 at H2 E2 F2
    have H3 := MA_a5 H2 (fillF tu (-2) (k + 1))
    have E3 : tm_si 0 h2 75 (nI k) (-2) = some (tm_up h2 75 (aI 40 (fillF tu (-2) (k + 1)))) := by
      rw [tm_si_eq, H2.2.2.2.2.1, tm_sa_in rfl (show k < 40 by omega) t0, fillF_s]; rfl
    have F3 : FrC h2 (tm_up h2 75 (aI 40 (fillF tu (-2) (k + 1)))) := FrC_u (by decide) (by decide)
    generalize tm_up h2 75 (aI 40 (fillF tu (-2) (k + 1))) = h3 at H3 E3 F3
    obtain ⟨h', E, H', F'⟩ := ih (k + 1) h3 hm km tu (by omega) H3
    refine ⟨h', ?_, H', FrC_tr F1 (FrC_tr F2 (FrC_tr F3 F'))⟩
    rw [bX11_begins_32, if_neg e1, ← E]
    simp only [bX11_begins_38, bX11_begins_42, bX11_begins_45, bX11_begins_49, bX11_begins_52, bX11_begins_56, bX11_begins_60, tk1_some, tk0_some, tkc_some, tkc_none, ↓reduceIte, H.1, H1.1, H2.1, gf_11_16, gf_11_17, gf_11_19, E1, E2, E3, nI_k1]
theorem m_beg {tn : Nat} {hm km cl tu th om : Nat → Int32} (H : MA h Z tn hm km cl tu th om) {v : Int32} : ∃ h', tC mX11_begins [.ref 70, .int v] h = some (h', none) ∧ MA h' (Z.1, Z.2.1, Z.2.2.1, (v, 0, -1, 0, 0), Z.2.2.2.2) 0 (fillF hm v 40) (fillF km 0 40) cl (fillF tu (-2) 40) th om ∧ FrC h h' := by
  obtain ⟨z1, ⟨z2, z3⟩, z4, ⟨a1, a2, a3, a4, a5⟩, z6⟩ := Z
  have H1 := MA_o H (z1, (z2, z3), z4, (v, 0, -1, 0, 0), z6) 0
  have F1 : FrC h (tm_up h 70 (moO (z1, (z2, z3), z4, (v, 0, -1, 0, 0), z6) (nI 0))) := FrC_o
  generalize hh : tm_up h 70 (moO (z1, (z2, z3), z4, (v, 0, -1, 0, 0), z6) (nI 0)) = h1 at H1 F1
  obtain ⟨h', E, H', F'⟩ := mbg_loop (v := v) 40 0 h1 hm km tu (by omega) (by rw [fillF_0, fillF_0, fillF_0]; exact H1)
  refine ⟨h', ?_, H', FrC_tr F1 F'⟩
  rw [nI_0] at E hh
  rw [← E, ← hh]
  have o : h 70 = moO (z1, (z2, z3), z4, (a1, a2, a3, a4, a5), z6) (nI tn) := H.1
  simp only [cX11_begins_, bX11_begins_0, bX11_begins_5, bX11_begins_10, bX11_begins_15, bX11_begins_20, bX11_begins_25, bX11_begins_30, tk1_some, tk0_some, tkc_some, tkc_none, ↓reduceIte, o, tm_pf_eq, ps_11_21, ps_11_22, ps_11_23, ps_11_24, ps_11_25, ps_11_26, Option.map_some, tm_up_same, tm_up_up]
theorem sizL_k {sw : Int32} {m : Nat} (hm : m ≠ 5) : ∀ r i (A : Nat → Nat → Int32), sizL sw w r i A m = A m
  | 0, _, _ => rfl
  | r + 1, i, A => by
    unfold sizL
    rw [sizL_k hm r (i + 1), upA_ne _ _ hm]
theorem heatS_k {sq v : Int32} {A : Nat → Nat → Int32} : heatS tab cuts w sq v A 8 = fillF (A 8) v 40 ∧ heatS tab cuts w sq v A 2 = fillF (A 2) 0 40 ∧ heatS tab cuts w sq v A 6 = fillF (A 6) (-2) 40 ∧ heatS tab cuts w sq v A 0 = A 0 ∧ heatS tab cuts w sq v A 1 = A 1 := by
  unfold heatS
  refine ⟨?_, ?_, ?_, ?_, ?_⟩
  · rw [sizL_k (by decide)]; rfl
  · rw [sizL_k (by decide)]; rfl
  · rw [sizL_k (by decide)]; rfl
  · rw [sizL_k (by decide)]; rfl
  · rw [sizL_k (by decide)]; rfl
/-- the bar, heated anew -/
def hot0 (tab : Nat → Nat → Int32) (cuts w : Nat) (v : Int32) (A : Nat → Nat → Int32) : BSt := (heatS tab cuts w (sqS w w) v A, 0, -1, 0, 0, 0)
theorem BOk_hot (F : BkF lo hi' cnt tab) (hw : w ≤ 5) {v : Int32} {A : Nat → Nat → Int32} (OA : ∀ i j, i < cuts → j < w → A 1 (i * 5 + j) = opS (tab 1 2) (A 0 (i * 5 + j))) : BOk cnt tab cuts w (hot0 tab cuts w v A) := by
  refine ⟨KN_heat F, RmA_heat, heatS_sz hw, fun i j x y => ?_⟩
  show heatS tab cuts w (sqS w w) v A 1 _ = opS (tab 1 2) (heatS tab cuts w (sqS w w) v A 0 _)
  rw [heatS_k.2.2.2.2, heatS_k.2.2.2.1]; exact OA i j x y
theorem MR_hot (hcc : cuts ≤ 8) (hw : w ≤ 5) {tn : Nat} {hm km cl tu th om : Nat → Int32} (H : MA h Z tn hm km cl tu th om) {A : Nat → Nat → Int32} (e0 : EqI cuts w cl (A 0)) {v : Int32} : ∃ h' Z', tC mX11_begins [.ref 70, .int v] h = some (h', none) ∧ MR h' Z' v (hot0 tab cuts w v A) cuts w ∧ ZEq Z Z' ∧ FrC h h' := by
  obtain ⟨h', P, H', F'⟩ := m_beg H (v := v)
  refine ⟨h', _, P, ⟨rfl, _, _, cl, _, th, om, H', fun i j x y => ?_, fun i j x y => ?_, fun i j x y => ?_, fun i j x y => ?_, fun k hk => absurd hk (Nat.not_lt_zero _)⟩, ⟨rfl, rfl, rfl, rfl⟩, F'⟩
  · show _ = heatS tab cuts w (sqS w w) v A 8 _
    rw [heatS_k.1, fillF_in hcc hw x y, fillF_in hcc hw x y]
  · show _ = heatS tab cuts w (sqS w w) v A 2 _
    rw [heatS_k.2.1, fillF_in hcc hw x y, fillF_in hcc hw x y]
  · show _ = heatS tab cuts w (sqS w w) v A 6 _
    rw [heatS_k.2.2.1, fillF_in hcc hw x y, fillF_in hcc hw x y]
  · show _ = heatS tab cuts w (sqS w w) v A 0 _
    rw [heatS_k.2.2.2.1]; exact e0 i j x y
end M23
