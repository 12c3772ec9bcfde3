/-! CELLS of the class: heated, clayed, poured, fitted -/
def sizL (sw : Int32) (w : Nat) : Nat → Nat → (Nat → Nat → Int32) → Nat → Nat → Int32
  | 0, _, A => A
  | r + 1, i, A => sizL sw w r (i + 1) (upA A 5 (rowF (sizG sw (A 8) (A 3)) (A 5) i w))
def hotA (t2 : Nat → Int32) (wp v : Int32) (A : Nat → Nat → Int32) : Nat → Nat → Int32 :=
  upA (upA (upA (upA (upA A 8 (fillF (A 8) v 40)) 2 (fillF (A 2) 0 40)) 3 (fillF (A 3) (t2 1) 40)) 4 (fillF (A 4) (t2 2 * wp) 40)) 6 (fillF (A 6) (-2) 40)
def heatS (tab : Nat → Nat → Int32) (cuts w : Nat) (sq v : Int32) (A : Nat → Nat → Int32) : Nat → Nat → Int32 :=
  sizL (tab 1 4) w cuts 0 (hotA (tab 2) (nI w * sq) v A)
section CE10
variable {c : Nat} {p q bk cuts w : Nat} {sq water : Int32} {tenth turned : Nat} {crk lo hi' : Int32} {cnt : Nat → Nat} {tab : Nat → Nat → Int32}
theorem sizL_loop (k1 : 0 < cnt 1) (hd : bk + 14 < c ∨ c + 10 < bk) {x1 : Value} : ∀ r i h A, CAt h c A p q bk cuts w sq water tenth turned crk → BkAt h bk lo hi' cnt tab → i + r = cuts → ∃ h', tE mX4_heatTo 85 [.ref c, x1, .int (nI i)] [] h = some (h', none) ∧ CAt h' c (sizL (tab 1 4) w r i A) p q bk cuts w sq water tenth turned crk ∧ Fr c h h' := by
  intro r
  induction r with
  | zero =>
    intro i h A H K hi
    obtain rfl : i = cuts := by omega
    refine ⟨h, ?_, H, Fr_rf c h⟩
    rw [bX4_heatTo_85]
    simp only [bX4_heatTo_90, bX4_heatTo_104, tk1_some, tk0_some, tkc_some, tkc_none, ↓reduceIte, ca_o H, gf_4_11, Int32.le_refl, if_true]
  | succ r ih =>
    intro i h A H K hi
    have hc := ca_c H
    have e1 : ¬ nI cuts ≤ nI i := nI_ge (by omega) (by omega)
    have P := size_spec H (show i < 8 by omega) K k1
    have F1 : Fr c h (tm_up h (c + 1 + 5) (aI 40 (rowF (sizG (tab 1 4) (A 8) (A 3)) (A 5) i w))) := Fr_up (by omega) (by omega)
    have H1 := CAt_arr H (show 5 < 8 by decide) (rowF (sizG (tab 1 4) (A 8) (A 3)) (A 5) i w)
    obtain ⟨h', P2, H2, F2⟩ := ih (i + 1) _ _ H1 (BkAt_fr K F1 hd) (by omega)
    refine ⟨h', ?_, H2, Fr_tr F1 F2⟩
    rw [bX4_heatTo_85]
    simp only [bX4_heatTo_90, bX4_heatTo_93, bX4_heatTo_98, tk1_some, tk0_some, tkc_some, tkc_none, ↓reduceIte, ca_o H, gf_4_11, e1, if_false, tm_isO, P, nI_k1, P2]
theorem heatTo_spec {h : tm_H} {A : Nat → Nat → Int32} (H : CAt h c A p q bk cuts w sq water tenth turned crk) (K : BkAt h bk lo hi' cnt tab) (k1 : 0 < cnt 1) (k2 : 0 < cnt 2) (hd : bk + 14 < c ∨ c + 10 < bk) {v : Int32} : ∃ h', tC mX4_heatTo [.ref c, .int v] h = some (h', none) ∧ CAt h' c (heatS tab cuts w sq v A) p q bk cuts w sq water 0 0 (-1) ∧ Fr c h h' := by
  have t0 : 40 < 2 ^ 31 := by decide
  have F1 : Fr c h (tm_up h p (aI 40 (fillF (A 8) v 40))) := by
    have := H.2.2.2.2.1
    exact Fr_up (by omega) (by omega)
  have P1 := fill_spec (ca_p H) t0 (v := v)
  have H1 := CAt_p H (fillF (A 8) v 40)
  generalize tm_up h p (aI 40 (fillF (A 8) v 40)) = h1 at F1 H1 P1
  have P2 := fill_spec (ca_2 H1) t0 (v := 0)
  have F2 : Fr c h1 (tm_up h1 (c + 1 + 2) (aI 40 (fillF (A 2) 0 40))) := Fr_up (by omega) (by omega)
  have H2 := CAt_arr H1 (show 2 < 8 by decide) (fillF (A 2) 0 40)
  have K2 := BkAt_fr K (Fr_tr F1 F2) hd
  replace P2 : tC mJ7_fill_53178 [.ref (c + 3), .int 0] h1 = some (tm_up h1 (c + 1 + 2) (aI 40 (fillF (A 2) 0 40)), none) := P2
  generalize tm_up h1 (c + 1 + 2) (aI 40 (fillF (A 2) 0 40)) = h2 at F2 H2 P2 K2
  have P3 := fill_spec (ca_3 H2) t0 (v := tab 2 1)
  have F3 : Fr c h2 (tm_up h2 (c + 1 + 3) (aI 40 (fillF (A 3) (tab 2 1) 40))) := Fr_up (by omega) (by omega)
  have H3 := CAt_arr H2 (show 3 < 8 by decide) (fillF (A 3) (tab 2 1) 40)
  have K3 := BkAt_fr K2 F3 hd
  replace P3 : tC mJ7_fill_53178 [.ref (c + 4), .int (tab 2 1)] h2 = some (tm_up h2 (c + 1 + 3) (aI 40 (fillF (A 3) (tab 2 1) 40)), none) := P3
  generalize tm_up h2 (c + 1 + 3) (aI 40 (fillF (A 3) (tab 2 1) 40)) = h3 at F3 H3 P3 K3
  have P4 := fill_spec (ca_4 H3) t0 (v := tab 2 2 * (nI w * sq))
  have F4 : Fr c h3 (tm_up h3 (c + 1 + 4) (aI 40 (fillF (A 4) (tab 2 2 * (nI w * sq)) 40))) := Fr_up (by omega) (by omega)
  have H4 := CAt_arr H3 (show 4 < 8 by decide) (fillF (A 4) (tab 2 2 * (nI w * sq)) 40)
  replace P4 : tC mJ7_fill_53178 [.ref (c + 5), .int (tab 2 2 * (nI w * sq))] h3 = some (tm_up h3 (c + 1 + 4) (aI 40 (fillF (A 4) (tab 2 2 * (nI w * sq)) 40)), none) := P4
  generalize tm_up h3 (c + 1 + 4) (aI 40 (fillF (A 4) (tab 2 2 * (nI w * sq)) 40)) = h4 at F4 H4 P4
  have P5 := fill_spec (ca_6 H4) t0 (v := -2)
  have F5 : Fr c h4 (tm_up h4 (c + 1 + 6) (aI 40 (fillF (A 6) (-2) 40))) := Fr_up (by omega) (by omega)
  have H5 := CAt_arr H4 (show 6 < 8 by decide) (fillF (A 6) (-2) 40)
  replace P5 : tC mJ7_fill_53178 [.ref (c + 7), .int (-2)] h4 = some (tm_up h4 (c + 1 + 6) (aI 40 (fillF (A 6) (-2) 40)), none) := P5
  generalize tm_up h4 (c + 1 + 6) (aI 40 (fillF (A 6) (-2) 40)) = h5 at F5 H5 P5
  have F6 : Fr c h5 (tm_up h5 c (cO c p q bk cuts w sq water 0 0 (-1))) := Fr_up (by omega) (by omega)
  have H6 := CAt_o H5 water 0 0 (-1)
  obtain ⟨h', P7, H7, F7⟩ := sizL_loop k1 hd (x1 := .int v) cuts 0 _ _ H6 (BkAt_fr K3 (Fr_tr F4 (Fr_tr F5 F6)) hd) (by omega)
  refine ⟨h', ?_, H7, Fr_tr F1 (Fr_tr F2 (Fr_tr F3 (Fr_tr F4 (Fr_tr F5 (Fr_tr F6 F7)))))⟩
  have b1 := bk_at2 K2 (r := 0) (c := 1) (r' := 0) (c' := 1) rfl rfl k2 (by decide)
  have b2 := bk_at2 K3 (r := 0) (c := 2) (r' := 0) (c' := 2) rfl rfl k2 (by decide)
  simp only [Nat.zero_mul, Nat.zero_add] at b1 b2
  simp only [cO, nI_0] at P7
  simp only [cX4_heatTo_, bX4_heatTo_0, bX4_heatTo_4, bX4_heatTo_8, bX4_heatTo_12, bX4_heatTo_16, bX4_heatTo_20, bX4_heatTo_24, bX4_heatTo_27, bX4_heatTo_32, bX4_heatTo_35, bX4_heatTo_39, bX4_heatTo_43, bX4_heatTo_46, bX4_heatTo_51, bX4_heatTo_55, bX4_heatTo_59, bX4_heatTo_63, bX4_heatTo_68, bX4_heatTo_73, bX4_heatTo_78, bX4_heatTo_83, bX4_heatTo_90, bX4_heatTo_93, bX4_heatTo_98, bX4_heatTo_104, tk1_some, tk0_some, tkc_some, tkc_none, ↓reduceIte, ca_o H, ca_o H1, ca_o H2, ca_o H3, ca_o H4, ca_o H5, gf_4_8, gf_4_2, gf_4_3, gf_4_4, gf_4_6, gf_4_10, P1, P2, P3, P4, P5, bk_o K2, bk_o K3, gf_3_2, bk_l2 K2, bk_l2 K3, tm_isO, b1, b2, ce_wp H3, tm_pf_eq, ps_4_15, ps_4_16, ps_4_17, tm_up_same, tm_up_up, Option.map_some, P7]
theorem pour_spec {h : tm_H} {A : Nat → Nat → Int32} (H : CAt h c A p q bk cuts w sq water tenth turned crk) {v : Int32} : tC mX4_pourWater [.ref c, .int v] h = some (tm_up h c (cO c p q bk cuts w sq v tenth turned crk), none) := by
  simp only [cX4_pourWater_, bX4_pourWater_0, bX4_pourWater_5, tk1_some, tk0_some, tkc_some, tkc_none, ↓reduceIte, ca_o H, tm_pf_eq, ps_4_14, Option.map_some]
def clayA (shield : Int32) (k : Nat) (t : Int32) (A : Nat → Nat → Int32) : Nat → Nat → Int32 := upA (upA A 0 (upd (A 0) k t)) 1 (upd (A 1) k (if 0 < 100 - shield * t then 100 - shield * t else 0))
theorem clay_in {h : tm_H} {A : Nat → Nat → Int32} (H : CAt h c A p q bk cuts w sq water tenth turned crk) (K : BkAt h bk lo hi' cnt tab) (k1 : 0 < cnt 1) (hd : bk + 14 < c ∨ c + 10 < bk) {i j : Nat} (hi : i < cuts) (hj : j < w) {t : Int32} : ∃ h', tC mX4_setClay [.ref c, .int (nI i), .int (nI j), .int t] h = some (h', none) ∧ CAt h' c (clayA (tab 1 2) (i * 5 + j) t A) p q bk cuts w sq water tenth turned crk ∧ Fr c h h' := by
  have t0 : 40 < 2 ^ 31 := by decide
  have hc := ca_c H
  have hw := ca_w H
  have hk : i * 5 + j < 40 := by omega
  have F1 : Fr c h (tm_up h (c + 1 + 0) (aI 40 (upd (A 0) (i * 5 + j) t))) := Fr_up (by omega) (by omega)
  have H1 := CAt_arr H (show 0 < 8 by decide) (upd (A 0) (i * 5 + j) t)
  have K1 := BkAt_fr K F1 hd
  generalize hh1 : tm_up h (c + 1 + 0) (aI 40 (upd (A 0) (i * 5 + j) t)) = h1 at F1 H1 K1
  have F2 : Fr c h1 (tm_up h1 (c + 1 + 1) (aI 40 (upd (A 1) (i * 5 + j) (if 0 < 100 - tab 1 2 * t then 100 - tab 1 2 * t else 0)))) := Fr_up (by omega) (by omega)
  have H2 := CAt_arr H1 (show 1 < 8 by decide) (upd (A 1) (i * 5 + j) (if 0 < 100 - tab 1 2 * t then 100 - tab 1 2 * t else 0))
  refine ⟨_, ?_, H2, Fr_tr F1 F2⟩
  have s1 : tm_si 0 h (c + 1) (nI (i * 5 + j)) t = some h1 := by
    rw [tm_si_eq, ca_0 H, tm_sa_in rfl hk t0, ← hh1]; rfl
  have s2 : tm_si 0 h1 (c + 2) (nI (i * 5 + j)) (if 0 < 100 - tab 1 2 * t then 100 - tab 1 2 * t else 0) = some (tm_up h1 (c + 1 + 1) (aI 40 (upd (A 1) (i * 5 + j) (if 0 < 100 - tab 1 2 * t then 100 - tab 1 2 * t else 0)))) := by
    rw [tm_si_eq, ca_1 H1, tm_sa_in rfl hk t0]; rfl
  have b1 := bk_at1 K1 (c := 2) (c' := 2) rfl k1 (by decide)
  simp only [cX4_setClay_, bX4_setClay_0, bX4_setClay_6, bX4_setClay_9, bX4_setClay_13, bX4_setClay_20, bX4_setClay_24, bX4_setClay_36, bX4_setClay_39, bX4_setClay_44, bX4_setClay_51, tk1_some, tk0_some, tkc_some, tkc_none, ↓reduceIte, ca_o H, tm_isO, has_in H hi hj, show ((1 : Int32) = 0) = False from by decide, if_false, gf_4_0, i5j, s1, ca_o H1, gf_4_1, gf_4_10, bk_o K1, gf_3_1, bk_l1 K1, b1, s2]
end CE10
