/-! TRIALS of the class: by eye; told the clay; fitted -/
def cnF (f : Int32 → Bool) : Nat → Nat → Int32 → Int32
  | 0, _, c => c
  | r + 1, k, c => cnF f r (k + 1) (if f (nI k) = true then c + 1 else c)
theorem lt999 {k : Nat} (hk : k < 1000) : ¬ (999 : Int32) < nI k := by
  rw [Int32.not_lt]; exact (nI_leI (by omega) (show 999 < 2 ^ 31 by decide)).mpr (by omega)
section T3
variable {t bk w : Nat} {cf : Nat → Int32} {sq lo hi' : Int32} {cnt : Nat → Nat} {tab : Nat → Nat → Int32}
theorem look_loop {h : tm_H} (h0 : h t = tO t bk) (K : BkAt h bk lo hi' cnt tab) {red light : Int32} : ∀ r k c, k + r = 1000 → tE mX8_lookingSo 5 [.ref t, .int red, .int light, .int c, .int (nI k)] [] h = some (h, some (.int (cnF (fun v => decide (redS (tab 4) (cnt 4) v light = red)) r k c))) := by
  intro r
  induction r with
  | zero =>
    intro k c hk
    obtain rfl : k = 1000 := by omega
    rw [bX8_lookingSo_5]
    simp only [bX8_lookingSo_36, show (999 : Int32) < nI 1000 from by decide, if_true, cnF]
  | succ r ih =>
    intro k c hk
    rw [bX8_lookingSo_5]
    unfold cnF
    by_cases z : redS (tab 4) (cnt 4) (nI k) light = red
    · rw [if_pos (decide_eq_true z)]
      have e := ih (k + 1) (c + 1) (by omega)
      simp only [bX8_lookingSo_13, bX8_lookingSo_17, bX8_lookingSo_23, bX8_lookingSo_27, bX8_lookingSo_30, tk1_some, tk0_some, tkc_some, tkc_none, ↓reduceIte, lt999 (show k < 1000 by omega), if_false, h0, gf_8_2, bk_o K, tm_isO, red_spec K, z, not_true, nI_k1, e]
    · have e := ih (k + 1) c (by omega)
      simp only [bX8_lookingSo_13, bX8_lookingSo_17, bX8_lookingSo_23, bX8_lookingSo_30, tk1_some, tk0_some, tkc_some, tkc_none, ↓reduceIte, lt999 (show k < 1000 by omega), if_false, h0, gf_8_2, bk_o K, tm_isO, red_spec K, z, not_false_eq_true, if_true, nI_k1, e, decide_false, Bool.false_eq_true]
theorem look_spec {h : tm_H} {D : Nat → Nat → Int32} (H : TrAt h t cf bk w sq D) (K : BkAt h bk lo hi' cnt tab) {red light : Int32} : tC mX8_lookingSo [.ref t, .int red, .int light] h = some (h, some (.int (cnF (fun v => decide (redS (tab 4) (cnt 4) v light = red)) 1000 0 0))) := by
  have e := look_loop H.1 K (red := red) (light := light) 1000 0 0 (by omega)
  rw [nI_0] at e
  simp only [cX8_lookingSo_, bX8_lookingSo_0, e]
def eyeF (cnt : Nat → Nat) (tab : Nat → Nat → Int32) (w : Nat) (sq : Int32) (opn : Nat → Int32) (red light water : Int32) (v : Int32) : Bool := decide (redS (tab 4) (cnt 4) v light = red) && crkW cnt tab w sq opn v water
theorem eye_loop (B : BkF lo hi' cnt tab) (hd : bk + 14 < t ∨ t + 12 < bk) {red light water : Int32} {opn : Nat → Int32} : ∀ r k c h D, TrAt h t cf bk w sq D → D 1 = opn → BkAt h bk lo hi' cnt tab → k + r = 1000 → ∃ h' D', tE mX8_crackingByEye 16 [.ref t, .int red, .int light, .int water, .int c, .int (nI k)] [] h = some (h', some (.int (cnF (eyeF cnt tab w sq opn red light water) r k c))) ∧ TrAt h' t cf bk w sq D' ∧ Fr (t + 2) h h' := by
  intro r
  induction r with
  | zero =>
    intro k c h D H e K hk
    obtain rfl : k = 1000 := by omega
    refine ⟨h, D, ?_, H, Fr_rf _ h⟩
    rw [bX8_crackingByEye_16]
    simp only [bX8_crackingByEye_57, show (999 : Int32) < nI 1000 from by decide, if_true, cnF]
  | succ r ih =>
    intro k c h D H e K hk
    have h0 := H.1
    rw [bX8_crackingByEye_16]
    unfold cnF
    by_cases z : redS (tab 4) (cnt 4) (nI k) light = red
    · obtain ⟨h2, P2, H2, F2⟩ := tr_cracks H K B hd (heat := nI k) (water := water)
      have K2 := BkAt_fr K F2 (by omega)
      rw [e] at P2 H2
      have e2 := trK_1 (cnt := cnt) (tab := tab) (w := w) (sq := sq) (opn := opn) (heat := nI k) (water := water)
      have ey : eyeF cnt tab w sq opn red light water (nI k) = crkW cnt tab w sq opn (nI k) water := by unfold eyeF; rw [decide_eq_true z, Bool.true_and]
      rw [ey]
      by_cases y : crkW cnt tab w sq opn (nI k) water = true
      · obtain ⟨h3, D3, P3, H3, F3⟩ := ih (k + 1) (c + 1) h2 _ H2 e2 K2 (by omega)
        refine ⟨h3, D3, ?_, H3, Fr_tr F2 F3⟩
        rw [show decide ((trK cnt tab w sq opn (nI k) water).2.2 ≠ -1) = true from y, bI_t] at P2
        simp only [bX8_crackingByEye_24, bX8_crackingByEye_28, bX8_crackingByEye_34, bX8_crackingByEye_38, bX8_crackingByEye_45, bX8_crackingByEye_48, bX8_crackingByEye_51, tk1_some, tk0_some, tkc_some, tkc_none, ↓reduceIte, lt999 (show k < 1000 by omega), if_false, h0, gf_8_2, bk_o K, tm_isO, red_spec K, z, not_true, P2, show ((1 : Int32) = 0) = False from by decide, nI_k1, P3, y, if_true]
      · obtain ⟨h3, D3, P3, H3, F3⟩ := ih (k + 1) c h2 _ H2 e2 K2 (by omega)
        refine ⟨h3, D3, ?_, H3, Fr_tr F2 F3⟩
        rw [Bool.not_eq_true] at y
        rw [show decide ((trK cnt tab w sq opn (nI k) water).2.2 ≠ -1) = false from y, bI_f] at P2
        simp only [bX8_crackingByEye_24, bX8_crackingByEye_28, bX8_crackingByEye_34, bX8_crackingByEye_38, bX8_crackingByEye_45, bX8_crackingByEye_51, tk1_some, tk0_some, tkc_some, tkc_none, ↓reduceIte, lt999 (show k < 1000 by omega), if_false, h0, gf_8_2, bk_o K, tm_isO, red_spec K, z, not_true, P2, nI_k1, P3, y, if_true, Bool.false_eq_true]
    · obtain ⟨h3, D3, P3, H3, F3⟩ := ih (k + 1) c h D H e K (by omega)
      refine ⟨h3, D3, ?_, H3, F3⟩
      have ey : eyeF cnt tab w sq opn red light water (nI k) = false := by unfold eyeF; rw [decide_eq_false z, Bool.false_and]
      simp only [bX8_crackingByEye_24, bX8_crackingByEye_28, bX8_crackingByEye_34, bX8_crackingByEye_51, tk1_some, tk0_some, tkc_some, tkc_none, ↓reduceIte, lt999 (show k < 1000 by omega), if_false, h0, gf_8_2, bk_o K, tm_isO, red_spec K, z, not_false_eq_true, if_true, nI_k1, P3, ey, Bool.false_eq_true]
theorem eye_spec {h : tm_H} {D : Nat → Nat → Int32} (H : TrAt h t cf bk w sq D) (K : BkAt h bk lo hi' cnt tab) (B : BkF lo hi' cnt tab) (hd : bk + 14 < t ∨ t + 12 < bk) {red light : Int32} : ∃ h' D', tC mX8_crackingByEye [.ref t, .int red, .int light] h = some (h', some (.int (cnF (eyeF cnt tab w sq (opnS (tab 1 2) cf (-1)) red light (tab 1 0)) 1000 0 0))) ∧ TrAt h' t cf bk w sq D' ∧ Fr (t + 2) h h' := by
  obtain ⟨h2, P2, H2, F2⟩ := tr_clayW H K B.2.1 hd (ch := -1)
  have K2 := BkAt_fr K F2 (by omega)
  obtain ⟨h3, D3, P3, H3, F3⟩ := eye_loop B hd (red := red) (light := light) (water := tab 1 0) 1000 0 0 h2 _ H2 (upA_same _ _ _) K2 (by omega)
  refine ⟨h3, D3, ?_, H3, Fr_tr F2 F3⟩
  have h0 := H.1
  have z2 := H2.1
  rw [nI_0] at P3
  simp only [cX8_crackingByEye_, bX8_crackingByEye_0, bX8_crackingByEye_5, bX8_crackingByEye_9, tk1_some, tk0_some, tkc_some, tkc_none, ↓reduceIte, h0, tm_isO, P2, z2, tr_water H2 K2 B.2.1, P3]
theorem tr_set {h : tm_H} {D : Nat → Nat → Int32} (H : TrAt h t cf bk w sq D) {j : Nat} (hj : j < 5) {v : Int32} : tC mX8_setClay [.ref t, .int (nI j), .int v] h = some (tm_up h (t + 1) (aI 5 (upd cf j v)), none) := by
  have h0 := H.1
  have h27 := H.2.1
  have e0 : ¬ nI j < 0 := by rw [Int32.not_lt]; exact nI_pos' (show j < 2 ^ 31 by omega)
  have e1 : ¬ nI 5 ≤ nI j := nI_ge hj (by decide)
  simp only [cX8_setClay_, bX8_setClay_0, bX8_setClay_4, bX8_setClay_9, bX8_setClay_10, bX8_setClay_13, bX8_setClay_17, bX8_setClay_20, tk1_some, tk0_some, tkc_some, tkc_none, ↓reduceIte, e0, if_false, h0, gf_8_1, h27, tm_al_i (show 0 < 3 by decide), e1, tm_si_eq, tm_sa_in rfl hj (show 5 < 2 ^ 31 by decide), Option.map_some]
end T3
