/-! TRIALS of the class: the object -/
abbrev tO (t bk : Nat) : va_E := .inr (8, [.ref (t + 2), .ref (t + 1), .ref bk])
def TrAt (h : tm_H) (t : Nat) (cf : Nat → Int32) (bk w : Nat) (sq : Int32) (B : Nat → Nat → Int32) : Prop :=
  h t = tO t bk ∧ h (t + 1) = aI 5 cf ∧ w ≤ 5 ∧ ∃ A p q water tenth tn crk, CAt h (t + 2) A p q bk 1 w sq water tenth tn crk ∧ tn ≤ 40 ∧ EqI 1 w (A 1) (B 1) ∧ EqI 1 w (A 2) (B 2)
section TT
variable {t bk w : Nat} {cf : Nat → Int32} {sq lo hi' : Int32} {cnt : Nat → Nat} {tab : Nat → Nat → Int32}
theorem tr_loop (B : BkF lo hi' cnt tab) (hd : bk + 14 < t + 2 ∨ t + 2 + 10 < bk) {x1 x2 : Value} {water : Int32} : ∀ r k h p q (s : CSt), h t = tO t bk → CAt h (t + 2) s.1 p q bk 1 w sq water k s.2.1 s.2.2.1 → BkAt h bk lo hi' cnt tab → s.2.1 ≤ 40 → k + r = 60 → ∃ h' p' q' k', tE mX8_cracksAt 21 [.ref t, x1, x2, .int (bI s.2.2.2), .int (nI k)] [] h = some (h', some (.int (bI (decide ((trE cnt tab 1 w sq water r k s).2.2.1 ≠ -1))))) ∧ CAt h' (t + 2) (trE cnt tab 1 w sq water r k s).1 p' q' bk 1 w sq water k' (trE cnt tab 1 w sq water r k s).2.1 (trE cnt tab 1 w sq water r k s).2.2.1 ∧ (trE cnt tab 1 w sq water r k s).2.1 ≤ 40 ∧ Fr (t + 2) h h' := by
  intro r
  induction r with
  | zero =>
    intro k h p q s h0 H K ht hk
    obtain rfl : k = 60 := by omega
    refine ⟨h, p, q, 60, ?_, H, ht, Fr_rf _ h⟩
    rw [bX8_cracksAt_21]
    simp only [bX8_cracksAt_4, bX8_cracksAt_8, bX8_cracksAt_12, bX8_cracksAt_16, bX8_cracksAt_28, bX8_cracksAt_32, bX8_cracksAt_36, bX8_cracksAt_39, bX8_cracksAt_42, bX8_cracksAt_46, bX8_cracksAt_49, bX8_cracksAt_56, bX8_cracksAt_60, bX8_cracksAt_63, tk1_some, tk0_some, tkc_some, tkc_none, ↓reduceIte, show (60 : Int32) ≤ nI 60 from by decide, if_true, h0, gf_8_0, ca_o H, tm_isO, ce_isCr H, tm_rbb, trE]
    rfl
  | succ r ih =>
    intro k h p q s h0 H K ht hk
    have e1 : ¬ (60 : Int32) ≤ nI k := fun y => (nI_ge (show k < 60 by omega) (show 60 < 2 ^ 31 by decide)) y
    rw [bX8_cracksAt_21]
    by_cases c : s.2.2.2 = true ∧ s.2.2.1 = -1
    · obtain ⟨h2, P2, H2, F2, t2⟩ := once_spec H K B hd ht
      have z0 : h2 t = tO t bk := by rw [F2 t (by omega)]; exact h0
      obtain ⟨h3, p3, q3, k3, P3, H3, t3, F3⟩ := ih (k + 1) h2 q p (onceS cnt tab 1 w sq water k s.1 s.2.1 s.2.2.1) z0 H2 (BkAt_fr K F2 hd) t2 (by omega)
      rw [show trE cnt tab 1 w sq water (r + 1) k s = trE cnt tab 1 w sq water r (k + 1) (onceS cnt tab 1 w sq water k s.1 s.2.1 s.2.2.1) from by rw [trE]; exact if_pos c]
      refine ⟨h3, p3, q3, k3, ?_, H3, t3, Fr_tr F2 F3⟩
      rw [← P3]
      have ed : bI (decide (s.2.2.1 ≠ -1)) = 0 := by rw [c.2]; decide
      simp only [bX8_cracksAt_4, bX8_cracksAt_8, bX8_cracksAt_12, bX8_cracksAt_16, bX8_cracksAt_28, bX8_cracksAt_32, bX8_cracksAt_36, bX8_cracksAt_39, bX8_cracksAt_42, bX8_cracksAt_46, bX8_cracksAt_49, bX8_cracksAt_56, bX8_cracksAt_60, bX8_cracksAt_63, tk1_some, tk0_some, tkc_some, tkc_none, ↓reduceIte, e1, if_false, c.1, bI_t, show ((1 : Int32) = 0) = False from by decide, h0, gf_8_0, ca_o H, tm_isO, ce_isCr H, ed, not_true, P2, nI_k1]
    · rw [show trE cnt tab 1 w sq water (r + 1) k s = s from by rw [trE]; exact if_neg c]
      refine ⟨h, p, q, k, ?_, H, ht, Fr_rf _ h⟩
      by_cases m : s.2.2.2 = true
      · have c2 : ¬ s.2.2.1 = -1 := fun y => c ⟨m, y⟩
        have ed : bI (decide (s.2.2.1 ≠ -1)) = 1 := by rw [decide_eq_true c2]; rfl
        simp only [bX8_cracksAt_4, bX8_cracksAt_8, bX8_cracksAt_12, bX8_cracksAt_16, bX8_cracksAt_28, bX8_cracksAt_32, bX8_cracksAt_36, bX8_cracksAt_39, bX8_cracksAt_42, bX8_cracksAt_46, bX8_cracksAt_49, bX8_cracksAt_56, bX8_cracksAt_60, bX8_cracksAt_63, tk1_some, tk0_some, tkc_some, tkc_none, ↓reduceIte, e1, if_false, m, bI_t, show ((1 : Int32) = 0) = False from by decide, h0, gf_8_0, ca_o H, tm_isO, ce_isCr H, ed, not_false_eq_true, if_true, tm_rb1]
      · have m' : s.2.2.2 = false := by cases hh : s.2.2.2 <;> simp_all
        simp only [bX8_cracksAt_4, bX8_cracksAt_8, bX8_cracksAt_12, bX8_cracksAt_16, bX8_cracksAt_28, bX8_cracksAt_32, bX8_cracksAt_36, bX8_cracksAt_39, bX8_cracksAt_42, bX8_cracksAt_46, bX8_cracksAt_49, bX8_cracksAt_56, bX8_cracksAt_60, bX8_cracksAt_63, tk1_some, tk0_some, tkc_some, tkc_none, ↓reduceIte, e1, if_false, m', bI_f, if_true, h0, gf_8_0, ca_o H, tm_isO, ce_isCr H, tm_rbb]
theorem tr_cracks {h : tm_H} {D : Nat → Nat → Int32} (H : TrAt h t cf bk w sq D) (K : BkAt h bk lo hi' cnt tab) (B : BkF lo hi' cnt tab) (hd : bk + 14 < t ∨ t + 12 < bk) {heat water : Int32} : ∃ h', tC mX8_cracksAt [.ref t, .int heat, .int water] h = some (h', some (.int (bI (decide ((trK cnt tab w sq (D 1) heat water).2.2 ≠ -1))))) ∧ TrAt h' t cf bk w sq (trK cnt tab w sq (D 1) heat water).1 ∧ Fr (t + 2) h h' := by
  obtain ⟨h0, hcf, hw, A, p, q, wa, te, tn, crk, H1, ht, ea, eb⟩ := H
  have P1 := pour_spec H1 (v := water)
  have H2 := CAt_o H1 water te tn crk
  have F2 : Fr (t + 2) h (tm_up h (t + 2) (cO (t + 2) p q bk 1 w sq water te tn crk)) := Fr_up (by omega) (by omega)
  generalize tm_up h (t + 2) (cO (t + 2) p q bk 1 w sq water te tn crk) = h2 at P1 H2 F2
  have K2 := BkAt_fr K F2 (by omega)
  obtain ⟨h3, P3, H3, F3⟩ := heatTo_spec H2 K2 B.2.1 B.2.2.1 (by omega) (v := heat)
  have z2 : h2 t = tO t bk := by rw [F2 t (by omega)]; exact h0
  have z3 : h3 t = tO t bk := by rw [F3 t (by omega)]; exact z2
  obtain ⟨h4, p4, q4, k4, P4, H4, t4, F4⟩ := tr_loop B (by omega) (x1 := .int heat) (x2 := .int water) 60 0 h3 p q (heatS tab 1 w sq heat A, 0, -1, true) z3 H3 (BkAt_fr K2 F3 (by omega)) (Nat.zero_le _) (by omega)
  have Z := heatS_sz (tab := tab) (cuts := 1) (sq := sq) hw (A := A) (v := heat)
  obtain ⟨Q1, Q2⟩ := trE_trC (cnt := cnt) (tab := tab) (cuts := 1) (sq := sq) (water := water) hw 60 0 (heatS tab 1 w sq heat A) 0 (-1) true Z (fun y => absurd y (by decide))
  obtain ⟨Q3, Q4⟩ := trC_c (cnt := cnt) (tab := tab) (cuts := 1) (sq := sq) (water := water) hw 60 0 (heatS tab 1 w sq heat A) (heatS tab 1 w sq heat (fun _ => D 1)) (0, -1) (heatS_c (by decide) hw ea)
  have Q5 := EqH_tr Q1 Q3
  have FF := Fr_tr F2 (Fr_tr F3 F4)
  refine ⟨h4, ?_, ⟨by rw [FF t (by omega)]; exact h0, by rw [FF (t + 1) (by omega)]; exact hcf, hw, _, p4, q4, water, k4, _, _, H4, t4, Q5.1, Q5.2.1⟩, FF⟩
  have e : (trE cnt tab 1 w sq water 60 0 (heatS tab 1 w sq heat A, 0, -1, true)).2.2.1 = (trK cnt tab w sq (D 1) heat water).2.2 := by
    rw [Q2, Q4]; rfl
  rw [e, nI_0] at P4
  simp only [cX8_cracksAt_, bX8_cracksAt_0, bX8_cracksAt_4, bX8_cracksAt_8, bX8_cracksAt_12, bX8_cracksAt_16, tk1_some, tk0_some, tkc_some, tkc_none, ↓reduceIte, h0, gf_8_0, ca_o H1, tm_isO, P1, z2, ca_o H2, P3]
  exact P4
theorem tr_water {h : tm_H} {D : Nat → Nat → Int32} (H : TrAt h t cf bk w sq D) (K : BkAt h bk lo hi' cnt tab) (k1 : 0 < cnt 1) : tC mX8_toldWater [.ref t] h = some (h, some (.int (tab 1 0))) := by
  have h0 := H.1
  simp only [cX8_toldWater_, bX8_toldWater_0, bX8_toldWater_4, bX8_toldWater_7, bX8_toldWater_12, tk1_some, tk0_some, tkc_some, tkc_none, ↓reduceIte, h0, gf_8_2, bk_o K, gf_3_1, bk_l1 K, tm_isO, bk_at1 K (c := 0) (c' := 0) rfl k1 (by decide)]
theorem clay_out {h : tm_H} {c : Nat} {A : Nat → Nat → Int32} {p q cuts : Nat} {water : Int32} {tenth turned : Nat} {crk : Int32} (H : CAt h c A p q bk cuts w sq water tenth turned crk) {i : Int32} {j : Nat} (hj : w ≤ j) (hj2 : j < 2 ^ 31) {v : Int32} : tC mX4_setClay [.ref c, .int i, .int (nI j), .int v] h = some (h, none) := by
  have hw := ca_w H
  have e : ¬ nI j < nI w := by
    rw [Int32.not_lt]; exact (nI_leI (by omega) hj2).mpr hj
  have P := ce_has H (i := i) (j := nI j)
  rw [decide_eq_false e, Bool.and_false, bI_f] at P
  simp only [cX4_setClay_, bX4_setClay_0, bX4_setClay_6, bX4_setClay_9, bX4_setClay_13, bX4_setClay_20, bX4_setClay_24, bX4_setClay_36, bX4_setClay_39, bX4_setClay_44, bX4_setClay_51, tk1_some, tk0_some, tkc_some, tkc_none, ↓reduceIte, ca_o H, tm_isO, P, if_true]
def opS (shield v : Int32) : Int32 := if 0 < 100 - shield * v then 100 - shield * v else 0
theorem cw_loop (k1 : 0 < cnt 1) (hd : bk + 14 < t ∨ t + 12 < bk) {x1 : Value} {more : Int32} {p q : Nat} {water : Int32} {te tn : Nat} {crk : Int32} (hw : w ≤ 5) : ∀ r k h A, h t = tO t bk → h (t + 1) = aI 5 cf → CAt h (t + 2) A p q bk 1 w sq water te tn crk → BkAt h bk lo hi' cnt tab → k + r = 5 → (∀ j, j < k → j < w → A 1 j = opS (tab 1 2) (keptS (cf j + more) 0 3)) → ∃ h' A', tE mX8_clayWith 22 [.ref t, x1, .int more, .int (nI k)] [] h = some (h', none) ∧ CAt h' (t + 2) A' p q bk 1 w sq water te tn crk ∧ (∀ j, j < w → A' 1 j = opS (tab 1 2) (keptS (cf j + more) 0 3)) ∧ A' 2 = A 2 ∧ Fr (t + 2) h h' := by
  have t5 : 5 < 2 ^ 31 := by decide
  intro r
  induction r with
  | zero =>
    intro k h A h0 h27 H K hk G
    obtain rfl : k = 5 := by omega
    refine ⟨h, A, ?_, H, fun j hj => G j (by omega) hj, rfl, Fr_rf _ h⟩
    rw [bX8_clayWith_22]
    simp only [bX8_clayWith_5, bX8_clayWith_19, bX8_clayWith_27, bX8_clayWith_28, bX8_clayWith_31, bX8_clayWith_35, bX8_clayWith_41, bX8_clayWith_43, bX8_clayWith_50, bX8_clayWith_53, bX8_clayWith_59, bX8_clayWith_9, bX8_clayWith_14, bX8_clayWith_18, tk1_some, tk0_some, tkc_some, tkc_none, ↓reduceIte, h0, gf_8_1, h27, tm_al_i (show 0 < 3 by decide), Int32.le_refl, if_true]
  | succ r ih =>
    intro k h A h0 h27 H K hk G
    have e1 : ¬ nI 5 ≤ nI k := nI_ge (by omega) t5
    rw [bX8_clayWith_22]
    by_cases c : k < w
    · obtain ⟨h2, P2, H2, F2⟩ := clay_in H K k1 (by omega) (show 0 < 1 by decide) c (t := keptS (cf k + more) 0 3)
      obtain ⟨h3, A3, P3, H3, G3, E3, F3⟩ := ih (k + 1) h2 _ (by rw [F2 t (by omega)]; exact h0) (by rw [F2 (t + 1) (by omega)]; exact h27) H2 (BkAt_fr K F2 (by omega)) (by omega) (fun j hj hjw => by
        show upd (A 1) (0 * 5 + k) _ j = _
        unfold upd
        by_cases e : j = 0 * 5 + k
        · rw [if_pos e]; rw [show j = k by omega]; rfl
        · rw [if_neg e]; exact G j (by omega) hjw)
      refine ⟨h3, A3, ?_, H3, G3, E3.trans rfl, Fr_tr F2 F3⟩
      rw [nI_0] at P2
      simp only [bX8_clayWith_5, bX8_clayWith_19, bX8_clayWith_27, bX8_clayWith_28, bX8_clayWith_31, bX8_clayWith_35, bX8_clayWith_41, bX8_clayWith_43, bX8_clayWith_50, bX8_clayWith_53, bX8_clayWith_59, bX8_clayWith_9, bX8_clayWith_14, bX8_clayWith_18, tk1_some, tk0_some, tkc_some, tkc_none, ↓reduceIte, h0, gf_8_1, gf_8_0, h27, tm_al_i (show 0 < 3 by decide), e1, if_false, tm_ai_in rfl (show k < 5 by omega) t5, kept_spec, ca_o H, tm_isO, P2, nI_k1, P3]
    · obtain ⟨h3, A3, P3, H3, G3, E3, F3⟩ := ih (k + 1) h A h0 h27 H K (by omega) (fun j hj hjw => G j (by omega) hjw)
      refine ⟨h3, A3, ?_, H3, G3, E3, F3⟩
      simp only [bX8_clayWith_5, bX8_clayWith_19, bX8_clayWith_27, bX8_clayWith_28, bX8_clayWith_31, bX8_clayWith_35, bX8_clayWith_41, bX8_clayWith_43, bX8_clayWith_50, bX8_clayWith_53, bX8_clayWith_59, bX8_clayWith_9, bX8_clayWith_14, bX8_clayWith_18, tk1_some, tk0_some, tkc_some, tkc_none, ↓reduceIte, h0, gf_8_1, gf_8_0, h27, tm_al_i (show 0 < 3 by decide), e1, if_false, tm_ai_in rfl (show k < 5 by omega) t5, kept_spec, ca_o H, tm_isO, clay_out H (show w ≤ k by omega) (show k < 2 ^ 31 by omega), nI_k1, P3]
def moreS (ch : Int32) : Int32 := if ch = 2 then 1 else if ch = 3 then -1 else 0
/-- the openness that a change's clay gives -/
def opnS (shield : Int32) (cf : Nat → Int32) (ch : Int32) : Nat → Int32 := fun j => opS shield (keptS (cf j + moreS ch) 0 3)
theorem tr_clayW {h : tm_H} {D : Nat → Nat → Int32} (H : TrAt h t cf bk w sq D) (K : BkAt h bk lo hi' cnt tab) (k1 : 0 < cnt 1) (hd : bk + 14 < t ∨ t + 12 < bk) {ch : Int32} : ∃ h', tC mX8_clayWith [.ref t, .int ch] h = some (h', none) ∧ TrAt h' t cf bk w sq (upA D 1 (opnS (tab 1 2) cf ch)) ∧ Fr (t + 2) h h' := by
  obtain ⟨h0, hcf, hw, A, p, q, wa, te, tn, crk, H1, ht, ea, eb⟩ := H
  obtain ⟨h', A', P, H2, G, E, F⟩ := cw_loop (lo := lo) (hi' := hi') k1 hd (x1 := .int ch) (more := moreS ch) hw 5 0 h A h0 hcf H1 K (by omega) (fun j hj => absurd hj (by omega))
  refine ⟨h', ?_, ⟨by rw [F t (by omega)]; exact h0, by rw [F (t + 1) (by omega)]; exact hcf, hw, A', p, q, wa, te, tn, crk, H2, ht, ?_, ?_⟩, F⟩
  · rw [nI_0] at P
    unfold moreS at P
    by_cases c2 : ch = 2
    · rw [if_pos c2] at P
      simp only [cX8_clayWith_, bX8_clayWith_0, bX8_clayWith_5, bX8_clayWith_19, show (ch = 2) = True from eq_true c2, not_true, if_false, P]
    · rw [if_neg c2] at P
      by_cases c3 : ch = 3
      · rw [if_pos c3] at P
        simp only [cX8_clayWith_, bX8_clayWith_0, bX8_clayWith_9, bX8_clayWith_14, bX8_clayWith_19, c2, not_false_eq_true, if_true, show (ch = 3) = True from eq_true c3, not_true, if_false, P]
      · rw [if_neg c3] at P
        simp only [cX8_clayWith_, bX8_clayWith_0, bX8_clayWith_9, bX8_clayWith_18, bX8_clayWith_19, c2, c3, not_false_eq_true, if_true, P]
  · intro i j hi hj
    obtain rfl : i = 0 := by omega
    rw [upA_same, Nat.zero_mul, Nat.zero_add]; exact G j hj
  · rw [E]; exact eb
end TT
