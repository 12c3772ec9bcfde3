/-! CELLS fitted, and the BAR of the class -/
def keptS (a lo hi : Int32) : Int32 := if lo ≤ a then (if a ≤ hi then a else hi) else lo
theorem kept_spec {h : tm_H} {a lo hi : Int32} : tC mX9_kept [.int a, .int lo, .int hi] h = some (h, some (.int (keptS a lo hi))) := by
  unfold keptS
  by_cases e : lo ≤ a
  · by_cases e2 : a ≤ hi
    · simp only [cX9_kept_, bX9_kept_0, bX9_kept_5, bX9_kept_19, bX9_kept_9, bX9_kept_14, bX9_kept_18, tk1_some, tk0_some, tkc_some, tkc_none, ↓reduceIte, e, e2, if_true]
    · simp only [cX9_kept_, bX9_kept_0, bX9_kept_5, bX9_kept_19, bX9_kept_9, bX9_kept_14, bX9_kept_18, tk1_some, tk0_some, tkc_some, tkc_none, ↓reduceIte, e, e2, if_true, if_false]
  · simp only [cX9_kept_, bX9_kept_0, bX9_kept_5, bX9_kept_19, bX9_kept_9, bX9_kept_14, bX9_kept_18, tk1_some, tk0_some, tkc_some, tkc_none, ↓reduceIte, e, if_false]
theorem keptS_in {n m : Nat} (hn : n ≤ m) (hm : m < 2 ^ 31) : keptS (nI n) 0 (nI m) = nI n := by
  unfold keptS
  rw [if_pos (nI_pos' (by omega)), if_pos ((nI_leI (by omega) hm).mpr hn)]
def sqS (w : Nat) : Nat → Int32
  | 0 => 0
  | j + 1 => sqS w j + sprd w j * sprd w j
section FI
variable {c : Nat} {p q bk cuts w : Nat} {sq water : Int32} {tenth turned : Nat} {crk lo hi' : Int32} {cnt : Nat → Nat} {tab : Nat → Nat → Int32}
theorem sq_loop {x1 x2 : Value} (hw : w ≤ 5) : ∀ r j x4 h, h c = cO c p q bk cuts w (sqS w j) water tenth turned crk → j + r = w → ∃ y4, tE mX4_fit 54 [.ref c, x1, x2, .int (nI j), x4] [] h = tE mX4_fit 94 [.ref c, x1, x2, .int (nI w), y4] [] (tm_up h c (cO c p q bk cuts w (sqS w w) water tenth turned crk)) := by
  intro r
  induction r with
  | zero =>
    intro j x4 h H hj
    obtain rfl : j = w := by omega
    refine ⟨x4, ?_⟩
    rw [bX4_fit_54]
    simp only [bX4_fit_59, tk1_some, tk0_some, tkc_some, tkc_none, ↓reduceIte, H, gf_4_12, Int32.le_refl, if_true]
    rw [← H, tm_up_id]
  | succ r ih =>
    intro j x4 h H hj
    have e1 : ¬ nI w ≤ nI j := nI_ge (by omega) (by omega)
    obtain ⟨y4, P⟩ := ih (j + 1) (.int (sprd w j)) (tm_up h c (cO c p q bk cuts w (sqS w (j + 1)) water tenth turned crk)) tm_up_same (by omega)
    refine ⟨y4, ?_⟩
    rw [tm_up_up] at P
    rw [bX4_fit_54]
    simp only [bX4_fit_59, bX4_fit_62, bX4_fit_69, bX4_fit_79, bX4_fit_88, tk1_some, tk0_some, tkc_some, tkc_none, ↓reduceIte, H, gf_4_12, gf_4_13, e1, if_false, tm_pf_eq, ps_4_13, Option.map_some, nI_k1]
    exact P
def fitA (tab : Nat → Nat → Int32) (cuts w : Nat) (A : Nat → Nat → Int32) : Nat → Nat → Int32 :=
  heatS tab cuts w (sqS w w) 0 (upA (upA A 0 (fillF (A 0) 0 40)) 1 (fillF (A 1) 100 40))
theorem fit_spec {h : tm_H} {A : Nat → Nat → Int32} {b n w' : Nat} (H : CAt h c A p q bk cuts w sq water tenth turned crk) (K : BkAt h b lo hi' cnt tab) (k0 : 0 < cnt 0) (k1 : 0 < cnt 1) (k2 : 0 < cnt 2) (hd : b + 14 < c ∨ c + 10 < b) (hn : n ≤ 8) (hw : w' ≤ 5) (ew : tab 0 1 = nI w') : ∃ h', tC mX4_fit [.ref c, .ref b, .int (nI n)] h = some (h', none) ∧ CAt h' c (fitA tab n w' A) p q b n w' (sqS w' w') (tab 1 0) 0 0 (-1) ∧ Fr c h h' := by
  have t0 : 40 < 2 ^ 31 := by decide
  have hpq := H.2.2.2.2.1
  obtain ⟨y4, P1⟩ := sq_loop (c := c) (p := p) (q := q) (bk := b) (cuts := n) (water := tab 1 0) (tenth := tenth) (turned := turned) (crk := crk) (x1 := .ref b) (x2 := .int (nI n)) hw w' 0 tm_U (tm_up h c (cO c p q b n w' 0 (tab 1 0) tenth turned crk)) tm_up_same (by omega)
  rw [tm_up_up, nI_0] at P1
  have F1 : Fr c h (tm_up h c (cO c p q b n w' (sqS w' w') (tab 1 0) tenth turned crk)) := Fr_up (by omega) (by omega)
  have H1 : CAt (tm_up h c (cO c p q b n w' (sqS w' w') (tab 1 0) tenth turned crk)) c A p q b n w' (sqS w' w') (tab 1 0) tenth turned crk := by
    obtain ⟨h1, h2, h3, h4, h5, h6⟩ := H
    exact ⟨tm_up_same, fun k hk => by rw [tm_up_ne (by omega)]; exact h2 k hk, by rw [tm_up_ne (by omega)]; exact h3, by rw [tm_up_ne (by omega)]; exact h4, h5, hn, hw⟩
  generalize tm_up h c (cO c p q b n w' (sqS w' w') (tab 1 0) tenth turned crk) = h1 at F1 H1 P1
  have P2 := fill_spec (ca_0 H1) t0 (v := 0)
  have F2 : Fr c h1 (tm_up h1 (c + 1 + 0) (aI 40 (fillF (A 0) 0 40))) := Fr_up (by omega) (by omega)
  have H2 := CAt_arr H1 (show 0 < 8 by decide) (fillF (A 0) 0 40)
  replace P2 : tC mJ7_fill_53178 [.ref (c + 1), .int 0] h1 = some (tm_up h1 (c + 1 + 0) (aI 40 (fillF (A 0) 0 40)), none) := P2
  generalize tm_up h1 (c + 1 + 0) (aI 40 (fillF (A 0) 0 40)) = h2 at F2 H2 P2
  have P3 := fill_spec (ca_1 H2) t0 (v := 100)
  have F3 : Fr c h2 (tm_up h2 (c + 1 + 1) (aI 40 (fillF (A 1) 100 40))) := Fr_up (by omega) (by omega)
  have H3 := CAt_arr H2 (show 1 < 8 by decide) (fillF (A 1) 100 40)
  replace P3 : tC mJ7_fill_53178 [.ref (c + 2), .int 100] h2 = some (tm_up h2 (c + 1 + 1) (aI 40 (fillF (A 1) 100 40)), none) := P3
  generalize tm_up h2 (c + 1 + 1) (aI 40 (fillF (A 1) 100 40)) = h3 at F3 H3 P3
  have K3 := BkAt_fr K (Fr_tr F1 (Fr_tr F2 F3)) hd
  obtain ⟨h4, P4, H4, F4⟩ := heatTo_spec H3 K3 k1 k2 hd (v := 0)
  refine ⟨h4, ?_, H4, Fr_tr F1 (Fr_tr F2 (Fr_tr F3 F4))⟩
  have G : ∀ e, BkAt (tm_up h c e) b lo hi' cnt tab := fun e => BkAt_fr K (Fr_up (by omega) (by omega)) hd
  have e8 : keptS (nI n) 0 8 = nI n := keptS_in hn (by decide)
  have e5 : keptS (nI w') 0 5 = nI w' := keptS_in hw (by decide)
  have g0 := fun e => bk_at0 (G e) (c := 1) (c' := 1) rfl k0 (by decide)
  have g1 := fun e => bk_at1 (G e) (c := 0) (c' := 0) rfl k1 (by decide)
  have go := fun e => bk_o (G e)
  have gl0 := fun e => bk_l0 (G e)
  have gl1 := fun e => bk_l1 (G e)
  simp only [cX4_fit_, bX4_fit_0, bX4_fit_5, bX4_fit_13, bX4_fit_16, bX4_fit_21, bX4_fit_26, bX4_fit_31, bX4_fit_34, bX4_fit_39, bX4_fit_44, bX4_fit_47, bX4_fit_52, bX4_fit_94, bX4_fit_98, bX4_fit_102, bX4_fit_106, bX4_fit_111, bX4_fit_116, tk1_some, tk0_some, tkc_some, tkc_none, ↓reduceIte, ca_o H, tm_pf_eq, ps_4_10, ps_4_11, ps_4_12, ps_4_14, ps_4_13, tm_up_same, tm_up_up, Option.map_some, kept_spec, e8, go, gf_3_0, gf_3_1, gl0, gl1, tm_isO, g0, g1, ew, e5, P1, ca_o H1, ca_o H2, ca_o H3, gf_4_0, gf_4_1, P2, P3, P4]
end FI
abbrev bO (b : Nat) (fh lb gb : Int32) : va_E := .inr (0, [.ref (b + 1), .int fh, .int lb, .int gb])
/-- cells, how many turned, the crack, the tenth, the least and the greatest bend -/
abbrev BSt := (Nat → Nat → Int32) × Nat × Int32 × Nat × Int32 × Int32
def barStep (cnt : Nat → Nat) (tab : Nat → Nat → Int32) (cuts w : Nat) (sq water : Int32) (s : BSt) : BSt :=
  let t := onceS cnt tab cuts w sq water s.2.2.2.1 s.1 s.2.1 s.2.2.1
  let e := bendS (t.1 5) w cuts
  (t.1, t.2.1, t.2.2.1, s.2.2.2.1 + 1, if e < s.2.2.2.2.1 then e else s.2.2.2.2.1, if s.2.2.2.2.2 < e then e else s.2.2.2.2.2)
def barS (cnt : Nat → Nat) (tab : Nat → Nat → Int32) (cuts w : Nat) (sq water : Int32) : Nat → BSt → BSt
  | 0, s => s
  | r + 1, s => if s.2.2.1 = -1 then barS cnt tab cuts w sq water r (barStep cnt tab cuts w sq water s) else s
theorem barS_mono (cnt : Nat → Nat) (tab : Nat → Nat → Int32) (cuts w : Nat) (sq water : Int32) : ∀ r s, s.2.2.2.1 ≤ (barS cnt tab cuts w sq water r s).2.2.2.1
  | 0, s => Nat.le_refl _
  | r + 1, s => by
    unfold barS
    split
    · exact Nat.le_trans (Nat.le_succ _) (barS_mono cnt tab cuts w sq water r (barStep cnt tab cuts w sq water s))
    · exact Nat.le_refl _
def BAt (h : tm_H) (b : Nat) (fh : Int32) (s : BSt) (bk cuts w : Nat) (sq water : Int32) : Prop :=
  h b = bO b fh s.2.2.2.2.1 s.2.2.2.2.2 ∧ (∃ p q, CAt h (b + 1) s.1 p q bk cuts w sq water s.2.2.2.1 s.2.1 s.2.2.1) ∧ s.2.1 ≤ 40
def FrB (b : Nat) (h h' : tm_H) : Prop := ∀ k, (k < b ∨ b + 11 < k) → h' k = h k
theorem FrB_tr {c : Nat} {h h1 h2 : tm_H} (a : FrB c h h1) (b : FrB c h1 h2) : FrB c h h2 := fun k hk => (b k hk).trans (a k hk)
theorem FrB_rf (b : Nat) (h : tm_H) : FrB b h h := fun _ _ => rfl
theorem FrB_c {b : Nat} {h h1 : tm_H} (a : Fr (b + 1) h h1) : FrB b h h1 := fun k hk => a k (by omega)
theorem FrB_up {b : Nat} {h : tm_H} {e : va_E} : FrB b h (tm_up h b e) := fun k hk => tm_up_ne (by omega)
theorem BkAt_frB {h h' : tm_H} {b c : Nat} {lo hi : Int32} {cnt : Nat → Nat} {tab : Nat → Nat → Int32} (H : BkAt h b lo hi cnt tab) (F : FrB c h h') (hd : b + 14 < c ∨ c + 11 < b) : BkAt h' b lo hi cnt tab :=
  ⟨by rw [F b (by omega)]; exact H.1, fun l hl => ⟨by rw [F _ (by omega)]; exact (H.2.1 l hl).1, by rw [F _ (by omega)]; exact (H.2.1 l hl).2⟩, H.2.2⟩
theorem CAt_ob {h : tm_H} {b : Nat} {A : Nat → Nat → Int32} {p q bk cuts w : Nat} {sq water : Int32} {tenth turned : Nat} {crk : Int32} (H : CAt h (b + 1) A p q bk cuts w sq water tenth turned crk) (e : va_E) : CAt (tm_up h b e) (b + 1) A p q bk cuts w sq water tenth turned crk := by
  obtain ⟨h1, h2, h3, h4, h5, h6⟩ := H
  exact ⟨by rw [tm_up_ne (by omega)]; exact h1, fun k hk => by rw [tm_up_ne (by omega)]; exact h2 k hk, by rw [tm_up_ne (by omega)]; exact h3, by rw [tm_up_ne (by omega)]; exact h4, h5, h6⟩
section BA
variable {b bk cuts w : Nat} {fh sq water lo hi' : Int32} {cnt : Nat → Nat} {tab : Nat → Nat → Int32}
theorem bar_heat {h : tm_H} {s : BSt} (H : BAt h b fh s bk cuts w sq water) (K : BkAt h bk lo hi' cnt tab) (B : BkF lo hi' cnt tab) (hd : bk + 14 < b ∨ b + 11 < bk) {v : Int32} : ∃ h', tC mX0_heatTo [.ref b, .int v] h = some (h', none) ∧ BAt h' b v (heatS tab cuts w sq v s.1, 0, -1, 0, 0, 0) bk cuts w sq water ∧ FrB b h h' := by
  obtain ⟨h1, ⟨p, q, H2⟩, h3⟩ := H
  have F1 : FrB b h (tm_up h b (bO b v s.2.2.2.2.1 s.2.2.2.2.2)) := FrB_up
  obtain ⟨h', P, H3, F⟩ := heatTo_spec (CAt_ob H2 (bO b v s.2.2.2.2.1 s.2.2.2.2.2)) (BkAt_frB K F1 hd) B.2.1 B.2.2.1 (by omega) (v := v)
  have e : h' b = bO b v s.2.2.2.2.1 s.2.2.2.2.2 := by rw [F b (by omega), tm_up_same]
  have eo := ca_o (CAt_ob H2 (bO b v s.2.2.2.2.1 s.2.2.2.2.2))
  refine ⟨tm_up h' b (bO b v 0 0), ?_, ⟨tm_up_same, ⟨p, q, CAt_ob H3 _⟩, Nat.zero_le _⟩, FrB_tr F1 (FrB_tr (FrB_c F) FrB_up)⟩
  simp only [cX0_heatTo_, bX0_heatTo_0, bX0_heatTo_5, bX0_heatTo_9, bX0_heatTo_13, bX0_heatTo_18, bX0_heatTo_23, tk1_some, tk0_some, tkc_some, tkc_none, ↓reduceIte, h1, tm_pf_eq, ps_0_1, Option.map_some, tm_up_same, gf_0_0, eo, tm_isO, P, e, ps_0_2, ps_0_3, tm_up_up]
theorem bar_loop (B : BkF lo hi' cnt tab) (hd : bk + 14 < b ∨ b + 11 < bk) {N : Nat} (hN : N < 2 ^ 31) : ∀ r k x3 h s, BAt h b fh s bk cuts w sq water → BkAt h bk lo hi' cnt tab → k + r = N → ∃ h', tE mX0_coolFor 2 [.ref b, .int (nI N), .int (nI k), x3] [] h = some (h', some (.int (nI (k + ((barS cnt tab cuts w sq water r s).2.2.2.1 - s.2.2.2.1))))) ∧ BAt h' b fh (barS cnt tab cuts w sq water r s) bk cuts w sq water ∧ FrB b h h' := by
  intro r
  induction r with
  | zero =>
    intro k x3 h s H K hk
    obtain rfl : k = N := by omega
    refine ⟨h, ?_, H, FrB_rf b h⟩
    rw [bX0_coolFor_2]
    simp only [bX0_coolFor_63, Int32.le_refl, if_true, barS, Nat.sub_self, Nat.add_zero]
  | succ r ih =>
    intro k x3 h s H K hk
    have e1 : ¬ nI N ≤ nI k := nI_ge (by omega) hN
    obtain ⟨h1, ⟨p, q, H2⟩, h3⟩ := H
    rw [bX0_coolFor_2]
    by_cases c0 : s.2.2.1 = -1
    · rw [show barS cnt tab cuts w sq water (r + 1) s = barS cnt tab cuts w sq water r (barStep cnt tab cuts w sq water s) from by rw [barS]; exact if_pos c0]
      obtain ⟨h2, P2, H3, F2, t2⟩ := once_spec H2 K B (by omega) h3
      have e2 : h2 b = bO b fh s.2.2.2.2.1 s.2.2.2.2.2 := by rw [F2 b (by omega)]; exact h1
      generalize ht : onceS cnt tab cuts w sq water s.2.2.2.1 s.1 s.2.1 s.2.2.1 = t at P2 H3 t2
      have es : barStep cnt tab cuts w sq water s = (t.1, t.2.1, t.2.2.1, s.2.2.2.1 + 1, if bendS (t.1 5) w cuts < s.2.2.2.2.1 then bendS (t.1 5) w cuts else s.2.2.2.2.1, if s.2.2.2.2.2 < bendS (t.1 5) w cuts then bendS (t.1 5) w cuts else s.2.2.2.2.2) := by
        unfold barStep; simp only [ht]
      have P3 := bend_spec H3
      have F4 : FrB b h2 (tm_up h2 b (bO b fh (if bendS (t.1 5) w cuts < s.2.2.2.2.1 then bendS (t.1 5) w cuts else s.2.2.2.2.1) (if s.2.2.2.2.2 < bendS (t.1 5) w cuts then bendS (t.1 5) w cuts else s.2.2.2.2.2))) := FrB_up
      obtain ⟨h5, P5, H5, F5⟩ := ih (k + 1) (.int (bendS (t.1 5) w cuts)) _ (barStep cnt tab cuts w sq water s) (by rw [es]; exact ⟨tm_up_same, ⟨q, p, CAt_ob H3 _⟩, t2⟩) (BkAt_frB K (FrB_tr (FrB_c F2) F4) hd) (by omega)
      have mo := barS_mono cnt tab cuts w sq water r (barStep cnt tab cuts w sq water s)
      have em : (barStep cnt tab cuts w sq water s).2.2.2.1 = s.2.2.2.1 + 1 := rfl
      refine ⟨h5, ?_, H5, FrB_tr (FrB_c F2) (FrB_tr F4 F5)⟩
      rw [show k + ((barS cnt tab cuts w sq water r (barStep cnt tab cuts w sq water s)).2.2.2.1 - s.2.2.2.1) = k + 1 + ((barS cnt tab cuts w sq water r (barStep cnt tab cuts w sq water s)).2.2.2.1 - (barStep cnt tab cuts w sq water s).2.2.2.1) by omega, ← P5]
      simp only [bX0_coolFor_7, bX0_coolFor_11, bX0_coolFor_14, bX0_coolFor_17, bX0_coolFor_21, bX0_coolFor_24, bX0_coolFor_32, bX0_coolFor_35, bX0_coolFor_41, bX0_coolFor_48, bX0_coolFor_53, bX0_coolFor_60, bX0_coolFor_63, tk1_some, tk0_some, tkc_some, tkc_none, ↓reduceIte, e1, if_false, h1, gf_0_0, ca_o H2, tm_isO, ce_isCr H2, c0, show bI (decide ((-1 : Int32) ≠ -1)) = 0 from by decide, not_true, P2, e2, ca_o H3, P3, gf_0_2, gf_0_3, tm_pf_eq, ps_0_2, ps_0_3, Option.map_some, tm_up_same, tm_up_up, nI_k1]
    · rw [show barS cnt tab cuts w sq water (r + 1) s = s from by rw [barS]; exact if_neg c0]
      refine ⟨h, ?_, ⟨h1, ⟨p, q, H2⟩, h3⟩, FrB_rf b h⟩
      have ed : bI (decide (s.2.2.1 ≠ -1)) = 1 := by rw [decide_eq_true c0]; rfl
      simp only [bX0_coolFor_7, bX0_coolFor_11, bX0_coolFor_14, bX0_coolFor_17, bX0_coolFor_21, bX0_coolFor_24, bX0_coolFor_32, bX0_coolFor_35, bX0_coolFor_41, bX0_coolFor_48, bX0_coolFor_53, bX0_coolFor_60, bX0_coolFor_63, tk1_some, tk0_some, tkc_some, tkc_none, ↓reduceIte, e1, if_false, h1, gf_0_0, ca_o H2, tm_isO, ce_isCr H2, ed, show ((1 : Int32) = 0) = False from by decide, not_false_eq_true, if_true, Nat.sub_self, Nat.add_zero]
theorem bar_cool {h : tm_H} {s : BSt} (H : BAt h b fh s bk cuts w sq water) (K : BkAt h bk lo hi' cnt tab) (B : BkF lo hi' cnt tab) (hd : bk + 14 < b ∨ b + 11 < bk) {N : Nat} (hN : N < 2 ^ 31) : ∃ h', tC mX0_coolFor [.ref b, .int (nI N)] h = some (h', some (.int (nI ((barS cnt tab cuts w sq water N s).2.2.2.1 - s.2.2.2.1)))) ∧ BAt h' b fh (barS cnt tab cuts w sq water N s) bk cuts w sq water ∧ FrB b h h' := by
  obtain ⟨h', P, H2, F⟩ := bar_loop B hd hN N 0 tm_U h s H K (by omega)
  refine ⟨h', ?_, H2, F⟩
  rw [nI_0, Nat.zero_add] at P
  simp only [cX0_coolFor_, bX0_coolFor_0, P]
theorem bar_back {h : tm_H} {s : BSt} (H : BAt h b fh s bk cuts w sq water) (K : BkAt h bk lo hi' cnt tab) (B : BkF lo hi' cnt tab) (hd : bk + 14 < b ∨ b + 11 < bk) {N : Nat} (hN : N < 2 ^ 31) : ∃ h', tC mX0_goBackTo [.ref b, .int (nI N)] h = some (h', none) ∧ BAt h' b fh (if nI N = nI s.2.2.2.1 then s else barS cnt tab cuts w sq water N (heatS tab cuts w sq fh s.1, 0, -1, 0, 0, 0)) bk cuts w sq water ∧ FrB b h h' := by
  have h1 := H.1
  obtain ⟨p, q, H2⟩ := H.2.1
  by_cases e : nI N = nI s.2.2.2.1
  · rw [if_pos e]
    refine ⟨h, ?_, H, FrB_rf b h⟩
    simp only [cX0_goBackTo_, bX0_goBackTo_0, bX0_goBackTo_5, bX0_goBackTo_8, bX0_goBackTo_11, bX0_goBackTo_16, bX0_goBackTo_19, bX0_goBackTo_24, bX0_goBackTo_25, tk1_some, tk0_some, tkc_some, tkc_none, ↓reduceIte, h1, gf_0_0, ca_o H2, tm_isO, ce_tenth H2, e, if_true]
  · rw [if_neg e]
    obtain ⟨h3, P3, H3, F3⟩ := bar_heat H K B hd (v := fh)
    obtain ⟨h4, P4, H4, F4⟩ := bar_cool H3 (BkAt_frB K F3 hd) B hd hN
    refine ⟨h4, ?_, H4, FrB_tr F3 F4⟩
    simp only [cX0_goBackTo_, bX0_goBackTo_0, bX0_goBackTo_5, bX0_goBackTo_8, bX0_goBackTo_11, bX0_goBackTo_16, bX0_goBackTo_19, bX0_goBackTo_24, bX0_goBackTo_25, tk1_some, tk0_some, tkc_some, tkc_none, ↓reduceIte, h1, gf_0_0, gf_0_1, ca_o H2, tm_isO, ce_tenth H2, e, if_false, P3, H3.1, P4]
theorem bar_lb {h : tm_H} {s : BSt} (H : BAt h b fh s bk cuts w sq water) : tC mX0_leastBend [.ref b] h = some (h, some (.int s.2.2.2.2.1)) := by
  have h1 := H.1
  simp only [cX0_leastBend_, bX0_leastBend_0, bX0_leastBend_4, tk1_some, tk0_some, tkc_some, tkc_none, ↓reduceIte, h1, gf_0_2]
theorem bar_gb {h : tm_H} {s : BSt} (H : BAt h b fh s bk cuts w sq water) : tC mX0_greatestBend [.ref b] h = some (h, some (.int s.2.2.2.2.2)) := by
  have h1 := H.1
  simp only [cX0_greatestBend_, bX0_greatestBend_0, bX0_greatestBend_4, tk1_some, tk0_some, tkc_some, tkc_none, ↓reduceIte, h1, gf_0_3]
theorem bar_fit {h : tm_H} {s : BSt} {b2 n w' : Nat} (H : BAt h b fh s bk cuts w sq water) (K : BkAt h b2 lo hi' cnt tab) (B : BkF lo hi' cnt tab) (hd : b2 + 14 < b ∨ b + 11 < b2) (hn : n ≤ 8) (hw : w' ≤ 5) (en : tab 0 0 = nI n) (ew : tab 0 1 = nI w') : ∃ h', tC mX0_fit [.ref b, .ref b2] h = some (h', none) ∧ BAt h' b 0 (heatS tab n w' (sqS w' w') 0 (fitA tab n w' s.1), 0, -1, 0, 0, 0) b2 n w' (sqS w' w') (tab 1 0) ∧ FrB b h h' := by
  have h1 := H.1
  obtain ⟨p, q, H2⟩ := H.2.1
  obtain ⟨h3, P3, H3, F3⟩ := fit_spec H2 K B.1 B.2.1 B.2.2.1 (by omega) hn hw ew
  have e3 : h3 b = bO b fh s.2.2.2.2.1 s.2.2.2.2.2 := by rw [F3 b (by omega)]; exact h1
  obtain ⟨h4, P4, H4, F4⟩ := bar_heat (fh := fh) (s := (fitA tab n w' s.1, 0, -1, 0, s.2.2.2.2.1, s.2.2.2.2.2)) ⟨e3, ⟨p, q, H3⟩, Nat.zero_le _⟩ (BkAt_frB K (FrB_c F3) hd) B hd (v := 0)
  refine ⟨h4, ?_, H4, FrB_tr (FrB_c F3) F4⟩
  have g0 := bk_at0 K (c := 0) (c' := 0) rfl B.1 (by decide)
  rw [en] at g0
  simp only [cX0_fit_, bX0_fit_0, bX0_fit_4, bX0_fit_9, bX0_fit_14, bX0_fit_17, bX0_fit_22, tk1_some, tk0_some, tkc_some, tkc_none, ↓reduceIte, h1, gf_0_0, bk_o K, gf_3_0, bk_l0 K, tm_isO, g0, ca_o H2, P3, e3, P4]
end BA
