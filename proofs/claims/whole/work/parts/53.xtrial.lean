/-! THE CLASS'S CALLS: trials -/
section TC
variable {cnt : Nat → Nat} {tab : Nat → Nat → Int32} {w : Nat} {sq : Int32}
theorem trK_c (hw : w ≤ 5) {o o' : Nat → Int32} (E : ∀ j, j < w → o j = o' j) {heat water : Int32} : EqH 1 w (trK cnt tab w sq o heat water).1 (trK cnt tab w sq o' heat water).1 ∧ (trK cnt tab w sq o heat water).2 = (trK cnt tab w sq o' heat water).2 := by
  unfold trK
  exact trC_c hw 60 0 _ _ _ (heatS_c (by decide) hw (fun i j hi hj => by
    obtain rfl : i = 0 := by omega
    rw [show 0 * 5 + j = j by omega]; exact E j hj))
theorem crkW_c (hw : w ≤ 5) {o o' : Nat → Int32} (E : ∀ j, j < w → o j = o' j) {heat water : Int32} : crkW cnt tab w sq o heat water = crkW cnt tab w sq o' heat water := by
  unfold crkW; rw [(trK_c hw E).2]
theorem opnS_c {sh : Int32} {cf cf' : Nat → Int32} (E : ∀ j, j < w → cf j = cf' j) (ch : Int32) : ∀ j, j < w → opnS sh cf ch j = opnS sh cf' ch j := fun j hj => by unfold opnS; rw [E j hj]
theorem ninS_c (hw : w ≤ 5) {cf cf' : Nat → Int32} (E : ∀ j, j < w → cf j = cf' j) {ch heat byH byW : Int32} : ninS cnt tab w sq cf ch heat byH byW = ninS cnt tab w sq cf' ch heat byH byW := by
  have e : ninG cnt tab w sq (opnS (tab 1 2) cf ch) = ninG cnt tab w sq (opnS (tab 1 2) cf' ch) := by
    funext a b c d u z
    unfold ninG
    have e2 : (fun v => crkW cnt tab w sq (opnS (tab 1 2) cf ch) (keptS (a + u * b) 0 999) (keptS (c + v * d) 0 999)) = (fun v => crkW cnt tab w sq (opnS (tab 1 2) cf' ch) (keptS (a + u * b) 0 999) (keptS (c + v * d) 0 999)) := by
      funext v; exact crkW_c hw (opnS_c E ch)
    rw [e2]
  unfold ninS
  rw [e]
theorem clou_c (hw : w ≤ 5) {o o' : Nat → Int32} (E : ∀ j, j < w → o j = o' j) {heat water hard : Int32} : cloudG (tab 2) ((trK cnt tab w sq o heat water).1 2) hard 0 w 0 = cloudG (tab 2) ((trK cnt tab w sq o' heat water).1 2) hard 0 w 0 :=
  cloudG_c (fun j hj => (trK_c hw E).1.2.1 0 j (by decide) hj) w 0 (by omega)
theorem eyeF_c (hw : w ≤ 5) {o o' : Nat → Int32} (E : ∀ j, j < w → o j = o' j) {red light water : Int32} : eyeF cnt tab w sq o red light water = eyeF cnt tab w sq o' red light water := by
  funext v; unfold eyeF; rw [crkW_c hw E]
theorem clouF_c (hw : w ≤ 5) {o o' : Nat → Int32} (E : ∀ j, j < w → o j = o' j) {red light water wanted hard : Int32} : clouF cnt tab w sq o red light water wanted hard = clouF cnt tab w sq o' red light water wanted hard := by
  funext v; unfold clouF; rw [crkW_c hw E, clou_c hw E]
end TC
def FrT (h h' : tm_H) : Prop := ∀ k, (k < 57 ∨ 69 < k) → k ≠ 58 → h' k = h k
theorem FrT_tr {h h1 h2 : tm_H} (a : FrT h h1) (b : FrT h1 h2) : FrT h h2 := fun k x y => (b k x y).trans (a k x y)
theorem FrT_c {h h1 : tm_H} (a : Fr (57 + 2) h h1) : FrT h h1 := fun k x _ => a k (by omega)
theorem TrAt_set {h : tm_H} {t bk w : Nat} {cf : Nat → Int32} {sq : Int32} {D : Nat → Nat → Int32} (H : TrAt h t cf bk w sq D) (cf' : Nat → Int32) : TrAt (tm_up h (t + 1) (aI 5 cf')) t cf' bk w sq D := by
  obtain ⟨h0, hcf, hw, A, p, q, wa, te, tn, crk, H1, ht, ea, eb⟩ := H
  exact ⟨by rw [tm_up_ne (by omega)]; exact h0, tm_up_same, hw, A, p, q, wa, te, tn, crk, CAt_obx H1 _ (by omega), ht, ea, eb⟩
section XT
variable {h : tm_H} {S : SS}
theorem x_tri (X : XInv h S) (bo : sBo S = true) : ∃ cf D bx lo hi, TrAt h 57 cf bx (widS S) (sqW S) D ∧ bx < 26 ∧ BkAt h bx lo hi (sC S) (sB S) ∧ BkF lo hi (sC S) (sB S) ∧ (∀ h' cf' D', TrAt h' 57 cf' bx (widS S) (sqW S) D' → FrT h h' → XInv h' S ∧ FrX h h') := by
  obtain ⟨told, spare, ts, O, T2, R, K, Ba, ⟨cf, tr, raw⟩, Bi, Bl⟩ := X
  obtain ⟨D, tr⟩ := tr bo
  obtain ⟨⟨lo, hi, k1, k2⟩, k3⟩ := id K
  refine ⟨cf, D, told, lo, hi, tr, by omega, k1, k2 bo, fun h' cf' D' t' F => ⟨⟨told, spare, ts, by rw [F 1 (by omega) (by omega)]; exact O, by rw [F 2 (by omega) (by omega)]; exact T2, XRd_c (fun k hk => F k (by omega) (by omega)) R, XBks_c ts (fun k h1 h2 => F k (by omega) (by omega)) K, XBar_c (fun k h1 h2 => F k (by omega) (by omega)) Ba, ⟨cf', fun _ => ⟨D', t'⟩, ?_⟩, XBil_c (fun k h1 h2 => F k (by omega) (by omega)) Bi, XBla_c (fun k h1 h2 => F k (by omega) (by omega)) Bl⟩, fun k hk => F k (by omega) (by omega)⟩⟩
  obtain ⟨h0, hcf, hw, A, p, q, wa, te, tn, crk, H1, ht, ea, eb⟩ := t'
  exact ⟨told, told, A, p, q, 1, _, _, wa, te, tn, crk, h0, hcf, H1⟩
theorem x_i50 (X : XInv h S) : tm_isObj (h 57) 8 = true := by
  obtain ⟨told, spare, ts, O, T2, R, K, Ba, ⟨cf, tr, b1, b2, A, p, q, cuts, w0, sq, wa, te, tn, crk, a, _⟩, _⟩ := X
  rw [a]; exact tm_isO
/-- the trials, clayed as the bar's first cut is -/
theorem tob_loop {h0 : tm_H} {bx : Nat} (hc : 0 < cutS S) (P : PX S) (put : ∀ h' cf' D', TrAt h' 57 cf' bx (widS S) (sqW S) D' → FrT h0 h' → XInv h' S ∧ FrX h0 h') : ∀ r j h cf D, TrAt h 57 cf bx (widS S) (sqW S) D → FrT h0 h → (∀ k, k < j → cf k = (sR S).1 0 k) → j + r = widS S → ∃ h' cf' D', tE mX9_trialsOfBar 2 [.ref 1, .int (nI j)] [] h = some (h', some (.ref 57)) ∧ TrAt h' 57 cf' bx (widS S) (sqW S) D' ∧ FrT h0 h' ∧ (∀ k, k < widS S → cf' k = (sR S).1 0 k) := by
  have hw := px_w P
  intro r
  induction r with
  | zero =>
    intro j h cf D T F G hj
    obtain rfl : j = widS S := by omega
    obtain ⟨X, _⟩ := put h cf D T F
    obtain ⟨p, q, bx', wa, C, _, _⟩ := x_ce X
    refine ⟨h, cf, D, ?_, T, F, G⟩
    rw [bX9_trialsOfBar_2]
    simp only [bX9_trialsOfBar_7, bX9_trialsOfBar_10, bX9_trialsOfBar_13, bX9_trialsOfBar_16, bX9_trialsOfBar_20, bX9_trialsOfBar_25, bX9_trialsOfBar_28, bX9_trialsOfBar_33, bX9_trialsOfBar_36, bX9_trialsOfBar_42, bX9_trialsOfBar_46, tk1_some, tk0_some, tkc_some, tkc_none, ↓reduceIte, x_g2 X, x_g3 X, x_g23 X, x_i24 X, ce_width C, Int32.le_refl, if_true]
  | succ r ih =>
    intro j h cf D T F G hj
    obtain ⟨X, _⟩ := put h cf D T F
    obtain ⟨p, q, bx', wa, C, _, _⟩ := x_ce X
    have e1 : ¬ nI (widS S) ≤ nI j := nI_ge (by omega) (by omega)
    have cl := ce_clay C hc (show j < widS S by omega)
    rw [nI_0, show 0 * 5 + j = j by omega] at cl
    have st := tr_set T (show j < 5 by omega) (v := (sR S).1 0 j)
    have T1 := TrAt_set T (upd cf j ((sR S).1 0 j))
    have F1 : FrT h (tm_up h (57 + 1) (aI 5 (upd cf j ((sR S).1 0 j)))) := fun k _ y => tm_up_ne y
    generalize tm_up h (57 + 1) (aI 5 (upd cf j ((sR S).1 0 j))) = h1 at st T1 F1
    obtain ⟨h2, cf2, D2, P2, T2, F2, G2⟩ := ih (j + 1) h1 _ D T1 (FrT_tr F F1) (fun k hk => by
      unfold upd
      by_cases e : k = j
      · rw [if_pos e, e]
      · rw [if_neg e]; exact G k (by omega)) (by omega)
    refine ⟨h2, cf2, D2, ?_, T2, F2, G2⟩
    rw [bX9_trialsOfBar_2]
    simp only [bX9_trialsOfBar_7, bX9_trialsOfBar_10, bX9_trialsOfBar_13, bX9_trialsOfBar_16, bX9_trialsOfBar_20, bX9_trialsOfBar_25, bX9_trialsOfBar_28, bX9_trialsOfBar_33, bX9_trialsOfBar_36, bX9_trialsOfBar_42, bX9_trialsOfBar_46, tk1_some, tk0_some, tkc_some, tkc_none, ↓reduceIte, x_g2 X, x_g3 X, x_g23 X, x_i24 X, x_i50 X, ce_width C, e1, if_false, cl, st, nI_k1, P2]
theorem bo_cut (P : PX S) (bo : sBo S = true) : 0 < cutS S ∧ 0 < widS S := by
  have b := P.2.2.2.1 bo
  unfold cutS widS
  rw [if_pos bo, if_pos bo]
  exact ⟨b.1, by have := b.2.2.1; omega⟩
theorem x_tob (X : XInv h S) (P : PX S) (bo : sBo S = true) : ∃ h' cf D bx lo hi, tC mX9_trialsOfBar [.ref 1] h = some (h', some (.ref 57)) ∧ TrAt h' 57 cf bx (widS S) (sqW S) D ∧ bx < 26 ∧ BkAt h' bx lo hi (sC S) (sB S) ∧ BkF lo hi (sC S) (sB S) ∧ (∀ k, k < widS S → cf k = (sR S).1 0 k) ∧ XInv h' S ∧ (∀ h2 cf' D', TrAt h2 57 cf' bx (widS S) (sqW S) D' → FrT h' h2 → XInv h2 S ∧ FrX h h2) := by
  obtain ⟨cf, D, bx, lo, hi, T, hb, K, B, put⟩ := x_tri X bo
  obtain ⟨h1, cf1, D1, P1, T1, F1, G1⟩ := tob_loop (bo_cut P bo).1 P put (widS S) 0 h cf D T (fun _ _ _ => rfl) (fun k hk => absurd hk (by omega)) (by omega)
  rw [nI_0] at P1
  refine ⟨h1, cf1, D1, bx, lo, hi, by rw [cX9_trialsOfBar_, bX9_trialsOfBar_0, P1], T1, hb, BkAt_c (fun k h1 h2 => F1 k (by omega) (by omega)) K, B, G1, (put h1 _ _ T1 F1).1, fun h2 cf' D' T2 F2 => put h2 cf' D' T2 (FrT_tr F1 F2)⟩
theorem iw_spec (X : XInv h S) {v : Int32} : tC mX9_isWidth [.ref 1, .int v] h = some (h, some (.int (bI (inB v 0 (nI (widS S)))))) := by
  obtain ⟨p, q, bx, wa, C, _, _⟩ := x_ce X
  simp only [cX9_isWidth_, bX9_isWidth_0, bX9_isWidth_6, bX9_isWidth_9, bX9_isWidth_12, bX9_isWidth_15, tk1_some, tk0_some, tkc_some, tkc_none, ↓reduceIte, x_g2 X, x_g23 X, x_i24 X, ce_width C, within_spec, tm_rbb]
def aimC (S : SS) (heat width hard : Int32) : Bool := if inB heat 0 999 = true then (if inB width 0 (nI (widS S)) = true then inB hard 0 99 else false) else false
def sAim (S : SS) (heat width hard : Int32) : SS × Value :=
  if sBo S = true then (if aimC S heat width hard = true then (if leastS (sC S) (sB S) (widS S) (sqW S) heat (iN width) hard = -1 then sRef S 6 else sAns S (leastS (sC S) (sB S) (widS S) (sqW S) heat (iN width) hard)) else sRef S 2) else sRef S 1
theorem x_aim (X : XInv h S) (P : PX S) {heat width hard : Int32} : ∃ h', tC mX9_aim [.ref 1, .int heat, .int width, .int hard] h = some (h', some (sAim S heat width hard).2) ∧ XInv h' (sAim S heat width hard).1 ∧ FrX h h' := by
  have hw := px_w P
  unfold sAim
  cases bo : sBo S with
  | false =>
    obtain ⟨h', a, b, c⟩ := x_refuse X (t := 1) (by decide)
    refine ⟨h', ?_, b, c⟩
    simp only [cX9_aim_, bX9_aim_0, bX9_aim_4, bX9_aim_7, bX9_aim_12, bX9_aim_13, bX9_aim_17, bX9_aim_20, bX9_aim_25, bX9_aim_28, bX9_aim_32, bX9_aim_35, bX9_aim_40, bX9_aim_41, bX9_aim_45, bX9_aim_51, bX9_aim_59, bX9_aim_65, bX9_aim_74, bX9_aim_68, tk1_some, tk0_some, tkc_some, tkc_none, ↓reduceIte, x_g8 X, x_is X, bo, bI_f, not_true, if_false, a, Bool.false_eq_true, sRef]
  | true =>
    rw [if_pos rfl]
    have bad : aimC S heat width hard = false → ∃ h', tC mX9_aim [.ref 1, .int heat, .int width, .int hard] h = some (h', some (sRef S 2).2) ∧ XInv h' (sRef S 2).1 ∧ FrX h h' := by
      intro ac
      obtain ⟨h', a, b, c⟩ := x_refuse X (t := 2) (by decide)
      refine ⟨h', ?_, b, c⟩
      unfold aimC at ac
      cases i1 : inB heat 0 999 with
      | false => simp only [cX9_aim_, bX9_aim_0, bX9_aim_4, bX9_aim_7, bX9_aim_12, bX9_aim_13, bX9_aim_17, bX9_aim_20, bX9_aim_25, bX9_aim_28, bX9_aim_32, bX9_aim_35, bX9_aim_40, bX9_aim_41, bX9_aim_45, bX9_aim_51, bX9_aim_59, bX9_aim_65, bX9_aim_74, bX9_aim_68, tk1_some, tk0_some, tkc_some, tkc_none, ↓reduceIte, x_g8 X, x_is X, bo, ih_spec, i1, bI_t, bI_f, show ((1 : Int32) = 0) = False from by decide, not_false_eq_true, if_true, a, sRef]
      | true =>
        cases i2 : inB width 0 (nI (widS S)) with
        | false => simp only [cX9_aim_, bX9_aim_0, bX9_aim_4, bX9_aim_7, bX9_aim_12, bX9_aim_13, bX9_aim_17, bX9_aim_20, bX9_aim_25, bX9_aim_28, bX9_aim_32, bX9_aim_35, bX9_aim_40, bX9_aim_41, bX9_aim_45, bX9_aim_51, bX9_aim_59, bX9_aim_65, bX9_aim_74, bX9_aim_68, tk1_some, tk0_some, tkc_some, tkc_none, ↓reduceIte, x_g8 X, x_is X, bo, ih_spec, i1, iw_spec X, i2, bI_t, bI_f, show ((1 : Int32) = 0) = False from by decide, not_false_eq_true, if_true, if_false, a, sRef]
        | true =>
          rw [i1, i2, if_pos rfl, if_pos rfl] at ac
          simp only [cX9_aim_, bX9_aim_0, bX9_aim_4, bX9_aim_7, bX9_aim_12, bX9_aim_13, bX9_aim_17, bX9_aim_20, bX9_aim_25, bX9_aim_28, bX9_aim_32, bX9_aim_35, bX9_aim_40, bX9_aim_41, bX9_aim_45, bX9_aim_51, bX9_aim_59, bX9_aim_65, bX9_aim_74, bX9_aim_68, tk1_some, tk0_some, tkc_some, tkc_none, ↓reduceIte, x_g8 X, x_is X, bo, ih_spec, i1, iw_spec X, i2, ihd_spec, ac, bI_t, bI_f, show ((1 : Int32) = 0) = False from by decide, not_false_eq_true, not_true, if_true, if_false, a, sRef]
    cases ac : aimC S heat width hard with
    | false => exact bad ac
    | true =>
      rw [if_pos rfl]
      unfold aimC at ac
      split at ac
      · rename_i i1
        split at ac
        · rename_i i2
          obtain ⟨en, h1n, hww⟩ := inB_nat (a := 0) (b := widS S) (by omega) (by omega) i2
          obtain ⟨cf, D, bx, lo, hi, T, hb, K, B, put⟩ := x_tri X bo
          obtain ⟨h1, D1, P1, T1, F1⟩ := lc_spec T K B (by omega) (heat := heat) (hard := hard) hww
          obtain ⟨X1, FX1⟩ := put h1 cf D1 T1 (FrT_c F1)
          rw [← en] at P1
          by_cases e : leastS (sC S) (sB S) (widS S) (sqW S) heat (iN width) hard = -1
          · obtain ⟨h', a, b, c⟩ := x_refuse X1 (t := 6) (by decide)
            rw [if_pos e]
            refine ⟨h', ?_, b, FrX_tr FX1 c⟩
            simp only [cX9_aim_, bX9_aim_0, bX9_aim_4, bX9_aim_7, bX9_aim_12, bX9_aim_13, bX9_aim_17, bX9_aim_20, bX9_aim_25, bX9_aim_28, bX9_aim_32, bX9_aim_35, bX9_aim_40, bX9_aim_41, bX9_aim_45, bX9_aim_51, bX9_aim_59, bX9_aim_65, bX9_aim_74, bX9_aim_68, tk1_some, tk0_some, tkc_some, tkc_none, ↓reduceIte, x_g8 X, x_g3 X, x_i50 X, x_is X, x_is X1, bo, ih_spec, i1, iw_spec X, i2, ihd_spec, ac, P1, e, bI_t, show ((1 : Int32) = 0) = False from by decide, not_false_eq_true, not_true, if_true, if_false, a, sRef]
          · obtain ⟨h', a, b, c⟩ := x_answer X1 (v := leastS (sC S) (sB S) (widS S) (sqW S) heat (iN width) hard)
            rw [if_neg e]
            refine ⟨h', ?_, b, FrX_tr FX1 c⟩
            simp only [cX9_aim_, bX9_aim_0, bX9_aim_4, bX9_aim_7, bX9_aim_12, bX9_aim_13, bX9_aim_17, bX9_aim_20, bX9_aim_25, bX9_aim_28, bX9_aim_32, bX9_aim_35, bX9_aim_40, bX9_aim_41, bX9_aim_45, bX9_aim_51, bX9_aim_59, bX9_aim_65, bX9_aim_74, bX9_aim_68, tk1_some, tk0_some, tkc_some, tkc_none, ↓reduceIte, x_g8 X, x_g3 X, x_i50 X, x_is X, x_is X1, bo, ih_spec, i1, iw_spec X, i2, ihd_spec, ac, P1, e, bI_t, show ((1 : Int32) = 0) = False from by decide, not_false_eq_true, if_true, if_false, a, sAns]
        · cases ac
      · cases ac
def scatC (heat byH byW : Int32) : Bool := if inB heat 0 999 = true then (if inB byH 0 99 = true then inB byW 0 99 else false) else false
theorem isc_spec {h : tm_H} {heat byH byW : Int32} : tC mX9_isScatter [.int heat, .int byH, .int byW] h = some (h, some (.int (bI (scatC heat byH byW)))) := by
  unfold scatC
  cases i1 : inB heat 0 999 with
  | false => simp only [cX9_isScatter_, bX9_isScatter_0, bX9_isScatter_4, bX9_isScatter_7, bX9_isScatter_14, bX9_isScatter_17, bX9_isScatter_24, bX9_isScatter_27, bX9_isScatter_32, bX9_isScatter_31, tk1_some, tk0_some, tkc_some, tkc_none, ↓reduceIte, ih_spec, i1, bI_f, if_true, tm_rb0, Bool.false_eq_true, if_false]
  | true =>
    cases i2 : inB byH 0 99 with
    | false => simp only [cX9_isScatter_, bX9_isScatter_0, bX9_isScatter_4, bX9_isScatter_7, bX9_isScatter_14, bX9_isScatter_17, bX9_isScatter_24, bX9_isScatter_27, bX9_isScatter_32, bX9_isScatter_31, tk1_some, tk0_some, tkc_some, tkc_none, ↓reduceIte, ih_spec, i1, within_spec, i2, bI_t, bI_f, show ((1 : Int32) = 0) = False from by decide, if_true, if_false, tm_rb0, Bool.false_eq_true]
    | true =>
      cases i3 : inB byW 0 99 with
      | false => simp only [cX9_isScatter_, bX9_isScatter_0, bX9_isScatter_4, bX9_isScatter_7, bX9_isScatter_14, bX9_isScatter_17, bX9_isScatter_24, bX9_isScatter_27, bX9_isScatter_32, bX9_isScatter_31, tk1_some, tk0_some, tkc_some, tkc_none, ↓reduceIte, ih_spec, i1, within_spec, i2, i3, bI_t, bI_f, show ((1 : Int32) = 0) = False from by decide, if_true, if_false, tm_rb0]
      | true => simp only [cX9_isScatter_, bX9_isScatter_0, bX9_isScatter_4, bX9_isScatter_7, bX9_isScatter_14, bX9_isScatter_17, bX9_isScatter_24, bX9_isScatter_27, bX9_isScatter_32, bX9_isScatter_31, tk1_some, tk0_some, tkc_some, tkc_none, ↓reduceIte, ih_spec, i1, within_spec, i2, i3, bI_t, show ((1 : Int32) = 0) = False from by decide, if_true, if_false, tm_rb1]
abbrev cfS (S : SS) : Nat → Int32 := (sR S).1 0
def sScat (S : SS) (heat byH byW : Int32) : SS × Value :=
  if sBo S = true then (if scatC heat byH byW = true then sAns S (ninS (sC S) (sB S) (widS S) (sqW S) (cfS S) (-1) heat byH byW) else sRef S 2) else sRef S 1
theorem x_scatter (X : XInv h S) (P : PX S) {heat byH byW : Int32} : ∃ h', tC mX9_scatter [.ref 1, .int heat, .int byH, .int byW] h = some (h', some (sScat S heat byH byW).2) ∧ XInv h' (sScat S heat byH byW).1 ∧ FrX h h' := by
  have hw := px_w P
  unfold sScat
  cases bo : sBo S with
  | false =>
    obtain ⟨h', a, b, c⟩ := x_refuse X (t := 1) (by decide)
    refine ⟨h', ?_, b, c⟩
    simp only [cX9_scatter_, bX9_scatter_0, bX9_scatter_4, bX9_scatter_7, bX9_scatter_12, bX9_scatter_13, bX9_scatter_19, bX9_scatter_22, bX9_scatter_27, bX9_scatter_28, bX9_scatter_33, bX9_scatter_40, bX9_scatter_43, tk1_some, tk0_some, tkc_some, tkc_none, ↓reduceIte, x_g8 X, x_is X, bo, bI_f, not_true, if_false, a, Bool.false_eq_true, sRef]
  | true =>
    cases sc : scatC heat byH byW with
    | false =>
      obtain ⟨h', a, b, c⟩ := x_refuse X (t := 2) (by decide)
      refine ⟨h', ?_, b, c⟩
      simp only [cX9_scatter_, bX9_scatter_0, bX9_scatter_4, bX9_scatter_7, bX9_scatter_12, bX9_scatter_13, bX9_scatter_19, bX9_scatter_22, bX9_scatter_27, bX9_scatter_28, bX9_scatter_33, bX9_scatter_40, bX9_scatter_43, tk1_some, tk0_some, tkc_some, tkc_none, ↓reduceIte, x_g8 X, x_is X, bo, isc_spec, sc, bI_t, bI_f, show ((1 : Int32) = 0) = False from by decide, not_false_eq_true, not_true, if_true, if_false, a, Bool.false_eq_true, sRef]
    | true =>
      obtain ⟨h1, cf, D, bx, lo, hi, P1, T, hb, K, B, G, X1, put⟩ := x_tob X P bo
      obtain ⟨h2, D2, P2, T2, F2⟩ := nin_spec T K B (by omega) (ch := -1) (heat := heat) (byH := byH) (byW := byW)
      obtain ⟨X2, FX2⟩ := put h2 cf D2 T2 (FrT_c F2)
      rw [ninS_c hw G] at P2
      obtain ⟨h3, a, b, c⟩ := x_answer X2 (v := ninS (sC S) (sB S) (widS S) (sqW S) (cfS S) (-1) heat byH byW)
      refine ⟨h3, ?_, b, FrX_tr FX2 c⟩
      simp only [cX9_scatter_, bX9_scatter_0, bX9_scatter_4, bX9_scatter_7, bX9_scatter_12, bX9_scatter_13, bX9_scatter_19, bX9_scatter_22, bX9_scatter_27, bX9_scatter_28, bX9_scatter_33, bX9_scatter_40, bX9_scatter_43, tk1_some, tk0_some, tkc_some, tkc_none, ↓reduceIte, x_g8 X, x_is X, x_is X2, x_i50 X1, bo, isc_spec, sc, P1, P2, bI_t, show ((1 : Int32) = 0) = False from by decide, not_false_eq_true, if_true, a, sAns]
def sLow (S : SS) (heat byH byW : Int32) : SS × Value :=
  if sBo S = true then (if scatC heat byH byW = true then sAns S (bstS (fun ch => ninS (sC S) (sB S) (widS S) (sqW S) (cfS S) ch heat byH byW) 4 0 (ninS (sC S) (sB S) (widS S) (sqW S) (cfS S) (-1) heat byH byW) (-2)) else sRef S 2) else sRef S 1
theorem x_lowers (X : XInv h S) (P : PX S) {heat byH byW : Int32} : ∃ h', tC mX9_lowers [.ref 1, .int heat, .int byH, .int byW] h = some (h', some (sLow S heat byH byW).2) ∧ XInv h' (sLow S heat byH byW).1 ∧ FrX h h' := by
  have hw := px_w P
  unfold sLow
  cases bo : sBo S with
  | false =>
    obtain ⟨h', a, b, c⟩ := x_refuse X (t := 1) (by decide)
    refine ⟨h', ?_, b, c⟩
    simp only [cX9_lowers_, bX9_lowers_0, bX9_lowers_4, bX9_lowers_7, bX9_lowers_12, bX9_lowers_13, bX9_lowers_19, bX9_lowers_22, bX9_lowers_27, bX9_lowers_28, bX9_lowers_33, bX9_lowers_39, bX9_lowers_42, tk1_some, tk0_some, tkc_some, tkc_none, ↓reduceIte, x_g8 X, x_is X, bo, bI_f, not_true, if_false, a, Bool.false_eq_true, sRef]
  | true =>
    cases sc : scatC heat byH byW with
    | false =>
      obtain ⟨h', a, b, c⟩ := x_refuse X (t := 2) (by decide)
      refine ⟨h', ?_, b, c⟩
      simp only [cX9_lowers_, bX9_lowers_0, bX9_lowers_4, bX9_lowers_7, bX9_lowers_12, bX9_lowers_13, bX9_lowers_19, bX9_lowers_22, bX9_lowers_27, bX9_lowers_28, bX9_lowers_33, bX9_lowers_39, bX9_lowers_42, tk1_some, tk0_some, tkc_some, tkc_none, ↓reduceIte, x_g8 X, x_is X, bo, isc_spec, sc, bI_t, bI_f, show ((1 : Int32) = 0) = False from by decide, not_false_eq_true, not_true, if_true, if_false, a, Bool.false_eq_true, sRef]
    | true =>
      obtain ⟨h1, cf, D, bx, lo, hi, P1, T, hb, K, B, G, X1, put⟩ := x_tob X P bo
      obtain ⟨h2, D2, P2, T2, F2⟩ := bst_spec T K B (by omega) (heat := heat) (byH := byH) (byW := byW)
      obtain ⟨X2, FX2⟩ := put h2 cf D2 T2 (FrT_c F2)
      have e : (fun ch => ninS (sC S) (sB S) (widS S) (sqW S) cf ch heat byH byW) = (fun ch => ninS (sC S) (sB S) (widS S) (sqW S) (cfS S) ch heat byH byW) := by funext ch; exact ninS_c hw G
      rw [e, ninS_c hw G] at P2
      obtain ⟨h3, a, b, c⟩ := x_answer X2 (v := bstS (fun ch => ninS (sC S) (sB S) (widS S) (sqW S) (cfS S) ch heat byH byW) 4 0 (ninS (sC S) (sB S) (widS S) (sqW S) (cfS S) (-1) heat byH byW) (-2))
      refine ⟨h3, ?_, b, FrX_tr FX2 c⟩
      simp only [cX9_lowers_, bX9_lowers_0, bX9_lowers_4, bX9_lowers_7, bX9_lowers_12, bX9_lowers_13, bX9_lowers_19, bX9_lowers_22, bX9_lowers_27, bX9_lowers_28, bX9_lowers_33, bX9_lowers_39, bX9_lowers_42, tk1_some, tk0_some, tkc_some, tkc_none, ↓reduceIte, x_g8 X, x_is X, x_is X2, x_i50 X1, bo, isc_spec, sc, P1, P2, bI_t, show ((1 : Int32) = 0) = False from by decide, not_false_eq_true, if_true, a, sAns]
def whyW (S : SS) (heat ch : Int32) : Bool := crkW (sC S) (sB S) (widS S) (sqW S) (opnS (sB S 1 2) (cfS S) ch) (heatW ch heat) (waterW (sB S 1 0) ch)
def sWhy (S : SS) (heat : Int32) : SS × Value :=
  if sBo S = true then (if inB heat 0 999 = true then (if whyW S heat (-1) = true then sAns S (savS (whyW S heat) 4 0 0) else sRef S 5) else sRef S 2) else sRef S 1
theorem x_why (X : XInv h S) (P : PX S) {heat : Int32} : ∃ h', tC mX9_why [.ref 1, .int heat] h = some (h', some (sWhy S heat).2) ∧ XInv h' (sWhy S heat).1 ∧ FrX h h' := by
  have hw := px_w P
  unfold sWhy
  cases bo : sBo S with
  | false =>
    obtain ⟨h', a, b, c⟩ := x_refuse X (t := 1) (by decide)
    refine ⟨h', ?_, b, c⟩
    simp only [cX9_why_, bX9_why_0, bX9_why_4, bX9_why_7, bX9_why_12, bX9_why_13, bX9_why_17, bX9_why_20, bX9_why_25, bX9_why_26, bX9_why_30, bX9_why_37, bX9_why_40, bX9_why_46, bX9_why_49, bX9_why_57, bX9_why_52, tk1_some, tk0_some, tkc_some, tkc_none, ↓reduceIte, x_g8 X, x_is X, bo, bI_f, not_true, if_false, a, Bool.false_eq_true, sRef]
  | true =>
    cases sc : inB heat 0 999 with
    | false =>
      obtain ⟨h', a, b, c⟩ := x_refuse X (t := 2) (by decide)
      refine ⟨h', ?_, b, c⟩
      simp only [cX9_why_, bX9_why_0, bX9_why_4, bX9_why_7, bX9_why_12, bX9_why_13, bX9_why_17, bX9_why_20, bX9_why_25, bX9_why_26, bX9_why_30, bX9_why_37, bX9_why_40, bX9_why_46, bX9_why_49, bX9_why_57, bX9_why_52, tk1_some, tk0_some, tkc_some, tkc_none, ↓reduceIte, x_g8 X, x_is X, bo, ih_spec, sc, bI_t, bI_f, show ((1 : Int32) = 0) = False from by decide, not_false_eq_true, not_true, if_true, if_false, a, Bool.false_eq_true, sRef]
    | true =>
      obtain ⟨h1, cf, D, bx, lo, hi, P1, T, hb, K, B, G, X1, put⟩ := x_tob X P bo
      obtain ⟨h2, D2, P2, T2, F2⟩ := crkW_spec T K B (by omega) (ch := -1) (heat := heat)
      obtain ⟨X2, FX2⟩ := put h2 cf D2 T2 (FrT_c F2)
      rw [crkW_c hw (opnS_c G (-1))] at P2
      replace P2 : _ = some (h2, some (Value.int (bI (whyW S heat (-1))))) := P2
      cases cr : whyW S heat (-1) with
      | false =>
        rw [cr, bI_f] at P2
        obtain ⟨h3, a, b, c⟩ := x_refuse X2 (t := 5) (by decide)
        refine ⟨h3, ?_, b, FrX_tr FX2 c⟩
        simp only [cX9_why_, bX9_why_0, bX9_why_4, bX9_why_7, bX9_why_12, bX9_why_13, bX9_why_17, bX9_why_20, bX9_why_25, bX9_why_26, bX9_why_30, bX9_why_37, bX9_why_40, bX9_why_46, bX9_why_49, bX9_why_57, bX9_why_52, tk1_some, tk0_some, tkc_some, tkc_none, ↓reduceIte, x_g8 X, x_is X, x_is X2, x_i50 X1, bo, ih_spec, sc, P1, P2, bI_t, show ((1 : Int32) = 0) = False from by decide, not_false_eq_true, if_true, if_false, a, sRef, Bool.false_eq_true]
      | true =>
        rw [cr, bI_t] at P2
        obtain ⟨h3, D3, P3, T3, F3⟩ := sav_spec T2 (BkAt_c (fun k h1 h2 => F2 k (by omega)) K) B (by omega) (heat := heat)
        obtain ⟨X3, FX3⟩ := put h3 cf D3 T3 (FrT_tr (FrT_c F2) (FrT_c F3))
        have e : (fun ch => crkW (sC S) (sB S) (widS S) (sqW S) (opnS (sB S 1 2) cf ch) (heatW ch heat) (waterW (sB S 1 0) ch)) = whyW S heat := by funext ch; exact crkW_c hw (opnS_c G ch)
        rw [e] at P3
        obtain ⟨h4, a, b, c⟩ := x_answer X3 (v := savS (whyW S heat) 4 0 0)
        refine ⟨h4, ?_, b, FrX_tr FX3 c⟩
        simp only [cX9_why_, bX9_why_0, bX9_why_4, bX9_why_7, bX9_why_12, bX9_why_13, bX9_why_17, bX9_why_20, bX9_why_25, bX9_why_26, bX9_why_30, bX9_why_37, bX9_why_40, bX9_why_46, bX9_why_49, bX9_why_57, bX9_why_52, tk1_some, tk0_some, tkc_some, tkc_none, ↓reduceIte, x_g8 X, x_is X, x_is X2, x_is X3, x_i50 X1, x_i50 X2, bo, ih_spec, sc, P1, P2, P3, bI_t, show ((1 : Int32) = 0) = False from by decide, not_false_eq_true, if_true, if_false, a, sAns]
end XT
