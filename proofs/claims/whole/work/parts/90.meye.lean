/-! THE REFERENCE's calls: colour, eye -/
section M40
variable {h0 h : tm_H} {S : SS} {b nn : Nat} {G : Nat → Nat → Int32} {nm : Nat → Int64} {c40 cl : Nat → Int32} {lo hi : Int32}
theorem mcl_loop (W : MW h b (sC S) (sB S) nn G nm) {heat light : Int32} : ∀ r k, k + r = sC S 4 → tE mX11_colourOf 2 [.ref 70, .int heat, .int light, .int (nI k)] [] h = some (h, some (.int (redG (sB S 4) (heat + 15 * light) r k))) := by
  have M := mw_b W
  have c6 : sC S 4 ≤ 6 := mb_c M (by decide)
  have t6 : 6 < 2 ^ 31 := by decide
  intro r
  induction r with
  | zero =>
    intro k hk
    obtain rfl : k = sC S 4 := by omega
    rw [bX11_colourOf_2]
    simp only [bX11_colourOf_7, bX11_colourOf_10, bX11_colourOf_51, tk1_some, tk0_some, tkc_some, tkc_none, ↓reduceIte, mw_3 W, mb_o M, gf_10_9, Int32.le_refl, if_true, redG]
  | succ r ih =>
    intro k hk
    have e1 : ¬ nI (sC S 4) ≤ nI k := nI_ge (by omega) (by omega)
    have e := ih (k + 1) (by omega)
    obtain ⟨g7, g8⟩ := M.2.2.2.2.2.2.1 k (by omega)
    have q7 : tm_ai 0 (h (b + 7)) (nI k) = some (.int (sB S 4 (k * 2))) := by rw [mb_7 M, tm_ai_in rfl (show k < 6 by omega) t6, g7]
    have q8 : tm_ai 0 (h (b + 8)) (nI k) = some (.int (sB S 4 (k * 2 + 1))) := by rw [mb_8 M, tm_ai_in rfl (show k < 6 by omega) t6, g8]
    have st : tE mX11_colourOf 2 [.ref 70, .int heat, .int light, .int (nI k)] [] h = tE mX11_colourOf 40 [.ref 70, .int heat, .int light, .int (nI k)] [.int (bI (inB (heat + 15 * light) (sB S 4 (k * 2)) (sB S 4 (k * 2 + 1))))] h := by
      rw [bX11_colourOf_2]
      simp only [bX11_colourOf_7, bX11_colourOf_10, bX11_colourOf_13, bX11_colourOf_23, bX11_colourOf_26, bX11_colourOf_28, bX11_colourOf_32, bX11_colourOf_35, bX11_colourOf_37, tk1_some, tk0_some, tkc_some, tkc_none, ↓reduceIte, mw_3 W, mb_o M, gf_10_9, gf_10_19, gf_10_20, e1, if_false, q7, q8, m_in]
    rw [st]
    unfold redG inB
    by_cases z : heat + 15 * light < sB S 4 (k * 2)
    · rw [if_pos z, if_pos z, bI_f, bX11_colourOf_40, if_pos rfl, bX11_colourOf_45, nI_k1, e]
    · rw [if_neg z, if_neg z]
      by_cases y : sB S 4 (k * 2 + 1) < heat + 15 * light
      · rw [if_pos y, if_pos y, bI_f, bX11_colourOf_40, if_pos rfl, bX11_colourOf_45, nI_k1, e]
      · rw [if_neg y, if_neg y, bI_t, bX11_colourOf_40, if_neg (by decide), bX11_colourOf_43]
theorem m_colOf (W : MW h b (sC S) (sB S) nn G nm) {heat light : Int32} : tC mX11_colourOf [.ref 70, .int heat, .int light] h = some (h, some (.int (redS (sB S 4) (sC S 4) heat light))) := by
  have e := mcl_loop W (heat := heat) (light := light) (sC S 4) 0 (by omega)
  rw [nI_0] at e
  rw [cX11_colourOf_, bX11_colourOf_0, e]; rfl
theorem m_colour (X : MInv h S) (P : PX S) (Q : sBo S = true → PB S) {heat light : Int32} : ∃ h', tC mX11_colour [.ref 70, .int heat, .int light] h = some (h', some (sCol S heat light).2) ∧ MInv h' (sCol S heat light).1 ∧ FrM h h' := by
  obtain ⟨h1, E1, X1, F1, _, I1⟩ := m_thr X (v := 0)
  unfold sCol colC
  cases bo : sBo S with
  | false =>
    have bk := (m_bk X1).2 bo
    obtain ⟨h2, X2, F2, _, D2, _⟩ := m_note X1 (t := 1) (by decide)
    refine ⟨h2, ?_, X2, FrM_tr F1 F2⟩
    simp only [cX11_colour_, bX11_colour_0, bX11_colour_5, bX11_colour_9n, bX11_colour_12, bX11_colour_17, tk1_some, tk0_some, tkc_some, tkc_none, ↓reduceIte, E1, bk, I1, D2, Bool.false_eq_true, if_false, sRef]
  | true =>
    obtain ⟨b, nn, G, nm, Z, hm, km, W, _, _, _, _, _, _, _, _, _, bk⟩ := m_see X1 P bo (Q bo)
    cases i1 : inB heat 0 999 with
    | false =>
      obtain ⟨h2, X2, F2, _, D2, _⟩ := m_note X1 (t := 2) (by decide)
      refine ⟨h2, ?_, X2, FrM_tr F1 F2⟩
      simp only [cX11_colour_, bX11_colour_0, bX11_colour_5, bX11_colour_9r, bX11_colour_18, bX11_colour_26, bX11_colour_51, bX11_colour_56, tk1_some, tk0_some, tkc_some, tkc_none, ↓reduceIte, E1, bk, m_in, i1, bI_f, if_false, I1, D2, Bool.false_eq_true, if_true, sRef]
    | true =>
      cases i2 : inB light 0 3 with
      | false =>
        obtain ⟨h2, X2, F2, _, D2, _⟩ := m_note X1 (t := 2) (by decide)
        refine ⟨h2, ?_, X2, FrM_tr F1 F2⟩
        simp only [cX11_colour_, bX11_colour_0, bX11_colour_5, bX11_colour_9r, bX11_colour_18, bX11_colour_26, bX11_colour_29, bX11_colour_35, bX11_colour_51, bX11_colour_56, tk1_some, tk0_some, tkc_some, tkc_none, ↓reduceIte, E1, bk, m_in, i1, i2, bI_f, bI_t, show ((1 : Int32) = 0) = False from by decide, if_false, I1, D2, Bool.false_eq_true, if_true, sRef]
      | true =>
        obtain ⟨h2, X2, F2, I2, _, _, _, _, D2⟩ := m_note X1 (t := 0) (by decide)
        have D2 := fun v => (D2 rfl v).1
        refine ⟨h2, ?_, X2, FrM_tr F1 F2⟩
        simp only [cX11_colour_, bX11_colour_0, bX11_colour_5, bX11_colour_9r, bX11_colour_18, bX11_colour_26, bX11_colour_29, bX11_colour_35, bX11_colour_38, bX11_colour_45, bX11_colour_48, bX11_colour_56, tk1_some, tk0_some, tkc_some, tkc_none, ↓reduceIte, E1, bk, m_in, i1, i2, bI_t, show ((1 : Int32) = 0) = False from by decide, if_false, I1, m_colOf W, D2, if_true, sAns]
/-- what counts by eye -/
def eyeG (S : SS) (colour light what width hard v : Int32) : Bool :=
  if what = 0 then decide (redS (sB S 4) (sC S 4) v light = colour) else if what = 1 then eyeF (sC S) (sB S) (widS S) (sqW S) (opnS (sB S 1 2) (cfS S) (-1)) colour light (sB S 1 0) v else clouF (sC S) (sB S) (widS S) (sqW S) (opnS (sB S 1 2) (cfS S) (-1)) colour light (sB S 1 0) width hard v
theorem mey_step (T0 : MT0 h0 S b nn G nm c40 lo hi) (T : TT h0 h cl) (eo : ∀ j, j < widS S → opnS (sB S 1 2) (cfS S) (-1) j = opS (sB S 1 2) (cl j)) {colour light what width hard n v : Int32} {x8 : Value} (wt : inB what 0 2 = true) : ∃ h' y8, tE mX11_eye 105 [.ref 70, .int colour, .int light, .int what, .int width, .int hard, .int n, .int v, x8] [] h = tE mX11_eye 190 [.ref 70, .int colour, .int light, .int what, .int width, .int hard, .int (if eyeG S colour light what width hard v = true then n + 1 else n), .int v, y8] [] h' ∧ TT h0 h' cl := by
  obtain ⟨W, o, _⟩ := mt_W T0 T
  have M := mw_b W
  have hw : widS S ≤ 5 := T0.2.2.2.2.2.2.2.2.2.1
  have ew : sB S 0 1 = nI (widS S) := T0.2.2.2.2.2.2.2.2.2.2
  by_cases z : redS (sB S 4) (sC S 4) v light = colour
  · have s1 : tE mX11_eye 105 [.ref 70, .int colour, .int light, .int what, .int width, .int hard, .int n, .int v, x8] [] h = tE mX11_eye 119 [.ref 70, .int colour, .int light, .int what, .int width, .int hard, .int n, .int v, x8] [] h := by
      simp only [bX11_eye_105, bX11_eye_112, tk1_some, tk0_some, tkc_some, tkc_none, ↓reduceIte, mw_i W, m_colOf W, z, if_true]
    rw [s1]
    by_cases w0 : what = 0
    · refine ⟨h, x8, ?_, T⟩
      have w0' : (what = 0) = True := eq_true w0
      have eg : eyeG S colour light what width hard v = true := by unfold eyeG; rw [if_pos w0]; exact decide_eq_true z
      rw [eg, if_pos rfl]
      simp only [bX11_eye_119, bX11_eye_123, w0', not_true, if_false]
    · obtain ⟨h1, km1, P1, T1, k1, E1⟩ := mt_try T0 T eo (heat := v) (water := sB S 1 0)
      obtain ⟨W1, o1, _⟩ := mt_W T0 T1
      have g29 : tm_gf (h1 70) 11 29 = some (.ref 79) := by rw [o1]; exact T0.2.2.2.2.1
      have c5 : sC S 2 ≤ 5 := mb_c M (by decide)
      have Q := KOk_trK T0.1 c5 hw (sq := sqW S) (water := sB S 1 0) (opn := opnS (sB S 1 2) (cfS S) (-1)) (heat := v)
      have PC := mcloud W1 k1 (by decide) (cuts := 1) (fun i j hi hj => (by omega : i * 5 + j < 5)) (fun i j hi hj => by
        obtain ⟨kd, x, y⟩ := Q i j hi hj
        exact ⟨kd, x, (E1 i j hi hj).trans y⟩) ew hw (i := 0) (by decide) (hard := hard)
      rw [nI_0, cloudG_c (kg := (trK (sC S) (sB S) (widS S) (sqW S) (opnS (sB S 1 2) (cfS S) (-1)) v (sB S 1 0)).1 2) (fun j hj => E1 0 j (by decide) hj) (widS S) 0 (by omega)] at PC
      refine ⟨h1, .int (bI (crkW (sC S) (sB S) (widS S) (sqW S) (opnS (sB S 1 2) (cfS S) (-1)) v (sB S 1 0))), ?_, T1⟩
      by_cases w1 : what = 1
      · have w1' : (what = 1) = True := eq_true w1
        have n2 : (what = 2) = False := eq_false (by rw [w1]; decide)
        have eg : eyeG S colour light what width hard v = crkW (sC S) (sB S) (widS S) (sqW S) (opnS (sB S 1 2) (cfS S) (-1)) v (sB S 1 0) := by
          unfold eyeG eyeF; rw [if_neg w0, if_pos w1, decide_eq_true z, Bool.true_and]
        rw [eg]
        cases c : crkW (sC S) (sB S) (widS S) (sqW S) (opnS (sB S 1 2) (cfS S) (-1)) v (sB S 1 0) with
        | true =>
          rw [c, bI_t] at P1
          simp only [bX11_eye_119, bX11_eye_129, bX11_eye_136, bX11_eye_139, bX11_eye_142, bX11_eye_151, bX11_eye_182, bX11_eye_187, tk1_some, tk0_some, tkc_some, tkc_none, ↓reduceIte, w0, not_false_eq_true, if_true, mw_3 W, mb_o M, gf_10_2, mw_i W, P1, w1', not_true, if_false, show ((1 : Int32) = 0) = False from by decide, bI_t]
        | false =>
          rw [c, bI_f] at P1
          simp only [bX11_eye_119, bX11_eye_129, bX11_eye_136, bX11_eye_139, bX11_eye_142, bX11_eye_151, bX11_eye_156, bX11_eye_186, bX11_eye_187, tk1_some, tk0_some, tkc_some, tkc_none, ↓reduceIte, w0, not_false_eq_true, if_true, mw_3 W, mb_o M, gf_10_2, mw_i W, P1, w1', n2, not_true, if_false, bI_f, Bool.false_eq_true, Int32.add_zero]
      · have w2 : what = 2 := by
          obtain ⟨k, hk, rfl⟩ := inB_nk (hi := 2) (by decide) wt
          have : k = 2 := by
            rcases (show k = 0 ∨ k = 1 ∨ k = 2 by omega) with rfl | rfl | rfl
            · exact absurd rfl w0
            · exact absurd rfl w1
            · rfl
          rw [this]; rfl
        have w2' : (what = 2) = True := eq_true w2
        have eg : eyeG S colour light what width hard v = (if crkW (sC S) (sB S) (widS S) (sqW S) (opnS (sB S 1 2) (cfS S) (-1)) v (sB S 1 0) = true then false else decide (nI (cloudG (sB S 2) ((trK (sC S) (sB S) (widS S) (sqW S) (opnS (sB S 1 2) (cfS S) (-1)) v (sB S 1 0)).1 2) hard 0 (widS S) 0) = width)) := by
          unfold eyeG clouF; rw [if_neg w0, if_neg w1, if_pos z]
        rw [eg]
        cases c : crkW (sC S) (sB S) (widS S) (sqW S) (opnS (sB S 1 2) (cfS S) (-1)) v (sB S 1 0) with
        | true =>
          rw [c, bI_t] at P1
          simp only [bX11_eye_119, bX11_eye_129, bX11_eye_136, bX11_eye_139, bX11_eye_142, bX11_eye_156, bX11_eye_161, bX11_eye_186, bX11_eye_187, tk1_some, tk0_some, tkc_some, tkc_none, ↓reduceIte, w0, not_false_eq_true, if_true, mw_3 W, mb_o M, gf_10_2, mw_i W, P1, w1, w2', not_true, if_false, show ((1 : Int32) = 0) = False from by decide, bI_t, Bool.false_eq_true, Int32.add_zero]
        | false =>
          rw [c, bI_f] at P1
          by_cases d : nI (cloudG (sB S 2) ((trK (sC S) (sB S) (widS S) (sqW S) (opnS (sB S 1 2) (cfS S) (-1)) v (sB S 1 0)).1 2) hard 0 (widS S) 0) = width
          · simp only [bX11_eye_119, bX11_eye_129, bX11_eye_136, bX11_eye_139, bX11_eye_142, bX11_eye_156, bX11_eye_161, bX11_eye_166, bX11_eye_171, bX11_eye_177, bX11_eye_182, bX11_eye_187, tk1_some, tk0_some, tkc_some, tkc_none, ↓reduceIte, w0, not_false_eq_true, if_true, mw_3 W, mb_o M, gf_10_2, mw_i W, mw_i W1, P1, w1, w2', not_true, if_false, bI_f, Bool.false_eq_true, g29, PC, d, decide_true]
          · simp only [bX11_eye_119, bX11_eye_129, bX11_eye_136, bX11_eye_139, bX11_eye_142, bX11_eye_156, bX11_eye_161, bX11_eye_166, bX11_eye_171, bX11_eye_177, bX11_eye_186, bX11_eye_187, tk1_some, tk0_some, tkc_some, tkc_none, ↓reduceIte, w0, not_false_eq_true, if_true, mw_3 W, mb_o M, gf_10_2, mw_i W, mw_i W1, P1, w1, w2', not_true, if_false, bI_f, Bool.false_eq_true, g29, PC, d, decide_false, Int32.add_zero]
  · refine ⟨h, x8, ?_, T⟩
    have eg : eyeG S colour light what width hard v = false := by
      unfold eyeG eyeF clouF
      rw [decide_eq_false z, Bool.false_and, if_neg z, ite_self, ite_self]
    rw [eg, if_neg (by decide)]
    simp only [bX11_eye_105, bX11_eye_112, bX11_eye_116, tk1_some, tk0_some, tkc_some, tkc_none, ↓reduceIte, mw_i W, m_colOf W, z, if_false]
theorem mey_loop (T0 : MT0 h0 S b nn G nm c40 lo hi) (eo : ∀ j, j < widS S → opnS (sB S 1 2) (cfS S) (-1) j = opS (sB S 1 2) (cl j)) {colour light what width hard : Int32} (wt : inB what 0 2 = true) : ∀ r k n h x8, TT h0 h cl → k + r = 1000 → ∃ h' y8, tE mX11_eye 97 [.ref 70, .int colour, .int light, .int what, .int width, .int hard, .int n, .int (nI k), x8] [] h = tE mX11_eye 196 [.ref 70, .int colour, .int light, .int what, .int width, .int hard, .int (cnF (eyeG S colour light what width hard) r k n), .int (nI 1000), y8] [] h' ∧ TT h0 h' cl := by
  intro r
  induction r with
  | zero =>
    intro k n h x8 T hk
    obtain rfl : k = 1000 := by omega
    exact ⟨h, x8, by rw [bX11_eye_97, if_pos (show (999 : Int32) < nI 1000 by decide)]; rfl, T⟩
  | succ r ih =>
    intro k n h x8 T hk
    obtain ⟨h1, y1, P1, T1⟩ := mey_step T0 T eo (colour := colour) (light := light) (what := what) (width := width) (hard := hard) (n := n) (v := nI k) (x8 := x8) wt
    obtain ⟨h2, y2, P2, T2⟩ := ih (k + 1) _ h1 y1 T1 (by omega)
    refine ⟨h2, y2, ?_, T2⟩
    rw [bX11_eye_97, if_neg (lt999 (show k < 1000 by omega)), P1, bX11_eye_190, nI_k1, P2]
    rfl
theorem m_eye (X : MInv h S) (P : PX S) (Q : sBo S = true → PB S) {colour light what width hard : Int32} : ∃ h', tC mX11_eye [.ref 70, .int colour, .int light, .int what, .int width, .int hard] h = some (h', some (sEye S colour light what width hard).2) ∧ MInv h' (sEye S colour light what width hard).1 ∧ FrM h h' := by
  obtain ⟨h1, E1, X1, F1, _, I1⟩ := m_thr X (v := 0)
  obtain ⟨h2, X2, F2, _, D2, _⟩ := m_note X1 (t := 1) (by decide)
  obtain ⟨h3, X3, F3, _, D3, _⟩ := m_note X1 (t := 2) (by decide)
  unfold sEye
  cases bo : sBo S with
  | false =>
    have bk := (m_bk X1).2 bo
    have ec : eyeC S colour what = false := by unfold eyeC; rw [bo]; rfl
    rw [ec, if_neg (by decide)]
    refine ⟨h2, ?_, X2, FrM_tr F1 F2⟩
    simp only [cX11_eye_, bX11_eye_0, bX11_eye_5, bX11_eye_9n, bX11_eye_38, bX11_eye_43, tk1_some, tk0_some, tkc_some, tkc_none, ↓reduceIte, E1, bk, I1, D2, sRef]
  | true =>
    obtain ⟨b, nn, G, nm, c40, lo, hi, cl, T0, T⟩ := m_tri X1 P bo (Q bo)
    obtain ⟨W, o, _⟩ := mt_W T0 T
    have M := mw_b W
    have bk := mw_3 W
    have ew : sB S 0 1 = nI (widS S) := T0.2.2.2.2.2.2.2.2.2.2
    have ec : eyeC S colour what = (if inB colour 0 (nI (sC S 4) - 1) = true then inB what 0 2 else false) := by unfold eyeC; rw [bo]; rfl
    rw [ec]
    cases i1 : inB colour 0 (nI (sC S 4) - 1) with
    | false =>
      simp only [Bool.false_eq_true, if_false]
      refine ⟨h2, ?_, X2, FrM_tr F1 F2⟩
      simp only [cX11_eye_, bX11_eye_0, bX11_eye_5, bX11_eye_9r, bX11_eye_12, bX11_eye_18, bX11_eye_21, bX11_eye_26, bX11_eye_38, bX11_eye_43, tk1_some, tk0_some, tkc_some, tkc_none, ↓reduceIte, E1, bk, mb_o M, gf_10_9, m_in, i1, bI_f, if_true, I1, D2, sRef]
    | true =>
      rw [if_pos rfl]
      cases wt : inB what 0 2 with
      | false =>
        rw [if_neg (by decide)]
        refine ⟨h2, ?_, X2, FrM_tr F1 F2⟩
        simp only [cX11_eye_, bX11_eye_0, bX11_eye_5, bX11_eye_9r, bX11_eye_12, bX11_eye_18, bX11_eye_21, bX11_eye_26, bX11_eye_29, bX11_eye_35, bX11_eye_38, bX11_eye_43, tk1_some, tk0_some, tkc_some, tkc_none, ↓reduceIte, E1, bk, mb_o M, gf_10_9, m_in, i1, wt, bI_f, bI_t, show ((1 : Int32) = 0) = False from by decide, not_true, if_true, if_false, I1, D2, sRef]
      | true =>
        rw [if_pos rfl]
        have st : tC mX11_eye [.ref 70, .int colour, .int light, .int what, .int width, .int hard] h = tE mX11_eye 44 [.ref 70, .int colour, .int light, .int what, .int width, .int hard, tm_U, tm_U, tm_U] [] h1 := by
          simp only [cX11_eye_, bX11_eye_0, bX11_eye_5, bX11_eye_9r, bX11_eye_12, bX11_eye_18, bX11_eye_21, bX11_eye_26, bX11_eye_29, bX11_eye_35, tk1_some, tk0_some, tkc_some, tkc_none, ↓reduceIte, E1, bk, mb_o M, gf_10_9, m_in, i1, wt, bI_t, show ((1 : Int32) = 0) = False from by decide, not_false_eq_true, if_true, if_false]
        rw [st]
        unfold eyeD
        cases j1 : inB light 0 3 with
        | false =>
          simp only [Bool.false_eq_true, if_false]
          refine ⟨h3, ?_, X3, FrM_tr F1 F3⟩
          simp only [bX11_eye_44, bX11_eye_50, bX11_eye_80, bX11_eye_85, tk1_some, tk0_some, tkc_some, tkc_none, ↓reduceIte, m_in, j1, bI_f, if_true, I1, D3, sRef]
        | true =>
          rw [if_pos rfl]
          cases j2 : inB width 0 (nI (widS S)) with
          | false =>
            simp only [Bool.false_eq_true, if_false]
            refine ⟨h3, ?_, X3, FrM_tr F1 F3⟩
            simp only [bX11_eye_44, bX11_eye_50, bX11_eye_53, bX11_eye_60, bX11_eye_63, bX11_eye_66, bX11_eye_80, bX11_eye_85, tk1_some, tk0_some, tkc_some, tkc_none, ↓reduceIte, m_in, j1, bk, mb_o M, gf_10_1, ew, j2, bI_f, bI_t, show ((1 : Int32) = 0) = False from by decide, if_true, if_false, I1, D3, sRef]
          | true =>
            rw [if_pos rfl]
            cases j3 : inB hard 0 99 with
            | false =>
              rw [if_neg (by decide)]
              refine ⟨h3, ?_, X3, FrM_tr F1 F3⟩
              simp only [bX11_eye_44, bX11_eye_50, bX11_eye_53, bX11_eye_60, bX11_eye_63, bX11_eye_66, bX11_eye_69, bX11_eye_77, bX11_eye_80, bX11_eye_85, tk1_some, tk0_some, tkc_some, tkc_none, ↓reduceIte, m_in, j1, bk, mb_o M, gf_10_1, ew, j2, j3, bI_f, bI_t, show ((1 : Int32) = 0) = False from by decide, not_true, if_true, if_false, I1, D3, sRef]
            | true =>
              rw [if_pos rfl]
              obtain ⟨h4, cl4, P4, T4, D4⟩ := mt_clays T0 T (more := 0)
              obtain ⟨h5, y5, P5, T5⟩ := mey_loop (cl := cl4) T0 (fun j hj => by rw [D4 j hj]; rfl) (colour := colour) (light := light) (width := width) (hard := hard) wt 1000 0 0 h4 tm_U T4 (by omega)
              rw [nI_0] at P5
              obtain ⟨X5, F5⟩ := m_triP X1 T5
              obtain ⟨h6, X6, F6, I6, _, _, _, _, D6⟩ := m_note X5 (t := 0) (by decide)
              have D6 := fun v => (D6 rfl v).1
              have eS : (if what = 0 then sAns S (cnF (fun v => decide (redS (sB S 4) (sC S 4) v light = colour)) 1000 0 0) else if what = 1 then sAns S (cnF (eyeF (sC S) (sB S) (widS S) (sqW S) (opnS (sB S 1 2) (cfS S) (-1)) colour light (sB S 1 0)) 1000 0 0) else sAns S (cnF (clouF (sC S) (sB S) (widS S) (sqW S) (opnS (sB S 1 2) (cfS S) (-1)) colour light (sB S 1 0) width hard) 1000 0 0)) = sAns S (cnF (eyeG S colour light what width hard) 1000 0 0) := by
                by_cases w0 : what = 0
                · rw [if_pos w0, show eyeG S colour light what width hard = (fun v => decide (redS (sB S 4) (sC S 4) v light = colour)) from funext (fun v => by unfold eyeG; rw [if_pos w0])]
                · rw [if_neg w0]
                  by_cases w1 : what = 1
                  · rw [if_pos w1, show eyeG S colour light what width hard = eyeF (sC S) (sB S) (widS S) (sqW S) (opnS (sB S 1 2) (cfS S) (-1)) colour light (sB S 1 0) from funext (fun v => by unfold eyeG; rw [if_neg w0, if_pos w1])]
                  · rw [if_neg w1, show eyeG S colour light what width hard = clouF (sC S) (sB S) (widS S) (sqW S) (opnS (sB S 1 2) (cfS S) (-1)) colour light (sB S 1 0) width hard from funext (fun v => by unfold eyeG; rw [if_neg w0, if_neg w1])]
              rw [eS]
              refine ⟨h6, ?_, X6, FrM_tr F1 (FrM_tr F5 F6)⟩
              simp only [bX11_eye_44, bX11_eye_50, bX11_eye_53, bX11_eye_60, bX11_eye_63, bX11_eye_66, bX11_eye_69, bX11_eye_77, bX11_eye_86, bX11_eye_91, bX11_eye_196, bX11_eye_202, tk1_some, tk0_some, tkc_some, tkc_none, ↓reduceIte, m_in, j1, bk, mb_o M, gf_10_1, ew, j2, j3, bI_t, show ((1 : Int32) = 0) = False from by decide, not_false_eq_true, if_true, if_false, I1, P4, P5, I6, D6, sAns]
end M40
/-! THE REFERENCE's calls: polish, stones, whose, odds, next -/
theorem bit01 (x : Int32) : x &&& 1 = 0 ∨ x &&& 1 = 1 := by
  have h : (x &&& 1).toBitVec.toNat = x.toBitVec.toNat % 2 := by
    rw [Int32.toBitVec_and, BitVec.toNat_and]
    exact Nat.and_one_is_mod _
  rcases Nat.mod_two_eq_zero_or_one x.toBitVec.toNat with e | e
  · left
    apply Int32.toBitVec_inj.mp
    apply BitVec.eq_of_toNat_eq
    rw [h, e]; rfl
  · right
    apply Int32.toBitVec_inj.mp
    apply BitVec.eq_of_toNat_eq
    rw [h, e]; rfl
theorem prod_st {p : Int64} {x : Int32} {k : Nat} (hk : k < 8) (a : 1 ≤ p.toInt) (b : p.toInt ≤ ((9 ^ k : Nat) : Int)) (c : 1 ≤ x.toInt) (d : x.toInt ≤ 9) : 1 ≤ (p * x.toInt64).toInt ∧ (p * x.toInt64).toInt ≤ ((9 ^ (k + 1) : Nat) : Int) := by
  have e : (9 ^ (k + 1) : Nat) = 9 ^ k * 9 := Nat.pow_succ ..
  have u : p.toInt * x.toInt ≤ ((9 ^ k : Nat) : Int) * 9 := Int.mul_le_mul b d (by omega) (by omega)
  have l : 1 * 1 ≤ p.toInt * x.toInt := Int.mul_le_mul a c (by omega) (by omega)
  have m : 9 ^ (k + 1) ≤ 9 ^ 8 := Nat.pow_le_pow_right (by decide) (by omega)
  have t : (p * x.toInt64).toInt = p.toInt * x.toInt := by
    rw [Int64.toInt_mul, Int32.toInt_toInt64]
    apply Int.bmod_eq_of_le <;> omega
  rw [t, e]
  constructor
  · omega
  · rw [Int.natCast_mul]; exact u
theorem prodG_pos {f : Nat → Int32} {s : Int32} (R : ∀ j, j < 8 → 1 ≤ (f j).toInt ∧ (f j).toInt ≤ 9) : ∀ r k (p : Int64), k + r = 8 → 1 ≤ p.toInt → p.toInt ≤ ((9 ^ k : Nat) : Int) → 1 ≤ (prodG f s r k p).toInt
  | 0, _, _, _, a, _ => a
  | r + 1, k, p, hk, a, b => by
    unfold prodG
    obtain ⟨c, d⟩ := R k (by omega)
    obtain ⟨u, v⟩ := prod_st (show k < 8 by omega) a b c d
    split
    · exact prodG_pos R r (k + 1) _ (by omega) u v
    · have m : (9 : Nat) ^ k ≤ 9 ^ (k + 1) := Nat.pow_le_pow_right (by decide) (by omega)
      exact prodG_pos R r (k + 1) _ (by omega) a (by omega)
theorem sm1_lt {c : Nat} (hc : c ≤ 5) {v : Int32} : (nI c - 1 < v) ↔ ¬ v < nI c := by
  rw [Int32.lt_iff_toInt_lt, Int32.lt_iff_toInt_lt]
  have e : (nI c).toInt = c := Int32.toInt_ofNat_of_lt (by omega)
  have e2 : (nI c - 1).toInt = c - 1 := by
    rw [Int32.toInt_sub, e]
    show Int.bmod ((c : Int) - 1) _ = _
    apply Int.bmod_eq_of_le <;> omega
  rw [e, e2]; omega
theorem sub_eq_z {x y : Int32} : (x - y = 0) ↔ x = y := by
  constructor
  · intro h; have := congrArg (· + y) h; simpa using this
  · rintro rfl; simp
theorem cmp_sub {x y : Int32} (a : 0 ≤ x ∧ x ≤ 2) (b : 0 ≤ y ∧ y ≤ 2) : (x - y ≤ 0 ↔ x ≤ y) ∧ (0 ≤ x - y ↔ y ≤ x) := by
  simp only [Int32.le_iff_toInt_le] at *
  have e2 : (2:Int32).toInt = 2 := by decide
  have e0 : (0:Int32).toInt = 0 := by decide
  have e : (x - y).toInt = x.toInt - y.toInt := by
    rw [Int32.toInt_sub]
    apply Int.bmod_eq_of_le <;> omega
  omega
def difF (d : Nat → Int32) (what : Nat) : Nat → Nat → Int32
  | 0, _ => if d what ≤ 0 then (if 0 ≤ d what then 0 else -1) else 1
  | r + 1, k => if k = what then difF d what r (k + 1) else if d k = 0 then difF d what r (k + 1) else 0
theorem tri3 (x : Int32) : (x = 0 ∧ x ≤ 0 ∧ 0 ≤ x) ∨ (¬ x = 0 ∧ ¬ x ≤ 0 ∧ 0 ≤ x) ∨ (¬ x = 0 ∧ x ≤ 0 ∧ ¬ 0 ≤ x) := by
  by_cases a : x ≤ 0
  · by_cases b : 0 ≤ x
    · exact .inl ⟨Int32.le_antisymm a b, a, b⟩
    · exact .inr (.inr ⟨fun y => b (by rw [y]; exact Int32.le_refl _), a, b⟩)
  · refine .inr (.inl ⟨fun y => a (by rw [y]; exact Int32.le_refl _), a, Int32.le_of_lt (Int32.not_le.mp a)⟩)
theorem way_dif (d : Nat → Int32) : ∀ w, w < 6 → ((wayS d = nI w) ↔ (difF d (w % 3) 3 0 = if w < 3 then 1 else -1)) := by
  have e0 : ¬ (nI 0 : Int32) = -1 := by decide
  have e1 : ¬ (nI 1 : Int32) = -1 := by decide
  have e3 : ¬ (nI 0 + 3 : Int32) = -1 := by decide
  have e4 : ¬ (nI 1 + 3 : Int32) = -1 := by decide
  intro w hw
  unfold wayS
  rcases tri3 (d 0) with ⟨a, b, c⟩ | ⟨a, b, c⟩ | ⟨a, b, c⟩ <;> rcases tri3 (d 1) with ⟨a1, b1, c1⟩ | ⟨a1, b1, c1⟩ | ⟨a1, b1, c1⟩ <;> rcases tri3 (d 2) with ⟨a2, b2, c2⟩ | ⟨a2, b2, c2⟩ | ⟨a2, b2, c2⟩ <;>
  (rcases (show w = 0 ∨ w = 1 ∨ w = 2 ∨ w = 3 ∨ w = 4 ∨ w = 5 by omega) with rfl | rfl | rfl | rfl | rfl | rfl <;>
    simp [wayF, difF, a, a1, a2, b, b1, b2, c, c1, c2, e0, e1, e3, e4, Nat.zero_add, Nat.reduceAdd, Nat.reduceMod, reduceIte, Nat.reduceEqDiff] <;> decide)
section M41
variable {h : tm_H} {S : SS} {b nn : Nat} {G : Nat → Nat → Int32} {nm : Nat → Int64}
theorem mdy_loop (W : MW h b (sC S) (sB S) nn G nm) {s : Int32} : ∀ r k a, k + r = sC S 5 → tE mX11_daysOf 4 [.ref 70, .int s, .int a, .int (nI k)] [] h = some (h, some (.int (daysG (sB S 5) s r k a))) := by
  have M := mw_b W
  have c6 : sC S 5 ≤ 6 := mb_c M (by decide)
  intro r
  induction r with
  | zero =>
    intro k a hk
    obtain rfl : k = sC S 5 := by omega
    rw [bX11_daysOf_4]
    simp only [bX11_daysOf_9, bX11_daysOf_12, bX11_daysOf_39, tk1_some, tk0_some, tkc_some, tkc_none, ↓reduceIte, mw_3 W, mb_o M, gf_10_10, Int32.le_refl, if_true, daysG]
  | succ r ih =>
    intro k a hk
    have e1 : ¬ nI (sC S 5) ≤ nI k := nI_ge (by omega) (by omega)
    obtain ⟨g9, g10⟩ := M.2.2.2.2.2.2.2.1 k (by omega)
    have q9 : tm_ai 0 (h (b + 9)) (nI k) = some (.int (sB S 5 (k * 2))) := by rw [mb_9 M, tm_ai_in rfl (show k < 6 by omega) (by decide), g9]
    rw [bX11_daysOf_4]
    unfold daysG
    rcases bit01 (s >>> (nI k &&& 31)) with z | z
    · have e := ih (k + 1) a (by omega)
      rw [z, if_neg (by decide), ← e]
      simp only [bX11_daysOf_9, bX11_daysOf_12, bX11_daysOf_15, bX11_daysOf_25, bX11_daysOf_28, bX11_daysOf_30, tk1_some, tk0_some, tkc_some, tkc_none, ↓reduceIte, mw_3 W, mb_o M, gf_10_10, gf_10_21, e1, if_false, q9, z, Int32.zero_mul, Int32.add_zero, nI_k1]
    · have e := ih (k + 1) (a + sB S 5 (k * 2)) (by omega)
      rw [z, if_pos rfl, ← e]
      simp only [bX11_daysOf_9, bX11_daysOf_12, bX11_daysOf_15, bX11_daysOf_25, bX11_daysOf_28, bX11_daysOf_30, tk1_some, tk0_some, tkc_some, tkc_none, ↓reduceIte, mw_3 W, mb_o M, gf_10_10, gf_10_21, e1, if_false, q9, z, Int32.one_mul, nI_k1]
theorem m_days (W : MW h b (sC S) (sB S) nn G nm) {s : Int32} : tC mX11_daysOf [.ref 70, .int s] h = some (h, some (.int (daysS (sB S 5) (sC S 5) s))) := by
  have e := mdy_loop W (s := s) (sC S 5) 0 0 (by omega)
  rw [nI_0] at e
  rw [cX11_daysOf_, bX11_daysOf_0, e]; rfl
theorem msg_loop (W : MW h b (sC S) (sB S) nn G nm) {x1 x2 : Value} {s : Int32} : ∀ r k a, k + r = sC S 5 → tE mX11_stonesFor 23 [.ref 70, x1, x2, .int s, .int a, .int (nI k)] [] h = tE mX11_stonesFor 70 [.ref 70, x1, x2, .int s, .int (signG (sB S 5) s r k a), .int (nI (sC S 5))] [] h := by
  have M := mw_b W
  have c6 : sC S 5 ≤ 6 := mb_c M (by decide)
  intro r
  induction r with
  | zero =>
    intro k a hk
    obtain rfl : k = sC S 5 := by omega
    rw [bX11_stonesFor_23]
    simp only [bX11_stonesFor_29, bX11_stonesFor_32, tk1_some, tk0_some, tkc_some, tkc_none, ↓reduceIte, mw_3 W, mb_o M, gf_10_10, Int32.le_refl, if_true, signG]
  | succ r ih =>
    intro k a hk
    have e1 : ¬ nI (sC S 5) ≤ nI k := nI_ge (by omega) (by omega)
    obtain ⟨g9, g10⟩ := M.2.2.2.2.2.2.2.1 k (by omega)
    have q10 : tm_ai 0 (h (b + 10)) (nI k) = some (.int (sB S 5 (k * 2 + 1))) := by rw [mb_10 M, tm_ai_in rfl (show k < 6 by omega) (by decide), g10]
    rw [bX11_stonesFor_23]
    unfold signG
    by_cases z : ((s >>> (nI k &&& 31)) &&& 1) = 1
    · have e := ih (k + 1) (a ||| sB S 5 (k * 2 + 1)) (by omega)
      rw [if_pos z, ← e]
      simp only [bX11_stonesFor_29, bX11_stonesFor_32, bX11_stonesFor_35, bX11_stonesFor_47, bX11_stonesFor_51, bX11_stonesFor_54, bX11_stonesFor_57, bX11_stonesFor_61, tk1_some, tk0_some, tkc_some, tkc_none, ↓reduceIte, mw_3 W, mb_o M, gf_10_10, gf_10_22, e1, if_false, q10, z, not_true, nI_k1]
    · have e := ih (k + 1) a (by omega)
      rw [if_neg z, ← e]
      simp only [bX11_stonesFor_29, bX11_stonesFor_32, bX11_stonesFor_35, bX11_stonesFor_60, bX11_stonesFor_61, tk1_some, tk0_some, tkc_some, tkc_none, ↓reduceIte, mw_3 W, mb_o M, gf_10_10, e1, if_false, z, not_false_eq_true, if_true, Int32.or_zero, nI_k1]
theorem mst_loop (W : MW h b (sC S) (sB S) nn G nm) {signs : Int32} : ∀ r k bb w x4 x5, k + r = 2 ^ sC S 5 → (bb = -1 ∨ w = daysS (sB S 5) (sC S 5) bb) → tE mX11_stonesFor 4 [.ref 70, .int signs, .int bb, .int (nI k), x4, x5] [] h = some (h, some (.int (stG (sB S 5) (sC S 5) signs r k bb w))) := by
  have M := mw_b W
  have c6 : sC S 5 ≤ 6 := mb_c M (by decide)
  have p6 : 2 ^ sC S 5 ≤ 2 ^ 6 := Nat.pow_le_pow_right (by decide) c6
  intro r
  induction r with
  | zero =>
    intro k bb w x4 x5 hk _
    obtain rfl : k = 2 ^ sC S 5 := by omega
    rw [bX11_stonesFor_4]
    simp only [bX11_stonesFor_10, bX11_stonesFor_13, bX11_stonesFor_105, tk1_some, tk0_some, tkc_some, tkc_none, ↓reduceIte, mw_3 W, mb_o M, gf_10_10, shl1 c6, Int32.le_refl, if_true, stG]
  | succ r ih =>
    intro k bb w x4 x5 hk hb
    have e1 : ¬ nI (2 ^ sC S 5) ≤ nI k := nI_ge (by omega) (by omega)
    have L := msg_loop W (x1 := .int signs) (x2 := .int bb) (s := nI k) (sC S 5) 0 0 (by omega)
    rw [nI_0] at L
    have st : tE mX11_stonesFor 4 [.ref 70, .int signs, .int bb, .int (nI k), x4, x5] [] h = tE mX11_stonesFor 70 [.ref 70, .int signs, .int bb, .int (nI k), .int (signS (sB S 5) (sC S 5) (nI k)), .int (nI (sC S 5))] [] h := by
      rw [bX11_stonesFor_4]
      simp only [bX11_stonesFor_10, bX11_stonesFor_13, bX11_stonesFor_17, tk1_some, tk0_some, tkc_some, tkc_none, ↓reduceIte, mw_3 W, mb_o M, gf_10_10, shl1 c6, e1, if_false]
      rw [L]; rfl
    rw [st]
    unfold stG
    by_cases z : (signs &&& (signS (sB S 5) (sC S 5) (nI k) ^^^ (-1))) = 0
    · by_cases d : bb = -1
      · rw [if_pos ⟨.inl d, z⟩]
        have d' : (bb = -1) = True := eq_true d
        have e := ih (k + 1) (nI k) (daysS (sB S 5) (sC S 5) (nI k)) (.int (signS (sB S 5) (sC S 5) (nI k))) (.int (nI (sC S 5))) (by omega) (.inr rfl)
        rw [← e]
        simp only [bX11_stonesFor_70, bX11_stonesFor_79, bX11_stonesFor_97, bX11_stonesFor_99, z, not_true, if_false, d', if_true, nI_k1]
      · have ew : w = daysS (sB S 5) (sC S 5) bb := hb.resolve_left d
        by_cases y : daysS (sB S 5) (sC S 5) (nI k) < w
        · rw [if_pos ⟨.inr y, z⟩]
          rw [ew] at y
          have y' : ¬ daysS (sB S 5) (sC S 5) bb ≤ daysS (sB S 5) (sC S 5) (nI k) := Int32.not_le.mpr y
          have e := ih (k + 1) (nI k) (daysS (sB S 5) (sC S 5) (nI k)) (.int (signS (sB S 5) (sC S 5) (nI k))) (.int (nI (sC S 5))) (by omega) (.inr rfl)
          rw [← e]
          simp only [bX11_stonesFor_70, bX11_stonesFor_79, bX11_stonesFor_84, bX11_stonesFor_89, bX11_stonesFor_94, bX11_stonesFor_97, bX11_stonesFor_99, tk1_some, tk0_some, tkc_some, tkc_none, ↓reduceIte, z, not_true, if_false, d, mw_i W, m_days W, y', nI_k1]
        · rw [if_neg (fun q => q.1.elim d y)]
          rw [ew] at y
          have y' : daysS (sB S 5) (sC S 5) bb ≤ daysS (sB S 5) (sC S 5) (nI k) := Int32.not_lt.mp y
          have e := ih (k + 1) bb w (.int (signS (sB S 5) (sC S 5) (nI k))) (.int (nI (sC S 5))) (by omega) hb
          rw [← e]
          simp only [bX11_stonesFor_70, bX11_stonesFor_79, bX11_stonesFor_84, bX11_stonesFor_89, bX11_stonesFor_94, bX11_stonesFor_99, tk1_some, tk0_some, tkc_some, tkc_none, ↓reduceIte, z, not_true, if_false, d, mw_i W, m_days W, y', if_true, nI_k1]
    · rw [if_neg (fun q => z q.2)]
      have e := ih (k + 1) bb w (.int (signS (sB S 5) (sC S 5) (nI k))) (.int (nI (sC S 5))) (by omega) hb
      rw [← e]
      simp only [bX11_stonesFor_70, bX11_stonesFor_99, z, not_false_eq_true, if_true, nI_k1]
theorem m_stF (W : MW h b (sC S) (sB S) nn G nm) {signs : Int32} : tC mX11_stonesFor [.ref 70, .int signs] h = some (h, some (.int (stS (sB S 5) (sC S 5) signs))) := by
  have e := mst_loop W (signs := signs) (2 ^ sC S 5) 0 (-1) 0 tm_U tm_U (by omega) (.inl rfl)
  rw [nI_0] at e
  rw [cX11_stonesFor_, bX11_stonesFor_0, e]; rfl
theorem m_polish (X : MInv h S) (P : PX S) (Q : sBo S = true → PB S) {signs : Int32} : ∃ h', tC mX11_polish [.ref 70, .int signs] h = some (h', some (sShown S signs true).2) ∧ MInv h' (sShown S signs true).1 ∧ FrM h h' := by
  obtain ⟨h1, E1, X1, F1, _, I1⟩ := m_thr X (v := 0)
  unfold sShown
  cases bo : sBo S with
  | false =>
    have bk := (m_bk X1).2 bo
    obtain ⟨h2, X2, F2, _, D2, _⟩ := m_note X1 (t := 1) (by decide)
    refine ⟨h2, ?_, X2, FrM_tr F1 F2⟩
    simp only [cX11_polish_, bX11_polish_0, bX11_polish_5, bX11_polish_9n, bX11_polish_12, bX11_polish_17, tk1_some, tk0_some, tkc_some, tkc_none, ↓reduceIte, E1, bk, I1, D2, Bool.false_eq_true, if_false, sRef]
  | true =>
    obtain ⟨b, nn, G, nm, Z, hm, km, W, _, _, _, _, _, _, _, _, _, bk⟩ := m_see X1 P bo (Q bo)
    cases iv : inB signs 0 255 with
    | false =>
      obtain ⟨h2, X2, F2, _, D2, _⟩ := m_note X1 (t := 2) (by decide)
      refine ⟨h2, ?_, X2, FrM_tr F1 F2⟩
      simp only [cX11_polish_, bX11_polish_0, bX11_polish_5, bX11_polish_9r, bX11_polish_18, bX11_polish_26, bX11_polish_29, bX11_polish_34, tk1_some, tk0_some, tkc_some, tkc_none, ↓reduceIte, E1, bk, m_in, iv, bI_f, not_true, if_false, I1, D2, Bool.false_eq_true, if_true, sRef]
    | true =>
      have st : tC mX11_polish [.ref 70, .int signs] h = tE mX11_polish 40 [.ref 70, .int signs, tm_U] [.int (stS (sB S 5) (sC S 5) signs)] h1 := by
        simp only [cX11_polish_, bX11_polish_0, bX11_polish_5, bX11_polish_9r, bX11_polish_18, bX11_polish_26, bX11_polish_35, tk1_some, tk0_some, tkc_some, tkc_none, ↓reduceIte, E1, bk, m_in, iv, bI_t, show ((1 : Int32) = 0) = False from by decide, not_false_eq_true, if_true, I1, m_stF W]
      rw [st, if_pos rfl, if_pos rfl]
      by_cases d : stS (sB S 5) (sC S 5) signs = -1
      · rw [if_pos d]
        have d' : (stS (sB S 5) (sC S 5) signs = -1) = True := eq_true d
        obtain ⟨h2, X2, F2, _, D2, _⟩ := m_note X1 (t := 6) (by decide)
        refine ⟨h2, ?_, X2, FrM_tr F1 F2⟩
        simp only [bX11_polish_40, bX11_polish_46, bX11_polish_52, bX11_polish_64, tk1_some, tk0_some, tkc_some, tkc_none, ↓reduceIte, d', not_true, if_false, I1, D2, sRef]
      · rw [if_neg d, if_pos rfl]
        obtain ⟨h2, X2, F2, I2, _, _, _, _, D2⟩ := m_note X1 (t := 0) (by decide)
        have D2 := fun v => (D2 rfl v).1
        refine ⟨h2, ?_, X2, FrM_tr F1 F2⟩
        simp only [bX11_polish_40, bX11_polish_55, bX11_polish_61, bX11_polish_64, tk1_some, tk0_some, tkc_some, tkc_none, ↓reduceIte, d, not_false_eq_true, if_true, I1, m_days W, D2, sAns]
theorem m_stones (X : MInv h S) (P : PX S) (Q : sBo S = true → PB S) {signs : Int32} : ∃ h', tC mX11_stones [.ref 70, .int signs] h = some (h', some (sShown S signs false).2) ∧ MInv h' (sShown S signs false).1 ∧ FrM h h' := by
  obtain ⟨h1, E1, X1, F1, _, I1⟩ := m_thr X (v := 0)
  unfold sShown
  cases bo : sBo S with
  | false =>
    have bk := (m_bk X1).2 bo
    obtain ⟨h2, X2, F2, _, D2, _⟩ := m_note X1 (t := 1) (by decide)
    refine ⟨h2, ?_, X2, FrM_tr F1 F2⟩
    simp only [cX11_stones_, bX11_stones_0, bX11_stones_5, bX11_stones_9n, bX11_stones_12, bX11_stones_17, tk1_some, tk0_some, tkc_some, tkc_none, ↓reduceIte, E1, bk, I1, D2, Bool.false_eq_true, if_false, sRef]
  | true =>
    obtain ⟨b, nn, G, nm, Z, hm, km, W, _, _, _, _, _, _, _, _, _, bk⟩ := m_see X1 P bo (Q bo)
    cases iv : inB signs 0 255 with
    | false =>
      obtain ⟨h2, X2, F2, _, D2, _⟩ := m_note X1 (t := 2) (by decide)
      refine ⟨h2, ?_, X2, FrM_tr F1 F2⟩
      simp only [cX11_stones_, bX11_stones_0, bX11_stones_5, bX11_stones_9r, bX11_stones_18, bX11_stones_26, bX11_stones_29, bX11_stones_34, tk1_some, tk0_some, tkc_some, tkc_none, ↓reduceIte, E1, bk, m_in, iv, bI_f, not_true, if_false, I1, D2, Bool.false_eq_true, if_true, sRef]
    | true =>
      have st : tC mX11_stones [.ref 70, .int signs] h = tE mX11_stones 40 [.ref 70, .int signs, tm_U] [.int (stS (sB S 5) (sC S 5) signs)] h1 := by
        simp only [cX11_stones_, bX11_stones_0, bX11_stones_5, bX11_stones_9r, bX11_stones_18, bX11_stones_26, bX11_stones_35, tk1_some, tk0_some, tkc_some, tkc_none, ↓reduceIte, E1, bk, m_in, iv, bI_t, show ((1 : Int32) = 0) = False from by decide, not_false_eq_true, if_true, I1, m_stF W]
      rw [st, if_pos rfl, if_pos rfl]
      by_cases d : stS (sB S 5) (sC S 5) signs = -1
      · rw [if_pos d]
        have d' : (stS (sB S 5) (sC S 5) signs = -1) = True := eq_true d
        obtain ⟨h2, X2, F2, _, D2, _⟩ := m_note X1 (t := 6) (by decide)
        refine ⟨h2, ?_, X2, FrM_tr F1 F2⟩
        simp only [bX11_stones_40, bX11_stones_46, bX11_stones_52, bX11_stones_60, tk1_some, tk0_some, tkc_some, tkc_none, ↓reduceIte, d', not_true, if_false, I1, D2, sRef]
      · rw [if_neg d, if_neg (by decide)]
        obtain ⟨h2, X2, F2, I2, _, _, _, _, D2⟩ := m_note X1 (t := 0) (by decide)
        have D2 := fun v => (D2 rfl v).1
        refine ⟨h2, ?_, X2, FrM_tr F1 F2⟩
        simp only [bX11_stones_40, bX11_stones_55, bX11_stones_60, tk1_some, tk0_some, tkc_some, tkc_none, ↓reduceIte, d, not_false_eq_true, if_true, I1, D2, sAns]
theorem mpr_loop (W : MW h b (sC S) (sB S) nn G nm) {m : Nat} (hm : m < sC S 6) {s : Int32} : ∀ r k p, k + r = 8 → tE mX11_productOf 5 [.ref 70, .int (nI m), .int s, .long p, tm_U, .int (nI k)] [] h = some (h, some (.long (prodG (fun k => sB S 6 (m * 8 + k)) s r k p))) := by
  have M := mw_b W
  have c5 : sC S 6 ≤ 5 := mb_c M (by decide)
  intro r
  induction r with
  | zero =>
    intro k p hk
    obtain rfl : k = 8 := by omega
    rw [bX11_productOf_5, if_pos (show (8 : Int32) ≤ nI 8 from Int32.le_refl _), bX11_productOf_47]; rfl
  | succ r ih =>
    intro k p hk
    have e1 : ¬ (8 : Int32) ≤ nI k := nI_ge (show k < 8 by omega) (by decide)
    have g11 := M.2.2.2.2.2.2.2.2 m k hm (by omega)
    have i8 : 8 * nI m + nI k = nI (8 * m + k) := by rw [show (8 : Int32) = nI 8 from rfl, nI_mul, nI_add]
    have q : tm_ai 0 (h (b + 11)) (nI (8 * m + k)) = some (.int (sB S 6 (m * 8 + k))) := by rw [mb_11 M, tm_ai_in rfl (show 8 * m + k < 40 by omega) (by decide), g11]
    rw [bX11_productOf_5, if_neg e1]
    unfold prodG
    by_cases z : ((s >>> (nI k &&& 31)) &&& 1) = 1
    · rw [if_pos z, ← ih (k + 1) _ (by omega)]
      simp only [bX11_productOf_12, bX11_productOf_22, bX11_productOf_27, bX11_productOf_30, bX11_productOf_38 tm_nl_i, bX11_productOf_41 tm_nl_U, tk1_some, tk0_some, tkc_some, tkc_none, ↓reduceIte, z, not_true, if_false, mw_3 W, mb_o M, gf_10_23, i8, q, nI_k1]
    · rw [if_neg z, ← ih (k + 1) _ (by omega)]
      simp only [bX11_productOf_12, bX11_productOf_41 tm_nl_U, z, not_false_eq_true, if_true, nI_k1]
theorem m_prod (W : MW h b (sC S) (sB S) nn G nm) {m : Nat} (hm : m < sC S 6) {s : Int32} : tC mX11_productOf [.ref 70, .int (nI m), .int s] h = some (h, some (.long (prodS (sB S 6) m s))) := by
  have e := mpr_loop W hm (s := s) 8 0 1 (by omega)
  rw [nI_0] at e
  rw [cX11_productOf_, bX11_productOf_0 tm_nl_i, e]; rfl
theorem mwh_loop (W : MW h b (sC S) (sB S) nn G nm) {signs : Int32} : ∀ r k m, k + r = sC S 6 → m < sC S 6 → ∃ x3, tE mX11_whose 49 [.ref 70, .int signs, .int (nI m), .int (nI k)] [] h = tE mX11_whose 84 [.ref 70, .int signs, .int (likeG (sB S 6) signs r k (nI m) (prodS (sB S 6) m signs)), x3] [] h := by
  have M := mw_b W
  have c5 : sC S 6 ≤ 5 := mb_c M (by decide)
  intro r
  induction r with
  | zero =>
    intro k m hk hm
    obtain rfl : k = sC S 6 := by omega
    refine ⟨.int (nI (sC S 6)), ?_⟩
    rw [bX11_whose_49]
    simp only [bX11_whose_54, bX11_whose_57, tk1_some, tk0_some, tkc_some, tkc_none, ↓reduceIte, mw_3 W, mb_o M, gf_10_11, Int32.le_refl, if_true, likeG]
  | succ r ih =>
    intro k m hk hm
    have e1 : ¬ nI (sC S 6) ≤ nI k := nI_ge (by omega) (by omega)
    have p1 := m_prod W (show k < sC S 6 by omega) (s := signs)
    have p2 := m_prod W hm (s := signs)
    rw [bX11_whose_49]
    unfold likeG
    by_cases z : lg_cmp (prodS (sB S 6) k signs) (prodS (sB S 6) m signs) ≤ 0
    · rw [if_pos z]
      obtain ⟨x3, e⟩ := ih (k + 1) m (by omega) hm
      refine ⟨x3, ?_⟩
      rw [← e]
      simp only [bX11_whose_54, bX11_whose_57, bX11_whose_60, bX11_whose_66, bX11_whose_72, bX11_whose_78, tk1_some, tk0_some, tkc_some, tkc_none, ↓reduceIte, mw_3 W, mb_o M, gf_10_11, e1, if_false, mw_i W, p1, p2, z, if_true, nI_k1]
    · rw [if_neg z]
      obtain ⟨x3, e⟩ := ih (k + 1) k (by omega) (by omega)
      refine ⟨x3, ?_⟩
      rw [← e]
      simp only [bX11_whose_54, bX11_whose_57, bX11_whose_60, bX11_whose_66, bX11_whose_72, bX11_whose_76, bX11_whose_78, tk1_some, tk0_some, tkc_some, tkc_none, ↓reduceIte, mw_3 W, mb_o M, gf_10_11, e1, if_false, mw_i W, p1, p2, z, nI_k1]
/-- signs are told from 1 to 9 -/
def SgR (S : SS) : Prop := ∀ m k, m < sC S 6 → k < 8 → 1 ≤ (sB S 6 (m * 8 + k)).toInt ∧ (sB S 6 (m * 8 + k)).toInt ≤ 9
theorem m_whose (X : MInv h S) (P : PX S) (Q : sBo S = true → PB S) (R : sBo S = true → SgR S) {signs : Int32} : ∃ h', tC mX11_whose [.ref 70, .int signs] h = some (h', some (sWhose S signs).2) ∧ MInv h' (sWhose S signs).1 ∧ FrM h h' := by
  obtain ⟨h1, E1, X1, F1, _, I1⟩ := m_thr X (v := 0)
  unfold sWhose
  cases bo : sBo S with
  | false =>
    have bk := (m_bk X1).2 bo
    obtain ⟨h2, X2, F2, _, D2, _⟩ := m_note X1 (t := 1) (by decide)
    refine ⟨h2, ?_, X2, FrM_tr F1 F2⟩
    simp only [cX11_whose_, bX11_whose_0, bX11_whose_5, bX11_whose_9n, bX11_whose_22, bX11_whose_27, tk1_some, tk0_some, tkc_some, tkc_none, ↓reduceIte, E1, bk, I1, D2, Bool.false_eq_true, if_false, sRef]
  | true =>
    obtain ⟨b, nn, G, nm, Z, hm, km, W, _, _, _, _, _, _, _, _, _, bk⟩ := m_see X1 P bo (Q bo)
    have M := mw_b W
    have c5 : sC S 6 ≤ 5 := mb_c M (by decide)
    have z : (nI (sC S 6) = 0) = (sC S 6 = 0) := propext (nI_eq (b := 0) (by omega) (by decide))
    rw [if_pos rfl]
    by_cases e : sC S 6 = 0
    · rw [if_pos e]
      have z' : (nI (sC S 6) = 0) = True := by rw [z]; exact eq_true e
      obtain ⟨h2, X2, F2, _, D2, _⟩ := m_note X1 (t := 1) (by decide)
      refine ⟨h2, ?_, X2, FrM_tr F1 F2⟩
      simp only [cX11_whose_, bX11_whose_0, bX11_whose_5, bX11_whose_9r, bX11_whose_12, bX11_whose_16, bX11_whose_19, bX11_whose_22, bX11_whose_27, tk1_some, tk0_some, tkc_some, tkc_none, ↓reduceIte, E1, bk, mb_o M, gf_10_11, z', not_true, if_false, I1, D2, sRef]
    · rw [if_neg e]
      have z' : (nI (sC S 6) = 0) = False := by rw [z]; exact eq_false e
      cases iv : inB signs 0 255 with
      | false =>
        obtain ⟨h2, X2, F2, _, D2, _⟩ := m_note X1 (t := 2) (by decide)
        refine ⟨h2, ?_, X2, FrM_tr F1 F2⟩
        simp only [cX11_whose_, bX11_whose_0, bX11_whose_5, bX11_whose_9r, bX11_whose_12, bX11_whose_16, bX11_whose_19, bX11_whose_28, bX11_whose_36, bX11_whose_39, bX11_whose_44, tk1_some, tk0_some, tkc_some, tkc_none, ↓reduceIte, E1, bk, mb_o M, gf_10_11, z', not_false_eq_true, if_true, m_in, iv, bI_f, not_true, if_false, I1, D2, Bool.false_eq_true, sRef]
      | true =>
        rw [if_pos rfl]
        obtain ⟨x3, L⟩ := mwh_loop W (signs := signs) (sC S 6 - 1) 1 0 (by omega) (by omega)
        have pos := prodG_pos (f := fun k => sB S 6 (0 * 8 + k)) (s := signs) (fun j hj => R bo 0 j (by omega) hj) 8 0 1 (by omega) (by decide) (by decide)
        have el : likeG (sB S 6) signs (sC S 6) 0 (-1) 0 = likeG (sB S 6) signs (sC S 6 - 1) 1 (nI 0) (prodS (sB S 6) 0 signs) := by
          conv => lhs; rw [show sC S 6 = (sC S 6 - 1) + 1 by omega]
          rw [likeG, if_neg (by
            rw [lg_cmp_le, Int64.le_iff_toInt_le, Int64.toInt_zero]
            have : 1 ≤ (prodS (sB S 6) 0 signs).toInt := pos
            omega)]
        rw [el]
        obtain ⟨h2, X2, F2, I2, _, _, _, _, D2⟩ := m_note X1 (t := 0) (by decide)
        have D2 := fun v => (D2 rfl v).1
        refine ⟨h2, ?_, X2, FrM_tr F1 F2⟩
        have L' : tE mX11_whose 49 [.ref 70, .int signs, .int 0, .int 1] [] h1 = tE mX11_whose 84 [.ref 70, .int signs, .int (likeG (sB S 6) signs (sC S 6 - 1) 1 (nI 0) (prodS (sB S 6) 0 signs)), x3] [] h1 := L
        simp only [cX11_whose_, bX11_whose_0, bX11_whose_5, bX11_whose_9r, bX11_whose_12, bX11_whose_16, bX11_whose_19, bX11_whose_28, bX11_whose_36, bX11_whose_45, bX11_whose_84, bX11_whose_89, tk1_some, tk0_some, tkc_some, tkc_none, ↓reduceIte, E1, bk, mb_o M, gf_10_11, z', not_false_eq_true, if_true, m_in, iv, bI_t, show ((1 : Int32) = 0) = False from by decide, L', I1, D2, sAns]
theorem mod_loop (W : MW h b (sC S) (sB S) nn G nm) {x1 : Value} {signs : Int32} : ∀ r k a, k + r = sC S 6 → tE mX11_odds 74 [.ref 70, x1, .int signs, .long a, tm_U, .int (nI k)] [] h = some (h, some (.long (allG (sB S 6) signs r k a))) := by
  have M := mw_b W
  have c5 : sC S 6 ≤ 5 := mb_c M (by decide)
  intro r
  induction r with
  | zero =>
    intro k a hk
    obtain rfl : k = sC S 6 := by omega
    rw [bX11_odds_74]
    simp only [bX11_odds_80, bX11_odds_83, bX11_odds_102, tk1_some, tk0_some, tkc_some, tkc_none, ↓reduceIte, mw_3 W, mb_o M, gf_10_11, Int32.le_refl, if_true, allG]
  | succ r ih =>
    intro k a hk
    have e1 : ¬ nI (sC S 6) ≤ nI k := nI_ge (by omega) (by omega)
    have p1 := m_prod W (show k < sC S 6 by omega) (s := signs)
    rw [bX11_odds_74]
    unfold allG
    rw [← ih (k + 1) _ (by omega)]
    simp only [bX11_odds_80, bX11_odds_83, bX11_odds_86, bX11_odds_94 tm_nl_i, tk1_some, tk0_some, tkc_some, tkc_none, ↓reduceIte, mw_3 W, mb_o M, gf_10_11, e1, if_false, mw_i W, p1, nI_k1]
theorem m_odds (X : MInv h S) (P : PX S) (Q : sBo S = true → PB S) {smith signs : Int32} : ∃ h', tC mX11_odds [.ref 70, .int smith, .int signs] h = some (h', some (sOdds S smith signs).2) ∧ MInv h' (sOdds S smith signs).1 ∧ FrM h h' := by
  obtain ⟨h1, E1, X1, F1, _, I1⟩ := m_thr X (v := 0)
  obtain ⟨h2, X2, F2, _, _, _, D2, _⟩ := m_note X1 (t := 1) (by decide)
  unfold sOdds
  cases bo : sBo S with
  | false =>
    have bk := (m_bk X1).2 bo
    refine ⟨h2, ?_, X2, FrM_tr F1 F2⟩
    simp only [cX11_odds_, bX11_odds_0, bX11_odds_5, bX11_odds_9n, bX11_odds_28, bX11_odds_33, tk1_some, tk0_some, tkc_some, tkc_none, ↓reduceIte, E1, bk, I1, D2, Bool.false_eq_true, if_false]
  | true =>
    obtain ⟨b, nn, G, nm, Z, hm, km, W, _, _, _, _, _, _, _, _, _, bk⟩ := m_see X1 P bo (Q bo)
    have M := mw_b W
    have c5 : sC S 6 ≤ 5 := mb_c M (by decide)
    rw [if_pos rfl]
    cases iw : inB smith (-1) (nI (sC S 6) - 1) with
    | false =>
      refine ⟨h2, ?_, X2, FrM_tr F1 F2⟩
      unfold inB at iw
      by_cases d : smith < -1
      · simp only [cX11_odds_, bX11_odds_0, bX11_odds_5, bX11_odds_9r, bX11_odds_12, bX11_odds_28, bX11_odds_33, tk1_some, tk0_some, tkc_some, tkc_none, ↓reduceIte, E1, bk, d, if_true, I1, D2, Bool.false_eq_true, if_false]
      · rw [if_neg d] at iw
        by_cases d2 : nI (sC S 6) - 1 < smith
        · have d3 := (sm1_lt c5).mp d2
          simp only [cX11_odds_, bX11_odds_0, bX11_odds_5, bX11_odds_9r, bX11_odds_12, bX11_odds_17, bX11_odds_22, bX11_odds_25, bX11_odds_28, bX11_odds_33, tk1_some, tk0_some, tkc_some, tkc_none, ↓reduceIte, E1, bk, d, if_false, mb_o M, gf_10_11, d3, I1, D2, Bool.false_eq_true]
        · rw [if_neg d2] at iw; cases iw
    | true =>
      rw [if_pos rfl]
      obtain ⟨r1, r2⟩ := inB_t iw
      have d : ¬ smith < -1 := Int32.not_lt.mpr r1
      have d3 : smith < nI (sC S 6) := by
        by_cases q : smith < nI (sC S 6)
        · exact q
        · exact absurd ((sm1_lt c5).mpr q) (Int32.not_lt.mpr r2)
      cases iv : inB signs 0 255 with
      | false =>
        obtain ⟨h3, X3, F3, _, _, _, D3, _⟩ := m_note X1 (t := 2) (by decide)
        refine ⟨h3, ?_, X3, FrM_tr F1 F3⟩
        simp only [cX11_odds_, bX11_odds_0, bX11_odds_5, bX11_odds_9r, bX11_odds_12, bX11_odds_17, bX11_odds_22, bX11_odds_25, bX11_odds_34, bX11_odds_42, bX11_odds_45, bX11_odds_50, tk1_some, tk0_some, tkc_some, tkc_none, ↓reduceIte, E1, bk, d, if_false, mb_o M, gf_10_11, d3, if_true, m_in, iv, bI_f, not_true, I1, D3, Bool.false_eq_true]
      | true =>
        rw [if_pos rfl]
        obtain ⟨h3, X3, F3, _, _, _, _, _, D3⟩ := m_note X1 (t := 0) (by decide)
        have D3 := (D3 rfl 0).1
        refine ⟨h3, ?_, X3, FrM_tr F1 F3⟩
        obtain ⟨b', nn', G', nm', Z', hm', km', W', _, _, _, _, _, _, _, _, _, bk'⟩ := m_see X3 P bo (Q bo)
        have st : tC mX11_odds [.ref 70, .int smith, .int signs] h = tE mX11_odds 56 [.ref 70, .int smith, .int signs, tm_U, tm_U, tm_U] [.int 0] h3 := by
          simp only [cX11_odds_, bX11_odds_0, bX11_odds_5, bX11_odds_9r, bX11_odds_12, bX11_odds_17, bX11_odds_22, bX11_odds_25, bX11_odds_34, bX11_odds_42, bX11_odds_51, tk1_some, tk0_some, tkc_some, tkc_none, ↓reduceIte, E1, bk, d, if_false, mb_o M, gf_10_11, d3, if_true, m_in, iv, bI_t, show ((1 : Int32) = 0) = False from by decide, not_false_eq_true, I1, D3]
        rw [st, bX11_odds_56]
        by_cases e : smith = -1
        · rw [if_pos e, if_pos e, bX11_odds_69 tm_nl_i]
          have L := mod_loop (S := sTr S 0) W' (x1 := .int smith) (signs := signs) (sC S 6) 0 0 (by show 0 + sC S 6 = sC S 6; omega)
          rw [nI_0] at L
          rw [L]; rfl
        · rw [if_neg e, if_neg e]
          obtain ⟨en, hs⟩ := smith_nat c5 iw e
          have p1 := m_prod (S := sTr S 0) W' (m := iN smith) hs (s := signs)
          rw [← en] at p1
          simp only [bX11_odds_62, bX11_odds_68, tk1_some, tk0_some, tkc_some, tkc_none, ↓reduceIte, mw_i W', p1]
          rfl
end M41
