/-! THE REFERENCE's calls: colour, eye -/
section M40
variable {h0 h : tm_H} {S : SS} {b nn : Nat} {G : Nat → Nat → Int32} {nm : Nat → Int64} {c40 cl : Nat → Int32} {lo hi : Int32}
theorem mcl_loop (W : MW h b (sC S) (sB S) nn G nm) {heat light : Int32} : ∀ r k, k + r = sC S 4 → tE mX11_colourOf 2 [.ref 130, .int heat, .int light, .int (nI k)] [] h = some (h, some (.int (redG (sB S 4) (heat + 15 * light) r k))) := by
  have M := mw_b W
  have c6 : sC S 4 ≤ 6 := mb_c M (by decide)
  have t6 : 6 < 2 ^ 31 := by decide
  intro r
  induction r with
  | zero =>
    intro k hk
    obtain rfl : k = sC S 4 := by omega
    rw [bX11_colourOf_2]
    simp only [bX11_colourOf_7, bX11_colourOf_10, bX11_colourOf_51, tk1_some, tk0_some, tkc_some, tkc_none, ↓reduceIte, mw_3 W, mb_o M, gf_10_9, Int32.le_refl, if_true, redG]
  | succ r ih =>
    intro k hk
    have e1 : ¬ nI (sC S 4) ≤ nI k := nI_ge (by omega) (by omega)
    have e := ih (k + 1) (by omega)
    obtain ⟨g7, g8⟩ := M.2.2.2.2.2.2.1 k (by omega)
    have q7 : tm_ai 0 (h (b + 7)) (nI k) = some (.int (sB S 4 (k * 2))) := by rw [mb_7 M, tm_ai_in rfl (show k < 6 by omega) t6, g7]
    have q8 : tm_ai 0 (h (b + 8)) (nI k) = some (.int (sB S 4 (k * 2 + 1))) := by rw [mb_8 M, tm_ai_in rfl (show k < 6 by omega) t6, g8]
    have st : tE mX11_colourOf 2 [.ref 130, .int heat, .int light, .int (nI k)] [] h = tE mX11_colourOf 40 [.ref 130, .int heat, .int light, .int (nI k)] [.int (bI (inB (heat + 15 * light) (sB S 4 (k * 2)) (sB S 4 (k * 2 + 1))))] h := by
      rw [bX11_colourOf_2]
      simp only [bX11_colourOf_7, bX11_colourOf_10, bX11_colourOf_13, bX11_colourOf_23, bX11_colourOf_26, bX11_colourOf_28, bX11_colourOf_32, bX11_colourOf_35, bX11_colourOf_37, tk1_some, tk0_some, tkc_some, tkc_none, ↓reduceIte, mw_3 W, mb_o M, gf_10_9, gf_10_19, gf_10_20, e1, if_false, q7, q8, m_in]
    rw [st]
    unfold redG inB
    by_cases z : heat + 15 * light < sB S 4 (k * 2)
    · rw [if_pos z, if_pos z, bI_f, bX11_colourOf_40, if_pos rfl, bX11_colourOf_45, nI_k1, e]
    · rw [if_neg z, if_neg z]
      by_cases y : sB S 4 (k * 2 + 1) < heat + 15 * light
      · rw [if_pos y, if_pos y, bI_f, bX11_colourOf_40, if_pos rfl, bX11_colourOf_45, nI_k1, e]
      · rw [if_neg y, if_neg y, bI_t, bX11_colourOf_40, if_neg (by decide), bX11_colourOf_43]
theorem m_colOf (W : MW h b (sC S) (sB S) nn G nm) {heat light : Int32} : tC mX11_colourOf [.ref 130, .int heat, .int light] h = some (h, some (.int (redS (sB S 4) (sC S 4) heat light))) := by
  have e := mcl_loop W (heat := heat) (light := light) (sC S 4) 0 (by omega)
  rw [nI_0] at e
  rw [cX11_colourOf_, bX11_colourOf_0, e]; rfl
theorem m_colour (X : MInv h S) (P : PX S) (Q : sBo S = true → PB S) {heat light : Int32} : ∃ h', tC mX11_colour [.ref 130, .int heat, .int light] h = some (h', some (sCol S heat light).2) ∧ MInv h' (sCol S heat light).1 ∧ FrM h h' := by
  obtain ⟨h1, E1, X1, F1, _, I1⟩ := m_thr X (v := 0)
  unfold sCol colC
  cases bo : sBo S with
  | false =>
    have bk := (m_bk X1).2 bo
    obtain ⟨h2, X2, F2, _, D2, _⟩ := m_note X1 (t := 1) (by decide)
    refine ⟨h2, ?_, X2, FrM_tr F1 F2⟩
    simp only [cX11_colour_, bX11_colour_0, bX11_colour_5, bX11_colour_9n, bX11_colour_12, bX11_colour_17, tk1_some, tk0_some, tkc_some, tkc_none, ↓reduceIte, E1, bk, I1, D2, Bool.false_eq_true, if_false, sRef]
  | true =>
    obtain ⟨b, nn, G, nm, Z, hm, km, W, _, _, _, _, _, _, _, _, _, bk⟩ := m_see X1 P bo (Q bo)
    cases i1 : inB heat 0 999 with
    | false =>
      obtain ⟨h2, X2, F2, _, D2, _⟩ := m_note X1 (t := 2) (by decide)
      refine ⟨h2, ?_, X2, FrM_tr F1 F2⟩
      simp only [cX11_colour_, bX11_colour_0, bX11_colour_5, bX11_colour_9r, bX11_colour_18, bX11_colour_26, bX11_colour_51, bX11_colour_56, tk1_some, tk0_some, tkc_some, tkc_none, ↓reduceIte, E1, bk, m_in, i1, bI_f, if_false, I1, D2, Bool.false_eq_true, if_true, sRef]
    | true =>
      cases i2 : inB light 0 3 with
      | false =>
        obtain ⟨h2, X2, F2, _, D2, _⟩ := m_note X1 (t := 2) (by decide)
        refine ⟨h2, ?_, X2, FrM_tr F1 F2⟩
        simp only [cX11_colour_, bX11_colour_0, bX11_colour_5, bX11_colour_9r, bX11_colour_18, bX11_colour_26, bX11_colour_29, bX11_colour_35, bX11_colour_51, bX11_colour_56, tk1_some, tk0_some, tkc_some, tkc_none, ↓reduceIte, E1, bk, m_in, i1, i2, bI_f, bI_t, show ((1 : Int32) = 0) = False from by decide, if_false, I1, D2, Bool.false_eq_true, if_true, sRef]
      | true =>
        obtain ⟨h2, X2, F2, I2, _, _, _, _, D2⟩ := m_note X1 (t := 0) (by decide)
        have D2 := fun v => (D2 rfl v).1
        refine ⟨h2, ?_, X2, FrM_tr F1 F2⟩
        simp only [cX11_colour_, bX11_colour_0, bX11_colour_5, bX11_colour_9r, bX11_colour_18, bX11_colour_26, bX11_colour_29, bX11_colour_35, bX11_colour_38, bX11_colour_45, bX11_colour_48, bX11_colour_56, tk1_some, tk0_some, tkc_some, tkc_none, ↓reduceIte, E1, bk, m_in, i1, i2, bI_t, show ((1 : Int32) = 0) = False from by decide, if_false, I1, m_colOf W, D2, if_true, sAns]
/-- what counts by eye -/
def eyeG (S : SS) (colour light what width hard v : Int32) : Bool :=
  if what = 0 then decide (redS (sB S 4) (sC S 4) v light = colour) else if what = 1 then eyeF (sC S) (sB S) (widS S) (sqW S) (opnS (sB S 1 2) (cfS S) (-1)) colour light (sB S 1 0) v else clouF (sC S) (sB S) (widS S) (sqW S) (opnS (sB S 1 2) (cfS S) (-1)) colour light (sB S 1 0) width hard v
theorem mey_step (T0 : MT0 h0 S b nn G nm c40 lo hi) (T : TT h0 h cl) (eo : ∀ j, j < widS S → opnS (sB S 1 2) (cfS S) (-1) j = opS (sB S 1 2) (cl j)) {colour light what width hard n v : Int32} {x8 : Value} (wt : inB what 0 2 = true) : ∃ h' y8, tE mX11_eye 105 [.ref 130, .int colour, .int light, .int what, .int width, .int hard, .int n, .int v, x8] [] h = tE mX11_eye 190 [.ref 130, .int colour, .int light, .int what, .int width, .int hard, .int (if eyeG S colour light what width hard v = true then n + 1 else n), .int v, y8] [] h' ∧ TT h0 h' cl := by
  obtain ⟨W, o, _⟩ := mt_W T0 T
  have M := mw_b W
  have hw : widS S ≤ 5 := T0.2.2.2.2.2.2.2.2.2.1
  have ew : sB S 0 1 = nI (widS S) := T0.2.2.2.2.2.2.2.2.2.2
  by_cases z : redS (sB S 4) (sC S 4) v light = colour
  · have s1 : tE mX11_eye 105 [.ref 130, .int colour, .int light, .int what, .int width, .int hard, .int n, .int v, x8] [] h = tE mX11_eye 119 [.ref 130, .int colour, .int light, .int what, .int width, .int hard, .int n, .int v, x8] [] h := by
      simp only [bX11_eye_105, bX11_eye_112, tk1_some, tk0_some, tkc_some, tkc_none, ↓reduceIte, mw_i W, m_colOf W, z, if_true]
    rw [s1]
    by_cases w0 : what = 0
    · refine ⟨h, x8, ?_, T⟩
      have w0' : (what = 0) = True := eq_true w0
      have eg : eyeG S colour light what width hard v = true := by unfold eyeG; rw [if_pos w0]; exact decide_eq_true z
      rw [eg, if_pos rfl]
      simp only [bX11_eye_119, bX11_eye_123, w0', not_true, if_false]
    · obtain ⟨h1, km1, P1, T1, k1, E1⟩ := mt_try T0 T eo (heat := v) (water := sB S 1 0)
      obtain ⟨W1, o1, _⟩ := mt_W T0 T1
      have g29 : tm_gf (h1 130) 11 29 = some (.ref 139) := by rw [o1]; exact T0.2.2.2.2.1
      have c5 : sC S 2 ≤ 5 := mb_c M (by decide)
      have Q := KOk_trK T0.1 c5 hw (sq := sqW S) (water := sB S 1 0) (opn := opnS (sB S 1 2) (cfS S) (-1)) (heat := v)
      have PC := mcloud W1 k1 (by decide) (cuts := 1) (fun i j hi hj => (by omega : i * 5 + j < 5)) (fun i j hi hj => by
        obtain ⟨kd, x, y⟩ := Q i j hi hj
        exact ⟨kd, x, (E1 i j hi hj).trans y⟩) ew hw (i := 0) (by decide) (hard := hard)
      rw [nI_0, cloudG_c (kg := (trK (sC S) (sB S) (widS S) (sqW S) (opnS (sB S 1 2) (cfS S) (-1)) v (sB S 1 0)).1 2) (fun j hj => E1 0 j (by decide) hj) (widS S) 0 (by omega)] at PC
      refine ⟨h1, .int (bI (crkW (sC S) (sB S) (widS S) (sqW S) (opnS (sB S 1 2) (cfS S) (-1)) v (sB S 1 0))), ?_, T1⟩
      by_cases w1 : what = 1
      · have w1' : (what = 1) = True := eq_true w1
        have n2 : (what = 2) = False := eq_false (by rw [w1]; decide)
        have eg : eyeG S colour light what width hard v = crkW (sC S) (sB S) (widS S) (sqW S) (opnS (sB S 1 2) (cfS S) (-1)) v (sB S 1 0) := by
          unfold eyeG eyeF; rw [if_neg w0, if_pos w1, decide_eq_true z, Bool.true_and]
        rw [eg]
        cases c : crkW (sC S) (sB S) (widS S) (sqW S) (opnS (sB S 1 2) (cfS S) (-1)) v (sB S 1 0) with
        | true =>
          rw [c, bI_t] at P1
          simp only [bX11_eye_119, bX11_eye_129, bX11_eye_136, bX11_eye_139, bX11_eye_142, bX11_eye_151, bX11_eye_182, bX11_eye_187, tk1_some, tk0_some, tkc_some, tkc_none, ↓reduceIte, w0, not_false_eq_true, if_true, mw_3 W, mb_o M, gf_10_2, mw_i W, P1, w1', not_true, if_false, show ((1 : Int32) = 0) = False from by decide, bI_t]
        | false =>
          rw [c, bI_f] at P1
          simp only [bX11_eye_119, bX11_eye_129, bX11_eye_136, bX11_eye_139, bX11_eye_142, bX11_eye_151, bX11_eye_156, bX11_eye_186, bX11_eye_187, tk1_some, tk0_some, tkc_some, tkc_none, ↓reduceIte, w0, not_false_eq_true, if_true, mw_3 W, mb_o M, gf_10_2, mw_i W, P1, w1', n2, not_true, if_false, bI_f, Bool.false_eq_true, Int32.add_zero]
      · have w2 : what = 2 := by
          obtain ⟨k, hk, rfl⟩ := inB_nk (hi := 2) (by decide) wt
          have : k = 2 := by
            rcases (show k = 0 ∨ k = 1 ∨ k = 2 by omega) with rfl | rfl | rfl
            · exact absurd rfl w0
            · exact absurd rfl w1
            · rfl
          rw [this]; rfl
        have w2' : (what = 2) = True := eq_true w2
        have eg : eyeG S colour light what width hard v = (if crkW (sC S) (sB S) (widS S) (sqW S) (opnS (sB S 1 2) (cfS S) (-1)) v (sB S 1 0) = true then false else decide (nI (cloudG (sB S 2) ((trK (sC S) (sB S) (widS S) (sqW S) (opnS (sB S 1 2) (cfS S) (-1)) v (sB S 1 0)).1 2) hard 0 (widS S) 0) = width)) := by
          unfold eyeG clouF; rw [if_neg w0, if_neg w1, if_pos z]
        rw [eg]
        cases c : crkW (sC S) (sB S) (widS S) (sqW S) (opnS (sB S 1 2) (cfS S) (-1)) v (sB S 1 0) with
        | true =>
          rw [c, bI_t] at P1
          simp only [bX11_eye_119, bX11_eye_129, bX11_eye_136, bX11_eye_139, bX11_eye_142, bX11_eye_156, bX11_eye_161, bX11_eye_186, bX11_eye_187, tk1_some, tk0_some, tkc_some, tkc_none, ↓reduceIte, w0, not_false_eq_true, if_true, mw_3 W, mb_o M, gf_10_2, mw_i W, P1, w1, w2', not_true, if_false, show ((1 : Int32) = 0) = False from by decide, bI_t, Bool.false_eq_true, Int32.add_zero]
        | false =>
          rw [c, bI_f] at P1
          by_cases d : nI (cloudG (sB S 2) ((trK (sC S) (sB S) (widS S) (sqW S) (opnS (sB S 1 2) (cfS S) (-1)) v (sB S 1 0)).1 2) hard 0 (widS S) 0) = width
          · simp only [bX11_eye_119, bX11_eye_129, bX11_eye_136, bX11_eye_139, bX11_eye_142, bX11_eye_156, bX11_eye_161, bX11_eye_166, bX11_eye_171, bX11_eye_177, bX11_eye_182, bX11_eye_187, tk1_some, tk0_some, tkc_some, tkc_none, ↓reduceIte, w0, not_false_eq_true, if_true, mw_3 W, mb_o M, gf_10_2, mw_i W, mw_i W1, P1, w1, w2', not_true, if_false, bI_f, Bool.false_eq_true, g29, PC, d, decide_true]
          · simp only [bX11_eye_119, bX11_eye_129, bX11_eye_136, bX11_eye_139, bX11_eye_142, bX11_eye_156, bX11_eye_161, bX11_eye_166, bX11_eye_171, bX11_eye_177, bX11_eye_186, bX11_eye_187, tk1_some, tk0_some, tkc_some, tkc_none, ↓reduceIte, w0, not_false_eq_true, if_true, mw_3 W, mb_o M, gf_10_2, mw_i W, mw_i W1, P1, w1, w2', not_true, if_false, bI_f, Bool.false_eq_true, g29, PC, d, decide_false, Int32.add_zero]
  · refine ⟨h, x8, ?_, T⟩
    have eg : eyeG S colour light what width hard v = false := by
      unfold eyeG eyeF clouF
      rw [decide_eq_false z, Bool.false_and, if_neg z, ite_self, ite_self]
    rw [eg, if_neg (by decide)]
    simp only [bX11_eye_105, bX11_eye_112, bX11_eye_116, tk1_some, tk0_some, tkc_some, tkc_none, ↓reduceIte, mw_i W, m_colOf W, z, if_false]
theorem mey_loop (T0 : MT0 h0 S b nn G nm c40 lo hi) (eo : ∀ j, j < widS S → opnS (sB S 1 2) (cfS S) (-1) j = opS (sB S 1 2) (cl j)) {colour light what width hard : Int32} (wt : inB what 0 2 = true) : ∀ r k n h x8, TT h0 h cl → k + r = 1000 → ∃ h' y8, tE mX11_eye 97 [.ref 130, .int colour, .int light, .int what, .int width, .int hard, .int n, .int (nI k), x8] [] h = tE mX11_eye 196 [.ref 130, .int colour, .int light, .int what, .int width, .int hard, .int (cnF (eyeG S colour light what width hard) r k n), .int (nI 1000), y8] [] h' ∧ TT h0 h' cl := by
  intro r
  induction r with
  | zero =>
    intro k n h x8 T hk
    obtain rfl : k = 1000 := by omega
    exact ⟨h, x8, by rw [bX11_eye_97, if_pos (show (999 : Int32) < nI 1000 by decide)]; rfl, T⟩
  | succ r ih =>
    intro k n h x8 T hk
    obtain ⟨h1, y1, P1, T1⟩ := mey_step T0 T eo (colour := colour) (light := light) (what := what) (width := width) (hard := hard) (n := n) (v := nI k) (x8 := x8) wt
    obtain ⟨h2, y2, P2, T2⟩ := ih (k + 1) _ h1 y1 T1 (by omega)
    refine ⟨h2, y2, ?_, T2⟩
    rw [bX11_eye_97, if_neg (lt999 (show k < 1000 by omega)), P1, bX11_eye_190, nI_k1, P2]
    rfl
theorem m_eye (X : MInv h S) (P : PX S) (Q : sBo S = true → PB S) {colour light what width hard : Int32} : ∃ h', tC mX11_eye [.ref 130, .int colour, .int light, .int what, .int width, .int hard] h = some (h', some (sEye S colour light what width hard).2) ∧ MInv h' (sEye S colour light what width hard).1 ∧ FrM h h' := by
  obtain ⟨h1, E1, X1, F1, _, I1⟩ := m_thr X (v := 0)
  obtain ⟨h2, X2, F2, _, D2, _⟩ := m_note X1 (t := 1) (by decide)
  obtain ⟨h3, X3, F3, _, D3, _⟩ := m_note X1 (t := 2) (by decide)
  unfold sEye
  cases bo : sBo S with
  | false =>
    have bk := (m_bk X1).2 bo
    have ec : eyeC S colour what = false := by unfold eyeC; rw [bo]; rfl
    rw [ec, if_neg (by decide)]
    refine ⟨h2, ?_, X2, FrM_tr F1 F2⟩
    simp only [cX11_eye_, bX11_eye_0, bX11_eye_5, bX11_eye_9n, bX11_eye_38, bX11_eye_43, tk1_some, tk0_some, tkc_some, tkc_none, ↓reduceIte, E1, bk, I1, D2, sRef]
  | true =>
    obtain ⟨b, nn, G, nm, c40, lo, hi, cl, T0, T⟩ := m_tri X1 P bo (Q bo)
    obtain ⟨W, o, _⟩ := mt_W T0 T
    have M := mw_b W
    have bk := mw_3 W
    have ew : sB S 0 1 = nI (widS S) := T0.2.2.2.2.2.2.2.2.2.2
    have ec : eyeC S colour what = (if inB colour 0 (nI (sC S 4) - 1) = true then inB what 0 2 else false) := by unfold eyeC; rw [bo]; rfl
    rw [ec]
    cases i1 : inB colour 0 (nI (sC S 4) - 1) with
    | false =>
      simp only [Bool.false_eq_true, if_false]
      refine ⟨h2, ?_, X2, FrM_tr F1 F2⟩
      simp only [cX11_eye_, bX11_eye_0, bX11_eye_5, bX11_eye_9r, bX11_eye_12, bX11_eye_18, bX11_eye_21, bX11_eye_26, bX11_eye_38, bX11_eye_43, tk1_some, tk0_some, tkc_some, tkc_none, ↓reduceIte, E1, bk, mb_o M, gf_10_9, m_in, i1, bI_f, if_true, I1, D2, sRef]
    | true =>
      rw [if_pos rfl]
      cases wt : inB what 0 2 with
      | false =>
        rw [if_neg (by decide)]
        refine ⟨h2, ?_, X2, FrM_tr F1 F2⟩
        simp only [cX11_eye_, bX11_eye_0, bX11_eye_5, bX11_eye_9r, bX11_eye_12, bX11_eye_18, bX11_eye_21, bX11_eye_26, bX11_eye_29, bX11_eye_35, bX11_eye_38, bX11_eye_43, tk1_some, tk0_some, tkc_some, tkc_none, ↓reduceIte, E1, bk, mb_o M, gf_10_9, m_in, i1, wt, bI_f, bI_t, show ((1 : Int32) = 0) = False from by decide, not_true, if_true, if_false, I1, D2, sRef]
      | true =>
        rw [if_pos rfl]
        have st : tC mX11_eye [.ref 130, .int colour, .int light, .int what, .int width, .int hard] h = tE mX11_eye 44 [.ref 130, .int colour, .int light, .int what, .int width, .int hard, tm_U, tm_U, tm_U] [] h1 := by
          simp only [cX11_eye_, bX11_eye_0, bX11_eye_5, bX11_eye_9r, bX11_eye_12, bX11_eye_18, bX11_eye_21, bX11_eye_26, bX11_eye_29, bX11_eye_35, tk1_some, tk0_some, tkc_some, tkc_none, ↓reduceIte, E1, bk, mb_o M, gf_10_9, m_in, i1, wt, bI_t, show ((1 : Int32) = 0) = False from by decide, not_false_eq_true, if_true, if_false]
        rw [st]
        unfold eyeD
        cases j1 : inB light 0 3 with
        | false =>
          simp only [Bool.false_eq_true, if_false]
          refine ⟨h3, ?_, X3, FrM_tr F1 F3⟩
          simp only [bX11_eye_44, bX11_eye_50, bX11_eye_80, bX11_eye_85, tk1_some, tk0_some, tkc_some, tkc_none, ↓reduceIte, m_in, j1, bI_f, if_true, I1, D3, sRef]
        | true =>
          rw [if_pos rfl]
          cases j2 : inB width 0 (nI (widS S)) with
          | false =>
            simp only [Bool.false_eq_true, if_false]
            refine ⟨h3, ?_, X3, FrM_tr F1 F3⟩
            simp only [bX11_eye_44, bX11_eye_50, bX11_eye_53, bX11_eye_60, bX11_eye_63, bX11_eye_66, bX11_eye_80, bX11_eye_85, tk1_some, tk0_some, tkc_some, tkc_none, ↓reduceIte, m_in, j1, bk, mb_o M, gf_10_1, ew, j2, bI_f, bI_t, show ((1 : Int32) = 0) = False from by decide, if_true, if_false, I1, D3, sRef]
          | true =>
            rw [if_pos rfl]
            cases j3 : inB hard 0 99 with
            | false =>
              rw [if_neg (by decide)]
              refine ⟨h3, ?_, X3, FrM_tr F1 F3⟩
              simp only [bX11_eye_44, bX11_eye_50, bX11_eye_53, bX11_eye_60, bX11_eye_63, bX11_eye_66, bX11_eye_69, bX11_eye_77, bX11_eye_80, bX11_eye_85, tk1_some, tk0_some, tkc_some, tkc_none, ↓reduceIte, m_in, j1, bk, mb_o M, gf_10_1, ew, j2, j3, bI_f, bI_t, show ((1 : Int32) = 0) = False from by decide, not_true, if_true, if_false, I1, D3, sRef]
            | true =>
              rw [if_pos rfl]
              obtain ⟨h4, cl4, P4, T4, D4⟩ := mt_clays T0 T (more := 0)
              obtain ⟨h5, y5, P5, T5⟩ := mey_loop (cl := cl4) T0 (fun j hj => by rw [D4 j hj]; rfl) (colour := colour) (light := light) (width := width) (hard := hard) wt 1000 0 0 h4 tm_U T4 (by omega)
              rw [nI_0] at P5
              obtain ⟨X5, F5⟩ := m_triP X1 T5
              obtain ⟨h6, X6, F6, I6, _, _, _, _, D6⟩ := m_note X5 (t := 0) (by decide)
              have D6 := fun v => (D6 rfl v).1
              have eS : (if what = 0 then sAns S (cnF (fun v => decide (redS (sB S 4) (sC S 4) v light = colour)) 1000 0 0) else if what = 1 then sAns S (cnF (eyeF (sC S) (sB S) (widS S) (sqW S) (opnS (sB S 1 2) (cfS S) (-1)) colour light (sB S 1 0)) 1000 0 0) else sAns S (cnF (clouF (sC S) (sB S) (widS S) (sqW S) (opnS (sB S 1 2) (cfS S) (-1)) colour light (sB S 1 0) width hard) 1000 0 0)) = sAns S (cnF (eyeG S colour light what width hard) 1000 0 0) := by
                by_cases w0 : what = 0
                · rw [if_pos w0, show eyeG S colour light what width hard = (fun v => decide (redS (sB S 4) (sC S 4) v light = colour)) from funext (fun v => by unfold eyeG; rw [if_pos w0])]
                · rw [if_neg w0]
                  by_cases w1 : what = 1
                  · rw [if_pos w1, show eyeG S colour light what width hard = eyeF (sC S) (sB S) (widS S) (sqW S) (opnS (sB S 1 2) (cfS S) (-1)) colour light (sB S 1 0) from funext (fun v => by unfold eyeG; rw [if_neg w0, if_pos w1])]
                  · rw [if_neg w1, show eyeG S colour light what width hard = clouF (sC S) (sB S) (widS S) (sqW S) (opnS (sB S 1 2) (cfS S) (-1)) colour light (sB S 1 0) width hard from funext (fun v => by unfold eyeG; rw [if_neg w0, if_neg w1])]
              rw [eS]
              refine ⟨h6, ?_, X6, FrM_tr F1 (FrM_tr F5 F6)⟩
              simp only [bX11_eye_44, bX11_eye_50, bX11_eye_53, bX11_eye_60, bX11_eye_63, bX11_eye_66, bX11_eye_69, bX11_eye_77, bX11_eye_86, bX11_eye_91, bX11_eye_196, bX11_eye_202, tk1_some, tk0_some, tkc_some, tkc_none, ↓reduceIte, m_in, j1, bk, mb_o M, gf_10_1, ew, j2, j3, bI_t, show ((1 : Int32) = 0) = False from by decide, not_false_eq_true, if_true, if_false, I1, P4, P5, I6, D6, sAns]
end M40
