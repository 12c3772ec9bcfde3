/-! THE CLASS'S CALLS: feed, eye, size -/
def byS (v sh : Int32) : Int32 := vp_nar .byte (v.toUInt32 >>> (sh.toUInt32 &&& Int32.toUInt32 31)).toInt32.toInt8.toInt32
def sTape (S : SS) (tp : Nat → Int32) (n : Nat) : SS := ((tp, n), S.2)
def sPut1 (S : SS) (v sh : Int32) : SS := sTape S (upd (sTp S) (sN S) (byS v sh)) (sN S + 1)
def sPut4 (S : SS) (v : Int32) : SS := sPut1 (sPut1 (sPut1 (sPut1 S v 24) v 16) v 8) v 0
section XF
variable {h : tm_H} {S : SS}
theorem x_put1 (X : XInv h S) (hn : sN S < 700) {v sh : Int32} (hs : ¬ sh < 0) : ∃ h', tE mX9_putNumber 3 [.ref 1, .int v, .int sh] [] h = tE mX9_putNumber 3 [.ref 1, .int v, .int (sh + (-8))] [] h' ∧ XInv h' (sPut1 S v sh) ∧ FrX h h' := by
  obtain ⟨told, spare, ts, O, T2, R, K, Ba, Tr, Bi, Bl⟩ := X
  have E : ∀ k, k ≠ 1 → k ≠ 2 → tm_up (tm_up h 2 (aB 700 (upd (sTp S) (sN S) (byS v sh)))) 1 (xO told spare (sBo S) (sN S + 1) (sF S) (sT S)) k = h k := fun k a b => by rw [tm_up_ne a, tm_up_ne b]
  refine ⟨tm_up (tm_up h 2 (aB 700 (upd (sTp S) (sN S) (byS v sh)))) 1 (xO told spare (sBo S) (sN S + 1) (sF S) (sT S)), ?_, ⟨told, spare, ts, tm_up_same, by rw [tm_up_ne (by decide), tm_up_same]; rfl, XRd_c (fun k hk => E k (by omega) (by omega)) R, XBks_c ts (fun k h1 h2 => E k (by omega) (by omega)) K, XBar_c (fun k h1 h2 => E k (by omega) (by omega)) Ba, XTri_c (fun k hk => E k (by omega) (by omega)) Tr, XBil_c (fun k h1 h2 => E k (by omega) (by omega)) Bi, XBla_c (fun k h1 h2 => E k (by omega) (by omega)) Bl⟩, fun k hk => E k (by omega) (by omega)⟩
  have e1 : ¬ nI 700 ≤ nI (sN S) := nI_ge hn (by decide)
  have st : tm_si 1 h 2 (nI (sN S)) (byS v sh) = some (tm_up h 2 (aB 700 (upd (sTp S) (sN S) (byS v sh)))) := by rw [tm_si_eq, T2, tm_sa_in rfl hn (by decide), Option.map_some]
  unfold byS at st
  have O2 : tm_up h 2 (aB 700 (upd (sTp S) (sN S) (vp_nar .byte (v.toUInt32 >>> (sh.toUInt32 &&& Int32.toUInt32 31)).toInt32.toInt8.toInt32))) 1 = xO told spare (sBo S) (sN S) (sF S) (sT S) := by rw [tm_up_ne (by decide)]; exact O
  rw [bX9_putNumber_3]
  simp only [bX9_putNumber_7, bX9_putNumber_11, bX9_putNumber_15, bX9_putNumber_16, bX9_putNumber_19, bX9_putNumber_23, bX9_putNumber_27, bX9_putNumber_32, bX9_putNumber_37, bX9_putNumber_42, tk1_some, tk0_some, tkc_some, tkc_none, ↓reduceIte, hs, O, gf_9_9, gf_9_0, T2, tm_al_i (show 1 < 3 by decide), e1, st, O2, tm_pf_eq, ps_9_9, Option.map_some, nI_k1, byS, if_false]
theorem x_put4 (X : XInv h S) (hn : sN S + 4 ≤ 700) {v : Int32} : ∃ h', tC mX9_putNumber [.ref 1, .int v] h = some (h', none) ∧ XInv h' (sPut4 S v) ∧ FrX h h' := by
  obtain ⟨h1, P1, X1, F1⟩ := x_put1 X (by omega) (v := v) (sh := 24) (by decide)
  obtain ⟨h2, P2, X2, F2⟩ := x_put1 X1 (by show sN S + 1 < 700; omega) (v := v) (sh := 16) (by decide)
  obtain ⟨h3, P3, X3, F3⟩ := x_put1 X2 (by show sN S + 1 + 1 < 700; omega) (v := v) (sh := 8) (by decide)
  obtain ⟨h4, P4, X4, F4⟩ := x_put1 X3 (by show sN S + 1 + 1 + 1 < 700; omega) (v := v) (sh := 0) (by decide)
  rw [show (24 : Int32) + (-8) = 16 by decide] at P1
  rw [show (16 : Int32) + (-8) = 8 by decide] at P2
  rw [show (8 : Int32) + (-8) = 0 by decide] at P3
  rw [show (0 : Int32) + (-8) = -8 by decide] at P4
  refine ⟨h4, ?_, X4, FrX_tr F1 (FrX_tr F2 (FrX_tr F3 F4))⟩
  rw [cX9_putNumber_, bX9_putNumber_0, P1, P2, P3, P4, bX9_putNumber_3, if_pos (by decide), bX9_putNumber_48]
def sFeed (S : SS) (a b c d e : Int32) : SS × Value :=
  if sN S + 20 ≤ 700 then (sPut4 (sPut4 (sPut4 (sPut4 (sPut4 S a) b) c) d) e, .int (nI (sN S + 20))) else (S, .int (-1))
theorem x_feed (X : XInv h S) (P : PX S) {a b c d e : Int32} : ∃ h', tC mX9_feed [.ref 1, .int a, .int b, .int c, .int d, .int e] h = some (h', some (sFeed S a b c d e).2) ∧ XInv h' (sFeed S a b c d e).1 ∧ FrX h h' := by
  have hn := P.1
  have e20 : nI (sN S) + 20 = nI (sN S + 20) := nI_add _ 20
  unfold sFeed
  by_cases l : sN S + 20 ≤ 700
  · rw [if_pos l]
    have l' : nI (sN S + 20) ≤ 700 := (nI_leI (by omega) (show 700 < 2 ^ 31 by decide)).mpr l
    obtain ⟨h1, P1, X1, F1⟩ := x_put4 X (by omega) (v := a)
    obtain ⟨h2, P2, X2, F2⟩ := x_put4 X1 (by show sN S + 4 + 4 ≤ 700; omega) (v := b)
    obtain ⟨h3, P3, X3, F3⟩ := x_put4 X2 (by show sN S + 8 + 4 ≤ 700; omega) (v := c)
    obtain ⟨h4, P4, X4, F4⟩ := x_put4 X3 (by show sN S + 12 + 4 ≤ 700; omega) (v := d)
    obtain ⟨h5, P5, X5, F5⟩ := x_put4 X4 (by show sN S + 16 + 4 ≤ 700; omega) (v := e)
    have g := x_g9 X5
    rw [show sN (sPut4 (sPut4 (sPut4 (sPut4 (sPut4 S a) b) c) d) e) = sN S + 20 from rfl] at g
    refine ⟨h5, ?_, X5, FrX_tr F1 (FrX_tr F2 (FrX_tr F3 (FrX_tr F4 F5)))⟩
    simp only [cX9_feed_, bX9_feed_0, bX9_feed_4, bX9_feed_13, bX9_feed_15, bX9_feed_20, bX9_feed_25, bX9_feed_30, bX9_feed_36, bX9_feed_42, bX9_feed_46, tk1_some, tk0_some, tkc_some, tkc_none, ↓reduceIte, x_g9 X, e20, l', x_is X, x_is X1, x_is X2, x_is X3, x_is X4, P1, P2, P3, P4, P5, g, if_true]
  · rw [if_neg l]
    have l' : ¬ nI (sN S + 20) ≤ 700 := nI_ge (show 700 < sN S + 20 by omega) (by omega)
    refine ⟨h, ?_, X, FrX_rf h⟩
    simp only [cX9_feed_, bX9_feed_0, bX9_feed_4, bX9_feed_13, bX9_feed_15, bX9_feed_20, bX9_feed_25, bX9_feed_30, bX9_feed_36, bX9_feed_42, bX9_feed_46, tk1_some, tk0_some, tkc_some, tkc_none, ↓reduceIte, x_g9 X, e20, l', if_false]
def eyeC (S : SS) (colour what : Int32) : Bool := if sBo S = true then (if inB colour 0 (nI (sC S 4) - 1) = true then inB what 0 2 else false) else false
def eyeD (S : SS) (light width hard : Int32) : Bool := if inB light 0 3 = true then (if inB width 0 (nI (widS S)) = true then inB hard 0 99 else false) else false
def sEye (S : SS) (colour light what width hard : Int32) : SS × Value :=
  if eyeC S colour what = true then (if eyeD S light width hard = true then (if what = 0 then sAns S (cnF (fun v => decide (redS (sB S 4) (sC S 4) v light = colour)) 1000 0 0) else if what = 1 then sAns S (cnF (eyeF (sC S) (sB S) (widS S) (sqW S) (opnS (sB S 1 2) (cfS S) (-1)) colour light (sB S 1 0)) 1000 0 0) else sAns S (cnF (clouF (sC S) (sB S) (widS S) (sqW S) (opnS (sB S 1 2) (cfS S) (-1)) colour light (sB S 1 0) width hard) 1000 0 0)) else sRef S 2) else sRef S 1
theorem x_eye (X : XInv h S) (P : PX S) {colour light what width hard : Int32} : ∃ h', tC mX9_eye [.ref 1, .int colour, .int light, .int what, .int width, .int hard] h = some (h', some (sEye S colour light what width hard).2) ∧ XInv h' (sEye S colour light what width hard).1 ∧ FrX h h' := by
  have hw := px_w P
  obtain ⟨told, lo, hi, G, K, _⟩ := x_told X
  unfold sEye
  cases ec : eyeC S colour what with
  | false =>
    obtain ⟨h', p, q, r⟩ := x_refuse X (t := 1) (by decide)
    refine ⟨h', ?_, q, r⟩
    unfold eyeC at ec
    cases bo : sBo S with
    | false => simp only [cX9_eye_, bX9_eye_0, bX9_eye_4, bX9_eye_7, bX9_eye_13, bX9_eye_16, bX9_eye_19, bX9_eye_24, bX9_eye_27, bX9_eye_33, bX9_eye_36, bX9_eye_41, bX9_eye_42, bX9_eye_48, bX9_eye_51, bX9_eye_57, bX9_eye_60, bX9_eye_65, bX9_eye_68, bX9_eye_73, bX9_eye_74, bX9_eye_78, bX9_eye_83, bX9_eye_88, bX9_eye_91, bX9_eye_92, bX9_eye_97, bX9_eye_102, bX9_eye_107, bX9_eye_110, bX9_eye_111, bX9_eye_116, bX9_eye_125, bX9_eye_128, tk1_some, tk0_some, tkc_some, tkc_none, ↓reduceIte, x_g8 X, x_is X, bo, p, sRef, bI_t, bI_f, show ((1 : Int32) = 0) = False from by decide, not_false_eq_true, not_true, if_true, if_false, Bool.false_eq_true, tm_rb0, tm_rb1]
    | true =>
      cases i1 : inB colour 0 (nI (sC S 4) - 1) with
      | false => simp only [cX9_eye_, bX9_eye_0, bX9_eye_4, bX9_eye_7, bX9_eye_13, bX9_eye_16, bX9_eye_19, bX9_eye_24, bX9_eye_27, bX9_eye_33, bX9_eye_36, bX9_eye_41, bX9_eye_42, bX9_eye_48, bX9_eye_51, bX9_eye_57, bX9_eye_60, bX9_eye_65, bX9_eye_68, bX9_eye_73, bX9_eye_74, bX9_eye_78, bX9_eye_83, bX9_eye_88, bX9_eye_91, bX9_eye_92, bX9_eye_97, bX9_eye_102, bX9_eye_107, bX9_eye_110, bX9_eye_111, bX9_eye_116, bX9_eye_125, bX9_eye_128, tk1_some, tk0_some, tkc_some, tkc_none, ↓reduceIte, x_g8 X, x_is X, bo, G, bk_o K, gf_3_4, bk_l4 K, tm_isO, ln_count (bk_l4 K), within_spec, i1, p, sRef, bI_t, bI_f, show ((1 : Int32) = 0) = False from by decide, not_false_eq_true, not_true, if_true, if_false, Bool.false_eq_true, tm_rb0, tm_rb1]
      | true =>
        rw [bo, i1, if_pos rfl, if_pos rfl] at ec
        simp only [cX9_eye_, bX9_eye_0, bX9_eye_4, bX9_eye_7, bX9_eye_13, bX9_eye_16, bX9_eye_19, bX9_eye_24, bX9_eye_27, bX9_eye_33, bX9_eye_36, bX9_eye_41, bX9_eye_42, bX9_eye_48, bX9_eye_51, bX9_eye_57, bX9_eye_60, bX9_eye_65, bX9_eye_68, bX9_eye_73, bX9_eye_74, bX9_eye_78, bX9_eye_83, bX9_eye_88, bX9_eye_91, bX9_eye_92, bX9_eye_97, bX9_eye_102, bX9_eye_107, bX9_eye_110, bX9_eye_111, bX9_eye_116, bX9_eye_125, bX9_eye_128, tk1_some, tk0_some, tkc_some, tkc_none, ↓reduceIte, x_g8 X, x_is X, bo, G, bk_o K, gf_3_4, bk_l4 K, tm_isO, ln_count (bk_l4 K), within_spec, i1, ec, p, sRef, bI_t, bI_f, show ((1 : Int32) = 0) = False from by decide, not_false_eq_true, not_true, if_true, if_false, Bool.false_eq_true, tm_rb0, tm_rb1]
  | true =>
    unfold eyeC at ec
    split at ec
    · rename_i bo
      split at ec
      · rename_i i1
        have st : tC mX9_eye [.ref 1, .int colour, .int light, .int what, .int width, .int hard] h = tE mX9_eye 42 [.ref 1, .int colour, .int light, .int what, .int width, .int hard] [] h := by
          simp only [cX9_eye_, bX9_eye_0, bX9_eye_4, bX9_eye_7, bX9_eye_13, bX9_eye_16, bX9_eye_19, bX9_eye_24, bX9_eye_27, bX9_eye_33, tk1_some, tk0_some, tkc_some, tkc_none, ↓reduceIte, x_g8 X, bo, G, bk_o K, gf_3_4, bk_l4 K, tm_isO, ln_count (bk_l4 K), within_spec, i1, ec, bI_t, bI_f, show ((1 : Int32) = 0) = False from by decide, not_false_eq_true, not_true, if_true, if_false, Bool.false_eq_true, tm_rb0, tm_rb1]
        rw [if_pos rfl, st]
        cases ed : eyeD S light width hard with
        | false =>
          obtain ⟨h', p, q, r⟩ := x_refuse X (t := 2) (by decide)
          refine ⟨h', ?_, q, r⟩
          unfold eyeD at ed
          cases j1 : inB light 0 3 with
          | false => simp only [bX9_eye_42, bX9_eye_48, bX9_eye_68, bX9_eye_73, tk1_some, tk0_some, tkc_some, tkc_none, ↓reduceIte, x_is X, within_spec, j1, p, sRef, bI_t, bI_f, show ((1 : Int32) = 0) = False from by decide, not_false_eq_true, not_true, if_true, if_false, Bool.false_eq_true, tm_rb0, tm_rb1]
          | true =>
            cases j2 : inB width 0 (nI (widS S)) with
            | false => simp only [bX9_eye_42, bX9_eye_48, bX9_eye_51, bX9_eye_57, bX9_eye_68, bX9_eye_73, tk1_some, tk0_some, tkc_some, tkc_none, ↓reduceIte, x_is X, within_spec, j1, iw_spec X, j2, p, sRef, bI_t, bI_f, show ((1 : Int32) = 0) = False from by decide, not_false_eq_true, not_true, if_true, if_false, Bool.false_eq_true, tm_rb0, tm_rb1]
            | true =>
              rw [j1, j2, if_pos rfl, if_pos rfl] at ed
              simp only [bX9_eye_42, bX9_eye_48, bX9_eye_51, bX9_eye_57, bX9_eye_60, bX9_eye_65, bX9_eye_68, bX9_eye_73, tk1_some, tk0_some, tkc_some, tkc_none, ↓reduceIte, x_is X, within_spec, j1, iw_spec X, j2, ihd_spec, ed, p, sRef, bI_t, bI_f, show ((1 : Int32) = 0) = False from by decide, not_false_eq_true, not_true, if_true, if_false, Bool.false_eq_true, tm_rb0, tm_rb1]
        | true =>
          unfold eyeD at ed
          split at ed
          · rename_i j1
            split at ed
            · rename_i j2
              have st2 : tE mX9_eye 42 [.ref 1, .int colour, .int light, .int what, .int width, .int hard] [] h = tE mX9_eye 74 [.ref 1, .int colour, .int light, .int what, .int width, .int hard] [] h := by
                simp only [bX9_eye_42, bX9_eye_48, bX9_eye_51, bX9_eye_57, bX9_eye_60, bX9_eye_65, tk1_some, tk0_some, tkc_some, tkc_none, ↓reduceIte, x_is X, within_spec, j1, iw_spec X, j2, ihd_spec, ed, bI_t, bI_f, show ((1 : Int32) = 0) = False from by decide, not_false_eq_true, not_true, if_true, if_false, Bool.false_eq_true, tm_rb0, tm_rb1]
              rw [if_pos rfl, st2]
              by_cases w0 : what = 0
              · rw [if_pos w0]
                obtain ⟨cf, D, bx, lo', hi', T, hb, K', B, put⟩ := x_tri X bo
                obtain ⟨h', p, q, r⟩ := x_answer X (v := cnF (fun v => decide (redS (sB S 4) (sC S 4) v light = colour)) 1000 0 0)
                refine ⟨h', ?_, q, r⟩
                have w0' : (what = 0) = True := eq_true w0
                simp only [bX9_eye_74, bX9_eye_78, bX9_eye_83, bX9_eye_88, bX9_eye_91, tk1_some, tk0_some, tkc_some, tkc_none, ↓reduceIte, w0', x_g3 X, x_i50 X, x_is X, look_spec T K', p, sAns, bI_t, bI_f, show ((1 : Int32) = 0) = False from by decide, not_false_eq_true, not_true, if_true, if_false, Bool.false_eq_true, tm_rb0, tm_rb1]
              · rw [if_neg w0]
                obtain ⟨h1, cf, D, bx, lo', hi', P1, T, hb, K', B, Gc, X1, put⟩ := x_tob X P bo
                by_cases w1 : what = 1
                · rw [if_pos w1]
                  obtain ⟨h2, D2, P2, T2, F2⟩ := eye_spec T K' B (by omega) (red := colour) (light := light)
                  obtain ⟨X2, FX2⟩ := put h2 cf D2 T2 (FrT_c F2)
                  rw [eyeF_c hw (opnS_c Gc (-1))] at P2
                  obtain ⟨h3, p, q, r⟩ := x_answer X2 (v := cnF (eyeF (sC S) (sB S) (widS S) (sqW S) (opnS (sB S 1 2) (cfS S) (-1)) colour light (sB S 1 0)) 1000 0 0)
                  refine ⟨h3, ?_, q, FrX_tr FX2 r⟩
                  have w1' : (what = 1) = True := eq_true w1
                  simp only [bX9_eye_74, bX9_eye_92, bX9_eye_97, bX9_eye_102, bX9_eye_107, bX9_eye_110, tk1_some, tk0_some, tkc_some, tkc_none, ↓reduceIte, w0, w1', x_is X, P1, x_i50 X1, P2, x_is X2, p, sAns, bI_t, bI_f, show ((1 : Int32) = 0) = False from by decide, not_false_eq_true, not_true, if_true, if_false, Bool.false_eq_true, tm_rb0, tm_rb1]
                · rw [if_neg w1]
                  obtain ⟨h2, D2, P2, T2, F2⟩ := clou_spec T K' B (by omega) (red := colour) (light := light) (wanted := width) (hard := hard)
                  obtain ⟨X2, FX2⟩ := put h2 cf D2 T2 (FrT_c F2)
                  rw [clouF_c hw (opnS_c Gc (-1))] at P2
                  obtain ⟨h3, p, q, r⟩ := x_answer X2 (v := cnF (clouF (sC S) (sB S) (widS S) (sqW S) (opnS (sB S 1 2) (cfS S) (-1)) colour light (sB S 1 0) width hard) 1000 0 0)
                  refine ⟨h3, ?_, q, FrX_tr FX2 r⟩
                  simp only [bX9_eye_74, bX9_eye_92, bX9_eye_111, bX9_eye_116, bX9_eye_125, bX9_eye_128, tk1_some, tk0_some, tkc_some, tkc_none, ↓reduceIte, w0, w1, x_is X, P1, x_i50 X1, P2, x_is X2, p, sAns, bI_t, bI_f, show ((1 : Int32) = 0) = False from by decide, not_false_eq_true, not_true, if_true, if_false, Bool.false_eq_true, tm_rb0, tm_rb1]
            · cases ed
          · cases ed
      · cases ec
    · cases ec
def sizeS (S : SS) (k : Nat) : Int32 :=
  match k with
  | 0 => nI (cutS S)
  | 1 => nI (widS S)
  | 2 => nI (sC S 2)
  | 3 => nI (sC S 3)
  | 4 => nI (sC S 4)
  | 5 => nI (sC S 5)
  | 6 => nI (sC S 6)
  | 7 => nI (sR S).2.2.2.1
  | 8 => bI (decide ((sR S).2.2.1 ≠ -1))
  | 9 => nI (sR S).2.1
  | 10 => nI (sBl S)
  | 11 => nI (sN S)
  | _ => nI (widS S) * sqW S
def sSize (S : SS) (what : Int32) : Int32 := if inB what 0 12 = true then sizeS S (iN what) else -1
theorem inB_sw {v : Int32} {n : Nat} (hn : n < 2 ^ 31) : (inB v 0 (nI n) = false → v.toInt < 0 ∨ (n : Int) < v.toInt) := by
  intro h
  rcases i32sw (v := v) n with a | ⟨k, hk, e⟩
  · exact a
  · exfalso
    unfold inB at h
    rw [e, if_neg (nI_pos (show k < 2 ^ 31 by omega)), if_neg (nI_nlt hk hn)] at h
    cases h
theorem x_size (X : XInv h S) {what : Int32} : tC mX9_size [.ref 1, .int what] h = some (h, some (.int (sSize S what))) := by
  obtain ⟨p, q, bx, wa, C, _, _⟩ := x_ce X
  obtain ⟨told, lo, hi, G, K, _⟩ := x_told X
  unfold sSize
  rw [cX9_size_]
  cases iv : inB what 0 12 with
  | false =>
    have sw := inB_sw (n := 12) (by decide) iv
    have sw2 : what.toInt < 2 ∨ 6 < what.toInt := by omega
    rw [bX9_size_0_d sw]
    simp only [bX9_size_155, bX9_size_160, cX9_linesTold_, bX9_linesTold_0_d sw2, bX9_linesTold_91, tk1_some, tk0_some, tkc_some, tkc_none, ↓reduceIte, x_is X, bI_t, bI_f, show ((1 : Int32) = 0) = False from by decide, not_false_eq_true, not_true, if_true, if_false, Bool.false_eq_true, tm_rb0, tm_rb1]
  | true =>
    obtain ⟨en, _, h12⟩ := inB_nat (a := 0) (b := 12) (by decide) (by decide) iv
    rw [if_pos rfl, en, iN_nI (by omega)]
    generalize iN what = k at h12
    have hk : k = 0 ∨ k = 1 ∨ k = 2 ∨ k = 3 ∨ k = 4 ∨ k = 5 ∨ k = 6 ∨ k = 7 ∨ k = 8 ∨ k = 9 ∨ k = 10 ∨ k = 11 ∨ k = 12 := by omega
    obtain ⟨bl, _, _, _, _⟩ := x_bla X
    rcases hk with rfl | rfl | rfl | rfl | rfl | rfl | rfl | rfl | rfl | rfl | rfl | rfl | rfl
    · rw [show nI 0 = 0 from rfl]
      simp only [bX9_size_0_0, bX9_size_68, bX9_size_72, bX9_size_75, bX9_size_78, tk1_some, tk0_some, tkc_some, tkc_none, ↓reduceIte, x_g2 X, x_g23 X, x_i24 X, ce_cuts C, sizeS]
    · rw [show nI 1 = 1 from rfl]
      simp only [bX9_size_0_1, bX9_size_79, bX9_size_83, bX9_size_86, bX9_size_89, tk1_some, tk0_some, tkc_some, tkc_none, ↓reduceIte, x_g2 X, x_g23 X, x_i24 X, ce_width C, sizeS]
    · rw [show nI 2 = 2 from rfl]
      simp only [bX9_size_0_2, bX9_size_155, bX9_size_160, cX9_linesTold_, bX9_linesTold_0_2, bX9_linesTold_36, bX9_linesTold_40, bX9_linesTold_43, bX9_linesTold_46, tk1_some, tk0_some, tkc_some, tkc_none, ↓reduceIte, x_is X, G, bk_o K, gf_3_2, bk_l2 K, tm_isO, ln_count (bk_l2 K), sizeS]
    · rw [show nI 3 = 3 from rfl]
      simp only [bX9_size_0_3, bX9_size_155, bX9_size_160, cX9_linesTold_, bX9_linesTold_0_3, bX9_linesTold_47, bX9_linesTold_51, bX9_linesTold_54, bX9_linesTold_57, tk1_some, tk0_some, tkc_some, tkc_none, ↓reduceIte, x_is X, G, bk_o K, gf_3_3, bk_l3 K, tm_isO, ln_count (bk_l3 K), sizeS]
    · rw [show nI 4 = 4 from rfl]
      simp only [bX9_size_0_4, bX9_size_155, bX9_size_160, cX9_linesTold_, bX9_linesTold_0_4, bX9_linesTold_58, bX9_linesTold_62, bX9_linesTold_65, bX9_linesTold_68, tk1_some, tk0_some, tkc_some, tkc_none, ↓reduceIte, x_is X, G, bk_o K, gf_3_4, bk_l4 K, tm_isO, ln_count (bk_l4 K), sizeS]
    · rw [show nI 5 = 5 from rfl]
      simp only [bX9_size_0_5, bX9_size_155, bX9_size_160, cX9_linesTold_, bX9_linesTold_0_5, bX9_linesTold_69, bX9_linesTold_73, bX9_linesTold_76, bX9_linesTold_79, tk1_some, tk0_some, tkc_some, tkc_none, ↓reduceIte, x_is X, G, bk_o K, gf_3_5, bk_l5 K, tm_isO, ln_count (bk_l5 K), sizeS]
    · rw [show nI 6 = 6 from rfl]
      simp only [bX9_size_0_6, bX9_size_155, bX9_size_160, cX9_linesTold_, bX9_linesTold_0_6, bX9_linesTold_80, bX9_linesTold_84, bX9_linesTold_87, bX9_linesTold_90, tk1_some, tk0_some, tkc_some, tkc_none, ↓reduceIte, x_is X, G, bk_o K, gf_3_6, bk_l6 K, tm_isO, ln_count (bk_l6 K), sizeS]
    · rw [show nI 7 = 7 from rfl]
      simp only [bX9_size_0_7, bX9_size_90, bX9_size_94, bX9_size_97, bX9_size_100, tk1_some, tk0_some, tkc_some, tkc_none, ↓reduceIte, x_g2 X, x_g23 X, x_i24 X, ce_tenth C, sizeS]
    · rw [show nI 8 = 8 from rfl]
      have ic := ce_isCr C
      by_cases z : (sR S).2.2.1 = -1
      · have d0 : bI (decide ((sR S).2.2.1 ≠ -1)) = 0 := by rw [z]; decide
        simp only [bX9_size_0_8, bX9_size_101, bX9_size_105, bX9_size_108, bX9_size_111, bX9_size_118, bX9_size_119, tk1_some, tk0_some, tkc_some, tkc_none, ↓reduceIte, x_g2 X, x_g23 X, x_i24 X, ic, sizeS, d0, bI_t, bI_f, show ((1 : Int32) = 0) = False from by decide, not_false_eq_true, not_true, if_true, if_false, Bool.false_eq_true, tm_rb0, tm_rb1]
      · have d0 : bI (decide ((sR S).2.2.1 ≠ -1)) = 1 := by rw [decide_eq_true z]; rfl
        simp only [bX9_size_0_8, bX9_size_101, bX9_size_105, bX9_size_108, bX9_size_111, bX9_size_114, bX9_size_119, tk1_some, tk0_some, tkc_some, tkc_none, ↓reduceIte, x_g2 X, x_g23 X, x_i24 X, ic, sizeS, d0, bI_t, bI_f, show ((1 : Int32) = 0) = False from by decide, not_false_eq_true, not_true, if_true, if_false, Bool.false_eq_true, tm_rb0, tm_rb1]
    · rw [show nI 9 = 9 from rfl]
      simp only [bX9_size_0_9, bX9_size_120, bX9_size_124, bX9_size_127, bX9_size_130, tk1_some, tk0_some, tkc_some, tkc_none, ↓reduceIte, x_g2 X, x_g23 X, x_i24 X, ce_turned C, sizeS]
    · rw [show nI 10 = 10 from rfl]
      simp only [bX9_size_0_10, bX9_size_131, bX9_size_135, bX9_size_138, tk1_some, tk0_some, tkc_some, tkc_none, ↓reduceIte, x_g5 X, x_i96 X, bl_count bl, sizeS]
    · rw [show nI 11 = 11 from rfl]
      simp only [bX9_size_0_11, bX9_size_139, bX9_size_143, tk1_some, tk0_some, tkc_some, tkc_none, ↓reduceIte, x_g9 X, sizeS]
    · rw [show nI 12 = 12 from rfl]
      simp only [bX9_size_0_12, bX9_size_144, bX9_size_148, bX9_size_151, bX9_size_154, tk1_some, tk0_some, tkc_some, tkc_none, ↓reduceIte, x_g2 X, x_g23 X, x_i24 X, ce_wp C, sizeS]
end XF
