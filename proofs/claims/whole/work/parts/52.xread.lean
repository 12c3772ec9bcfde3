/-! THE CLASS'S CALLS: what is read off the bar -/
theorem i32sw {v : Int32} : ∀ n : Nat, (v.toInt < 0 ∨ (n : Int) < v.toInt) ∨ ∃ k, k ≤ n ∧ v = nI k := by
  intro n
  by_cases a : 0 ≤ v.toInt
  · by_cases b : v.toInt ≤ n
    · refine Or.inr ⟨iN v, by unfold iN; omega, (nI_iN (Int32.le_iff_toInt_le.mpr (by simpa using a))).symm⟩
    · exact Or.inl (Or.inr (by omega))
  · exact Or.inl (Or.inl (by omega))
section XR
variable {h : tm_H} {S : SS}
def cellS (S : SS) (i j what : Int32) : Int32 :=
  if hasS S i j = true then (if what = 0 then (sR S).1 8 (iN i * 5 + iN j) else if what = 1 then (sR S).1 2 (iN i * 5 + iN j) else if what = 2 then (sR S).1 0 (iN i * 5 + iN j) else if what = 3 then (sR S).1 5 (iN i * 5 + iN j) else if what = 4 then (sR S).1 6 (iN i * 5 + iN j) else -1) else -1
theorem x_cell (X : XInv h S) (P : PX S) {i j what : Int32} : tC mX9_cell [.ref 1, .int i, .int j, .int what] h = some (h, some (.int (cellS S i j what))) := by
  unfold cellS
  cases hs : hasS S i j with
  | false => simp only [cX9_cell_, bX9_cell_0, bX9_cell_4, bX9_cell_7, bX9_cell_12, bX9_cell_15, bX9_cell_104, bX9_cell_108, bX9_cell_111, bX9_cell_116, bX9_cell_91, bX9_cell_95, bX9_cell_98, bX9_cell_103, bX9_cell_78, bX9_cell_82, bX9_cell_85, bX9_cell_90, bX9_cell_65, bX9_cell_69, bX9_cell_72, bX9_cell_77, bX9_cell_52, bX9_cell_56, bX9_cell_59, bX9_cell_64, bX9_cell_117, tk1_some, tk0_some, tkc_some, tkc_none, ↓reduceIte, x_g2 X, x_g23 X, x_i24 X, x_has X, hs, bI_f, not_true, if_false, Bool.false_eq_true]
  | true =>
    obtain ⟨ei, hi, ej, hj, bo⟩ := has_nat P hs
    obtain ⟨p, q, bx, wa, C, _, _⟩ := x_ce X
    have c8 := ce_heat C hi hj
    have c2 := ce_kind C hi hj
    have c0 := ce_clay C hi hj
    have c5 := ce_size C hi hj
    have c6 := ce_turnT C hi hj
    rw [← ei, ← ej] at c8 c2 c0 c5 c6
    have st : tC mX9_cell [.ref 1, .int i, .int j, .int what] h = tE mX9_cell 17 [.ref 1, .int i, .int j, .int what] [] h := by
      simp only [cX9_cell_, bX9_cell_0, bX9_cell_4, bX9_cell_7, bX9_cell_12, tk1_some, tk0_some, tkc_some, tkc_none, ↓reduceIte, x_g2 X, x_g23 X, x_i24 X, x_has X, hs, bI_t, show ((1 : Int32) = 0) = False from by decide, not_false_eq_true, if_true]
    rw [st, if_pos rfl]
    rcases i32sw (v := what) 4 with sw | ⟨k, hk, e⟩
    · have n0 : ¬ what = 0 := fun y => by rw [y] at sw; revert sw; decide
      have n1 : ¬ what = 1 := fun y => by rw [y] at sw; revert sw; decide
      have n2 : ¬ what = 2 := fun y => by rw [y] at sw; revert sw; decide
      have n3 : ¬ what = 3 := fun y => by rw [y] at sw; revert sw; decide
      have n4 : ¬ what = 4 := fun y => by rw [y] at sw; revert sw; decide
      rw [bX9_cell_17_d sw, bX9_cell_117, if_neg n0, if_neg n1, if_neg n2, if_neg n3, if_neg n4]
    · rcases (show k = 0 ∨ k = 1 ∨ k = 2 ∨ k = 3 ∨ k = 4 by omega) with rfl | rfl | rfl | rfl | rfl
      · rw [show what = 0 from e, if_pos rfl]
        simp only [bX9_cell_17_0, bX9_cell_52, bX9_cell_56, bX9_cell_59, bX9_cell_64, tk1_some, tk0_some, tkc_some, tkc_none, ↓reduceIte, x_g2 X, x_g23 X, x_i24 X, c8]
      · rw [show what = 1 from e, if_neg (by decide), if_pos rfl]
        simp only [bX9_cell_17_1, bX9_cell_65, bX9_cell_69, bX9_cell_72, bX9_cell_77, tk1_some, tk0_some, tkc_some, tkc_none, ↓reduceIte, x_g2 X, x_g23 X, x_i24 X, c2]
      · rw [show what = 2 from e, if_neg (by decide), if_neg (by decide), if_pos rfl]
        simp only [bX9_cell_17_2, bX9_cell_78, bX9_cell_82, bX9_cell_85, bX9_cell_90, tk1_some, tk0_some, tkc_some, tkc_none, ↓reduceIte, x_g2 X, x_g23 X, x_i24 X, c0]
      · rw [show what = 3 from e, if_neg (by decide), if_neg (by decide), if_neg (by decide), if_pos rfl]
        simp only [bX9_cell_17_3, bX9_cell_91, bX9_cell_95, bX9_cell_98, bX9_cell_103, tk1_some, tk0_some, tkc_some, tkc_none, ↓reduceIte, x_g2 X, x_g23 X, x_i24 X, c5]
      · rw [show what = 4 from e, if_neg (by decide), if_neg (by decide), if_neg (by decide), if_neg (by decide), if_pos rfl]
        simp only [bX9_cell_17_4, bX9_cell_104, bX9_cell_108, bX9_cell_111, bX9_cell_116, tk1_some, tk0_some, tkc_some, tkc_none, ↓reduceIte, x_g2 X, x_g23 X, x_i24 X, c6]
def sPull (S : SS) (i j : Int32) : SS × Value :=
  if hasS S i j = true then (sTr S 0, .long (pullS ((sR S).1 5) (widS S) (sqW S) (iN i) (iN j)).toInt64) else (sTr S 1, .long (-9223372036854775808))
theorem x_pull (X : XInv h S) (P : PX S) {i j : Int32} : ∃ h', tC mX9_pull [.ref 1, .int i, .int j] h = some (h', some (sPull S i j).2) ∧ XInv h' (sPull S i j).1 ∧ FrX h h' := by
  unfold sPull
  cases hs : hasS S i j with
  | false =>
    obtain ⟨h', a, b, c⟩ := x_refuse X (t := 1) (by decide)
    refine ⟨h', ?_, b, c⟩
    simp only [cX9_pull_, bX9_pull_0, bX9_pull_4, bX9_pull_7, bX9_pull_12, bX9_pull_15, bX9_pull_20, bX9_pull_25, bX9_pull_30, bX9_pull_34, bX9_pull_37, bX9_pull_42, tk1_some, tk0_some, tkc_some, tkc_none, ↓reduceIte, x_g2 X, x_g23 X, x_i24 X, x_is X, x_has X, hs, bI_f, not_true, if_false, a, Bool.false_eq_true]
  | true =>
    obtain ⟨ei, hi, ej, hj, bo⟩ := has_nat P hs
    obtain ⟨h', a, b, c⟩ := x_pf X (t := 0) (by decide)
    obtain ⟨p, q, bx, wa, C, _, _⟩ := x_ce b
    have P1 : tC mX4_pullOf [.ref 46, .int (nI (iN i)), .int (nI (iN j))] h' = some (h', some (.int (pullS ((sR S).1 5) (widS S) (sqW S) (iN i) (iN j)))) := pull_spec C hi hj
    rw [← ei, ← ej] at P1
    refine ⟨h', ?_, b, c⟩
    simp only [cX9_pull_, bX9_pull_0, bX9_pull_4, bX9_pull_7, bX9_pull_12, bX9_pull_15, bX9_pull_20, bX9_pull_25, bX9_pull_30, bX9_pull_34, bX9_pull_37, bX9_pull_42, tk1_some, tk0_some, tkc_some, tkc_none, ↓reduceIte, x_g2 X, x_g23 X, x_i24 X, x_has X, x_g2 b, x_g23 b, x_i24 b, hs, bI_t, show ((1 : Int32) = 0) = False from by decide, not_false_eq_true, if_true, a, P1]
theorem hasS_0 (P : PX S) {i : Int32} : hasS S i 0 = (decide (0 ≤ i) && decide (i < nI (cutS S)) && decide (0 < widS S)) := by
  have hw := px_w P
  unfold hasS
  rw [decide_eq_true (Int32.le_refl 0), Bool.and_true]
  congr 1
  exact decide_eq_decide.mpr (nI_ltI (a := 0) (by decide) (by omega))
def sCurve (S : SS) (i : Int32) : SS × Value :=
  if hasS S i 0 = true then sAns S (curS ((sR S).1 5) (widS S) (iN i)) else (sTr S 1, .int (-2147483648))
theorem x_curve (X : XInv h S) (P : PX S) {i : Int32} : ∃ h', tC mX9_curve [.ref 1, .int i] h = some (h', some (sCurve S i).2) ∧ XInv h' (sCurve S i).1 ∧ FrX h h' := by
  unfold sCurve
  cases hs : hasS S i 0 with
  | false =>
    obtain ⟨h', a, b, c⟩ := x_refuse X (t := 1) (by decide)
    refine ⟨h', ?_, b, c⟩
    simp only [cX9_curve_, bX9_curve_0, bX9_curve_4, bX9_curve_7, bX9_curve_12, bX9_curve_15, bX9_curve_20, bX9_curve_24, bX9_curve_29, bX9_curve_32, bX9_curve_36, bX9_curve_39, tk1_some, tk0_some, tkc_some, tkc_none, ↓reduceIte, x_g2 X, x_g23 X, x_i24 X, x_is X, x_has X, hs, bI_f, not_true, if_false, a, Bool.false_eq_true]
  | true =>
    obtain ⟨ei, hi, ej, hj, bo⟩ := has_nat P hs
    have hc := px_c P
    obtain ⟨p, q, bx, wa, C, _, _⟩ := x_ce X
    have P1 := cur_spec C (show iN i < 8 by omega)
    rw [← ei] at P1
    obtain ⟨h', a, b, c⟩ := x_answer X (v := curS ((sR S).1 5) (widS S) (iN i))
    refine ⟨h', ?_, b, c⟩
    simp only [cX9_curve_, bX9_curve_0, bX9_curve_4, bX9_curve_7, bX9_curve_12, bX9_curve_15, bX9_curve_20, bX9_curve_24, bX9_curve_29, bX9_curve_32, bX9_curve_36, bX9_curve_39, tk1_some, tk0_some, tkc_some, tkc_none, ↓reduceIte, x_g2 X, x_g23 X, x_i24 X, x_is X, x_has X, hs, bI_t, show ((1 : Int32) = 0) = False from by decide, not_false_eq_true, if_true, a, P1, sAns]
def sBend (S : SS) (what : Int32) : SS × Value :=
  if sBo S = true then (if inB what 0 2 = true then (if what = 0 then sAns S (bendS ((sR S).1 5) (widS S) (cutS S)) else if what = 1 then sAns S (sR S).2.2.2.2.1 else sAns S (sR S).2.2.2.2.2) else (sTr S 1, .int (-2147483648))) else (sTr S 1, .int (-2147483648))
theorem x_bend (X : XInv h S) {what : Int32} : ∃ h', tC mX9_bend [.ref 1, .int what] h = some (h', some (sBend S what).2) ∧ XInv h' (sBend S what).1 ∧ FrX h h' := by
  obtain ⟨p, q, bx, wa, C, _, _⟩ := x_ce X
  obtain ⟨bx', wa', B, _⟩ := x_bar X
  unfold sBend
  cases bo : sBo S with
  | false =>
    obtain ⟨h', a, b, c⟩ := x_refuse X (t := 1) (by decide)
    refine ⟨h', ?_, b, c⟩
    simp only [cX9_bend_, bX9_bend_0, bX9_bend_4, bX9_bend_7, bX9_bend_13, bX9_bend_16, bX9_bend_21, bX9_bend_25, bX9_bend_29, bX9_bend_34, bX9_bend_37, bX9_bend_40, bX9_bend_43, bX9_bend_44, bX9_bend_50, bX9_bend_54, bX9_bend_57, bX9_bend_67, bX9_bend_70, bX9_bend_60, bX9_bend_64, tk1_some, tk0_some, tkc_some, tkc_none, ↓reduceIte, x_g8 X, x_is X, bo, bI_f, if_true, if_false, a, Bool.false_eq_true]
  | true =>
    cases iv : inB what 0 2 with
    | false =>
      obtain ⟨h', a, b, c⟩ := x_refuse X (t := 1) (by decide)
      refine ⟨h', ?_, b, c⟩
      simp only [cX9_bend_, bX9_bend_0, bX9_bend_4, bX9_bend_7, bX9_bend_13, bX9_bend_16, bX9_bend_21, bX9_bend_25, bX9_bend_29, bX9_bend_34, bX9_bend_37, bX9_bend_40, bX9_bend_43, bX9_bend_44, bX9_bend_50, bX9_bend_54, bX9_bend_57, bX9_bend_67, bX9_bend_70, bX9_bend_60, bX9_bend_64, tk1_some, tk0_some, tkc_some, tkc_none, ↓reduceIte, x_g8 X, x_is X, bo, within_spec, iv, bI_t, bI_f, show ((1 : Int32) = 0) = False from by decide, not_true, if_true, if_false, a, Bool.false_eq_true]
    | true =>
      by_cases w0 : what = 0
      · obtain ⟨h', a, b, c⟩ := x_answer X (v := bendS ((sR S).1 5) (widS S) (cutS S))
        rw [if_pos rfl, if_pos rfl, if_pos w0]
        refine ⟨h', ?_, b, c⟩
        replace w0 : (what = 0) = True := eq_true w0
        simp only [cX9_bend_, bX9_bend_0, bX9_bend_4, bX9_bend_7, bX9_bend_13, bX9_bend_16, bX9_bend_21, bX9_bend_25, bX9_bend_29, bX9_bend_34, bX9_bend_37, bX9_bend_40, bX9_bend_43, bX9_bend_44, bX9_bend_50, bX9_bend_54, bX9_bend_57, bX9_bend_67, bX9_bend_70, bX9_bend_60, bX9_bend_64, tk1_some, tk0_some, tkc_some, tkc_none, ↓reduceIte, x_g8 X, x_g2 X, x_g23 X, x_i24 X, x_is X, bo, within_spec, iv, w0, bend_spec C, bI_t, show ((1 : Int32) = 0) = False from by decide, not_false_eq_true, not_true, if_true, if_false, a, sAns]
      · by_cases w1 : what = 1
        · obtain ⟨h', a, b, c⟩ := x_answer X (v := (sR S).2.2.2.2.1)
          rw [if_pos rfl, if_pos rfl, if_neg w0, if_pos w1]
          refine ⟨h', ?_, b, c⟩
          replace w1 : (what = 1) = True := eq_true w1
          simp only [cX9_bend_, bX9_bend_0, bX9_bend_4, bX9_bend_7, bX9_bend_13, bX9_bend_16, bX9_bend_21, bX9_bend_25, bX9_bend_29, bX9_bend_34, bX9_bend_37, bX9_bend_40, bX9_bend_43, bX9_bend_44, bX9_bend_50, bX9_bend_54, bX9_bend_57, bX9_bend_67, bX9_bend_70, bX9_bend_60, bX9_bend_64, tk1_some, tk0_some, tkc_some, tkc_none, ↓reduceIte, x_g8 X, x_g2 X, x_i23 X, x_is X, bo, within_spec, iv, w0, w1, bar_lb B, bI_t, show ((1 : Int32) = 0) = False from by decide, not_false_eq_true, not_true, if_true, if_false, a, sAns]
        · obtain ⟨h', a, b, c⟩ := x_answer X (v := (sR S).2.2.2.2.2)
          rw [if_pos rfl, if_pos rfl, if_neg w0, if_neg w1]
          refine ⟨h', ?_, b, c⟩
          simp only [cX9_bend_, bX9_bend_0, bX9_bend_4, bX9_bend_7, bX9_bend_13, bX9_bend_16, bX9_bend_21, bX9_bend_25, bX9_bend_29, bX9_bend_34, bX9_bend_37, bX9_bend_40, bX9_bend_43, bX9_bend_44, bX9_bend_50, bX9_bend_54, bX9_bend_57, bX9_bend_67, bX9_bend_70, bX9_bend_60, bX9_bend_64, tk1_some, tk0_some, tkc_some, tkc_none, ↓reduceIte, x_g8 X, x_g2 X, x_i23 X, x_is X, bo, within_spec, iv, w0, w1, bar_gb B, bI_t, show ((1 : Int32) = 0) = False from by decide, not_false_eq_true, if_true, if_false, a, sAns]
def sCrack (S : SS) (what : Int32) : SS × Value :=
  if sBo S = true then (if inB what 0 2 = true then (if (sR S).2.2.1 = -1 then sAns S (-2) else if what = 0 then sAns S (nI (sR S).2.2.2.1) else if what = 1 then sAns S ((sR S).2.2.1 / 5) else sAns S ((sR S).2.2.1 - (sR S).2.2.1 / 5 * 5)) else sRef S 1) else sRef S 1
theorem x_crack (X : XInv h S) {what : Int32} : ∃ h', tC mX9_crack [.ref 1, .int what] h = some (h', some (sCrack S what).2) ∧ XInv h' (sCrack S what).1 ∧ FrX h h' := by
  obtain ⟨p, q, bx, wa, C, _, _⟩ := x_ce X
  unfold sCrack
  cases bo : sBo S with
  | false =>
    obtain ⟨h', a, b, c⟩ := x_refuse X (t := 1) (by decide)
    refine ⟨h', ?_, b, c⟩
    simp only [cX9_crack_, bX9_crack_0, bX9_crack_4, bX9_crack_7, bX9_crack_13, bX9_crack_16, bX9_crack_21, bX9_crack_22, bX9_crack_26, bX9_crack_29, bX9_crack_32, bX9_crack_35, bX9_crack_41, bX9_crack_42, bX9_crack_46, bX9_crack_51, bX9_crack_54, bX9_crack_57, bX9_crack_60, bX9_crack_61, bX9_crack_67, bX9_crack_71, bX9_crack_74, bX9_crack_77, bX9_crack_90, bX9_crack_93, bX9_crack_80, bX9_crack_84, bX9_crack_87, tk1_some, tk0_some, tkc_some, tkc_none, ↓reduceIte, x_g8 X, x_is X, bo, bI_f, if_true, if_false, a, Bool.false_eq_true, sRef]
  | true =>
    cases iv : inB what 0 2 with
    | false =>
      obtain ⟨h', a, b, c⟩ := x_refuse X (t := 1) (by decide)
      refine ⟨h', ?_, b, c⟩
      simp only [cX9_crack_, bX9_crack_0, bX9_crack_4, bX9_crack_7, bX9_crack_13, bX9_crack_16, bX9_crack_21, bX9_crack_22, bX9_crack_26, bX9_crack_29, bX9_crack_32, bX9_crack_35, bX9_crack_41, bX9_crack_42, bX9_crack_46, bX9_crack_51, bX9_crack_54, bX9_crack_57, bX9_crack_60, bX9_crack_61, bX9_crack_67, bX9_crack_71, bX9_crack_74, bX9_crack_77, bX9_crack_90, bX9_crack_93, bX9_crack_80, bX9_crack_84, bX9_crack_87, tk1_some, tk0_some, tkc_some, tkc_none, ↓reduceIte, x_g8 X, x_is X, bo, within_spec, iv, bI_t, bI_f, show ((1 : Int32) = 0) = False from by decide, not_true, if_true, if_false, a, Bool.false_eq_true, sRef]
    | true =>
      by_cases cr : (sR S).2.2.1 = -1
      · obtain ⟨h', a, b, c⟩ := x_answer X (v := -2)
        rw [if_pos rfl, if_pos rfl, if_pos cr]
        refine ⟨h', ?_, b, c⟩
        simp only [cX9_crack_, bX9_crack_0, bX9_crack_4, bX9_crack_7, bX9_crack_13, bX9_crack_16, bX9_crack_21, bX9_crack_22, bX9_crack_26, bX9_crack_29, bX9_crack_32, bX9_crack_35, bX9_crack_41, bX9_crack_42, bX9_crack_46, bX9_crack_51, bX9_crack_54, bX9_crack_57, bX9_crack_60, bX9_crack_61, bX9_crack_67, bX9_crack_71, bX9_crack_74, bX9_crack_77, bX9_crack_90, bX9_crack_93, bX9_crack_80, bX9_crack_84, bX9_crack_87, tk1_some, tk0_some, tkc_some, tkc_none, ↓reduceIte, x_g8 X, x_g2 X, x_g23 X, x_i24 X, x_is X, bo, within_spec, iv, ce_isCr C, cr, show bI (decide ((-1 : Int32) ≠ -1)) = 0 from by decide, bI_t, show ((1 : Int32) = 0) = False from by decide, not_false_eq_true, not_true, if_true, if_false, a, sAns]
      · have ed : bI (decide ((sR S).2.2.1 ≠ -1)) = 1 := by rw [decide_eq_true cr]; rfl
        by_cases w0 : what = 0
        · obtain ⟨h', a, b, c⟩ := x_answer X (v := nI (sR S).2.2.2.1)
          rw [if_pos rfl, if_pos rfl, if_neg cr, if_pos w0]
          refine ⟨h', ?_, b, c⟩
          replace w0 : (what = 0) = True := eq_true w0
          simp only [cX9_crack_, bX9_crack_0, bX9_crack_4, bX9_crack_7, bX9_crack_13, bX9_crack_16, bX9_crack_21, bX9_crack_22, bX9_crack_26, bX9_crack_29, bX9_crack_32, bX9_crack_35, bX9_crack_41, bX9_crack_42, bX9_crack_46, bX9_crack_51, bX9_crack_54, bX9_crack_57, bX9_crack_60, bX9_crack_61, bX9_crack_67, bX9_crack_71, bX9_crack_74, bX9_crack_77, bX9_crack_90, bX9_crack_93, bX9_crack_80, bX9_crack_84, bX9_crack_87, tk1_some, tk0_some, tkc_some, tkc_none, ↓reduceIte, x_g8 X, x_g2 X, x_g23 X, x_i24 X, x_is X, bo, within_spec, iv, ce_isCr C, ed, w0, ce_tenth C, bI_t, show ((1 : Int32) = 0) = False from by decide, not_false_eq_true, not_true, if_true, if_false, a, sAns]
        · by_cases w1 : what = 1
          · obtain ⟨h', a, b, c⟩ := x_answer X (v := (sR S).2.2.1 / 5)
            rw [if_pos rfl, if_pos rfl, if_neg cr, if_neg w0, if_pos w1]
            refine ⟨h', ?_, b, c⟩
            replace w1 : (what = 1) = True := eq_true w1
            simp only [cX9_crack_, bX9_crack_0, bX9_crack_4, bX9_crack_7, bX9_crack_13, bX9_crack_16, bX9_crack_21, bX9_crack_22, bX9_crack_26, bX9_crack_29, bX9_crack_32, bX9_crack_35, bX9_crack_41, bX9_crack_42, bX9_crack_46, bX9_crack_51, bX9_crack_54, bX9_crack_57, bX9_crack_60, bX9_crack_61, bX9_crack_67, bX9_crack_71, bX9_crack_74, bX9_crack_77, bX9_crack_90, bX9_crack_93, bX9_crack_80, bX9_crack_84, bX9_crack_87, tk1_some, tk0_some, tkc_some, tkc_none, ↓reduceIte, x_g8 X, x_g2 X, x_g23 X, x_i24 X, x_is X, bo, within_spec, iv, ce_isCr C, ed, w0, w1, ce_crA C, bI_t, show ((1 : Int32) = 0) = False from by decide, not_false_eq_true, not_true, if_true, if_false, a, sAns]
          · obtain ⟨h', a, b, c⟩ := x_answer X (v := (sR S).2.2.1 - (sR S).2.2.1 / 5 * 5)
            rw [if_pos rfl, if_pos rfl, if_neg cr, if_neg w0, if_neg w1]
            refine ⟨h', ?_, b, c⟩
            simp only [cX9_crack_, bX9_crack_0, bX9_crack_4, bX9_crack_7, bX9_crack_13, bX9_crack_16, bX9_crack_21, bX9_crack_22, bX9_crack_26, bX9_crack_29, bX9_crack_32, bX9_crack_35, bX9_crack_41, bX9_crack_42, bX9_crack_46, bX9_crack_51, bX9_crack_54, bX9_crack_57, bX9_crack_60, bX9_crack_61, bX9_crack_67, bX9_crack_71, bX9_crack_74, bX9_crack_77, bX9_crack_90, bX9_crack_93, bX9_crack_80, bX9_crack_84, bX9_crack_87, tk1_some, tk0_some, tkc_some, tkc_none, ↓reduceIte, x_g8 X, x_g2 X, x_g23 X, x_i24 X, x_is X, bo, within_spec, iv, ce_isCr C, ed, w0, w1, ce_crX C, bI_t, show ((1 : Int32) = 0) = False from by decide, not_false_eq_true, if_true, if_false, a, sAns]
def sCold (S : SS) : SS × Value := if sBo S = true then sAns S (bI (coldG ((sR S).1 8) (widS S) (cutS S) 0)) else sRef S 1
theorem x_cold (X : XInv h S) : ∃ h', tC mX9_cold [.ref 1] h = some (h', some (sCold S).2) ∧ XInv h' (sCold S).1 ∧ FrX h h' := by
  obtain ⟨p, q, bx, wa, C, _, _⟩ := x_ce X
  unfold sCold
  cases bo : sBo S with
  | false =>
    obtain ⟨h', a, b, c⟩ := x_refuse X (t := 1) (by decide)
    refine ⟨h', ?_, b, c⟩
    simp only [cX9_cold_, bX9_cold_0, bX9_cold_4, bX9_cold_7, bX9_cold_12, bX9_cold_13, bX9_cold_18, bX9_cold_21, bX9_cold_24, bX9_cold_27, bX9_cold_32, bX9_cold_35, bX9_cold_31, tk1_some, tk0_some, tkc_some, tkc_none, ↓reduceIte, x_g8 X, x_is X, bo, bI_f, not_true, if_false, a, Bool.false_eq_true, sRef]
  | true =>
    obtain ⟨h', a, b, c⟩ := x_answer X (v := bI (coldG ((sR S).1 8) (widS S) (cutS S) 0))
    refine ⟨h', ?_, b, c⟩
    have K := cold_spec C
    cases cd : coldG ((sR S).1 8) (widS S) (cutS S) 0 with
    | true =>
      rw [cd, bI_t] at K a
      simp only [cX9_cold_, bX9_cold_0, bX9_cold_4, bX9_cold_7, bX9_cold_12, bX9_cold_13, bX9_cold_18, bX9_cold_21, bX9_cold_24, bX9_cold_27, bX9_cold_32, bX9_cold_35, bX9_cold_31, tk1_some, tk0_some, tkc_some, tkc_none, ↓reduceIte, x_g8 X, x_g2 X, x_g23 X, x_i24 X, x_is X, bo, K, bI_t, show ((1 : Int32) = 0) = False from by decide, not_false_eq_true, if_true, if_false, a, sAns, cd]
    | false =>
      rw [cd, bI_f] at K a
      simp only [cX9_cold_, bX9_cold_0, bX9_cold_4, bX9_cold_7, bX9_cold_12, bX9_cold_13, bX9_cold_18, bX9_cold_21, bX9_cold_24, bX9_cold_27, bX9_cold_32, bX9_cold_35, bX9_cold_31, tk1_some, tk0_some, tkc_some, tkc_none, ↓reduceIte, x_g8 X, x_g2 X, x_g23 X, x_i24 X, x_is X, bo, K, bI_t, bI_f, show ((1 : Int32) = 0) = False from by decide, not_false_eq_true, if_true, if_false, a, sAns, cd]
def sCloud (S : SS) (i hard : Int32) : SS × Value :=
  if hasS S i 0 = true then (if inB hard 0 99 = true then sAns S (nI (cloudG (sB S 2) ((sR S).1 2) hard (iN i) (widS S) 0)) else sRef S 2) else sRef S 1
theorem x_kok (P : PX S) (bo : sBo S = true) : KOk (sR S).1 (cutS S) (widS S) (sC S 2) := KN_ok (P.2.2.2.2.2 bo) (px_w P) (px_c P)
theorem x_cloud (X : XInv h S) (P : PX S) {i hard : Int32} : ∃ h', tC mX9_cloud [.ref 1, .int i, .int hard] h = some (h', some (sCloud S i hard).2) ∧ XInv h' (sCloud S i hard).1 ∧ FrX h h' := by
  unfold sCloud
  cases hs : hasS S i 0 with
  | false =>
    obtain ⟨h', a, b, c⟩ := x_refuse X (t := 1) (by decide)
    refine ⟨h', ?_, b, c⟩
    simp only [cX9_cloud_, bX9_cloud_0, bX9_cloud_4, bX9_cloud_7, bX9_cloud_12, bX9_cloud_15, bX9_cloud_20, bX9_cloud_21, bX9_cloud_25, bX9_cloud_28, bX9_cloud_33, bX9_cloud_34, bX9_cloud_39, bX9_cloud_42, bX9_cloud_47, bX9_cloud_50, tk1_some, tk0_some, tkc_some, tkc_none, ↓reduceIte, x_g2 X, x_g23 X, x_i24 X, x_is X, x_has X, hs, bI_f, not_true, if_false, a, Bool.false_eq_true, sRef]
  | true =>
    cases iv : inB hard 0 99 with
    | false =>
      obtain ⟨h', a, b, c⟩ := x_refuse X (t := 2) (by decide)
      refine ⟨h', ?_, b, c⟩
      simp only [cX9_cloud_, bX9_cloud_0, bX9_cloud_4, bX9_cloud_7, bX9_cloud_12, bX9_cloud_15, bX9_cloud_20, bX9_cloud_21, bX9_cloud_25, bX9_cloud_28, bX9_cloud_33, bX9_cloud_34, bX9_cloud_39, bX9_cloud_42, bX9_cloud_47, bX9_cloud_50, tk1_some, tk0_some, tkc_some, tkc_none, ↓reduceIte, x_g2 X, x_g23 X, x_i24 X, x_is X, x_has X, hs, ihd_spec, iv, bI_t, bI_f, show ((1 : Int32) = 0) = False from by decide, not_false_eq_true, not_true, if_true, if_false, a, Bool.false_eq_true, sRef]
    | true =>
      obtain ⟨ei, hi, ej, hj, bo⟩ := has_nat P hs
      obtain ⟨p, q, bx, wa, C, kb, _⟩ := x_ce X
      obtain ⟨lo, hi', K, F⟩ := kb bo
      have P1 := cloud_spec C K (x_kok P bo) hi (hard := hard)
      rw [← ei] at P1
      obtain ⟨h', a, b, c⟩ := x_answer X (v := nI (cloudG (sB S 2) ((sR S).1 2) hard (iN i) (widS S) 0))
      refine ⟨h', ?_, b, c⟩
      simp only [cX9_cloud_, bX9_cloud_0, bX9_cloud_4, bX9_cloud_7, bX9_cloud_12, bX9_cloud_15, bX9_cloud_20, bX9_cloud_21, bX9_cloud_25, bX9_cloud_28, bX9_cloud_33, bX9_cloud_34, bX9_cloud_39, bX9_cloud_42, bX9_cloud_47, bX9_cloud_50, tk1_some, tk0_some, tkc_some, tkc_none, ↓reduceIte, x_g2 X, x_g23 X, x_i24 X, x_is X, x_has X, hs, ihd_spec, iv, bI_t, show ((1 : Int32) = 0) = False from by decide, not_false_eq_true, if_true, P1, a, sAns]
def sChip (S : SS) (i hard : Int32) : SS × Value :=
  if hasS S i 0 = true then (if inB hard 0 99 = true then sAns S (chipS (sB S 2) ((sR S).1 2) hard (cutS S) (iN i)) else sRef S 2) else sRef S 1
theorem x_chip (X : XInv h S) (P : PX S) {i hard : Int32} : ∃ h', tC mX9_chip [.ref 1, .int i, .int hard] h = some (h', some (sChip S i hard).2) ∧ XInv h' (sChip S i hard).1 ∧ FrX h h' := by
  unfold sChip
  cases hs : hasS S i 0 with
  | false =>
    obtain ⟨h', a, b, c⟩ := x_refuse X (t := 1) (by decide)
    refine ⟨h', ?_, b, c⟩
    simp only [cX9_chip_, bX9_chip_0, bX9_chip_4, bX9_chip_7, bX9_chip_12, bX9_chip_15, bX9_chip_20, bX9_chip_21, bX9_chip_25, bX9_chip_28, bX9_chip_33, bX9_chip_34, bX9_chip_39, bX9_chip_42, bX9_chip_47, bX9_chip_50, tk1_some, tk0_some, tkc_some, tkc_none, ↓reduceIte, x_g2 X, x_g23 X, x_i24 X, x_is X, x_has X, hs, bI_f, not_true, if_false, a, Bool.false_eq_true, sRef]
  | true =>
    cases iv : inB hard 0 99 with
    | false =>
      obtain ⟨h', a, b, c⟩ := x_refuse X (t := 2) (by decide)
      refine ⟨h', ?_, b, c⟩
      simp only [cX9_chip_, bX9_chip_0, bX9_chip_4, bX9_chip_7, bX9_chip_12, bX9_chip_15, bX9_chip_20, bX9_chip_21, bX9_chip_25, bX9_chip_28, bX9_chip_33, bX9_chip_34, bX9_chip_39, bX9_chip_42, bX9_chip_47, bX9_chip_50, tk1_some, tk0_some, tkc_some, tkc_none, ↓reduceIte, x_g2 X, x_g23 X, x_i24 X, x_is X, x_has X, hs, ihd_spec, iv, bI_t, bI_f, show ((1 : Int32) = 0) = False from by decide, not_false_eq_true, not_true, if_true, if_false, a, Bool.false_eq_true, sRef]
    | true =>
      obtain ⟨ei, hi, ej, hj, bo⟩ := has_nat P hs
      obtain ⟨p, q, bx, wa, C, kb, _⟩ := x_ce X
      obtain ⟨lo, hi', K, F⟩ := kb bo
      have P1 := chip_spec C K (x_kok P bo) (show 0 < widS S by omega) (hard := hard) hi
      rw [← ei] at P1
      obtain ⟨h', a, b, c⟩ := x_answer X (v := chipS (sB S 2) ((sR S).1 2) hard (cutS S) (iN i))
      refine ⟨h', ?_, b, c⟩
      simp only [cX9_chip_, bX9_chip_0, bX9_chip_4, bX9_chip_7, bX9_chip_12, bX9_chip_15, bX9_chip_20, bX9_chip_21, bX9_chip_25, bX9_chip_28, bX9_chip_33, bX9_chip_34, bX9_chip_39, bX9_chip_42, bX9_chip_47, bX9_chip_50, tk1_some, tk0_some, tkc_some, tkc_none, ↓reduceIte, x_g2 X, x_g23 X, x_i24 X, x_is X, x_has X, hs, ihd_spec, iv, bI_t, show ((1 : Int32) = 0) = False from by decide, not_false_eq_true, if_true, P1, a, sAns]
end XR
