/-! THE READER of the class: its lines -/
def rAnd : Bool × RSt → (RSt → Bool × RSt) → Bool × RSt
  | (true, z), g => g z
  | (false, z), _ => (false, z)
section RL
variable {h : tm_H} {bk n : Nat} {tp : Nat → Int32} {z : RSt}
def rBar (tp : Nat → Int32) (n : Nat) (z : RSt) : Bool × RSt := rAnd (rTells tp n 7 1 8 0 0 z) fun y => rAnd (rTells tp n 8 2 5 0 1 y) fun y => (true, rEnds tp n 0 y)
theorem r_Bar (H : RdAt h bk n tp z) {x : Nat} (hx : x = bk + 1 + 2 * 0) : ∃ h', tC mX6_readBar [.ref 40, .ref x] h = some (h', some (.int (bI (rBar tp n z).1))) ∧ RdAt h' bk n tp (rBar tp n z).2 ∧ FrR bk h h' := by
  unfold rBar
  obtain ⟨h1, P1, H1, F1⟩ := r_tells H (k := 7) (by decide) (lo := 1) (hi := 8) (l := 0) (c := 0) (ci := 0) (by decide) (by decide) hx rfl
  generalize rTells tp n 7 1 8 0 0 z = q1 at P1 H1
  obtain ⟨b1, z1⟩ := q1
  cases b1 with
  | false =>
    refine ⟨h1, ?_, H1, F1⟩
    show _ = some (h1, some (Value.int 0))
    replace P1 : _ = some (h1, some (Value.int 0)) := P1
    simp only [cX6_readBar_, bX6_readBar_0, bX6_readBar_11, bX6_readBar_14, bX6_readBar_24, bX6_readBar_27, bX6_readBar_32, bX6_readBar_35, bX6_readBar_40, bX6_readBar_39, tk1_some, tk0_some, tkc_some, tkc_none, ↓reduceIte, rd_o H, tm_isO, gf_6_5, P1, show ((1 : Int32) = 0) = False from by decide, if_true, if_false, not_true, not_false_eq_true, tm_rb0, tm_rb1]
  | true =>
    replace P1 : _ = some (h1, some (Value.int 1)) := P1
    replace H1 : RdAt h1 bk n tp z1 := H1
    simp only [rAnd]
    obtain ⟨h2, P2, H2, F2⟩ := r_tells H1 (k := 8) (by decide) (lo := 2) (hi := 5) (l := 0) (c := 1) (ci := 1) (by decide) (by decide) hx rfl
    generalize rTells tp n 8 2 5 0 1 z1 = q2 at P2 H2
    obtain ⟨b2, z2⟩ := q2
    cases b2 with
    | false =>
      refine ⟨h2, ?_, H2, FrR_tr F1 F2⟩
      show _ = some (h2, some (Value.int 0))
      replace P2 : _ = some (h2, some (Value.int 0)) := P2
      simp only [cX6_readBar_, bX6_readBar_0, bX6_readBar_11, bX6_readBar_14, bX6_readBar_24, bX6_readBar_27, bX6_readBar_32, bX6_readBar_35, bX6_readBar_40, bX6_readBar_39, tk1_some, tk0_some, tkc_some, tkc_none, ↓reduceIte, rd_o H, rd_o H1, tm_isO, gf_6_5, P1, P2, show ((1 : Int32) = 0) = False from by decide, if_true, if_false, not_true, not_false_eq_true, tm_rb0, tm_rb1]
    | true =>
      replace P2 : _ = some (h2, some (Value.int 1)) := P2
      replace H2 : RdAt h2 bk n tp z2 := H2
      simp only [rAnd]
      obtain ⟨h3, P3, H3, F3⟩ := r_ends H2 (l := 0) (by decide) hx
      refine ⟨h3, ?_, H3, FrR_tr F1 (FrR_tr F2 F3)⟩
      show _ = some (h3, some (Value.int 1))
      simp only [cX6_readBar_, bX6_readBar_0, bX6_readBar_11, bX6_readBar_14, bX6_readBar_24, bX6_readBar_27, bX6_readBar_32, bX6_readBar_35, bX6_readBar_40, bX6_readBar_39, tk1_some, tk0_some, tkc_some, tkc_none, ↓reduceIte, rd_o H, rd_o H1, rd_o H2, tm_isO, gf_6_5, P1, P2, P3, show ((1 : Int32) = 0) = False from by decide, if_true, if_false, not_true, not_false_eq_true, tm_rb0, tm_rb1]
def rWater (tp : Nat → Int32) (n : Nat) (z : RSt) : Bool × RSt := rAnd (rTellsW tp n 0 99 1 0 z) fun y => rAnd (rTells tp n 9 1 50 1 1 y) fun y => rAnd (rTells tp n 10 0 60 1 2 y) fun y => rAnd (rTells tp n 11 0 12 1 3 y) fun y => rAnd (rTells tp n 12 0 50 1 4 y) fun y => (true, rEnds tp n 1 y)
theorem r_Water (H : RdAt h bk n tp z) {x : Nat} (hx : x = bk + 1 + 2 * 1) : ∃ h', tC mX6_readWater [.ref 40, .ref x] h = some (h', some (.int (bI (rWater tp n z).1))) ∧ RdAt h' bk n tp (rWater tp n z).2 ∧ FrR bk h h' := by
  unfold rWater
  obtain ⟨h1, P1, H1, F1⟩ := r_tellsW H (lo := 0) (hi := 99) (l := 1) (c := 0) (ci := 0) (by decide) (by decide) hx rfl
  generalize rTellsW tp n 0 99 1 0 z = q1 at P1 H1
  obtain ⟨b1, z1⟩ := q1
  cases b1 with
  | false =>
    refine ⟨h1, ?_, H1, F1⟩
    show _ = some (h1, some (Value.int 0))
    replace P1 : _ = some (h1, some (Value.int 0)) := P1
    simp only [cX6_readWater_, bX6_readWater_0, bX6_readWater_9, bX6_readWater_12, bX6_readWater_23, bX6_readWater_26, bX6_readWater_37, bX6_readWater_40, bX6_readWater_51, bX6_readWater_54, bX6_readWater_65, bX6_readWater_68, bX6_readWater_73, bX6_readWater_76, bX6_readWater_81, bX6_readWater_80, tk1_some, tk0_some, tkc_some, tkc_none, ↓reduceIte, rd_o H, tm_isO, gf_6_5, P1, show ((1 : Int32) = 0) = False from by decide, if_true, if_false, not_true, not_false_eq_true, tm_rb0, tm_rb1]
  | true =>
    replace P1 : _ = some (h1, some (Value.int 1)) := P1
    replace H1 : RdAt h1 bk n tp z1 := H1
    simp only [rAnd]
    obtain ⟨h2, P2, H2, F2⟩ := r_tells H1 (k := 9) (by decide) (lo := 1) (hi := 50) (l := 1) (c := 1) (ci := 1) (by decide) (by decide) hx rfl
    generalize rTells tp n 9 1 50 1 1 z1 = q2 at P2 H2
    obtain ⟨b2, z2⟩ := q2
    cases b2 with
    | false =>
      refine ⟨h2, ?_, H2, FrR_tr F1 F2⟩
      show _ = some (h2, some (Value.int 0))
      replace P2 : _ = some (h2, some (Value.int 0)) := P2
      simp only [cX6_readWater_, bX6_readWater_0, bX6_readWater_9, bX6_readWater_12, bX6_readWater_23, bX6_readWater_26, bX6_readWater_37, bX6_readWater_40, bX6_readWater_51, bX6_readWater_54, bX6_readWater_65, bX6_readWater_68, bX6_readWater_73, bX6_readWater_76, bX6_readWater_81, bX6_readWater_80, tk1_some, tk0_some, tkc_some, tkc_none, ↓reduceIte, rd_o H, rd_o H1, tm_isO, gf_6_5, P1, P2, show ((1 : Int32) = 0) = False from by decide, if_true, if_false, not_true, not_false_eq_true, tm_rb0, tm_rb1]
    | true =>
      replace P2 : _ = some (h2, some (Value.int 1)) := P2
      replace H2 : RdAt h2 bk n tp z2 := H2
      simp only [rAnd]
      obtain ⟨h3, P3, H3, F3⟩ := r_tells H2 (k := 10) (by decide) (lo := 0) (hi := 60) (l := 1) (c := 2) (ci := 2) (by decide) (by decide) hx rfl
      generalize rTells tp n 10 0 60 1 2 z2 = q3 at P3 H3
      obtain ⟨b3, z3⟩ := q3
      cases b3 with
      | false =>
        refine ⟨h3, ?_, H3, FrR_tr F1 (FrR_tr F2 F3)⟩
        show _ = some (h3, some (Value.int 0))
        replace P3 : _ = some (h3, some (Value.int 0)) := P3
        simp only [cX6_readWater_, bX6_readWater_0, bX6_readWater_9, bX6_readWater_12, bX6_readWater_23, bX6_readWater_26, bX6_readWater_37, bX6_readWater_40, bX6_readWater_51, bX6_readWater_54, bX6_readWater_65, bX6_readWater_68, bX6_readWater_73, bX6_readWater_76, bX6_readWater_81, bX6_readWater_80, tk1_some, tk0_some, tkc_some, tkc_none, ↓reduceIte, rd_o H, rd_o H1, rd_o H2, tm_isO, gf_6_5, P1, P2, P3, show ((1 : Int32) = 0) = False from by decide, if_true, if_false, not_true, not_false_eq_true, tm_rb0, tm_rb1]
      | true =>
        replace P3 : _ = some (h3, some (Value.int 1)) := P3
        replace H3 : RdAt h3 bk n tp z3 := H3
        simp only [rAnd]
        obtain ⟨h4, P4, H4, F4⟩ := r_tells H3 (k := 11) (by decide) (lo := 0) (hi := 12) (l := 1) (c := 3) (ci := 3) (by decide) (by decide) hx rfl
        generalize rTells tp n 11 0 12 1 3 z3 = q4 at P4 H4
        obtain ⟨b4, z4⟩ := q4
        cases b4 with
        | false =>
          refine ⟨h4, ?_, H4, FrR_tr F1 (FrR_tr F2 (FrR_tr F3 F4))⟩
          show _ = some (h4, some (Value.int 0))
          replace P4 : _ = some (h4, some (Value.int 0)) := P4
          simp only [cX6_readWater_, bX6_readWater_0, bX6_readWater_9, bX6_readWater_12, bX6_readWater_23, bX6_readWater_26, bX6_readWater_37, bX6_readWater_40, bX6_readWater_51, bX6_readWater_54, bX6_readWater_65, bX6_readWater_68, bX6_readWater_73, bX6_readWater_76, bX6_readWater_81, bX6_readWater_80, tk1_some, tk0_some, tkc_some, tkc_none, ↓reduceIte, rd_o H, rd_o H1, rd_o H2, rd_o H3, tm_isO, gf_6_5, P1, P2, P3, P4, show ((1 : Int32) = 0) = False from by decide, if_true, if_false, not_true, not_false_eq_true, tm_rb0, tm_rb1]
        | true =>
          replace P4 : _ = some (h4, some (Value.int 1)) := P4
          replace H4 : RdAt h4 bk n tp z4 := H4
          simp only [rAnd]
          obtain ⟨h5, P5, H5, F5⟩ := r_tells H4 (k := 12) (by decide) (lo := 0) (hi := 50) (l := 1) (c := 4) (ci := 4) (by decide) (by decide) hx rfl
          generalize rTells tp n 12 0 50 1 4 z4 = q5 at P5 H5
          obtain ⟨b5, z5⟩ := q5
          cases b5 with
          | false =>
            refine ⟨h5, ?_, H5, FrR_tr F1 (FrR_tr F2 (FrR_tr F3 (FrR_tr F4 F5)))⟩
            show _ = some (h5, some (Value.int 0))
            replace P5 : _ = some (h5, some (Value.int 0)) := P5
            simp only [cX6_readWater_, bX6_readWater_0, bX6_readWater_9, bX6_readWater_12, bX6_readWater_23, bX6_readWater_26, bX6_readWater_37, bX6_readWater_40, bX6_readWater_51, bX6_readWater_54, bX6_readWater_65, bX6_readWater_68, bX6_readWater_73, bX6_readWater_76, bX6_readWater_81, bX6_readWater_80, tk1_some, tk0_some, tkc_some, tkc_none, ↓reduceIte, rd_o H, rd_o H1, rd_o H2, rd_o H3, rd_o H4, tm_isO, gf_6_5, P1, P2, P3, P4, P5, show ((1 : Int32) = 0) = False from by decide, if_true, if_false, not_true, not_false_eq_true, tm_rb0, tm_rb1]
          | true =>
            replace P5 : _ = some (h5, some (Value.int 1)) := P5
            replace H5 : RdAt h5 bk n tp z5 := H5
            simp only [rAnd]
            obtain ⟨h6, P6, H6, F6⟩ := r_ends H5 (l := 1) (by decide) hx
            refine ⟨h6, ?_, H6, FrR_tr F1 (FrR_tr F2 (FrR_tr F3 (FrR_tr F4 (FrR_tr F5 F6))))⟩
            show _ = some (h6, some (Value.int 1))
            simp only [cX6_readWater_, bX6_readWater_0, bX6_readWater_9, bX6_readWater_12, bX6_readWater_23, bX6_readWater_26, bX6_readWater_37, bX6_readWater_40, bX6_readWater_51, bX6_readWater_54, bX6_readWater_65, bX6_readWater_68, bX6_readWater_73, bX6_readWater_76, bX6_readWater_81, bX6_readWater_80, tk1_some, tk0_some, tkc_some, tkc_none, ↓reduceIte, rd_o H, rd_o H1, rd_o H2, rd_o H3, rd_o H4, rd_o H5, tm_isO, gf_6_5, P1, P2, P3, P4, P5, P6, show ((1 : Int32) = 0) = False from by decide, if_true, if_false, not_true, not_false_eq_true, tm_rb0, tm_rb1]
def rTurn (tp : Nat → Int32) (n : Nat) (z : RSt) : Bool × RSt := rAnd (rTo tp n 3 z) fun y => rAnd (rTells tp n 16 100 900 3 1 y) fun y => rAnd (rTells tp n 17 0 400 3 2 y) fun y => (true, rEnds tp n 3 y)
theorem r_Turn (H : RdAt h bk n tp z) {x : Nat} (hx : x = bk + 1 + 2 * 3) : ∃ h', tC mX6_readTurn [.ref 40, .ref x] h = some (h', some (.int (bI (rTurn tp n z).1))) ∧ RdAt h' bk n tp (rTurn tp n z).2 ∧ FrR bk h h' := by
  unfold rTurn
  obtain ⟨h1, P1, H1, F1⟩ := r_to H (l := 3) (by decide) hx
  generalize rTo tp n 3 z = q1 at P1 H1
  obtain ⟨b1, z1⟩ := q1
  cases b1 with
  | false =>
    refine ⟨h1, ?_, H1, F1⟩
    show _ = some (h1, some (Value.int 0))
    replace P1 : _ = some (h1, some (Value.int 0)) := P1
    simp only [cX6_readTurn_, bX6_readTurn_0, bX6_readTurn_5, bX6_readTurn_8, bX6_readTurn_21, bX6_readTurn_24, bX6_readTurn_36, bX6_readTurn_39, bX6_readTurn_44, bX6_readTurn_47, bX6_readTurn_52, bX6_readTurn_51, tk1_some, tk0_some, tkc_some, tkc_none, ↓reduceIte, rd_o H, tm_isO, gf_6_5, P1, show ((1 : Int32) = 0) = False from by decide, if_true, if_false, not_true, not_false_eq_true, tm_rb0, tm_rb1]
  | true =>
    replace P1 : _ = some (h1, some (Value.int 1)) := P1
    replace H1 : RdAt h1 bk n tp z1 := H1
    simp only [rAnd]
    obtain ⟨h2, P2, H2, F2⟩ := r_tells H1 (k := 16) (by decide) (lo := 100) (hi := 900) (l := 3) (c := 1) (ci := 1) (by decide) (by decide) hx rfl
    generalize rTells tp n 16 100 900 3 1 z1 = q2 at P2 H2
    obtain ⟨b2, z2⟩ := q2
    cases b2 with
    | false =>
      refine ⟨h2, ?_, H2, FrR_tr F1 F2⟩
      show _ = some (h2, some (Value.int 0))
      replace P2 : _ = some (h2, some (Value.int 0)) := P2
      simp only [cX6_readTurn_, bX6_readTurn_0, bX6_readTurn_5, bX6_readTurn_8, bX6_readTurn_21, bX6_readTurn_24, bX6_readTurn_36, bX6_readTurn_39, bX6_readTurn_44, bX6_readTurn_47, bX6_readTurn_52, bX6_readTurn_51, tk1_some, tk0_some, tkc_some, tkc_none, ↓reduceIte, rd_o H, rd_o H1, tm_isO, gf_6_5, P1, P2, show ((1 : Int32) = 0) = False from by decide, if_true, if_false, not_true, not_false_eq_true, tm_rb0, tm_rb1]
    | true =>
      replace P2 : _ = some (h2, some (Value.int 1)) := P2
      replace H2 : RdAt h2 bk n tp z2 := H2
      simp only [rAnd]
      obtain ⟨h3, P3, H3, F3⟩ := r_tells H2 (k := 17) (by decide) (lo := 0) (hi := 400) (l := 3) (c := 2) (ci := 2) (by decide) (by decide) hx rfl
      generalize rTells tp n 17 0 400 3 2 z2 = q3 at P3 H3
      obtain ⟨b3, z3⟩ := q3
      cases b3 with
      | false =>
        refine ⟨h3, ?_, H3, FrR_tr F1 (FrR_tr F2 F3)⟩
        show _ = some (h3, some (Value.int 0))
        replace P3 : _ = some (h3, some (Value.int 0)) := P3
        simp only [cX6_readTurn_, bX6_readTurn_0, bX6_readTurn_5, bX6_readTurn_8, bX6_readTurn_21, bX6_readTurn_24, bX6_readTurn_36, bX6_readTurn_39, bX6_readTurn_44, bX6_readTurn_47, bX6_readTurn_52, bX6_readTurn_51, tk1_some, tk0_some, tkc_some, tkc_none, ↓reduceIte, rd_o H, rd_o H1, rd_o H2, tm_isO, gf_6_5, P1, P2, P3, show ((1 : Int32) = 0) = False from by decide, if_true, if_false, not_true, not_false_eq_true, tm_rb0, tm_rb1]
      | true =>
        replace P3 : _ = some (h3, some (Value.int 1)) := P3
        replace H3 : RdAt h3 bk n tp z3 := H3
        simp only [rAnd]
        obtain ⟨h4, P4, H4, F4⟩ := r_ends H3 (l := 3) (by decide) hx
        refine ⟨h4, ?_, H4, FrR_tr F1 (FrR_tr F2 (FrR_tr F3 F4))⟩
        show _ = some (h4, some (Value.int 1))
        simp only [cX6_readTurn_, bX6_readTurn_0, bX6_readTurn_5, bX6_readTurn_8, bX6_readTurn_21, bX6_readTurn_24, bX6_readTurn_36, bX6_readTurn_39, bX6_readTurn_44, bX6_readTurn_47, bX6_readTurn_52, bX6_readTurn_51, tk1_some, tk0_some, tkc_some, tkc_none, ↓reduceIte, rd_o H, rd_o H1, rd_o H2, rd_o H3, tm_isO, gf_6_5, P1, P2, P3, P4, show ((1 : Int32) = 0) = False from by decide, if_true, if_false, not_true, not_false_eq_true, tm_rb0, tm_rb1]
def rRed (tp : Nat → Int32) (n : Nat) (z : RSt) : Bool × RSt := rAnd (rName tp n (-1) z) fun y => rAnd (rTellsW tp n 100 999 4 0 y) fun y => rAnd (rTells tp n 18 (zL y) 999 4 1 y) fun y => (true, rEnds tp n 4 y)
theorem r_Red (H : RdAt h bk n tp z) {x : Nat} (hx : x = bk + 1 + 2 * 4) : ∃ h', tC mX6_readRed [.ref 40, .ref x] h = some (h', some (.int (bI (rRed tp n z).1))) ∧ RdAt h' bk n tp (rRed tp n z).2 ∧ FrR bk h h' := by
  unfold rRed
  obtain ⟨h1, P1, H1, F1⟩ := r_name H (kd := -1)
  generalize rName tp n (-1) z = q1 at P1 H1
  obtain ⟨b1, z1⟩ := q1
  cases b1 with
  | false =>
    refine ⟨h1, ?_, H1, F1⟩
    show _ = some (h1, some (Value.int 0))
    replace P1 : _ = some (h1, some (Value.int 0)) := P1
    simp only [cX6_readRed_, bX6_readRed_0, bX6_readRed_5, bX6_readRed_8, bX6_readRed_19, bX6_readRed_22, bX6_readRed_29, bX6_readRed_37, bX6_readRed_40, bX6_readRed_45, bX6_readRed_48, bX6_readRed_53, bX6_readRed_52, tk1_some, tk0_some, tkc_some, tkc_none, ↓reduceIte, rd_o H, tm_isO, gf_6_5, P1, show ((1 : Int32) = 0) = False from by decide, if_true, if_false, not_true, not_false_eq_true, tm_rb0, tm_rb1]
  | true =>
    replace P1 : _ = some (h1, some (Value.int 1)) := P1
    replace H1 : RdAt h1 bk n tp z1 := H1
    simp only [rAnd]
    obtain ⟨h2, P2, H2, F2⟩ := r_tellsW H1 (lo := 100) (hi := 999) (l := 4) (c := 0) (ci := 0) (by decide) (by decide) hx rfl
    generalize rTellsW tp n 100 999 4 0 z1 = q2 at P2 H2
    obtain ⟨b2, z2⟩ := q2
    cases b2 with
    | false =>
      refine ⟨h2, ?_, H2, FrR_tr F1 F2⟩
      show _ = some (h2, some (Value.int 0))
      replace P2 : _ = some (h2, some (Value.int 0)) := P2
      simp only [cX6_readRed_, bX6_readRed_0, bX6_readRed_5, bX6_readRed_8, bX6_readRed_19, bX6_readRed_22, bX6_readRed_29, bX6_readRed_37, bX6_readRed_40, bX6_readRed_45, bX6_readRed_48, bX6_readRed_53, bX6_readRed_52, tk1_some, tk0_some, tkc_some, tkc_none, ↓reduceIte, rd_o H, rd_o H1, tm_isO, gf_6_5, P1, P2, show ((1 : Int32) = 0) = False from by decide, if_true, if_false, not_true, not_false_eq_true, tm_rb0, tm_rb1]
    | true =>
      replace P2 : _ = some (h2, some (Value.int 1)) := P2
      replace H2 : RdAt h2 bk n tp z2 := H2
      simp only [rAnd]
      obtain ⟨h3, P3, H3, F3⟩ := r_tells H2 (k := 18) (by decide) (lo := zL z2) (hi := 999) (l := 4) (c := 1) (ci := 1) (by decide) (by decide) hx rfl
      generalize rTells tp n 18 (zL z2) 999 4 1 z2 = q3 at P3 H3
      obtain ⟨b3, z3⟩ := q3
      cases b3 with
      | false =>
        refine ⟨h3, ?_, H3, FrR_tr F1 (FrR_tr F2 F3)⟩
        show _ = some (h3, some (Value.int 0))
        replace P3 : _ = some (h3, some (Value.int 0)) := P3
        simp only [cX6_readRed_, bX6_readRed_0, bX6_readRed_5, bX6_readRed_8, bX6_readRed_19, bX6_readRed_22, bX6_readRed_29, bX6_readRed_37, bX6_readRed_40, bX6_readRed_45, bX6_readRed_48, bX6_readRed_53, bX6_readRed_52, tk1_some, tk0_some, tkc_some, tkc_none, ↓reduceIte, rd_o H, rd_o H1, rd_o H2, tm_isO, gf_6_5, P1, P2, P3, show ((1 : Int32) = 0) = False from by decide, if_true, if_false, not_true, not_false_eq_true, tm_rb0, tm_rb1]
      | true =>
        replace P3 : _ = some (h3, some (Value.int 1)) := P3
        replace H3 : RdAt h3 bk n tp z3 := H3
        simp only [rAnd]
        obtain ⟨h4, P4, H4, F4⟩ := r_ends H3 (l := 4) (by decide) hx
        refine ⟨h4, ?_, H4, FrR_tr F1 (FrR_tr F2 (FrR_tr F3 F4))⟩
        show _ = some (h4, some (Value.int 1))
        simp only [cX6_readRed_, bX6_readRed_0, bX6_readRed_5, bX6_readRed_8, bX6_readRed_19, bX6_readRed_22, bX6_readRed_29, bX6_readRed_37, bX6_readRed_40, bX6_readRed_45, bX6_readRed_48, bX6_readRed_53, bX6_readRed_52, tk1_some, tk0_some, tkc_some, tkc_none, ↓reduceIte, rd_o H, rd_o H1, rd_o H2, rd_o H3, tm_isO, gf_6_5, P1, P2, P3, P4, show ((1 : Int32) = 0) = False from by decide, if_true, if_false, not_true, not_false_eq_true, tm_rb0, tm_rb1]
def rKind (tp : Nat → Int32) (n : Nat) (z : RSt) : Bool × RSt := rAnd (rName tp n (nI (zC z 2)) z) fun y => rAnd (rTells tp n 13 0 99 2 0 y) fun y => rAnd (rTells tp n 14 0 50 2 1 y) fun y => rAnd (rTells tp n 15 1 999 2 2 y) fun y => (true, rEnds tp n 2 y)
theorem r_Kind (H : RdAt h bk n tp z) {x : Nat} (hx : x = bk + 1 + 2 * 2) : ∃ h', tC mX6_readKind [.ref 40, .ref x] h = some (h', some (.int (bI (rKind tp n z).1))) ∧ RdAt h' bk n tp (rKind tp n z).2 ∧ FrR bk h h' := by
  unfold rKind
  subst hx
  obtain ⟨L1, L2, L3⟩ := rd_l H (l := 2) (by decide)
  have hx : bk + 1 + 2 * 2 = bk + 1 + 2 * 2 := rfl
  have CC : tC mX5_count [.ref (bk + 1 + 2 * 2)] h = some (h, some (.int (nI (zC z 2)))) := ln_count L1
  have CI : tm_isObj (h (bk + 1 + 2 * 2)) 5 = true := by rw [L1]; exact tm_isO
  obtain ⟨h1, P1, H1, F1⟩ := r_name H (kd := nI (zC z 2))
  generalize rName tp n (nI (zC z 2)) z = q1 at P1 H1
  obtain ⟨b1, z1⟩ := q1
  cases b1 with
  | false =>
    refine ⟨h1, ?_, H1, F1⟩
    show _ = some (h1, some (Value.int 0))
    replace P1 : _ = some (h1, some (Value.int 0)) := P1
    simp only [cX6_readKind_, bX6_readKind_0, bX6_readKind_5, bX6_readKind_8, bX6_readKind_11, bX6_readKind_22, bX6_readKind_25, bX6_readKind_36, bX6_readKind_39, bX6_readKind_51, bX6_readKind_54, bX6_readKind_59, bX6_readKind_62, bX6_readKind_67, bX6_readKind_66, tk1_some, tk0_some, tkc_some, tkc_none, ↓reduceIte, rd_o H, tm_isO, CC, CI, gf_6_5, P1, show ((1 : Int32) = 0) = False from by decide, if_true, if_false, not_true, not_false_eq_true, tm_rb0, tm_rb1]
  | true =>
    replace P1 : _ = some (h1, some (Value.int 1)) := P1
    replace H1 : RdAt h1 bk n tp z1 := H1
    simp only [rAnd]
    obtain ⟨h2, P2, H2, F2⟩ := r_tells H1 (k := 13) (by decide) (lo := 0) (hi := 99) (l := 2) (c := 0) (ci := 0) (by decide) (by decide) hx rfl
    generalize rTells tp n 13 0 99 2 0 z1 = q2 at P2 H2
    obtain ⟨b2, z2⟩ := q2
    cases b2 with
    | false =>
      refine ⟨h2, ?_, H2, FrR_tr F1 F2⟩
      show _ = some (h2, some (Value.int 0))
      replace P2 : _ = some (h2, some (Value.int 0)) := P2
      simp only [cX6_readKind_, bX6_readKind_0, bX6_readKind_5, bX6_readKind_8, bX6_readKind_11, bX6_readKind_22, bX6_readKind_25, bX6_readKind_36, bX6_readKind_39, bX6_readKind_51, bX6_readKind_54, bX6_readKind_59, bX6_readKind_62, bX6_readKind_67, bX6_readKind_66, tk1_some, tk0_some, tkc_some, tkc_none, ↓reduceIte, rd_o H, rd_o H1, tm_isO, CC, CI, gf_6_5, P1, P2, show ((1 : Int32) = 0) = False from by decide, if_true, if_false, not_true, not_false_eq_true, tm_rb0, tm_rb1]
    | true =>
      replace P2 : _ = some (h2, some (Value.int 1)) := P2
      replace H2 : RdAt h2 bk n tp z2 := H2
      simp only [rAnd]
      obtain ⟨h3, P3, H3, F3⟩ := r_tells H2 (k := 14) (by decide) (lo := 0) (hi := 50) (l := 2) (c := 1) (ci := 1) (by decide) (by decide) hx rfl
      generalize rTells tp n 14 0 50 2 1 z2 = q3 at P3 H3
      obtain ⟨b3, z3⟩ := q3
      cases b3 with
      | false =>
        refine ⟨h3, ?_, H3, FrR_tr F1 (FrR_tr F2 F3)⟩
        show _ = some (h3, some (Value.int 0))
        replace P3 : _ = some (h3, some (Value.int 0)) := P3
        simp only [cX6_readKind_, bX6_readKind_0, bX6_readKind_5, bX6_readKind_8, bX6_readKind_11, bX6_readKind_22, bX6_readKind_25, bX6_readKind_36, bX6_readKind_39, bX6_readKind_51, bX6_readKind_54, bX6_readKind_59, bX6_readKind_62, bX6_readKind_67, bX6_readKind_66, tk1_some, tk0_some, tkc_some, tkc_none, ↓reduceIte, rd_o H, rd_o H1, rd_o H2, tm_isO, CC, CI, gf_6_5, P1, P2, P3, show ((1 : Int32) = 0) = False from by decide, if_true, if_false, not_true, not_false_eq_true, tm_rb0, tm_rb1]
      | true =>
        replace P3 : _ = some (h3, some (Value.int 1)) := P3
        replace H3 : RdAt h3 bk n tp z3 := H3
        simp only [rAnd]
        obtain ⟨h4, P4, H4, F4⟩ := r_tells H3 (k := 15) (by decide) (lo := 1) (hi := 999) (l := 2) (c := 2) (ci := 2) (by decide) (by decide) hx rfl
        generalize rTells tp n 15 1 999 2 2 z3 = q4 at P4 H4
        obtain ⟨b4, z4⟩ := q4
        cases b4 with
        | false =>
          refine ⟨h4, ?_, H4, FrR_tr F1 (FrR_tr F2 (FrR_tr F3 F4))⟩
          show _ = some (h4, some (Value.int 0))
          replace P4 : _ = some (h4, some (Value.int 0)) := P4
          simp only [cX6_readKind_, bX6_readKind_0, bX6_readKind_5, bX6_readKind_8, bX6_readKind_11, bX6_readKind_22, bX6_readKind_25, bX6_readKind_36, bX6_readKind_39, bX6_readKind_51, bX6_readKind_54, bX6_readKind_59, bX6_readKind_62, bX6_readKind_67, bX6_readKind_66, tk1_some, tk0_some, tkc_some, tkc_none, ↓reduceIte, rd_o H, rd_o H1, rd_o H2, rd_o H3, tm_isO, CC, CI, gf_6_5, P1, P2, P3, P4, show ((1 : Int32) = 0) = False from by decide, if_true, if_false, not_true, not_false_eq_true, tm_rb0, tm_rb1]
        | true =>
          replace P4 : _ = some (h4, some (Value.int 1)) := P4
          replace H4 : RdAt h4 bk n tp z4 := H4
          simp only [rAnd]
          obtain ⟨h5, P5, H5, F5⟩ := r_ends H4 (l := 2) (by decide) hx
          refine ⟨h5, ?_, H5, FrR_tr F1 (FrR_tr F2 (FrR_tr F3 (FrR_tr F4 F5)))⟩
          show _ = some (h5, some (Value.int 1))
          simp only [cX6_readKind_, bX6_readKind_0, bX6_readKind_5, bX6_readKind_8, bX6_readKind_11, bX6_readKind_22, bX6_readKind_25, bX6_readKind_36, bX6_readKind_39, bX6_readKind_51, bX6_readKind_54, bX6_readKind_59, bX6_readKind_62, bX6_readKind_67, bX6_readKind_66, tk1_some, tk0_some, tkc_some, tkc_none, ↓reduceIte, rd_o H, rd_o H1, rd_o H2, rd_o H3, rd_o H4, tm_isO, CC, CI, gf_6_5, P1, P2, P3, P4, P5, show ((1 : Int32) = 0) = False from by decide, if_true, if_false, not_true, not_false_eq_true, tm_rb0, tm_rb1]
/-- signs of a stone, r left -/
def rSigns (tp : Nat → Int32) (n : Nat) : Nat → Int32 → RSt → Bool × RSt
  | 0, s, z => (true, rClose 5 (rPut 5 1 s z))
  | r + 1, s, z =>
    rAnd (rWhole tp 0 7 (rStep tp n z)) fun y =>
      if ((s >>> (zL y &&& 31)) &&& 1) = 1 then (false, rF y 3) else
      if (zT (rStep tp n y)).2.2 = 4 then rSigns tp n r (s ||| ((1 : Int32) <<< (zL y &&& 31))) (rStep tp n y) else (true, rClose 5 (rPut 5 1 (s ||| ((1 : Int32) <<< (zL y &&& 31))) (rStep tp n y)))
theorem sg_end (H : RdAt h bk n tp z) {x : Nat} (hx : x = bk + 1 + 2 * 5) {s : Int32} {a0 a3 : Value} : ∃ h', tE mX6_readSigns 83 [a0, .ref x, .int s, a3] [] h = some (h', some (.int 1)) ∧ RdAt h' bk n tp (rClose 5 (rPut 5 1 s z)) ∧ FrR bk h h' := by
  obtain ⟨h1, P1, H1, F1, I1⟩ := r_put H (l := 5) (c := 1) (ci := 1) (by decide) (by decide) hx rfl (v := s)
  obtain ⟨h2, P2, H2, F2, I2⟩ := r_close H1 (l := 5) (by decide) hx
  refine ⟨h2, ?_, H2, FrR_tr F1 F2⟩
  simp only [bX6_readSigns_83, bX6_readSigns_89, bX6_readSigns_93, tk1_some, tk0_some, tkc_some, tkc_none, ↓reduceIte, I1, P1, I2, P2, tm_rb1]
theorem sg_loop {x : Nat} (hx : x = bk + 1 + 2 * 5) : ∀ r k s h z, RdAt h bk n tp z → k + r = 9 → ∃ h', tE mX6_readSigns 4 [.ref 40, .ref x, .int s, .int (nI k)] [] h = some (h', some (.int (bI (rSigns tp n r s z).1))) ∧ RdAt h' bk n tp (rSigns tp n r s z).2 ∧ FrR bk h h' := by
  intro r
  induction r with
  | zero =>
    intro k s h z H hk
    obtain rfl : k = 9 := by omega
    obtain ⟨h1, P1, H1, F1⟩ := sg_end H hx (s := s) (a0 := .ref 40) (a3 := .int (nI 9))
    refine ⟨h1, ?_, H1, F1⟩
    rw [bX6_readSigns_4, if_pos (by decide), P1]; rfl
  | succ r ih =>
    intro k s h z H hk
    have e1 : ¬ (8 : Int32) < nI k := nI_nlt (a := 8) (b := k) (by omega) (by decide)
    obtain ⟨h1, P1, H1, F1⟩ := r_step H
    obtain ⟨h2, P2, H2, F2⟩ := r_whole H1 (lo := 0) (hi := 7)
    rw [bX6_readSigns_4, if_neg e1]
    unfold rSigns
    generalize rWhole tp 0 7 (rStep tp n z) = q2 at P2 H2
    obtain ⟨b2, z2⟩ := q2
    cases b2 with
    | false =>
      refine ⟨h2, ?_, H2, FrR_tr F1 F2⟩
      show _ = some (h2, some (Value.int 0))
      replace P2 : _ = some (h2, some (Value.int 0)) := P2
      simp only [bX6_readSigns_10, bX6_readSigns_14, bX6_readSigns_17, bX6_readSigns_24, bX6_readSigns_27, tk1_some, tk0_some, tkc_some, tkc_none, ↓reduceIte, rd_o H, rd_o H1, gf_6_0, r_isT H, tm_isO, P1, P2, not_true, if_false, tm_rb0]
    | true =>
      replace P2 : _ = some (h2, some (Value.int 1)) := P2
      replace H2 : RdAt h2 bk n tp z2 := H2
      simp only [rAnd]
      by_cases c : ((s >>> (zL z2 &&& 31)) &&& 1) = 1
      · rw [if_pos c]
        obtain ⟨h3, P3, H3, F3⟩ := r_fails H2 (k := 3)
        refine ⟨h3, ?_, H3, FrR_tr F1 (FrR_tr F2 F3)⟩
        show _ = some (h3, some (Value.int 0))
        simp only [bX6_readSigns_10, bX6_readSigns_14, bX6_readSigns_17, bX6_readSigns_24, bX6_readSigns_29, bX6_readSigns_34, bX6_readSigns_41, bX6_readSigns_46, tk1_some, tk0_some, tkc_some, tkc_none, ↓reduceIte, rd_o H, rd_o H1, rd_o H2, gf_6_0, gf_6_5, r_isT H, tm_isO, P1, P2, P3, c, show ((1 : Int32) = 0) = False from by decide, not_false_eq_true, not_true, if_true, if_false, tm_rb0]
      · rw [if_neg c]
        obtain ⟨h3, P3, H3, F3⟩ := r_step H2
        by_cases d : (zT (rStep tp n z2)).2.2 = 4
        · rw [if_pos d]
          obtain ⟨h4, P4, H4, F4⟩ := ih (k + 1) (s ||| ((1 : Int32) <<< (zL z2 &&& 31))) h3 _ H3 (by omega)
          refine ⟨h4, ?_, H4, FrR_tr F1 (FrR_tr F2 (FrR_tr F3 F4))⟩
          rw [← P4]
          simp only [bX6_readSigns_10, bX6_readSigns_14, bX6_readSigns_17, bX6_readSigns_24, bX6_readSigns_29, bX6_readSigns_34, bX6_readSigns_47, bX6_readSigns_53, bX6_readSigns_60, bX6_readSigns_63, bX6_readSigns_67, bX6_readSigns_70, bX6_readSigns_77, tk1_some, tk0_some, tkc_some, tkc_none, ↓reduceIte, rd_o H, rd_o H1, rd_o H2, rd_o H3, gf_6_0, gf_6_5, r_isT H, r_isT H2, r_isT H3, tm_isO, P1, P2, P3, r_sort H3, c, d, show ((1 : Int32) = 0) = False from by decide, not_false_eq_true, if_true, nI_k1]
        · rw [if_neg d]
          obtain ⟨h4, P4, H4, F4⟩ := sg_end H3 hx (s := s ||| ((1 : Int32) <<< (zL z2 &&& 31))) (a0 := .ref 40) (a3 := .int (nI k))
          refine ⟨h4, ?_, H4, FrR_tr F1 (FrR_tr F2 (FrR_tr F3 F4))⟩
          show _ = some (h4, some (Value.int 1))
          rw [← P4]
          simp only [bX6_readSigns_10, bX6_readSigns_14, bX6_readSigns_17, bX6_readSigns_24, bX6_readSigns_29, bX6_readSigns_34, bX6_readSigns_47, bX6_readSigns_53, bX6_readSigns_60, bX6_readSigns_63, bX6_readSigns_67, bX6_readSigns_70, bX6_readSigns_74, tk1_some, tk0_some, tkc_some, tkc_none, ↓reduceIte, rd_o H, rd_o H1, rd_o H2, rd_o H3, gf_6_0, gf_6_5, r_isT H, r_isT H2, r_isT H3, tm_isO, P1, P2, P3, r_sort H3, c, d, show ((1 : Int32) = 0) = False from by decide, not_false_eq_true, if_true, if_false]
theorem r_signs (H : RdAt h bk n tp z) {x : Nat} (hx : x = bk + 1 + 2 * 5) : ∃ h', tC mX6_readSigns [.ref 40, .ref x] h = some (h', some (.int (bI (rSigns tp n 9 0 z).1))) ∧ RdAt h' bk n tp (rSigns tp n 9 0 z).2 ∧ FrR bk h h' := by
  obtain ⟨h', P, H1, F⟩ := sg_loop hx 9 0 0 h z H (by omega)
  rw [nI_0] at P
  exact ⟨h', by rw [cX6_readSigns_, bX6_readSigns_0, P], H1, F⟩
def rStone (tp : Nat → Int32) (n : Nat) (z : RSt) : Bool × RSt := rAnd (rName tp n (-1) z) fun y => rAnd (rTells tp n 19 1 20 5 0 y) fun y => rAnd (rWord tp n 20 y) fun y => rSigns tp n 9 0 y
theorem r_Stone (H : RdAt h bk n tp z) {x : Nat} (hx : x = bk + 1 + 2 * 5) : ∃ h', tC mX6_readStone [.ref 40, .ref x] h = some (h', some (.int (bI (rStone tp n z).1))) ∧ RdAt h' bk n tp (rStone tp n z).2 ∧ FrR bk h h' := by
  unfold rStone
  obtain ⟨h1, P1, H1, F1⟩ := r_name H (kd := -1)
  generalize rName tp n (-1) z = q1 at P1 H1
  obtain ⟨b1, z1⟩ := q1
  cases b1 with
  | false =>
    refine ⟨h1, ?_, H1, F1⟩
    show _ = some (h1, some (Value.int 0))
    replace P1 : _ = some (h1, some (Value.int 0)) := P1
    simp only [cX6_readStone_, bX6_readStone_0, bX6_readStone_5, bX6_readStone_8, bX6_readStone_19, bX6_readStone_22, bX6_readStone_28, bX6_readStone_31, bX6_readStone_36, bX6_readStone_39, bX6_readStone_44, bX6_readStone_43, tk1_some, tk0_some, tkc_some, tkc_none, ↓reduceIte, rd_o H, tm_isO, gf_6_5, P1, show ((1 : Int32) = 0) = False from by decide, if_true, if_false, not_true, not_false_eq_true, tm_rb0, tm_rb1]
  | true =>
    replace P1 : _ = some (h1, some (Value.int 1)) := P1
    replace H1 : RdAt h1 bk n tp z1 := H1
    simp only [rAnd]
    obtain ⟨h2, P2, H2, F2⟩ := r_tells H1 (k := 19) (by decide) (lo := 1) (hi := 20) (l := 5) (c := 0) (ci := 0) (by decide) (by decide) hx rfl
    generalize rTells tp n 19 1 20 5 0 z1 = q2 at P2 H2
    obtain ⟨b2, z2⟩ := q2
    cases b2 with
    | false =>
      refine ⟨h2, ?_, H2, FrR_tr F1 F2⟩
      show _ = some (h2, some (Value.int 0))
      replace P2 : _ = some (h2, some (Value.int 0)) := P2
      simp only [cX6_readStone_, bX6_readStone_0, bX6_readStone_5, bX6_readStone_8, bX6_readStone_19, bX6_readStone_22, bX6_readStone_28, bX6_readStone_31, bX6_readStone_36, bX6_readStone_39, bX6_readStone_44, bX6_readStone_43, tk1_some, tk0_some, tkc_some, tkc_none, ↓reduceIte, rd_o H, rd_o H1, tm_isO, gf_6_5, P1, P2, show ((1 : Int32) = 0) = False from by decide, if_true, if_false, not_true, not_false_eq_true, tm_rb0, tm_rb1]
    | true =>
      replace P2 : _ = some (h2, some (Value.int 1)) := P2
      replace H2 : RdAt h2 bk n tp z2 := H2
      simp only [rAnd]
      obtain ⟨h3, P3, H3, F3⟩ := r_word H2 (k := 20) (by decide)
      generalize rWord tp n 20 z2 = q3 at P3 H3
      obtain ⟨b3, z3⟩ := q3
      cases b3 with
      | false =>
        refine ⟨h3, ?_, H3, FrR_tr F1 (FrR_tr F2 F3)⟩
        show _ = some (h3, some (Value.int 0))
        replace P3 : _ = some (h3, some (Value.int 0)) := P3
        simp only [cX6_readStone_, bX6_readStone_0, bX6_readStone_5, bX6_readStone_8, bX6_readStone_19, bX6_readStone_22, bX6_readStone_28, bX6_readStone_31, bX6_readStone_36, bX6_readStone_39, bX6_readStone_44, bX6_readStone_43, tk1_some, tk0_some, tkc_some, tkc_none, ↓reduceIte, rd_o H, rd_o H1, rd_o H2, tm_isO, gf_6_5, P1, P2, P3, show ((1 : Int32) = 0) = False from by decide, if_true, if_false, not_true, not_false_eq_true, tm_rb0, tm_rb1]
      | true =>
        replace P3 : _ = some (h3, some (Value.int 1)) := P3
        replace H3 : RdAt h3 bk n tp z3 := H3
        simp only [rAnd]
        obtain ⟨h4, P4, H4, F4⟩ := r_signs H3 hx
        generalize rSigns tp n 9 0 z3 = q4 at P4 H4
        obtain ⟨b4, z4⟩ := q4
        cases b4 with
        | false =>
          refine ⟨h4, ?_, H4, FrR_tr F1 (FrR_tr F2 (FrR_tr F3 F4))⟩
          show _ = some (h4, some (Value.int 0))
          replace P4 : _ = some (h4, some (Value.int 0)) := P4
          simp only [cX6_readStone_, bX6_readStone_0, bX6_readStone_5, bX6_readStone_8, bX6_readStone_19, bX6_readStone_22, bX6_readStone_28, bX6_readStone_31, bX6_readStone_36, bX6_readStone_39, bX6_readStone_44, bX6_readStone_43, tk1_some, tk0_some, tkc_some, tkc_none, ↓reduceIte, rd_o H, rd_o H1, rd_o H2, rd_o H3, tm_isO, gf_6_5, P1, P2, P3, P4, show ((1 : Int32) = 0) = False from by decide, if_true, if_false, not_true, not_false_eq_true, tm_rb0, tm_rb1]
        | true =>
          replace P4 : _ = some (h4, some (Value.int 1)) := P4
          replace H4 : RdAt h4 bk n tp z4 := H4
          refine ⟨h4, ?_, H4, FrR_tr F1 (FrR_tr F2 (FrR_tr F3 F4))⟩
          show _ = some (h4, some (Value.int 1))
          simp only [cX6_readStone_, bX6_readStone_0, bX6_readStone_5, bX6_readStone_8, bX6_readStone_19, bX6_readStone_22, bX6_readStone_28, bX6_readStone_31, bX6_readStone_36, bX6_readStone_39, bX6_readStone_44, bX6_readStone_43, tk1_some, tk0_some, tkc_some, tkc_none, ↓reduceIte, rd_o H, rd_o H1, rd_o H2, rd_o H3, tm_isO, gf_6_5, P1, P2, P3, P4, show ((1 : Int32) = 0) = False from by decide, if_true, if_false, not_true, not_false_eq_true, tm_rb0, tm_rb1]
/-- eight ones, r left -/
def rOnes : Nat → Nat → RSt → RSt
  | 0, _, z => z
  | r + 1, k, z => rOnes r (k + 1) (rPut 6 k 1 z)
def rSmG (tp : Nat → Int32) (n : Nat) : Nat → Nat → RSt → Bool × RSt
  | 0, _, z => (true, rClose 6 z)
  | r + 1, k, z =>
    rAnd (rWhole tp 1 9 (rStep tp n z)) fun y =>
      if k = 8 then (false, rF y 5) else
      if (zT (rStep tp n (rPut 6 k (zL y) y))).2.2 = 4 then rSmG tp n r (k + 1) (rStep tp n (rPut 6 k (zL y) y)) else (true, rClose 6 (rStep tp n (rPut 6 k (zL y) y)))
theorem on_loop {x : Nat} (hx : x = bk + 1 + 2 * 6) : ∀ r k h z, RdAt h bk n tp z → k + r = 8 → ∃ h', tE mX6_readSmith 12 [.ref 40, .ref x, .int (nI k)] [] h = tE mX6_readSmith 32 [.ref 40, .ref x, .int 0] [] h' ∧ RdAt h' bk n tp (rOnes r k z) ∧ FrR bk h h' := by
  intro r
  induction r with
  | zero =>
    intro k h z H hk
    obtain rfl : k = 8 := by omega
    refine ⟨h, ?_, H, FrR_rf _ _⟩
    rw [bX6_readSmith_12, if_pos (by decide), bX6_readSmith_30]
  | succ r ih =>
    intro k h z H hk
    have e1 : ¬ (8 : Int32) ≤ nI k := fun y => (nI_ge (show k < 8 by omega) (show 8 < 2 ^ 31 by decide)) y
    obtain ⟨h1, P1, H1, F1, I1⟩ := r_put H (l := 6) (c := k) (ci := nI k) (by decide) (show k < 8 by omega) hx rfl (v := 1)
    obtain ⟨h2, P2, H2, F2⟩ := ih (k + 1) h1 _ H1 (by omega)
    refine ⟨h2, ?_, H2, FrR_tr F1 F2⟩
    rw [bX6_readSmith_12, if_neg e1]
    simp only [bX6_readSmith_18, bX6_readSmith_24, tk1_some, tk0_some, tkc_some, tkc_none, ↓reduceIte, I1, P1, nI_k1, P2]
theorem sm_end (H : RdAt h bk n tp z) {x : Nat} (hx : x = bk + 1 + 2 * 6) {a0 a3 : Value} : ∃ h', tE mX6_readSmith 105 [a0, .ref x, a3] [] h = some (h', some (.int 1)) ∧ RdAt h' bk n tp (rClose 6 z) ∧ FrR bk h h' := by
  obtain ⟨h2, P2, H2, F2, I2⟩ := r_close H (l := 6) (by decide) hx
  refine ⟨h2, ?_, H2, F2⟩
  simp only [bX6_readSmith_105, bX6_readSmith_109, tk1_some, tk0_some, tkc_some, tkc_none, ↓reduceIte, I2, P2, tm_rb1]
theorem sm_loop {x : Nat} (hx : x = bk + 1 + 2 * 6) : ∀ r k h z, RdAt h bk n tp z → k + r = 9 → ∃ h', tE mX6_readSmith 32 [.ref 40, .ref x, .int (nI k)] [] h = some (h', some (.int (bI (rSmG tp n r k z).1))) ∧ RdAt h' bk n tp (rSmG tp n r k z).2 ∧ FrR bk h h' := by
  intro r
  induction r with
  | zero =>
    intro k h z H hk
    obtain rfl : k = 9 := by omega
    obtain ⟨h1, P1, H1, F1⟩ := sm_end H hx (a0 := .ref 40) (a3 := .int (nI 9))
    refine ⟨h1, ?_, H1, F1⟩
    rw [bX6_readSmith_32, if_pos (by decide), P1]; rfl
  | succ r ih =>
    intro k h z H hk
    have e1 : ¬ (8 : Int32) < nI k := nI_nlt (a := 8) (b := k) (by omega) (by decide)
    obtain ⟨h1, P1, H1, F1⟩ := r_step H
    obtain ⟨h2, P2, H2, F2⟩ := r_whole H1 (lo := 1) (hi := 9)
    rw [bX6_readSmith_32, if_neg e1]
    unfold rSmG
    generalize rWhole tp 1 9 (rStep tp n z) = q2 at P2 H2
    obtain ⟨b2, z2⟩ := q2
    cases b2 with
    | false =>
      refine ⟨h2, ?_, H2, FrR_tr F1 F2⟩
      show _ = some (h2, some (Value.int 0))
      replace P2 : _ = some (h2, some (Value.int 0)) := P2
      simp only [bX6_readSmith_38, bX6_readSmith_42, bX6_readSmith_45, bX6_readSmith_52, bX6_readSmith_55, tk1_some, tk0_some, tkc_some, tkc_none, ↓reduceIte, rd_o H, rd_o H1, gf_6_0, r_isT H, tm_isO, P1, P2, not_true, if_false, tm_rb0]
    | true =>
      replace P2 : _ = some (h2, some (Value.int 1)) := P2
      replace H2 : RdAt h2 bk n tp z2 := H2
      simp only [rAnd]
      by_cases c : k = 8
      · rw [if_pos c]
        have c' : (nI k = 8) = True := eq_true (by rw [c]; rfl)
        obtain ⟨h3, P3, H3, F3⟩ := r_fails H2 (k := 5)
        refine ⟨h3, ?_, H3, FrR_tr F1 (FrR_tr F2 F3)⟩
        show _ = some (h3, some (Value.int 0))
        simp only [bX6_readSmith_38, bX6_readSmith_42, bX6_readSmith_45, bX6_readSmith_52, bX6_readSmith_57, bX6_readSmith_63, bX6_readSmith_68, tk1_some, tk0_some, tkc_some, tkc_none, ↓reduceIte, rd_o H, rd_o H1, rd_o H2, gf_6_0, r_isT H, tm_isO, P1, P2, P3, c', show ((1 : Int32) = 0) = False from by decide, not_false_eq_true, not_true, if_true, if_false, tm_rb0]
      · rw [if_neg c]
        have c' : (nI k = 8) = False := eq_false (fun y => c ((nI_eq (a := k) (b := 8) (by omega) (by decide)).mp y))
        obtain ⟨h3, P3, H3, F3, I3⟩ := r_put H2 (l := 6) (c := k) (ci := nI k) (by decide) (show k < 8 by omega) hx rfl (v := zL z2)
        obtain ⟨h4, P4, H4, F4⟩ := r_step H3
        by_cases d : (zT (rStep tp n (rPut 6 k (zL z2) z2))).2.2 = 4
        · rw [if_pos d]
          obtain ⟨h5, P5, H5, F5⟩ := ih (k + 1) h4 _ H4 (by omega)
          refine ⟨h5, ?_, H5, FrR_tr F1 (FrR_tr F2 (FrR_tr F3 (FrR_tr F4 F5)))⟩
          rw [← P5]
          simp only [bX6_readSmith_38, bX6_readSmith_42, bX6_readSmith_45, bX6_readSmith_52, bX6_readSmith_57, bX6_readSmith_69, bX6_readSmith_75, bX6_readSmith_78, bX6_readSmith_82, bX6_readSmith_85, bX6_readSmith_89, bX6_readSmith_92, bX6_readSmith_99, tk1_some, tk0_some, tkc_some, tkc_none, ↓reduceIte, rd_o H, rd_o H1, rd_o H2, rd_o H3, rd_o H4, gf_6_0, gf_6_5, r_isT H, r_isT H3, r_isT H4, tm_isO, P1, P2, I3, P3, P4, r_sort H4, c', d, show ((1 : Int32) = 0) = False from by decide, not_false_eq_true, if_true, nI_k1]
        · rw [if_neg d]
          obtain ⟨h5, P5, H5, F5⟩ := sm_end H4 hx (a0 := .ref 40) (a3 := .int (nI k))
          refine ⟨h5, ?_, H5, FrR_tr F1 (FrR_tr F2 (FrR_tr F3 (FrR_tr F4 F5)))⟩
          show _ = some (h5, some (Value.int 1))
          rw [← P5]
          simp only [bX6_readSmith_38, bX6_readSmith_42, bX6_readSmith_45, bX6_readSmith_52, bX6_readSmith_57, bX6_readSmith_69, bX6_readSmith_75, bX6_readSmith_78, bX6_readSmith_82, bX6_readSmith_85, bX6_readSmith_89, bX6_readSmith_92, bX6_readSmith_96, tk1_some, tk0_some, tkc_some, tkc_none, ↓reduceIte, rd_o H, rd_o H1, rd_o H2, rd_o H3, rd_o H4, gf_6_0, gf_6_5, r_isT H, r_isT H3, r_isT H4, tm_isO, P1, P2, I3, P3, P4, r_sort H4, c', d, show ((1 : Int32) = 0) = False from by decide, not_false_eq_true, if_true, if_false]
def rSmith (tp : Nat → Int32) (n : Nat) (z : RSt) : Bool × RSt := rAnd (rName tp n (-1) z) fun y => rSmG tp n 9 0 (rOnes 8 0 y)
theorem r_Smith (H : RdAt h bk n tp z) {x : Nat} (hx : x = bk + 1 + 2 * 6) : ∃ h', tC mX6_readSmith [.ref 40, .ref x] h = some (h', some (.int (bI (rSmith tp n z).1))) ∧ RdAt h' bk n tp (rSmith tp n z).2 ∧ FrR bk h h' := by
  unfold rSmith
  obtain ⟨h1, P1, H1, F1⟩ := r_name H (kd := -1)
  generalize rName tp n (-1) z = q1 at P1 H1
  obtain ⟨b1, z1⟩ := q1
  cases b1 with
  | false =>
    refine ⟨h1, ?_, H1, F1⟩
    show _ = some (h1, some (Value.int 0))
    replace P1 : _ = some (h1, some (Value.int 0)) := P1
    simp only [cX6_readSmith_, bX6_readSmith_0, bX6_readSmith_5, bX6_readSmith_8, tk1_some, tk0_some, tkc_some, tkc_none, ↓reduceIte, rd_o H, tm_isO, P1, not_true, if_false, tm_rb0]
  | true =>
    replace P1 : _ = some (h1, some (Value.int 1)) := P1
    replace H1 : RdAt h1 bk n tp z1 := H1
    simp only [rAnd]
    obtain ⟨h2, P2, H2, F2⟩ := on_loop hx 8 0 h1 z1 H1 (by omega)
    obtain ⟨h3, P3, H3, F3⟩ := sm_loop hx 9 0 h2 _ H2 (by omega)
    rw [nI_0] at P2 P3
    refine ⟨h3, ?_, H3, FrR_tr F1 (FrR_tr F2 F3)⟩
    simp only [cX6_readSmith_, bX6_readSmith_0, bX6_readSmith_5, bX6_readSmith_10, tk1_some, tk0_some, tkc_some, tkc_none, ↓reduceIte, rd_o H, tm_isO, P1, show ((1 : Int32) = 0) = False from by decide, not_false_eq_true, if_true, P2, P3]
def rLine (tp : Nat → Int32) (n : Nat) (z : RSt) : Bool × RSt := if isWd tp (zT z) 0 = true then rAnd (rRoom 0 3 z) (rBar tp n) else if isWd tp (zT z) 1 = true then rAnd (rRoom 1 3 z) (rWater tp n) else if isWd tp (zT z) 2 = true then rAnd (rRoom 2 5 z) (rKind tp n) else if isWd tp (zT z) 3 = true then rAnd (rRoom 3 5 z) (rTurn tp n) else if isWd tp (zT z) 4 = true then rAnd (rRoom 4 5 z) (rRed tp n) else if isWd tp (zT z) 5 = true then rAnd (rRoom 5 5 z) (rStone tp n) else if isWd tp (zT z) 6 = true then rAnd (rRoom 6 5 z) (rSmith tp n) else (false, rF z 1)
theorem r_line (H : RdAt h bk n tp z) : ∃ h', tC mX6_readLine [.ref 40] h = some (h', some (.int (bI (rLine tp n z).1))) ∧ RdAt h' bk n tp (rLine tp n z).2 ∧ FrR bk h h' := by
  obtain ⟨lo, hi, B⟩ := H.2.2.2.2.2.1
  unfold rLine
  have w0 := r_isW H (k := 0) (by decide)
  cases c0 : isWd tp (zT z) 0 with
  | true =>
    rw [c0, bI_t] at w0
    simp only [if_true, Bool.false_eq_true, if_false]
    obtain ⟨h1, P1, H1, F1⟩ := r_room H (l := 0) (x := bk + 1) (k := 3) (by decide) (by omega)
    generalize rRoom 0 3 z = q1 at P1 H1
    obtain ⟨b1, z1⟩ := q1
    cases b1 with
    | false =>
      refine ⟨h1, ?_, H1, F1⟩
      show _ = some (h1, some (Value.int 0))
      replace P1 : _ = some (h1, some (Value.int 0)) := P1
      simp only [cX6_readLine_, bX6_readLine_0, bX6_readLine_4, bX6_readLine_9, bX6_readLine_12, bX6_readLine_17, bX6_readLine_20, bX6_readLine_24, bX6_readLine_27, bX6_readLine_32, bX6_readLine_35, bX6_readLine_38, bX6_readLine_41, bX6_readLine_46, bX6_readLine_45, bX6_readLine_47, bX6_readLine_51, bX6_readLine_56, bX6_readLine_59, bX6_readLine_64, bX6_readLine_67, bX6_readLine_71, bX6_readLine_74, bX6_readLine_79, bX6_readLine_82, bX6_readLine_85, bX6_readLine_88, bX6_readLine_93, bX6_readLine_92, bX6_readLine_94, bX6_readLine_98, bX6_readLine_103, bX6_readLine_106, bX6_readLine_111, bX6_readLine_114, bX6_readLine_118, bX6_readLine_121, bX6_readLine_126, bX6_readLine_129, bX6_readLine_132, bX6_readLine_135, bX6_readLine_140, bX6_readLine_139, bX6_readLine_141, bX6_readLine_145, bX6_readLine_150, bX6_readLine_153, bX6_readLine_158, bX6_readLine_161, bX6_readLine_165, bX6_readLine_168, bX6_readLine_173, bX6_readLine_176, bX6_readLine_179, bX6_readLine_182, bX6_readLine_187, bX6_readLine_186, bX6_readLine_188, bX6_readLine_192, bX6_readLine_197, bX6_readLine_200, bX6_readLine_205, bX6_readLine_208, bX6_readLine_212, bX6_readLine_215, bX6_readLine_220, bX6_readLine_223, bX6_readLine_226, bX6_readLine_229, bX6_readLine_234, bX6_readLine_233, bX6_readLine_235, bX6_readLine_239, bX6_readLine_244, bX6_readLine_247, bX6_readLine_252, bX6_readLine_255, bX6_readLine_259, bX6_readLine_262, bX6_readLine_267, bX6_readLine_270, bX6_readLine_273, bX6_readLine_276, bX6_readLine_281, bX6_readLine_280, bX6_readLine_282, bX6_readLine_286, bX6_readLine_291, bX6_readLine_294, bX6_readLine_299, bX6_readLine_302, bX6_readLine_306, bX6_readLine_309, bX6_readLine_314, bX6_readLine_317, bX6_readLine_320, bX6_readLine_323, bX6_readLine_328, bX6_readLine_327, bX6_readLine_329, bX6_readLine_334, tk1_some, tk0_some, tkc_some, tkc_none, ↓reduceIte, rd_o H, gf_6_0, gf_6_4, r_isT H, tm_isO, bk_o B, gf_3_0, w0, P1, show ((1 : Int32) = 0) = False from by decide, if_true, if_false, tm_rb0, tm_rb1]
    | true =>
      replace P1 : _ = some (h1, some (Value.int 1)) := P1
      replace H1 : RdAt h1 bk n tp z1 := H1
      simp only [rAnd]
      obtain ⟨lo1, hi1, B1⟩ := H1.2.2.2.2.2.1
      obtain ⟨h2, P2, H2, F2⟩ := r_Bar H1 (x := bk + 1) (by omega)
      refine ⟨h2, ?_, H2, FrR_tr F1 F2⟩
      cases e : (rBar tp n z1).1 with
      | true =>
        rw [e] at P2
        replace P2 : _ = some (h2, some (Value.int 1)) := P2
        show _ = some (h2, some (Value.int 1))
        simp only [cX6_readLine_, bX6_readLine_0, bX6_readLine_4, bX6_readLine_9, bX6_readLine_12, bX6_readLine_17, bX6_readLine_20, bX6_readLine_24, bX6_readLine_27, bX6_readLine_32, bX6_readLine_35, bX6_readLine_38, bX6_readLine_41, bX6_readLine_46, bX6_readLine_45, bX6_readLine_47, bX6_readLine_51, bX6_readLine_56, bX6_readLine_59, bX6_readLine_64, bX6_readLine_67, bX6_readLine_71, bX6_readLine_74, bX6_readLine_79, bX6_readLine_82, bX6_readLine_85, bX6_readLine_88, bX6_readLine_93, bX6_readLine_92, bX6_readLine_94, bX6_readLine_98, bX6_readLine_103, bX6_readLine_106, bX6_readLine_111, bX6_readLine_114, bX6_readLine_118, bX6_readLine_121, bX6_readLine_126, bX6_readLine_129, bX6_readLine_132, bX6_readLine_135, bX6_readLine_140, bX6_readLine_139, bX6_readLine_141, bX6_readLine_145, bX6_readLine_150, bX6_readLine_153, bX6_readLine_158, bX6_readLine_161, bX6_readLine_165, bX6_readLine_168, bX6_readLine_173, bX6_readLine_176, bX6_readLine_179, bX6_readLine_182, bX6_readLine_187, bX6_readLine_186, bX6_readLine_188, bX6_readLine_192, bX6_readLine_197, bX6_readLine_200, bX6_readLine_205, bX6_readLine_208, bX6_readLine_212, bX6_readLine_215, bX6_readLine_220, bX6_readLine_223, bX6_readLine_226, bX6_readLine_229, bX6_readLine_234, bX6_readLine_233, bX6_readLine_235, bX6_readLine_239, bX6_readLine_244, bX6_readLine_247, bX6_readLine_252, bX6_readLine_255, bX6_readLine_259, bX6_readLine_262, bX6_readLine_267, bX6_readLine_270, bX6_readLine_273, bX6_readLine_276, bX6_readLine_281, bX6_readLine_280, bX6_readLine_282, bX6_readLine_286, bX6_readLine_291, bX6_readLine_294, bX6_readLine_299, bX6_readLine_302, bX6_readLine_306, bX6_readLine_309, bX6_readLine_314, bX6_readLine_317, bX6_readLine_320, bX6_readLine_323, bX6_readLine_328, bX6_readLine_327, bX6_readLine_329, bX6_readLine_334, tk1_some, tk0_some, tkc_some, tkc_none, ↓reduceIte, rd_o H, rd_o H1, gf_6_0, gf_6_4, r_isT H, tm_isO, bk_o B, bk_o B1, gf_3_0, w0, P1, P2, show ((1 : Int32) = 0) = False from by decide, if_true, if_false, tm_rb0, tm_rb1]
      | false =>
        rw [e] at P2
        replace P2 : _ = some (h2, some (Value.int 0)) := P2
        show _ = some (h2, some (Value.int 0))
        simp only [cX6_readLine_, bX6_readLine_0, bX6_readLine_4, bX6_readLine_9, bX6_readLine_12, bX6_readLine_17, bX6_readLine_20, bX6_readLine_24, bX6_readLine_27, bX6_readLine_32, bX6_readLine_35, bX6_readLine_38, bX6_readLine_41, bX6_readLine_46, bX6_readLine_45, bX6_readLine_47, bX6_readLine_51, bX6_readLine_56, bX6_readLine_59, bX6_readLine_64, bX6_readLine_67, bX6_readLine_71, bX6_readLine_74, bX6_readLine_79, bX6_readLine_82, bX6_readLine_85, bX6_readLine_88, bX6_readLine_93, bX6_readLine_92, bX6_readLine_94, bX6_readLine_98, bX6_readLine_103, bX6_readLine_106, bX6_readLine_111, bX6_readLine_114, bX6_readLine_118, bX6_readLine_121, bX6_readLine_126, bX6_readLine_129, bX6_readLine_132, bX6_readLine_135, bX6_readLine_140, bX6_readLine_139, bX6_readLine_141, bX6_readLine_145, bX6_readLine_150, bX6_readLine_153, bX6_readLine_158, bX6_readLine_161, bX6_readLine_165, bX6_readLine_168, bX6_readLine_173, bX6_readLine_176, bX6_readLine_179, bX6_readLine_182, bX6_readLine_187, bX6_readLine_186, bX6_readLine_188, bX6_readLine_192, bX6_readLine_197, bX6_readLine_200, bX6_readLine_205, bX6_readLine_208, bX6_readLine_212, bX6_readLine_215, bX6_readLine_220, bX6_readLine_223, bX6_readLine_226, bX6_readLine_229, bX6_readLine_234, bX6_readLine_233, bX6_readLine_235, bX6_readLine_239, bX6_readLine_244, bX6_readLine_247, bX6_readLine_252, bX6_readLine_255, bX6_readLine_259, bX6_readLine_262, bX6_readLine_267, bX6_readLine_270, bX6_readLine_273, bX6_readLine_276, bX6_readLine_281, bX6_readLine_280, bX6_readLine_282, bX6_readLine_286, bX6_readLine_291, bX6_readLine_294, bX6_readLine_299, bX6_readLine_302, bX6_readLine_306, bX6_readLine_309, bX6_readLine_314, bX6_readLine_317, bX6_readLine_320, bX6_readLine_323, bX6_readLine_328, bX6_readLine_327, bX6_readLine_329, bX6_readLine_334, tk1_some, tk0_some, tkc_some, tkc_none, ↓reduceIte, rd_o H, rd_o H1, gf_6_0, gf_6_4, r_isT H, tm_isO, bk_o B, bk_o B1, gf_3_0, w0, P1, P2, show ((1 : Int32) = 0) = False from by decide, if_true, if_false, tm_rb0, tm_rb1]
  | false =>
    rw [c0, bI_f] at w0
    have w1 := r_isW H (k := 1) (by decide)
    cases c1 : isWd tp (zT z) 1 with
    | true =>
      rw [c1, bI_t] at w1
      simp only [if_true, Bool.false_eq_true, if_false]
      obtain ⟨h1, P1, H1, F1⟩ := r_room H (l := 1) (x := bk + 3) (k := 3) (by decide) (by omega)
      generalize rRoom 1 3 z = q1 at P1 H1
      obtain ⟨b1, z1⟩ := q1
      cases b1 with
      | false =>
        refine ⟨h1, ?_, H1, F1⟩
        show _ = some (h1, some (Value.int 0))
        replace P1 : _ = some (h1, some (Value.int 0)) := P1
        simp only [cX6_readLine_, bX6_readLine_0, bX6_readLine_4, bX6_readLine_9, bX6_readLine_12, bX6_readLine_17, bX6_readLine_20, bX6_readLine_24, bX6_readLine_27, bX6_readLine_32, bX6_readLine_35, bX6_readLine_38, bX6_readLine_41, bX6_readLine_46, bX6_readLine_45, bX6_readLine_47, bX6_readLine_51, bX6_readLine_56, bX6_readLine_59, bX6_readLine_64, bX6_readLine_67, bX6_readLine_71, bX6_readLine_74, bX6_readLine_79, bX6_readLine_82, bX6_readLine_85, bX6_readLine_88, bX6_readLine_93, bX6_readLine_92, bX6_readLine_94, bX6_readLine_98, bX6_readLine_103, bX6_readLine_106, bX6_readLine_111, bX6_readLine_114, bX6_readLine_118, bX6_readLine_121, bX6_readLine_126, bX6_readLine_129, bX6_readLine_132, bX6_readLine_135, bX6_readLine_140, bX6_readLine_139, bX6_readLine_141, bX6_readLine_145, bX6_readLine_150, bX6_readLine_153, bX6_readLine_158, bX6_readLine_161, bX6_readLine_165, bX6_readLine_168, bX6_readLine_173, bX6_readLine_176, bX6_readLine_179, bX6_readLine_182, bX6_readLine_187, bX6_readLine_186, bX6_readLine_188, bX6_readLine_192, bX6_readLine_197, bX6_readLine_200, bX6_readLine_205, bX6_readLine_208, bX6_readLine_212, bX6_readLine_215, bX6_readLine_220, bX6_readLine_223, bX6_readLine_226, bX6_readLine_229, bX6_readLine_234, bX6_readLine_233, bX6_readLine_235, bX6_readLine_239, bX6_readLine_244, bX6_readLine_247, bX6_readLine_252, bX6_readLine_255, bX6_readLine_259, bX6_readLine_262, bX6_readLine_267, bX6_readLine_270, bX6_readLine_273, bX6_readLine_276, bX6_readLine_281, bX6_readLine_280, bX6_readLine_282, bX6_readLine_286, bX6_readLine_291, bX6_readLine_294, bX6_readLine_299, bX6_readLine_302, bX6_readLine_306, bX6_readLine_309, bX6_readLine_314, bX6_readLine_317, bX6_readLine_320, bX6_readLine_323, bX6_readLine_328, bX6_readLine_327, bX6_readLine_329, bX6_readLine_334, tk1_some, tk0_some, tkc_some, tkc_none, ↓reduceIte, rd_o H, gf_6_0, gf_6_4, r_isT H, tm_isO, bk_o B, gf_3_1, w0, w1, P1, show ((1 : Int32) = 0) = False from by decide, if_true, if_false, tm_rb0, tm_rb1]
      | true =>
        replace P1 : _ = some (h1, some (Value.int 1)) := P1
        replace H1 : RdAt h1 bk n tp z1 := H1
        simp only [rAnd]
        obtain ⟨lo1, hi1, B1⟩ := H1.2.2.2.2.2.1
        obtain ⟨h2, P2, H2, F2⟩ := r_Water H1 (x := bk + 3) (by omega)
        refine ⟨h2, ?_, H2, FrR_tr F1 F2⟩
        cases e : (rWater tp n z1).1 with
        | true =>
          rw [e] at P2
          replace P2 : _ = some (h2, some (Value.int 1)) := P2
          show _ = some (h2, some (Value.int 1))
          simp only [cX6_readLine_, bX6_readLine_0, bX6_readLine_4, bX6_readLine_9, bX6_readLine_12, bX6_readLine_17, bX6_readLine_20, bX6_readLine_24, bX6_readLine_27, bX6_readLine_32, bX6_readLine_35, bX6_readLine_38, bX6_readLine_41, bX6_readLine_46, bX6_readLine_45, bX6_readLine_47, bX6_readLine_51, bX6_readLine_56, bX6_readLine_59, bX6_readLine_64, bX6_readLine_67, bX6_readLine_71, bX6_readLine_74, bX6_readLine_79, bX6_readLine_82, bX6_readLine_85, bX6_readLine_88, bX6_readLine_93, bX6_readLine_92, bX6_readLine_94, bX6_readLine_98, bX6_readLine_103, bX6_readLine_106, bX6_readLine_111, bX6_readLine_114, bX6_readLine_118, bX6_readLine_121, bX6_readLine_126, bX6_readLine_129, bX6_readLine_132, bX6_readLine_135, bX6_readLine_140, bX6_readLine_139, bX6_readLine_141, bX6_readLine_145, bX6_readLine_150, bX6_readLine_153, bX6_readLine_158, bX6_readLine_161, bX6_readLine_165, bX6_readLine_168, bX6_readLine_173, bX6_readLine_176, bX6_readLine_179, bX6_readLine_182, bX6_readLine_187, bX6_readLine_186, bX6_readLine_188, bX6_readLine_192, bX6_readLine_197, bX6_readLine_200, bX6_readLine_205, bX6_readLine_208, bX6_readLine_212, bX6_readLine_215, bX6_readLine_220, bX6_readLine_223, bX6_readLine_226, bX6_readLine_229, bX6_readLine_234, bX6_readLine_233, bX6_readLine_235, bX6_readLine_239, bX6_readLine_244, bX6_readLine_247, bX6_readLine_252, bX6_readLine_255, bX6_readLine_259, bX6_readLine_262, bX6_readLine_267, bX6_readLine_270, bX6_readLine_273, bX6_readLine_276, bX6_readLine_281, bX6_readLine_280, bX6_readLine_282, bX6_readLine_286, bX6_readLine_291, bX6_readLine_294, bX6_readLine_299, bX6_readLine_302, bX6_readLine_306, bX6_readLine_309, bX6_readLine_314, bX6_readLine_317, bX6_readLine_320, bX6_readLine_323, bX6_readLine_328, bX6_readLine_327, bX6_readLine_329, bX6_readLine_334, tk1_some, tk0_some, tkc_some, tkc_none, ↓reduceIte, rd_o H, rd_o H1, gf_6_0, gf_6_4, r_isT H, tm_isO, bk_o B, bk_o B1, gf_3_1, w0, w1, P1, P2, show ((1 : Int32) = 0) = False from by decide, if_true, if_false, tm_rb0, tm_rb1]
        | false =>
          rw [e] at P2
          replace P2 : _ = some (h2, some (Value.int 0)) := P2
          show _ = some (h2, some (Value.int 0))
          simp only [cX6_readLine_, bX6_readLine_0, bX6_readLine_4, bX6_readLine_9, bX6_readLine_12, bX6_readLine_17, bX6_readLine_20, bX6_readLine_24, bX6_readLine_27, bX6_readLine_32, bX6_readLine_35, bX6_readLine_38, bX6_readLine_41, bX6_readLine_46, bX6_readLine_45, bX6_readLine_47, bX6_readLine_51, bX6_readLine_56, bX6_readLine_59, bX6_readLine_64, bX6_readLine_67, bX6_readLine_71, bX6_readLine_74, bX6_readLine_79, bX6_readLine_82, bX6_readLine_85, bX6_readLine_88, bX6_readLine_93, bX6_readLine_92, bX6_readLine_94, bX6_readLine_98, bX6_readLine_103, bX6_readLine_106, bX6_readLine_111, bX6_readLine_114, bX6_readLine_118, bX6_readLine_121, bX6_readLine_126, bX6_readLine_129, bX6_readLine_132, bX6_readLine_135, bX6_readLine_140, bX6_readLine_139, bX6_readLine_141, bX6_readLine_145, bX6_readLine_150, bX6_readLine_153, bX6_readLine_158, bX6_readLine_161, bX6_readLine_165, bX6_readLine_168, bX6_readLine_173, bX6_readLine_176, bX6_readLine_179, bX6_readLine_182, bX6_readLine_187, bX6_readLine_186, bX6_readLine_188, bX6_readLine_192, bX6_readLine_197, bX6_readLine_200, bX6_readLine_205, bX6_readLine_208, bX6_readLine_212, bX6_readLine_215, bX6_readLine_220, bX6_readLine_223, bX6_readLine_226, bX6_readLine_229, bX6_readLine_234, bX6_readLine_233, bX6_readLine_235, bX6_readLine_239, bX6_readLine_244, bX6_readLine_247, bX6_readLine_252, bX6_readLine_255, bX6_readLine_259, bX6_readLine_262, bX6_readLine_267, bX6_readLine_270, bX6_readLine_273, bX6_readLine_276, bX6_readLine_281, bX6_readLine_280, bX6_readLine_282, bX6_readLine_286, bX6_readLine_291, bX6_readLine_294, bX6_readLine_299, bX6_readLine_302, bX6_readLine_306, bX6_readLine_309, bX6_readLine_314, bX6_readLine_317, bX6_readLine_320, bX6_readLine_323, bX6_readLine_328, bX6_readLine_327, bX6_readLine_329, bX6_readLine_334, tk1_some, tk0_some, tkc_some, tkc_none, ↓reduceIte, rd_o H, rd_o H1, gf_6_0, gf_6_4, r_isT H, tm_isO, bk_o B, bk_o B1, gf_3_1, w0, w1, P1, P2, show ((1 : Int32) = 0) = False from by decide, if_true, if_false, tm_rb0, tm_rb1]
    | false =>
      rw [c1, bI_f] at w1
      have w2 := r_isW H (k := 2) (by decide)
      cases c2 : isWd tp (zT z) 2 with
      | true =>
        rw [c2, bI_t] at w2
        simp only [if_true, Bool.false_eq_true, if_false]
        obtain ⟨h1, P1, H1, F1⟩ := r_room H (l := 2) (x := bk + 5) (k := 5) (by decide) (by omega)
        generalize rRoom 2 5 z = q1 at P1 H1
        obtain ⟨b1, z1⟩ := q1
        cases b1 with
        | false =>
          refine ⟨h1, ?_, H1, F1⟩
          show _ = some (h1, some (Value.int 0))
          replace P1 : _ = some (h1, some (Value.int 0)) := P1
          simp only [cX6_readLine_, bX6_readLine_0, bX6_readLine_4, bX6_readLine_9, bX6_readLine_12, bX6_readLine_17, bX6_readLine_20, bX6_readLine_24, bX6_readLine_27, bX6_readLine_32, bX6_readLine_35, bX6_readLine_38, bX6_readLine_41, bX6_readLine_46, bX6_readLine_45, bX6_readLine_47, bX6_readLine_51, bX6_readLine_56, bX6_readLine_59, bX6_readLine_64, bX6_readLine_67, bX6_readLine_71, bX6_readLine_74, bX6_readLine_79, bX6_readLine_82, bX6_readLine_85, bX6_readLine_88, bX6_readLine_93, bX6_readLine_92, bX6_readLine_94, bX6_readLine_98, bX6_readLine_103, bX6_readLine_106, bX6_readLine_111, bX6_readLine_114, bX6_readLine_118, bX6_readLine_121, bX6_readLine_126, bX6_readLine_129, bX6_readLine_132, bX6_readLine_135, bX6_readLine_140, bX6_readLine_139, bX6_readLine_141, bX6_readLine_145, bX6_readLine_150, bX6_readLine_153, bX6_readLine_158, bX6_readLine_161, bX6_readLine_165, bX6_readLine_168, bX6_readLine_173, bX6_readLine_176, bX6_readLine_179, bX6_readLine_182, bX6_readLine_187, bX6_readLine_186, bX6_readLine_188, bX6_readLine_192, bX6_readLine_197, bX6_readLine_200, bX6_readLine_205, bX6_readLine_208, bX6_readLine_212, bX6_readLine_215, bX6_readLine_220, bX6_readLine_223, bX6_readLine_226, bX6_readLine_229, bX6_readLine_234, bX6_readLine_233, bX6_readLine_235, bX6_readLine_239, bX6_readLine_244, bX6_readLine_247, bX6_readLine_252, bX6_readLine_255, bX6_readLine_259, bX6_readLine_262, bX6_readLine_267, bX6_readLine_270, bX6_readLine_273, bX6_readLine_276, bX6_readLine_281, bX6_readLine_280, bX6_readLine_282, bX6_readLine_286, bX6_readLine_291, bX6_readLine_294, bX6_readLine_299, bX6_readLine_302, bX6_readLine_306, bX6_readLine_309, bX6_readLine_314, bX6_readLine_317, bX6_readLine_320, bX6_readLine_323, bX6_readLine_328, bX6_readLine_327, bX6_readLine_329, bX6_readLine_334, tk1_some, tk0_some, tkc_some, tkc_none, ↓reduceIte, rd_o H, gf_6_0, gf_6_4, r_isT H, tm_isO, bk_o B, gf_3_2, w0, w1, w2, P1, show ((1 : Int32) = 0) = False from by decide, if_true, if_false, tm_rb0, tm_rb1]
        | true =>
          replace P1 : _ = some (h1, some (Value.int 1)) := P1
          replace H1 : RdAt h1 bk n tp z1 := H1
          simp only [rAnd]
          obtain ⟨lo1, hi1, B1⟩ := H1.2.2.2.2.2.1
          obtain ⟨h2, P2, H2, F2⟩ := r_Kind H1 (x := bk + 5) (by omega)
          refine ⟨h2, ?_, H2, FrR_tr F1 F2⟩
          cases e : (rKind tp n z1).1 with
          | true =>
            rw [e] at P2
            replace P2 : _ = some (h2, some (Value.int 1)) := P2
            show _ = some (h2, some (Value.int 1))
            simp only [cX6_readLine_, bX6_readLine_0, bX6_readLine_4, bX6_readLine_9, bX6_readLine_12, bX6_readLine_17, bX6_readLine_20, bX6_readLine_24, bX6_readLine_27, bX6_readLine_32, bX6_readLine_35, bX6_readLine_38, bX6_readLine_41, bX6_readLine_46, bX6_readLine_45, bX6_readLine_47, bX6_readLine_51, bX6_readLine_56, bX6_readLine_59, bX6_readLine_64, bX6_readLine_67, bX6_readLine_71, bX6_readLine_74, bX6_readLine_79, bX6_readLine_82, bX6_readLine_85, bX6_readLine_88, bX6_readLine_93, bX6_readLine_92, bX6_readLine_94, bX6_readLine_98, bX6_readLine_103, bX6_readLine_106, bX6_readLine_111, bX6_readLine_114, bX6_readLine_118, bX6_readLine_121, bX6_readLine_126, bX6_readLine_129, bX6_readLine_132, bX6_readLine_135, bX6_readLine_140, bX6_readLine_139, bX6_readLine_141, bX6_readLine_145, bX6_readLine_150, bX6_readLine_153, bX6_readLine_158, bX6_readLine_161, bX6_readLine_165, bX6_readLine_168, bX6_readLine_173, bX6_readLine_176, bX6_readLine_179, bX6_readLine_182, bX6_readLine_187, bX6_readLine_186, bX6_readLine_188, bX6_readLine_192, bX6_readLine_197, bX6_readLine_200, bX6_readLine_205, bX6_readLine_208, bX6_readLine_212, bX6_readLine_215, bX6_readLine_220, bX6_readLine_223, bX6_readLine_226, bX6_readLine_229, bX6_readLine_234, bX6_readLine_233, bX6_readLine_235, bX6_readLine_239, bX6_readLine_244, bX6_readLine_247, bX6_readLine_252, bX6_readLine_255, bX6_readLine_259, bX6_readLine_262, bX6_readLine_267, bX6_readLine_270, bX6_readLine_273, bX6_readLine_276, bX6_readLine_281, bX6_readLine_280, bX6_readLine_282, bX6_readLine_286, bX6_readLine_291, bX6_readLine_294, bX6_readLine_299, bX6_readLine_302, bX6_readLine_306, bX6_readLine_309, bX6_readLine_314, bX6_readLine_317, bX6_readLine_320, bX6_readLine_323, bX6_readLine_328, bX6_readLine_327, bX6_readLine_329, bX6_readLine_334, tk1_some, tk0_some, tkc_some, tkc_none, ↓reduceIte, rd_o H, rd_o H1, gf_6_0, gf_6_4, r_isT H, tm_isO, bk_o B, bk_o B1, gf_3_2, w0, w1, w2, P1, P2, show ((1 : Int32) = 0) = False from by decide, if_true, if_false, tm_rb0, tm_rb1]
          | false =>
            rw [e] at P2
            replace P2 : _ = some (h2, some (Value.int 0)) := P2
            show _ = some (h2, some (Value.int 0))
            simp only [cX6_readLine_, bX6_readLine_0, bX6_readLine_4, bX6_readLine_9, bX6_readLine_12, bX6_readLine_17, bX6_readLine_20, bX6_readLine_24, bX6_readLine_27, bX6_readLine_32, bX6_readLine_35, bX6_readLine_38, bX6_readLine_41, bX6_readLine_46, bX6_readLine_45, bX6_readLine_47, bX6_readLine_51, bX6_readLine_56, bX6_readLine_59, bX6_readLine_64, bX6_readLine_67, bX6_readLine_71, bX6_readLine_74, bX6_readLine_79, bX6_readLine_82, bX6_readLine_85, bX6_readLine_88, bX6_readLine_93, bX6_readLine_92, bX6_readLine_94, bX6_readLine_98, bX6_readLine_103, bX6_readLine_106, bX6_readLine_111, bX6_readLine_114, bX6_readLine_118, bX6_readLine_121, bX6_readLine_126, bX6_readLine_129, bX6_readLine_132, bX6_readLine_135, bX6_readLine_140, bX6_readLine_139, bX6_readLine_141, bX6_readLine_145, bX6_readLine_150, bX6_readLine_153, bX6_readLine_158, bX6_readLine_161, bX6_readLine_165, bX6_readLine_168, bX6_readLine_173, bX6_readLine_176, bX6_readLine_179, bX6_readLine_182, bX6_readLine_187, bX6_readLine_186, bX6_readLine_188, bX6_readLine_192, bX6_readLine_197, bX6_readLine_200, bX6_readLine_205, bX6_readLine_208, bX6_readLine_212, bX6_readLine_215, bX6_readLine_220, bX6_readLine_223, bX6_readLine_226, bX6_readLine_229, bX6_readLine_234, bX6_readLine_233, bX6_readLine_235, bX6_readLine_239, bX6_readLine_244, bX6_readLine_247, bX6_readLine_252, bX6_readLine_255, bX6_readLine_259, bX6_readLine_262, bX6_readLine_267, bX6_readLine_270, bX6_readLine_273, bX6_readLine_276, bX6_readLine_281, bX6_readLine_280, bX6_readLine_282, bX6_readLine_286, bX6_readLine_291, bX6_readLine_294, bX6_readLine_299, bX6_readLine_302, bX6_readLine_306, bX6_readLine_309, bX6_readLine_314, bX6_readLine_317, bX6_readLine_320, bX6_readLine_323, bX6_readLine_328, bX6_readLine_327, bX6_readLine_329, bX6_readLine_334, tk1_some, tk0_some, tkc_some, tkc_none, ↓reduceIte, rd_o H, rd_o H1, gf_6_0, gf_6_4, r_isT H, tm_isO, bk_o B, bk_o B1, gf_3_2, w0, w1, w2, P1, P2, show ((1 : Int32) = 0) = False from by decide, if_true, if_false, tm_rb0, tm_rb1]
      | false =>
        rw [c2, bI_f] at w2
        have w3 := r_isW H (k := 3) (by decide)
        cases c3 : isWd tp (zT z) 3 with
        | true =>
          rw [c3, bI_t] at w3
          simp only [if_true, Bool.false_eq_true, if_false]
          obtain ⟨h1, P1, H1, F1⟩ := r_room H (l := 3) (x := bk + 7) (k := 5) (by decide) (by omega)
          generalize rRoom 3 5 z = q1 at P1 H1
          obtain ⟨b1, z1⟩ := q1
          cases b1 with
          | false =>
            refine ⟨h1, ?_, H1, F1⟩
            show _ = some (h1, some (Value.int 0))
            replace P1 : _ = some (h1, some (Value.int 0)) := P1
            simp only [cX6_readLine_, bX6_readLine_0, bX6_readLine_4, bX6_readLine_9, bX6_readLine_12, bX6_readLine_17, bX6_readLine_20, bX6_readLine_24, bX6_readLine_27, bX6_readLine_32, bX6_readLine_35, bX6_readLine_38, bX6_readLine_41, bX6_readLine_46, bX6_readLine_45, bX6_readLine_47, bX6_readLine_51, bX6_readLine_56, bX6_readLine_59, bX6_readLine_64, bX6_readLine_67, bX6_readLine_71, bX6_readLine_74, bX6_readLine_79, bX6_readLine_82, bX6_readLine_85, bX6_readLine_88, bX6_readLine_93, bX6_readLine_92, bX6_readLine_94, bX6_readLine_98, bX6_readLine_103, bX6_readLine_106, bX6_readLine_111, bX6_readLine_114, bX6_readLine_118, bX6_readLine_121, bX6_readLine_126, bX6_readLine_129, bX6_readLine_132, bX6_readLine_135, bX6_readLine_140, bX6_readLine_139, bX6_readLine_141, bX6_readLine_145, bX6_readLine_150, bX6_readLine_153, bX6_readLine_158, bX6_readLine_161, bX6_readLine_165, bX6_readLine_168, bX6_readLine_173, bX6_readLine_176, bX6_readLine_179, bX6_readLine_182, bX6_readLine_187, bX6_readLine_186, bX6_readLine_188, bX6_readLine_192, bX6_readLine_197, bX6_readLine_200, bX6_readLine_205, bX6_readLine_208, bX6_readLine_212, bX6_readLine_215, bX6_readLine_220, bX6_readLine_223, bX6_readLine_226, bX6_readLine_229, bX6_readLine_234, bX6_readLine_233, bX6_readLine_235, bX6_readLine_239, bX6_readLine_244, bX6_readLine_247, bX6_readLine_252, bX6_readLine_255, bX6_readLine_259, bX6_readLine_262, bX6_readLine_267, bX6_readLine_270, bX6_readLine_273, bX6_readLine_276, bX6_readLine_281, bX6_readLine_280, bX6_readLine_282, bX6_readLine_286, bX6_readLine_291, bX6_readLine_294, bX6_readLine_299, bX6_readLine_302, bX6_readLine_306, bX6_readLine_309, bX6_readLine_314, bX6_readLine_317, bX6_readLine_320, bX6_readLine_323, bX6_readLine_328, bX6_readLine_327, bX6_readLine_329, bX6_readLine_334, tk1_some, tk0_some, tkc_some, tkc_none, ↓reduceIte, rd_o H, gf_6_0, gf_6_4, r_isT H, tm_isO, bk_o B, gf_3_3, w0, w1, w2, w3, P1, show ((1 : Int32) = 0) = False from by decide, if_true, if_false, tm_rb0, tm_rb1]
          | true =>
            replace P1 : _ = some (h1, some (Value.int 1)) := P1
            replace H1 : RdAt h1 bk n tp z1 := H1
            simp only [rAnd]
            obtain ⟨lo1, hi1, B1⟩ := H1.2.2.2.2.2.1
            obtain ⟨h2, P2, H2, F2⟩ := r_Turn H1 (x := bk + 7) (by omega)
            refine ⟨h2, ?_, H2, FrR_tr F1 F2⟩
            cases e : (rTurn tp n z1).1 with
            | true =>
              rw [e] at P2
              replace P2 : _ = some (h2, some (Value.int 1)) := P2
              show _ = some (h2, some (Value.int 1))
              simp only [cX6_readLine_, bX6_readLine_0, bX6_readLine_4, bX6_readLine_9, bX6_readLine_12, bX6_readLine_17, bX6_readLine_20, bX6_readLine_24, bX6_readLine_27, bX6_readLine_32, bX6_readLine_35, bX6_readLine_38, bX6_readLine_41, bX6_readLine_46, bX6_readLine_45, bX6_readLine_47, bX6_readLine_51, bX6_readLine_56, bX6_readLine_59, bX6_readLine_64, bX6_readLine_67, bX6_readLine_71, bX6_readLine_74, bX6_readLine_79, bX6_readLine_82, bX6_readLine_85, bX6_readLine_88, bX6_readLine_93, bX6_readLine_92, bX6_readLine_94, bX6_readLine_98, bX6_readLine_103, bX6_readLine_106, bX6_readLine_111, bX6_readLine_114, bX6_readLine_118, bX6_readLine_121, bX6_readLine_126, bX6_readLine_129, bX6_readLine_132, bX6_readLine_135, bX6_readLine_140, bX6_readLine_139, bX6_readLine_141, bX6_readLine_145, bX6_readLine_150, bX6_readLine_153, bX6_readLine_158, bX6_readLine_161, bX6_readLine_165, bX6_readLine_168, bX6_readLine_173, bX6_readLine_176, bX6_readLine_179, bX6_readLine_182, bX6_readLine_187, bX6_readLine_186, bX6_readLine_188, bX6_readLine_192, bX6_readLine_197, bX6_readLine_200, bX6_readLine_205, bX6_readLine_208, bX6_readLine_212, bX6_readLine_215, bX6_readLine_220, bX6_readLine_223, bX6_readLine_226, bX6_readLine_229, bX6_readLine_234, bX6_readLine_233, bX6_readLine_235, bX6_readLine_239, bX6_readLine_244, bX6_readLine_247, bX6_readLine_252, bX6_readLine_255, bX6_readLine_259, bX6_readLine_262, bX6_readLine_267, bX6_readLine_270, bX6_readLine_273, bX6_readLine_276, bX6_readLine_281, bX6_readLine_280, bX6_readLine_282, bX6_readLine_286, bX6_readLine_291, bX6_readLine_294, bX6_readLine_299, bX6_readLine_302, bX6_readLine_306, bX6_readLine_309, bX6_readLine_314, bX6_readLine_317, bX6_readLine_320, bX6_readLine_323, bX6_readLine_328, bX6_readLine_327, bX6_readLine_329, bX6_readLine_334, tk1_some, tk0_some, tkc_some, tkc_none, ↓reduceIte, rd_o H, rd_o H1, gf_6_0, gf_6_4, r_isT H, tm_isO, bk_o B, bk_o B1, gf_3_3, w0, w1, w2, w3, P1, P2, show ((1 : Int32) = 0) = False from by decide, if_true, if_false, tm_rb0, tm_rb1]
            | false =>
              rw [e] at P2
              replace P2 : _ = some (h2, some (Value.int 0)) := P2
              show _ = some (h2, some (Value.int 0))
              simp only [cX6_readLine_, bX6_readLine_0, bX6_readLine_4, bX6_readLine_9, bX6_readLine_12, bX6_readLine_17, bX6_readLine_20, bX6_readLine_24, bX6_readLine_27, bX6_readLine_32, bX6_readLine_35, bX6_readLine_38, bX6_readLine_41, bX6_readLine_46, bX6_readLine_45, bX6_readLine_47, bX6_readLine_51, bX6_readLine_56, bX6_readLine_59, bX6_readLine_64, bX6_readLine_67, bX6_readLine_71, bX6_readLine_74, bX6_readLine_79, bX6_readLine_82, bX6_readLine_85, bX6_readLine_88, bX6_readLine_93, bX6_readLine_92, bX6_readLine_94, bX6_readLine_98, bX6_readLine_103, bX6_readLine_106, bX6_readLine_111, bX6_readLine_114, bX6_readLine_118, bX6_readLine_121, bX6_readLine_126, bX6_readLine_129, bX6_readLine_132, bX6_readLine_135, bX6_readLine_140, bX6_readLine_139, bX6_readLine_141, bX6_readLine_145, bX6_readLine_150, bX6_readLine_153, bX6_readLine_158, bX6_readLine_161, bX6_readLine_165, bX6_readLine_168, bX6_readLine_173, bX6_readLine_176, bX6_readLine_179, bX6_readLine_182, bX6_readLine_187, bX6_readLine_186, bX6_readLine_188, bX6_readLine_192, bX6_readLine_197, bX6_readLine_200, bX6_readLine_205, bX6_readLine_208, bX6_readLine_212, bX6_readLine_215, bX6_readLine_220, bX6_readLine_223, bX6_readLine_226, bX6_readLine_229, bX6_readLine_234, bX6_readLine_233, bX6_readLine_235, bX6_readLine_239, bX6_readLine_244, bX6_readLine_247, bX6_readLine_252, bX6_readLine_255, bX6_readLine_259, bX6_readLine_262, bX6_readLine_267, bX6_readLine_270, bX6_readLine_273, bX6_readLine_276, bX6_readLine_281, bX6_readLine_280, bX6_readLine_282, bX6_readLine_286, bX6_readLine_291, bX6_readLine_294, bX6_readLine_299, bX6_readLine_302, bX6_readLine_306, bX6_readLine_309, bX6_readLine_314, bX6_readLine_317, bX6_readLine_320, bX6_readLine_323, bX6_readLine_328, bX6_readLine_327, bX6_readLine_329, bX6_readLine_334, tk1_some, tk0_some, tkc_some, tkc_none, ↓reduceIte, rd_o H, rd_o H1, gf_6_0, gf_6_4, r_isT H, tm_isO, bk_o B, bk_o B1, gf_3_3, w0, w1, w2, w3, P1, P2, show ((1 : Int32) = 0) = False from by decide, if_true, if_false, tm_rb0, tm_rb1]
        | false =>
          rw [c3, bI_f] at w3
          have w4 := r_isW H (k := 4) (by decide)
          cases c4 : isWd tp (zT z) 4 with
          | true =>
            rw [c4, bI_t] at w4
            simp only [if_true, Bool.false_eq_true, if_false]
            obtain ⟨h1, P1, H1, F1⟩ := r_room H (l := 4) (x := bk + 9) (k := 5) (by decide) (by omega)
            generalize rRoom 4 5 z = q1 at P1 H1
            obtain ⟨b1, z1⟩ := q1
            cases b1 with
            | false =>
              refine ⟨h1, ?_, H1, F1⟩
              show _ = some (h1, some (Value.int 0))
              replace P1 : _ = some (h1, some (Value.int 0)) := P1
              simp only [cX6_readLine_, bX6_readLine_0, bX6_readLine_4, bX6_readLine_9, bX6_readLine_12, bX6_readLine_17, bX6_readLine_20, bX6_readLine_24, bX6_readLine_27, bX6_readLine_32, bX6_readLine_35, bX6_readLine_38, bX6_readLine_41, bX6_readLine_46, bX6_readLine_45, bX6_readLine_47, bX6_readLine_51, bX6_readLine_56, bX6_readLine_59, bX6_readLine_64, bX6_readLine_67, bX6_readLine_71, bX6_readLine_74, bX6_readLine_79, bX6_readLine_82, bX6_readLine_85, bX6_readLine_88, bX6_readLine_93, bX6_readLine_92, bX6_readLine_94, bX6_readLine_98, bX6_readLine_103, bX6_readLine_106, bX6_readLine_111, bX6_readLine_114, bX6_readLine_118, bX6_readLine_121, bX6_readLine_126, bX6_readLine_129, bX6_readLine_132, bX6_readLine_135, bX6_readLine_140, bX6_readLine_139, bX6_readLine_141, bX6_readLine_145, bX6_readLine_150, bX6_readLine_153, bX6_readLine_158, bX6_readLine_161, bX6_readLine_165, bX6_readLine_168, bX6_readLine_173, bX6_readLine_176, bX6_readLine_179, bX6_readLine_182, bX6_readLine_187, bX6_readLine_186, bX6_readLine_188, bX6_readLine_192, bX6_readLine_197, bX6_readLine_200, bX6_readLine_205, bX6_readLine_208, bX6_readLine_212, bX6_readLine_215, bX6_readLine_220, bX6_readLine_223, bX6_readLine_226, bX6_readLine_229, bX6_readLine_234, bX6_readLine_233, bX6_readLine_235, bX6_readLine_239, bX6_readLine_244, bX6_readLine_247, bX6_readLine_252, bX6_readLine_255, bX6_readLine_259, bX6_readLine_262, bX6_readLine_267, bX6_readLine_270, bX6_readLine_273, bX6_readLine_276, bX6_readLine_281, bX6_readLine_280, bX6_readLine_282, bX6_readLine_286, bX6_readLine_291, bX6_readLine_294, bX6_readLine_299, bX6_readLine_302, bX6_readLine_306, bX6_readLine_309, bX6_readLine_314, bX6_readLine_317, bX6_readLine_320, bX6_readLine_323, bX6_readLine_328, bX6_readLine_327, bX6_readLine_329, bX6_readLine_334, tk1_some, tk0_some, tkc_some, tkc_none, ↓reduceIte, rd_o H, gf_6_0, gf_6_4, r_isT H, tm_isO, bk_o B, gf_3_4, w0, w1, w2, w3, w4, P1, show ((1 : Int32) = 0) = False from by decide, if_true, if_false, tm_rb0, tm_rb1]
            | true =>
              replace P1 : _ = some (h1, some (Value.int 1)) := P1
              replace H1 : RdAt h1 bk n tp z1 := H1
              simp only [rAnd]
              obtain ⟨lo1, hi1, B1⟩ := H1.2.2.2.2.2.1
              obtain ⟨h2, P2, H2, F2⟩ := r_Red H1 (x := bk + 9) (by omega)
              refine ⟨h2, ?_, H2, FrR_tr F1 F2⟩
              cases e : (rRed tp n z1).1 with
              | true =>
                rw [e] at P2
                replace P2 : _ = some (h2, some (Value.int 1)) := P2
                show _ = some (h2, some (Value.int 1))
                simp only [cX6_readLine_, bX6_readLine_0, bX6_readLine_4, bX6_readLine_9, bX6_readLine_12, bX6_readLine_17, bX6_readLine_20, bX6_readLine_24, bX6_readLine_27, bX6_readLine_32, bX6_readLine_35, bX6_readLine_38, bX6_readLine_41, bX6_readLine_46, bX6_readLine_45, bX6_readLine_47, bX6_readLine_51, bX6_readLine_56, bX6_readLine_59, bX6_readLine_64, bX6_readLine_67, bX6_readLine_71, bX6_readLine_74, bX6_readLine_79, bX6_readLine_82, bX6_readLine_85, bX6_readLine_88, bX6_readLine_93, bX6_readLine_92, bX6_readLine_94, bX6_readLine_98, bX6_readLine_103, bX6_readLine_106, bX6_readLine_111, bX6_readLine_114, bX6_readLine_118, bX6_readLine_121, bX6_readLine_126, bX6_readLine_129, bX6_readLine_132, bX6_readLine_135, bX6_readLine_140, bX6_readLine_139, bX6_readLine_141, bX6_readLine_145, bX6_readLine_150, bX6_readLine_153, bX6_readLine_158, bX6_readLine_161, bX6_readLine_165, bX6_readLine_168, bX6_readLine_173, bX6_readLine_176, bX6_readLine_179, bX6_readLine_182, bX6_readLine_187, bX6_readLine_186, bX6_readLine_188, bX6_readLine_192, bX6_readLine_197, bX6_readLine_200, bX6_readLine_205, bX6_readLine_208, bX6_readLine_212, bX6_readLine_215, bX6_readLine_220, bX6_readLine_223, bX6_readLine_226, bX6_readLine_229, bX6_readLine_234, bX6_readLine_233, bX6_readLine_235, bX6_readLine_239, bX6_readLine_244, bX6_readLine_247, bX6_readLine_252, bX6_readLine_255, bX6_readLine_259, bX6_readLine_262, bX6_readLine_267, bX6_readLine_270, bX6_readLine_273, bX6_readLine_276, bX6_readLine_281, bX6_readLine_280, bX6_readLine_282, bX6_readLine_286, bX6_readLine_291, bX6_readLine_294, bX6_readLine_299, bX6_readLine_302, bX6_readLine_306, bX6_readLine_309, bX6_readLine_314, bX6_readLine_317, bX6_readLine_320, bX6_readLine_323, bX6_readLine_328, bX6_readLine_327, bX6_readLine_329, bX6_readLine_334, tk1_some, tk0_some, tkc_some, tkc_none, ↓reduceIte, rd_o H, rd_o H1, gf_6_0, gf_6_4, r_isT H, tm_isO, bk_o B, bk_o B1, gf_3_4, w0, w1, w2, w3, w4, P1, P2, show ((1 : Int32) = 0) = False from by decide, if_true, if_false, tm_rb0, tm_rb1]
              | false =>
                rw [e] at P2
                replace P2 : _ = some (h2, some (Value.int 0)) := P2
                show _ = some (h2, some (Value.int 0))
                simp only [cX6_readLine_, bX6_readLine_0, bX6_readLine_4, bX6_readLine_9, bX6_readLine_12, bX6_readLine_17, bX6_readLine_20, bX6_readLine_24, bX6_readLine_27, bX6_readLine_32, bX6_readLine_35, bX6_readLine_38, bX6_readLine_41, bX6_readLine_46, bX6_readLine_45, bX6_readLine_47, bX6_readLine_51, bX6_readLine_56, bX6_readLine_59, bX6_readLine_64, bX6_readLine_67, bX6_readLine_71, bX6_readLine_74, bX6_readLine_79, bX6_readLine_82, bX6_readLine_85, bX6_readLine_88, bX6_readLine_93, bX6_readLine_92, bX6_readLine_94, bX6_readLine_98, bX6_readLine_103, bX6_readLine_106, bX6_readLine_111, bX6_readLine_114, bX6_readLine_118, bX6_readLine_121, bX6_readLine_126, bX6_readLine_129, bX6_readLine_132, bX6_readLine_135, bX6_readLine_140, bX6_readLine_139, bX6_readLine_141, bX6_readLine_145, bX6_readLine_150, bX6_readLine_153, bX6_readLine_158, bX6_readLine_161, bX6_readLine_165, bX6_readLine_168, bX6_readLine_173, bX6_readLine_176, bX6_readLine_179, bX6_readLine_182, bX6_readLine_187, bX6_readLine_186, bX6_readLine_188, bX6_readLine_192, bX6_readLine_197, bX6_readLine_200, bX6_readLine_205, bX6_readLine_208, bX6_readLine_212, bX6_readLine_215, bX6_readLine_220, bX6_readLine_223, bX6_readLine_226, bX6_readLine_229, bX6_readLine_234, bX6_readLine_233, bX6_readLine_235, bX6_readLine_239, bX6_readLine_244, bX6_readLine_247, bX6_readLine_252, bX6_readLine_255, bX6_readLine_259, bX6_readLine_262, bX6_readLine_267, bX6_readLine_270, bX6_readLine_273, bX6_readLine_276, bX6_readLine_281, bX6_readLine_280, bX6_readLine_282, bX6_readLine_286, bX6_readLine_291, bX6_readLine_294, bX6_readLine_299, bX6_readLine_302, bX6_readLine_306, bX6_readLine_309, bX6_readLine_314, bX6_readLine_317, bX6_readLine_320, bX6_readLine_323, bX6_readLine_328, bX6_readLine_327, bX6_readLine_329, bX6_readLine_334, tk1_some, tk0_some, tkc_some, tkc_none, ↓reduceIte, rd_o H, rd_o H1, gf_6_0, gf_6_4, r_isT H, tm_isO, bk_o B, bk_o B1, gf_3_4, w0, w1, w2, w3, w4, P1, P2, show ((1 : Int32) = 0) = False from by decide, if_true, if_false, tm_rb0, tm_rb1]
          | false =>
            rw [c4, bI_f] at w4
            have w5 := r_isW H (k := 5) (by decide)
            cases c5 : isWd tp (zT z) 5 with
            | true =>
              rw [c5, bI_t] at w5
              simp only [if_true, Bool.false_eq_true, if_false]
              obtain ⟨h1, P1, H1, F1⟩ := r_room H (l := 5) (x := bk + 11) (k := 5) (by decide) (by omega)
              generalize rRoom 5 5 z = q1 at P1 H1
              obtain ⟨b1, z1⟩ := q1
              cases b1 with
              | false =>
                refine ⟨h1, ?_, H1, F1⟩
                show _ = some (h1, some (Value.int 0))
                replace P1 : _ = some (h1, some (Value.int 0)) := P1
                simp only [cX6_readLine_, bX6_readLine_0, bX6_readLine_4, bX6_readLine_9, bX6_readLine_12, bX6_readLine_17, bX6_readLine_20, bX6_readLine_24, bX6_readLine_27, bX6_readLine_32, bX6_readLine_35, bX6_readLine_38, bX6_readLine_41, bX6_readLine_46, bX6_readLine_45, bX6_readLine_47, bX6_readLine_51, bX6_readLine_56, bX6_readLine_59, bX6_readLine_64, bX6_readLine_67, bX6_readLine_71, bX6_readLine_74, bX6_readLine_79, bX6_readLine_82, bX6_readLine_85, bX6_readLine_88, bX6_readLine_93, bX6_readLine_92, bX6_readLine_94, bX6_readLine_98, bX6_readLine_103, bX6_readLine_106, bX6_readLine_111, bX6_readLine_114, bX6_readLine_118, bX6_readLine_121, bX6_readLine_126, bX6_readLine_129, bX6_readLine_132, bX6_readLine_135, bX6_readLine_140, bX6_readLine_139, bX6_readLine_141, bX6_readLine_145, bX6_readLine_150, bX6_readLine_153, bX6_readLine_158, bX6_readLine_161, bX6_readLine_165, bX6_readLine_168, bX6_readLine_173, bX6_readLine_176, bX6_readLine_179, bX6_readLine_182, bX6_readLine_187, bX6_readLine_186, bX6_readLine_188, bX6_readLine_192, bX6_readLine_197, bX6_readLine_200, bX6_readLine_205, bX6_readLine_208, bX6_readLine_212, bX6_readLine_215, bX6_readLine_220, bX6_readLine_223, bX6_readLine_226, bX6_readLine_229, bX6_readLine_234, bX6_readLine_233, bX6_readLine_235, bX6_readLine_239, bX6_readLine_244, bX6_readLine_247, bX6_readLine_252, bX6_readLine_255, bX6_readLine_259, bX6_readLine_262, bX6_readLine_267, bX6_readLine_270, bX6_readLine_273, bX6_readLine_276, bX6_readLine_281, bX6_readLine_280, bX6_readLine_282, bX6_readLine_286, bX6_readLine_291, bX6_readLine_294, bX6_readLine_299, bX6_readLine_302, bX6_readLine_306, bX6_readLine_309, bX6_readLine_314, bX6_readLine_317, bX6_readLine_320, bX6_readLine_323, bX6_readLine_328, bX6_readLine_327, bX6_readLine_329, bX6_readLine_334, tk1_some, tk0_some, tkc_some, tkc_none, ↓reduceIte, rd_o H, gf_6_0, gf_6_4, r_isT H, tm_isO, bk_o B, gf_3_5, w0, w1, w2, w3, w4, w5, P1, show ((1 : Int32) = 0) = False from by decide, if_true, if_false, tm_rb0, tm_rb1]
              | true =>
                replace P1 : _ = some (h1, some (Value.int 1)) := P1
                replace H1 : RdAt h1 bk n tp z1 := H1
                simp only [rAnd]
                obtain ⟨lo1, hi1, B1⟩ := H1.2.2.2.2.2.1
                obtain ⟨h2, P2, H2, F2⟩ := r_Stone H1 (x := bk + 11) (by omega)
                refine ⟨h2, ?_, H2, FrR_tr F1 F2⟩
                cases e : (rStone tp n z1).1 with
                | true =>
                  rw [e] at P2
                  replace P2 : _ = some (h2, some (Value.int 1)) := P2
                  show _ = some (h2, some (Value.int 1))
                  simp only [cX6_readLine_, bX6_readLine_0, bX6_readLine_4, bX6_readLine_9, bX6_readLine_12, bX6_readLine_17, bX6_readLine_20, bX6_readLine_24, bX6_readLine_27, bX6_readLine_32, bX6_readLine_35, bX6_readLine_38, bX6_readLine_41, bX6_readLine_46, bX6_readLine_45, bX6_readLine_47, bX6_readLine_51, bX6_readLine_56, bX6_readLine_59, bX6_readLine_64, bX6_readLine_67, bX6_readLine_71, bX6_readLine_74, bX6_readLine_79, bX6_readLine_82, bX6_readLine_85, bX6_readLine_88, bX6_readLine_93, bX6_readLine_92, bX6_readLine_94, bX6_readLine_98, bX6_readLine_103, bX6_readLine_106, bX6_readLine_111, bX6_readLine_114, bX6_readLine_118, bX6_readLine_121, bX6_readLine_126, bX6_readLine_129, bX6_readLine_132, bX6_readLine_135, bX6_readLine_140, bX6_readLine_139, bX6_readLine_141, bX6_readLine_145, bX6_readLine_150, bX6_readLine_153, bX6_readLine_158, bX6_readLine_161, bX6_readLine_165, bX6_readLine_168, bX6_readLine_173, bX6_readLine_176, bX6_readLine_179, bX6_readLine_182, bX6_readLine_187, bX6_readLine_186, bX6_readLine_188, bX6_readLine_192, bX6_readLine_197, bX6_readLine_200, bX6_readLine_205, bX6_readLine_208, bX6_readLine_212, bX6_readLine_215, bX6_readLine_220, bX6_readLine_223, bX6_readLine_226, bX6_readLine_229, bX6_readLine_234, bX6_readLine_233, bX6_readLine_235, bX6_readLine_239, bX6_readLine_244, bX6_readLine_247, bX6_readLine_252, bX6_readLine_255, bX6_readLine_259, bX6_readLine_262, bX6_readLine_267, bX6_readLine_270, bX6_readLine_273, bX6_readLine_276, bX6_readLine_281, bX6_readLine_280, bX6_readLine_282, bX6_readLine_286, bX6_readLine_291, bX6_readLine_294, bX6_readLine_299, bX6_readLine_302, bX6_readLine_306, bX6_readLine_309, bX6_readLine_314, bX6_readLine_317, bX6_readLine_320, bX6_readLine_323, bX6_readLine_328, bX6_readLine_327, bX6_readLine_329, bX6_readLine_334, tk1_some, tk0_some, tkc_some, tkc_none, ↓reduceIte, rd_o H, rd_o H1, gf_6_0, gf_6_4, r_isT H, tm_isO, bk_o B, bk_o B1, gf_3_5, w0, w1, w2, w3, w4, w5, P1, P2, show ((1 : Int32) = 0) = False from by decide, if_true, if_false, tm_rb0, tm_rb1]
                | false =>
                  rw [e] at P2
                  replace P2 : _ = some (h2, some (Value.int 0)) := P2
                  show _ = some (h2, some (Value.int 0))
                  simp only [cX6_readLine_, bX6_readLine_0, bX6_readLine_4, bX6_readLine_9, bX6_readLine_12, bX6_readLine_17, bX6_readLine_20, bX6_readLine_24, bX6_readLine_27, bX6_readLine_32, bX6_readLine_35, bX6_readLine_38, bX6_readLine_41, bX6_readLine_46, bX6_readLine_45, bX6_readLine_47, bX6_readLine_51, bX6_readLine_56, bX6_readLine_59, bX6_readLine_64, bX6_readLine_67, bX6_readLine_71, bX6_readLine_74, bX6_readLine_79, bX6_readLine_82, bX6_readLine_85, bX6_readLine_88, bX6_readLine_93, bX6_readLine_92, bX6_readLine_94, bX6_readLine_98, bX6_readLine_103, bX6_readLine_106, bX6_readLine_111, bX6_readLine_114, bX6_readLine_118, bX6_readLine_121, bX6_readLine_126, bX6_readLine_129, bX6_readLine_132, bX6_readLine_135, bX6_readLine_140, bX6_readLine_139, bX6_readLine_141, bX6_readLine_145, bX6_readLine_150, bX6_readLine_153, bX6_readLine_158, bX6_readLine_161, bX6_readLine_165, bX6_readLine_168, bX6_readLine_173, bX6_readLine_176, bX6_readLine_179, bX6_readLine_182, bX6_readLine_187, bX6_readLine_186, bX6_readLine_188, bX6_readLine_192, bX6_readLine_197, bX6_readLine_200, bX6_readLine_205, bX6_readLine_208, bX6_readLine_212, bX6_readLine_215, bX6_readLine_220, bX6_readLine_223, bX6_readLine_226, bX6_readLine_229, bX6_readLine_234, bX6_readLine_233, bX6_readLine_235, bX6_readLine_239, bX6_readLine_244, bX6_readLine_247, bX6_readLine_252, bX6_readLine_255, bX6_readLine_259, bX6_readLine_262, bX6_readLine_267, bX6_readLine_270, bX6_readLine_273, bX6_readLine_276, bX6_readLine_281, bX6_readLine_280, bX6_readLine_282, bX6_readLine_286, bX6_readLine_291, bX6_readLine_294, bX6_readLine_299, bX6_readLine_302, bX6_readLine_306, bX6_readLine_309, bX6_readLine_314, bX6_readLine_317, bX6_readLine_320, bX6_readLine_323, bX6_readLine_328, bX6_readLine_327, bX6_readLine_329, bX6_readLine_334, tk1_some, tk0_some, tkc_some, tkc_none, ↓reduceIte, rd_o H, rd_o H1, gf_6_0, gf_6_4, r_isT H, tm_isO, bk_o B, bk_o B1, gf_3_5, w0, w1, w2, w3, w4, w5, P1, P2, show ((1 : Int32) = 0) = False from by decide, if_true, if_false, tm_rb0, tm_rb1]
            | false =>
              rw [c5, bI_f] at w5
              have w6 := r_isW H (k := 6) (by decide)
              cases c6 : isWd tp (zT z) 6 with
              | true =>
                rw [c6, bI_t] at w6
                simp only [if_true, Bool.false_eq_true, if_false]
                obtain ⟨h1, P1, H1, F1⟩ := r_room H (l := 6) (x := bk + 13) (k := 5) (by decide) (by omega)
                generalize rRoom 6 5 z = q1 at P1 H1
                obtain ⟨b1, z1⟩ := q1
                cases b1 with
                | false =>
                  refine ⟨h1, ?_, H1, F1⟩
                  show _ = some (h1, some (Value.int 0))
                  replace P1 : _ = some (h1, some (Value.int 0)) := P1
                  simp only [cX6_readLine_, bX6_readLine_0, bX6_readLine_4, bX6_readLine_9, bX6_readLine_12, bX6_readLine_17, bX6_readLine_20, bX6_readLine_24, bX6_readLine_27, bX6_readLine_32, bX6_readLine_35, bX6_readLine_38, bX6_readLine_41, bX6_readLine_46, bX6_readLine_45, bX6_readLine_47, bX6_readLine_51, bX6_readLine_56, bX6_readLine_59, bX6_readLine_64, bX6_readLine_67, bX6_readLine_71, bX6_readLine_74, bX6_readLine_79, bX6_readLine_82, bX6_readLine_85, bX6_readLine_88, bX6_readLine_93, bX6_readLine_92, bX6_readLine_94, bX6_readLine_98, bX6_readLine_103, bX6_readLine_106, bX6_readLine_111, bX6_readLine_114, bX6_readLine_118, bX6_readLine_121, bX6_readLine_126, bX6_readLine_129, bX6_readLine_132, bX6_readLine_135, bX6_readLine_140, bX6_readLine_139, bX6_readLine_141, bX6_readLine_145, bX6_readLine_150, bX6_readLine_153, bX6_readLine_158, bX6_readLine_161, bX6_readLine_165, bX6_readLine_168, bX6_readLine_173, bX6_readLine_176, bX6_readLine_179, bX6_readLine_182, bX6_readLine_187, bX6_readLine_186, bX6_readLine_188, bX6_readLine_192, bX6_readLine_197, bX6_readLine_200, bX6_readLine_205, bX6_readLine_208, bX6_readLine_212, bX6_readLine_215, bX6_readLine_220, bX6_readLine_223, bX6_readLine_226, bX6_readLine_229, bX6_readLine_234, bX6_readLine_233, bX6_readLine_235, bX6_readLine_239, bX6_readLine_244, bX6_readLine_247, bX6_readLine_252, bX6_readLine_255, bX6_readLine_259, bX6_readLine_262, bX6_readLine_267, bX6_readLine_270, bX6_readLine_273, bX6_readLine_276, bX6_readLine_281, bX6_readLine_280, bX6_readLine_282, bX6_readLine_286, bX6_readLine_291, bX6_readLine_294, bX6_readLine_299, bX6_readLine_302, bX6_readLine_306, bX6_readLine_309, bX6_readLine_314, bX6_readLine_317, bX6_readLine_320, bX6_readLine_323, bX6_readLine_328, bX6_readLine_327, bX6_readLine_329, bX6_readLine_334, tk1_some, tk0_some, tkc_some, tkc_none, ↓reduceIte, rd_o H, gf_6_0, gf_6_4, r_isT H, tm_isO, bk_o B, gf_3_6, w0, w1, w2, w3, w4, w5, w6, P1, show ((1 : Int32) = 0) = False from by decide, if_true, if_false, tm_rb0, tm_rb1]
                | true =>
                  replace P1 : _ = some (h1, some (Value.int 1)) := P1
                  replace H1 : RdAt h1 bk n tp z1 := H1
                  simp only [rAnd]
                  obtain ⟨lo1, hi1, B1⟩ := H1.2.2.2.2.2.1
                  obtain ⟨h2, P2, H2, F2⟩ := r_Smith H1 (x := bk + 13) (by omega)
                  refine ⟨h2, ?_, H2, FrR_tr F1 F2⟩
                  cases e : (rSmith tp n z1).1 with
                  | true =>
                    rw [e] at P2
                    replace P2 : _ = some (h2, some (Value.int 1)) := P2
                    show _ = some (h2, some (Value.int 1))
                    simp only [cX6_readLine_, bX6_readLine_0, bX6_readLine_4, bX6_readLine_9, bX6_readLine_12, bX6_readLine_17, bX6_readLine_20, bX6_readLine_24, bX6_readLine_27, bX6_readLine_32, bX6_readLine_35, bX6_readLine_38, bX6_readLine_41, bX6_readLine_46, bX6_readLine_45, bX6_readLine_47, bX6_readLine_51, bX6_readLine_56, bX6_readLine_59, bX6_readLine_64, bX6_readLine_67, bX6_readLine_71, bX6_readLine_74, bX6_readLine_79, bX6_readLine_82, bX6_readLine_85, bX6_readLine_88, bX6_readLine_93, bX6_readLine_92, bX6_readLine_94, bX6_readLine_98, bX6_readLine_103, bX6_readLine_106, bX6_readLine_111, bX6_readLine_114, bX6_readLine_118, bX6_readLine_121, bX6_readLine_126, bX6_readLine_129, bX6_readLine_132, bX6_readLine_135, bX6_readLine_140, bX6_readLine_139, bX6_readLine_141, bX6_readLine_145, bX6_readLine_150, bX6_readLine_153, bX6_readLine_158, bX6_readLine_161, bX6_readLine_165, bX6_readLine_168, bX6_readLine_173, bX6_readLine_176, bX6_readLine_179, bX6_readLine_182, bX6_readLine_187, bX6_readLine_186, bX6_readLine_188, bX6_readLine_192, bX6_readLine_197, bX6_readLine_200, bX6_readLine_205, bX6_readLine_208, bX6_readLine_212, bX6_readLine_215, bX6_readLine_220, bX6_readLine_223, bX6_readLine_226, bX6_readLine_229, bX6_readLine_234, bX6_readLine_233, bX6_readLine_235, bX6_readLine_239, bX6_readLine_244, bX6_readLine_247, bX6_readLine_252, bX6_readLine_255, bX6_readLine_259, bX6_readLine_262, bX6_readLine_267, bX6_readLine_270, bX6_readLine_273, bX6_readLine_276, bX6_readLine_281, bX6_readLine_280, bX6_readLine_282, bX6_readLine_286, bX6_readLine_291, bX6_readLine_294, bX6_readLine_299, bX6_readLine_302, bX6_readLine_306, bX6_readLine_309, bX6_readLine_314, bX6_readLine_317, bX6_readLine_320, bX6_readLine_323, bX6_readLine_328, bX6_readLine_327, bX6_readLine_329, bX6_readLine_334, tk1_some, tk0_some, tkc_some, tkc_none, ↓reduceIte, rd_o H, rd_o H1, gf_6_0, gf_6_4, r_isT H, tm_isO, bk_o B, bk_o B1, gf_3_6, w0, w1, w2, w3, w4, w5, w6, P1, P2, show ((1 : Int32) = 0) = False from by decide, if_true, if_false, tm_rb0, tm_rb1]
                  | false =>
                    rw [e] at P2
                    replace P2 : _ = some (h2, some (Value.int 0)) := P2
                    show _ = some (h2, some (Value.int 0))
                    simp only [cX6_readLine_, bX6_readLine_0, bX6_readLine_4, bX6_readLine_9, bX6_readLine_12, bX6_readLine_17, bX6_readLine_20, bX6_readLine_24, bX6_readLine_27, bX6_readLine_32, bX6_readLine_35, bX6_readLine_38, bX6_readLine_41, bX6_readLine_46, bX6_readLine_45, bX6_readLine_47, bX6_readLine_51, bX6_readLine_56, bX6_readLine_59, bX6_readLine_64, bX6_readLine_67, bX6_readLine_71, bX6_readLine_74, bX6_readLine_79, bX6_readLine_82, bX6_readLine_85, bX6_readLine_88, bX6_readLine_93, bX6_readLine_92, bX6_readLine_94, bX6_readLine_98, bX6_readLine_103, bX6_readLine_106, bX6_readLine_111, bX6_readLine_114, bX6_readLine_118, bX6_readLine_121, bX6_readLine_126, bX6_readLine_129, bX6_readLine_132, bX6_readLine_135, bX6_readLine_140, bX6_readLine_139, bX6_readLine_141, bX6_readLine_145, bX6_readLine_150, bX6_readLine_153, bX6_readLine_158, bX6_readLine_161, bX6_readLine_165, bX6_readLine_168, bX6_readLine_173, bX6_readLine_176, bX6_readLine_179, bX6_readLine_182, bX6_readLine_187, bX6_readLine_186, bX6_readLine_188, bX6_readLine_192, bX6_readLine_197, bX6_readLine_200, bX6_readLine_205, bX6_readLine_208, bX6_readLine_212, bX6_readLine_215, bX6_readLine_220, bX6_readLine_223, bX6_readLine_226, bX6_readLine_229, bX6_readLine_234, bX6_readLine_233, bX6_readLine_235, bX6_readLine_239, bX6_readLine_244, bX6_readLine_247, bX6_readLine_252, bX6_readLine_255, bX6_readLine_259, bX6_readLine_262, bX6_readLine_267, bX6_readLine_270, bX6_readLine_273, bX6_readLine_276, bX6_readLine_281, bX6_readLine_280, bX6_readLine_282, bX6_readLine_286, bX6_readLine_291, bX6_readLine_294, bX6_readLine_299, bX6_readLine_302, bX6_readLine_306, bX6_readLine_309, bX6_readLine_314, bX6_readLine_317, bX6_readLine_320, bX6_readLine_323, bX6_readLine_328, bX6_readLine_327, bX6_readLine_329, bX6_readLine_334, tk1_some, tk0_some, tkc_some, tkc_none, ↓reduceIte, rd_o H, rd_o H1, gf_6_0, gf_6_4, r_isT H, tm_isO, bk_o B, bk_o B1, gf_3_6, w0, w1, w2, w3, w4, w5, w6, P1, P2, show ((1 : Int32) = 0) = False from by decide, if_true, if_false, tm_rb0, tm_rb1]
              | false =>
                rw [c6, bI_f] at w6
                simp only [Bool.false_eq_true, if_false]
                obtain ⟨h1, P1, H1, F1⟩ := r_fails H (k := 1)
                refine ⟨h1, ?_, H1, F1⟩
                show _ = some (h1, some (Value.int 0))
                simp only [cX6_readLine_, bX6_readLine_0, bX6_readLine_4, bX6_readLine_9, bX6_readLine_12, bX6_readLine_17, bX6_readLine_20, bX6_readLine_24, bX6_readLine_27, bX6_readLine_32, bX6_readLine_35, bX6_readLine_38, bX6_readLine_41, bX6_readLine_46, bX6_readLine_45, bX6_readLine_47, bX6_readLine_51, bX6_readLine_56, bX6_readLine_59, bX6_readLine_64, bX6_readLine_67, bX6_readLine_71, bX6_readLine_74, bX6_readLine_79, bX6_readLine_82, bX6_readLine_85, bX6_readLine_88, bX6_readLine_93, bX6_readLine_92, bX6_readLine_94, bX6_readLine_98, bX6_readLine_103, bX6_readLine_106, bX6_readLine_111, bX6_readLine_114, bX6_readLine_118, bX6_readLine_121, bX6_readLine_126, bX6_readLine_129, bX6_readLine_132, bX6_readLine_135, bX6_readLine_140, bX6_readLine_139, bX6_readLine_141, bX6_readLine_145, bX6_readLine_150, bX6_readLine_153, bX6_readLine_158, bX6_readLine_161, bX6_readLine_165, bX6_readLine_168, bX6_readLine_173, bX6_readLine_176, bX6_readLine_179, bX6_readLine_182, bX6_readLine_187, bX6_readLine_186, bX6_readLine_188, bX6_readLine_192, bX6_readLine_197, bX6_readLine_200, bX6_readLine_205, bX6_readLine_208, bX6_readLine_212, bX6_readLine_215, bX6_readLine_220, bX6_readLine_223, bX6_readLine_226, bX6_readLine_229, bX6_readLine_234, bX6_readLine_233, bX6_readLine_235, bX6_readLine_239, bX6_readLine_244, bX6_readLine_247, bX6_readLine_252, bX6_readLine_255, bX6_readLine_259, bX6_readLine_262, bX6_readLine_267, bX6_readLine_270, bX6_readLine_273, bX6_readLine_276, bX6_readLine_281, bX6_readLine_280, bX6_readLine_282, bX6_readLine_286, bX6_readLine_291, bX6_readLine_294, bX6_readLine_299, bX6_readLine_302, bX6_readLine_306, bX6_readLine_309, bX6_readLine_314, bX6_readLine_317, bX6_readLine_320, bX6_readLine_323, bX6_readLine_328, bX6_readLine_327, bX6_readLine_329, bX6_readLine_334, tk1_some, tk0_some, tkc_some, tkc_none, ↓reduceIte, rd_o H, gf_6_0, r_isT H, tm_isO, w0, w1, w2, w3, w4, w5, w6, P1, if_true, tm_rb0]
end RL
