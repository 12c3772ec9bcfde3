/-! THE REFERENCE's reading: turns -/
section M14
variable {h : tm_H} {b n : Nat} {tp : Nat → Int32} {Z : MZ} {tu : Int32} {z : RSt} {F : B7} {c : Nat → Nat} {nn : Nat} {G : Nat → Nat → Int32} {nm : Nat → Int64}
theorem tO33 (zf : Z.2.1.2 = .ref b) (hb : 83 < b) (Sh : FSh h b F c nn G nm) (hn : nn ≤ 22) {p : PR} {k : Int32} {l : Nat} (H : PO k l p) {x1 x2 x3 : Value} : ∃ y : Value, tE mX11_readTurn 33 [.ref 70, x1, x2, x3] [] (tm_up h 70 (mpO Z p tu)) = tE mX11_readTurn 72 [.ref 70, y, x2, x3] [] (tm_up h 70 (mpO Z p tu)) := by
  have ne : b ≠ 70 := by omega
  have nx : ∀ (H' : tm_H) (X : va_E), tm_up H' 70 X b = H' b := fun _ _ => tm_up_ne ne
  have Fd := m_find (h := tm_up h 70 (mpO Z p tu)) (FSh_c Sh (fun k x y => tm_up_ne (by omega))) hn (w := p.2.2.2.2.2.2.2)
  cases e : ixG nm p.2.2.2.2.2.2.2 nn 0 with
  | none =>
    rw [e, show ixI none = -1 from rfl] at Fd
    refine ⟨.int (-1), ?_⟩
    simp only [bX11_readTurn_33, bX11_readTurn_37, bX11_readTurn_41, bX11_readTurn_44, bX11_readTurn_63, bX11_readTurn_68, tk1_some, tk0_some, tkc_some, tkc_none, ↓reduceIte, tm_up_same, gf_11_4, zf, gf_11_15, nx, Sh.1, tm_isO, Fd, if_true, m_wrO H, m_goO H]
  | some j =>
    have hj := ixG_b _ _ _ e
    have d : ¬ nI j = -1 := fun y => absurd (nI_pos' (show j < 2 ^ 31 by omega)) (by rw [y]; decide)
    rw [e, show ixI (some j) = nI j from rfl] at Fd
    have h13 : tm_up h 70 (mpO Z p tu) (b + 13) = aI 22 (G 13) := by rw [tm_up_ne (by omega)]; exact Sh.2.1 13 (by decide) (by decide) (by decide)
    refine ⟨.int (nI j), ?_⟩
    by_cases s : 1 ≤ G 13 j
    · simp only [bX11_readTurn_33, bX11_readTurn_37, bX11_readTurn_41, bX11_readTurn_44, bX11_readTurn_50, bX11_readTurn_54, bX11_readTurn_57, bX11_readTurn_59, bX11_readTurn_68, tk1_some, tk0_some, tkc_some, tkc_none, ↓reduceIte, tm_up_same, gf_11_4, zf, gf_11_15, nx, Sh.1, tm_isO, Fd, d, if_false, gf_10_25, h13, tm_ai_in rfl (show j < 22 by omega) (show 22 < 2 ^ 31 by decide), s, if_true, m_goO H]
    · simp only [bX11_readTurn_33, bX11_readTurn_37, bX11_readTurn_41, bX11_readTurn_44, bX11_readTurn_50, bX11_readTurn_54, bX11_readTurn_57, bX11_readTurn_59, bX11_readTurn_63, bX11_readTurn_68, tk1_some, tk0_some, tkc_some, tkc_none, ↓reduceIte, tm_up_same, gf_11_4, zf, gf_11_15, nx, Sh.1, tm_isO, Fd, d, if_false, gf_10_25, h13, tm_ai_in rfl (show j < 22 by omega) (show 22 < 2 ^ 31 by decide), s, m_wrO H, m_goO H]
theorem pos_1 {v : Int32} : (1 ≤ v) = (0 < v) := by
  refine propext ⟨fun y => ?_, fun y => ?_⟩
  · exact Int32.lt_of_lt_of_le (by decide) y
  · rw [Int32.le_iff_toInt_le]
    rw [Int32.lt_iff_toInt_lt] at y
    have : (0 : Int32).toInt = 0 := rfl
    have : (1 : Int32).toInt = 1 := rfl
    omega
/-- up to the numbers of a turn -/
theorem m_to (C : MC h n tp Z) (zf : Z.2.1.2 = .ref b) (hb : 83 < b) {p : PR} (o : h 70 = mpO Z p tu) (H : PG tp n (zT z) p) (e1 : (zT z).2.2 = 1) (Sh : FSh h b F c nn G nm) (bd : ∀ l, l < 7 → c l ≤ lnM l) (nb : nn ≤ 22) (R : BR z F c nn G nm) :
    ∃ p' x, tC mX11_readTurn [.ref 70] h = tE mX11_readTurn 72 [.ref 70, x, tm_U, tm_U] [] (tm_up h 70 (mpO Z p' tu)) ∧ AV tp n (rAnd (rRoom 3 5 z) (rTo tp n 3)) p' ∧ ((rAnd (rRoom 3 5 z) (rTo tp n 3)).1 = true → ∃ j, x = .int (nI j) ∧ j < nn ∧ G 13 j = zD tp (rStep tp n z)) := by
  obtain ⟨r1, r2, r3, r4, r5, r6, r7, r8, r9⟩ := R
  subst r1 r2
  have ne : b ≠ 70 := by omega
  have nx : ∀ (H' : tm_H) (X : va_E), tm_up H' 70 X b = H' b := fun _ _ => tm_up_ne ne
  have fo : tm_up h 70 (mpO Z p tu) = h := by rw [← o, tm_up_id]
  have fc : tC mX11_readTurn [.ref 70] h = tC mX11_readTurn [.ref 70] (tm_up h 70 (mpO Z p tu)) := by rw [fo]
  have lm : (nI (zC z 3) = 6) = (lnM 3 ≤ zC z 3) := lim_e (m := 6) (by decide) (bd 3 (by decide))
  obtain ⟨a1, a2⟩ := m_head C (tu := tu) H e1 3 5
  by_cases d : lnM 3 ≤ zC z 3
  · obtain ⟨p1, P1, Q1, A⟩ := a1 d
    have er : rRoom 3 5 z = (false, rF z 5) := by unfold rRoom; rw [if_pos d]
    rw [er] at A ⊢
    have P := A.2 rfl
    obtain ⟨y, E⟩ := tO33 (tu := tu) zf hb Sh nb P (x1 := tm_U) (x2 := tm_U) (x3 := tm_U)
    refine ⟨p1, y, ?_, A, fun y => by cases y⟩
    rw [fc, ← E]
    simp only [cX11_readTurn_, bX11_readTurn_0, bX11_readTurn_4, bX11_readTurn_7, bX11_readTurn_12, bX11_readTurn_17, bX11_readTurn_21, bX11_readTurn_25, bX11_readTurn_28, tk1_some, tk0_some, tkc_some, tkc_none, ↓reduceIte, tm_up_same, gf_11_4, zf, nx, Sh.1, gf_10_8, lm, d, not_true, if_false, tm_isO, P1, Q1, m_isNO P, m_wrO P]
  · obtain ⟨p1, P1, A⟩ := a2 d
    have er : rRoom 3 5 z = (true, z) := by unfold rRoom; rw [if_neg d]
    rw [er] at A ⊢
    obtain ⟨G1, b1⟩ := A.1 rfl
    have G1' : PG tp n (zT (rStep tp n z)) p1 := G1
    have E1 : tC mX11_readTurn [.ref 70] h = tE mX11_readTurn 25 [.ref 70, tm_U, tm_U, tm_U] [.int (bI (isNm tp (zT (rStep tp n z))))] (tm_up h 70 (mpO Z p1 tu)) := by
      rw [fc]
      simp only [cX11_readTurn_, bX11_readTurn_0, bX11_readTurn_4, bX11_readTurn_7, bX11_readTurn_17, bX11_readTurn_21, tk1_some, tk0_some, tkc_some, tkc_none, ↓reduceIte, tm_up_same, gf_11_4, zf, nx, Sh.1, gf_10_8, lm, d, not_false_eq_true, if_true, tm_isO, P1, m_isN G1']
    rw [E1, rAnd_tt]
    unfold rTo
    by_cases w : isNm tp (zT (rStep tp n z)) = true
    · rw [if_pos w, w]
      have s1 := isNm_1 w
      obtain ⟨L, hL⟩ := tok_L G1'.1 s1
      have ew := (G1'.2.1.2.2.1 s1).2.2
      have D0 : DgL [] := fun d hd => by cases hd
      have ea : w32G tp ((zT (rStep tp n z)).2.1 - (zT (rStep tp n z)).1) (zT (rStep tp n z)).1 0 = Int64.ofNat (rvW 32 (drW tp ((zT (rStep tp n z)).2.1 - (zT (rStep tp n z)).1) (zT (rStep tp n z)).1 [])) := w32_rv tp _ _ [] L
      have eb : zW tp (rStep tp n z) = Int64.ofNat (rvW 27 (drW tp ((zT (rStep tp n z)).2.1 - (zT (rStep tp n z)).1) (zT (rStep tp n z)).1 [])) := wn_rv tp _ _ [] L
      have dl := DgL_dr tp _ _ _ L D0
      have ll : (drW tp ((zT (rStep tp n z)).2.1 - (zT (rStep tp n z)).1) (zT (rStep tp n z)).1 []).length ≤ 8 := by rw [dr_len]; exact hL
      rw [ea] at ew
      generalize drW tp ((zT (rStep tp n z)).2.1 - (zT (rStep tp n z)).1) (zT (rStep tp n z)).1 [] = LL at ew eb dl ll
      have Fd := m_find (h := tm_up h 70 (mpO Z p1 tu)) (FSh_c Sh (fun k x y => tm_up_ne (by omega))) nb (w := p1.2.2.2.2.2.2.2)
      have ex : ixG nm p1.2.2.2.2.2.2.2 (zN z) 0 = zX tp (rStep tp n z) := by
        unfold zX
        rw [ew, eb, ix_eq r9 dl ll (zN z) 0 (by omega)]
        rfl
      rw [ex] at Fd
      cases x : zX tp (rStep tp n z) with
      | none =>
        have dd : zD tp (rStep tp n z) = -1 := by unfold zD; rw [x]
        rw [x, show ixI none = -1 from rfl] at Fd
        rw [dd, if_neg (by decide)]
        obtain ⟨p2, P2, G2⟩ := m_wr (h := h) (Z := Z) (tu := tu) G1' (k := 2)
        refine ⟨p2, .int (-1), ?_, AV_f ?_, fun y => by cases y⟩
        · simp only [bX11_readTurn_25, bX11_readTurn_33, bX11_readTurn_37, bX11_readTurn_41, bX11_readTurn_44, bX11_readTurn_63, bX11_readTurn_68, tk1_some, tk0_some, tkc_some, tkc_none, ↓reduceIte, bI_t, show ((1 : Int32) = 0) = False from by decide, not_false_eq_true, if_true, tm_up_same, gf_11_4, zf, gf_11_15, nx, Sh.1, tm_isO, Fd, P2, m_goO G2]
        · show PO 2 (zT (rPut 3 0 (-1) (rStep tp n z))).1 p2
          rw [rPut_T]; exact G2
      | some j =>
        have dd : zD tp (rStep tp n z) = zK z j := by unfold zD; rw [x]; rfl
        have hj : j < zN z := by have := ixG_b _ _ _ x; have e : zN (rStep tp n z) = zN z := rfl; omega
        have gj := r8 j hj
        have nj : ¬ nI j = -1 := fun y => absurd (nI_pos' (show j < 2 ^ 31 by omega)) (by rw [y]; decide)
        rw [x, show ixI (some j) = nI j from rfl] at Fd
        have h13 : tm_up h 70 (mpO Z p1 tu) (b + 13) = aI 22 (G 13) := by rw [tm_up_ne (by omega)]; exact Sh.2.1 13 (by decide) (by decide) (by decide)
        rw [dd]
        by_cases s : 0 < zK z j
        · rw [if_pos s]
          have s' : 1 ≤ G 13 j := by rw [gj, pos_1]; exact s
          obtain ⟨p2, P2, G2⟩ := m_go C (tu := tu) G1' (by rw [s1]; decide) (by rw [s1]; decide)
          refine ⟨p2, .int (nI j), ?_, AV_t (by rw [rPut_T]; exact G2) (by rw [rPut_T]; exact (tok_n G1'.1).2), fun _ => ⟨j, rfl, hj, gj⟩⟩
          simp only [bX11_readTurn_25, bX11_readTurn_33, bX11_readTurn_37, bX11_readTurn_41, bX11_readTurn_44, bX11_readTurn_50, bX11_readTurn_54, bX11_readTurn_57, bX11_readTurn_59, bX11_readTurn_68, tk1_some, tk0_some, tkc_some, tkc_none, ↓reduceIte, bI_t, show ((1 : Int32) = 0) = False from by decide, not_false_eq_true, if_true, tm_up_same, gf_11_4, zf, gf_11_15, nx, Sh.1, tm_isO, Fd, nj, if_false, gf_10_25, h13, tm_ai_in rfl (show j < 22 by omega) (show 22 < 2 ^ 31 by decide), s', P2]
        · rw [if_neg s]
          have s' : ¬ 1 ≤ G 13 j := by rw [gj, pos_1]; exact s
          obtain ⟨p2, P2, G2⟩ := m_wr (h := h) (Z := Z) (tu := tu) G1' (k := 2)
          refine ⟨p2, .int (nI j), ?_, AV_f ?_, fun y => by cases y⟩
          · simp only [bX11_readTurn_25, bX11_readTurn_33, bX11_readTurn_37, bX11_readTurn_41, bX11_readTurn_44, bX11_readTurn_50, bX11_readTurn_54, bX11_readTurn_57, bX11_readTurn_59, bX11_readTurn_63, bX11_readTurn_68, tk1_some, tk0_some, tkc_some, tkc_none, ↓reduceIte, bI_t, show ((1 : Int32) = 0) = False from by decide, not_false_eq_true, if_true, tm_up_same, gf_11_4, zf, gf_11_15, nx, Sh.1, tm_isO, Fd, nj, if_false, gf_10_25, h13, tm_ai_in rfl (show j < 22 by omega) (show 22 < 2 ^ 31 by decide), s', P2, m_goO G2]
          · show PO 2 (zT (rPut 3 0 (zK z j) (rStep tp n z))).1 p2
            rw [rPut_T]; exact G2
    · rw [if_neg w]
      rw [Bool.not_eq_true] at w
      rw [w]
      obtain ⟨p2, P2, G2⟩ := m_wr (h := h) (Z := Z) (tu := tu) G1' (k := 1)
      obtain ⟨y, E⟩ := tO33 (tu := tu) zf hb Sh nb G2 (x1 := tm_U) (x2 := tm_U) (x3 := tm_U)
      refine ⟨p2, y, ?_, AV_f G2, fun y => by cases y⟩
      rw [← E]
      simp only [bX11_readTurn_25, bX11_readTurn_28, tk1_some, tk0_some, tkc_some, tkc_none, ↓reduceIte, bI_f, not_true, if_false, tm_up_same, tm_isO, P2]
theorem m_Turn (C : MC h n tp Z) (zf : Z.2.1.2 = .ref b) (hb : 83 < b) {p : PR} (o : h 70 = mpO Z p tu) (H : PG tp n (zT z) p) (e1 : (zT z).2.2 = 1) (S : FBk h b (true, z)) (g : Gd z) :
    ∃ h' p', tC mX11_readTurn [.ref 70] h = some (h', none) ∧ h' 70 = mpO Z p' tu ∧ LV tp n (rAnd (rRoom 3 5 z) (rTurn tp n)) p' ∧ FBk h' b (rAnd (rRoom 3 5 z) (rTurn tp n)) ∧ FrG b h h' := by
  have ne : b ≠ 70 := by omega
  have nx : ∀ (H' : tm_H) (X : va_E), tm_up H' 70 X b = H' b := fun _ _ => tm_up_ne ne
  have cm : ∀ (H' : tm_H) (X Y : va_E), tm_up (tm_up H' 70 X) b Y = tm_up (tm_up H' b Y) 70 X := fun _ _ _ => tm_up_comm (Ne.symm ne)
  have S0 := S
  obtain ⟨F, c, nn, G, nm, Sh, bd, nb, R⟩ := S
  have R0 : BR z F c nn G nm := R rfl
  obtain ⟨p1, x, E1, A1, X1⟩ := m_to C zf hb o H e1 Sh bd nb R0
  obtain ⟨p2, v1, P2, A2, V2⟩ := m_part C (tu := tu) A1 (k := 16) (m := 37) (by decide) rfl (lo := 100) (hi := 900) 3 1
  obtain ⟨p3, v2, P3, A3, V3⟩ := m_part C (tu := tu) A2 (k := 17) (m := 38) (by decide) rfl (lo := 0) (hi := 400) 3 2
  have E3 : tE mX11_readTurn 72 [.ref 70, x, tm_U, tm_U] [] (tm_up h 70 (mpO Z p1 tu)) = tE mX11_readTurn 101 [.ref 70, x, .int v1, .int v2] [.int p3.2.1] (tm_up h 70 (mpO Z p3 tu)) := by
    simp only [bX11_readTurn_72, bX11_readTurn_84, bX11_readTurn_96, tk1_some, tk0_some, tkc_some, tkc_none, ↓reduceIte, tm_up_same, tm_isO, P2, P3, gf_11_9]
  rw [E1, E3]
  have eq : rAnd (rRoom 3 5 z) (rTurn tp n) = rAnd (rAnd (rAnd (rAnd (rRoom 3 5 z) (rTo tp n 3)) (rTells tp n 16 100 900 3 1)) (rTells tp n 17 0 400 3 2)) (fun y => (true, rEnds tp n 3 y)) := by
    rw [← rAnd_as, ← rAnd_as, ← rAnd_as]; rfl
  rw [eq]
  cases t : (rAnd (rAnd (rAnd (rRoom 3 5 z) (rTo tp n 3)) (rTells tp n 16 100 900 3 1)) (rTells tp n 17 0 400 3 2)).1 with
  | false =>
    have P := A3.2 t
    rw [rAnd_ff t]
    refine ⟨tm_up h 70 (mpO Z p3 tu), p3, ?_, tm_up_same, ⟨fun y => (by cases y), fun _ => P⟩, FBk_c (FBk_f S0 rfl) (fun k x y => tm_up_ne (by omega)), FrG_up (Or.inl rfl)⟩
    simp only [bX11_readTurn_101, bX11_readTurn_105, P.1, not_true, if_false]
  | true =>
    obtain ⟨t3, u3⟩ := rAnd_t t
    obtain ⟨t2, u2⟩ := rAnd_t t3
    obtain ⟨t1, u1⟩ := rAnd_t t2
    obtain ⟨ez, hr⟩ := room_ok t1
    rw [ez] at u1
    rw [u1] at t t3 t2 V2 V3 u3 u2 A3 X1 ⊢
    rw [u2] at t t3 V2 V3 u3 A3 ⊢
    rw [u3] at t V3 A3 ⊢
    obtain ⟨j, rfl, hj, gj⟩ := X1 t2
    have dz : (rTo tp n 3 z).2 = rPut 3 0 (zD tp (rStep tp n z)) (rStep tp n z) := by
      unfold rTo at t2 ⊢
      by_cases y1 : isNm tp (zT (rStep tp n z)) = true
      · rw [if_pos y1] at t2 ⊢
        by_cases y2 : 0 < zD tp (rStep tp n z)
        · rw [if_pos y2]
        · rw [if_neg y2] at t2; cases t2
      · rw [if_neg y1] at t2; cases t2
    obtain ⟨W1, W1v⟩ := put_puts 3 0 (zD tp (rStep tp n z)) (zT (rStep tp n z)) (zL (rStep tp n z)) z
    have W1m : zM (rPut 3 0 (zD tp (rStep tp n z)) (rStep tp n z)) = zM z := rPut_M _ _ _ _
    change Puts 3 0 z (rPut 3 0 (zD tp (rStep tp n z)) (rStep tp n z)) at W1
    change _ → zB (rPut 3 0 (zD tp (rStep tp n z)) (rStep tp n z)) 3 _ = _ at W1v
    rw [← dz] at W1 W1v W1m
    obtain ⟨W2, i2⟩ := tells_pv t3
    obtain ⟨W3, i3⟩ := tells_pv t
    have w1 := V2 t3
    have w2 := V3 t
    obtain ⟨r1, r2, r3, r4, r5, r6, r7, r8, r9⟩ := R0
    generalize hz1 : (rTo tp n 3 z).2 = z1 at *
    generalize hz2 : (rTells tp n 16 100 900 3 1 z1).2 = z2 at *
    generalize hq4 : rTells tp n 17 0 400 3 2 z2 = q4' at *
    generalize hzd : zD tp (rStep tp n z) = zd at *
    obtain ⟨b4, z4⟩ := q4'
    obtain rfl : b4 = true := t
    obtain ⟨G4, n4⟩ := A3.1 rfl
    subst r1 r2
    have c1 : zC z1 = zC z := W1.1.1
    have c2 : zC z2 = zC z := W2.1.1.1.trans c1
    have c4 : zC z4 = zC z := W3.1.1.1.trans c2
    have x1 := W1v hr
    have x2 := W2.2.2 (by rw [c1]; exact hr)
    have x3 := W3.2.2 (by rw [c2]; exact hr)
    have y2 := W2.1.2.2.2
    have y3 := W3.1.2.2.2
    rw [c1] at x2 y2
    rw [c2] at x3 y3
    have b0 : zB z4 3 (zC z 3 * 3 + 0) = zd := ((y3 0 (by decide)).trans (y2 0 (by decide))).trans x1
    have b1 : zB z4 3 (zC z 3 * 3 + 1) = v1 := by rw [w1]; exact (y3 1 (by decide)).trans x2
    have b2 : zB z4 3 (zC z 3 * 3 + 2) = v2 := by rw [w2]; exact x3
    have SB : SameB 3 z z4 := SameB_tr W1.1 (SameB_tr W2.1.1 W3.1.1)
    have N4 : zN z4 = zN z := (W3.1.2.1.trans W2.1.2.1).trans W1.2.1
    have K4 : zK z4 = zK z := (W3.1.2.2.1.trans W2.1.2.2.1).trans W1.2.2.1
    have M4 : zM z4 = zM z := (W3.2.1.trans W2.2.1).trans W1m
    have n5 := PG_5 G4
    have ee : rEnds tp n 3 z4 = rStep tp n (rB z4 (updN (zC z4) 3 (zC z4 3 + 1)) (zB z4)) := by unfold rEnds; rw [rC_eq (by rw [c4]; exact hr)]
    have k5 : zC z 3 < 6 := hr
    have t0 : (6 : Nat) < 2 ^ 31 := by decide
    have h13 : tm_up h 70 (mpO Z p3 tu) (b + 13) = aI 22 (G 13) := by rw [tm_up_ne (by omega)]; exact Sh.2.1 13 (by decide) (by decide) (by decide)
    have q13 : tm_ai 0 (aI 22 (G 13)) (nI j) = some (.int zd) := by rw [tm_ai_in rfl (show j < 22 by omega) (show 22 < 2 ^ 31 by decide), gj]
    have Sa := FSh_a Sh (i := 4) (by decide) (by decide) (by decide) (upd (G 4) (zC z 3) zd)
    have Ea := si_130 (X := mpO Z p3 tu) (v := zd) (N := 6) (Sh.2.1 4 (by decide) (by decide) (by decide)) k5 t0 (show b + 4 ≠ 70 by omega)
    have Fa : FrG b h (tm_up h (b + 4) (aI 6 (upd (G 4) (zC z 3) zd))) := FrG_up (Or.inr ⟨by omega, by omega⟩)
    change FSh (tm_up h (b + 4) (aI 6 (upd (G 4) (zC z 3) zd))) _ _ _ _ _ _ at Sa
    generalize tm_up h (b + 4) (aI 6 (upd (G 4) (zC z 3) zd)) = ha at Sa Ea Fa
    have Sb := FSh_a Sa (i := 5) (by decide) (by decide) (by decide) (upd (G 5) (zC z 3) v1)
    have Eb := si_130 (X := mpO Z p3 tu) (v := v1) (N := 6) (f := G 5) (Sa.2.1 5 (by decide) (by decide) (by decide)) k5 t0 (show b + 5 ≠ 70 by omega)
    have Fb : FrG b ha (tm_up ha (b + 5) (aI 6 (upd (G 5) (zC z 3) v1))) := FrG_up (Or.inr ⟨by omega, by omega⟩)
    change FSh (tm_up ha (b + 5) (aI 6 (upd (G 5) (zC z 3) v1))) _ _ _ _ _ _ at Sb
    generalize tm_up ha (b + 5) (aI 6 (upd (G 5) (zC z 3) v1)) = hb' at Sb Eb Fb
    have Sc := FSh_a Sb (i := 6) (by decide) (by decide) (by decide) (upd (G 6) (zC z 3) v2)
    have Ec := si_130 (X := mpO Z p3 tu) (v := v2) (N := 6) (f := G 6) (Sb.2.1 6 (by decide) (by decide) (by decide)) k5 t0 (show b + 6 ≠ 70 by omega)
    have Fc : FrG b hb' (tm_up hb' (b + 6) (aI 6 (upd (G 6) (zC z 3) v2))) := FrG_up (Or.inr ⟨by omega, by omega⟩)
    change FSh (tm_up hb' (b + 6) (aI 6 (upd (G 6) (zC z 3) v2))) _ _ _ _ _ _ at Sc
    generalize tm_up hb' (b + 6) (aI 6 (upd (G 6) (zC z 3) v2)) = hc at Sc Ec Fc
    have Sd := FSh_p (F' := F) (c' := updN (zC z) 3 (zC z 3 + 1)) (nn' := zN z) Sc (updN_n (by decide)) updN_s (updN_n (by decide)) (updN_n (by decide)) (updN_n (by decide))
    have sa := Sa.1
    have sb := Sb.1
    have sc := Sc.1
    show ∃ h' p', _ ∧ _ ∧ LV tp n (true, rEnds tp n 3 z4) p' ∧ FBk h' b (true, rEnds tp n 3 z4) ∧ _
    refine ⟨tm_up (tm_up hc b (mbO b F.1 F.2.1 F.2.2.1 F.2.2.2.1 F.2.2.2.2.1 F.2.2.2.2.2.1 F.2.2.2.2.2.2 (zC z 2) (zC z 3 + 1) (zC z 4) (zC z 5) (zC z 6) (zN z))) 70 (mpO Z p3 tu), p3, ?_, tm_up_same, ⟨fun _ => ?_, fun y => (by cases y)⟩, ?_, FrG_tr Fa (FrG_tr Fb (FrG_tr Fc (FrG_tr (FrG_up (Or.inr ⟨Nat.le_refl _, by omega⟩)) (FrG_up (Or.inl rfl)))))⟩
    · simp only [bX11_readTurn_101, bX11_readTurn_106, bX11_readTurn_110, bX11_readTurn_113, bX11_readTurn_117, bX11_readTurn_120, bX11_readTurn_124, bX11_readTurn_127, bX11_readTurn_129, bX11_readTurn_130, bX11_readTurn_134, bX11_readTurn_137, bX11_readTurn_141, bX11_readTurn_144, bX11_readTurn_146, bX11_readTurn_150, bX11_readTurn_153, bX11_readTurn_157, bX11_readTurn_160, bX11_readTurn_162, bX11_readTurn_166, bX11_readTurn_170, bX11_readTurn_175, tk1_some, tk0_some, tkc_some, tkc_none, ↓reduceIte, n5, not_false_eq_true, if_true, tm_up_same, gf_11_4, zf, nx, Sh.1, sa, sb, sc, gf_10_16, gf_10_17, gf_10_18, gf_10_8, gf_10_25, h13, q13, Ea, Eb, Ec, tm_pf_eq, ps_10_8, Option.map_some, cm, nI_k1]
    · show PG tp n (zT (rEnds tp n 3 z4)) p3
      rw [ee]; exact G4
    · refine FBk_c ⟨F, updN (zC z) 3 (zC z 3 + 1), zN z, _, nm, Sd, bd_up bd hr, nb, fun _ => ?_⟩ (fun k x y => tm_up_ne (by omega))
      show BR (rEnds tp n 3 z4) _ _ _ _ _
      rw [ee, c4]
      have MM := MRel_3 (t' := zB z4) r3 SB.2.1 SB.2.2
      rw [b0, b1, b2] at MM
      exact BR_e MM r4 r5 r6 r7 r8 r9 N4 K4 M4 rfl rfl (SB.2.1 0 (by decide)) (SB.2.1 1 (by decide)) rfl
end M14
