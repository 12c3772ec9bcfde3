/-! THE REFERENCE's reading: water; names -/
section M10
variable {h : tm_H} {b n : Nat} {tp : Nat → Int32} {Z : MZ} {tu : Int32} {z : RSt} {F : B7} {c : Nat → Nat} {nn : Nat} {G : Nat → Nat → Int32} {nm : Nat → Int64}
theorem MC_up (C : MC h n tp Z) {a : Nat} {e : va_E} (ha : a ≠ 71) : MC (tm_up h a e) n tp Z := ⟨C.1, by rw [tm_up_ne (Ne.symm ha)]; exact C.2.1, C.2.2⟩
theorem rAnd_f {q : Bool × RSt} {g : RSt → Bool × RSt} (h : (rAnd q g).1 = true) : q.1 = true := (rAnd_t h).1
theorem rAnd_ff {q : Bool × RSt} {g : RSt → Bool × RSt} (t : q.1 = false) : rAnd q g = (false, q.2) := by
  obtain ⟨b', q'⟩ := q
  obtain rfl : b' = false := t
  rfl
theorem m_Water (C : MC h n tp Z) (zf : Z.2.1.2 = .ref b) (hb : 83 < b) {p : PR} (o : h 70 = mpO Z p tu) (H : PG tp n (zT z) p) (e1 : (zT z).2.2 = 1) (S : FBk h b (true, z)) (g : Gd z) :
    ∃ h' p', tC mX11_readWater [.ref 70] h = some (h', none) ∧ h' 70 = mpO Z p' tu ∧ LV tp n (rAnd (rRoom 1 3 z) (rWater tp n)) p' ∧ FBk h' b (rAnd (rRoom 1 3 z) (rWater tp n)) ∧ FrG b h h' := by
  have S0 := S
  obtain ⟨F, c, nn, G, nm, Sh, bd, nb, R⟩ := S
  obtain ⟨r1, r2, r3, r4, r5, r6, r7, r8, r9⟩ : BR z F c nn G nm := R rfl
  subst r1 r2
  have ne : b ≠ 70 := by omega
  have n1 : b ≠ 71 := by omega
  have nx : ∀ (H' : tm_H) (X : va_E), tm_up H' 70 X b = H' b := fun _ _ => tm_up_ne ne
  have cm : ∀ (H' : tm_H) (X Y : va_E), tm_up (tm_up H' 70 X) b Y = tm_up (tm_up H' b Y) 70 X := fun _ _ _ => tm_up_comm (Ne.symm ne)
  have fo : tm_up h 70 (mpO Z p tu) = h := by rw [← o, tm_up_id]
  have M : ∃ p1, AV tp n (rRoom 1 3 z) p1 ∧ tC mX11_readWater [.ref 70] (tm_up h 70 (mpO Z p tu)) = tE mX11_readWater 20 [.ref 70] [] (tm_up h 70 (mpO Z p1 tu)) := by
    obtain ⟨a1, a2⟩ := m_head C (tu := tu) H e1 1 3
    by_cases d : lnM 1 ≤ zC z 1
    · obtain ⟨p1, P1, Q1, A⟩ := a1 d
      refine ⟨p1, A, ?_⟩
      have d1 : 1 ≤ zC z 1 := d
      have f1 : ¬ F.2.2.1 = -1 := by
        rw [(r7 (by omega)).1]
        intro y
        have := (inB_r (g.2.1 (by omega)).1).1
        rw [y] at this
        exact absurd this (by decide)
      simp only [cX11_readWater_, bX11_readWater_0, bX11_readWater_4, bX11_readWater_7, bX11_readWater_11, bX11_readWater_16, tk1_some, tk0_some, tkc_some, tkc_none, ↓reduceIte, tm_up_same, gf_11_4, zf, nx, Sh.1, gf_10_2, f1, if_false, tm_isO, P1, Q1]
    · obtain ⟨p1, P1, A⟩ := a2 d
      refine ⟨p1, A, ?_⟩
      have d1 : ¬ 1 ≤ zC z 1 := d
      have f1 : F.2.2.1 = -1 := r6 (by omega)
      simp only [cX11_readWater_, bX11_readWater_0, bX11_readWater_4, bX11_readWater_7, bX11_readWater_16, tk1_some, tk0_some, tkc_some, tkc_none, ↓reduceIte, tm_up_same, gf_11_4, zf, nx, Sh.1, gf_10_2, f1, if_true, tm_isO, P1]
  obtain ⟨p1, A1, E1⟩ := M
  rw [fo] at E1
  rw [E1]
  obtain ⟨p2, v0, P2, A2, V2⟩ := m_whl C (tu := tu) A1 (lo := 0) (hi := 99) 1 0
  obtain ⟨p3, v1, P3, A3, V3⟩ := m_part (MC_up C n1 (e := mbO b F.1 F.2.1 v0 F.2.2.2.1 F.2.2.2.2.1 F.2.2.2.2.2.1 F.2.2.2.2.2.2 (zC z 2) (zC z 3) (zC z 4) (zC z 5) (zC z 6) (zN z))) (tu := tu) A2 (k := 9) (m := 30) (by decide) rfl (lo := 1) (hi := 50) 1 1
  obtain ⟨p4, v2, P4, A4, V4⟩ := m_part (MC_up C n1 (e := mbO b F.1 F.2.1 v0 v1 F.2.2.2.2.1 F.2.2.2.2.2.1 F.2.2.2.2.2.2 (zC z 2) (zC z 3) (zC z 4) (zC z 5) (zC z 6) (zN z))) (tu := tu) A3 (k := 10) (m := 31) (by decide) rfl (lo := 0) (hi := 60) 1 2
  obtain ⟨p5, v3, P5, A5, V5⟩ := m_part (MC_up C n1 (e := mbO b F.1 F.2.1 v0 v1 v2 F.2.2.2.2.2.1 F.2.2.2.2.2.2 (zC z 2) (zC z 3) (zC z 4) (zC z 5) (zC z 6) (zN z))) (tu := tu) A4 (k := 11) (m := 32) (by decide) rfl (lo := 0) (hi := 12) 1 3
  obtain ⟨p6, v4, P6, A6, V6⟩ := m_part (MC_up C n1 (e := mbO b F.1 F.2.1 v0 v1 v2 v3 F.2.2.2.2.2.2 (zC z 2) (zC z 3) (zC z 4) (zC z 5) (zC z 6) (zN z))) (tu := tu) A5 (k := 12) (m := 33) (by decide) rfl (lo := 0) (hi := 50) 1 4
  have E3 : tE mX11_readWater 20 [.ref 70] [] (tm_up h 70 (mpO Z p1 tu)) = some (tm_up (tm_up h b (mbO b F.1 F.2.1 v0 v1 v2 v3 v4 (zC z 2) (zC z 3) (zC z 4) (zC z 5) (zC z 6) (zN z))) 70 (mpO Z p6 tu), none) := by
    simp only [bX11_readWater_20, bX11_readWater_24, bX11_readWater_31, bX11_readWater_34, bX11_readWater_38, bX11_readWater_47, bX11_readWater_50, bX11_readWater_54, bX11_readWater_63, bX11_readWater_66, bX11_readWater_70, bX11_readWater_79, bX11_readWater_82, bX11_readWater_86, bX11_readWater_95, bX11_readWater_98, tk1_some, tk0_some, tkc_some, tkc_none, ↓reduceIte, tm_up_same, gf_11_4, zf, tm_isO, P2, tm_pf_eq, nx, Sh.1, ps_10_2, Option.map_some, cm, P3, ps_10_3, tm_up_up, P4, ps_10_4, P5, ps_10_5, P6, ps_10_6]
  rw [E3]
  have eq : rAnd (rRoom 1 3 z) (rWater tp n) = rAnd (rAnd (rAnd (rAnd (rAnd (rAnd (rRoom 1 3 z) (rTellsW tp n 0 99 1 0)) (rTells tp n 9 1 50 1 1)) (rTells tp n 10 0 60 1 2)) (rTells tp n 11 0 12 1 3)) (rTells tp n 12 0 50 1 4)) (fun y => (true, rEnds tp n 1 y)) := by
    rw [← rAnd_as, ← rAnd_as, ← rAnd_as, ← rAnd_as, ← rAnd_as]; rfl
  rw [eq]
  refine ⟨_, p6, rfl, tm_up_same, ?_⟩
  have fr : FrG b h (tm_up (tm_up h b (mbO b F.1 F.2.1 v0 v1 v2 v3 v4 (zC z 2) (zC z 3) (zC z 4) (zC z 5) (zC z 6) (zN z))) 70 (mpO Z p6 tu)) := FrG_tr (FrG_up (Or.inr ⟨Nat.le_refl _, by omega⟩)) (FrG_up (Or.inl rfl))
  have Sf : ∀ c', (∀ m, 2 ≤ m → m ≤ 6 → c' m = zC z m) → FSh (tm_up (tm_up h b (mbO b F.1 F.2.1 v0 v1 v2 v3 v4 (zC z 2) (zC z 3) (zC z 4) (zC z 5) (zC z 6) (zN z))) 70 (mpO Z p6 tu)) b (F.1, F.2.1, v0, v1, v2, v3, v4) c' (zN z) G nm := fun c' ec => by
    refine FSh_c (h := tm_up h b (mbO b F.1 F.2.1 v0 v1 v2 v3 v4 (zC z 2) (zC z 3) (zC z 4) (zC z 5) (zC z 6) (zN z))) ?_ (fun k x y => tm_up_ne (by omega))
    have := FSh_o Sh (F.1, F.2.1, v0, v1, v2, v3, v4) c' (zN z)
    rw [ec 2 (by decide) (by decide), ec 3 (by decide) (by decide), ec 4 (by decide) (by decide), ec 5 (by decide) (by decide), ec 6 (by decide) (by decide)] at this
    exact this
  cases t : (rAnd (rAnd (rAnd (rAnd (rAnd (rRoom 1 3 z) (rTellsW tp n 0 99 1 0)) (rTells tp n 9 1 50 1 1)) (rTells tp n 10 0 60 1 2)) (rTells tp n 11 0 12 1 3)) (rTells tp n 12 0 50 1 4)).1 with
  | false =>
    have P := A6.2 t
    rw [rAnd_ff t]
    exact ⟨⟨fun y => (by cases y), fun _ => P⟩, ⟨_, zC z, zN z, G, nm, Sf _ (fun _ _ _ => rfl), bd, nb, fun y => (by cases y)⟩, fr⟩
  | true =>
    obtain ⟨t5, u5⟩ := rAnd_t t
    obtain ⟨t4, u4⟩ := rAnd_t t5
    obtain ⟨t3, u3⟩ := rAnd_t t4
    obtain ⟨t2, u2⟩ := rAnd_t t3
    obtain ⟨t1, u1⟩ := rAnd_t t2
    obtain ⟨ez, hr⟩ := room_ok t1
    rw [ez] at u1
    rw [u1] at t t5 t4 t3 t2 V2 V3 V4 V5 V6 u5 u4 u3 u2 A6 ⊢
    rw [u2] at t t5 t4 t3 V3 V4 V5 V6 u5 u4 u3 A6 ⊢
    rw [u3] at t t5 t4 V4 V5 V6 u5 u4 A6 ⊢
    rw [u4] at t t5 V5 V6 u5 A6 ⊢
    rw [u5] at t V6 A6 ⊢
    obtain ⟨W1, i1⟩ := tellsW_pv t2
    obtain ⟨W2, i2⟩ := tells_pv t3
    obtain ⟨W3, i3⟩ := tells_pv t4
    obtain ⟨W4, i4⟩ := tells_pv t5
    obtain ⟨W5, i5⟩ := tells_pv t
    have w1 := V2 t2
    have w2 := V3 t3
    have w3 := V4 t4
    have w4 := V5 t5
    have w5 := V6 t
    generalize hz1 : (rTellsW tp n 0 99 1 0 z).2 = z1 at *
    generalize hz2 : (rTells tp n 9 1 50 1 1 z1).2 = z2 at *
    generalize hz3 : (rTells tp n 10 0 60 1 2 z2).2 = z3 at *
    generalize hz4 : (rTells tp n 11 0 12 1 3 z3).2 = z4 at *
    generalize hq5 : rTells tp n 12 0 50 1 4 z4 = q5 at *
    obtain ⟨b5, z5⟩ := q5
    obtain rfl : b5 = true := t
    obtain ⟨G5, n5⟩ := A6.1 rfl
    have hr0 : zC z 1 = 0 := by have : zC z 1 < 1 := hr; omega
    have c1 : zC z1 = zC z := W1.1.1.1
    have c2 : zC z2 = zC z := W2.1.1.1.trans c1
    have c3 : zC z3 = zC z := W3.1.1.1.trans c2
    have c4 : zC z4 = zC z := W4.1.1.1.trans c3
    have c5 : zC z5 = zC z := W5.1.1.1.trans c4
    have x1 := W1.2.2 hr
    have x2 := W2.2.2 (by rw [c1]; exact hr)
    have x3 := W3.2.2 (by rw [c2]; exact hr)
    have x4 := W4.2.2 (by rw [c3]; exact hr)
    have x5 := W5.2.2 (by rw [c4]; exact hr)
    have y2 := W2.1.2.2.2
    have y3 := W3.1.2.2.2
    have y4 := W4.1.2.2.2
    have y5 := W5.1.2.2.2
    rw [hr0] at x1
    rw [c1, hr0] at x2 y2
    rw [c2, hr0] at x3 y3
    rw [c3, hr0] at x4 y4
    rw [c4, hr0] at x5 y5
    have b0 : zB z5 1 0 = v0 := by rw [w1]; exact ((y5 0 (by decide)).trans (y4 0 (by decide))).trans (((y3 0 (by decide)).trans (y2 0 (by decide))).trans x1)
    have b1 : zB z5 1 1 = v1 := by rw [w2]; exact ((y5 1 (by decide)).trans (y4 1 (by decide))).trans ((y3 1 (by decide)).trans x2)
    have b2 : zB z5 1 2 = v2 := by rw [w3]; exact ((y5 2 (by decide)).trans (y4 2 (by decide))).trans x3
    have b3 : zB z5 1 3 = v3 := by rw [w4]; exact (y5 3 (by decide)).trans x4
    have b4 : zB z5 1 4 = v4 := by rw [w5]; exact x5
    have bm : ∀ m, m ≠ 1 → zB z5 m = zB z m := fun m hm => (((W5.1.1.2.1 m hm).trans (W4.1.1.2.1 m hm)).trans ((W3.1.1.2.1 m hm).trans (W2.1.1.2.1 m hm))).trans (W1.1.1.2.1 m hm)
    have ee : rEnds tp n 1 z5 = rStep tp n (rB z5 (updN (zC z5) 1 (zC z5 1 + 1)) (zB z5)) := by unfold rEnds; rw [rC_eq (by rw [c5]; exact hr)]
    have C5 : updN (zC z5) 1 (zC z5 1 + 1) = updN (zC z) 1 1 := by rw [c5, hr0]
    have N5 : zN z5 = zN z := ((W5.1.2.1.trans W4.1.2.1).trans (W3.1.2.1.trans W2.1.2.1)).trans W1.1.2.1
    have K5 : zK z5 = zK z := ((W5.1.2.2.1.trans W4.1.2.2.1).trans (W3.1.2.2.1.trans W2.1.2.2.1)).trans W1.1.2.2.1
    have M5 : zM z5 = zM z := ((W5.2.1.trans W4.2.1).trans (W3.2.1.trans W2.2.1)).trans W1.2.1
    show LV tp n (true, rEnds tp n 1 z5) p6 ∧ FBk _ b (true, rEnds tp n 1 z5) ∧ _
    refine ⟨⟨fun _ => ?_, fun y => (by cases y)⟩, ?_, fr⟩
    · show PG tp n (zT (rEnds tp n 1 z5)) p6
      rw [ee]; exact G5
    · refine ⟨_, updN (zC z) 1 1, zN z, G, nm, Sf _ (fun m h1 h2 => updN_n (by omega)), fun l hl => ?_, nb, fun _ => ?_⟩
      · by_cases e : l = 1
        · subst e; rw [updN_s]; decide
        · rw [updN_n e]; exact bd l hl
      · show BR (rEnds tp n 1 z5) _ _ _ _ _
        rw [ee, C5]
        refine ⟨rfl, N5.symm, MRel_s r3 (fun m h1 h2 => updN_n (by omega)) (fun m h1 h2 => bm m (by omega)), fun y => r4 y, fun y => ?_, fun y => ?_, fun _ => ⟨b0.symm, b1.symm, b2.symm, b3.symm, b4.symm⟩, fun i hi => ?_, ?_⟩
        · have := r5 y
          show _ = zB z5 0 0 ∧ _ = zB z5 0 1
          rw [bm 0 (by decide)]; exact this
        · exact absurd (show (1 : Nat) = 0 from y) (by decide)
        · show G 13 i = zK z5 i
          rw [K5]; exact r8 i (by have : i < zN z5 := hi; omega)
        · show NmR (zN z5) (zM z5) nm
          rw [N5, M5]; exact r9
theorem mf_loop (Sh : FSh h b F c nn G nm) (hn : nn ≤ 22) {w : Int64} : ∀ r k, k + r = nn → tE mX10_find 2 [.ref b, .long w, tm_U, .int (nI k)] [] h = some (h, some (.int (ixI (ixG nm w r k)))) := by
  intro r
  induction r with
  | zero =>
    intro k hk
    obtain rfl : k = nn := by omega
    simp only [bX10_find_2, bX10_find_7, bX10_find_29, tk1_some, tk0_some, tkc_some, tkc_none, ↓reduceIte, Sh.1, gf_10_12, Int32.le_refl, if_true, ixG, ixI]
  | succ r ih =>
    intro k hk
    have e1 : ¬ nI nn ≤ nI k := nI_ge (by omega) (by omega)
    have e := ih (k + 1) (by omega)
    rw [bX10_find_2]
    unfold ixG
    by_cases c : lg_cmp (nm k) w = 0
    · simp only [bX10_find_7, bX10_find_10, bX10_find_14, bX10_find_16, bX10_find_21, tk1_some, tk0_some, tkc_some, tkc_none, ↓reduceIte, Sh.1, gf_10_12, gf_10_24, e1, if_false, Sh.2.2, tm_aj_in rfl (show k < 22 by omega) (show 22 < 2 ^ 31 by decide), c, not_true, if_true, ixI]
    · simp only [bX10_find_7, bX10_find_10, bX10_find_14, bX10_find_16, bX10_find_23 (a2 := tm_U) rfl, tk1_some, tk0_some, tkc_some, tkc_none, ↓reduceIte, Sh.1, gf_10_12, gf_10_24, e1, if_false, Sh.2.2, tm_aj_in rfl (show k < 22 by omega) (show 22 < 2 ^ 31 by decide), c, not_false_eq_true, if_true, nI_k1, e]
theorem m_find (Sh : FSh h b F c nn G nm) (hn : nn ≤ 22) {w : Int64} : tC mX10_find [.ref b, .long w] h = some (h, some (.int (ixI (ixG nm w nn 0)))) := by
  have e := mf_loop Sh hn (w := w) nn 0 (by omega)
  rw [nI_0] at e
  rw [cX10_find_, bX10_find_0 rfl, e]
theorem ix_eq {M : Nat → Int64} (R : NmR nn M nm) {L : List Nat} (hL : DgL L) (hl : L.length ≤ 8) : ∀ r k, k + r ≤ nn → ixG nm (Int64.ofNat (rvW 32 L)) r k = ixG M (Int64.ofNat (rvW 27 L)) r k := by
  obtain ⟨N, R⟩ := R
  intro r
  induction r with
  | zero => intro k _; rfl
  | succ r ih =>
    intro k hk
    obtain ⟨a, b, c, d⟩ := R k (by omega)
    unfold ixG
    rw [ih (k + 1) (by omega), c, d]
    have e : (lg_cmp (Int64.ofNat (rvW 32 (N k))) (Int64.ofNat (rvW 32 L)) = 0) = (lg_cmp (Int64.ofNat (rvW 27 (N k))) (Int64.ofNat (rvW 27 L)) = 0) := by
      rw [lgc_0, lgc_0, propext (rv_eq (by decide) (by decide) a hL b hl), propext (rv_eq (by decide) (by decide) a hL b hl)]
    by_cases x : lg_cmp (Int64.ofNat (rvW 27 (N k))) (Int64.ofNat (rvW 27 L)) = 0
    · rw [if_pos x, if_pos (by rw [e]; exact x)]
    · rw [if_neg x, if_neg (by rw [e]; exact x)]
theorem m_isN {p : PR} {T : Tok} (H : PG tp n T p) : tC mX11_isName [.ref 70] (tm_up h 70 (mpO Z p tu)) = some (tm_up h 70 (mpO Z p tu), some (.int (bI (isNm tp T)))) := by
  have w := fun (k m : Nat) (hk : k < 21) (hm : m = k + 21) => m_isW (h := h) (Z := Z) (tu := tu) H hk hm
  have w0 := w 0 21 (by decide) rfl
  have w1 := w 1 22 (by decide) rfl
  have w2 := w 2 23 (by decide) rfl
  have w3 := w 3 24 (by decide) rfl
  have w4 := w 4 25 (by decide) rfl
  have w5 := w 5 26 (by decide) rfl
  have w6 := w 6 27 (by decide) rfl
  unfold isNm
  by_cases d : T.2.2 = 1
  · have e2 : p.2.1 = 2 := (PG_so H).1.mpr d
    simp only [cX11_isName_, bX11_isName_0, bX11_isName_4, bX11_isName_8, bX11_isName_14, bX11_isName_17, bX11_isName_23, bX11_isName_26, bX11_isName_32, bX11_isName_35, bX11_isName_41, bX11_isName_44, bX11_isName_50, bX11_isName_53, bX11_isName_59, bX11_isName_62, bX11_isName_68, bX11_isName_71, bX11_isName_76, bX11_isName_75, tk1_some, tk0_some, tkc_some, tkc_none, ↓reduceIte, tm_up_same, gf_11_9, e2, tm_isO, d, not_true, if_false, if_true, w0, w1, w2, w3, w4, w5, w6]
    cases isWd tp T 0
    · cases isWd tp T 1
      · cases isWd tp T 2
        · cases isWd tp T 3
          · cases isWd tp T 4
            · cases isWd tp T 5
              · cases isWd tp T 6 <;> rfl
              · rfl
            · rfl
          · rfl
        · rfl
      · rfl
    · rfl
  · have e2 : ¬ p.2.1 = 2 := fun y => d ((PG_so H).1.mp y)
    simp only [cX11_isName_, bX11_isName_0, bX11_isName_4, bX11_isName_8, bX11_isName_14, bX11_isName_17, bX11_isName_23, bX11_isName_26, bX11_isName_32, bX11_isName_35, bX11_isName_41, bX11_isName_44, bX11_isName_50, bX11_isName_53, bX11_isName_59, bX11_isName_62, bX11_isName_68, bX11_isName_71, bX11_isName_76, bX11_isName_75, tk1_some, tk0_some, tkc_some, tkc_none, ↓reduceIte, tm_up_same, gf_11_9, e2, d, not_false_eq_true, if_true, if_false, tm_rb0, bI_f]
theorem m_isNO {p : PR} {k : Int32} {l : Nat} (H : PO k l p) : tC mX11_isName [.ref 70] (tm_up h 70 (mpO Z p tu)) = some (tm_up h 70 (mpO Z p tu), some (.int 0)) := by
  simp only [cX11_isName_, bX11_isName_0, bX11_isName_4, bX11_isName_8, bX11_isName_14, bX11_isName_17, bX11_isName_23, bX11_isName_26, bX11_isName_32, bX11_isName_35, bX11_isName_41, bX11_isName_44, bX11_isName_50, bX11_isName_53, bX11_isName_59, bX11_isName_62, bX11_isName_68, bX11_isName_71, bX11_isName_76, bX11_isName_75, tk1_some, tk0_some, tkc_some, tkc_none, ↓reduceIte, tm_up_same, gf_11_9, H.1, show ((5 : Int32) = 2) = False from by decide, not_false_eq_true, if_true, tm_rb0]
end M10
