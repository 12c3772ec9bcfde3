/-! THE REFERENCE's reading: kinds, reds -/
section M12
variable {h : tm_H} {b n : Nat} {tp : Nat → Int32} {Z : MZ} {tu : Int32} {z : RSt} {F : B7} {c : Nat → Nat} {nn : Nat} {G : Nat → Nat → Int32} {nm : Nat → Int64}
theorem MRel_2 {t t' : Nat → Nat → Int32} (M : MRel c t G) (e : ∀ m, m ≠ 2 → t' m = t m) (r : ∀ x, x < c 2 * 3 → t' 2 x = t 2 x) : MRel (updN c 2 (c 2 + 1)) t' (upA (upA (upA G 1 (upd (G 1) (c 2) (t' 2 (c 2 * 3 + 0)))) 2 (upd (G 2) (c 2) (t' 2 (c 2 * 3 + 1)))) 3 (upd (G 3) (c 2) (t' 2 (c 2 * 3 + 2)))) := by
  obtain ⟨a1, a2, a3, a4, a5⟩ := M
  refine ⟨fun i hi => ?_, fun i hi => ?_, fun i hi => ?_, fun i hi => ?_, fun i j hi hj => ?_⟩
  · show upd (G 1) (c 2) (t' 2 (c 2 * 3 + 0)) i = _ ∧ upd (G 2) (c 2) (t' 2 (c 2 * 3 + 1)) i = _ ∧ upd (G 3) (c 2) (t' 2 (c 2 * 3 + 2)) i = _
    rw [updN_s] at hi
    by_cases x : i = c 2
    · subst x; rw [upd_at, upd_at, upd_at]; exact ⟨rfl, rfl, rfl⟩
    · rw [upd_off x, upd_off x, upd_off x, r (i * 3) (by omega), r (i * 3 + 1) (by omega), r (i * 3 + 2) (by omega)]; exact a1 i (by omega)
  · rw [updN_n (by decide)] at hi; rw [e 3 (by decide)]; exact a2 i hi
  · rw [updN_n (by decide)] at hi; rw [e 4 (by decide)]; exact a3 i hi
  · rw [updN_n (by decide)] at hi; rw [e 5 (by decide)]; exact a4 i hi
  · rw [updN_n (by decide)] at hi; rw [e 6 (by decide)]; exact a5 i j hi hj
theorem MRel_3 {t t' : Nat → Nat → Int32} (M : MRel c t G) (e : ∀ m, m ≠ 3 → t' m = t m) (r : ∀ x, x < c 3 * 3 → t' 3 x = t 3 x) : MRel (updN c 3 (c 3 + 1)) t' (upA (upA (upA G 4 (upd (G 4) (c 3) (t' 3 (c 3 * 3 + 0)))) 5 (upd (G 5) (c 3) (t' 3 (c 3 * 3 + 1)))) 6 (upd (G 6) (c 3) (t' 3 (c 3 * 3 + 2)))) := by
  obtain ⟨a1, a2, a3, a4, a5⟩ := M
  refine ⟨fun i hi => ?_, fun i hi => ?_, fun i hi => ?_, fun i hi => ?_, fun i j hi hj => ?_⟩
  · rw [updN_n (by decide)] at hi; rw [e 2 (by decide)]; exact a1 i hi
  · show upd (G 4) (c 3) (t' 3 (c 3 * 3 + 0)) i = _ ∧ upd (G 5) (c 3) (t' 3 (c 3 * 3 + 1)) i = _ ∧ upd (G 6) (c 3) (t' 3 (c 3 * 3 + 2)) i = _
    rw [updN_s] at hi
    by_cases x : i = c 3
    · subst x; rw [upd_at, upd_at, upd_at]; exact ⟨rfl, rfl, rfl⟩
    · rw [upd_off x, upd_off x, upd_off x, r (i * 3) (by omega), r (i * 3 + 1) (by omega), r (i * 3 + 2) (by omega)]; exact a2 i (by omega)
  · rw [updN_n (by decide)] at hi; rw [e 4 (by decide)]; exact a3 i hi
  · rw [updN_n (by decide)] at hi; rw [e 5 (by decide)]; exact a4 i hi
  · rw [updN_n (by decide)] at hi; rw [e 6 (by decide)]; exact a5 i j hi hj
theorem MRel_4 {t t' : Nat → Nat → Int32} (M : MRel c t G) (e : ∀ m, m ≠ 4 → t' m = t m) (r : ∀ x, x < c 4 * 2 → t' 4 x = t 4 x) : MRel (updN c 4 (c 4 + 1)) t' (upA (upA G 7 (upd (G 7) (c 4) (t' 4 (c 4 * 2 + 0)))) 8 (upd (G 8) (c 4) (t' 4 (c 4 * 2 + 1)))) := by
  obtain ⟨a1, a2, a3, a4, a5⟩ := M
  refine ⟨fun i hi => ?_, fun i hi => ?_, fun i hi => ?_, fun i hi => ?_, fun i j hi hj => ?_⟩
  · rw [updN_n (by decide)] at hi; rw [e 2 (by decide)]; exact a1 i hi
  · rw [updN_n (by decide)] at hi; rw [e 3 (by decide)]; exact a2 i hi
  · show upd (G 7) (c 4) (t' 4 (c 4 * 2 + 0)) i = _ ∧ upd (G 8) (c 4) (t' 4 (c 4 * 2 + 1)) i = _
    rw [updN_s] at hi
    by_cases x : i = c 4
    · subst x; rw [upd_at, upd_at]; exact ⟨rfl, rfl⟩
    · rw [upd_off x, upd_off x, r (i * 2) (by omega), r (i * 2 + 1) (by omega)]; exact a3 i (by omega)
  · rw [updN_n (by decide)] at hi; rw [e 5 (by decide)]; exact a4 i hi
  · rw [updN_n (by decide)] at hi; rw [e 6 (by decide)]; exact a5 i j hi hj
theorem MRel_5 {t t' : Nat → Nat → Int32} (M : MRel c t G) (e : ∀ m, m ≠ 5 → t' m = t m) (r : ∀ x, x < c 5 * 2 → t' 5 x = t 5 x) : MRel (updN c 5 (c 5 + 1)) t' (upA (upA G 9 (upd (G 9) (c 5) (t' 5 (c 5 * 2 + 0)))) 10 (upd (G 10) (c 5) (t' 5 (c 5 * 2 + 1)))) := by
  obtain ⟨a1, a2, a3, a4, a5⟩ := M
  refine ⟨fun i hi => ?_, fun i hi => ?_, fun i hi => ?_, fun i hi => ?_, fun i j hi hj => ?_⟩
  · rw [updN_n (by decide)] at hi; rw [e 2 (by decide)]; exact a1 i hi
  · rw [updN_n (by decide)] at hi; rw [e 3 (by decide)]; exact a2 i hi
  · rw [updN_n (by decide)] at hi; rw [e 4 (by decide)]; exact a3 i hi
  · show upd (G 9) (c 5) (t' 5 (c 5 * 2 + 0)) i = _ ∧ upd (G 10) (c 5) (t' 5 (c 5 * 2 + 1)) i = _
    rw [updN_s] at hi
    by_cases x : i = c 5
    · subst x; rw [upd_at, upd_at]; exact ⟨rfl, rfl⟩
    · rw [upd_off x, upd_off x, r (i * 2) (by omega), r (i * 2 + 1) (by omega)]; exact a4 i (by omega)
  · rw [updN_n (by decide)] at hi; rw [e 6 (by decide)]; exact a5 i j hi hj
theorem rAnd_tt {z : RSt} {f : RSt → Bool × RSt} : rAnd (true, z) f = f z := rfl
theorem lim_e {m k : Nat} (hm : m < 2 ^ 31) (hk : k ≤ m) : (nI k = nI m) = (m ≤ k) := by
  refine propext ⟨fun e => ?_, fun e => by rw [Nat.le_antisymm hk e]⟩
  have := congrArg Int32.toNatClampNeg e
  rw [nI_clamp (by omega), nI_clamp hm] at this
  omega
theorem FrG_MC {h' : tm_H} (C : MC h n tp Z) (hb : 83 < b) (F : FrG b h h') : MC h' n tp Z := ⟨C.1, by rw [F 71 (by decide) (by omega)]; exact C.2.1, C.2.2⟩
theorem bd_up {l : Nat} (bd : ∀ l, l < 7 → c l ≤ lnM l) (hr : c l < lnM l) : ∀ m, m < 7 → updN c l (c l + 1) m ≤ lnM m := fun m hm => by
  by_cases e : m = l
  · subst e; rw [updN_s]; exact hr
  · rw [updN_n e]; exact bd m hm
theorem FSh_p {F' : B7} {c' : Nat → Nat} {nn' k1 k2 k3 k4 k5 : Nat} (S : FSh h b F c nn G nm) (e1 : c' 2 = k1) (e2 : c' 3 = k2) (e3 : c' 4 = k3) (e4 : c' 5 = k4) (e5 : c' 6 = k5) : FSh (tm_up h b (mbO b F'.1 F'.2.1 F'.2.2.1 F'.2.2.2.1 F'.2.2.2.2.1 F'.2.2.2.2.2.1 F'.2.2.2.2.2.2 k1 k2 k3 k4 k5 nn')) b F' c' nn' G nm := by
  subst e1 e2 e3 e4 e5
  exact FSh_o S F' c' nn'
theorem m_Kind (C : MC h n tp Z) (zf : Z.2.1.2 = .ref b) (hb : 83 < b) {p : PR} (o : h 70 = mpO Z p tu) (H : PG tp n (zT z) p) (e1 : (zT z).2.2 = 1) (S : FBk h b (true, z)) (g : Gd z) :
    ∃ h' p', tC mX11_readKind [.ref 70] h = some (h', none) ∧ h' 70 = mpO Z p' tu ∧ LV tp n (rAnd (rRoom 2 5 z) (rKind tp n)) p' ∧ FBk h' b (rAnd (rRoom 2 5 z) (rKind tp n)) ∧ FrG b h h' := by
  have ne : b ≠ 70 := by omega
  have nx : ∀ (H' : tm_H) (X : va_E), tm_up H' 70 X b = H' b := fun _ _ => tm_up_ne ne
  have cm : ∀ (H' : tm_H) (X Y : va_E), tm_up (tm_up H' 70 X) b Y = tm_up (tm_up H' b Y) 70 X := fun _ _ _ => tm_up_comm (Ne.symm ne)
  obtain ⟨h1, p1, P1, o1, A1, S1, F1⟩ := m_named C zf hb o H e1 S g (l := 2) (Or.inl rfl) (fl := bI (decide (lnM 2 ≤ zC z 2))) rfl (nI (zC z 2))
  have C1 := FrG_MC C hb F1
  have E1 : tC mX11_readKind [.ref 70] h = tE mX11_readKind 27 [.ref 70, tm_U, tm_U, tm_U] [] h1 := by
    obtain ⟨F, c, nn, G, nm, Sh, bd, nb, R⟩ := S
    obtain ⟨r1, r2, _⟩ : BR z F c nn G nm := R rfl
    subst r1 r2
    have lm : (nI (zC z 2) = 5) = (lnM 2 ≤ zC z 2) := lim_e (m := 5) (by decide) (bd 2 (by decide))
    by_cases d : lnM 2 ≤ zC z 2
    · rw [decide_eq_true d, bI_t] at P1
      simp only [cX11_readKind_, bX11_readKind_0, bX11_readKind_5, bX11_readKind_8, bX11_readKind_12, bX11_readKind_17, bX11_readKind_21, bX11_readKind_24, tk1_some, tk0_some, tkc_some, tkc_none, ↓reduceIte, o, gf_11_4, zf, Sh.1, gf_10_7, lm, d, not_true, if_false, tm_isO, P1]
    · rw [decide_eq_false d, bI_f] at P1
      simp only [cX11_readKind_, bX11_readKind_0, bX11_readKind_5, bX11_readKind_8, bX11_readKind_16, bX11_readKind_17, bX11_readKind_21, bX11_readKind_24, tk1_some, tk0_some, tkc_some, tkc_none, ↓reduceIte, o, gf_11_4, zf, Sh.1, gf_10_7, lm, d, not_false_eq_true, if_true, tm_isO, P1]
  have fo : tm_up h1 70 (mpO Z p1 tu) = h1 := by rw [← o1, tm_up_id]
  obtain ⟨p2, v1, P2, A2, V2⟩ := m_part C1 (tu := tu) A1 (k := 13) (m := 34) (by decide) rfl (lo := 0) (hi := 99) 2 0
  obtain ⟨p3, v2, P3, A3, V3⟩ := m_part C1 (tu := tu) A2 (k := 14) (m := 35) (by decide) rfl (lo := 0) (hi := 50) 2 1
  obtain ⟨p4, v3, P4, A4, V4⟩ := m_part C1 (tu := tu) A3 (k := 15) (m := 36) (by decide) rfl (lo := 1) (hi := 999) 2 2
  have E3 : tE mX11_readKind 27 [.ref 70, tm_U, tm_U, tm_U] [] (tm_up h1 70 (mpO Z p1 tu)) = tE mX11_readKind 62 [.ref 70, .int v1, .int v2, .int v3] [.int p4.2.1] (tm_up h1 70 (mpO Z p4 tu)) := by
    simp only [bX11_readKind_27, bX11_readKind_36, bX11_readKind_46, bX11_readKind_57, tk1_some, tk0_some, tkc_some, tkc_none, ↓reduceIte, tm_up_same, tm_isO, P2, P3, P4, gf_11_9]
  rw [fo] at E3
  rw [E1, E3]
  have eq : rAnd (rRoom 2 5 z) (rKind tp n) = rAnd (rAnd (rAnd (rAnd (rAnd (rRoom 2 5 z) (rName tp n (nI (zC z 2)))) (rTells tp n 13 0 99 2 0)) (rTells tp n 14 0 50 2 1)) (rTells tp n 15 1 999 2 2)) (fun y => (true, rEnds tp n 2 y)) := by
    rw [← rAnd_as, ← rAnd_as, ← rAnd_as, ← rAnd_as]
    unfold rRoom
    by_cases d : lnM 2 ≤ zC z 2
    · rw [if_pos d, rAnd_ff rfl, rAnd_ff rfl]
    · rw [if_neg d, rAnd_tt, rAnd_tt]; unfold rKind; rfl
  rw [eq]
  cases t : (rAnd (rAnd (rAnd (rAnd (rRoom 2 5 z) (rName tp n (nI (zC z 2)))) (rTells tp n 13 0 99 2 0)) (rTells tp n 14 0 50 2 1)) (rTells tp n 15 1 999 2 2)).1 with
  | false =>
    have P := A4.2 t
    rw [rAnd_ff t]
    refine ⟨tm_up h1 70 (mpO Z p4 tu), p4, ?_, tm_up_same, ⟨fun y => (by cases y), fun _ => P⟩, FBk_c (FBk_f S1 rfl) (fun k x y => tm_up_ne (by omega)), FrG_tr F1 (FrG_up (Or.inl rfl))⟩
    simp only [bX11_readKind_62, bX11_readKind_66, P.1, not_true, if_false]
  | true =>
    obtain ⟨t4, u4⟩ := rAnd_t t
    obtain ⟨t3, u3⟩ := rAnd_t t4
    obtain ⟨t2, u2⟩ := rAnd_t t3
    obtain ⟨t1, u1⟩ := rAnd_t t2
    obtain ⟨ez, hr⟩ := room_ok t1
    rw [ez] at u1
    rw [u1] at t t4 t3 t2 V2 V3 V4 u4 u3 u2 A4 S1 ⊢
    rw [u2] at t t4 t3 V2 V3 V4 u4 u3 A4 ⊢
    rw [u3] at t t4 V3 V4 u4 A4 ⊢
    rw [u4] at t V4 A4 ⊢
    obtain ⟨q1, q2, q3, q4, q5⟩ := name_nf t2
    obtain ⟨W1, i1⟩ := tells_pv t3
    obtain ⟨W2, i2⟩ := tells_pv t4
    obtain ⟨W3, i3⟩ := tells_pv t
    have w1 := V2 t3
    have w2 := V3 t4
    have w3 := V4 t
    obtain ⟨F, c, nn, G, nm, Sh, bd, nb, R⟩ := S1
    obtain ⟨r1, r2, r3, r4, r5, r6, r7, r8, r9⟩ : BR (rName tp n (nI (zC z 2)) z).2 F c nn G nm := R t2
    generalize hz1 : (rName tp n (nI (zC z 2)) z).2 = z1 at *
    generalize hz2 : (rTells tp n 13 0 99 2 0 z1).2 = z2 at *
    generalize hz3 : (rTells tp n 14 0 50 2 1 z2).2 = z3 at *
    generalize hq4 : rTells tp n 15 1 999 2 2 z3 = q4' at *
    obtain ⟨b4, z4⟩ := q4'
    obtain rfl : b4 = true := t
    obtain ⟨G4, n4⟩ := A4.1 rfl
    subst r1 r2
    have c2 : zC z2 = zC z1 := W1.1.1.1
    have c3 : zC z3 = zC z1 := W2.1.1.1.trans c2
    have c4 : zC z4 = zC z1 := W3.1.1.1.trans c3
    have hr1 : zC z1 2 < lnM 2 := by rw [q1]; exact hr
    have x1 := W1.2.2 hr1
    have x2 := W2.2.2 (by rw [c2]; exact hr1)
    have x3 := W3.2.2 (by rw [c3]; exact hr1)
    have y2 := W2.1.2.2.2
    have y3 := W3.1.2.2.2
    rw [c2] at x2 y2
    rw [c3] at x3 y3
    have b0 : zB z4 2 (zC z1 2 * 3 + 0) = v1 := by rw [w1]; exact ((y3 0 (by decide)).trans (y2 0 (by decide))).trans x1
    have b1 : zB z4 2 (zC z1 2 * 3 + 1) = v2 := by rw [w2]; exact (y3 1 (by decide)).trans x2
    have b2 : zB z4 2 (zC z1 2 * 3 + 2) = v3 := by rw [w3]; exact x3
    have SB : SameB 2 z1 z4 := SameB_tr W1.1.1 (SameB_tr W2.1.1 W3.1.1)
    have N4 : zN z4 = zN z1 := (W3.1.2.1.trans W2.1.2.1).trans W1.1.2.1
    have K4 : zK z4 = zK z1 := (W3.1.2.2.1.trans W2.1.2.2.1).trans W1.1.2.2.1
    have M4 : zM z4 = zM z1 := (W3.2.1.trans W2.2.1).trans W1.2.1
    have n5 := PG_5 G4
    have ee : rEnds tp n 2 z4 = rStep tp n (rB z4 (updN (zC z4) 2 (zC z4 2 + 1)) (zB z4)) := by unfold rEnds; rw [rC_eq (by rw [c4]; exact hr1)]
    have k5 : zC z1 2 < 5 := hr1
    have t0 : (5 : Nat) < 2 ^ 31 := by decide
    have Sa := FSh_a Sh (i := 1) (by decide) (by decide) (by decide) (upd (G 1) (zC z1 2) v1)
    have Ea := si_130 (X := mpO Z p4 tu) (v := v1) (N := 5) (Sh.2.1 1 (by decide) (by decide) (by decide)) k5 t0 (show b + 1 ≠ 70 by omega)
    have Fa : FrG b h1 (tm_up h1 (b + 1) (aI 5 (upd (G 1) (zC z1 2) v1))) := FrG_up (Or.inr ⟨by omega, by omega⟩)
    change FSh (tm_up h1 (b + 1) (aI 5 (upd (G 1) (zC z1 2) v1))) _ _ _ _ _ _ at Sa
    generalize tm_up h1 (b + 1) (aI 5 (upd (G 1) (zC z1 2) v1)) = ha at Sa Ea Fa
    have Sb := FSh_a Sa (i := 2) (by decide) (by decide) (by decide) (upd (G 2) (zC z1 2) v2)
    have Eb := si_130 (X := mpO Z p4 tu) (v := v2) (N := 5) (f := G 2) (Sa.2.1 2 (by decide) (by decide) (by decide)) k5 t0 (show b + 2 ≠ 70 by omega)
    have Fb : FrG b ha (tm_up ha (b + 2) (aI 5 (upd (G 2) (zC z1 2) v2))) := FrG_up (Or.inr ⟨by omega, by omega⟩)
    change FSh (tm_up ha (b + 2) (aI 5 (upd (G 2) (zC z1 2) v2))) _ _ _ _ _ _ at Sb
    generalize tm_up ha (b + 2) (aI 5 (upd (G 2) (zC z1 2) v2)) = hb' at Sb Eb Fb
    have Sc := FSh_a Sb (i := 3) (by decide) (by decide) (by decide) (upd (G 3) (zC z1 2) v3)
    have Ec := si_130 (X := mpO Z p4 tu) (v := v3) (N := 5) (f := G 3) (Sb.2.1 3 (by decide) (by decide) (by decide)) k5 t0 (show b + 3 ≠ 70 by omega)
    have Fc : FrG b hb' (tm_up hb' (b + 3) (aI 5 (upd (G 3) (zC z1 2) v3))) := FrG_up (Or.inr ⟨by omega, by omega⟩)
    change FSh (tm_up hb' (b + 3) (aI 5 (upd (G 3) (zC z1 2) v3))) _ _ _ _ _ _ at Sc
    generalize tm_up hb' (b + 3) (aI 5 (upd (G 3) (zC z1 2) v3)) = hc at Sc Ec Fc
    have Sd := FSh_p (F' := F) (c' := updN (zC z1) 2 (zC z1 2 + 1)) (nn' := zN z1) Sc updN_s (updN_n (by decide)) (updN_n (by decide)) (updN_n (by decide)) (updN_n (by decide))
    have sa := Sa.1
    have sb := Sb.1
    have sc := Sc.1
    show ∃ h' p', _ ∧ _ ∧ LV tp n (true, rEnds tp n 2 z4) p' ∧ FBk h' b (true, rEnds tp n 2 z4) ∧ _
    refine ⟨tm_up (tm_up hc b (mbO b F.1 F.2.1 F.2.2.1 F.2.2.2.1 F.2.2.2.2.1 F.2.2.2.2.2.1 F.2.2.2.2.2.2 (zC z1 2 + 1) (zC z1 3) (zC z1 4) (zC z1 5) (zC z1 6) (zN z1))) 70 (mpO Z p4 tu), p4, ?_, tm_up_same, ⟨fun _ => ?_, fun y => (by cases y)⟩, ?_, FrG_tr F1 (FrG_tr Fa (FrG_tr Fb (FrG_tr Fc (FrG_tr (FrG_up (Or.inr ⟨Nat.le_refl _, by omega⟩)) (FrG_up (Or.inl rfl))))))⟩
    · simp only [bX11_readKind_62, bX11_readKind_66, bX11_readKind_67, bX11_readKind_71, bX11_readKind_74, bX11_readKind_78, bX11_readKind_81, bX11_readKind_83, bX11_readKind_87, bX11_readKind_90, bX11_readKind_94, bX11_readKind_97, bX11_readKind_99, bX11_readKind_103, bX11_readKind_106, bX11_readKind_110, bX11_readKind_113, bX11_readKind_115, bX11_readKind_119, bX11_readKind_123, bX11_readKind_128, tk1_some, tk0_some, tkc_some, tkc_none, ↓reduceIte, n5, not_false_eq_true, if_true, tm_up_same, gf_11_4, zf, nx, Sh.1, sa, sb, sc, gf_10_13, gf_10_14, gf_10_15, gf_10_7, Ea, Eb, Ec, tm_pf_eq, ps_10_7, Option.map_some, cm, nI_k1]
    · show PG tp n (zT (rEnds tp n 2 z4)) p4
      rw [ee]; exact G4
    · refine FBk_c ⟨F, updN (zC z1) 2 (zC z1 2 + 1), zN z1, _, nm, Sd, bd_up bd hr1, nb, fun _ => ?_⟩ (fun k x y => tm_up_ne (by omega))
      show BR (rEnds tp n 2 z4) _ _ _ _ _
      rw [ee, c4]
      have MM := MRel_2 (t' := zB z4) r3 SB.2.1 SB.2.2
      rw [b0, b1, b2] at MM
      refine ⟨rfl, N4.symm, MM, fun y => r4 y, fun y => ?_, fun y => r6 y, fun y => ?_, fun i hi => ?_, ?_⟩
      · have := r5 y
        show _ = zB z4 0 0 ∧ _ = zB z4 0 1
        rw [SB.2.1 0 (by decide)]; exact this
      · have := r7 y
        show _ = zB z4 1 0 ∧ _ = zB z4 1 1 ∧ _ = zB z4 1 2 ∧ _ = zB z4 1 3 ∧ _ = zB z4 1 4
        rw [SB.2.1 1 (by decide)]; exact this
      · show G 13 i = zK z4 i
        rw [K4]; exact r8 i (by have : i < zN z4 := hi; omega)
      · show NmR (zN z4) (zM z4) nm
        rw [N4, M4]; exact r9
end M12
