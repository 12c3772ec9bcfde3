/-! THE REFERENCE's reading: reds, turns -/
section M13
variable {h : tm_H} {b n : Nat} {tp : Nat → Int32} {Z : MZ} {tu : Int32} {z : RSt} {F : B7} {c : Nat → Nat} {nn : Nat} {G : Nat → Nat → Int32} {nm : Nat → Int64}
theorem rAnd_lo {q : Bool × RSt} {v : Int32} (V : q.1 = true → v = zL q.2) {k l c : Nat} {hi : Int32} : rAnd q (fun y => rTells tp n k (zL y) hi l c y) = rAnd q (rTells tp n k v hi l c) := by
  obtain ⟨b', y⟩ := q
  cases b' with
  | false => rw [rAnd_ff rfl, rAnd_ff rfl]
  | true => rw [rAnd_tt, rAnd_tt, V rfl]
/-- the end of a line that is no bar's and no water's -/
theorem BR_e {z1 z4 : RSt} {c' : Nat → Nat} {G' : Nat → Nat → Int32} {T : Tok} (MM : MRel c' (zB z4) G') (r4 : zC z1 0 = 0 → F.1 = 0) (r5 : zC z1 0 ≠ 0 → F.1 = zB z1 0 0 ∧ F.2.1 = zB z1 0 1) (r6 : zC z1 1 = 0 → F.2.2.1 = -1) (r7 : zC z1 1 ≠ 0 → F.2.2.1 = zB z1 1 0 ∧ F.2.2.2.1 = zB z1 1 1 ∧ F.2.2.2.2.1 = zB z1 1 2 ∧ F.2.2.2.2.2.1 = zB z1 1 3 ∧ F.2.2.2.2.2.2 = zB z1 1 4) (r8 : ∀ i, i < zN z1 → G 13 i = zK z1 i) (r9 : NmR (zN z1) (zM z1) nm) (N4 : zN z4 = zN z1) (K4 : zK z4 = zK z1) (M4 : zM z4 = zM z1) (c0 : c' 0 = zC z1 0) (c1 : c' 1 = zC z1 1) (e0 : zB z4 0 = zB z1 0) (e1 : zB z4 1 = zB z1 1) (eG : G' 13 = G 13) : BR (rT (rB z4 c' (zB z4)) T) F c' (zN z1) G' nm := by
  refine ⟨rfl, N4.symm, MM, fun y => r4 ?_, fun y => ?_, fun y => r6 ?_, fun y => ?_, fun i hi => ?_, ?_⟩
  · rw [← c0]; exact y
  · have := r5 (by rw [← c0]; exact y)
    show _ = zB z4 0 0 ∧ _ = zB z4 0 1
    rw [e0]; exact this
  · rw [← c1]; exact y
  · have := r7 (by rw [← c1]; exact y)
    show _ = zB z4 1 0 ∧ _ = zB z4 1 1 ∧ _ = zB z4 1 2 ∧ _ = zB z4 1 3 ∧ _ = zB z4 1 4
    rw [e1]; exact this
  · show G' 13 i = zK z4 i
    rw [K4, eG]; exact r8 i (by have : i < zN z4 := hi; omega)
  · show NmR (zN z4) (zM z4) nm
    rw [N4, M4]; exact r9
theorem m_Red (C : MC h n tp Z) (zf : Z.2.1.2 = .ref b) (hb : 83 < b) {p : PR} (o : h 70 = mpO Z p tu) (H : PG tp n (zT z) p) (e1 : (zT z).2.2 = 1) (S : FBk h b (true, z)) (g : Gd z) :
    ∃ h' p', tC mX11_readRed [.ref 70] h = some (h', none) ∧ h' 70 = mpO Z p' tu ∧ LV tp n (rAnd (rRoom 4 5 z) (rRed tp n)) p' ∧ FBk h' b (rAnd (rRoom 4 5 z) (rRed tp n)) ∧ FrG b h h' := by
  have ne : b ≠ 70 := by omega
  have nx : ∀ (H' : tm_H) (X : va_E), tm_up H' 70 X b = H' b := fun _ _ => tm_up_ne ne
  have cm : ∀ (H' : tm_H) (X Y : va_E), tm_up (tm_up H' 70 X) b Y = tm_up (tm_up H' b Y) 70 X := fun _ _ _ => tm_up_comm (Ne.symm ne)
  obtain ⟨h1, p1, P1, o1, A1, S1, F1⟩ := m_named C zf hb o H e1 S g (l := 4) (Or.inr (Or.inl rfl)) (fl := bI (decide (lnM 4 ≤ zC z 4))) rfl (-1)
  have C1 := FrG_MC C hb F1
  have E1 : tC mX11_readRed [.ref 70] h = tE mX11_readRed 22 [.ref 70, tm_U, tm_U] [] h1 := by
    obtain ⟨F, c, nn, G, nm, Sh, bd, nb, R⟩ := S
    obtain ⟨r1, r2, _⟩ : BR z F c nn G nm := R rfl
    subst r1 r2
    have lm : (nI (zC z 4) = 6) = (lnM 4 ≤ zC z 4) := lim_e (m := 6) (by decide) (bd 4 (by decide))
    by_cases d : lnM 4 ≤ zC z 4
    · rw [decide_eq_true d, bI_t] at P1
      simp only [cX11_readRed_, bX11_readRed_0, bX11_readRed_5, bX11_readRed_8, bX11_readRed_13, bX11_readRed_18, tk1_some, tk0_some, tkc_some, tkc_none, ↓reduceIte, o, gf_11_4, zf, Sh.1, gf_10_9, lm, d, not_true, if_false, tm_isO, P1]
    · rw [decide_eq_false d, bI_f] at P1
      simp only [cX11_readRed_, bX11_readRed_0, bX11_readRed_5, bX11_readRed_8, bX11_readRed_17, bX11_readRed_18, tk1_some, tk0_some, tkc_some, tkc_none, ↓reduceIte, o, gf_11_4, zf, Sh.1, gf_10_9, lm, d, not_false_eq_true, if_true, tm_isO, P1]
  have fo : tm_up h1 70 (mpO Z p1 tu) = h1 := by rw [← o1, tm_up_id]
  obtain ⟨p2, v1, P2, A2, V2⟩ := m_whl C1 (tu := tu) A1 (lo := 100) (hi := 999) 4 0
  obtain ⟨p3, v2, P3, A3, V3⟩ := m_part C1 (tu := tu) A2 (k := 18) (m := 39) (by decide) rfl (lo := v1) (hi := 999) 4 1
  have E3 : tE mX11_readRed 22 [.ref 70, tm_U, tm_U] [] (tm_up h1 70 (mpO Z p1 tu)) = tE mX11_readRed 48 [.ref 70, .int v1, .int v2] [.int p3.2.1] (tm_up h1 70 (mpO Z p3 tu)) := by
    simp only [bX11_readRed_22, bX11_readRed_31, bX11_readRed_43, tk1_some, tk0_some, tkc_some, tkc_none, ↓reduceIte, tm_up_same, tm_isO, P2, P3, gf_11_9]
  rw [fo] at E3
  rw [E1, E3]
  have eq : rAnd (rRoom 4 5 z) (rRed tp n) = rAnd (rAnd (rAnd (rAnd (rRoom 4 5 z) (rName tp n (-1))) (rTellsW tp n 100 999 4 0)) (rTells tp n 18 v1 999 4 1)) (fun y => (true, rEnds tp n 4 y)) := by
    rw [← rAnd_lo V2, ← rAnd_as, ← rAnd_as, ← rAnd_as]; rfl
  rw [eq]
  cases t : (rAnd (rAnd (rAnd (rRoom 4 5 z) (rName tp n (-1))) (rTellsW tp n 100 999 4 0)) (rTells tp n 18 v1 999 4 1)).1 with
  | false =>
    have P := A3.2 t
    rw [rAnd_ff t]
    refine ⟨tm_up h1 70 (mpO Z p3 tu), p3, ?_, tm_up_same, ⟨fun y => (by cases y), fun _ => P⟩, FBk_c (FBk_f S1 rfl) (fun k x y => tm_up_ne (by omega)), FrG_tr F1 (FrG_up (Or.inl rfl))⟩
    simp only [bX11_readRed_48, bX11_readRed_52, P.1, not_true, if_false]
  | true =>
    obtain ⟨t3, u3⟩ := rAnd_t t
    obtain ⟨t2, u2⟩ := rAnd_t t3
    obtain ⟨t1, u1⟩ := rAnd_t t2
    obtain ⟨ez, hr⟩ := room_ok t1
    rw [ez] at u1
    rw [u1] at t t3 t2 V2 V3 u3 u2 A3 S1 ⊢
    rw [u2] at t t3 V2 V3 u3 A3 ⊢
    rw [u3] at t V3 A3 ⊢
    obtain ⟨q1, q2, q3, q4, q5⟩ := name_nf t2
    obtain ⟨W1, i1⟩ := tellsW_pv t3
    obtain ⟨W2, i2⟩ := tells_pv t
    have w1 := V2 t3
    have w2 := V3 t
    obtain ⟨F, c, nn, G, nm, Sh, bd, nb, R⟩ := S1
    obtain ⟨r1, r2, r3, r4, r5, r6, r7, r8, r9⟩ : BR (rName tp n (-1) z).2 F c nn G nm := R t2
    generalize hz1 : (rName tp n (-1) z).2 = z1 at *
    generalize hz2 : (rTellsW tp n 100 999 4 0 z1).2 = z2 at *
    generalize hq4 : rTells tp n 18 v1 999 4 1 z2 = q4' at *
    obtain ⟨b4, z4⟩ := q4'
    obtain rfl : b4 = true := t
    obtain ⟨G4, n4⟩ := A3.1 rfl
    subst r1 r2
    have c2 : zC z2 = zC z1 := W1.1.1.1
    have c4 : zC z4 = zC z1 := W2.1.1.1.trans c2
    have hr1 : zC z1 4 < lnM 4 := by rw [q1]; exact hr
    have x1 := W1.2.2 hr1
    have x2 := W2.2.2 (by rw [c2]; exact hr1)
    have y2 := W2.1.2.2.2
    rw [c2] at x2 y2
    have b0 : zB z4 4 (zC z1 4 * 2 + 0) = v1 := by rw [w1]; exact (y2 0 (by decide)).trans x1
    have b1 : zB z4 4 (zC z1 4 * 2 + 1) = v2 := by rw [w2]; exact x2
    have SB : SameB 4 z1 z4 := SameB_tr W1.1.1 W2.1.1
    have N4 : zN z4 = zN z1 := W2.1.2.1.trans W1.1.2.1
    have K4 : zK z4 = zK z1 := W2.1.2.2.1.trans W1.1.2.2.1
    have M4 : zM z4 = zM z1 := W2.2.1.trans W1.2.1
    have n5 := PG_5 G4
    have ee : rEnds tp n 4 z4 = rStep tp n (rB z4 (updN (zC z4) 4 (zC z4 4 + 1)) (zB z4)) := by unfold rEnds; rw [rC_eq (by rw [c4]; exact hr1)]
    have k5 : zC z1 4 < 6 := hr1
    have t0 : (6 : Nat) < 2 ^ 31 := by decide
    have Sa := FSh_a Sh (i := 7) (by decide) (by decide) (by decide) (upd (G 7) (zC z1 4) v1)
    have Ea := si_130 (X := mpO Z p3 tu) (v := v1) (N := 6) (Sh.2.1 7 (by decide) (by decide) (by decide)) k5 t0 (show b + 7 ≠ 70 by omega)
    have Fa : FrG b h1 (tm_up h1 (b + 7) (aI 6 (upd (G 7) (zC z1 4) v1))) := FrG_up (Or.inr ⟨by omega, by omega⟩)
    change FSh (tm_up h1 (b + 7) (aI 6 (upd (G 7) (zC z1 4) v1))) _ _ _ _ _ _ at Sa
    generalize tm_up h1 (b + 7) (aI 6 (upd (G 7) (zC z1 4) v1)) = ha at Sa Ea Fa
    have Sc := FSh_a Sa (i := 8) (by decide) (by decide) (by decide) (upd (G 8) (zC z1 4) v2)
    have Ec := si_130 (X := mpO Z p3 tu) (v := v2) (N := 6) (f := G 8) (Sa.2.1 8 (by decide) (by decide) (by decide)) k5 t0 (show b + 8 ≠ 70 by omega)
    have Fc : FrG b ha (tm_up ha (b + 8) (aI 6 (upd (G 8) (zC z1 4) v2))) := FrG_up (Or.inr ⟨by omega, by omega⟩)
    change FSh (tm_up ha (b + 8) (aI 6 (upd (G 8) (zC z1 4) v2))) _ _ _ _ _ _ at Sc
    generalize tm_up ha (b + 8) (aI 6 (upd (G 8) (zC z1 4) v2)) = hc at Sc Ec Fc
    have Sd := FSh_p (F' := F) (c' := updN (zC z1) 4 (zC z1 4 + 1)) (nn' := zN z1) Sc (updN_n (by decide)) (updN_n (by decide)) updN_s (updN_n (by decide)) (updN_n (by decide))
    have sa := Sa.1
    have sc := Sc.1
    show ∃ h' p', _ ∧ _ ∧ LV tp n (true, rEnds tp n 4 z4) p' ∧ FBk h' b (true, rEnds tp n 4 z4) ∧ _
    refine ⟨tm_up (tm_up hc b (mbO b F.1 F.2.1 F.2.2.1 F.2.2.2.1 F.2.2.2.2.1 F.2.2.2.2.2.1 F.2.2.2.2.2.2 (zC z1 2) (zC z1 3) (zC z1 4 + 1) (zC z1 5) (zC z1 6) (zN z1))) 70 (mpO Z p3 tu), p3, ?_, tm_up_same, ⟨fun _ => ?_, fun y => (by cases y)⟩, ?_, FrG_tr F1 (FrG_tr Fa (FrG_tr Fc (FrG_tr (FrG_up (Or.inr ⟨Nat.le_refl _, by omega⟩)) (FrG_up (Or.inl rfl)))))⟩
    · simp only [bX11_readRed_48, bX11_readRed_52, bX11_readRed_53, bX11_readRed_57, bX11_readRed_60, bX11_readRed_64, bX11_readRed_67, bX11_readRed_69, bX11_readRed_73, bX11_readRed_76, bX11_readRed_80, bX11_readRed_83, bX11_readRed_85, bX11_readRed_89, bX11_readRed_93, bX11_readRed_98, tk1_some, tk0_some, tkc_some, tkc_none, ↓reduceIte, n5, not_false_eq_true, if_true, tm_up_same, gf_11_4, zf, nx, Sh.1, sa, sc, gf_10_19, gf_10_20, gf_10_9, Ea, Ec, tm_pf_eq, ps_10_9, Option.map_some, cm, nI_k1]
    · show PG tp n (zT (rEnds tp n 4 z4)) p3
      rw [ee]; exact G4
    · refine FBk_c ⟨F, updN (zC z1) 4 (zC z1 4 + 1), zN z1, _, nm, Sd, bd_up bd hr1, nb, fun _ => ?_⟩ (fun k x y => tm_up_ne (by omega))
      show BR (rEnds tp n 4 z4) _ _ _ _ _
      rw [ee, c4]
      have MM := MRel_4 (t' := zB z4) r3 SB.2.1 SB.2.2
      rw [b0, b1] at MM
      exact BR_e MM r4 r5 r6 r7 r8 r9 N4 K4 M4 rfl rfl (SB.2.1 0 (by decide)) (SB.2.1 1 (by decide)) rfl
end M13
