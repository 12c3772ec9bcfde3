/-! THE REFERENCE's reading: stones -/
section M16
variable {h : tm_H} {b n : Nat} {tp : Nat → Int32} {Z : MZ} {tu : Int32} {z : RSt} {F : B7} {c : Nat → Nat} {nn : Nat} {G : Nat → Nat → Int32} {nm : Nat → Int64}
theorem m_Stone (C : MC h n tp Z) (zf : Z.2.1.2 = .ref b) (hb : 83 < b) {p : PR} (o : h 70 = mpO Z p tu) (H : PG tp n (zT z) p) (e1 : (zT z).2.2 = 1) (S : FBk h b (true, z)) (g : Gd z) :
    ∃ h' p', tC mX11_readStone [.ref 70] h = some (h', none) ∧ h' 70 = mpO Z p' tu ∧ LV tp n (rAnd (rRoom 5 5 z) (rStone tp n)) p' ∧ FBk h' b (rAnd (rRoom 5 5 z) (rStone tp n)) ∧ FrG b h h' := by
  have ne : b ≠ 70 := by omega
  have nx : ∀ (H' : tm_H) (X : va_E), tm_up H' 70 X b = H' b := fun _ _ => tm_up_ne ne
  have cm : ∀ (H' : tm_H) (X Y : va_E), tm_up (tm_up H' 70 X) b Y = tm_up (tm_up H' b Y) 70 X := fun _ _ _ => tm_up_comm (Ne.symm ne)
  obtain ⟨h1, p1, P1, o1, A1, S1, F1⟩ := m_named C zf hb o H e1 S g (l := 5) (Or.inr (Or.inr (Or.inl rfl))) (fl := bI (decide (lnM 5 ≤ zC z 5))) rfl (-1)
  have C1 := FrG_MC C hb F1
  have E1 : tC mX11_readStone [.ref 70] h = tE mX11_readStone 22 [.ref 70, tm_U, tm_U, tm_U, tm_U, tm_U] [] h1 := by
    obtain ⟨F, c, nn, G, nm, Sh, bd, nb, R⟩ := S
    obtain ⟨r1, r2, _⟩ : BR z F c nn G nm := R rfl
    subst r1 r2
    have lm : (nI (zC z 5) = 6) = (lnM 5 ≤ zC z 5) := lim_e (m := 6) (by decide) (bd 5 (by decide))
    by_cases d : lnM 5 ≤ zC z 5
    · rw [decide_eq_true d, bI_t] at P1
      simp only [cX11_readStone_, bX11_readStone_0, bX11_readStone_5, bX11_readStone_8, bX11_readStone_13, bX11_readStone_18, tk1_some, tk0_some, tkc_some, tkc_none, ↓reduceIte, o, gf_11_4, zf, Sh.1, gf_10_10, lm, d, not_true, if_false, tm_isO, P1]
    · rw [decide_eq_false d, bI_f] at P1
      simp only [cX11_readStone_, bX11_readStone_0, bX11_readStone_5, bX11_readStone_8, bX11_readStone_17, bX11_readStone_18, tk1_some, tk0_some, tkc_some, tkc_none, ↓reduceIte, o, gf_11_4, zf, Sh.1, gf_10_10, lm, d, not_false_eq_true, if_true, tm_isO, P1]
  have fo : tm_up h1 70 (mpO Z p1 tu) = h1 := by rw [← o1, tm_up_id]
  obtain ⟨p2, v1, P2, A2, V2⟩ := m_part C1 (tu := tu) A1 (k := 19) (m := 40) (by decide) rfl (lo := 1) (hi := 20) 5 0
  obtain ⟨p3, P3, A3⟩ := m_shows C1 (tu := tu) A2 (v := v1)
  have E3 : tE mX11_readStone 22 [.ref 70, tm_U, tm_U, tm_U, tm_U, tm_U] [] (tm_up h1 70 (mpO Z p1 tu)) = tE mX11_readStone 56 [.ref 70, .int v1, .int 0, .int 1, tm_U, tm_U] [] (tm_up h1 70 (mpO Z p3 tu)) := by
    rw [← P3]
    simp only [bX11_readStone_22, tk1_some, tk0_some, tkc_some, tkc_none, ↓reduceIte, tm_up_same, tm_isO, P2]
  rw [fo] at E3
  rw [E1, E3]
  have eq : rAnd (rRoom 5 5 z) (rStone tp n) = rAnd (rAnd (rAnd (rAnd (rRoom 5 5 z) (rName tp n (-1))) (rTells tp n 19 1 20 5 0)) (rWord tp n 20)) (rSigns tp n 9 0) := by
    rw [← rAnd_as, ← rAnd_as, ← rAnd_as]; rfl
  rw [eq]
  cases t : (rAnd (rAnd (rAnd (rRoom 5 5 z) (rName tp n (-1))) (rTells tp n 19 1 20 5 0)) (rWord tp n 20)).1 with
  | false =>
    have P := A3.2 t
    rw [rAnd_ff t]
    exact ⟨tm_up h1 70 (mpO Z p3 tu), p3, m_sgO P, tm_up_same, ⟨fun y => (by cases y), fun _ => P⟩, FBk_c (FBk_f S1 rfl) (fun k x y => tm_up_ne (by omega)), FrG_tr F1 (FrG_up (Or.inl rfl))⟩
  | true =>
    obtain ⟨t3, u3⟩ := rAnd_t t
    obtain ⟨t2, u2⟩ := rAnd_t t3
    obtain ⟨t1, u1⟩ := rAnd_t t2
    obtain ⟨ez, hr⟩ := room_ok t1
    rw [ez] at u1
    rw [u1] at t t3 t2 V2 u3 u2 A3 S1 ⊢
    rw [u2] at t t3 V2 u3 A3 ⊢
    rw [u3] at t A3 ⊢
    obtain ⟨q1, q2, q3, q4, q5⟩ := name_nf t2
    obtain ⟨W1, i1⟩ := tells_pv t3
    have w1 := V2 t3
    obtain ⟨T3, eT3⟩ := word_ok t
    obtain ⟨F, c, nn, G, nm, Sh, bd, nb, R⟩ := S1
    have S1' : FBk h1 b (rName tp n (-1) z) := ⟨F, c, nn, G, nm, Sh, bd, nb, R⟩
    obtain ⟨r1, r2, r3, r4, r5, r6, r7, r8, r9⟩ : BR (rName tp n (-1) z).2 F c nn G nm := R t2
    generalize hz1 : (rName tp n (-1) z).2 = z1 at *
    generalize hz2 : (rTells tp n 19 1 20 5 0 z1).2 = z2 at *
    generalize hq3 : rWord tp n 20 z2 = q3' at *
    obtain ⟨b3, z3⟩ := q3'
    obtain rfl : b3 = true := t
    obtain rfl : z3 = rT z2 T3 := eT3
    rw [rAnd_tt]
    obtain ⟨l1, l2⟩ := m_sg C1 (tu := tu) (v := v1) 9 0 (rT z2 T3) p3 tm_U tm_U (by decide) rfl A3
    rw [nI_0] at l1 l2
    cases ts : (rSigns tp n 9 0 (rT z2 T3)).1 with
    | false =>
      obtain ⟨p4, P4, G4⟩ := l1 ts
      have e9 : rSigns tp n 9 0 (rT z2 T3) = (false, (rSigns tp n 9 0 (rT z2 T3)).2) := by rw [← ts]
      rw [e9]
      exact ⟨tm_up h1 70 (mpO Z p4 tu), p4, P4, tm_up_same, ⟨fun y => (by cases y), fun _ => G4⟩, FBk_c (FBk_f S1' rfl) (fun k x y => tm_up_ne (by omega)), FrG_tr F1 (FrG_up (Or.inl rfl))⟩
    | true =>
      obtain ⟨p4, s, y4, y5, T, lw, P4, e5, G4⟩ := l2 ts
      have e9 : rSigns tp n 9 0 (rT z2 T3) = (true, rClose 5 (rPut 5 1 s (T, lw, z2.2.2))) := by rw [← ts, ← show (rSigns tp n 9 0 (rT z2 T3)).2 = rClose 5 (rPut 5 1 s (T, lw, z2.2.2)) from e5]
      rw [e9, P4]
      obtain ⟨W2, W2v⟩ := put_puts 5 1 s T lw z2
      have W2m : zM (rPut 5 1 s (T, lw, z2.2.2)) = zM z2 := rPut_M _ _ _ _
      have W2t : zT (rPut 5 1 s (T, lw, z2.2.2)) = T := rPut_T _ _ _ _
      generalize rPut 5 1 s (T, lw, z2.2.2) = z4 at W2 W2v W2m W2t
      subst r1 r2
      have c2 : zC z2 = zC z1 := W1.1.1.1
      have c4 : zC z4 = zC z1 := W2.1.1.trans c2
      have hr1 : zC z1 5 < lnM 5 := by rw [q1]; exact hr
      have x1 := W1.2.2 hr1
      have x2 := W2v (by rw [c2]; exact hr1)
      have y2 := W2.2.2.2
      rw [c2] at x2 y2
      have b0 : zB z4 5 (zC z1 5 * 2 + 0) = v1 := by rw [w1]; exact (y2 0 (by decide)).trans x1
      have b1 : zB z4 5 (zC z1 5 * 2 + 1) = s := x2
      have SB : SameB 5 z1 z4 := SameB_tr W1.1.1 W2.1
      have N4 : zN z4 = zN z1 := W2.2.1.trans W1.1.2.1
      have K4 : zK z4 = zK z1 := W2.2.2.1.trans W1.1.2.2.1
      have M4 : zM z4 = zM z1 := W2m.trans W1.2.1
      have ee : rClose 5 z4 = rB z4 (updN (zC z4) 5 (zC z4 5 + 1)) (zB z4) := rC_eq (by rw [c4]; exact hr1)
      have k5 : zC z1 5 < 6 := hr1
      have t0 : (6 : Nat) < 2 ^ 31 := by decide
      have Sa := FSh_a Sh (i := 9) (by decide) (by decide) (by decide) (upd (G 9) (zC z1 5) v1)
      have Ea := si_130 (X := mpO Z p4 tu) (v := v1) (N := 6) (Sh.2.1 9 (by decide) (by decide) (by decide)) k5 t0 (show b + 9 ≠ 70 by omega)
      have Fa : FrG b h1 (tm_up h1 (b + 9) (aI 6 (upd (G 9) (zC z1 5) v1))) := FrG_up (Or.inr ⟨by omega, by omega⟩)
      change FSh (tm_up h1 (b + 9) (aI 6 (upd (G 9) (zC z1 5) v1))) _ _ _ _ _ _ at Sa
      generalize tm_up h1 (b + 9) (aI 6 (upd (G 9) (zC z1 5) v1)) = ha at Sa Ea Fa
      have Sc := FSh_a Sa (i := 10) (by decide) (by decide) (by decide) (upd (G 10) (zC z1 5) s)
      have Ec := si_130 (X := mpO Z p4 tu) (v := s) (N := 6) (f := G 10) (Sa.2.1 10 (by decide) (by decide) (by decide)) k5 t0 (show b + 10 ≠ 70 by omega)
      have Fc : FrG b ha (tm_up ha (b + 10) (aI 6 (upd (G 10) (zC z1 5) s))) := FrG_up (Or.inr ⟨by omega, by omega⟩)
      change FSh (tm_up ha (b + 10) (aI 6 (upd (G 10) (zC z1 5) s))) _ _ _ _ _ _ at Sc
      generalize tm_up ha (b + 10) (aI 6 (upd (G 10) (zC z1 5) s)) = hc at Sc Ec Fc
      have Sd := FSh_p (F' := F) (c' := updN (zC z1) 5 (zC z1 5 + 1)) (nn' := zN z1) Sc (updN_n (by decide)) (updN_n (by decide)) (updN_n (by decide)) updN_s (updN_n (by decide))
      have sa := Sa.1
      have sc := Sc.1
      refine ⟨tm_up (tm_up hc b (mbO b F.1 F.2.1 F.2.2.1 F.2.2.2.1 F.2.2.2.2.1 F.2.2.2.2.2.1 F.2.2.2.2.2.2 (zC z1 2) (zC z1 3) (zC z1 4) (zC z1 5 + 1) (zC z1 6) (zN z1))) 70 (mpO Z p4 tu), p4, ?_, tm_up_same, ⟨fun _ => ?_, fun y => (by cases y)⟩, ?_, FrG_tr F1 (FrG_tr Fa (FrG_tr Fc (FrG_tr (FrG_up (Or.inr ⟨Nat.le_refl _, by omega⟩)) (FrG_up (Or.inl rfl)))))⟩
      · simp only [bX11_readStone_124, bX11_readStone_128, bX11_readStone_131, bX11_readStone_135, bX11_readStone_138, bX11_readStone_140, bX11_readStone_144, bX11_readStone_147, bX11_readStone_151, bX11_readStone_154, bX11_readStone_156, bX11_readStone_160, bX11_readStone_164, bX11_readStone_169, tk1_some, tk0_some, tkc_some, tkc_none, ↓reduceIte, tm_up_same, gf_11_4, zf, nx, Sh.1, sa, sc, gf_10_21, gf_10_22, gf_10_10, Ea, Ec, tm_pf_eq, ps_10_10, Option.map_some, cm, nI_k1]
      · show PG tp n (zT (rClose 5 z4)) p4
        rw [rClose_T, W2t]; exact G4
      · refine FBk_c ⟨F, updN (zC z1) 5 (zC z1 5 + 1), zN z1, _, nm, Sd, bd_up bd hr1, nb, fun _ => ?_⟩ (fun k x y => tm_up_ne (by omega))
        show BR (rClose 5 z4) _ _ _ _ _
        rw [ee, c4]
        have MM := MRel_5 (t' := zB z4) r3 SB.2.1 SB.2.2
        rw [b0, b1] at MM
        exact BR_e (T := zT z4) MM r4 r5 r6 r7 r8 r9 N4 K4 M4 rfl rfl (SB.2.1 0 (by decide)) (SB.2.1 1 (by decide)) rfl
end M16
