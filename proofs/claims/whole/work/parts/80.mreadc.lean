/-! THE REFERENCE's reading: its end; what is answered -/
section M21
variable {h : tm_H} {b n : Nat} {tp : Nat → Int32} {Z : MZ} {tu : Int32} {z : RSt}
theorem lacksO (zf : Z.2.1.2 = .ref b) (hb : 83 < b) {p : PR} (o : h 70 = mpO Z p tu) {F : B7} {c : Nat → Nat} {nn : Nat} {G : Nat → Nat → Int32} {nm : Nat → Int64} (Sh : FSh h b F c nn G nm) {k : Int32} {l : Nat} (P : PO k l p) {x : Value} : tE mX11_readBook 41 [.ref 70, x] [] h = some (h, none) := by
  have fo : tm_up h 70 (mpO Z p tu) = h := by rw [← o, tm_up_id]
  have W := m_wrO (h := h) (Z := Z) (tu := tu) (k' := 6) P
  rw [fo] at W
  by_cases d0 : F.1 = 0
  · simp only [bX11_readBook_41, bX11_readBook_45, bX11_readBook_48, bX11_readBook_73, bX11_readBook_79, tk1_some, tk0_some, tkc_some, tkc_none, ↓reduceIte, o, gf_11_4, zf, Sh.1, gf_10_0, d0, if_true, tm_isO, W]
  · by_cases d1 : F.2.2.1 = -1
    · simp only [bX11_readBook_41, bX11_readBook_45, bX11_readBook_48, bX11_readBook_51, bX11_readBook_55, bX11_readBook_58, bX11_readBook_73, bX11_readBook_79, tk1_some, tk0_some, tkc_some, tkc_none, ↓reduceIte, o, gf_11_4, zf, Sh.1, gf_10_0, d0, if_false, gf_10_2, d1, if_true, tm_isO, W]
    · by_cases d2 : (2 : Int32) ≤ nI (c 2)
      · simp only [bX11_readBook_41, bX11_readBook_45, bX11_readBook_48, bX11_readBook_51, bX11_readBook_55, bX11_readBook_58, bX11_readBook_62, bX11_readBook_66, bX11_readBook_69, bX11_readBook_79, tk1_some, tk0_some, tkc_some, tkc_none, ↓reduceIte, o, gf_11_4, zf, Sh.1, gf_10_0, d0, if_false, gf_10_2, d1, gf_10_7, d2, if_true]
      · simp only [bX11_readBook_41, bX11_readBook_45, bX11_readBook_48, bX11_readBook_51, bX11_readBook_55, bX11_readBook_58, bX11_readBook_62, bX11_readBook_66, bX11_readBook_69, bX11_readBook_73, bX11_readBook_79, tk1_some, tk0_some, tkc_some, tkc_none, ↓reduceIte, o, gf_11_4, zf, Sh.1, gf_10_0, d0, if_false, gf_10_2, d1, gf_10_7, d2, tm_isO, W]
theorem m_readB (C : MC h n tp Z) (zf : Z.2.1.2 = .ref b) (hb : 83 < b) {p : PR} (o : h 70 = mpO Z p tu) (H : PG tp n (zT z) p) (S : FBk h b (true, z)) (g : Gd z) (hz : zF z = 0) :
    ∃ h' p', tC mX11_readBook [.ref 70] h = some (h', none) ∧ h' 70 = mpO Z p' tu ∧ FrG b h h' ∧ p'.2.2.2.2.2.1 = zF (rRead tp n z) ∧ (zF (rRead tp n z) ≠ 0 → p'.2.2.2.2.2.2.1 = nI (zT (rRead tp n z)).1) ∧ (zF (rRead tp n z) = 0 → FBk h' b (true, rRead tp n z)) := by
  have fo : tm_up h 70 (mpO Z p tu) = h := by rw [← o, tm_up_id]
  have t := tok_n H.1
  obtain ⟨h1, p1, P1, o1, L1, S1, F1⟩ := m_line C zf hb o H S g
  obtain ⟨h2, p2, x2, E2, o2, S2, F2, V2⟩ := mb_loop (tu := tu) zf hb 700 (rLine tp n z) h1 p1 (.int 1) (FrG_MC C hb F1) o1 L1 S1 (fun y => by
    refine ⟨Gd_line g y, ?_⟩
    have w := line_w y
    have m5 := (mo_line (tp := tp) t.2 y).1
    obtain ⟨⟨bb, hbb, eT⟩, _⟩ := H
    have m4 := (tokS_b (tp := tp) hbb).2.2.2.1 (by rw [← eT, w]; decide)
    rw [← eT] at m4
    omega)
  have E1 : tC mX11_readBook [.ref 70] h = tE mX11_readBook 41 [.ref 70, x2] [] h2 := by
    rw [← E2]
    simp only [cX11_readBook_, bX11_readBook_0, bX11_readBook_2, bX11_readBook_6, tk1_some, tk0_some, tkc_some, tkc_none, ↓reduceIte, show ((1 : Int32) = 0) = False from by decide, if_false, o, tm_isO, P1]
  rw [E1]
  have ff := FF_loop (tp := tp) (n := n) 700 _ (FF_line (tp := tp) (n := n) (z := z))
  unfold rRead
  generalize rLoop tp n 700 (rLine tp n z) = q at ff S2 V2
  obtain ⟨b', y⟩ := q
  have fo2 : tm_up h2 70 (mpO Z p2 tu) = h2 := by rw [← o2, tm_up_id]
  cases b' with
  | false =>
    have P : PO (zF y) (zT y).1 p2 := V2.2 rfl
    have nz : zF y ≠ 0 := ff.2 rfl
    have er : rFin (false, y) = y := rfl
    rw [er]
    obtain ⟨F, c, nn, G, nm, Sh, bd, nb, _⟩ := S2
    exact ⟨h2, p2, lacksO zf hb o2 Sh P, o2, FrG_tr F1 F2, P.2.1, fun _ => P.2.2, fun y => absurd y nz⟩
  | true =>
    obtain ⟨G2, s0, gd⟩ : PG tp n (zT y) p2 ∧ (zT y).2.2 = 0 ∧ Gd y := V2.1 rfl
    have zy : zF y = 0 := (ff.1 rfl).trans hz
    have S2' := S2
    obtain ⟨F, c, nn, G, nm, Sh, bd, nb, R⟩ := S2
    obtain ⟨r1, r2, r3, r4, r5, r6, r7, r8, r9⟩ : BR y F c nn G nm := R rfl
    subst r1 r2
    obtain ⟨p3, P3, G3⟩ := m_wr (h := h2) (Z := Z) (tu := tu) G2 (k := 6)
    rw [fo2] at P3
    have er : rFin (true, y) = if rLacks y = true then rF y 6 else y := rfl
    rw [er]
    have k2 : zC y 2 ≤ 5 := bd 2 (by decide)
    have d2 : ((2 : Int32) ≤ nI (zC y 2)) = (2 ≤ zC y 2) := propext (nI_leI (a := 2) (by decide) (by omega))
    have f0 : (F.1 = 0) = ¬ (1 ≤ zC y 0) := by
      refine propext ⟨fun e y1 => ?_, fun e => r4 (by omega)⟩
      have := (inB_r (gd.1 y1).1).1
      rw [← (r5 (by omega)).1, e] at this
      exact absurd this (by decide)
    have f1 : (F.2.2.1 = -1) = ¬ (1 ≤ zC y 1) := by
      refine propext ⟨fun e y1 => ?_, fun e => r6 (by omega)⟩
      have := (inB_r (gd.2.1 y1).1).1
      rw [← (r7 (by omega)).1, e] at this
      exact absurd this (by decide)
    have fin6 : tE mX11_readBook 73 [.ref 70, x2] [] h2 = some (tm_up h2 70 (mpO Z p3 tu), none) := by
      simp only [bX11_readBook_73, bX11_readBook_79, tk1_some, tk0_some, tkc_some, tkc_none, ↓reduceIte, o2, tm_isO, P3]
    have bad : rLacks y = true → tE mX11_readBook 41 [.ref 70, x2] [] h2 = some (tm_up h2 70 (mpO Z p3 tu), none) → ∃ h' p', tE mX11_readBook 41 [.ref 70, x2] [] h2 = some (h', none) ∧ h' 70 = mpO Z p' tu ∧ FrG b h h' ∧ p'.2.2.2.2.2.1 = zF (if rLacks y = true then rF y 6 else y) ∧ (zF (if rLacks y = true then rF y 6 else y) ≠ 0 → p'.2.2.2.2.2.2.1 = nI (zT (if rLacks y = true then rF y 6 else y)).1) ∧ (zF (if rLacks y = true then rF y 6 else y) = 0 → FBk h' b (true, if rLacks y = true then rF y 6 else y)) := fun l e => by
      rw [if_pos l]
      exact ⟨_, p3, e, tm_up_same, FrG_tr F1 (FrG_tr F2 (FrG_up (Or.inl rfl))), G3.2.1, fun _ => G3.2.2, fun w => absurd (show (6 : Int32) = 0 from w) (by decide)⟩
    by_cases c0 : 1 ≤ zC y 0
    · by_cases c1 : 1 ≤ zC y 1
      · by_cases c2 : 2 ≤ zC y 2
        · have l : rLacks y = false := by unfold rLacks; rw [if_pos c0, if_pos c1, if_pos c2]
          rw [l, if_neg (by decide)]
          refine ⟨h2, p2, ?_, o2, FrG_tr F1 F2, by rw [zy]; exact G2.2.2, fun w => absurd zy w, fun _ => S2'⟩
          simp only [bX11_readBook_41, bX11_readBook_45, bX11_readBook_48, bX11_readBook_51, bX11_readBook_55, bX11_readBook_58, bX11_readBook_62, bX11_readBook_66, bX11_readBook_69, bX11_readBook_79, tk1_some, tk0_some, tkc_some, tkc_none, ↓reduceIte, o2, gf_11_4, zf, Sh.1, gf_10_0, f0, c0, not_true, if_false, gf_10_2, f1, c1, gf_10_7, d2, c2, if_true]
        · refine bad (by unfold rLacks; rw [if_pos c0, if_pos c1, if_neg c2]) ?_
          rw [← fin6]
          simp only [bX11_readBook_41, bX11_readBook_45, bX11_readBook_48, bX11_readBook_51, bX11_readBook_55, bX11_readBook_58, bX11_readBook_62, bX11_readBook_66, bX11_readBook_69, tk1_some, tk0_some, tkc_some, tkc_none, ↓reduceIte, o2, gf_11_4, zf, Sh.1, gf_10_0, f0, c0, not_true, if_false, gf_10_2, f1, c1, gf_10_7, d2, c2]
      · refine bad (by unfold rLacks; rw [if_pos c0, if_neg c1]) ?_
        rw [← fin6]
        simp only [bX11_readBook_41, bX11_readBook_45, bX11_readBook_48, bX11_readBook_51, bX11_readBook_55, bX11_readBook_58, tk1_some, tk0_some, tkc_some, tkc_none, ↓reduceIte, o2, gf_11_4, zf, Sh.1, gf_10_0, f0, c0, not_true, if_false, gf_10_2, f1, c1, not_false_eq_true, if_true]
    · refine bad (by unfold rLacks; rw [if_neg c0]) ?_
      rw [← fin6]
      simp only [bX11_readBook_41, bX11_readBook_45, bX11_readBook_48, tk1_some, tk0_some, tkc_some, tkc_none, ↓reduceIte, o2, gf_11_4, zf, Sh.1, gf_10_0, f0, c0, not_false_eq_true, if_true]
end M21
