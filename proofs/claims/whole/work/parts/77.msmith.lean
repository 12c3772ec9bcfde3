/-! THE REFERENCE's reading: smiths -/
theorem upA_2 (G : Nat → Nat → Int32) (i : Nat) (f g : Nat → Int32) : upA (upA G i f) i g = upA G i g := by
  funext j
  by_cases e : j = i
  · subst e; rw [upA_same, upA_same]
  · rw [upA_ne _ _ e, upA_ne _ _ e, upA_ne _ _ e]
theorem upA_me (G : Nat → Nat → Int32) (i : Nat) : upA G i (G i) = G := by
  funext j
  by_cases e : j = i
  · subst e; rw [upA_same]
  · rw [upA_ne _ _ e]
theorem i8 (m k : Nat) : 8 * nI m + nI k = nI (8 * m + k) := by rw [show (8 : Int32) = nI 8 from rfl, nI_mul, nI_add]
theorem ones_M : ∀ r k z, zM (rOnes r k z) = zM z ∧ zT (rOnes r k z) = zT z
  | 0, _, _ => ⟨rfl, rfl⟩
  | r + 1, k, z => by
    unfold rOnes
    obtain ⟨a, b⟩ := ones_M r (k + 1) (rPut 6 k 1 z)
    exact ⟨a.trans (rPut_M _ _ _ _), b.trans (rPut_T _ _ _ _)⟩
section M17
variable {h : tm_H} {b n : Nat} {tp : Nat → Int32} {Z : MZ} {tu : Int32} {z : RSt} {F : B7} {c : Nat → Nat} {nn : Nat} {G : Nat → Nat → Int32} {nm : Nat → Int64}
theorem MRel_6 {t t' : Nat → Nat → Int32} {f : Nat → Int32} (M : MRel c t G) (e : ∀ m, m ≠ 6 → t' m = t m) (r : ∀ x, x < c 6 * 8 → t' 6 x = t 6 x) (f1 : ∀ x, x < 8 * c 6 → f x = G 11 x) (f2 : ∀ j, j < 8 → f (8 * c 6 + j) = t' 6 (c 6 * 8 + j)) : MRel (updN c 6 (c 6 + 1)) t' (upA G 11 f) := by
  obtain ⟨a1, a2, a3, a4, a5⟩ := M
  refine ⟨fun i hi => ?_, fun i hi => ?_, fun i hi => ?_, fun i hi => ?_, fun i j hi hj => ?_⟩
  · rw [updN_n (by decide)] at hi; rw [e 2 (by decide)]; exact a1 i hi
  · rw [updN_n (by decide)] at hi; rw [e 3 (by decide)]; exact a2 i hi
  · rw [updN_n (by decide)] at hi; rw [e 4 (by decide)]; exact a3 i hi
  · rw [updN_n (by decide)] at hi; rw [e 5 (by decide)]; exact a4 i hi
  · rw [updN_s] at hi
    show f (8 * i + j) = _
    by_cases x : i = c 6
    · subst x; exact f2 j hj
    · rw [f1 _ (by omega), r _ (by omega)]; exact a5 i j (by omega) hj
theorem FSh_11 {f : Nat → Int32} (S : FSh h b F c nn (upA G 11 f) nm) (g : Nat → Int32) : FSh (tm_up h (b + 11) (aI 40 g)) b F c nn (upA G 11 g) nm := by
  have := FSh_a S (i := 11) (by decide) (by decide) (by decide) g
  rw [upA_2] at this
  exact this
theorem FSh_g {f : Nat → Int32} (S : FSh h b F c nn (upA G 11 f) nm) : h (b + 11) = aI 40 f := S.2.1 11 (by decide) (by decide) (by decide)
theorem m_ones (zf : Z.2.1.2 = .ref b) (hb : 83 < b) (hm : c 6 < 5) {p : PR} {x2 x3 x4 : Value} : ∀ r k h f, k + r = 8 → FSh h b F c nn (upA G 11 f) nm → ∃ h' f', tE mX11_readSmith 32 [.ref 70, .int (nI k), x2, x3, x4] [] (tm_up h 70 (mpO Z p tu)) = tE mX11_readSmith 69 [.ref 70, .int 1, .int 0, x3, x4] [] (tm_up h' 70 (mpO Z p tu)) ∧ FSh h' b F c nn (upA G 11 f') nm ∧ FrG b h h' ∧ (∀ x, x < 8 * c 6 + k → f' x = f x) ∧ (∀ j, k ≤ j → j < 8 → f' (8 * c 6 + j) = 1) := by
  have ne : b ≠ 70 := by omega
  have nx : ∀ (H' : tm_H) (X : va_E), tm_up H' 70 X b = H' b := fun _ _ => tm_up_ne ne
  intro r
  induction r with
  | zero =>
    intro k h f hk S
    obtain rfl : k = 8 := by omega
    refine ⟨h, f, ?_, S, FrG_rf b h, fun _ _ => rfl, fun j h1 h2 => absurd h1 (by omega)⟩
    rw [bX11_readSmith_32, if_pos (show (8 : Int32) ≤ nI 8 from Int32.le_refl _), bX11_readSmith_65]
  | succ r ih =>
    intro k h f hk S
    have e1 : ¬ (8 : Int32) ≤ nI k := nI_ge (show k < 8 by omega) (by decide)
    have Ea := si_130 (X := mpO Z p tu) (v := 1) (FSh_g S) (show 8 * c 6 + k < 40 by omega) (by decide) (show b + 11 ≠ 70 by omega)
    have Sa := FSh_11 S (upd f (8 * c 6 + k) 1)
    have Fa : FrG b h (tm_up h (b + 11) (aI 40 (upd f (8 * c 6 + k) 1))) := FrG_up (Or.inr ⟨by omega, by omega⟩)
    generalize tm_up h (b + 11) (aI 40 (upd f (8 * c 6 + k) 1)) = ha at Ea Sa Fa
    obtain ⟨h', f', E, S', F', g1, g2⟩ := ih (k + 1) ha _ (by omega) Sa
    refine ⟨h', f', ?_, S', FrG_tr Fa F', fun x hx => ?_, fun j h1 h2 => ?_⟩
    · rw [bX11_readSmith_32, if_neg e1, ← E]
      simp only [bX11_readSmith_38, bX11_readSmith_42, bX11_readSmith_45, bX11_readSmith_51, bX11_readSmith_54, bX11_readSmith_59, tk1_some, tk0_some, tkc_some, tkc_none, ↓reduceIte, tm_up_same, gf_11_4, zf, nx, S.1, gf_10_23, gf_10_11, i8, Ea, nI_k1]
    · rw [g1 x (by omega), upd_off (by omega)]
    · by_cases e : j = k
      · subst e; rw [g1 _ (by omega), upd_at]
      · exact g2 j (by omega) h2
theorem m_sm (C : MC h n tp Z) (zf : Z.2.1.2 = .ref b) (hb : 83 < b) (hm : c 6 < 5) : ∀ r k h f z p x3 x4, MC h n tp Z → k + r = 9 → k ≤ 8 → AV tp n (true, z) p → FSh h b F c nn (upA G 11 f) nm → zC z 6 = c 6 → (∀ j, j < 8 → f (8 * c 6 + j) = zB z 6 (c 6 * 8 + j)) →
    ((rSmG tp n r k z).1 = false → ∃ h' p' f', tE mX11_readSmith 69 [.ref 70, .int 1, .int (nI k), x3, x4] [] (tm_up h 70 (mpO Z p tu)) = some (tm_up h' 70 (mpO Z p' tu), none) ∧ PO (zF (rSmG tp n r k z).2) (zT (rSmG tp n r k z).2).1 p' ∧ FSh h' b F c nn (upA G 11 f') nm ∧ FrG b h h') ∧
    ((rSmG tp n r k z).1 = true → ∃ h' p' f' y2 y3 y4 z', tE mX11_readSmith 69 [.ref 70, .int 1, .int (nI k), x3, x4] [] (tm_up h 70 (mpO Z p tu)) = tE mX11_readSmith 141 [.ref 70, .int 0, y2, y3, y4] [] (tm_up h' 70 (mpO Z p' tu)) ∧ (rSmG tp n r k z).2 = rClose 6 z' ∧ PG tp n (zT z') p' ∧ FSh h' b F c nn (upA G 11 f') nm ∧ FrG b h h' ∧ SameB 6 z z' ∧ (zN z' = zN z ∧ zK z' = zK z ∧ zM z' = zM z) ∧ (∀ x, x < 8 * c 6 → f' x = f x) ∧ (∀ j, j < 8 → f' (8 * c 6 + j) = zB z' 6 (c 6 * 8 + j))) := by
  have ne : b ≠ 70 := by omega
  have nx : ∀ (H' : tm_H) (X : va_E), tm_up H' 70 X b = H' b := fun _ _ => tm_up_ne ne
  intro r
  induction r with
  | zero => intro k h f z p x3 x4 _ h1 h2; exact absurd h1 (by omega)
  | succ r ih =>
    intro k h f z p x3 x4 C hk hk8 A S hc6 ff
    obtain ⟨a, hbn⟩ := A.1 rfl
    have a' : PG tp n (zT (rStep tp n z)) p := a
    obtain ⟨p1, w, P1, A1, V1⟩ := m_wh C (tu := tu) (z := rStep tp n z) a' (lo := 1) (hi := 9)
    have eu : rSmG tp n (r + 1) k z = rAnd (rWhole tp 1 9 (rStep tp n z)) fun y => if k = 8 then (false, rF y 5) else if (zT (rStep tp n (rPut 6 k (zL y) y))).2.2 = 4 then rSmG tp n r (k + 1) (rStep tp n (rPut 6 k (zL y) y)) else (true, rClose 6 (rStep tp n (rPut 6 k (zL y) y))) := rfl
    rw [eu]
    have lm : (nI k = 8) = (8 ≤ k) := lim_e (m := 8) (by decide) hk8
    have E1 : tE mX11_readSmith 69 [.ref 70, .int 1, .int (nI k), x3, x4] [] (tm_up h 70 (mpO Z p tu)) = tE mX11_readSmith 85 [.ref 70, .int 1, .int (nI k), .int p.2.2.1, x4] [.int w] (tm_up h 70 (mpO Z p1 tu)) := by
      simp only [bX11_readSmith_69, bX11_readSmith_73, bX11_readSmith_77, tk1_some, tk0_some, tkc_some, tkc_none, ↓reduceIte, show ((1 : Int32) = 0) = False from by decide, if_false, tm_up_same, gf_11_10, tm_isO, P1]
    rw [E1]
    cases t : (rWhole tp 1 9 (rStep tp n z)).1 with
    | false =>
      have P := A1.2 t
      rw [rAnd_ff t]
      refine ⟨fun _ => ⟨h, p1, f, ?_, P, S, FrG_rf b h⟩, fun y => by cases y⟩
      by_cases d : 8 ≤ k
      · simp only [bX11_readSmith_85, bX11_readSmith_93, bX11_readSmith_99, bX11_readSmith_103, bX11_readSmith_107, tk1_some, tk0_some, tkc_some, tkc_none, ↓reduceIte, lm, d, not_true, if_false, tm_up_same, tm_isO, m_wrHO P, gf_11_9, P.1]
      · simp only [bX11_readSmith_85, bX11_readSmith_99, bX11_readSmith_103, bX11_readSmith_107, tk1_some, tk0_some, tkc_some, tkc_none, ↓reduceIte, lm, d, not_true, not_false_eq_true, if_true, if_false, tm_up_same, gf_11_9, P.1]
    | true =>
      obtain ⟨y, ey, iy⟩ := whole_ok t
      have w1 := V1 t
      obtain ⟨G1, n1⟩ := A1.1 t
      have eq2 : rWhole tp 1 9 (rStep tp n z) = (true, rL (rStep tp n z) y) := by
        rw [← ey, ← t]
      rw [eq2] at G1 n1 w1 ⊢
      rw [rAnd_tt]
      have w2 : w = y := w1
      subst w2
      have n5 := PG_5 G1
      rw [show zL (rL (rStep tp n z) w) = w from rfl]
      by_cases d : k = 8
      · rw [if_pos d]
        have d' : 8 ≤ k := by omega
        refine ⟨fun _ => ⟨h, wrP p1 5 p.2.2.1, f, ?_, ⟨rfl, rfl, a'.2.1.1⟩, S, FrG_rf b h⟩, fun y => by cases y⟩
        simp only [bX11_readSmith_85, bX11_readSmith_93, bX11_readSmith_99, bX11_readSmith_103, bX11_readSmith_107, tk1_some, tk0_some, tkc_some, tkc_none, ↓reduceIte, lm, d', not_true, if_false, tm_up_same, tm_isO, m_wrH n5, gf_11_9, show (wrP p1 5 p.2.2.1).2.1 = 5 from rfl]
      · rw [if_neg d]
        have d' : ¬ 8 ≤ k := by omega
        have Ea := si_130 (X := mpO Z p1 tu) (v := w) (FSh_g S) (show 8 * c 6 + k < 40 by omega) (by decide) (show b + 11 ≠ 70 by omega)
        have Sa := FSh_11 S (upd f (8 * c 6 + k) w)
        have Ca := MC_up C (a := b + 11) (e := aI 40 (upd f (8 * c 6 + k) w)) (by omega)
        have Fa : FrG b h (tm_up h (b + 11) (aI 40 (upd f (8 * c 6 + k) w))) := FrG_up (Or.inr ⟨by omega, by omega⟩)
        generalize tm_up h (b + 11) (aI 40 (upd f (8 * c 6 + k) w)) = ha at Ea Sa Ca Fa
        obtain ⟨W, Wv⟩ := put_puts 6 k w (zT (rStep tp n z)) w z
        change Puts 6 k z (rPut 6 k w (rL (rStep tp n z) w)) at W
        change _ → zB (rPut 6 k w (rL (rStep tp n z) w)) 6 _ = _ at Wv
        have Wm : zM (rPut 6 k w (rL (rStep tp n z) w)) = zM z := rPut_M _ _ _ _
        have Wt : zT (rPut 6 k w (rL (rStep tp n z) w)) = zT (rStep tp n z) := rPut_T _ _ _ _
        generalize rPut 6 k w (rL (rStep tp n z) w) = z2 at W Wv Wm Wt
        have G1' : PG tp n (zT (rStep tp n z2)) p1 := by
          show PG tp n (tokS tp n (zT z2).2.1) p1
          rw [Wt]; exact G1
        have x1 := Wv (by rw [hc6]; exact hm)
        have y1 := W.2.2.2
        rw [hc6] at x1 y1
        have f2 : ∀ j, j < 8 → upd f (8 * c 6 + k) w (8 * c 6 + j) = zB (rStep tp n z2) 6 (c 6 * 8 + j) := fun j hj => by
          show _ = zB z2 6 (c 6 * 8 + j)
          by_cases e : j = k
          · subst e; rw [upd_at]; exact x1.symm
          · rw [upd_off (by omega), ff j hj]; exact (y1 j e).symm
        have f3 : ∀ x, x < 8 * c 6 → upd f (8 * c 6 + k) w x = f x := fun x hx => upd_off (by omega)
        have SB : SameB 6 z (rStep tp n z2) := W.1
        have NK : zN (rStep tp n z2) = zN z ∧ zK (rStep tp n z2) = zK z ∧ zM (rStep tp n z2) = zM z := ⟨W.2.1, W.2.2.1, Wm⟩
        obtain ⟨e4, e0⟩ := m_eat Ca (tu := tu) G1'
        have E2 : tE mX11_readSmith 85 [.ref 70, .int 1, .int (nI k), .int p.2.2.1, x4] [.int w] (tm_up h 70 (mpO Z p1 tu)) = tE mX11_readSmith 130 [.ref 70, .int 1, .int (nI k), .int p.2.2.1, .int w] [] (tm_up ha 70 (mpO Z p1 tu)) := by
          simp only [bX11_readSmith_85, bX11_readSmith_99, bX11_readSmith_103, bX11_readSmith_108, bX11_readSmith_112, bX11_readSmith_115, bX11_readSmith_121, bX11_readSmith_124, tk1_some, tk0_some, tkc_some, tkc_none, ↓reduceIte, lm, d', not_false_eq_true, if_true, tm_up_same, gf_11_9, n5, gf_11_4, zf, nx, S.1, gf_10_23, gf_10_11, i8, Ea]
        rw [E2]
        by_cases x : (zT (rStep tp n z2)).2.2 = 4
        · obtain ⟨p2, P2, G2⟩ := e4 x
          rw [if_pos x]
          obtain ⟨i1, i2⟩ := ih (k + 1) ha _ (rStep tp n z2) p2 (.int p.2.2.1) (.int w) Ca (by omega) (by omega) (AV_t G2 (tok_n G1'.1).2) Sa (by rw [SB.1]; exact hc6) f2
          have E3 : tE mX11_readSmith 130 [.ref 70, .int 1, .int (nI k), .int p.2.2.1, .int w] [] (tm_up ha 70 (mpO Z p1 tu)) = tE mX11_readSmith 69 [.ref 70, .int 1, .int (nI (k + 1)), .int p.2.2.1, .int w] [] (tm_up ha 70 (mpO Z p2 tu)) := by
            simp only [bX11_readSmith_130, bX11_readSmith_134, tk1_some, tk0_some, tkc_some, tkc_none, ↓reduceIte, tm_up_same, tm_isO, P2, nI_k1]
          rw [E3]
          refine ⟨fun y => ?_, fun y => ?_⟩
          · obtain ⟨h', p', f', j1, j2, j3, j4⟩ := i1 y
            exact ⟨h', p', f', j1, j2, j3, FrG_tr Fa j4⟩
          · obtain ⟨h', p', f', y2, y3, y4, z', j1, j2, j3, j4, j5, j6, j7, j8, j9⟩ := i2 y
            exact ⟨h', p', f', y2, y3, y4, z', j1, j2, j3, j4, FrG_tr Fa j5, SameB_tr SB j6, ⟨j7.1.trans NK.1, j7.2.1.trans NK.2.1, j7.2.2.trans NK.2.2⟩, fun x hx => (j8 x hx).trans (f3 x hx), j9⟩
        · have P2 := e0 x
          rw [if_neg x]
          refine ⟨fun y => (by cases y), fun _ => ⟨ha, p1, _, .int (nI (k + 1)), .int p.2.2.1, .int w, rStep tp n z2, ?_, rfl, G1', Sa, Fa, SB, NK, f3, f2⟩⟩
          simp only [bX11_readSmith_130, bX11_readSmith_134, bX11_readSmith_69, tk1_some, tk0_some, tkc_some, tkc_none, ↓reduceIte, tm_up_same, tm_isO, P2, nI_k1, if_true]
theorem m_Smith (C : MC h n tp Z) (zf : Z.2.1.2 = .ref b) (hb : 83 < b) {p : PR} (o : h 70 = mpO Z p tu) (H : PG tp n (zT z) p) (e1 : (zT z).2.2 = 1) (S : FBk h b (true, z)) (g : Gd z) :
    ∃ h' p', tC mX11_readSmith [.ref 70] h = some (h', none) ∧ h' 70 = mpO Z p' tu ∧ LV tp n (rAnd (rRoom 6 5 z) (rSmith tp n)) p' ∧ FBk h' b (rAnd (rRoom 6 5 z) (rSmith tp n)) ∧ FrG b h h' := by
  have ne : b ≠ 70 := by omega
  have nx : ∀ (H' : tm_H) (X : va_E), tm_up H' 70 X b = H' b := fun _ _ => tm_up_ne ne
  have cm : ∀ (H' : tm_H) (X Y : va_E), tm_up (tm_up H' 70 X) b Y = tm_up (tm_up H' b Y) 70 X := fun _ _ _ => tm_up_comm (Ne.symm ne)
  obtain ⟨h1, p1, P1, o1, A1, S1, F1⟩ := m_named C zf hb o H e1 S g (l := 6) (Or.inr (Or.inr (Or.inr rfl))) (fl := bI (decide (lnM 6 ≤ zC z 6))) rfl (-1)
  have C1 := FrG_MC C hb F1
  have E1 : tC mX11_readSmith [.ref 70] h = tE mX11_readSmith 25 [.ref 70, tm_U, tm_U, tm_U, tm_U] [.int p1.2.1] h1 := by
    obtain ⟨F, c, nn, G, nm, Sh, bd, nb, R⟩ := S
    obtain ⟨r1, r2, _⟩ : BR z F c nn G nm := R rfl
    subst r1 r2
    have lm : (nI (zC z 6) = 5) = (lnM 6 ≤ zC z 6) := lim_e (m := 5) (by decide) (bd 6 (by decide))
    by_cases d : lnM 6 ≤ zC z 6
    · rw [decide_eq_true d, bI_t] at P1
      simp only [cX11_readSmith_, bX11_readSmith_0, bX11_readSmith_5, bX11_readSmith_8, bX11_readSmith_12, bX11_readSmith_17, bX11_readSmith_21, tk1_some, tk0_some, tkc_some, tkc_none, ↓reduceIte, o, gf_11_4, zf, Sh.1, gf_10_11, lm, d, not_true, if_false, tm_isO, P1, o1, gf_11_9]
    · rw [decide_eq_false d, bI_f] at P1
      simp only [cX11_readSmith_, bX11_readSmith_0, bX11_readSmith_5, bX11_readSmith_8, bX11_readSmith_16, bX11_readSmith_17, bX11_readSmith_21, tk1_some, tk0_some, tkc_some, tkc_none, ↓reduceIte, o, gf_11_4, zf, Sh.1, gf_10_11, lm, d, not_false_eq_true, if_true, tm_isO, P1, o1, gf_11_9]
  have fo : tm_up h1 70 (mpO Z p1 tu) = h1 := by rw [← o1, tm_up_id]
  rw [E1]
  have eq : rAnd (rRoom 6 5 z) (rSmith tp n) = rAnd (rAnd (rRoom 6 5 z) (rName tp n (-1))) (fun y => rSmG tp n 9 0 (rOnes 8 0 y)) := by
    rw [← rAnd_as]; rfl
  rw [eq]
  cases t : (rAnd (rRoom 6 5 z) (rName tp n (-1))).1 with
  | false =>
    have P := A1.2 t
    rw [rAnd_ff t]
    refine ⟨h1, p1, ?_, o1, ⟨fun y => (by cases y), fun _ => P⟩, FBk_f S1 rfl, F1⟩
    simp only [bX11_readSmith_25, bX11_readSmith_29, P.1, not_true, if_false]
  | true =>
    obtain ⟨t1, u1⟩ := rAnd_t t
    obtain ⟨ez, hr⟩ := room_ok t1
    rw [ez] at u1
    rw [u1] at t A1 S1 ⊢
    obtain ⟨q1, q2, q3, q4, q5⟩ := name_nf t
    obtain ⟨F, c, nn, G, nm, Sh, bd, nb, R⟩ := S1
    obtain ⟨r1, r2, r3, r4, r5, r6, r7, r8, r9⟩ : BR (rName tp n (-1) z).2 F c nn G nm := R t
    generalize hq1 : rName tp n (-1) z = q1' at *
    obtain ⟨b1, z1⟩ := q1'
    obtain rfl : b1 = true := t
    rw [rAnd_tt]
    change c = zC z1 at r1
    change nn = zN z1 at r2
    subst r1 r2
    obtain ⟨G1, n1⟩ := A1.1 rfl
    have n5 := PG_5 G1
    have hr1 : zC z1 6 < lnM 6 := by rw [show zC z1 = zC z from q1]; exact hr
    have hm : zC z1 6 < 5 := hr1
    have Sh' : FSh h1 b F (zC z1) (zN z1) (upA G 11 (G 11)) nm := by rw [upA_me]; exact Sh
    obtain ⟨h2, f2, E2, S2, F2, g1, g2⟩ := m_ones (tu := tu) zf hb hm (p := p1) (x2 := tm_U) (x3 := tm_U) (x4 := tm_U) 8 0 h1 (G 11) (by omega) Sh'
    rw [nI_0, fo] at E2
    have E3 : tE mX11_readSmith 25 [.ref 70, tm_U, tm_U, tm_U, tm_U] [.int p1.2.1] h1 = tE mX11_readSmith 69 [.ref 70, .int 1, .int 0, tm_U, tm_U] [] (tm_up h2 70 (mpO Z p1 tu)) := by
      rw [← E2]
      simp only [bX11_readSmith_25, bX11_readSmith_30, n5, not_false_eq_true, if_true]
    rw [E3]
    obtain ⟨o1', o2', o3', o4', _⟩ := ones_ok (z := z1) hr1 8 0 (by omega)
    obtain ⟨oM, oT⟩ := ones_M 8 0 z1
    generalize rOnes 8 0 z1 = z2 at o1' o2' o3' o4' oM oT
    have C2 := FrG_MC C1 hb F2
    have c2 : zC z2 = zC z1 := o1'.1
    obtain ⟨l1, l2⟩ := m_sm C2 (tu := tu) zf hb hm 9 0 h2 f2 z2 p1 tm_U tm_U C2 (by omega) (by omega) (AV_t (by rw [oT]; exact G1) (by rw [oT]; exact n1)) S2 (by rw [c2]) (fun j hj => by rw [g2 j (by omega) hj]; exact (o4' j (by omega) hj).symm)
    rw [nI_0] at l1 l2
    cases ts : (rSmG tp n 9 0 z2).1 with
    | false =>
      obtain ⟨h3, p3, f3, P3, G3, S3, F3⟩ := l1 ts
      have e9 : rSmG tp n 9 0 z2 = (false, (rSmG tp n 9 0 z2).2) := by rw [← ts]
      rw [e9]
      exact ⟨_, p3, P3, tm_up_same, ⟨fun y => (by cases y), fun _ => G3⟩, ⟨F, zC z1, zN z1, _, nm, FSh_c S3 (fun k x y => tm_up_ne (by omega)), bd, nb, fun y => (by cases y)⟩, FrG_tr F1 (FrG_tr F2 (FrG_tr F3 (FrG_up (Or.inl rfl))))⟩
    | true =>
      obtain ⟨h3, p3, f3, y2, y3, y4, z4, P3, e5, G3, S3, F3, SB3, NK, j8, j9⟩ := l2 ts
      have e9 : rSmG tp n 9 0 z2 = (true, rClose 6 z4) := by rw [← ts, ← e5]
      rw [e9, P3]
      have SB : SameB 6 z1 z4 := SameB_tr o1' SB3
      have c4 : zC z4 = zC z1 := SB.1
      have ee : rClose 6 z4 = rB z4 (updN (zC z4) 6 (zC z4 6 + 1)) (zB z4) := rC_eq (by rw [c4]; exact hr1)
      have Sd := FSh_p (F' := F) (c' := updN (zC z1) 6 (zC z1 6 + 1)) (nn' := zN z1) S3 (updN_n (by decide)) (updN_n (by decide)) (updN_n (by decide)) (updN_n (by decide)) updN_s
      refine ⟨tm_up (tm_up h3 b (mbO b F.1 F.2.1 F.2.2.1 F.2.2.2.1 F.2.2.2.2.1 F.2.2.2.2.2.1 F.2.2.2.2.2.2 (zC z1 2) (zC z1 3) (zC z1 4) (zC z1 5) (zC z1 6 + 1) (zN z1))) 70 (mpO Z p3 tu), p3, ?_, tm_up_same, ⟨fun _ => ?_, fun y => (by cases y)⟩, ?_, FrG_tr F1 (FrG_tr F2 (FrG_tr F3 (FrG_tr (FrG_up (Or.inr ⟨Nat.le_refl _, by omega⟩)) (FrG_up (Or.inl rfl)))))⟩
      · simp only [bX11_readSmith_141, bX11_readSmith_145, bX11_readSmith_149, bX11_readSmith_154, tk1_some, tk0_some, tkc_some, tkc_none, ↓reduceIte, tm_up_same, gf_11_4, zf, nx, S3.1, gf_10_11, tm_pf_eq, ps_10_11, Option.map_some, cm, nI_k1]
      · show PG tp n (zT (rClose 6 z4)) p3
        rw [rClose_T]; exact G3
      · refine FBk_c ⟨F, updN (zC z1) 6 (zC z1 6 + 1), zN z1, _, nm, Sd, bd_up bd hr1, nb, fun _ => ?_⟩ (fun k x y => tm_up_ne (by omega))
        show BR (rClose 6 z4) _ _ _ _ _
        rw [ee, c4]
        have MM := MRel_6 (t' := zB z4) r3 SB.2.1 SB.2.2 (fun x hx => (j8 x hx).trans (g1 x (by omega))) j9
        exact BR_e (T := zT z4) MM r4 r5 r6 r7 r8 r9 (NK.1.trans o2') (NK.2.1.trans o3') (NK.2.2.trans oM) rfl rfl (SB.2.1 0 (by decide)) (SB.2.1 1 (by decide)) rfl
end M17
