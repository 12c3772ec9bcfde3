/-! THE REFERENCE's calls: book -/
def FP (z : RSt) (r : Bool × RSt) : Prop := (r.1 = true → zF r.2 = zF z) ∧ (r.1 = false → 0 < zF r.2)
theorem FP_and {z : RSt} {p : Bool × RSt} {g : RSt → Bool × RSt} (a : FP z p) (b : ∀ y, p = (true, y) → FP y (g y)) : FP z (rAnd p g) := by
  obtain ⟨q, y⟩ := p
  cases q with
  | true =>
    have c := b y rfl
    exact ⟨fun h => (c.1 h).trans (a.1 rfl), c.2⟩
  | false => exact a
section FPs
variable {tp : Nat → Int32} {n : Nat} {z : RSt}
theorem FP_whole {lo hi : Int32} : FP z (rWhole tp lo hi z) := by
  unfold rWhole
  split
  · split
    · exact ⟨fun _ => rfl, fun y => by cases y⟩
    · exact ⟨fun y => (by cases y), fun _ => by show (0 : Int32) < 4; decide⟩
  · exact ⟨fun y => (by cases y), fun _ => by show (0 : Int32) < 1; decide⟩
theorem FP_wk {lo hi : Int32} {l c : Nat} : FP z (rWK tp lo hi l c z) := by
  have a := FP_whole (tp := tp) (z := z) (lo := lo) (hi := hi)
  unfold rWK
  split
  · rename_i d; exact ⟨fun _ => (FF_put _ _ _ _).trans (a.1 d), fun y => by cases y⟩
  · rename_i d; exact ⟨fun y => (by cases y), fun _ => a.2 (by rw [Bool.not_eq_true] at d; exact d)⟩
theorem FP_tells {k l c : Nat} {lo hi : Int32} : FP z (rTells tp n k lo hi l c z) := by
  unfold rTells
  split
  · exact FP_wk (z := rStep tp n (rStep tp n z))
  · exact ⟨fun y => (by cases y), fun _ => by show (0 : Int32) < 1; decide⟩
theorem FP_tellsW {l c : Nat} {lo hi : Int32} : FP z (rTellsW tp n lo hi l c z) := FP_wk (z := rStep tp n z)
theorem FP_word {k : Nat} : FP z (rWord tp n k z) := by
  unfold rWord
  split
  · exact ⟨fun _ => rfl, fun y => by cases y⟩
  · exact ⟨fun y => (by cases y), fun _ => by show (0 : Int32) < 1; decide⟩
theorem FP_name {kd : Int32} : FP z (rName tp n kd z) := by
  unfold rName
  split
  · split
    · split
      · exact ⟨fun _ => rfl, fun y => by cases y⟩
      · exact ⟨fun y => (by cases y), fun _ => by show (0 : Int32) < 3; decide⟩
    · exact ⟨fun y => (by cases y), fun _ => by show (0 : Int32) < 3; decide⟩
  · exact ⟨fun y => (by cases y), fun _ => by show (0 : Int32) < 1; decide⟩
theorem FP_to {l : Nat} : FP z (rTo tp n l z) := by
  unfold rTo
  split
  · split
    · exact ⟨fun _ => FF_put _ _ _ _, fun y => by cases y⟩
    · exact ⟨fun y => (by cases y), fun _ => by show (0 : Int32) < 2; decide⟩
  · exact ⟨fun y => (by cases y), fun _ => by show (0 : Int32) < 1; decide⟩
theorem FP_ends {l : Nat} : FP z (true, rEnds tp n l z) := ⟨fun _ => FF_close l z, fun y => by cases y⟩
theorem FP_signs : ∀ r s z, FP z (rSigns tp n r s z)
  | 0, s, z => ⟨fun _ => (FF_close _ _).trans (FF_put _ _ _ _), fun y => by cases y⟩
  | r + 1, s, z => by
    unfold rSigns
    refine FP_and (FP_whole (z := rStep tp n z)) fun y _ => ?_
    split
    · exact ⟨fun y => (by cases y), fun _ => by show (0 : Int32) < 3; decide⟩
    · split
      · exact FP_signs r _ (rStep tp n y)
      · exact ⟨fun _ => (FF_close _ _).trans (FF_put _ _ _ _), fun y => by cases y⟩
theorem FP_smG : ∀ r k z, FP z (rSmG tp n r k z)
  | 0, k, z => ⟨fun _ => FF_close _ _, fun y => by cases y⟩
  | r + 1, k, z => by
    unfold rSmG
    refine FP_and (FP_whole (z := rStep tp n z)) fun y _ => ?_
    split
    · exact ⟨fun y => (by cases y), fun _ => by show (0 : Int32) < 5; decide⟩
    · have e : zF (rStep tp n (rPut 6 k (zL y) y)) = zF y := FF_put _ _ _ _
      split
      · have q := FP_smG r (k + 1) (rStep tp n (rPut 6 k (zL y) y))
        exact ⟨fun h => (q.1 h).trans e, q.2⟩
      · exact ⟨fun _ => (FF_close _ _).trans e, fun y => by cases y⟩
theorem FP_line : FP z (rLine tp n z) := by
  have R : ∀ (l : Nat) (k : Int32) (g : RSt → Bool × RSt), 0 < k → (∀ y, FP y (g y)) → FP z (rAnd (rRoom l k z) g) := fun l k g hk a => by
    refine FP_and ?_ fun y _ => a y
    unfold rRoom
    split
    · exact ⟨fun y => (by cases y), fun _ => hk⟩
    · exact ⟨fun _ => rfl, fun y => by cases y⟩
  unfold rLine
  split
  · exact R 0 3 _ (by decide) fun y => FP_and FP_tells fun y _ => FP_and FP_tells fun y _ => FP_ends
  · split
    · exact R 1 3 _ (by decide) fun y => FP_and FP_tellsW fun y _ => FP_and FP_tells fun y _ => FP_and FP_tells fun y _ => FP_and FP_tells fun y _ => FP_and FP_tells fun y _ => FP_ends
    · split
      · exact R 2 5 _ (by decide) fun y => FP_and FP_name fun y _ => FP_and FP_tells fun y _ => FP_and FP_tells fun y _ => FP_and FP_tells fun y _ => FP_ends
      · split
        · exact R 3 5 _ (by decide) fun y => FP_and FP_to fun y _ => FP_and FP_tells fun y _ => FP_and FP_tells fun y _ => FP_ends
        · split
          · exact R 4 5 _ (by decide) fun y => FP_and FP_name fun y _ => FP_and FP_tellsW fun y _ => FP_and FP_tells fun y _ => FP_ends
          · split
            · exact R 5 5 _ (by decide) fun y => FP_and FP_name fun y _ => FP_and FP_tells fun y _ => FP_and FP_word fun y _ => FP_signs _ _ _
            · split
              · exact R 6 5 _ (by decide) fun y => FP_and FP_name fun y _ => by
                  have q := FP_smG (tp := tp) (n := n) 9 0 (rOnes 8 0 y)
                  exact ⟨fun h => (q.1 h).trans (FF_ones _ _ _), q.2⟩
              · exact ⟨fun y => (by cases y), fun _ => by show (0 : Int32) < 1; decide⟩
theorem FP_loop : ∀ r (q : Bool × RSt), FP z q → FP z (rLoop tp n r q)
  | 0, q, a => a
  | r + 1, q, a => by
    unfold rLoop
    split
    · rename_i c
      split
      · exact a
      · refine FP_loop r _ ?_
        have e := a.1 c
        have b : FP q.2 (rAnd (rParts tp n q.2) (rLine tp n)) := by
          refine FP_and ?_ fun y _ => FP_line
          unfold rParts
          split
          · exact ⟨fun _ => rfl, fun y => by cases y⟩
          · exact ⟨fun y => (by cases y), fun _ => by show (0 : Int32) < 1; decide⟩
        exact ⟨fun h => (b.1 h).trans e, b.2⟩
    · exact a
theorem read_pos (hz : zF z = 0) : zF (rRead tp n z) = 0 ∨ 0 < zF (rRead tp n z) := by
  have a := FP_loop (tp := tp) (n := n) 700 _ (FP_line (tp := tp) (n := n) (z := z))
  unfold rRead rFin
  generalize rLoop tp n 700 (rLine tp n z) = q at a
  obtain ⟨b, y⟩ := q
  cases b with
  | false => exact .inr (a.2 rfl)
  | true =>
    cases l : rLacks y with
    | true =>
      right
      simp only [l, if_true]
      show (0 : Int32) < 6; decide
    | false =>
      left
      simp only [l]
      exact (a.1 rfl).trans hz
end FPs
section M44
variable {h : tm_H} {S : SS}
/-- the heap's book only counts -/
theorem MI_0 (X : MInv h S) {m c s c' s' : Nat} (h0 : h 0 = tm_bk m c s) : MInv (tm_up h 0 (tm_bk m c' s')) S := by
  obtain ⟨Z, m1, c1, s1, h1, hm, T, ⟨tn, hm0, km, cl, tu, th, om, HA⟩, tp, B, ⟨f1, t1⟩, ⟨f2, t2⟩, ⟨f3, t3⟩, ⟨f4, l1, l2⟩, ⟨f5, t4⟩, ⟨f, b1, b2⟩⟩ := X
  have em : m1 = m := by
    rw [h0] at h1
    injection h1 with h1
    injection h1 with h1 _
    exact h1.symm
  subst em
  have nx : ∀ k, k ≠ 0 → tm_up h 0 (tm_bk m1 c' s') k = h k := fun k x => tm_up_ne x
  exact ⟨Z, m1, c', s', tm_up_same, hm, T, ⟨tn, hm0, km, cl, tu, th, om, MA_c (fun k x => nx k (by omega)) HA⟩, by rw [nx 131 (by decide)]; exact tp, MBB_c (fun k x => nx k (by omega)) B, ⟨f1, by rw [nx 138 (by decide)]; exact t1⟩, ⟨f2, by rw [nx 139 (by decide)]; exact t2⟩, ⟨f3, by rw [nx 140 (by decide)]; exact t3⟩, ⟨f4, by rw [nx 141 (by decide)]; exact l1, l2⟩, ⟨f5, by rw [nx 142 (by decide)]; exact t4⟩, ⟨f, by rw [nx 143 (by decide)]; exact b1, b2⟩⟩
theorem book_fin {h h' : tm_H} {v : Option Value} {m c s m' c' s' : Nat} (h0 : h 0 = tm_bk m c s) (h1 : h' 0 = tm_bk m' c' s') (hc : c' ≤ c + 14) (hs : s' ≤ s + 167) : tm_fin mX11_book h (some (h', v)) = some (tm_up h' 0 (tm_bk m' (c + 14) (s + 167)), v) := by
  unfold tm_fin
  have e1 : tm_kc h = c := by unfold tm_kc; rw [h0]; rfl
  have e2 : tm_ks h = s := by unfold tm_ks; rw [h0]; rfl
  have e3 : tm_kc h' = c' := by unfold tm_kc; rw [h1]; rfl
  have e4 : tm_ks h' = s' := by unfold tm_ks; rw [h1]; rfl
  have e5 : tm_sz h' = m' := by unfold tm_sz; rw [h1]; rfl
  have e6 : tm_mc mX11_book = 14 := rfl
  have e7 : tm_ms mX11_book = 167 := rfl
  show (if tm_mc mX11_book = 0 then some (h', v) else if tm_kc h' ≤ tm_kc h + tm_mc mX11_book ∧ tm_ks h' ≤ tm_ks h + tm_ms mX11_book then some (tm_up h' 0 (tm_bk (tm_sz h') (tm_kc h + tm_mc mX11_book) (tm_ks h + tm_ms mX11_book)), v) else none) = _
  rw [e1, e2, e3, e4, e5, e6, e7, if_neg (by decide), if_pos ⟨hc, hs⟩]
theorem mbc_loop {x1 : Value} {Z : MZ} {tn : Nat} {hm km tu th om : Nat → Int32} : ∀ r k h cl, MA h Z tn hm km (fillF cl 0 k) tu th om → k + r = 40 → ∃ h', tE mX11_book 99 [.ref 130, x1, .int (nI k)] [] h = tE mX11_book 120 [.ref 130, x1, .int 0] [] h' ∧ MA h' Z tn hm km (fillF cl 0 40) tu th om ∧ (∀ k, k ≠ 134 → h' k = h k) := by
  intro r
  induction r with
  | zero =>
    intro k h cl H hk
    obtain rfl : k = 40 := by omega
    exact ⟨h, by rw [bX11_book_99, if_pos (show (40 : Int32) ≤ nI 40 from Int32.le_refl _), bX11_book_118], H, fun _ _ => rfl⟩
  | succ r ih =>
    intro k h cl H hk
    have e1 : ¬ (40 : Int32) ≤ nI k := nI_ge (show k < 40 by omega) (by decide)
    have g18 : tm_gf (h 130) 11 18 = some (.ref 134) := by rw [H.1, gf_11_18]
    have s : tm_si 0 h 134 (nI k) 0 = some (tm_up h 134 (aI 40 (fillF cl 0 (k + 1)))) := by
      rw [tm_si_eq, H.2.2.2.1, tm_sa_in rfl (show k < 40 by omega) (by decide), fillF_s]; rfl
    obtain ⟨h', P, H', F'⟩ := ih (k + 1) _ cl (MA_a4 H (fillF cl 0 (k + 1))) (by omega)
    refine ⟨h', ?_, H', fun k hk => by rw [F' k hk, tm_up_ne hk]⟩
    rw [← P, bX11_book_99, if_neg e1]
    simp only [bX11_book_105, bX11_book_109, bX11_book_112, tk1_some, tk0_some, tkc_some, tkc_none, ↓reduceIte, g18, s, nI_k1]
theorem mbl_loop {x1 : Value} (g31 : tm_gf (h 130) 11 31 = some (.ref 141)) : ∀ r k f, k + r = 9 → tE mX11_book 120 [.ref 130, x1, .int (nI k)] [] (tm_up h 141 (aI 9 (fillF f 0 k))) = tE mX11_book 139 [.ref 130, x1, .int 9] [] (tm_up h 141 (aI 9 (fillF f 0 9))) := by
  intro r
  induction r with
  | zero =>
    intro k f hk
    obtain rfl : k = 9 := by omega
    rw [bX11_book_120, if_pos (show (8 : Int32) < nI 9 by decide)]; rfl
  | succ r ih =>
    intro k f hk
    have e1 : ¬ (8 : Int32) < nI k := Int32.not_lt.mpr ((nI_leI (a := k) (b := 8) (by omega) (by decide)).mpr (by omega))
    have g : tm_gf (tm_up h 141 (aI 9 (fillF f 0 k)) 130) 11 31 = some (.ref 141) := by rw [tm_up_ne (by decide)]; exact g31
    have s : tm_si 0 (tm_up h 141 (aI 9 (fillF f 0 k))) 141 (nI k) 0 = some (tm_up h 141 (aI 9 (fillF f 0 (k + 1)))) := by
      rw [tm_si_eq, tm_up_same, tm_sa_in rfl (show k < 9 by omega) (by decide), fillF_s]
      show some (tm_up (tm_up h 141 _) 141 _) = _
      rw [tm_up_up]
    rw [← ih (k + 1) f (by omega), bX11_book_120, if_neg e1]
    simp only [bX11_book_126, bX11_book_130, bX11_book_133, tk1_some, tk0_some, tkc_some, tkc_none, ↓reduceIte, g, s, nI_k1]
end M44
section M45
variable {h : tm_H} {S : SS}
theorem bk_inj {m c s m' c' s' : Nat} (e : tm_bk m c s = tm_bk m' c' s') : m = m' := by
  injection e with e
  injection e with e _
theorem MBB_g {h' : tm_H} {Z : MZ} {m m' : Nat} (hm : 143 ≤ m) (le : m ≤ m') (E : ∀ k, k ≠ 0 → k ≤ m → h' k = h k) (B : MBB h Z m S) : MBB h' Z m' S := by
  refine ⟨fun bo => ?_, B.2⟩
  obtain ⟨b, nn, G, nm, z1, z2, z3, M, ez, hm, km, cl, tu, th, om, HA, r⟩ := B.1 bo
  refine ⟨b, nn, G, nm, z1, z2, by omega, MBk_c (fun k x y => E k (by omega) (by omega)) M, ez, hm, km, cl, tu, th, om, ?_, r⟩
  exact ⟨by rw [E 130 (by omega) (by omega)]; exact HA.1, by rw [E 132 (by omega) (by omega)]; exact HA.2.1, by rw [E 133 (by omega) (by omega)]; exact HA.2.2.1, by rw [E 134 (by omega) (by omega)]; exact HA.2.2.2.1, by rw [E 135 (by omega) (by omega)]; exact HA.2.2.2.2.1, by rw [E 136 (by omega) (by omega)]; exact HA.2.2.2.2.2.1, by rw [E 137 (by omega) (by omega)]; exact HA.2.2.2.2.2.2⟩
theorem F10_at {m i : Nat} (h1 : 1 ≤ i) (h2 : i ≤ 13) (h3 : i ≠ 12) : F_10 m i = aI (mbL i) (fun _ => 0) := by
  rcases (show i = 1 ∨ i = 2 ∨ i = 3 ∨ i = 4 ∨ i = 5 ∨ i = 6 ∨ i = 7 ∨ i = 8 ∨ i = 9 ∨ i = 10 ∨ i = 11 ∨ i = 13 by omega) with rfl | rfl | rfl | rfl | rfl | rfl | rfl | rfl | rfl | rfl | rfl | rfl <;> rfl
theorem m_book (X : MInv h S) (P : PX S) (B8 : ByOk (sTp S)) {n : Int32} {S' : SS} {r : Int32} (R : BookRel S n S' r) {m c s : Nat} (h0 : h 0 = tm_bk m c s) : ∃ h' m', tC mX11_book [.ref 130, .int n] h = some (h', some (.int r)) ∧ MInv h' S' ∧ h' 0 = tm_bk m' (c + 14) (s + 167) ∧ m' ≤ m + 14 ∧ (∀ k, k ≠ 0 → k < 130 → h' k = h k) := by
  obtain ⟨h1, E1, X1, F1, _, I1⟩ := m_thr X (v := 0)
  have h10 : h1 0 = tm_bk m c s := by rw [F1 0 (by decide)]; exact h0
  have g6 := (m_top X1).2.2.1
  have n7 := P.1
  unfold BookRel at R
  cases iv : inB n 0 (nI (sN S)) with
  | false =>
    rw [iv, if_neg (by decide)] at R
    obtain ⟨rfl, rfl⟩ := R
    obtain ⟨h2, X2, F2, _, D2, _⟩ := m_note X1 (t := 2) (by decide)
    have h20 : h2 0 = tm_bk m c s := by rw [F2 0 (by decide)]; exact h10
    have st : tE mX11_book 0 [.ref 130, .int n, tm_U] [] h = some (h2, some (.int (-1))) := by
      unfold inB at iv
      by_cases d : n < 0
      · simp only [bX11_book_0, bX11_book_5, bX11_book_17, bX11_book_22, tk1_some, tk0_some, tkc_some, tkc_none, ↓reduceIte, E1, d, if_true, I1, D2]
      · rw [if_neg d] at iv
        by_cases d2 : nI (sN S) < n
        · have d3 : ¬ n ≤ nI (sN S) := Int32.not_le.mpr d2
          simp only [bX11_book_0, bX11_book_5, bX11_book_9, bX11_book_14, bX11_book_17, bX11_book_22, tk1_some, tk0_some, tkc_some, tkc_none, ↓reduceIte, E1, d, if_false, g6, d3, I1, D2]
        · rw [if_neg d2] at iv; cases iv
    exact ⟨tm_up h2 0 (tm_bk m (c + 14) (s + 167)), m, by rw [cX11_book_, st, book_fin h0 h20 (by omega) (by omega)], MI_0 X2 h20, tm_up_same, by omega, fun k hk hk2 => by rw [tm_up_ne hk, F2 k hk2, F1 k hk2]⟩
  | true =>
    rw [iv, if_pos rfl] at R
    obtain ⟨z, ⟨lw, nm0, kn, tab, ez⟩, alt⟩ := R
    obtain ⟨en, _, hk7⟩ := inB_nat (a := 0) (b := sN S) (by omega) (by omega) iv
    obtain ⟨i1, i2⟩ := inB_t iv
    generalize iN n = k at en hk7 ez
    subst en
    obtain ⟨Z, m1, c1, s1, q0, hm, T, ⟨tn, hm0, km, cl, tu, th, om, HA⟩, tp, B, ⟨f1, t1⟩, ⟨f2, t2⟩, ⟨f3, t3⟩, ⟨f4, l1, l2⟩, ⟨f5, t4⟩, ⟨f6, b1, b2⟩⟩ := X1
    obtain rfl : m1 = m := bk_inj (q0.symm.trans h10)
    obtain ⟨⟨th0, tr0, wh0⟩, ⟨zb, zfr⟩, ⟨⟨ta, sz, at', so, pl⟩, ⟨mk', nu, fl, wa, wd⟩⟩, z4, z5⟩ := Z
    have o1 : h1 130 = moO ((th0, tr0, wh0), (zb, zfr), ((ta, sz, at', so, pl), (mk', nu, fl, wa, wd)), z4, z5) (nI tn) := HA.1
    have d : ¬ nI k < 0 := Int32.not_lt.mpr i1
    have eta : ta = nI (sN S) := T.2.1
    have st1 : tE mX11_book 0 [.ref 130, .int (nI k), tm_U] [] h = tE mX11_book 43 [.ref 130, .int (nI k), tm_U] [] (tm_up h1 130 (moO ((th0, tr0, wh0), (zb, zfr), ((0, nI k, 0, so, pl), (mk', nu, 0, wa, wd)), z4, z5) (nI tn))) := by
      simp only [bX11_book_0, bX11_book_5, bX11_book_9, bX11_book_14, bX11_book_23, bX11_book_28, bX11_book_33, bX11_book_38, tk1_some, tk0_some, tkc_some, tkc_none, ↓reduceIte, E1, d, if_false, eta, gf_11_6, i2, if_true, o1, tm_pf_eq, ps_11_7, ps_11_6, ps_11_8, ps_11_13, Option.map_some, tm_up_same, tm_up_up]
    have h2x : ∀ k', k' ≠ 130 → tm_up h1 130 (moO ((th0, tr0, wh0), (zb, zfr), ((0, nI k, 0, so, pl), (mk', nu, 0, wa, wd)), z4, z5) (nI tn)) k' = h1 k' := fun k' x => tm_up_ne x
    have h2o : tm_up h1 130 (moO ((th0, tr0, wh0), (zb, zfr), ((0, nI k, 0, so, pl), (mk', nu, 0, wa, wd)), z4, z5) (nI tn)) 130 = moO ((th0, tr0, wh0), (zb, zfr), ((0, nI k, 0, so, pl), (mk', nu, 0, wa, wd)), z4, z5) (nI tn) := tm_up_same
    generalize tm_up h1 130 (moO ((th0, tr0, wh0), (zb, zfr), ((0, nI k, 0, so, pl), (mk', nu, 0, wa, wd)), z4, z5) (nI tn)) = h2 at st1 h2x h2o
    have h20 : h2 0 = tm_bk m1 c s := by rw [h2x 0 (by decide)]; exact h10
    have sz2 : tm_sz h2 = m1 := by unfold tm_sz; rw [h20]; rfl
    have kc2 : tm_kc h2 = c := by unfold tm_kc; rw [h20]; rfl
    have ks2 : tm_ks h2 = s := by unfold tm_ks; rw [h20]; rfl
    have e3 : tm_new h2 (.inr (10, tm_dflt 10)) 26 = tm_up (tm_up h2 0 (tm_bk (m1 + 1) (c + 1) (s + 26))) (m1 + 1) (.inr (10, tm_dflt 10)) := by unfold tm_new; rw [sz2, kc2, ks2]
    have CT := ctor_10 (h := tm_up (tm_up h2 0 (tm_bk (m1 + 1) (c + 1) (s + 26))) (m1 + 1) (.inr (10, tm_dflt 10))) (m := m1 + 1) (o := m1 + 1) (c := c + 1) (s := s + 26) (by rw [tm_up_ne (by omega), tm_up_same]) tm_up_same (by omega) (Nat.le_refl _)
    have st2 : tE mX11_book 43 [.ref 130, .int (nI k), tm_U] [] h2 = tE mX11_book 51 [.ref 130, .int (nI k), tm_U] [.ref (m1 + 1), .ref 130] (mkH (tm_up (tm_up h2 0 (tm_bk (m1 + 1) (c + 1) (s + 26))) (m1 + 1) (.inr (10, tm_dflt 10))) (m1 + 1) (m1 + 1) 13 (obj_10 (m1 + 1)) (F_10 (m1 + 1)) (c + 1 + 13) (s + 26 + 141)) := by
      rw [bX11_book_43, sz2, e3, bX11_book_47, CT, tkc_none]
    have h4_0 : mkH (tm_up (tm_up h2 0 (tm_bk (m1 + 1) (c + 1) (s + 26))) (m1 + 1) (.inr (10, tm_dflt 10))) (m1 + 1) (m1 + 1) 13 (obj_10 (m1 + 1)) (F_10 (m1 + 1)) (c + 1 + 13) (s + 26 + 141) 0 = tm_bk (m1 + 14) (c + 14) (s + 167) := mk_0
    have h4_b : mkH (tm_up (tm_up h2 0 (tm_bk (m1 + 1) (c + 1) (s + 26))) (m1 + 1) (.inr (10, tm_dflt 10))) (m1 + 1) (m1 + 1) 13 (obj_10 (m1 + 1)) (F_10 (m1 + 1)) (c + 1 + 13) (s + 26 + 141) (m1 + 1) = obj_10 (m1 + 1) := mk_o (by omega)
    have h4_i : ∀ i, 1 ≤ i → i ≤ 13 → mkH (tm_up (tm_up h2 0 (tm_bk (m1 + 1) (c + 1) (s + 26))) (m1 + 1) (.inr (10, tm_dflt 10))) (m1 + 1) (m1 + 1) 13 (obj_10 (m1 + 1)) (F_10 (m1 + 1)) (c + 1 + 13) (s + 26 + 141) (m1 + 1 + i) = F_10 (m1 + 1) i := fun i x y => mk_at (Nat.le_refl _) x y
    have h4_x : ∀ k', k' ≠ 0 → k' ≤ m1 → mkH (tm_up (tm_up h2 0 (tm_bk (m1 + 1) (c + 1) (s + 26))) (m1 + 1) (.inr (10, tm_dflt 10))) (m1 + 1) (m1 + 1) 13 (obj_10 (m1 + 1)) (F_10 (m1 + 1)) (c + 1 + 13) (s + 26 + 141) k' = h2 k' := fun k' x y => by
      unfold mkH
      rw [if_neg x, if_neg (by omega), if_neg (by omega), tm_up_ne (by omega), tm_up_ne x]
    generalize mkH (tm_up (tm_up h2 0 (tm_bk (m1 + 1) (c + 1) (s + 26))) (m1 + 1) (.inr (10, tm_dflt 10))) (m1 + 1) (m1 + 1) 13 (obj_10 (m1 + 1)) (F_10 (m1 + 1)) (c + 1 + 13) (s + 26 + 141) = h4 at st2 h4_0 h4_b h4_i h4_x
    have o4 : h4 130 = moO ((th0, tr0, wh0), (zb, zfr), ((0, nI k, 0, so, pl), (mk', nu, 0, wa, wd)), z4, z5) (nI tn) := by rw [h4_x 130 (by decide) (by omega)]; exact h2o
    have st3 : tE mX11_book 51 [.ref 130, .int (nI k), tm_U] [.ref (m1 + 1), .ref 130] h4 = tE mX11_book 59 [.ref 130, .int (nI k), tm_U] [] (tm_up h4 130 (mpO ((th0, tr0, wh0), (zb, .ref (m1 + 1)), ((0, nI k, 0, 0, pl), (mk', nu, 0, wa, wd)), z4, z5) (0, 0, pl, mk', nu, 0, wa, wd) (nI tn))) := by
      simp only [bX11_book_51, bX11_book_54, tk1_some, tk0_some, tkc_some, tkc_none, ↓reduceIte, o4, tm_pf_eq, ps_11_4, ps_11_9, Option.map_some, tm_up_same, tm_up_up]
    have tp4 : h4 131 = aB 700 (sTp S) := by rw [h4_x 131 (by decide) (by omega), h2x 131 (by decide)]; exact tp
    obtain ⟨p1, G5, tk5, f5', w5⟩ := m_goes (h := tm_up h4 130 (mpO ((th0, tr0, wh0), (zb, .ref (m1 + 1)), ((0, nI k, 0, 0, pl), (mk', nu, 0, wa, wd)), z4, z5) (0, 0, pl, mk', nu, 0, wa, wd) (nI tn))) (Z := ((th0, tr0, wh0), (zb, .ref (m1 + 1)), ((0, nI k, 0, 0, pl), (mk', nu, 0, wa, wd)), z4, z5)) (p := (0, 0, pl, mk', nu, 0, wa, wd)) (tu := nI tn) (n := k) B8 (by rw [tm_up_ne (by decide)]; exact tp4) rfl (by omega) tm_up_same (b := 0) (Nat.zero_le _) rfl (by show (0 : Int32) ≠ 5; decide)
    rw [tm_up_up] at G5
    have S6 : FBk (tm_up h4 130 (mpO ((th0, tr0, wh0), (zb, .ref (m1 + 1)), ((0, nI k, 0, 0, pl), (mk', nu, 0, wa, wd)), z4, z5) p1 (nI tn))) (m1 + 1) (true, rSt0 (sTp S) k lw nm0 kn tab) := by
      refine ⟨(0, 0, -1, 0, 0, 0, 0), fun _ => 0, 0, fun _ _ => 0, fun _ => 0, ⟨?_, fun i x y w => ?_, ?_⟩, fun l hl => Nat.zero_le _, by omega, fun _ => ⟨rfl, rfl, ⟨fun i hi => absurd hi (Nat.not_lt_zero _), fun i hi => absurd hi (Nat.not_lt_zero _), fun i hi => absurd hi (Nat.not_lt_zero _), fun i hi => absurd hi (Nat.not_lt_zero _), fun i j hi => absurd hi (Nat.not_lt_zero _)⟩, fun _ => rfl, fun y => absurd rfl y, fun _ => rfl, fun y => absurd rfl y, fun i hi => absurd hi (Nat.not_lt_zero _), ⟨fun _ => [], fun i hi => absurd hi (Nat.not_lt_zero _)⟩⟩⟩
      · rw [tm_up_ne (by omega), h4_b]; rfl
      · rw [tm_up_ne (by omega), h4_i i x y, F10_at x y w]
      · rw [tm_up_ne (by omega), h4_i 12 (by decide) (by decide)]; rfl
    obtain ⟨h7, p2, P7, o7, F7, fz, wz, fb⟩ := m_readB (h := tm_up h4 130 (mpO ((th0, tr0, wh0), (zb, .ref (m1 + 1)), ((0, nI k, 0, 0, pl), (mk', nu, 0, wa, wd)), z4, z5) p1 (nI tn))) (b := m1 + 1) (n := k) (tp := sTp S) (z := rSt0 (sTp S) k lw nm0 kn tab) ⟨B8, by rw [tm_up_ne (by decide)]; exact tp4, rfl, by omega⟩ rfl (by omega) (p := p1) (tu := nI tn) tm_up_same ⟨⟨0, Nat.zero_le _, rfl⟩, tk5, f5'⟩ S6 Gd_0 rfl
    have rp := read_pos (tp := sTp S) (n := k) (z := rSt0 (sTp S) k lw nm0 kn tab) rfl
    have good := read_good (tp := sTp S) (n := k) (lw := lw) (nm := nm0) (kn := kn) (tab := tab)
    rw [← ez] at fz wz fb rp good
    have i5 : tm_isObj (tm_up h4 130 (mpO ((th0, tr0, wh0), (zb, .ref (m1 + 1)), ((0, nI k, 0, 0, pl), (mk', nu, 0, wa, wd)), z4, z5) (0, 0, pl, mk', nu, 0, wa, wd) (nI tn)) 130) 11 = true := by rw [tm_up_same]; exact tm_isO
    have i6 : tm_isObj (tm_up h4 130 (mpO ((th0, tr0, wh0), (zb, .ref (m1 + 1)), ((0, nI k, 0, 0, pl), (mk', nu, 0, wa, wd)), z4, z5) p1 (nI tn)) 130) 11 = true := by rw [tm_up_same]; exact tm_isO
    have g13 : tm_gf (h7 130) 11 13 = some (.int (zF z)) := by rw [o7, gf_11_13, fz]
    have st4 : tE mX11_book 0 [.ref 130, .int (nI k), tm_U] [] h = tE mX11_book 71 [.ref 130, .int (nI k), tm_U] [.int (zF z)] h7 := by
      rw [st1, st2, st3, bX11_book_59, i5, G5, tkc_none, bX11_book_63, i6, P7, tkc_none, bX11_book_67, g13, tk1_some]
    have h7x : ∀ k', k' ≠ 0 → k' ≠ 130 → k' ≤ m1 → h7 k' = h1 k' := fun k' x y w => by rw [F7 k' y (by omega), tm_up_ne y, h4_x k' x w, h2x k' y]
    have h70 : h7 0 = tm_bk (m1 + 14) (c + 14) (s + 167) := by rw [F7 0 (by decide) (by omega), tm_up_ne (by decide)]; exact h4_0
    have o7' : h7 130 = moO ((th0, tr0, wh0), (zb, .ref (m1 + 1)), ((0, nI k, p2.1, p2.2.1, p2.2.2.1), (p2.2.2.2.1, p2.2.2.2.2.1, p2.2.2.2.2.2.1, p2.2.2.2.2.2.2.1, p2.2.2.2.2.2.2.2)), z4, z5) (nI tn) := o7
    rw [cX11_book_, st4, bX11_book_71]
    rcases alt with ⟨zf, rfl, rfl, lM⟩ | ⟨zf, rfl, rfl⟩
    · rw [zf, if_pos (by decide)]
      obtain ⟨Gg, g0, g1, g2⟩ := good zf
      have ok := good_ok Gg g0
      obtain ⟨F, c', nn, G, nm, Sh, bd, nb, BR0⟩ := fb zf
      obtain ⟨r1, r2, r3, r4, r5, r6, r7, r8, r9⟩ : BR z F c' nn G nm := BR0 rfl
      subst r1 r2
      have MB7 : MBk h7 (m1 + 1) (zC z) (zB z) (zN z) G nm := by
        refine ⟨?_, Sh.2.1, Sh.2.2, lM, r3⟩
        rw [Sh.1]
        obtain ⟨a1, a2⟩ := r5 (by omega)
        obtain ⟨a3, a4, a5, a6, a7⟩ := r7 (by omega)
        rw [a1, a2, a3, a4, a5, a6, a7]
      -- the book is taken
      have st5 : tE mX11_book 89 [.ref 130, .int (nI k), tm_U] [] h7 = tE mX11_book 99 [.ref 130, .int (nI k), .int 0] [] (tm_up h7 130 (moO ((th0, tr0, wh0), (.ref (m1 + 1), .ref (m1 + 1)), ((0, nI k, p2.1, p2.2.1, p2.2.2.1), (p2.2.2.2.1, p2.2.2.2.2.1, p2.2.2.2.2.2.1, p2.2.2.2.2.2.2.1, p2.2.2.2.2.2.2.2)), z4, z5) (nI tn))) := by
        simp only [bX11_book_89, bX11_book_94, bX11_book_97, tk1_some, tk0_some, tkc_some, tkc_none, ↓reduceIte, o7', gf_11_4, tm_pf_eq, ps_11_3, Option.map_some]
      have HA7 : MA (tm_up h7 130 (moO ((th0, tr0, wh0), (.ref (m1 + 1), .ref (m1 + 1)), ((0, nI k, p2.1, p2.2.1, p2.2.2.1), (p2.2.2.2.1, p2.2.2.2.2.1, p2.2.2.2.2.2.1, p2.2.2.2.2.2.2.1, p2.2.2.2.2.2.2.2)), z4, z5) (nI tn))) ((th0, tr0, wh0), (.ref (m1 + 1), .ref (m1 + 1)), ((0, nI k, p2.1, p2.2.1, p2.2.2.1), (p2.2.2.2.1, p2.2.2.2.2.1, p2.2.2.2.2.2.1, p2.2.2.2.2.2.2.1, p2.2.2.2.2.2.2.2)), z4, z5) tn hm0 km (fillF cl 0 0) tu th om := by
        rw [fillF_0]
        exact ⟨tm_up_same, by rw [tm_up_ne (by decide), h7x 132 (by decide) (by decide) (by omega)]; exact HA.2.1, by rw [tm_up_ne (by decide), h7x 133 (by decide) (by decide) (by omega)]; exact HA.2.2.1, by rw [tm_up_ne (by decide), h7x 134 (by decide) (by decide) (by omega)]; exact HA.2.2.2.1, by rw [tm_up_ne (by decide), h7x 135 (by decide) (by decide) (by omega)]; exact HA.2.2.2.2.1, by rw [tm_up_ne (by decide), h7x 136 (by decide) (by decide) (by omega)]; exact HA.2.2.2.2.2.1, by rw [tm_up_ne (by decide), h7x 137 (by decide) (by decide) (by omega)]; exact HA.2.2.2.2.2.2⟩
      obtain ⟨h9, st6, HA9, F9⟩ := mbc_loop (x1 := .int (nI k)) 40 0 _ cl HA7 (by omega)
      rw [nI_0] at st6
      have h9x : ∀ k', k' ≠ 130 → k' ≠ 134 → h9 k' = h7 k' := fun k' x y => by rw [F9 k' y, tm_up_ne x]
      have l9 : h9 141 = aI 9 f4 := by rw [h9x 141 (by decide) (by decide), h7x 141 (by decide) (by decide) (by omega)]; exact l1
      have st7 := mbl_loop (h := h9) (x1 := .int (nI k)) (by rw [HA9.1, gf_11_31]) 9 0 f4 (by omega)
      rw [fillF_0, ← l9, tm_up_id, nI_0] at st7
      have o10 : tm_up h9 141 (aI 9 (fillF f4 0 9)) 130 = moO ((th0, tr0, wh0), (.ref (m1 + 1), .ref (m1 + 1)), ((0, nI k, p2.1, p2.2.1, p2.2.2.1), (p2.2.2.2.1, p2.2.2.2.2.1, p2.2.2.2.2.2.1, p2.2.2.2.2.2.2.1, p2.2.2.2.2.2.2.2)), z4, z5) (nI tn) := by rw [tm_up_ne (by decide)]; exact HA9.1
      have st8 : tE mX11_book 139 [.ref 130, .int (nI k), .int 9] [] (tm_up h9 141 (aI 9 (fillF f4 0 9))) = tE mX11_book 144 [.ref 130, .int (nI k), .int 9] [] (tm_up (tm_up h9 141 (aI 9 (fillF f4 0 9))) 130 (moO ((th0, tr0, wh0), (.ref (m1 + 1), .ref (m1 + 1)), ((0, nI k, p2.1, p2.2.1, p2.2.2.1), (p2.2.2.2.1, p2.2.2.2.2.1, p2.2.2.2.2.2.1, p2.2.2.2.2.2.2.1, p2.2.2.2.2.2.2.2)), z4, 0) (nI tn))) := by
        simp only [bX11_book_139, tk1_some, tk0_some, tkc_some, tkc_none, ↓reduceIte, o10, tm_pf_eq, ps_11_33, Option.map_some]
      have HA10 : MA (tm_up h9 141 (aI 9 (fillF f4 0 9))) ((th0, tr0, wh0), (.ref (m1 + 1), .ref (m1 + 1)), ((0, nI k, p2.1, p2.2.1, p2.2.2.1), (p2.2.2.2.1, p2.2.2.2.2.1, p2.2.2.2.2.2.1, p2.2.2.2.2.2.2.1, p2.2.2.2.2.2.2.2)), z4, z5) tn hm0 km (fillF cl 0 40) tu th om := MA_c (fun k' x => tm_up_ne (by omega)) HA9
      have HA11 := MA_o HA10 ((th0, tr0, wh0), (.ref (m1 + 1), .ref (m1 + 1)), ((0, nI k, p2.1, p2.2.1, p2.2.2.1), (p2.2.2.2.1, p2.2.2.2.2.1, p2.2.2.2.2.2.1, p2.2.2.2.2.2.2.1, p2.2.2.2.2.2.2.2)), z4, 0) tn
      have h11x : ∀ k', k' ≠ 130 → k' ≠ 134 → k' ≠ 141 → tm_up (tm_up h9 141 (aI 9 (fillF f4 0 9))) 130 (moO ((th0, tr0, wh0), (.ref (m1 + 1), .ref (m1 + 1)), ((0, nI k, p2.1, p2.2.1, p2.2.2.1), (p2.2.2.2.1, p2.2.2.2.2.1, p2.2.2.2.2.2.1, p2.2.2.2.2.2.2.1, p2.2.2.2.2.2.2.2)), z4, 0) (nI tn)) k' = h7 k' := fun k' x y w => by rw [tm_up_ne x, tm_up_ne w, h9x k' x y]
      have h11l : tm_up (tm_up h9 141 (aI 9 (fillF f4 0 9))) 130 (moO ((th0, tr0, wh0), (.ref (m1 + 1), .ref (m1 + 1)), ((0, nI k, p2.1, p2.2.1, p2.2.2.1), (p2.2.2.2.1, p2.2.2.2.2.1, p2.2.2.2.2.2.1, p2.2.2.2.2.2.2.1, p2.2.2.2.2.2.2.2)), z4, 0) (nI tn)) 141 = aI 9 (fillF f4 0 9) := by rw [tm_up_ne (by decide), tm_up_same]
      generalize tm_up (tm_up h9 141 (aI 9 (fillF f4 0 9))) 130 (moO ((th0, tr0, wh0), (.ref (m1 + 1), .ref (m1 + 1)), ((0, nI k, p2.1, p2.2.1, p2.2.2.1), (p2.2.2.2.1, p2.2.2.2.2.1, p2.2.2.2.2.2.1, p2.2.2.2.2.2.2.1, p2.2.2.2.2.2.2.2)), z4, 0) (nI tn)) = h11 at st8 HA11 h11x h11l
      obtain ⟨h12, Z12, P12, R12, Q12, F12⟩ := MR_hot (tab := zB z) (cuts := iN (zB z 0 0)) (w := iN (zB z 0 1)) ok.2.1 ok.2.2.2.1 HA11 (A := fitA (zB z) (iN (zB z 0 0)) (iN (zB z 0 1)) (sR S).1) (fun i j x y => by
        unfold fitA
        rw [heatS_k.2.2.2.1, upA_ne _ _ (by decide), upA_same, fillF_in ok.2.1 ok.2.2.2.1 x y, fillF_in ok.2.1 ok.2.2.2.1 x y]) (v := 0)
      have h12x : ∀ k', (k' < 130 ∨ k' = 131 ∨ (138 ≤ k' ∧ k' ≠ 141)) → h12 k' = h7 k' := fun k' x => by rw [F12 k' (by omega) (by omega), h11x k' (by omega) (by omega) (by omega)]
      have XI : MInv h12 ((sTp S, 0), (0, sT S, sW S), (true, zC z, zB z), (0, hot0 (zB z) (iN (zB z 0 0)) (iN (zB z 0 1)) 0 (fitA (zB z) (iN (zB z 0 0)) (iN (zB z 0 1)) (sR S).1)), (fillF (sD S) 0 8, 0), (sMk S, sHw S, 0)) := by
        have R12' := R12
        obtain ⟨_, hm', km', cl', tu', th', om', HA12, _⟩ := R12
        obtain ⟨y1, y2, y3, y4⟩ := Q12
        have h7f : h7 131 = aB 700 (sTp S) := by rw [h7x 131 (by decide) (by decide) (by omega)]; exact tp
        refine ⟨Z12, m1 + 14, c + 14, s + 167, by rw [h12x 0 (by omega)]; exact h70, by omega, ⟨by rw [y1]; exact T.1, by rw [y3]; rfl, by rw [y3]; show p2.2.2.2.2.2.1 = 0; rw [fz, zf], by rw [y4]; rfl⟩, ⟨_, hm', km', cl', tu', th', om', HA12⟩, by rw [h12x 131 (by omega)]; exact h7f, ⟨fun _ => ⟨m1 + 1, zN z, G, nm, by rw [y2], by omega, by omega, MBk_c (fun k' x y => h12x k' (by omega)) MB7, R12'⟩, fun y => by cases y⟩, ⟨f1, by rw [h12x 138 (by omega), h7x 138 (by decide) (by decide) (by omega)]; exact t1⟩, ⟨f2, by rw [h12x 139 (by omega), h7x 139 (by decide) (by decide) (by omega)]; exact t2⟩, ⟨f3, by rw [h12x 140 (by omega), h7x 140 (by decide) (by decide) (by omega)]; exact t3⟩, ⟨fillF f4 0 9, by rw [F12 141 (by decide) (by decide)]; exact h11l, fun j hj => ?_, ?_⟩, ⟨f5, by rw [h12x 142 (by omega), h7x 142 (by decide) (by decide) (by omega)]; exact t4⟩, ⟨f6, by rw [h12x 143 (by omega), h7x 143 (by decide) (by decide) (by omega)]; exact b1, fun j hj => absurd hj (Nat.not_lt_zero _)⟩⟩
        · show fillF f4 0 9 j = fillF (sD S) 0 8 j
          unfold fillF; rw [if_pos (by omega), if_pos hj]
        · unfold fillF; rw [if_pos (by decide)]
      obtain ⟨h13, X13, F13, I13, _, _, _, _, D13⟩ := m_note XI (t := 0) (by decide)
      have D13 := fun v => (D13 rfl v).1
      have o12 : tm_gf (h12 130) 11 3 = some (.ref (m1 + 1)) := by
        obtain ⟨_, hm', km', cl', tu', th', om', HA12, _⟩ := R12
        rw [HA12.1, gf_11_3, Q12.2.1]
      have g7 : tm_gf (h12 (m1 + 1)) 10 7 = some (.int (nI (zC z 2))) := by rw [h12x (m1 + 1) (by omega), MB7.1, gf_10_7]
      have i11 : tm_isObj (h11 130) 11 = true := by rw [HA11.1]; exact tm_isO
      have i12 : tm_isObj (h12 130) 11 = true := I13
      have st9 : tE mX11_book 89 [.ref 130, .int (nI k), tm_U] [] h7 = some (h13, some (.int (nI (zC z 2)))) := by
        rw [st5, st6, st7, st8, bX11_book_144, i11, P12, tkc_none, bX11_book_149, o12, tk1_some, bX11_book_154, g7, tk1_some, bX11_book_157, i12, D13, tkc_some, bX11_book_160]
      have h130 : h13 0 = tm_bk (m1 + 14) (c + 14) (s + 167) := by rw [F13 0 (by decide), h12x 0 (by omega)]; exact h70
      refine ⟨tm_up h13 0 (tm_bk (m1 + 14) (c + 14) (s + 167)), m1 + 14, by rw [st9, book_fin h0 h130 (Nat.le_refl _) (Nat.le_refl _)], MI_0 X13 h130, tm_up_same, Nat.le_refl _, fun k' x y => ?_⟩
      rw [tm_up_ne x, F13 k' y, h12x k' (by omega), h7x k' x (by omega) (by omega), F1 k' y]
    · have zp : ¬ zF z ≤ 0 := Int32.not_le.mpr (rp.resolve_left zf)
      rw [if_neg zp]
      have g14 : tm_gf (tm_up h7 130 (moO ((th0, 4, wh0), (zb, .ref (m1 + 1)), ((0, nI k, p2.1, p2.2.1, p2.2.2.1), (p2.2.2.2.1, p2.2.2.2.2.1, p2.2.2.2.2.2.1, p2.2.2.2.2.2.2.1, p2.2.2.2.2.2.2.2)), z4, z5) (nI tn)) 130) 11 14 = some (.int p2.2.2.2.2.2.2.1) := by rw [tm_up_same, gf_11_14]
      have st5 : tE mX11_book 74 [.ref 130, .int (nI k), tm_U] [] h7 = some (tm_up h7 130 (moO ((th0, 4, p2.2.2.2.2.2.2.1), (zb, .ref (m1 + 1)), ((0, nI k, p2.1, p2.2.1, p2.2.2.1), (p2.2.2.2.1, p2.2.2.2.2.1, p2.2.2.2.2.2.1, p2.2.2.2.2.2.2.1, p2.2.2.2.2.2.2.2)), z4, z5) (nI tn)), some (.int (-1))) := by
        simp only [bX11_book_74, bX11_book_79, bX11_book_84, bX11_book_87, tk1_some, tk0_some, tkc_some, tkc_none, ↓reduceIte, o7', tm_pf_eq, ps_11_1, ps_11_2, Option.map_some, tm_up_same, tm_up_up, gf_11_14]
      have EE : ∀ k', k' ≠ 0 → k' ≤ m1 → tm_up h7 130 (h1 130) k' = h1 k' := fun k' x y => by
        by_cases e : k' = 130
        · subst e; exact tm_up_same
        · rw [tm_up_ne e, h7x k' x e y]
      have XI := MI_o (S := S) (h := tm_up h7 130 (h1 130)) (Z := ((th0, tr0, wh0), (zb, zfr), ((ta, sz, at', so, pl), (mk', nu, fl, wa, wd)), z4, z5)) (m := m1 + 14) (c := c + 14) (s := s + 167) (by rw [tm_up_ne (by decide)]; exact h70) (by omega) ⟨tn, hm0, km, cl, tu, th, om, by rw [EE 130 (by decide) (by omega)]; exact HA.1, by rw [EE 132 (by decide) (by omega)]; exact HA.2.1, by rw [EE 133 (by decide) (by omega)]; exact HA.2.2.1, by rw [EE 134 (by decide) (by omega)]; exact HA.2.2.2.1, by rw [EE 135 (by decide) (by omega)]; exact HA.2.2.2.2.1, by rw [EE 136 (by decide) (by omega)]; exact HA.2.2.2.2.2.1, by rw [EE 137 (by decide) (by omega)]; exact HA.2.2.2.2.2.2⟩ (by rw [EE 131 (by decide) (by omega)]; exact tp) (MBB_g hm (by omega) EE B) ⟨f1, by rw [EE 138 (by decide) (by omega)]; exact t1⟩ ⟨f2, by rw [EE 139 (by decide) (by omega)]; exact t2⟩ ⟨f3, by rw [EE 140 (by decide) (by omega)]; exact t3⟩ ⟨f4, by rw [EE 141 (by decide) (by omega)]; exact l1, l2⟩ ⟨f5, by rw [EE 142 (by decide) (by omega)]; exact t4⟩ ⟨f6, by rw [EE 143 (by decide) (by omega)]; exact b1, b2⟩ (Z' := ((th0, 4, p2.2.2.2.2.2.2.1), (zb, .ref (m1 + 1)), ((0, nI k, p2.1, p2.2.1, p2.2.2.1), (p2.2.2.2.1, p2.2.2.2.2.1, p2.2.2.2.2.2.1, p2.2.2.2.2.2.2.1, p2.2.2.2.2.2.2.2)), z4, z5)) (S' := sFaulty S z) rfl rfl ⟨by show ((4 : Int32), p2.2.2.2.2.2.2.1) = (4, sWhere (sFaulty S z)); rw [wz zf]; rfl, rfl, fz, T.2.2.2⟩ rfl rfl (tn := tn) (by rw [tm_up_same, o1, gf_11_24])
      rw [tm_up_up] at XI
      refine ⟨_, m1 + 14, by rw [st5, book_fin h0 (m' := m1 + 14) (c' := c + 14) (s' := s + 167) (by rw [tm_up_ne (by decide)]; exact h70) (Nat.le_refl _) (Nat.le_refl _)], MI_0 XI (by rw [tm_up_ne (by decide)]; exact h70), tm_up_same, Nat.le_refl _, fun k' x y => ?_⟩
      rw [tm_up_ne x, tm_up_ne (by omega), h7x k' x (by omega) (by omega), F1 k' y]
end M45
