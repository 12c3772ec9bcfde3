/-! FAULTS are told where a line isn't read; THE CLASS'S CALLS: book, feed -/
def FF (z : RSt) (r : Bool × RSt) : Prop := (r.1 = true → zF r.2 = zF z) ∧ (r.1 = false → zF r.2 ≠ 0)
theorem FF_and {z : RSt} {p : Bool × RSt} {g : RSt → Bool × RSt} (a : FF z p) (b : ∀ y, p = (true, y) → FF y (g y)) : FF z (rAnd p g) := by
  obtain ⟨q, y⟩ := p
  cases q with
  | true =>
    have c := b y rfl
    exact ⟨fun h => (c.1 h).trans (a.1 rfl), c.2⟩
  | false => exact a
section FFs
variable {tp : Nat → Int32} {n : Nat} {z : RSt}
theorem FF_put (l c : Nat) (v : Int32) (z : RSt) : zF (rPut l c v z) = zF z := by unfold rPut; split <;> rfl
theorem FF_close (l : Nat) (z : RSt) : zF (rClose l z) = zF z := by unfold rClose; split <;> rfl
theorem FF_whole {lo hi : Int32} : FF z (rWhole tp lo hi z) := by
  unfold rWhole
  split
  · split
    · exact ⟨fun _ => rfl, fun y => by cases y⟩
    · exact ⟨fun y => (by cases y), fun _ => by show (4 : Int32) ≠ 0; decide⟩
  · exact ⟨fun y => (by cases y), fun _ => by show (1 : Int32) ≠ 0; decide⟩
theorem FF_wk {lo hi : Int32} {l c : Nat} : FF z (rWK tp lo hi l c z) := by
  have a := FF_whole (tp := tp) (z := z) (lo := lo) (hi := hi)
  unfold rWK
  split
  · rename_i d; exact ⟨fun _ => (FF_put _ _ _ _).trans (a.1 d), fun y => by cases y⟩
  · rename_i d; exact ⟨fun y => (by cases y), fun _ => a.2 (by rw [Bool.not_eq_true] at d; exact d)⟩
theorem FF_tells {k l c : Nat} {lo hi : Int32} : FF z (rTells tp n k lo hi l c z) := by
  unfold rTells
  split
  · exact FF_wk (z := rStep tp n (rStep tp n z))
  · exact ⟨fun y => (by cases y), fun _ => by show (1 : Int32) ≠ 0; decide⟩
theorem FF_tellsW {l c : Nat} {lo hi : Int32} : FF z (rTellsW tp n lo hi l c z) := FF_wk (z := rStep tp n z)
theorem FF_word {k : Nat} : FF z (rWord tp n k z) := by
  unfold rWord
  split
  · exact ⟨fun _ => rfl, fun y => by cases y⟩
  · exact ⟨fun y => (by cases y), fun _ => by show (1 : Int32) ≠ 0; decide⟩
theorem FF_name {kd : Int32} : FF z (rName tp n kd z) := by
  unfold rName
  split
  · split
    · split
      · exact ⟨fun _ => rfl, fun y => by cases y⟩
      · exact ⟨fun y => (by cases y), fun _ => by show (3 : Int32) ≠ 0; decide⟩
    · exact ⟨fun y => (by cases y), fun _ => by show (3 : Int32) ≠ 0; decide⟩
  · exact ⟨fun y => (by cases y), fun _ => by show (1 : Int32) ≠ 0; decide⟩
theorem FF_to {l : Nat} : FF z (rTo tp n l z) := by
  unfold rTo
  split
  · split
    · exact ⟨fun _ => FF_put _ _ _ _, fun y => by cases y⟩
    · exact ⟨fun y => (by cases y), fun _ => by show (2 : Int32) ≠ 0; decide⟩
  · exact ⟨fun y => (by cases y), fun _ => by show (1 : Int32) ≠ 0; decide⟩
theorem FF_ends {l : Nat} : FF z (true, rEnds tp n l z) := ⟨fun _ => FF_close l z, fun y => by cases y⟩
theorem FF_signs : ∀ r s z, FF z (rSigns tp n r s z)
  | 0, s, z => ⟨fun _ => (FF_close _ _).trans (FF_put _ _ _ _), fun y => by cases y⟩
  | r + 1, s, z => by
    unfold rSigns
    refine FF_and (FF_whole (z := rStep tp n z)) fun y _ => ?_
    split
    · exact ⟨fun y => (by cases y), fun _ => by show (3 : Int32) ≠ 0; decide⟩
    · split
      · exact FF_signs r _ (rStep tp n y)
      · exact ⟨fun _ => (FF_close _ _).trans (FF_put _ _ _ _), fun y => by cases y⟩
theorem FF_ones : ∀ r k z, zF (rOnes r k z) = zF z
  | 0, _, _ => rfl
  | r + 1, k, z => by unfold rOnes; rw [FF_ones r (k + 1), FF_put]
theorem FF_smG : ∀ r k z, FF z (rSmG tp n r k z)
  | 0, k, z => ⟨fun _ => FF_close _ _, fun y => by cases y⟩
  | r + 1, k, z => by
    unfold rSmG
    refine FF_and (FF_whole (z := rStep tp n z)) fun y _ => ?_
    split
    · exact ⟨fun y => (by cases y), fun _ => by show (5 : Int32) ≠ 0; decide⟩
    · have e : zF (rStep tp n (rPut 6 k (zL y) y)) = zF y := FF_put _ _ _ _
      split
      · have q := FF_smG r (k + 1) (rStep tp n (rPut 6 k (zL y) y))
        exact ⟨fun h => (q.1 h).trans e, q.2⟩
      · exact ⟨fun _ => (FF_close _ _).trans e, fun y => by cases y⟩
theorem FF_line : FF z (rLine tp n z) := by
  have R : ∀ (l : Nat) (k : Int32) (g : RSt → Bool × RSt), k ≠ 0 → (∀ y, FF y (g y)) → FF z (rAnd (rRoom l k z) g) := fun l k g hk a => by
    refine FF_and ?_ fun y _ => a y
    unfold rRoom
    split
    · exact ⟨fun y => (by cases y), fun _ => hk⟩
    · exact ⟨fun _ => rfl, fun y => by cases y⟩
  unfold rLine
  split
  · exact R 0 3 _ (by decide) fun y => FF_and FF_tells fun y _ => FF_and FF_tells fun y _ => FF_ends
  · split
    · exact R 1 3 _ (by decide) fun y => FF_and FF_tellsW fun y _ => FF_and FF_tells fun y _ => FF_and FF_tells fun y _ => FF_and FF_tells fun y _ => FF_and FF_tells fun y _ => FF_ends
    · split
      · exact R 2 5 _ (by decide) fun y => FF_and FF_name fun y _ => FF_and FF_tells fun y _ => FF_and FF_tells fun y _ => FF_and FF_tells fun y _ => FF_ends
      · split
        · exact R 3 5 _ (by decide) fun y => FF_and FF_to fun y _ => FF_and FF_tells fun y _ => FF_and FF_tells fun y _ => FF_ends
        · split
          · exact R 4 5 _ (by decide) fun y => FF_and FF_name fun y _ => FF_and FF_tellsW fun y _ => FF_and FF_tells fun y _ => FF_ends
          · split
            · exact R 5 5 _ (by decide) fun y => FF_and FF_name fun y _ => FF_and FF_tells fun y _ => FF_and FF_word fun y _ => FF_signs _ _ _
            · split
              · exact R 6 5 _ (by decide) fun y => FF_and FF_name fun y _ => by
                  have q := FF_smG (tp := tp) (n := n) 9 0 (rOnes 8 0 y)
                  exact ⟨fun h => (q.1 h).trans (FF_ones _ _ _), q.2⟩
              · exact ⟨fun y => (by cases y), fun _ => by show (1 : Int32) ≠ 0; decide⟩
theorem FF_loop : ∀ r (q : Bool × RSt), FF z q → FF z (rLoop tp n r q)
  | 0, q, a => a
  | r + 1, q, a => by
    unfold rLoop
    split
    · rename_i c
      split
      · exact a
      · refine FF_loop r _ ?_
        have e := a.1 c
        have b : FF q.2 (rAnd (rParts tp n q.2) (rLine tp n)) := by
          refine FF_and ?_ fun y _ => FF_line
          unfold rParts
          split
          · exact ⟨fun _ => rfl, fun y => by cases y⟩
          · exact ⟨fun y => (by cases y), fun _ => by show (1 : Int32) ≠ 0; decide⟩
        exact ⟨fun h => (b.1 h).trans e, b.2⟩
    · exact a
theorem read_iff (hz : zF z = 0) : (zF (rRead tp n z) = 0 ↔ ((rLoop tp n 700 (rLine tp n z)).1 = true ∧ rLacks (rLoop tp n 700 (rLine tp n z)).2 = false)) := by
  have a := FF_loop (tp := tp) (n := n) 700 _ (FF_line (tp := tp) (n := n) (z := z))
  unfold rRead rFin
  generalize rLoop tp n 700 (rLine tp n z) = q at a
  obtain ⟨b, y⟩ := q
  cases b with
  | false =>
    constructor
    · intro h; exact absurd h (a.2 rfl)
    · intro h; cases h.1
  | true =>
    cases l : rLacks y with
    | true =>
      constructor
      · intro h
        replace h : zF (rF y 6) = 0 := by
          simp only [l, if_true] at h
          exact h
        exact absurd h (by show ¬ (6 : Int32) = 0; decide)
      · intro h; exact absurd h.2 (by decide)
    | false =>
      constructor
      · intro _; exact ⟨rfl, rfl⟩
      · intro _
        simp only [l]
        exact (a.1 rfl).trans hz
theorem read_good {lw : Int32} {nm : Nat → Int64} {kn : Nat → Int32} {tab : Nat → Nat → Int32} (h : zF (rRead tp n (rSt0 tp n lw nm kn tab)) = 0) : Gd (rRead tp n (rSt0 tp n lw nm kn tab)) ∧ 1 ≤ zC (rRead tp n (rSt0 tp n lw nm kn tab)) 0 ∧ 1 ≤ zC (rRead tp n (rSt0 tp n lw nm kn tab)) 1 ∧ 2 ≤ zC (rRead tp n (rSt0 tp n lw nm kn tab)) 2 := by
  obtain ⟨a, b⟩ := (read_iff rfl).mp h
  have g := Gd_loop 700 (rLine tp n (rSt0 tp n lw nm kn tab)) (fun y => Gd_line Gd_0 y) a
  have e : rRead tp n (rSt0 tp n lw nm kn tab) = (rLoop tp n 700 (rLine tp n (rSt0 tp n lw nm kn tab))).2 := by
    unfold rRead rFin
    rw [if_pos a, b]; rfl
  rw [e]
  refine ⟨g, ?_⟩
  unfold rLacks at b
  split at b
  · split at b
    · split at b
      · exact ⟨by assumption, by assumption, by assumption⟩
      · cases b
    · cases b
  · cases b
theorem good_ok {z : RSt} (G : Gd z) (h0 : 1 ≤ zC z 0) : BkOk (zC z) (zB z) := by
  obtain ⟨a, b⟩ := G.1 (by omega)
  obtain ⟨e1, l1, u1⟩ := inB_nat (a := 1) (b := 8) (by decide) (by decide) a
  obtain ⟨e2, l2, u2⟩ := inB_nat (a := 2) (b := 5) (by decide) (by decide) b
  exact ⟨l1, u1, l2, u2, e1, e2⟩
theorem good_F {z : RSt} (G : Gd z) (h0 : 1 ≤ zC z 0) (h1 : 1 ≤ zC z 1) (h2 : 2 ≤ zC z 2) : BkF (loF (zB z 3) (zC z 3)) (hiF (zB z 3) (zC z 3)) (zC z) (zB z) := by
  refine ⟨by omega, by omega, by omega, fun t ht => ?_, fun t ht => loF_le _ _ t ht, fun t ht => hiF_ge _ _ t ht⟩
  obtain ⟨kd, a, b, c⟩ := G.2.2.1 t ht
  exact ⟨kd, b, c⟩
end FFs
/-- how a text is read, whatever lay there before -/
def BkRun (tp : Nat → Int32) (n : Nat) (z : RSt) : Prop := ∃ lw nm kn tab, z = rRead tp n (rSt0 tp n lw nm kn tab)
def sFaulty (S : SS) (z : RSt) : SS := ((sTp S, 0), (zF z, 4, (zT z).1), S.2.2)
def sBook (S : SS) (z : RSt) : SS :=
  ((sTp S, 0), (0, 0, sW S), (true, zC z, zB z), (0, (heatS (zB z) (iN (zB z 0 0)) (iN (zB z 0 1)) (sqS (iN (zB z 0 1)) (iN (zB z 0 1))) 0 (fitA (zB z) (iN (zB z 0 0)) (iN (zB z 0 1)) (sR S).1), 0, -1, 0, 0, 0)), (fillF (sD S) 0 8, 0), (sMk S, sHw S, 0))
def BookRel (S : SS) (n : Int32) (S' : SS) (r : Int32) : Prop :=
  if inB n 0 (nI (sN S)) = true then (∃ z, BkRun (sTp S) (iN n) z ∧ ((zF z = 0 ∧ S' = sBook S z ∧ r = nI (zC z 2) ∧ ∀ l, l < 7 → zC z l ≤ lnM l) ∨ (zF z ≠ 0 ∧ S' = sFaulty S z ∧ r = -1))) else (S' = sTr S 2 ∧ r = -1)
section XK
variable {h : tm_H} {S : SS}
theorem x_book (X : XInv h S) (P : PX S) {n : Int32} : ∃ h' S' r, tC mX9_book [.ref 1, .int n] h = some (h', some (.int r)) ∧ XInv h' S' ∧ FrX h h' ∧ BookRel S n S' r := by
  unfold BookRel
  cases iv : inB n 0 (nI (sN S)) with
  | false =>
    obtain ⟨h', p, q, r⟩ := x_refuse X (t := 2) (by decide)
    exact ⟨h', sTr S 2, -1, by simp only [cX9_book_, bX9_book_0, bX9_book_6, bX9_book_9, bX9_book_12, bX9_book_17, bX9_book_18, bX9_book_23, bX9_book_28, bX9_book_32, bX9_book_36, bX9_book_40, bX9_book_43, bX9_book_47, bX9_book_50, bX9_book_55, bX9_book_56, bX9_book_60, bX9_book_66, bX9_book_69, bX9_book_74, bX9_book_79, bX9_book_83, bX9_book_86, bX9_book_90, bX9_book_94, bX9_book_97, bX9_book_101, bX9_book_105, bX9_book_108, bX9_book_112, bX9_book_115, bX9_book_119, bX9_book_122, bX9_book_127, bX9_book_130, bX9_book_133, bX9_book_136, tk1_some, tk0_some, tkc_some, tkc_none, ↓reduceIte, x_g9 X, x_is X, within_spec, iv, p, bI_t, bI_f, show ((1 : Int32) = 0) = False from by decide, not_false_eq_true, not_true, if_true, if_false, Bool.false_eq_true, tm_rb0, tm_rb1], q, r, by rw [if_neg (by decide)]; exact ⟨rfl, rfl⟩⟩
  | true =>
    obtain ⟨en, _, hn⟩ := inB_nat (a := 0) (b := sN S) (by have := P.1; omega) (by omega) iv
    have hn7 := P.1
    obtain ⟨told, spare, ts, O, T2, ⟨b0, nc, lw, f, a0, n0, s, e, so, nm, kn, ra, rb, rc, rd, rg⟩, ⟨⟨lo, hi, k1, k2⟩, lo', hi', c', t', k3⟩, Ba, Tr, Bi, Bl⟩ := id X
    have ne1 : spare ≠ 1 := by omega
    have s10 : 2 < spare ∧ spare < 26 := by omega
    -- the tape is emptied
    obtain ⟨hb, P1, R1, F1⟩ := ri_spec (h := tm_up h 1 (xO told spare (sBo S) 0 (sF S) (sT S))) (bk := spare) (n := iN n) (tp := sTp S) (by rw [tm_up_ne (by decide)]; exact ra) (by rw [tm_up_ne (by decide)]; exact rb) (by rw [tm_up_ne (by decide)]; exact T2) (by rw [tm_up_ne (by decide)]; exact rc) (by rw [tm_up_ne (by decide)]; exact rd) (BkAt_up k3 (by omega)) (by omega) s10
    rw [← en] at P1
    have run : BkRun (sTp S) (iN n) (rRead (sTp S) (iN n) (rSt0 (sTp S) (iN n) lw nm kn t')) := ⟨lw, nm, kn, t', rfl⟩
    have good := read_good (tp := sTp S) (n := iN n) (lw := lw) (nm := nm) (kn := kn) (tab := t')
    generalize rRead (sTp S) (iN n) (rSt0 (sTp S) (iN n) lw nm kn t') = z at P1 R1 run good
    have O1 : hb 1 = xO told spare (sBo S) 0 (sF S) (sT S) := by rw [F1 1 (by decide) (by decide) (by decide) (by decide) (by omega), tm_up_same]
    have frx : ∀ k, (k = 0 ∨ 69 < k) → hb k = h k := fun k hk => by rw [F1 k (by omega) (by omega) (by omega) (by omega) (by omega), tm_up_ne (by omega)]
    have fr : ∀ k, (2 ≤ k ∧ (k < 40 ∨ 44 < k)) → (k < spare ∨ spare + 14 < k) → hb k = h k := fun k h1 h2 => by rw [F1 k (by omega) (by omega) (by omega) (by omega) h2, tm_up_ne (by omega)]
    have st : tC mX9_book [.ref 1, .int n] h = tE mX9_book 43 [.ref 1, .int n, tm_U] [] (tm_up hb 1 (xO told spare (sBo S) 0 (zF z) (sT S))) := by
      have i3 : tm_isObj (tm_up h 1 (xO told spare (sBo S) 0 (sF S) (sT S)) 40) 6 = true := by rw [tm_up_ne (by decide), ra]; exact tm_isO
      simp only [xO, nI_0] at P1 i3 O1
      simp only [cX9_book_, bX9_book_0, bX9_book_6, bX9_book_9, bX9_book_18, bX9_book_23, bX9_book_28, bX9_book_32, bX9_book_36, bX9_book_40, tk1_some, tk0_some, tkc_some, tkc_none, ↓reduceIte, O, gf_9_9, gf_9_5, gf_9_4, gf_9_0, within_spec, iv, tm_pf_eq, ps_9_9, ps_9_10, Option.map_some, tm_up_same, i3, P1, O1, nI_0, xO, bI_t, bI_f, show ((1 : Int32) = 0) = False from by decide, not_false_eq_true, not_true, if_true, if_false, Bool.false_eq_true, tm_rb0, tm_rb1]
    rw [st]
    by_cases zf : zF z = 0
    · obtain ⟨G, g0, g1, g2⟩ := good zf
      obtain ⟨lo1, hi1, B1⟩ := R1.2.2.2.2.2.1
      have ok := good_ok G g0
      -- the books change places
      have B2 : BkAt (tm_up hb 1 (xO spare told true 0 0 (sT S))) spare lo1 hi1 (zC z) (zB z) := BkAt_up B1 (by omega)
      have P3 := mark_spec B2
      have B3 := BkAt_mark B2 (loF (zB z 3) (zC z 3)) (hiF (zB z 3) (zC z 3))
      have GF := good_F G g0 g1 g2
      have fr3 : ∀ k, k ≠ 1 → k ≠ spare → tm_up (tm_up hb 1 (xO spare told true 0 0 (sT S))) spare (bkO spare (loF (zB z 3) (zC z 3)) (hiF (zB z 3) (zC z 3))) k = hb k := fun k h1 h2 => by rw [tm_up_ne h2, tm_up_ne h1]
      have O3 : tm_up (tm_up hb 1 (xO spare told true 0 0 (sT S))) spare (bkO spare (loF (zB z 3) (zC z 3)) (hiF (zB z 3) (zC z 3))) 1 = xO spare told true 0 0 (sT S) := by rw [tm_up_ne (by omega), tm_up_same]
      generalize tm_up (tm_up hb 1 (xO spare told true 0 0 (sT S))) spare (bkO spare (loF (zB z 3) (zC z 3)) (hiF (zB z 3) (zC z 3))) = h3 at P3 B3 fr3 O3
      obtain ⟨bx, wa, ba, _⟩ := Ba
      have ba3 : BAt h3 45 (sH S) (sR S) bx (cutS S) (widS S) (sqS (widS S) (widS S)) wa := by
        obtain ⟨x1, ⟨p, q, x2⟩, x3⟩ := ba
        exact ⟨by rw [fr3 45 (by decide) (by omega), fr 45 (by decide) (by omega)]; exact x1, ⟨p, q, CAt_cg (fun k h1 h2 => by rw [fr3 k (by omega) (by omega), fr k (by omega) (by omega)]) x2⟩, x3⟩
      obtain ⟨h4, P4, A4, F4⟩ := bar_fit ba3 B3 GF (by omega) ok.2.1 ok.2.2.2.1 ok.2.2.2.2.1 ok.2.2.2.2.2
      have B4 := BkAt_frB B3 F4 (by omega)
      obtain ⟨cf, _, b1, b2, A, p, q, cu, w0, sq, wa', te, tn, crk, t0, t7, tc⟩ := Tr
      have e50 : ∀ k, ((57 ≤ k ∧ k ≤ 69) ∨ (3 ≤ k ∧ k ≤ 9)) → h4 k = h k := fun k hk => by rw [F4 k (by omega), fr3 k (by omega) (by omega), fr k (by omega) (by omega)]
      obtain ⟨h5, P5, T5, F5⟩ := tr_fit (t := 57) (h := h4) (by rw [e50 57 (by omega)]; exact t0) (by rw [e50 (57 + 1) (by omega)]; exact t7) (CAt_cg (fun k h1 h2 => e50 k (by omega)) tc) B4 GF (by omega) ok.2.2.2.1 ok.2.2.2.2.2
      obtain ⟨i1, i2, t95, i3⟩ := Bi
      obtain ⟨j1, j2, j3, g99, j4⟩ := Bl
      have e93 : ∀ k, (3 ≤ k ∧ k ≤ 9) → h5 k = h k := fun k hk => by rw [F5 k (by omega), e50 k (by omega)]
      have P6 := bi_clear (h := h5) (o := 3) (by rw [e93 3 (by omega)]; exact i1) (by rw [e93 4 (by omega)]; exact i2) (by decide)
      have e6 : ∀ k, k ≠ 3 → k ≠ 4 → tm_up (tm_up h5 4 (aI 8 (fillF (sD S) 0 8))) 3 (biO 4 5 0) k = h5 k := fun k x y => by rw [tm_up_ne x, tm_up_ne y]
      have bil6 : XBil (tm_up (tm_up h5 4 (aI 8 (fillF (sD S) 0 8))) 3 (biO 4 5 0)) (fillF (sD S) 0 8) 0 := ⟨tm_up_same, by rw [tm_up_ne (by decide), tm_up_same], t95, by rw [e6 5 (by decide) (by decide), e93 5 (by omega)]; exact i3⟩
      generalize tm_up (tm_up h5 4 (aI 8 (fillF (sD S) 0 8))) 3 (biO 4 5 0) = h6 at P6 e6 bil6
      have h96 : h6 6 = blO 7 8 9 (sBl S) := by rw [e6 6 (by decide) (by decide), e93 6 (by omega)]; exact j1
      have P7 := bl_clear h96
      have e7 : ∀ k, k ≠ 6 → tm_up h6 6 (blO 7 8 9 0) k = h6 k := fun k x => tm_up_ne x
      have bla7 : XBla (tm_up h6 6 (blO 7 8 9 0)) (sMk S) (sHw S) 0 := ⟨tm_up_same, by rw [e7 7 (by decide), e6 7 (by decide) (by decide), e93 7 (by omega)]; exact j2, by rw [e7 8 (by decide), e6 8 (by decide) (by decide), e93 8 (by omega)]; exact j3, g99, by rw [e7 9 (by decide), e6 9 (by decide) (by decide), e93 9 (by omega)]; exact j4⟩
      generalize tm_up h6 6 (blO 7 8 9 0) = h7 at P7 e7 bla7
      have e75 : ∀ k, k ≠ 3 → k ≠ 4 → k ≠ 6 → h7 k = h5 k := fun k a b c => by rw [e7 k c, e6 k a b]
      have e7h : ∀ k, k < 3 ∨ (9 < k ∧ k < 45) ∨ 69 < k → h7 k = h3 k := fun k hk => by rw [e75 k (by omega) (by omega) (by omega), F5 k (by omega), F4 k (by omega)]
      have B7 : BkAt h7 spare (loF (zB z 3) (zC z 3)) (hiF (zB z 3) (zC z 3)) (zC z) (zB z) := BkAt_c (fun k h1 h2 => e7h k (by omega)) B3
      have O7 : h7 1 = xO spare told true 0 0 (sT S) := by rw [e7h 1 (by omega)]; exact O3
      obtain ⟨r3, r4, r2, r6, r7, _⟩ := R1
      -- the trouble is none
      have XI : XInv (tm_up h7 1 (xO spare told true 0 0 0)) (sBook S z) := by
        refine ⟨spare, told, by omega, tm_up_same, by rw [tm_up_ne (by decide), e7h 2 (by omega), fr3 2 (by decide) (by omega)]; exact r2, ?_, ?_, ?_, ?_, XBil_c (fun k h1 h2 => by rw [tm_up_ne (by omega), e7 k (by omega)]) bil6, XBla_c (fun k h1 h2 => tm_up_ne (by omega)) bla7⟩
        · exact ⟨_, _, _, _, _, _, _, _, _, _, _, by rw [tm_up_ne (by decide), e7h 40 (by omega), fr3 40 (by decide) (by omega)]; exact r3, by rw [tm_up_ne (by decide), e7h 41 (by omega), fr3 41 (by decide) (by omega)]; exact r4, by rw [tm_up_ne (by decide), e7h 43 (by omega), fr3 43 (by decide) (by omega)]; exact r6, by rw [tm_up_ne (by decide), e7h 44 (by omega), fr3 44 (by decide) (by omega)]; exact r7, fun y => absurd y (by show ¬ (0 : Int32) = 4; decide)⟩
        · exact ⟨⟨_, _, BkAt_up B7 (by omega), fun _ => GF⟩, lo, hi, sC S, sB S, BkAt_c (fun k h1 h2 => by rw [tm_up_ne (by omega), e7h k (by omega), fr3 k (by omega) (by omega), fr k (by omega) (by omega)]) k1⟩
        · refine XBar_c (h := h4) (fun k h1 h2 => by rw [tm_up_ne (by omega), e75 k (by omega) (by omega) (by omega), F5 k (by omega)]) ⟨spare, zB z 1 0, ?_, fun _ => ⟨rfl, rfl⟩⟩
          show BAt h4 45 0 _ spare (cutS (sBook S z)) (widS (sBook S z)) _ _
          exact A4
        · refine XTri_c (h := h5) (fun k hk => by rw [tm_up_ne (by omega), e75 k (by omega) (by omega) (by omega)]) ⟨cf, fun _ => ⟨_, T5⟩, ?_⟩
          obtain ⟨x0, x1, _, A', p', q', wa'', te', tn', crk', y, _⟩ := T5
          exact ⟨_, _, A', p', q', 1, _, _, wa'', te', tn', crk', x0, x1, y⟩
      refine ⟨tm_up h7 1 (xO spare told true 0 0 0), sBook S z, nI (zC z 2), ?_, XI, fun k hk => ?_, ?_⟩
      · have i50 : tm_isObj (h4 57) 8 = true := by rw [e50 57 (by omega), t0]; exact tm_isO
        have i93 : tm_isObj (h5 3) 1 = true := by rw [e93 3 (by omega), i1]; exact tm_isO
        have i96 : tm_isObj (h6 6) 2 = true := by rw [h96]; exact tm_isO
        have i23 : tm_isObj (h3 45) 0 = true := by rw [ba3.1]; exact tm_isO
        have O4 : h4 1 = xO spare told true 0 0 (sT S) := by rw [F4 1 (by omega)]; exact O3
        have O5 : h5 1 = xO spare told true 0 0 (sT S) := by rw [F5 1 (by omega)]; exact O4
        have O6 : h6 1 = xO spare told true 0 0 (sT S) := by rw [e6 1 (by decide) (by decide)]; exact O5
        have ib : tm_isObj (tm_up hb 1 (xO spare told true 0 0 (sT S)) spare) 3 = true := by rw [bk_o B2]; exact tm_isO
        have il : tm_isObj (h7 (spare + 5)) 5 = true := by rw [bk_l2 B7]; exact tm_isO
        have PA : tC mX9_answer [.ref 1, .int (nI (zC z 2))] h7 = some (tm_up h7 1 (xO spare told true 0 0 0), some (.int (nI (zC z 2)))) := by
          simp only [cX9_answer_, bX9_answer_0, bX9_answer_5, tk1_some, tk0_some, tkc_some, tkc_none, ↓reduceIte, O7, tm_pf_eq, ps_9_11, Option.map_some]
        simp only [xO, bI_t] at O3 O4 O5 O6 O7 ib P3 PA
        simp only [bX9_book_43, bX9_book_47, bX9_book_56, bX9_book_60, bX9_book_66, bX9_book_69, bX9_book_74, bX9_book_79, bX9_book_83, bX9_book_86, bX9_book_90, bX9_book_94, bX9_book_97, bX9_book_101, bX9_book_105, bX9_book_108, bX9_book_112, bX9_book_115, bX9_book_119, bX9_book_122, bX9_book_127, bX9_book_130, bX9_book_133, bX9_book_136, tk1_some, tk0_some, tkc_some, tkc_none, ↓reduceIte, tm_up_same, tm_up_up, gf_9_10, gf_9_1, gf_9_2, gf_9_3, gf_9_4, gf_9_6, gf_9_7, tm_pf_eq, ps_9_3, ps_9_4, ps_9_8, Option.map_some, zf, ib, P3, O3, i23, P4, O4, i50, P5, O5, i93, P6, O6, i96, P7, O7, bk_o B7, gf_3_2, il, ln_count (bk_l2 B7), tm_isO, PA, xO, bI_t, bI_f, show ((1 : Int32) = 0) = False from by decide, not_false_eq_true, not_true, if_true, if_false, Bool.false_eq_true, tm_rb0, tm_rb1]
      · rw [tm_up_ne (by omega), e7h k (by omega), fr3 k (by omega) (by omega), frx k hk]
      · rw [if_pos rfl]
        exact ⟨z, run, Or.inl ⟨zf, rfl, rfl, B1.2.2⟩⟩
    · -- a fault
      have XI : XInv (tm_up hb 1 (xO told spare (sBo S) 0 (zF z) 4)) (sFaulty S z) := by
        obtain ⟨r3, r4, r2, r6, r7, ⟨lo2, hi2, rB⟩, _⟩ := R1
        refine ⟨told, spare, ts, tm_up_same, by rw [tm_up_ne (by decide)]; exact r2, ⟨_, _, _, _, _, _, _, _, _, _, _, by rw [tm_up_ne (by decide)]; exact r3, by rw [tm_up_ne (by decide)]; exact r4, by rw [tm_up_ne (by decide)]; exact r6, by rw [tm_up_ne (by decide)]; exact r7, fun _ => rfl⟩, ⟨⟨lo, hi, BkAt_c (fun k h1 h2 => by rw [tm_up_ne (by omega), fr k (by omega) (by omega)]) k1, k2⟩, _, _, _, _, BkAt_up rB (by omega)⟩, XBar_c (fun k h1 h2 => by rw [tm_up_ne (by omega), fr k (by omega) (by omega)]) Ba, XTri_c (fun k hk => by rw [tm_up_ne (by omega), fr k (by omega) (by omega)]) Tr, XBil_c (fun k h1 h2 => by rw [tm_up_ne (by omega), fr k (by omega) (by omega)]) Bi, XBla_c (fun k h1 h2 => by rw [tm_up_ne (by omega), fr k (by omega) (by omega)]) Bl⟩
      refine ⟨tm_up hb 1 (xO told spare (sBo S) 0 (zF z) 4), sFaulty S z, -1, ?_, XI, fun k hk => by rw [tm_up_ne (by omega), frx k hk], ?_⟩
      · simp only [bX9_book_43, bX9_book_47, bX9_book_50, bX9_book_55, cX9_refuse_, bX9_refuse_0, bX9_refuse_5, tk1_some, tk0_some, tkc_some, tkc_none, ↓reduceIte, tm_up_same, tm_up_up, gf_9_10, tm_isO, tm_pf_eq, ps_9_11, Option.map_some, zf, bI_t, bI_f, show ((1 : Int32) = 0) = False from by decide, not_false_eq_true, not_true, if_true, if_false, Bool.false_eq_true, tm_rb0, tm_rb1]
      · rw [if_pos rfl]
        exact ⟨z, run, Or.inr ⟨zf, rfl, rfl⟩⟩
end XK
