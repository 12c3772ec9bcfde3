/-! THE REFERENCE: its book, and what cells are by it -/
abbrev mbO (b : Nat) (ln wd wa pu sh fl sw : Int32) (k t r s m n : Nat) : va_E := .inr (10, [.int ln, .int wd, .int wa, .int pu, .int sh, .int fl, .int sw, .int (nI k), .int (nI t), .int (nI r), .int (nI s), .int (nI m), .int (nI n), .ref (b + 1), .ref (b + 2), .ref (b + 3), .ref (b + 4), .ref (b + 5), .ref (b + 6), .ref (b + 7), .ref (b + 8), .ref (b + 9), .ref (b + 10), .ref (b + 11), .ref (b + 12), .ref (b + 13)])
def mbL (i : Nat) : Nat := [0, 5, 5, 5, 6, 6, 6, 6, 6, 6, 6, 40, 0, 22].getD i 0
def MRel (cnt : Nat → Nat) (tab G : Nat → Nat → Int32) : Prop :=
  (∀ i, i < cnt 2 → G 1 i = tab 2 (i * 3) ∧ G 2 i = tab 2 (i * 3 + 1) ∧ G 3 i = tab 2 (i * 3 + 2)) ∧
  (∀ i, i < cnt 3 → G 4 i = tab 3 (i * 3) ∧ G 5 i = tab 3 (i * 3 + 1) ∧ G 6 i = tab 3 (i * 3 + 2)) ∧
  (∀ i, i < cnt 4 → G 7 i = tab 4 (i * 2) ∧ G 8 i = tab 4 (i * 2 + 1)) ∧
  (∀ i, i < cnt 5 → G 9 i = tab 5 (i * 2) ∧ G 10 i = tab 5 (i * 2 + 1)) ∧
  (∀ i j, i < cnt 6 → j < 8 → G 11 (8 * i + j) = tab 6 (i * 8 + j))
def MBk (h : tm_H) (b : Nat) (cnt : Nat → Nat) (tab : Nat → Nat → Int32) (n : Nat) (G : Nat → Nat → Int32) (nm : Nat → Int64) : Prop :=
  h b = mbO b (tab 0 0) (tab 0 1) (tab 1 0) (tab 1 1) (tab 1 2) (tab 1 3) (tab 1 4) (cnt 2) (cnt 3) (cnt 4) (cnt 5) (cnt 6) n ∧ (∀ i, 1 ≤ i → i ≤ 13 → i ≠ 12 → h (b + i) = aI (mbL i) (G i)) ∧ h (b + 12) = aJ 22 nm ∧ (∀ l, l < 7 → cnt l ≤ lnM l) ∧ MRel cnt tab G
/-- the reference has this book -/
def MW (h : tm_H) (b : Nat) (cnt : Nat → Nat) (tab : Nat → Nat → Int32) (n : Nat) (G : Nat → Nat → Int32) (nm : Nat → Int64) : Prop :=
  tm_isObj (h 70) 11 = true ∧ tm_gf (h 70) 11 3 = some (.ref b) ∧ tm_gf (h 70) 11 20 = some (.ref 76) ∧ tm_gf (h 70) 11 16 = some (.ref 72) ∧ tm_gf (h 70) 11 17 = some (.ref 73) ∧ MBk h b cnt tab n G nm ∧ 83 < b
section MB
variable {h : tm_H} {b n : Nat} {cnt : Nat → Nat} {tab G : Nat → Nat → Int32} {nm : Nat → Int64} {w : Nat}
theorem mb_o (M : MBk h b cnt tab n G nm) : h b = mbO b (tab 0 0) (tab 0 1) (tab 1 0) (tab 1 1) (tab 1 2) (tab 1 3) (tab 1 4) (cnt 2) (cnt 3) (cnt 4) (cnt 5) (cnt 6) n := M.1
theorem mb_1 (M : MBk h b cnt tab n G nm) : h (b + 1) = aI 5 (G 1) := M.2.1 1 (by decide) (by decide) (by decide)
theorem mb_2 (M : MBk h b cnt tab n G nm) : h (b + 2) = aI 5 (G 2) := M.2.1 2 (by decide) (by decide) (by decide)
theorem mb_3 (M : MBk h b cnt tab n G nm) : h (b + 3) = aI 5 (G 3) := M.2.1 3 (by decide) (by decide) (by decide)
theorem mb_4 (M : MBk h b cnt tab n G nm) : h (b + 4) = aI 6 (G 4) := M.2.1 4 (by decide) (by decide) (by decide)
theorem mb_5 (M : MBk h b cnt tab n G nm) : h (b + 5) = aI 6 (G 5) := M.2.1 5 (by decide) (by decide) (by decide)
theorem mb_6 (M : MBk h b cnt tab n G nm) : h (b + 6) = aI 6 (G 6) := M.2.1 6 (by decide) (by decide) (by decide)
theorem mb_7 (M : MBk h b cnt tab n G nm) : h (b + 7) = aI 6 (G 7) := M.2.1 7 (by decide) (by decide) (by decide)
theorem mb_8 (M : MBk h b cnt tab n G nm) : h (b + 8) = aI 6 (G 8) := M.2.1 8 (by decide) (by decide) (by decide)
theorem mb_9 (M : MBk h b cnt tab n G nm) : h (b + 9) = aI 6 (G 9) := M.2.1 9 (by decide) (by decide) (by decide)
theorem mb_10 (M : MBk h b cnt tab n G nm) : h (b + 10) = aI 6 (G 10) := M.2.1 10 (by decide) (by decide) (by decide)
theorem mb_11 (M : MBk h b cnt tab n G nm) : h (b + 11) = aI 40 (G 11) := M.2.1 11 (by decide) (by decide) (by decide)
theorem mb_13 (M : MBk h b cnt tab n G nm) : h (b + 13) = aI 22 (G 13) := M.2.1 13 (by decide) (by decide) (by decide)
theorem mb_c (M : MBk h b cnt tab n G nm) {l : Nat} (hl : l < 7) : cnt l ≤ lnM l := M.2.2.2.1 l hl
theorem mspr (M : MBk h b cnt tab n G nm) (ew : tab 0 1 = nI w) {j : Nat} : tC mX10_spread [.ref b, .int (nI j)] h = some (h, some (.int (sprd w j))) := by
  simp only [cX10_spread_, bX10_spread_0, bX10_spread_7, tk1_some, tk0_some, tkc_some, tkc_none, ↓reduceIte, mb_o M, gf_10_1, ew, sprd]
theorem msq_loop (M : MBk h b cnt tab n G nm) (ew : tab 0 1 = nI w) (hw : w ≤ 5) : ∀ r j, j + r = w → tE mX10_squares 4 [.ref b, .int (sqS w j), .int (nI j)] [] h = some (h, some (.int (sqS w w))) := by
  intro r
  induction r with
  | zero =>
    intro j hj
    obtain rfl : j = w := by omega
    rw [bX10_squares_4]
    simp only [bX10_squares_9, bX10_squares_12, bX10_squares_18, bX10_squares_23, bX10_squares_32, tk1_some, tk0_some, tkc_some, tkc_none, ↓reduceIte, mb_o M, gf_10_1, ew, Int32.le_refl, if_true]
  | succ r ih =>
    intro j hj
    have e1 : ¬ nI w ≤ nI j := nI_ge (by omega) (by omega)
    have e := ih (j + 1) (by omega)
    have i1 : tm_isObj (h b) 10 = true := by rw [mb_o M]; exact tm_isO
    rw [bX10_squares_4]
    have P := mspr M ew (j := j)
    simp only [bX10_squares_9, bX10_squares_12, bX10_squares_18, bX10_squares_23, tk1_some, tk0_some, tkc_some, tkc_none, ↓reduceIte, mb_o M, tm_isO, gf_10_1, ew, e1, if_false, P, nI_k1]
    exact e
theorem msq (M : MBk h b cnt tab n G nm) (ew : tab 0 1 = nI w) (hw : w ≤ 5) : tC mX10_squares [.ref b] h = some (h, some (.int (sqS w w))) := by
  have e := msq_loop M ew hw w 0 (by omega)
  rw [nI_0, show sqS w 0 = 0 from rfl] at e
  simp only [cX10_squares_, bX10_squares_0, e]
theorem mwp (M : MBk h b cnt tab n G nm) (ew : tab 0 1 = nI w) (hw : w ≤ 5) : tC mX10_wholePull [.ref b] h = some (h, some (.int (nI w * sqS w w))) := by
  simp only [cX10_wholePull_, bX10_wholePull_0, bX10_wholePull_4, bX10_wholePull_8, tk1_some, tk0_some, tkc_some, tkc_none, ↓reduceIte, mb_o M, gf_10_1, tm_isO, msq M ew hw, ew]
theorem mw_b (W : MW h b cnt tab n G nm) : MBk h b cnt tab n G nm := W.2.2.2.2.2.1
theorem mw_i (W : MW h b cnt tab n G nm) : tm_isObj (h 70) 11 = true := W.1
theorem mw_3 (W : MW h b cnt tab n G nm) : tm_gf (h 70) 11 3 = some (.ref b) := W.2.1
theorem mw_20 (W : MW h b cnt tab n G nm) : tm_gf (h 70) 11 20 = some (.ref 76) := W.2.2.1
theorem mw_16 (W : MW h b cnt tab n G nm) : tm_gf (h 70) 11 16 = some (.ref 72) := W.2.2.2.1
theorem mw_17 (W : MW h b cnt tab n G nm) : tm_gf (h 70) 11 17 = some (.ref 73) := W.2.2.2.2.1
theorem mflow (W : MW h b cnt tab n G nm) {x y : Int32} : tC mX11_flows [.ref 70, .int x, .int y] h = some (h, some (.int (tab 1 3 * (y - x) / 100))) := by
  simp only [cX11_flows_, bX11_flows_0, bX11_flows_4, bX11_flows_7, tk1_some, tk0_some, tkc_some, tkc_none, ↓reduceIte, mw_3 W, mb_o (mw_b W), gf_10_5]
theorem mturn_loop (W : MW h b cnt tab n G nm) {fr to : Int32} : ∀ r k, k + r = cnt 3 → tE mX11_turnsTo 2 [.ref 70, .int fr, .int to, .int (nI k)] [] h = some (h, some (.int (if fr ≤ to then 0 else turnG (tab 3) fr to r k))) := by
  have M := mw_b W
  have c3 : cnt 3 ≤ 6 := mb_c M (by decide)
  have t6 : 6 < 2 ^ 31 := by decide
  intro r
  induction r with
  | zero =>
    intro k hk
    obtain rfl : k = cnt 3 := by omega
    rw [bX11_turnsTo_2]
    simp only [bX11_turnsTo_7, bX11_turnsTo_10, bX11_turnsTo_75, tk1_some, tk0_some, tkc_some, tkc_none, ↓reduceIte, mw_3 W, mb_o M, gf_10_8, Int32.le_refl, if_true, turnG, ite_self]
  | succ r ih =>
    intro k hk
    have e1 : ¬ nI (cnt 3) ≤ nI k := nI_ge (by omega) (by omega)
    have e := ih (k + 1) (by omega)
    obtain ⟨g4, g5, g6⟩ := M.2.2.2.2.2.1 k (by omega)
    have q5 : tm_ai 0 (h (b + 5)) (nI k) = some (.int (tab 3 (k * 3 + 1))) := by rw [mb_5 M, tm_ai_in rfl (show k < 6 by omega) t6, g5]
    have q6 : tm_ai 0 (h (b + 6)) (nI k) = some (.int (tab 3 (k * 3 + 2))) := by rw [mb_6 M, tm_ai_in rfl (show k < 6 by omega) t6, g6]
    have q4 : tm_ai 0 (h (b + 4)) (nI k) = some (.int (tab 3 (k * 3))) := by rw [mb_4 M, tm_ai_in rfl (show k < 6 by omega) t6, g4]
    rw [bX11_turnsTo_2]
    by_cases z : fr ≤ to
    · rw [if_pos z] at e ⊢
      simp only [bX11_turnsTo_7, bX11_turnsTo_10, bX11_turnsTo_13, bX11_turnsTo_69, tk1_some, tk0_some, tkc_some, tkc_none, ↓reduceIte, mw_3 W, mb_o M, gf_10_8, e1, z, if_true, if_false, nI_k1, e]
    · rw [if_neg z] at e ⊢
      unfold turnG
      by_cases c1 : tab 3 (k * 3 + 1) ≤ to
      · rw [if_pos c1]
        simp only [bX11_turnsTo_7, bX11_turnsTo_10, bX11_turnsTo_13, bX11_turnsTo_18, bX11_turnsTo_22, bX11_turnsTo_25, bX11_turnsTo_27, bX11_turnsTo_69, tk1_some, tk0_some, tkc_some, tkc_none, ↓reduceIte, mw_3 W, mb_o M, gf_10_8, gf_10_17, e1, z, if_true, if_false, q5, c1, nI_k1, e]
      · rw [if_neg c1]
        by_cases c2 : fr < tab 3 (k * 3 + 1)
        · rw [if_pos c2]
          simp only [bX11_turnsTo_7, bX11_turnsTo_10, bX11_turnsTo_13, bX11_turnsTo_18, bX11_turnsTo_22, bX11_turnsTo_25, bX11_turnsTo_27, bX11_turnsTo_31, bX11_turnsTo_35, bX11_turnsTo_38, bX11_turnsTo_40, bX11_turnsTo_69, tk1_some, tk0_some, tkc_some, tkc_none, ↓reduceIte, mw_3 W, mb_o M, gf_10_8, gf_10_17, e1, z, if_true, if_false, q5, c1, c2, nI_k1, e]
        · rw [if_neg c2]
          by_cases c3 : fr - to < tab 3 (k * 3 + 2)
          · rw [if_pos c3]
            simp only [bX11_turnsTo_7, bX11_turnsTo_10, bX11_turnsTo_13, bX11_turnsTo_18, bX11_turnsTo_22, bX11_turnsTo_25, bX11_turnsTo_27, bX11_turnsTo_31, bX11_turnsTo_35, bX11_turnsTo_38, bX11_turnsTo_40, bX11_turnsTo_44, bX11_turnsTo_48, bX11_turnsTo_51, bX11_turnsTo_53, bX11_turnsTo_69, tk1_some, tk0_some, tkc_some, tkc_none, ↓reduceIte, mw_3 W, mb_o M, gf_10_8, gf_10_17, gf_10_18, e1, z, if_true, if_false, q5, q6, c1, c2, c3, nI_k1, e]
          · rw [if_neg c3]
            simp only [bX11_turnsTo_7, bX11_turnsTo_10, bX11_turnsTo_13, bX11_turnsTo_18, bX11_turnsTo_22, bX11_turnsTo_25, bX11_turnsTo_27, bX11_turnsTo_31, bX11_turnsTo_35, bX11_turnsTo_38, bX11_turnsTo_40, bX11_turnsTo_44, bX11_turnsTo_48, bX11_turnsTo_51, bX11_turnsTo_53, bX11_turnsTo_59, bX11_turnsTo_63, bX11_turnsTo_66, bX11_turnsTo_68, tk1_some, tk0_some, tkc_some, tkc_none, ↓reduceIte, mw_3 W, mb_o M, gf_10_8, gf_10_17, gf_10_18, gf_10_16, e1, z, if_false, q4, q5, q6, c1, c2, c3]
theorem mturn (W : MW h b cnt tab n G nm) {fr to : Int32} : tC mX11_turnsTo [.ref 70, .int fr, .int to] h = some (h, some (.int (turnS (tab 3) (cnt 3) fr to))) := by
  have e := mturn_loop W (fr := fr) (to := to) (cnt 3) 0 (by omega)
  rw [nI_0] at e
  rw [cX11_turnsTo_, bX11_turnsTo_0, e]; rfl
/-- sizes and what is borne, by heats and kinds -/
def szM (tab : Nat → Nat → Int32) (hf kf : Nat → Int32) : Nat → Int32 := fun x => tab 1 4 * hf x / 100 + tab 2 ((kf x).toNatClampNeg * 3 + 1)
def mpM (tab : Nat → Nat → Int32) (w : Nat) (kf : Nat → Int32) : Nat → Int32 := fun x => tab 2 ((kf x).toNatClampNeg * 3 + 2) * (nI w * sqS w w)
theorem i5j' (i j : Nat) : 5 * nI i + nI j = nI (i * 5 + j) := by rw [show (5 : Int32) = nI 5 from rfl, nI_mul, nI_add, Nat.mul_comm]
section MS
variable {a1 a2 N cuts : Nat} {hf kf : Nat → Int32}
theorem msize (W : MW h b cnt tab n G nm) (ha1 : h a1 = aI N hf) (ha2 : h a2 = aI N kf) (hN : N < 2 ^ 31) {x : Nat} (hx : x < N) {k : Nat} (hk : k < cnt 2) (ek : kf x = nI k) : tC mX11_sizeOf [.ref 70, .ref a1, .ref a2, .int (nI x)] h = some (h, some (.int (szM tab hf kf x))) := by
  have M := mw_b W
  have c2 : cnt 2 ≤ 5 := mb_c M (by decide)
  obtain ⟨g1, g2, g3⟩ := M.2.2.2.2.1 k hk
  have q2 : tm_ai 0 (h (b + 2)) (nI k) = some (.int (tab 2 (k * 3 + 1))) := by rw [mb_2 M, tm_ai_in rfl (show k < 5 by omega) (by decide), g2]
  have q0 : tm_ai 0 (h a2) (nI x) = some (.int (nI k)) := by rw [ha2, tm_ai_in rfl hx hN, ek]
  have ez : szM tab hf kf x = tab 1 4 * hf x / 100 + tab 2 (k * 3 + 1) := by unfold szM; rw [ek, nI_clamp (by omega)]
  simp only [cX11_sizeOf_, bX11_sizeOf_0, bX11_sizeOf_4, bX11_sizeOf_7, bX11_sizeOf_10, bX11_sizeOf_18, bX11_sizeOf_21, bX11_sizeOf_24, bX11_sizeOf_25, tk1_some, tk0_some, tkc_some, tkc_none, ↓reduceIte, mw_3 W, mb_o M, gf_10_6, gf_10_14, ha1, tm_ai_in rfl hx hN, q0, q2, ez]
variable (W : MW h b cnt tab n G nm) (ha1 : h a1 = aI N hf) (ha2 : h a2 = aI N kf) (hN : N < 2 ^ 31) (hc : ∀ i j, i < cuts → j < w → i * 5 + j < N) (Q : ∀ i j, i < cuts → j < w → ∃ k, k < cnt 2 ∧ kf (i * 5 + j) = nI k) (ew : tab 0 1 = nI w) (hw : w ≤ 5)
theorem mcur_loop (W : MW h b cnt tab n G nm) (ha1 : h a1 = aI N hf) (ha2 : h a2 = aI N kf) (hN : N < 2 ^ 31) (hc : ∀ i j, i < cuts → j < w → i * 5 + j < N) (Q : ∀ i j, i < cuts → j < w → ∃ k, k < cnt 2 ∧ kf (i * 5 + j) = nI k) (ew : tab 0 1 = nI w) (hw : w ≤ 5) {i : Nat} (hi : i < cuts) : ∀ r j, j + r = w → tE mX11_curveOf 6 [.ref 70, .ref a1, .ref a2, .int (nI i), .int (sm (fun j => szM tab hf kf (i * 5 + j) * sprd w j) j), .int (nI j)] [] h = some (h, some (.int (curS (szM tab hf kf) w i))) := by
  have M := mw_b W
  intro r
  induction r with
  | zero =>
    intro j hj
    obtain rfl : j = w := by omega
    rw [bX11_curveOf_6]
    simp only [bX11_curveOf_12, bX11_curveOf_15, bX11_curveOf_51, tk1_some, tk0_some, tkc_some, tkc_none, ↓reduceIte, mw_3 W, mb_o M, gf_10_1, ew, Int32.le_refl, if_true, curS]
  | succ r ih =>
    intro j hj
    have e1 : ¬ nI w ≤ nI j := nI_ge (by omega) (by omega)
    obtain ⟨k, hk, ek⟩ := Q i j hi (by omega)
    have S := msize W ha1 ha2 hN (hc i j hi (by omega)) hk ek
    have e := ih (j + 1) (by omega)
    rw [bX11_curveOf_6]
    have P := mspr M ew (j := j)
    simp only [bX11_curveOf_12, bX11_curveOf_15, bX11_curveOf_18, bX11_curveOf_32, bX11_curveOf_36, bX11_curveOf_41, tk1_some, tk0_some, tkc_some, tkc_none, ↓reduceIte, mw_3 W, mw_i W, mb_o M, gf_10_1, ew, e1, if_false, i5j', S, tm_isO, P, nI_k1]
    exact e
theorem mcur (W : MW h b cnt tab n G nm) (ha1 : h a1 = aI N hf) (ha2 : h a2 = aI N kf) (hN : N < 2 ^ 31) (hc : ∀ i j, i < cuts → j < w → i * 5 + j < N) (Q : ∀ i j, i < cuts → j < w → ∃ k, k < cnt 2 ∧ kf (i * 5 + j) = nI k) (ew : tab 0 1 = nI w) (hw : w ≤ 5) {i : Nat} (hi : i < cuts) : tC mX11_curveOf [.ref 70, .ref a1, .ref a2, .int (nI i)] h = some (h, some (.int (curS (szM tab hf kf) w i))) := by
  have e := mcur_loop W ha1 ha2 hN hc Q ew hw hi w 0 (by omega)
  rw [nI_0, show sm (fun j => szM tab hf kf (i * 5 + j) * sprd w j) 0 = 0 from rfl] at e
  rw [cX11_curveOf_, bX11_curveOf_0, e]
theorem mtot_loop (W : MW h b cnt tab n G nm) (ha1 : h a1 = aI N hf) (ha2 : h a2 = aI N kf) (hN : N < 2 ^ 31) (hc : ∀ i j, i < cuts → j < w → i * 5 + j < N) (Q : ∀ i j, i < cuts → j < w → ∃ k, k < cnt 2 ∧ kf (i * 5 + j) = nI k) (ew : tab 0 1 = nI w) (hw : w ≤ 5) {i : Nat} (hi : i < cuts) {x4 : Value} : ∀ r j, j + r = w → tE mX11_pullOf 6 [.ref 70, .ref a1, .ref a2, .int (nI i), x4, .int (sm (fun j => szM tab hf kf (i * 5 + j)) j), .int (nI j)] [] h = tE mX11_pullOf 41 [.ref 70, .ref a1, .ref a2, .int (nI i), x4, .int (totS (szM tab hf kf) w i), .int (nI w)] [] h := by
  have M := mw_b W
  intro r
  induction r with
  | zero =>
    intro j hj
    obtain rfl : j = w := by omega
    rw [bX11_pullOf_6]
    simp only [bX11_pullOf_12, bX11_pullOf_15, tk1_some, tk0_some, tkc_some, tkc_none, ↓reduceIte, mw_3 W, mb_o M, gf_10_1, ew, Int32.le_refl, if_true, totS]
  | succ r ih =>
    intro j hj
    have e1 : ¬ nI w ≤ nI j := nI_ge (by omega) (by omega)
    obtain ⟨k, hk, ek⟩ := Q i j hi (by omega)
    have S := msize W ha1 ha2 hN (hc i j hi (by omega)) hk ek
    have e := ih (j + 1) (by omega)
    rw [bX11_pullOf_6]
    simp only [bX11_pullOf_12, bX11_pullOf_15, bX11_pullOf_18, bX11_pullOf_32, tk1_some, tk0_some, tkc_some, tkc_none, ↓reduceIte, mw_3 W, mw_i W, mb_o M, gf_10_1, ew, e1, if_false, i5j', S, nI_k1]
    exact e
theorem mpull (W : MW h b cnt tab n G nm) (ha1 : h a1 = aI N hf) (ha2 : h a2 = aI N kf) (hN : N < 2 ^ 31) (hc : ∀ i j, i < cuts → j < w → i * 5 + j < N) (Q : ∀ i j, i < cuts → j < w → ∃ k, k < cnt 2 ∧ kf (i * 5 + j) = nI k) (ew : tab 0 1 = nI w) (hw : w ≤ 5) {i j : Nat} (hi : i < cuts) (hj : j < w) : tC mX11_pullOf [.ref 70, .ref a1, .ref a2, .int (nI i), .int (nI j)] h = some (h, some (.int (pullS (szM tab hf kf) w (sqS w w) i j))) := by
  have M := mw_b W
  have e := mtot_loop W ha1 ha2 hN hc Q ew hw hi (x4 := .int (nI j)) w 0 (by omega)
  rw [nI_0, show sm (fun j => szM tab hf kf (i * 5 + j)) 0 = 0 from rfl] at e
  obtain ⟨k, hk, ek⟩ := Q i j hi hj
  have S := msize W ha1 ha2 hN (hc i j hi hj) hk ek
  have er : pullS (szM tab hf kf) w (sqS w w) i j = szM tab hf kf (i * 5 + j) * (nI w * sqS w w) - totS (szM tab hf kf) w i * sqS w w - curS (szM tab hf kf) w i * sprd w j * nI w := by
    unfold pullS
    rw [Int32.sub_mul, Int32.mul_assoc]
  have P := mspr M ew (j := j)
  simp only [cX11_pullOf_, bX11_pullOf_0, e, bX11_pullOf_41, bX11_pullOf_53, bX11_pullOf_57, bX11_pullOf_60, bX11_pullOf_67, bX11_pullOf_70, bX11_pullOf_79, bX11_pullOf_83, bX11_pullOf_88, bX11_pullOf_93, bX11_pullOf_96, tk1_some, tk0_some, tkc_some, tkc_none, ↓reduceIte, mw_3 W, mw_i W, i5j', S, mb_o M, tm_isO, mwp M ew hw, msq M ew hw, mcur W ha1 ha2 hN hc Q ew hw hi, P, gf_10_1, ew, er]
theorem mbend_loop (W : MW h b cnt tab n G nm) (ha1 : h 72 = aI 40 hf) (ha2 : h 73 = aI 40 kf) (hc : cuts ≤ 8) (Q : ∀ i j, i < cuts → j < w → ∃ k, k < cnt 2 ∧ kf (i * 5 + j) = nI k) (en : tab 0 0 = nI cuts) (ew : tab 0 1 = nI w) (hw : w ≤ 5) : ∀ r i, i + r = cuts → tE mX11_bendOf 4 [.ref 70, .int (sm (fun i => curS (szM tab hf kf) w i) i), .int (nI i)] [] h = some (h, some (.int (bendS (szM tab hf kf) w cuts))) := by
  have M := mw_b W
  intro r
  induction r with
  | zero =>
    intro i hi
    obtain rfl : i = cuts := by omega
    rw [bX11_bendOf_4]
    simp only [bX11_bendOf_9, bX11_bendOf_12, bX11_bendOf_37, tk1_some, tk0_some, tkc_some, tkc_none, ↓reduceIte, mw_3 W, mb_o M, gf_10_0, en, Int32.le_refl, if_true, bendS]
  | succ r ih =>
    intro i hi
    have e1 : ¬ nI cuts ≤ nI i := nI_ge (by omega) (by omega)
    have e := ih (i + 1) (by omega)
    rw [bX11_bendOf_4]
    simp only [bX11_bendOf_9, bX11_bendOf_12, bX11_bendOf_15, bX11_bendOf_21, bX11_bendOf_25, bX11_bendOf_29, tk1_some, tk0_some, tkc_some, tkc_none, ↓reduceIte, mw_3 W, mw_16 W, mw_17 W, mw_i W, mb_o M, gf_10_0, en, e1, if_false, mcur W ha1 ha2 (by decide) (fun i j hi hj => by omega) Q ew hw (show i < cuts by omega), nI_k1]
    exact e
theorem mbend (W : MW h b cnt tab n G nm) (ha1 : h 72 = aI 40 hf) (ha2 : h 73 = aI 40 kf) (hc : cuts ≤ 8) (Q : ∀ i j, i < cuts → j < w → ∃ k, k < cnt 2 ∧ kf (i * 5 + j) = nI k) (en : tab 0 0 = nI cuts) (ew : tab 0 1 = nI w) (hw : w ≤ 5) : tC mX11_bendOf [.ref 70] h = some (h, some (.int (bendS (szM tab hf kf) w cuts))) := by
  have e := mbend_loop W ha1 ha2 hc Q en ew hw cuts 0 (by omega)
  rw [nI_0, show sm (fun i => curS (szM tab hf kf) w i) 0 = 0 from rfl] at e
  rw [cX11_bendOf_, bX11_bendOf_0, e]
theorem crkR_no {sz mp : Nat → Int32} {sq crk : Int32} (hk : ¬ crk = -1) : ∀ r i, crkR sz mp w sq r i crk = crk
  | 0, _ => rfl
  | r + 1, i => by unfold crkR; rw [crkS_no _ _ _ _ _ hk, crkR_no hk r]
theorem mcrk_in (W : MW h b cnt tab n G nm) (ha1 : h a1 = aI N hf) (ha2 : h a2 = aI N kf) (hN : N < 2 ^ 31) (hN2 : N ≤ 40) (hc : ∀ i j, i < cuts → j < w → i * 5 + j < N) (Q : ∀ i j, i < cuts → j < w → ∃ k, k < cnt 2 ∧ kf (i * 5 + j) = nI k) (ew : tab 0 1 = nI w) (hw : w ≤ 5) {i : Nat} (hi : i < cuts) {x3 : Value} : ∀ r j x6, j + r = w → ∃ y6, tE mX11_cracks 12 [.ref 70, .ref a1, .ref a2, x3, .int (nI i), .int (nI j), x6] [] h = if crkS (szM tab hf kf) (mpM tab w kf) w (sqS w w) i (-1) r j = -1 then tE mX11_cracks 91 [.ref 70, .ref a1, .ref a2, x3, .int (nI i), .int (nI w), y6] [] h else some (h, some (.int (crkS (szM tab hf kf) (mpM tab w kf) w (sqS w w) i (-1) r j))) := by
  have M := mw_b W
  have c2 : cnt 2 ≤ 5 := mb_c M (by decide)
  intro r
  induction r with
  | zero =>
    intro j x6 hj
    obtain rfl : j = w := by omega
    refine ⟨x6, ?_⟩
    rw [bX11_cracks_12]
    simp only [bX11_cracks_18, bX11_cracks_21, tk1_some, tk0_some, tkc_some, tkc_none, ↓reduceIte, mw_3 W, mb_o M, gf_10_1, ew, Int32.le_refl, if_true, crkS]
  | succ r ih =>
    intro j x6 hj
    have e1 : ¬ nI w ≤ nI j := nI_ge (by omega) (by omega)
    have hjw : j < w := by omega
    obtain ⟨k, hk, ek⟩ := Q i j hi hjw
    have P := mpull W ha1 ha2 hN hc Q ew hw hi hjw
    have hx := hc i j hi hjw
    obtain ⟨g1, g2, g3⟩ := M.2.2.2.2.1 k hk
    have q3 : tm_ai 0 (h (b + 3)) (nI k) = some (.int (tab 2 (k * 3 + 2))) := by rw [mb_3 M, tm_ai_in rfl (show k < 5 by omega) (by decide), g3]
    have q0 : tm_ai 0 (h a2) (nI (i * 5 + j)) = some (.int (nI k)) := by rw [ha2, tm_ai_in rfl hx hN, ek]
    have em : mpM tab w kf (i * 5 + j) = tab 2 (k * 3 + 2) * (nI w * sqS w w) := by unfold mpM; rw [ek, nI_clamp (by omega)]
    have ne : ¬ nI (i * 5 + j) = -1 := fun y => absurd (nI_pos' (show i * 5 + j < 2 ^ 31 by omega)) (by rw [y]; decide)
    obtain ⟨y6, e⟩ := ih (j + 1) (.int (pullS (szM tab hf kf) w (sqS w w) i j)) (by omega)
    refine ⟨y6, ?_⟩
    rw [bX11_cracks_12]
    unfold crkS
    rw [if_pos rfl, em]
    by_cases s0 : 0 ≤ pullS (szM tab hf kf) w (sqS w w) i j
    · rw [if_pos s0]
      by_cases b0 : pullS (szM tab hf kf) w (sqS w w) i j ≤ tab 2 (k * 3 + 2) * (nI w * sqS w w)
      · rw [if_pos b0, ← e]
        simp only [bX11_cracks_18, bX11_cracks_21, bX11_cracks_24, bX11_cracks_34, bX11_cracks_47, bX11_cracks_49, bX11_cracks_53, bX11_cracks_56, bX11_cracks_65, bX11_cracks_66, bX11_cracks_70, bX11_cracks_73, bX11_cracks_85, tk1_some, tk0_some, tkc_some, tkc_none, ↓reduceIte, mw_3 W, mw_i W, mb_o M, tm_isO, gf_10_1, gf_10_15, ew, e1, if_false, P, s0, if_true, i5j', q0, q3, mwp M ew hw, b0, nI_k1]
      · rw [if_neg b0, if_neg ne]
        simp only [bX11_cracks_18, bX11_cracks_21, bX11_cracks_24, bX11_cracks_34, bX11_cracks_47, bX11_cracks_49, bX11_cracks_53, bX11_cracks_56, bX11_cracks_65, bX11_cracks_66, bX11_cracks_70, bX11_cracks_73, bX11_cracks_77, tk1_some, tk0_some, tkc_some, tkc_none, ↓reduceIte, mw_3 W, mw_i W, mb_o M, tm_isO, gf_10_1, gf_10_15, ew, e1, if_false, P, s0, if_true, i5j', q0, q3, mwp M ew hw, b0]
    · rw [if_neg s0]
      have en : 0 - pullS (szM tab hf kf) w (sqS w w) i j = -pullS (szM tab hf kf) w (sqS w w) i j := Int32.zero_sub _
      rw [en]
      by_cases b0 : -pullS (szM tab hf kf) w (sqS w w) i j ≤ tab 2 (k * 3 + 2) * (nI w * sqS w w)
      · rw [if_pos b0, ← e]
        simp only [bX11_cracks_18, bX11_cracks_21, bX11_cracks_24, bX11_cracks_34, bX11_cracks_41, bX11_cracks_49, bX11_cracks_53, bX11_cracks_56, bX11_cracks_65, bX11_cracks_66, bX11_cracks_70, bX11_cracks_73, bX11_cracks_85, tk1_some, tk0_some, tkc_some, tkc_none, ↓reduceIte, mw_3 W, mw_i W, mb_o M, tm_isO, gf_10_1, gf_10_15, ew, e1, if_false, P, s0, if_true, i5j', q0, q3, mwp M ew hw, b0, nI_k1]
      · rw [if_neg b0, if_neg ne]
        simp only [bX11_cracks_18, bX11_cracks_21, bX11_cracks_24, bX11_cracks_34, bX11_cracks_41, bX11_cracks_49, bX11_cracks_53, bX11_cracks_56, bX11_cracks_65, bX11_cracks_66, bX11_cracks_70, bX11_cracks_73, bX11_cracks_77, tk1_some, tk0_some, tkc_some, tkc_none, ↓reduceIte, mw_3 W, mw_i W, mb_o M, tm_isO, gf_10_1, gf_10_15, ew, e1, if_false, P, s0, if_true, i5j', q0, q3, mwp M ew hw, b0]
theorem mcrk_out (W : MW h b cnt tab n G nm) (ha1 : h a1 = aI N hf) (ha2 : h a2 = aI N kf) (hN : N < 2 ^ 31) (hN2 : N ≤ 40) (hcc : cuts ≤ 8) (hc : ∀ i j, i < cuts → j < w → i * 5 + j < N) (Q : ∀ i j, i < cuts → j < w → ∃ k, k < cnt 2 ∧ kf (i * 5 + j) = nI k) (ew : tab 0 1 = nI w) (hw : w ≤ 5) : ∀ r i x5 x6, i + r = cuts → tE mX11_cracks 3 [.ref 70, .ref a1, .ref a2, .int (nI cuts), .int (nI i), x5, x6] [] h = some (h, some (.int (crkR (szM tab hf kf) (mpM tab w kf) w (sqS w w) r i (-1)))) := by
  intro r
  induction r with
  | zero =>
    intro i x5 x6 hi
    obtain rfl : i = cuts := by omega
    rw [bX11_cracks_3, if_pos (Int32.le_refl _), bX11_cracks_97]; rfl
  | succ r ih =>
    intro i x5 x6 hi
    have e1 : ¬ nI cuts ≤ nI i := nI_ge (by omega) (by omega)
    obtain ⟨y6, e⟩ := mcrk_in W ha1 ha2 hN hN2 hc Q ew hw (show i < cuts by omega) (x3 := .int (nI cuts)) w 0 x6 (by omega)
    rw [nI_0] at e
    rw [bX11_cracks_3, if_neg e1, bX11_cracks_9, e]
    unfold crkR
    by_cases z : crkS (szM tab hf kf) (mpM tab w kf) w (sqS w w) i (-1) w 0 = -1
    · rw [if_pos z, z, bX11_cracks_91, nI_k1, ih (i + 1) _ _ (by omega)]
    · rw [if_neg z, crkR_no z]
theorem mcrk (W : MW h b cnt tab n G nm) (ha1 : h a1 = aI N hf) (ha2 : h a2 = aI N kf) (hN : N < 2 ^ 31) (hN2 : N ≤ 40) (hcc : cuts ≤ 8) (hc : ∀ i j, i < cuts → j < w → i * 5 + j < N) (Q : ∀ i j, i < cuts → j < w → ∃ k, k < cnt 2 ∧ kf (i * 5 + j) = nI k) (ew : tab 0 1 = nI w) (hw : w ≤ 5) : tC mX11_cracks [.ref 70, .ref a1, .ref a2, .int (nI cuts)] h = some (h, some (.int (crkR (szM tab hf kf) (mpM tab w kf) w (sqS w w) cuts 0 (-1)))) := by
  have e := mcrk_out W ha1 ha2 hN hN2 hcc hc Q ew hw cuts 0 tm_U tm_U (by omega)
  rw [nI_0] at e
  rw [cX11_cracks_, bX11_cracks_0, e]
theorem mcloud_loop (W : MW h b cnt tab n G nm) (ha2 : h a2 = aI N kf) (hN : N < 2 ^ 31) (hc : ∀ i j, i < cuts → j < w → i * 5 + j < N) (Q : ∀ i j, i < cuts → j < w → ∃ k, k < cnt 2 ∧ kf (i * 5 + j) = nI k) (ew : tab 0 1 = nI w) (hw : w ≤ 5) {i : Nat} (hi : i < cuts) {hard : Int32} : ∀ r j, j + r = w → tE mX11_cloudOf 3 [.ref 70, .ref a2, .int (nI i), .int hard, .int (nI j)] [] h = some (h, some (.int (nI (cloudG (tab 2) kf hard i r j)))) := by
  have M := mw_b W
  have c2 : cnt 2 ≤ 5 := mb_c M (by decide)
  intro r
  induction r with
  | zero =>
    intro j hj
    obtain rfl : j = w := by omega
    rw [bX11_cloudOf_3]
    simp only [bX11_cloudOf_9, bX11_cloudOf_12, bX11_cloudOf_41, tk1_some, tk0_some, tkc_some, tkc_none, ↓reduceIte, mw_3 W, mb_o M, gf_10_1, ew, Int32.le_refl, if_true, cloudG]
  | succ r ih =>
    intro j hj
    have e1 : ¬ nI w ≤ nI j := nI_ge (by omega) (by omega)
    have hjw : j < w := by omega
    obtain ⟨k, hk, ek⟩ := Q i j hi hjw
    have hx := hc i j hi hjw
    obtain ⟨g1, g2, g3⟩ := M.2.2.2.2.1 k hk
    have q1 : tm_ai 0 (h (b + 1)) (nI k) = some (.int (tab 2 (k * 3))) := by rw [mb_1 M, tm_ai_in rfl (show k < 5 by omega) (by decide), g1]
    have q0 : tm_ai 0 (h a2) (nI (i * 5 + j)) = some (.int (nI k)) := by rw [ha2, tm_ai_in rfl hx hN, ek]
    have e := ih (j + 1) (by omega)
    rw [bX11_cloudOf_3]
    unfold cloudG hardS
    rw [ek, nI_clamp (show k < 2 ^ 31 by omega)]
    by_cases z : hard ≤ tab 2 (k * 3)
    · have z' : ¬ tab 2 (k * 3) < hard := Int32.not_lt.mpr z
      simp only [bX11_cloudOf_9, bX11_cloudOf_12, bX11_cloudOf_15, bX11_cloudOf_19, bX11_cloudOf_22, bX11_cloudOf_30, bX11_cloudOf_31, bX11_cloudOf_35, tk1_some, tk0_some, tkc_some, tkc_none, ↓reduceIte, mw_3 W, mb_o M, gf_10_1, gf_10_13, ew, e1, if_false, i5j', q0, q1, z', nI_k1, e, z, decide_true, if_true]
    · have z' : tab 2 (k * 3) < hard := Int32.not_le.mp z
      simp only [bX11_cloudOf_9, bX11_cloudOf_12, bX11_cloudOf_15, bX11_cloudOf_19, bX11_cloudOf_22, bX11_cloudOf_30, bX11_cloudOf_31, bX11_cloudOf_41, tk1_some, tk0_some, tkc_some, tkc_none, ↓reduceIte, mw_3 W, mb_o M, gf_10_1, gf_10_13, ew, e1, if_false, i5j', q0, q1, z', z, decide_false, if_true, Bool.false_eq_true]
theorem mcloud (W : MW h b cnt tab n G nm) (ha2 : h a2 = aI N kf) (hN : N < 2 ^ 31) (hc : ∀ i j, i < cuts → j < w → i * 5 + j < N) (Q : ∀ i j, i < cuts → j < w → ∃ k, k < cnt 2 ∧ kf (i * 5 + j) = nI k) (ew : tab 0 1 = nI w) (hw : w ≤ 5) {i : Nat} (hi : i < cuts) {hard : Int32} : tC mX11_cloudOf [.ref 70, .ref a2, .int (nI i), .int hard] h = some (h, some (.int (nI (cloudG (tab 2) kf hard i w 0)))) := by
  have e := mcloud_loop W ha2 hN hc Q ew hw hi (hard := hard) w 0 (by omega)
  rw [nI_0] at e
  rw [cX11_cloudOf_, bX11_cloudOf_0, e]
end MS
end MB
