/-! CELLS of the class: curves, pulls, cold, hard -/
section CE2
variable {h : tm_H} {c : Nat} {A : Nat → Nat → Int32} {p q bk cuts w : Nat} {sq water : Int32} {tenth turned : Nat} {crk : Int32}
theorem cur_loop (H : CAt h c A p q bk cuts w sq water tenth turned crk) {i : Nat} (hi : i < 8) : ∀ r j, j + r = w → tE mX4_curveOf 12 [.ref c, .int (nI i), .int (sm (fun j => A 5 (i * 5 + j) * sprd w j) j), .int (sprd w j), .int (nI j)] [] h = some (h, some (.int (curS (A 5) w i))) := by
  have hw := ca_w H
  intro r
  induction r with
  | zero =>
    intro j hj
    obtain rfl : j = w := by omega
    rw [bX4_curveOf_12]
    simp only [bX4_curveOf_7, bX4_curveOf_18, bX4_curveOf_21, bX4_curveOf_26, bX4_curveOf_33, bX4_curveOf_46, tk1_some, tk0_some, tkc_some, tkc_none, ↓reduceIte, ca_o H, gf_4_12, Int32.le_refl, if_true, curS]
  | succ r ih =>
    intro j hj
    have e1 : ¬ nI w ≤ nI j := nI_ge (by omega) (by omega)
    have e4 := ih (j + 1) (by omega)
    rw [bX4_curveOf_12]
    simp only [bX4_curveOf_7, bX4_curveOf_18, bX4_curveOf_21, bX4_curveOf_26, bX4_curveOf_33, bX4_curveOf_46, tk1_some, tk0_some, tkc_some, tkc_none, ↓reduceIte, ca_o H, gf_4_12, gf_4_5, e1, if_false, i5j, ca_5 H, tm_ai_in rfl (show i * 5 + j < 40 by omega) (show 40 < 2 ^ 31 by decide), nI_k1, sprd_s w (by omega) j (by omega)]
    exact e4
theorem cur_spec (H : CAt h c A p q bk cuts w sq water tenth turned crk) {i : Nat} (hi : i < 8) : tC mX4_curveOf [.ref c, .int (nI i)] h = some (h, some (.int (curS (A 5) w i))) := by
  have hw := ca_w H
  have := cur_loop H hi w 0 (by omega)
  rw [nI_0, ← sprd_0 w (by omega), show sm (fun j => A 5 (i * 5 + j) * sprd w j) 0 = 0 from rfl] at this
  simp only [cX4_curveOf_, bX4_curveOf_0, bX4_curveOf_7, bX4_curveOf_18, bX4_curveOf_21, bX4_curveOf_26, bX4_curveOf_33, bX4_curveOf_46, tk1_some, tk0_some, tkc_some, tkc_none, ↓reduceIte, ca_o H, gf_4_12, this]
theorem tot_loop (H : CAt h c A p q bk cuts w sq water tenth turned crk) {i : Nat} (hi : i < 8) : ∀ r j, j + r = w → tE mX4_totalOf 4 [.ref c, .int (nI i), .int (sm (fun j => A 5 (i * 5 + j)) j), .int (nI j)] [] h = some (h, some (.int (totS (A 5) w i))) := by
  have hw := ca_w H
  intro r
  induction r with
  | zero =>
    intro j hj
    obtain rfl : j = w := by omega
    rw [bX4_totalOf_4]
    simp only [bX4_totalOf_9, bX4_totalOf_12, bX4_totalOf_17, bX4_totalOf_23, bX4_totalOf_31, tk1_some, tk0_some, tkc_some, tkc_none, ↓reduceIte, ca_o H, gf_4_12, Int32.le_refl, if_true, totS]
  | succ r ih =>
    intro j hj
    have e1 : ¬ nI w ≤ nI j := nI_ge (by omega) (by omega)
    have e4 := ih (j + 1) (by omega)
    rw [bX4_totalOf_4]
    simp only [bX4_totalOf_9, bX4_totalOf_12, bX4_totalOf_17, bX4_totalOf_23, bX4_totalOf_31, tk1_some, tk0_some, tkc_some, tkc_none, ↓reduceIte, ca_o H, gf_4_12, gf_4_5, e1, if_false, i5j, ca_5 H, tm_ai_in rfl (show i * 5 + j < 40 by omega) (show 40 < 2 ^ 31 by decide), nI_k1]
    exact e4
theorem tot_spec (H : CAt h c A p q bk cuts w sq water tenth turned crk) {i : Nat} (hi : i < 8) : tC mX4_totalOf [.ref c, .int (nI i)] h = some (h, some (.int (totS (A 5) w i))) := by
  have := tot_loop H hi w 0 (by omega)
  rw [nI_0, show sm (fun j => A 5 (i * 5 + j)) 0 = 0 from rfl] at this
  simp only [cX4_totalOf_, bX4_totalOf_0, bX4_totalOf_9, bX4_totalOf_12, bX4_totalOf_17, bX4_totalOf_23, bX4_totalOf_31, tk1_some, tk0_some, tkc_some, tkc_none, ↓reduceIte, this]
theorem pb_spec (H : CAt h c A p q bk cuts w sq water tenth turned crk) {i j : Nat} (hi : i < 8) (hj : j < 5) {t k : Int32} : tC mX4_pullBy [.ref c, .int (nI i), .int (nI j), .int t, .int k] h = some (h, some (.int ((A 5 (i * 5 + j) * nI w - t) * sq - k * sprd w j * nI w))) := by
  simp only [cX4_pullBy_, bX4_pullBy_0, bX4_pullBy_7, bX4_pullBy_16, bX4_pullBy_22, bX4_pullBy_26, bX4_pullBy_33, bX4_pullBy_43, tk1_some, tk0_some, tkc_some, tkc_none, ↓reduceIte, ca_o H, gf_4_12, gf_4_5, gf_4_13, i5j, ca_5 H, tm_ai_in rfl (show i * 5 + j < 40 by omega) (show 40 < 2 ^ 31 by decide), sprd]
theorem bend_loop (H : CAt h c A p q bk cuts w sq water tenth turned crk) : ∀ r i, i + r = cuts → tE mX4_bendNow 4 [.ref c, .int (sm (fun i => curS (A 5) w i) i), .int (nI i)] [] h = some (h, some (.int (bendS (A 5) w cuts))) := by
  have hc := ca_c H
  intro r
  induction r with
  | zero =>
    intro i hi
    obtain rfl : i = cuts := by omega
    rw [bX4_bendNow_4]
    simp only [bX4_bendNow_9, bX4_bendNow_12, bX4_bendNow_18, bX4_bendNow_26, tk1_some, tk0_some, tkc_some, tkc_none, ↓reduceIte, ca_o H, gf_4_11, Int32.le_refl, if_true, bendS]
  | succ r ih =>
    intro i hi
    have e1 : ¬ nI cuts ≤ nI i := nI_ge (by omega) (by omega)
    have e4 := ih (i + 1) (by omega)
    rw [bX4_bendNow_4]
    simp only [bX4_bendNow_9, bX4_bendNow_12, bX4_bendNow_18, bX4_bendNow_26, tk1_some, tk0_some, tkc_some, tkc_none, ↓reduceIte, ca_o H, gf_4_11, e1, if_false, tm_isO, cur_spec H (show i < 8 by omega), nI_k1]
    exact e4
theorem bend_spec (H : CAt h c A p q bk cuts w sq water tenth turned crk) : tC mX4_bendNow [.ref c] h = some (h, some (.int (bendS (A 5) w cuts))) := by
  have := bend_loop H cuts 0 (by omega)
  rw [nI_0, show sm (fun i => curS (A 5) w i) 0 = 0 from rfl] at this
  simp only [cX4_bendNow_, bX4_bendNow_0, bX4_bendNow_9, bX4_bendNow_12, bX4_bendNow_18, bX4_bendNow_26, tk1_some, tk0_some, tkc_some, tkc_none, ↓reduceIte, this]
/-- is a cell's i of the cuts -/
theorem has_in (H : CAt h c A p q bk cuts w sq water tenth turned crk) {i j : Nat} (hi : i < cuts) (hj : j < w) : tC mX4_has [.ref c, .int (nI i), .int (nI j)] h = some (h, some (.int 1)) := by
  have hc := ca_c H
  have hw := ca_w H
  rw [ce_has H, decide_eq_true (nI_pos' (show i < 2 ^ 31 by omega)), decide_eq_true (nI_lt hi (by omega)), decide_eq_true (nI_pos' (show j < 2 ^ 31 by omega)), decide_eq_true (nI_lt hj (by omega))]; rfl
theorem pull_spec (H : CAt h c A p q bk cuts w sq water tenth turned crk) {i j : Nat} (hi : i < cuts) (hj : j < w) : tC mX4_pullOf [.ref c, .int (nI i), .int (nI j)] h = some (h, some (.int (pullS (A 5) w sq i j))) := by
  have hc := ca_c H
  have hw := ca_w H
  simp only [cX4_pullOf_, bX4_pullOf_0, bX4_pullOf_6, bX4_pullOf_9, bX4_pullOf_17, bX4_pullOf_22, bX4_pullOf_25, bX4_pullOf_29, bX4_pullOf_28, tk1_some, tk0_some, tkc_some, tkc_none, ↓reduceIte, ca_o H, tm_isO, has_in H hi hj, show ((1 : Int32) = 0) = False from by decide, if_false, tot_spec H (show i < 8 by omega), cur_spec H (show i < 8 by omega), pb_spec H (show i < 8 by omega) (show j < 5 by omega), pullS]
theorem ce_heat (H : CAt h c A p q bk cuts w sq water tenth turned crk) {i j : Nat} (hi : i < cuts) (hj : j < w) : tC mX4_heatOf [.ref c, .int (nI i), .int (nI j)] h = some (h, some (.int (A 8 (i * 5 + j)))) := by
  have hc := ca_c H
  have hw := ca_w H
  simp only [cX4_heatOf_, bX4_heatOf_0, bX4_heatOf_6, bX4_heatOf_9, bX4_heatOf_13, bX4_heatOf_19, bX4_heatOf_23, bX4_heatOf_22, tk1_some, tk0_some, tkc_some, tkc_none, ↓reduceIte, ca_o H, tm_isO, has_in H hi hj, show ((1 : Int32) = 0) = False from by decide, if_false, gf_4_8, ca_p H, i5j, tm_ai_in rfl (show i * 5 + j < 40 by omega) (show 40 < 2 ^ 31 by decide)]
theorem ce_kind (H : CAt h c A p q bk cuts w sq water tenth turned crk) {i j : Nat} (hi : i < cuts) (hj : j < w) : tC mX4_kindOf [.ref c, .int (nI i), .int (nI j)] h = some (h, some (.int (A 2 (i * 5 + j)))) := by
  have hc := ca_c H
  have hw := ca_w H
  simp only [cX4_kindOf_, bX4_kindOf_0, bX4_kindOf_6, bX4_kindOf_9, bX4_kindOf_13, bX4_kindOf_19, bX4_kindOf_23, bX4_kindOf_22, tk1_some, tk0_some, tkc_some, tkc_none, ↓reduceIte, ca_o H, tm_isO, has_in H hi hj, show ((1 : Int32) = 0) = False from by decide, if_false, gf_4_2, ca_2 H, i5j, tm_ai_in rfl (show i * 5 + j < 40 by omega) (show 40 < 2 ^ 31 by decide)]
theorem ce_clay (H : CAt h c A p q bk cuts w sq water tenth turned crk) {i j : Nat} (hi : i < cuts) (hj : j < w) : tC mX4_clayOf [.ref c, .int (nI i), .int (nI j)] h = some (h, some (.int (A 0 (i * 5 + j)))) := by
  have hc := ca_c H
  have hw := ca_w H
  simp only [cX4_clayOf_, bX4_clayOf_0, bX4_clayOf_6, bX4_clayOf_9, bX4_clayOf_13, bX4_clayOf_19, bX4_clayOf_23, bX4_clayOf_22, tk1_some, tk0_some, tkc_some, tkc_none, ↓reduceIte, ca_o H, tm_isO, has_in H hi hj, show ((1 : Int32) = 0) = False from by decide, if_false, gf_4_0, ca_0 H, i5j, tm_ai_in rfl (show i * 5 + j < 40 by omega) (show 40 < 2 ^ 31 by decide)]
theorem ce_size (H : CAt h c A p q bk cuts w sq water tenth turned crk) {i j : Nat} (hi : i < cuts) (hj : j < w) : tC mX4_sizeOf [.ref c, .int (nI i), .int (nI j)] h = some (h, some (.int (A 5 (i * 5 + j)))) := by
  have hc := ca_c H
  have hw := ca_w H
  simp only [cX4_sizeOf_, bX4_sizeOf_0, bX4_sizeOf_6, bX4_sizeOf_9, bX4_sizeOf_13, bX4_sizeOf_19, bX4_sizeOf_23, bX4_sizeOf_22, tk1_some, tk0_some, tkc_some, tkc_none, ↓reduceIte, ca_o H, tm_isO, has_in H hi hj, show ((1 : Int32) = 0) = False from by decide, if_false, gf_4_5, ca_5 H, i5j, tm_ai_in rfl (show i * 5 + j < 40 by omega) (show 40 < 2 ^ 31 by decide)]
theorem ce_turnT (H : CAt h c A p q bk cuts w sq water tenth turned crk) {i j : Nat} (hi : i < cuts) (hj : j < w) : tC mX4_turnOf [.ref c, .int (nI i), .int (nI j)] h = some (h, some (.int (A 6 (i * 5 + j)))) := by
  have hc := ca_c H
  have hw := ca_w H
  simp only [cX4_turnOf_, bX4_turnOf_0, bX4_turnOf_6, bX4_turnOf_9, bX4_turnOf_13, bX4_turnOf_19, bX4_turnOf_23, bX4_turnOf_22, tk1_some, tk0_some, tkc_some, tkc_none, ↓reduceIte, ca_o H, tm_isO, has_in H hi hj, show ((1 : Int32) = 0) = False from by decide, if_false, gf_4_6, ca_6 H, i5j, tm_ai_in rfl (show i * 5 + j < 40 by omega) (show 40 < 2 ^ 31 by decide)]
theorem ce_led (H : CAt h c A p q bk cuts w sq water tenth turned crk) {k : Nat} (hk : k < turned) (ht : turned ≤ 40) : tC mX4_turnedCell [.ref c, .int (nI k)] h = some (h, some (.int (10 * (A 7 k / 5) + (A 7 k - A 7 k / 5 * 5)))) := by
  have e1 : ¬ nI k < 0 := nI_pos (by omega)
  have e2 : nI k < nI turned := nI_lt hk (by omega)
  simp only [cX4_turnedCell_, bX4_turnedCell_0, bX4_turnedCell_4, bX4_turnedCell_9, bX4_turnedCell_12, bX4_turnedCell_14, bX4_turnedCell_18, bX4_turnedCell_20, tk1_some, tk0_some, tkc_some, tkc_none, ↓reduceIte, ca_o H, gf_4_16, gf_4_7, ca_7 H, e1, e2, if_true, if_false, tm_ai_in rfl (show k < 40 by omega) (show 40 < 2 ^ 31 by decide)]
/-- a row of one cut: are all heats at most 99 -/
def coldR (f : Nat → Int32) (i : Nat) : Nat → Nat → Bool
  | 0, _ => true
  | r + 1, j => if f (i * 5 + j) ≤ 99 then coldR f i r (j + 1) else false
def coldG (f : Nat → Int32) (w : Nat) : Nat → Nat → Bool
  | 0, _ => true
  | r + 1, i => if coldR f i w 0 then coldG f w r (i + 1) else false
theorem cold_in (H : CAt h c A p q bk cuts w sq water tenth turned crk) {i : Nat} (hi : i < 8) : ∀ r j, j + r = w → tE mX4_isCold 12 [.ref c, .int (nI i), .int (nI j)] [] h = if coldR (A 8) i r j then tE mX4_isCold 2 [.ref c, .int (nI (i + 1)), .int (nI w)] [] h else some (h, some (.int 0)) := by
  have hw := ca_w H
  intro r
  induction r with
  | zero =>
    intro j hj
    obtain rfl : j = w := by omega
    rw [bX4_isCold_12]
    simp only [bX4_isCold_7, bX4_isCold_10, bX4_isCold_17, bX4_isCold_20, bX4_isCold_24, bX4_isCold_30, bX4_isCold_35, bX4_isCold_37, bX4_isCold_43, bX4_isCold_49, tk1_some, tk0_some, tkc_some, tkc_none, ↓reduceIte, ca_o H, gf_4_12, Int32.le_refl, if_true, coldR, nI_k1]
  | succ r ih =>
    intro j hj
    have e1 : ¬ nI w ≤ nI j := nI_ge (by omega) (by omega)
    have e4 := ih (j + 1) (by omega)
    rw [bX4_isCold_12]
    simp only [bX4_isCold_7, bX4_isCold_10, bX4_isCold_17, bX4_isCold_20, bX4_isCold_24, bX4_isCold_30, bX4_isCold_35, bX4_isCold_37, bX4_isCold_43, bX4_isCold_49, tk1_some, tk0_some, tkc_some, tkc_none, ↓reduceIte, ca_o H, gf_4_12, gf_4_8, ca_p H, e1, if_false, i5j, tm_ai_in rfl (show i * 5 + j < 40 by omega) (show 40 < 2 ^ 31 by decide), nI_k1, tm_rb0, coldR]
    by_cases z : A 8 (i * 5 + j) ≤ 99
    · simp only [z, if_true, e4]
    · simp only [z, if_false, Bool.false_eq_true]
theorem cold_out (H : CAt h c A p q bk cuts w sq water tenth turned crk) : ∀ r i (x : Value), i + r = cuts → tE mX4_isCold 2 [.ref c, .int (nI i), x] [] h = some (h, some (.int (bI (coldG (A 8) w r i)))) := by
  have hc := ca_c H
  intro r
  induction r with
  | zero =>
    intro i x hi
    obtain rfl : i = cuts := by omega
    rw [bX4_isCold_2]
    simp only [bX4_isCold_7, bX4_isCold_10, bX4_isCold_17, bX4_isCold_20, bX4_isCold_24, bX4_isCold_30, bX4_isCold_35, bX4_isCold_37, bX4_isCold_43, bX4_isCold_49, tk1_some, tk0_some, tkc_some, tkc_none, ↓reduceIte, ca_o H, gf_4_11, Int32.le_refl, if_true, coldG, tm_rb1, bI_t]
  | succ r ih =>
    intro i x hi
    have e1 : ¬ nI cuts ≤ nI i := nI_ge (by omega) (by omega)
    have e2 := cold_in H (show i < 8 by omega) w 0 (by omega)
    rw [nI_0] at e2
    have e4 := ih (i + 1) (.int (nI w)) (by omega)
    rw [bX4_isCold_2]
    simp only [bX4_isCold_7, bX4_isCold_10, bX4_isCold_17, bX4_isCold_20, bX4_isCold_24, bX4_isCold_30, bX4_isCold_35, bX4_isCold_37, bX4_isCold_43, bX4_isCold_49, tk1_some, tk0_some, tkc_some, tkc_none, ↓reduceIte, ca_o H, gf_4_11, e1, if_false, e2, e4, coldG]
    cases coldR (A 8) i w 0 <;> simp [bI]
theorem cold_spec (H : CAt h c A p q bk cuts w sq water tenth turned crk) : tC mX4_isCold [.ref c] h = some (h, some (.int (bI (coldG (A 8) w cuts 0)))) := by
  have := cold_out H cuts 0 tm_U (by omega)
  rw [nI_0] at this
  simp only [cX4_isCold_, bX4_isCold_0, bX4_isCold_7, bX4_isCold_10, bX4_isCold_17, bX4_isCold_20, bX4_isCold_24, bX4_isCold_30, bX4_isCold_35, bX4_isCold_37, bX4_isCold_43, bX4_isCold_49, tk1_some, tk0_some, tkc_some, tkc_none, ↓reduceIte, this]
end CE2
/-- hard by a book's kinds -/
def hardS (kt : Nat → Int32) (kf : Nat → Int32) (hard : Int32) (x : Nat) : Bool := decide (hard ≤ kt ((kf x).toNatClampNeg * 3))
def cloudG (kt kf : Nat → Int32) (hard : Int32) (i : Nat) : Nat → Nat → Nat
  | 0, j => j
  | r + 1, j => if hardS kt kf hard (i * 5 + j) then cloudG kt kf hard i r (j + 1) else j
def behindG (kt kf : Nat → Int32) (hard : Int32) (i : Nat) : Nat → Nat → Bool
  | 0, _ => false
  | r + 1, j => if hardS kt kf hard (i * 5 + j) then true else behindG kt kf hard i r (j + 1)
/-- a chip's two ends -/
def chipL (kt kf : Nat → Int32) (hard : Int32) : Nat → Nat
  | 0 => 0
  | i + 1 => if hardS kt kf hard (i * 5) then chipL kt kf hard i else i + 1
def chipR (kt kf : Nat → Int32) (hard : Int32) : Nat → Nat → Nat
  | 0, i => i
  | r + 1, i => if hardS kt kf hard ((i + 1) * 5) then chipR kt kf hard r (i + 1) else i
section CE3
variable {h : tm_H} {c : Nat} {A : Nat → Nat → Int32} {p q bk cuts w : Nat} {sq water : Int32} {tenth turned : Nat} {crk : Int32}
variable {lo hi : Int32} {cnt : Nat → Nat} {tab : Nat → Nat → Int32}
/-- the kinds of the cells are kinds of the book -/
def KOk (A : Nat → Nat → Int32) (cuts w n : Nat) : Prop := ∀ i j, i < cuts → j < w → ∃ k, k < n ∧ A 2 (i * 5 + j) = nI k
theorem hard_spec (H : CAt h c A p q bk cuts w sq water tenth turned crk) (B : BkAt h bk lo hi cnt tab) (K : KOk A cuts w (cnt 2)) {i j : Nat} (hi : i < cuts) (hj : j < w) {hard : Int32} : tC mX4_isHard [.ref c, .int (nI i), .int (nI j), .int hard] h = some (h, some (.int (bI (hardS (tab 2) (A 2) hard (i * 5 + j))))) := by
  obtain ⟨k, hk, e⟩ := K i j hi hj
  have hc2 := bk_c2 B
  have e2 := bk_at2 B (r := A 2 (i * 5 + j)) (c := 0) (r' := k) (c' := 0) e rfl hk (by decide)
  have e3 : hardS (tab 2) (A 2) hard (i * 5 + j) = decide (hard ≤ tab 2 (k * 3)) := by unfold hardS; rw [e, nI_clamp (by omega)]
  simp only [cX4_isHard_, bX4_isHard_0, bX4_isHard_6, bX4_isHard_9, bX4_isHard_13, bX4_isHard_16, bX4_isHard_22, bX4_isHard_26, bX4_isHard_30, bX4_isHard_35, bX4_isHard_34, tk1_some, tk0_some, tkc_some, tkc_none, ↓reduceIte, ca_o H, tm_isO, has_in H hi hj, show ((1 : Int32) = 0) = False from by decide, if_false, gf_4_10, bk_o B, gf_3_2, bk_l2 B, ce_kind H hi hj, e2, Nat.add_zero, e3, tm_rb0, tm_rb1]
  by_cases z : hard ≤ tab 2 (k * 3)
  · simp [z, bI, Int32.not_lt.mpr z]
  · simp [z, bI, Int32.not_le.mp z]
theorem cloud_loop (H : CAt h c A p q bk cuts w sq water tenth turned crk) (B : BkAt h bk lo hi cnt tab) (K : KOk A cuts w (cnt 2)) {i : Nat} (hi : i < cuts) {hard : Int32} : ∀ r j, j + r = w → tE mX4_cloudOf 2 [.ref c, .int (nI i), .int hard, .int (nI j)] [] h = some (h, some (.int (nI (cloudG (tab 2) (A 2) hard i r j)))) := by
  have hw := ca_w H
  intro r
  induction r with
  | zero =>
    intro j hj
    obtain rfl : j = w := by omega
    rw [bX4_cloudOf_2]
    simp only [bX4_cloudOf_7, bX4_cloudOf_10, bX4_cloudOf_17, bX4_cloudOf_20, bX4_cloudOf_26, tk1_some, tk0_some, tkc_some, tkc_none, ↓reduceIte, ca_o H, gf_4_12, Int32.le_refl, if_true, cloudG]
  | succ r ih =>
    intro j hj
    have e1 : ¬ nI w ≤ nI j := nI_ge (by omega) (by omega)
    have e4 := ih (j + 1) (by omega)
    rw [bX4_cloudOf_2]
    simp only [bX4_cloudOf_7, bX4_cloudOf_10, bX4_cloudOf_17, bX4_cloudOf_20, bX4_cloudOf_26, tk1_some, tk0_some, tkc_some, tkc_none, ↓reduceIte, ca_o H, gf_4_12, tm_isO, e1, if_false, hard_spec H B K hi (show j < w by omega), nI_k1, e4, cloudG, bI_0]
    cases hardS (tab 2) (A 2) hard (i * 5 + j) <;> simp
theorem cloud_spec (H : CAt h c A p q bk cuts w sq water tenth turned crk) (B : BkAt h bk lo hi cnt tab) (K : KOk A cuts w (cnt 2)) {i : Nat} (hi : i < cuts) {hard : Int32} : tC mX4_cloudOf [.ref c, .int (nI i), .int hard] h = some (h, some (.int (nI (cloudG (tab 2) (A 2) hard i w 0)))) := by
  have := cloud_loop H B K hi (hard := hard) w 0 (by omega)
  rw [nI_0] at this
  simp only [cX4_cloudOf_, bX4_cloudOf_0, bX4_cloudOf_7, bX4_cloudOf_10, bX4_cloudOf_17, bX4_cloudOf_20, bX4_cloudOf_26, tk1_some, tk0_some, tkc_some, tkc_none, ↓reduceIte, this]
theorem behind_loop (H : CAt h c A p q bk cuts w sq water tenth turned crk) (B : BkAt h bk lo hi cnt tab) (K : KOk A cuts w (cnt 2)) {i : Nat} (hi : i < cuts) {hard : Int32} {y : Value} : ∀ r j, j + r = w → tE mX4_isHardBehind 3 [.ref c, .int (nI i), y, .int hard, .int (nI j)] [] h = some (h, some (.int (bI (behindG (tab 2) (A 2) hard i r j)))) := by
  have hw := ca_w H
  intro r
  induction r with
  | zero =>
    intro j hj
    obtain rfl : j = w := by omega
    rw [bX4_isHardBehind_3]
    simp only [bX4_isHardBehind_9, bX4_isHardBehind_12, bX4_isHardBehind_20, bX4_isHardBehind_23, bX4_isHardBehind_25, bX4_isHardBehind_31, tk1_some, tk0_some, tkc_some, tkc_none, ↓reduceIte, ca_o H, gf_4_12, Int32.le_refl, if_true, behindG, tm_rb0, bI_f]
  | succ r ih =>
    intro j hj
    have e1 : ¬ nI w ≤ nI j := nI_ge (by omega) (by omega)
    have e4 := ih (j + 1) (by omega)
    rw [bX4_isHardBehind_3]
    simp only [bX4_isHardBehind_9, bX4_isHardBehind_12, bX4_isHardBehind_20, bX4_isHardBehind_23, bX4_isHardBehind_25, bX4_isHardBehind_31, tk1_some, tk0_some, tkc_some, tkc_none, ↓reduceIte, ca_o H, gf_4_12, tm_isO, e1, if_false, hard_spec H B K hi (show j < w by omega), nI_k1, e4, behindG, bI_0, tm_rb1]
    cases hardS (tab 2) (A 2) hard (i * 5 + j) <;> simp [bI]
theorem behind_spec (H : CAt h c A p q bk cuts w sq water tenth turned crk) (B : BkAt h bk lo hi cnt tab) (K : KOk A cuts w (cnt 2)) {i : Nat} (hi : i < cuts) {hard : Int32} {j : Nat} (hj : j ≤ w) : tC mX4_isHardBehind [.ref c, .int (nI i), .int (nI j), .int hard] h = some (h, some (.int (bI (behindG (tab 2) (A 2) hard i (w - j) j)))) := by
  have := behind_loop H B K hi (hard := hard) (y := .int (nI j)) (w - j) j (by omega)
  simp only [cX4_isHardBehind_, bX4_isHardBehind_0, bX4_isHardBehind_9, bX4_isHardBehind_12, bX4_isHardBehind_20, bX4_isHardBehind_23, bX4_isHardBehind_25, bX4_isHardBehind_31, tk1_some, tk0_some, tkc_some, tkc_none, ↓reduceIte, this]
theorem chipL_loop (H : CAt h c A p q bk cuts w sq water tenth turned crk) (B : BkAt h bk lo hi cnt tab) (K : KOk A cuts w (cnt 2)) (hw0 : 0 < w) {hard : Int32} {y z : Value} : ∀ i, i < cuts → tE mX4_chipFrom 14 [.ref c, y, .int hard, .int (nI i), z] [] h = tE mX4_chipFrom 36 [.ref c, y, .int hard, .int (nI (chipL (tab 2) (A 2) hard i)), z] [] h := by
  have hc := ca_c H
  intro i
  induction i with
  | zero =>
    intro _
    rw [bX4_chipFrom_14, if_pos (by decide)]; rfl
  | succ i ih =>
    intro hi
    have e1 : ¬ nI (i + 1) ≤ 0 := nI_nle (by omega) (by omega)
    have e3 : nI (i + 1) - 1 = nI i := nI_pred i
    have e5 : nI (i + 1) + (-1) = nI i := by rw [← e3]; exact (Int32.sub_eq_add_neg _ _).symm
    have e2 := hard_spec H B K (i := i) (j := 0) (by omega) hw0 (hard := hard)
    rw [nI_0] at e2
    have e4 := ih (by omega)
    rw [bX4_chipFrom_14]
    simp only [bX4_chipFrom_7, bX4_chipFrom_10, bX4_chipFrom_12, bX4_chipFrom_18, bX4_chipFrom_27, bX4_chipFrom_30, bX4_chipFrom_47, bX4_chipFrom_50, bX4_chipFrom_60, bX4_chipFrom_63, bX4_chipFrom_69, tk1_some, tk0_some, tkc_some, tkc_none, ↓reduceIte, ca_o H, tm_isO, e1, if_false, e3, e5, e2, chipL, bI_0, Nat.add_zero]
    cases hardS (tab 2) (A 2) hard (i * 5) <;> simp [e4]
theorem chipR_loop (H : CAt h c A p q bk cuts w sq water tenth turned crk) (B : BkAt h bk lo hi cnt tab) (K : KOk A cuts w (cnt 2)) (hw0 : 0 < w) {hard : Int32} {y : Value} {f : Int32} : ∀ r i, i + 1 + r = cuts → tE mX4_chipFrom 39 [.ref c, y, .int hard, .int f, .int (nI i)] [] h = some (h, some (.int (nI (chipR (tab 2) (A 2) hard r i) - f + 1))) := by
  have hc := ca_c H
  intro r
  induction r with
  | zero =>
    intro i hi
    obtain rfl : cuts = i + 1 := by omega
    rw [bX4_chipFrom_39]
    simp only [bX4_chipFrom_7, bX4_chipFrom_10, bX4_chipFrom_12, bX4_chipFrom_18, bX4_chipFrom_27, bX4_chipFrom_30, bX4_chipFrom_47, bX4_chipFrom_50, bX4_chipFrom_60, bX4_chipFrom_63, bX4_chipFrom_69, tk1_some, tk0_some, tkc_some, tkc_none, ↓reduceIte, ca_o H, gf_4_11, nI_k1, Int32.le_refl, if_true, chipR]
  | succ r ih =>
    intro i hi
    have e1 : ¬ nI cuts ≤ nI (i + 1) := nI_ge (by omega) (by omega)
    have e2 := hard_spec H B K (i := i + 1) (j := 0) (by omega) hw0 (hard := hard)
    rw [nI_0] at e2
    have e4 := ih (i + 1) (by omega)
    rw [bX4_chipFrom_39]
    simp only [bX4_chipFrom_7, bX4_chipFrom_10, bX4_chipFrom_12, bX4_chipFrom_18, bX4_chipFrom_27, bX4_chipFrom_30, bX4_chipFrom_47, bX4_chipFrom_50, bX4_chipFrom_60, bX4_chipFrom_63, bX4_chipFrom_69, tk1_some, tk0_some, tkc_some, tkc_none, ↓reduceIte, ca_o H, gf_4_11, tm_isO, nI_k1, e1, if_false, e2, chipR, bI_0, Nat.add_zero]
    cases hardS (tab 2) (A 2) hard ((i + 1) * 5) <;> simp [e4]
def chipS (kt kf : Nat → Int32) (hard : Int32) (n i : Nat) : Int32 := if hardS kt kf hard (i * 5) then nI (chipR kt kf hard (n - 1 - i) i) - nI (chipL kt kf hard i) + 1 else 0
theorem chip_spec (H : CAt h c A p q bk cuts w sq water tenth turned crk) (B : BkAt h bk lo hi cnt tab) (K : KOk A cuts w (cnt 2)) (hw0 : 0 < w) {hard : Int32} {i : Nat} (hi : i < cuts) : tC mX4_chipFrom [.ref c, .int (nI i), .int hard] h = some (h, some (.int (chipS (tab 2) (A 2) hard cuts i))) := by
  have e2 := hard_spec H B K (i := i) (j := 0) hi hw0 (hard := hard)
  rw [nI_0] at e2
  have e3 := chipL_loop H B K hw0 (hard := hard) (y := .int (nI i)) (z := tm_U) i hi
  have e4 := fun f => chipR_loop H B K hw0 (hard := hard) (y := .int (nI i)) (f := f) (cuts - 1 - i) i (by omega)
  simp only [cX4_chipFrom_, bX4_chipFrom_0, bX4_chipFrom_7, bX4_chipFrom_10, bX4_chipFrom_12, bX4_chipFrom_18, bX4_chipFrom_27, bX4_chipFrom_30, bX4_chipFrom_36, bX4_chipFrom_47, bX4_chipFrom_50, bX4_chipFrom_60, bX4_chipFrom_63, bX4_chipFrom_69, tk1_some, tk0_some, tkc_some, tkc_none, ↓reduceIte, ca_o H, tm_isO, e2, bI_n, e3, e4, chipS, Nat.add_zero]
  cases hardS (tab 2) (A 2) hard (i * 5) <;> simp
end CE3
