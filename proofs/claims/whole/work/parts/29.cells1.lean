/-! CELLS of the class: what is read off them -/
abbrev cO (c p q bk cuts w : Nat) (sq water : Int32) (tenth turned : Nat) (crk : Int32) : va_E := .inr (4, [.ref (c + 1), .ref (c + 2), .ref (c + 3), .ref (c + 4), .ref (c + 5), .ref (c + 6), .ref (c + 7), .ref (c + 8), .ref p, .ref q, .ref bk, .int (nI cuts), .int (nI w), .int sq, .int water, .int (nI tenth), .int (nI turned), .int crk])
def CAt (h : tm_H) (c : Nat) (A : Nat → Nat → Int32) (p q bk cuts w : Nat) (sq water : Int32) (tenth turned : Nat) (crk : Int32) : Prop :=
  h c = cO c p q bk cuts w sq water tenth turned crk ∧ (∀ i, i < 8 → h (c + 1 + i) = aI 40 (A i)) ∧ h p = aI 40 (A 8) ∧ h q = aI 40 (A 9) ∧ ((p = c + 9 ∧ q = c + 10) ∨ (p = c + 10 ∧ q = c + 9)) ∧ cuts ≤ 8 ∧ w ≤ 5
def sprd (w j : Nat) : Int32 := 2 * nI j - (nI w - 1)
theorem sprd_0 : ∀ w, w < 6 → 1 - nI w = sprd w 0 := by decide
theorem sprd_s : ∀ w, w < 6 → ∀ j, j < 6 → sprd w j + 2 = sprd w (j + 1) := by decide
theorem i5j (i j : Nat) : nI i * 5 + nI j = nI (i * 5 + j) := by rw [show (5 : Int32) = nI 5 from rfl, nI_mul, nI_add]
def totS (f : Nat → Int32) (w i : Nat) : Int32 := sm (fun j => f (i * 5 + j)) w
def curS (f : Nat → Int32) (w i : Nat) : Int32 := sm (fun j => f (i * 5 + j) * sprd w j) w
def bendS (f : Nat → Int32) (w n : Nat) : Int32 := sm (fun i => curS f w i) n
def pullS (f : Nat → Int32) (w : Nat) (sq : Int32) (i j : Nat) : Int32 := (f (i * 5 + j) * nI w - totS f w i) * sq - curS f w i * sprd w j * nI w
section CE
variable {h : tm_H} {c : Nat} {A : Nat → Nat → Int32} {p q bk cuts w : Nat} {sq water : Int32} {tenth turned : Nat} {crk : Int32}
theorem ca_o (H : CAt h c A p q bk cuts w sq water tenth turned crk) : h c = cO c p q bk cuts w sq water tenth turned crk := H.1
theorem ca_0 (H : CAt h c A p q bk cuts w sq water tenth turned crk) : h (c + 1) = aI 40 (A 0) := H.2.1 0 (by decide)
theorem ca_1 (H : CAt h c A p q bk cuts w sq water tenth turned crk) : h (c + 2) = aI 40 (A 1) := H.2.1 1 (by decide)
theorem ca_2 (H : CAt h c A p q bk cuts w sq water tenth turned crk) : h (c + 3) = aI 40 (A 2) := H.2.1 2 (by decide)
theorem ca_3 (H : CAt h c A p q bk cuts w sq water tenth turned crk) : h (c + 4) = aI 40 (A 3) := H.2.1 3 (by decide)
theorem ca_4 (H : CAt h c A p q bk cuts w sq water tenth turned crk) : h (c + 5) = aI 40 (A 4) := H.2.1 4 (by decide)
theorem ca_5 (H : CAt h c A p q bk cuts w sq water tenth turned crk) : h (c + 6) = aI 40 (A 5) := H.2.1 5 (by decide)
theorem ca_6 (H : CAt h c A p q bk cuts w sq water tenth turned crk) : h (c + 7) = aI 40 (A 6) := H.2.1 6 (by decide)
theorem ca_7 (H : CAt h c A p q bk cuts w sq water tenth turned crk) : h (c + 8) = aI 40 (A 7) := H.2.1 7 (by decide)
theorem ca_p (H : CAt h c A p q bk cuts w sq water tenth turned crk) : h p = aI 40 (A 8) := H.2.2.1
theorem ca_q (H : CAt h c A p q bk cuts w sq water tenth turned crk) : h q = aI 40 (A 9) := H.2.2.2.1
theorem ca_c (H : CAt h c A p q bk cuts w sq water tenth turned crk) : cuts ≤ 8 := H.2.2.2.2.2.1
theorem ca_w (H : CAt h c A p q bk cuts w sq water tenth turned crk) : w ≤ 5 := H.2.2.2.2.2.2
theorem ce_cuts (H : CAt h c A p q bk cuts w sq water tenth turned crk) : tC mX4_cuts [.ref c] h = some (h, some (.int (nI cuts))) := by
  simp only [cX4_cuts_, bX4_cuts_0, bX4_cuts_4, tk1_some, tk0_some, tkc_some, tkc_none, ↓reduceIte, ca_o H, gf_4_11]
theorem ce_width (H : CAt h c A p q bk cuts w sq water tenth turned crk) : tC mX4_width [.ref c] h = some (h, some (.int (nI w))) := by
  simp only [cX4_width_, bX4_width_0, bX4_width_4, tk1_some, tk0_some, tkc_some, tkc_none, ↓reduceIte, ca_o H, gf_4_12]
theorem ce_tenth (H : CAt h c A p q bk cuts w sq water tenth turned crk) : tC mX4_tenth [.ref c] h = some (h, some (.int (nI tenth))) := by
  simp only [cX4_tenth_, bX4_tenth_0, bX4_tenth_4, tk1_some, tk0_some, tkc_some, tkc_none, ↓reduceIte, ca_o H, gf_4_15]
theorem ce_turned (H : CAt h c A p q bk cuts w sq water tenth turned crk) : tC mX4_turned [.ref c] h = some (h, some (.int (nI turned))) := by
  simp only [cX4_turned_, bX4_turned_0, bX4_turned_4, tk1_some, tk0_some, tkc_some, tkc_none, ↓reduceIte, ca_o H, gf_4_16]
theorem ce_wp (H : CAt h c A p q bk cuts w sq water tenth turned crk) : tC mX4_wholePull [.ref c] h = some (h, some (.int (nI w * sq))) := by
  simp only [cX4_wholePull_, bX4_wholePull_0, bX4_wholePull_4, bX4_wholePull_8, tk1_some, tk0_some, tkc_some, tkc_none, ↓reduceIte, ca_o H, gf_4_12, gf_4_13]
theorem ce_isCr (H : CAt h c A p q bk cuts w sq water tenth turned crk) : tC mX4_isCracked [.ref c] h = some (h, some (.int (bI (decide (crk ≠ -1))))) := by
  simp only [cX4_isCracked_, bX4_isCracked_0, bX4_isCracked_4, bX4_isCracked_8, bX4_isCracked_13, bX4_isCracked_12, tk1_some, tk0_some, tkc_some, tkc_none, ↓reduceIte, ca_o H, gf_4_17, tm_rb0, tm_rb1]
  by_cases z : crk = -1
  · simp [z, bI]
  · simp [z, bI]
theorem ce_crA (H : CAt h c A p q bk cuts w sq water tenth turned crk) : tC mX4_crackAlong [.ref c] h = some (h, some (.int (crk / 5))) := by
  simp only [cX4_crackAlong_, bX4_crackAlong_0, bX4_crackAlong_4, tk1_some, tk0_some, tkc_some, tkc_none, ↓reduceIte, ca_o H, gf_4_17]
theorem ce_crX (H : CAt h c A p q bk cuts w sq water tenth turned crk) : tC mX4_crackAcross [.ref c] h = some (h, some (.int (crk - crk / 5 * 5))) := by
  simp only [cX4_crackAcross_, bX4_crackAcross_0, bX4_crackAcross_4, tk1_some, tk0_some, tkc_some, tkc_none, ↓reduceIte, ca_o H, gf_4_17]
def inS (n : Nat) (i : Int32) : Prop := 0 ≤ i ∧ i < nI n
theorem ce_has (H : CAt h c A p q bk cuts w sq water tenth turned crk) {i j : Int32} : tC mX4_has [.ref c, .int i, .int j] h = some (h, some (.int (bI (decide (0 ≤ i) && decide (i < nI cuts) && decide (0 ≤ j) && decide (j < nI w))))) := by
  simp only [cX4_has_, bX4_has_0, bX4_has_4, bX4_has_9, bX4_has_12, bX4_has_16, bX4_has_21, bX4_has_24, bX4_has_29, bX4_has_28, tk1_some, tk0_some, tkc_some, tkc_none, ↓reduceIte, ca_o H, gf_4_11, gf_4_12, tm_rb0, tm_rb1]
  by_cases a : 0 ≤ i <;> by_cases b : i < nI cuts <;> by_cases d : 0 ≤ j <;> by_cases e : j < nI w <;> simp [a, b, d, e, bI, Int32.not_le, Int32.not_lt, Int32.not_lt.mpr, Int32.not_le.mpr, Int32.not_le.mp, Int32.not_lt.mp] <;> simp_all
end CE
