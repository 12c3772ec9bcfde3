/-! TRIALS of the class: ways to clay a cut -/
def useG (sh : Int32) : Nat → Nat → Nat
  | 0, k => k
  | r + 1, k => if sh ≤ 0 then k else if 100 ≤ sh * nI k then k else useG sh r (k + 1)
def dgS (w : Nat) (way j : Int32) : Int32 := way >>> (2 * (nI w - 1 - j) &&& 31) &&& 3
def totW (w : Nat) (way : Int32) : Nat → Int32 := sm (fun j => dgS w way (nI j))
/-- from the k-th digit down -/
def tenW (w : Nat) (way : Int32) : Nat → Int32 → Int32
  | 0, a => a
  | k + 1, a => tenW w way k (a * 10 + dgS w way (nI k))
section WA
variable {t bk w : Nat} {cf : Nat → Int32} {sq lo hi' : Int32} {cnt : Nat → Nat} {tab : Nat → Nat → Int32}
theorem use_loop {h : tm_H} {x0 : Value} {sh : Int32} : ∀ r k, k + r = 3 → tE mX8_usefulClay 15 [x0, .int sh, .int (nI k)] [] h = some (h, some (.int (nI (useG sh r k)))) := by
  intro r
  induction r with
  | zero =>
    intro k hk
    obtain rfl : k = 3 := by omega
    rw [bX8_usefulClay_15]
    simp only [bX8_usefulClay_38, show (3 : Int32) ≤ nI 3 from by decide, if_true, useG]
  | succ r ih =>
    intro k hk
    have e1 : ¬ (3 : Int32) ≤ nI k := fun y => (nI_ge (show k < 3 by omega) (show 3 < 2 ^ 31 by decide)) y
    have e := ih (k + 1) (by omega)
    rw [bX8_usefulClay_15]
    unfold useG
    by_cases c1 : sh ≤ 0
    · simp only [bX8_usefulClay_20, bX8_usefulClay_38, e1, if_false, c1, if_true]
    · by_cases c2 : 100 ≤ sh * nI k
      · simp only [bX8_usefulClay_20, bX8_usefulClay_24, bX8_usefulClay_38, e1, if_false, c1, c2, if_true]
      · simp only [bX8_usefulClay_20, bX8_usefulClay_24, bX8_usefulClay_32, e1, if_false, c1, c2, nI_k1, e]
theorem use_spec {h : tm_H} {D : Nat → Nat → Int32} (H : TrAt h t cf bk w sq D) (K : BkAt h bk lo hi' cnt tab) (k1 : 0 < cnt 1) : tC mX8_usefulClay [.ref t] h = some (h, some (.int (nI (useG (tab 1 2) 3 0)))) := by
  have h0 := H.1
  have e := use_loop (h := h) (x0 := .ref t) (sh := tab 1 2) 3 0 (by omega)
  rw [nI_0] at e
  simp only [cX8_usefulClay_, bX8_usefulClay_0, bX8_usefulClay_4, bX8_usefulClay_7, bX8_usefulClay_12, bX8_usefulClay_20, bX8_usefulClay_24, bX8_usefulClay_32, bX8_usefulClay_38, tk1_some, tk0_some, tkc_some, tkc_none, ↓reduceIte, h0, gf_8_2, bk_o K, gf_3_1, bk_l1 K, tm_isO, bk_at1 K (c := 2) (c' := 2) rfl k1 (by decide), e]
theorem tr_width {h : tm_H} {D : Nat → Nat → Int32} (H : TrAt h t cf bk w sq D) : tC mX4_width [.ref (t + 2)] h = some (h, some (.int (nI w))) := by
  obtain ⟨_, _, _, A, p, q, wa, te, tn, crk, H1, _⟩ := H
  exact ce_width H1
theorem tr_isC {h : tm_H} {D : Nat → Nat → Int32} (H : TrAt h t cf bk w sq D) : tm_isObj (h (t + 2)) 4 = true := by
  obtain ⟨_, _, _, A, p, q, wa, te, tn, crk, H1, _⟩ := H
  rw [ca_o H1]; exact tm_isO
theorem dg_spec {h : tm_H} {D : Nat → Nat → Int32} (H : TrAt h t cf bk w sq D) {way j : Int32} : tC mX8_clayOfWay [.ref t, .int way, .int j] h = some (h, some (.int (dgS w way j))) := by
  have h0 := H.1
  simp only [cX8_clayOfWay_, bX8_clayOfWay_0, bX8_clayOfWay_6, bX8_clayOfWay_9, tk1_some, tk0_some, tkc_some, tkc_none, ↓reduceIte, h0, gf_8_0, tr_isC H, tr_width H]
  rfl
theorem totW_loop {h : tm_H} {D : Nat → Nat → Int32} (H : TrAt h t cf bk w sq D) {way : Int32} : ∀ r j, j + r = w → tE mX8_totalOfWay 4 [.ref t, .int way, .int (totW w way j), .int (nI j)] [] h = some (h, some (.int (totW w way w))) := by
  have h0 := H.1
  have hw := H.2.2.1
  intro r
  induction r with
  | zero =>
    intro j hj
    obtain rfl : j = w := by omega
    rw [bX8_totalOfWay_4]
    simp only [bX8_totalOfWay_9, bX8_totalOfWay_12, bX8_totalOfWay_15, bX8_totalOfWay_22, bX8_totalOfWay_30, tk1_some, tk0_some, tkc_some, tkc_none, ↓reduceIte, h0, gf_8_0, tr_isC H, tr_width H, Int32.le_refl, if_true]
  | succ r ih =>
    intro j hj
    have e1 : ¬ nI w ≤ nI j := nI_ge (by omega) (by omega)
    have e := ih (j + 1) (by omega)
    rw [bX8_totalOfWay_4]
    simp only [bX8_totalOfWay_9, bX8_totalOfWay_12, bX8_totalOfWay_15, bX8_totalOfWay_22, bX8_totalOfWay_30, tk1_some, tk0_some, tkc_some, tkc_none, ↓reduceIte, h0, gf_8_0, tr_isC H, tr_width H, e1, if_false, tm_isO, dg_spec H, nI_k1]
    exact e
theorem totW_spec {h : tm_H} {D : Nat → Nat → Int32} (H : TrAt h t cf bk w sq D) {way : Int32} : tC mX8_totalOfWay [.ref t, .int way] h = some (h, some (.int (totW w way w))) := by
  have e := totW_loop H (way := way) w 0 (by omega)
  rw [nI_0, show totW w way 0 = 0 from rfl] at e
  simp only [cX8_totalOfWay_, bX8_totalOfWay_0, e]
theorem nI_p1 (k : Nat) : nI (k + 1) - 1 = nI k := nI_sub (show 1 ≤ k + 1 by omega)
theorem nI_m1 (k : Nat) : nI (k + 1) + (-1) = nI k := by rw [← Int32.sub_eq_add_neg]; exact nI_p1 k
theorem tenW_loop {h : tm_H} {D : Nat → Nat → Int32} (H : TrAt h t cf bk w sq D) {way : Int32} : ∀ k a, k ≤ 5 → tE mX8_tensOfWay 12 [.ref t, .int way, .int a, .int (nI k - 1)] [] h = some (h, some (.int (tenW w way k a))) := by
  have h0 := H.1
  intro k
  induction k with
  | zero =>
    intro a hk
    rw [bX8_tensOfWay_12]
    simp only [bX8_tensOfWay_34, show nI 0 - 1 < (0 : Int32) from by decide, if_true, tenW]
  | succ k ih =>
    intro a hk
    have e1 : ¬ nI k < 0 := by rw [Int32.not_lt]; exact nI_pos' (show k < 2 ^ 31 by omega)
    have e := ih (a * 10 + dgS w way (nI k)) (by omega)
    rw [nI_p1, bX8_tensOfWay_12]
    unfold tenW
    rw [← e, Int32.sub_eq_add_neg]
    simp only [bX8_tensOfWay_16, bX8_tensOfWay_26, tk1_some, tk0_some, tkc_some, tkc_none, ↓reduceIte, e1, if_false, h0, tm_isO, dg_spec H]
theorem tenW_spec {h : tm_H} {D : Nat → Nat → Int32} (H : TrAt h t cf bk w sq D) {way : Int32} : tC mX8_tensOfWay [.ref t, .int way] h = some (h, some (.int (tenW w way w 0))) := by
  have h0 := H.1
  have e := tenW_loop H (way := way) w 0 H.2.2.1
  simp only [cX8_tensOfWay_, bX8_tensOfWay_0, bX8_tensOfWay_6, bX8_tensOfWay_9, tk1_some, tk0_some, tkc_some, tkc_none, ↓reduceIte, h0, gf_8_0, tr_isC H, tr_width H, e]
end WA
