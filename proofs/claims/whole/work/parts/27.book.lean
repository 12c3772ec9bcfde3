/-! A BOOK of the class: its lines, what is asked of them -/
abbrev bkO (b : Nat) (lo hi : Int32) : va_E := .inr (3, [.ref (b + 1), .ref (b + 3), .ref (b + 5), .ref (b + 7), .ref (b + 9), .ref (b + 11), .ref (b + 13), .int lo, .int hi])
def lnM (l : Nat) : Nat := [1, 1, 5, 6, 6, 6, 5].getD l 0
def lnC (l : Nat) : Nat := [2, 5, 3, 3, 2, 2, 8].getD l 0
def BkAt (h : tm_H) (b : Nat) (lo hi : Int32) (cnt : Nat → Nat) (tab : Nat → Nat → Int32) : Prop :=
  h b = bkO b lo hi ∧ (∀ l, l < 7 → h (b + 1 + 2 * l) = lnO (lnM l) (lnC l) (b + 2 + 2 * l) (cnt l) ∧ h (b + 2 + 2 * l) = aI (lnM l * lnC l) (tab l)) ∧ ∀ l, l < 7 → cnt l ≤ lnM l
section BK
variable {h : tm_H} {b : Nat} {lo hi : Int32} {cnt : Nat → Nat} {tab : Nat → Nat → Int32}
theorem bk_o (H : BkAt h b lo hi cnt tab) : h b = bkO b lo hi := H.1
theorem bk_l0 (H : BkAt h b lo hi cnt tab) : h (b + 1) = lnO 1 2 (b + 2) (cnt 0) := (H.2.1 0 (by decide)).1
theorem bk_l1 (H : BkAt h b lo hi cnt tab) : h (b + 3) = lnO 1 5 (b + 4) (cnt 1) := (H.2.1 1 (by decide)).1
theorem bk_l2 (H : BkAt h b lo hi cnt tab) : h (b + 5) = lnO 5 3 (b + 6) (cnt 2) := (H.2.1 2 (by decide)).1
theorem bk_l3 (H : BkAt h b lo hi cnt tab) : h (b + 7) = lnO 6 3 (b + 8) (cnt 3) := (H.2.1 3 (by decide)).1
theorem bk_l4 (H : BkAt h b lo hi cnt tab) : h (b + 9) = lnO 6 2 (b + 10) (cnt 4) := (H.2.1 4 (by decide)).1
theorem bk_l5 (H : BkAt h b lo hi cnt tab) : h (b + 11) = lnO 6 2 (b + 12) (cnt 5) := (H.2.1 5 (by decide)).1
theorem bk_l6 (H : BkAt h b lo hi cnt tab) : h (b + 13) = lnO 5 8 (b + 14) (cnt 6) := (H.2.1 6 (by decide)).1
theorem bk_a0 (H : BkAt h b lo hi cnt tab) : h (b + 2) = aI 2 (tab 0) := (H.2.1 0 (by decide)).2
theorem bk_a1 (H : BkAt h b lo hi cnt tab) : h (b + 4) = aI 5 (tab 1) := (H.2.1 1 (by decide)).2
theorem bk_a2 (H : BkAt h b lo hi cnt tab) : h (b + 6) = aI 15 (tab 2) := (H.2.1 2 (by decide)).2
theorem bk_a3 (H : BkAt h b lo hi cnt tab) : h (b + 8) = aI 18 (tab 3) := (H.2.1 3 (by decide)).2
theorem bk_a4 (H : BkAt h b lo hi cnt tab) : h (b + 10) = aI 12 (tab 4) := (H.2.1 4 (by decide)).2
theorem bk_a5 (H : BkAt h b lo hi cnt tab) : h (b + 12) = aI 12 (tab 5) := (H.2.1 5 (by decide)).2
theorem bk_a6 (H : BkAt h b lo hi cnt tab) : h (b + 14) = aI 40 (tab 6) := (H.2.1 6 (by decide)).2
theorem bk_c2 (H : BkAt h b lo hi cnt tab) : cnt 2 ≤ 5 := H.2.2 2 (by decide)
theorem bk_c3 (H : BkAt h b lo hi cnt tab) : cnt 3 ≤ 6 := H.2.2 3 (by decide)
theorem bk_c4 (H : BkAt h b lo hi cnt tab) : cnt 4 ≤ 6 := H.2.2 4 (by decide)
theorem bk_c5 (H : BkAt h b lo hi cnt tab) : cnt 5 ≤ 6 := H.2.2 5 (by decide)
theorem bk_c6 (H : BkAt h b lo hi cnt tab) : cnt 6 ≤ 5 := H.2.2 6 (by decide)
/-- an entry of a line -/
theorem bk_at0 (H : BkAt h b lo hi cnt tab) {c : Int32} {c' : Nat} (hc : c = nI c') (hn : 0 < cnt 0) (hc' : c' < 2) : tC mX5_at [.ref (b + 1), .int 0, .int c] h = some (h, some (.int (tab 0 c'))) := by
  exact (ln_at (r := 0) (r' := 0) (bk_l0 H) (bk_a0 H) rfl hc hn hc' (by omega) (Nat.lt_of_le_of_lt (H.2.2 0 (by decide)) (by decide)) (by decide) (by decide)).trans (by simp)
theorem bk_at1 (H : BkAt h b lo hi cnt tab) {c : Int32} {c' : Nat} (hc : c = nI c') (hn : 0 < cnt 1) (hc' : c' < 5) : tC mX5_at [.ref (b + 3), .int 0, .int c] h = some (h, some (.int (tab 1 c'))) := by
  exact (ln_at (r := 0) (r' := 0) (bk_l1 H) (bk_a1 H) rfl hc hn hc' (by omega) (Nat.lt_of_le_of_lt (H.2.2 1 (by decide)) (by decide)) (by decide) (by decide)).trans (by simp)
theorem bk_at2 (H : BkAt h b lo hi cnt tab) {r c : Int32} {r' c' : Nat} (hr : r = nI r') (hc : c = nI c') (hn : r' < cnt 2) (hc' : c' < 3) : tC mX5_at [.ref (b + 5), .int r, .int c] h = some (h, some (.int (tab 2 (r' * 3 + c')))) := ln_at (bk_l2 H) (bk_a2 H) hr hc hn hc' (by have := bk_c2 H; omega) (by have := bk_c2 H; omega) (by decide) (by decide)
theorem bk_at3 (H : BkAt h b lo hi cnt tab) {r c : Int32} {r' c' : Nat} (hr : r = nI r') (hc : c = nI c') (hn : r' < cnt 3) (hc' : c' < 3) : tC mX5_at [.ref (b + 7), .int r, .int c] h = some (h, some (.int (tab 3 (r' * 3 + c')))) := ln_at (bk_l3 H) (bk_a3 H) hr hc hn hc' (by have := bk_c3 H; omega) (by have := bk_c3 H; omega) (by decide) (by decide)
theorem bk_at4 (H : BkAt h b lo hi cnt tab) {r c : Int32} {r' c' : Nat} (hr : r = nI r') (hc : c = nI c') (hn : r' < cnt 4) (hc' : c' < 2) : tC mX5_at [.ref (b + 9), .int r, .int c] h = some (h, some (.int (tab 4 (r' * 2 + c')))) := ln_at (bk_l4 H) (bk_a4 H) hr hc hn hc' (by have := bk_c4 H; omega) (by have := bk_c4 H; omega) (by decide) (by decide)
theorem bk_at5 (H : BkAt h b lo hi cnt tab) {r c : Int32} {r' c' : Nat} (hr : r = nI r') (hc : c = nI c') (hn : r' < cnt 5) (hc' : c' < 2) : tC mX5_at [.ref (b + 11), .int r, .int c] h = some (h, some (.int (tab 5 (r' * 2 + c')))) := ln_at (bk_l5 H) (bk_a5 H) hr hc hn hc' (by have := bk_c5 H; omega) (by have := bk_c5 H; omega) (by decide) (by decide)
theorem bk_at6 (H : BkAt h b lo hi cnt tab) {r c : Int32} {r' c' : Nat} (hr : r = nI r') (hc : c = nI c') (hn : r' < cnt 6) (hc' : c' < 8) : tC mX5_at [.ref (b + 13), .int r, .int c] h = some (h, some (.int (tab 6 (r' * 8 + c')))) := ln_at (bk_l6 H) (bk_a6 H) hr hc hn hc' (by have := bk_c6 H; omega) (by have := bk_c6 H; omega) (by decide) (by decide)
/-- the red of a look, from the k-th on, r left -/
def redG (f : Nat → Int32) (look : Int32) : Nat → Nat → Int32
  | 0, _ => -2
  | r + 1, k => if look < f (k * 2) then redG f look r (k + 1) else if f (k * 2 + 1) < look then redG f look r (k + 1) else nI k
def redS (f : Nat → Int32) (n : Nat) (heat light : Int32) : Int32 := redG f (heat + 15 * light) n 0
theorem red_loop (H : BkAt h b lo hi cnt tab) {x y : Value} {look : Int32} : ∀ r k, k + r = cnt 4 → tE mX3_redOf 10 [.ref b, x, y, .int look, .int (nI k)] [] h = some (h, some (.int (redG (tab 4) look r k))) := by
  have hc := bk_c4 H
  intro r
  induction r with
  | zero =>
    intro k hk
    obtain rfl : k = cnt 4 := by omega
    rw [bX3_redOf_10]
    simp only [bX3_redOf_16, bX3_redOf_19, bX3_redOf_22, bX3_redOf_27, bX3_redOf_33, bX3_redOf_36, bX3_redOf_41, bX3_redOf_47, bX3_redOf_50, bX3_redOf_53, bX3_redOf_59, tk1_some, tk0_some, tkc_some, tkc_none, ↓reduceIte, bk_o H, gf_3_4, bk_l4 H, tm_isO, ln_count (bk_l4 H), Int32.le_refl, if_true, redG]
  | succ r ih =>
    intro k hk
    have e1 : ¬ nI (cnt 4) ≤ nI k := nI_ge (by omega) (by omega)
    have e2 := bk_at4 H (r := nI k) (c := 0) (r' := k) (c' := 0) rfl rfl (by omega) (by decide)
    have e3 := bk_at4 H (r := nI k) (c := 1) (r' := k) (c' := 1) rfl rfl (by omega) (by decide)
    have e4 := ih (k + 1) (by omega)
    rw [bX3_redOf_10]
    simp only [bX3_redOf_16, bX3_redOf_19, bX3_redOf_22, bX3_redOf_27, bX3_redOf_33, bX3_redOf_36, bX3_redOf_41, bX3_redOf_47, bX3_redOf_50, bX3_redOf_53, bX3_redOf_59, tk1_some, tk0_some, tkc_some, tkc_none, ↓reduceIte, bk_o H, gf_3_4, bk_l4 H, tm_isO, ln_count (bk_l4 H), e1, e2, e3, if_false, redG, nI_k1, e4, Nat.add_zero]
    by_cases z : look < tab 4 (k * 2)
    · simp only [z, if_true]
    · by_cases w : tab 4 (k * 2 + 1) < look
      · simp only [z, w, if_true, if_false]
      · simp only [z, w, if_false]
theorem red_spec (H : BkAt h b lo hi cnt tab) {x y : Int32} : tC mX3_redOf [.ref b, .int x, .int y] h = some (h, some (.int (redS (tab 4) (cnt 4) x y))) := by
  rw [cX3_redOf_, bX3_redOf_0]
  have := red_loop H (x := .int x) (y := .int y) (look := x + 15 * y) (cnt 4) 0 (by omega)
  rw [nI_0] at this
  exact this
/-- the kind of a fall, from the k-th turn on, r left -/
def turnG (f : Nat → Int32) (ahead now : Int32) : Nat → Nat → Int32
  | 0, _ => 0
  | r + 1, k => if f (k * 3 + 1) ≤ now then turnG f ahead now r (k + 1) else if ahead < f (k * 3 + 1) then turnG f ahead now r (k + 1) else if ahead - now < f (k * 3 + 2) then turnG f ahead now r (k + 1) else f (k * 3)
def turnS (f : Nat → Int32) (n : Nat) (ahead now : Int32) : Int32 := if ahead ≤ now then 0 else turnG f ahead now n 0
theorem turn_loop (H : BkAt h b lo hi cnt tab) {ahead now : Int32} : ∀ r k (x : Value), k + r = cnt 3 → tE mX3_kindOfFall 25 [.ref b, .int ahead, .int now, .int (nI k), x] [] h = some (h, some (.int (turnG (tab 3) ahead now r k))) := by
  have hc := bk_c3 H
  intro r
  induction r with
  | zero =>
    intro k x hk
    obtain rfl : k = cnt 3 := by omega
    rw [bX3_kindOfFall_25]
    simp only [bX3_kindOfFall_5, bX3_kindOfFall_10, bX3_kindOfFall_13, bX3_kindOfFall_18, bX3_kindOfFall_21, bX3_kindOfFall_23, bX3_kindOfFall_30, bX3_kindOfFall_33, bX3_kindOfFall_36, bX3_kindOfFall_40, bX3_kindOfFall_45, bX3_kindOfFall_53, bX3_kindOfFall_59, bX3_kindOfFall_63, bX3_kindOfFall_68, bX3_kindOfFall_74, bX3_kindOfFall_78, bX3_kindOfFall_83, bX3_kindOfFall_84, bX3_kindOfFall_90, tk1_some, tk0_some, tkc_some, tkc_none, ↓reduceIte, bk_o H, gf_3_3, bk_l3 H, tm_isO, ln_count (bk_l3 H), Int32.le_refl, if_true, turnG]
  | succ r ih =>
    intro k x hk
    have e1 : ¬ nI (cnt 3) ≤ nI k := nI_ge (by omega) (by omega)
    have e2 := bk_at3 H (r := nI k) (c := 1) (r' := k) (c' := 1) rfl rfl (by omega) (by decide)
    have e3 := bk_at3 H (r := nI k) (c := 2) (r' := k) (c' := 2) rfl rfl (by omega) (by decide)
    have e5 := bk_at3 H (r := nI k) (c := 0) (r' := k) (c' := 0) rfl rfl (by omega) (by decide)
    have e4 := fun x => ih (k + 1) x (by omega)
    rw [bX3_kindOfFall_25]
    simp only [bX3_kindOfFall_5, bX3_kindOfFall_10, bX3_kindOfFall_13, bX3_kindOfFall_18, bX3_kindOfFall_21, bX3_kindOfFall_23, bX3_kindOfFall_30, bX3_kindOfFall_33, bX3_kindOfFall_36, bX3_kindOfFall_40, bX3_kindOfFall_45, bX3_kindOfFall_53, bX3_kindOfFall_59, bX3_kindOfFall_63, bX3_kindOfFall_68, bX3_kindOfFall_74, bX3_kindOfFall_78, bX3_kindOfFall_83, bX3_kindOfFall_84, bX3_kindOfFall_90, tk1_some, tk0_some, tkc_some, tkc_none, ↓reduceIte, bk_o H, gf_3_3, bk_l3 H, tm_isO, ln_count (bk_l3 H), e1, e2, e3, e5, if_false, turnG, nI_k1, e4, Nat.add_zero]
    by_cases z : tab 3 (k * 3 + 1) ≤ now
    · simp only [z, if_true]
    · by_cases w : ahead < tab 3 (k * 3 + 1)
      · simp only [z, w, if_true, if_false]
      · by_cases v : ahead - now < tab 3 (k * 3 + 2)
        · simp only [z, w, v, if_true, if_false]
        · simp only [z, w, v, if_false]
theorem turnG_hi {f : Nat → Int32} {ahead now : Int32} : ∀ r k, (∀ t, k ≤ t → t < k + r → f (t * 3 + 1) ≤ now) → turnG f ahead now r k = 0 := by
  intro r
  induction r with
  | zero => intro k _; rfl
  | succ r ih => intro k hk; rw [turnG, if_pos (hk k (Nat.le_refl _) (by omega))]; exact ih (k + 1) (fun t a b => hk t (by omega) (by omega))
theorem turnG_lo {f : Nat → Int32} {ahead now : Int32} : ∀ r k, (∀ t, k ≤ t → t < k + r → ahead < f (t * 3 + 1)) → turnG f ahead now r k = 0 := by
  intro r
  induction r with
  | zero => intro k _; rfl
  | succ r ih =>
    intro k hk
    rw [turnG, if_pos (hk k (Nat.le_refl _) (by omega)), ih (k + 1) (fun t a b => hk t (by omega) (by omega))]
    split <;> rfl
theorem turn_spec (H : BkAt h b lo hi cnt tab) (hlo : ∀ t, t < cnt 3 → lo ≤ tab 3 (t * 3 + 1)) (hhi : ∀ t, t < cnt 3 → tab 3 (t * 3 + 1) ≤ hi) {ahead now : Int32} : tC mX3_kindOfFall [.ref b, .int ahead, .int now] h = some (h, some (.int (turnS (tab 3) (cnt 3) ahead now))) := by
  have e0 := turn_loop H (ahead := ahead) (now := now) (cnt 3) 0 tm_U (by omega)
  rw [nI_0] at e0
  simp only [cX3_kindOfFall_, bX3_kindOfFall_0, bX3_kindOfFall_5, bX3_kindOfFall_10, bX3_kindOfFall_13, bX3_kindOfFall_18, bX3_kindOfFall_21, bX3_kindOfFall_23, bX3_kindOfFall_30, bX3_kindOfFall_33, bX3_kindOfFall_36, bX3_kindOfFall_40, bX3_kindOfFall_45, bX3_kindOfFall_53, bX3_kindOfFall_59, bX3_kindOfFall_63, bX3_kindOfFall_68, bX3_kindOfFall_74, bX3_kindOfFall_78, bX3_kindOfFall_83, bX3_kindOfFall_84, bX3_kindOfFall_90, tk1_some, tk0_some, tkc_some, tkc_none, ↓reduceIte, bk_o H, gf_3_8, gf_3_7, turnS, e0]
  by_cases z : ahead ≤ now
  · simp only [z, if_true]
  · by_cases w : hi ≤ now
    · simp only [z, w, if_true, if_false]
      rw [turnG_hi _ _ (fun t _ ht => Int32.le_trans (hhi t (by omega)) w)]
    · by_cases v : lo ≤ ahead
      · simp only [z, w, v, if_true, if_false]
      · simp only [z, w, v, if_false]
        rw [turnG_lo _ _ (fun t _ ht => Int32.lt_of_lt_of_le (Int32.not_le.mp v) (hlo t (by omega)))]
end BK
