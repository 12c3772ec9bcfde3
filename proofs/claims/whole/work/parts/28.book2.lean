/-! A BOOK of the class: stones, smiths, turns marked -/
theorem tm_nl_i {x : Int32} : tm_nl (.int x) = true := rfl
theorem tm_nl_r {x : Nat} : tm_nl (.ref x) = true := rfl
theorem tm_nl_U : tm_nl tm_U = true := rfl
/-- days of some stones -/
def daysG (f : Nat → Int32) (s : Int32) : Nat → Nat → Int32 → Int32
  | 0, _, a => a
  | r + 1, k, a => if ((s >>> (nI k &&& 31)) &&& 1) = 1 then daysG f s r (k + 1) (a + f (k * 2)) else daysG f s r (k + 1) a
def daysS (f : Nat → Int32) (n : Nat) (s : Int32) : Int32 := daysG f s n 0 0
def signG (f : Nat → Int32) (s : Int32) : Nat → Nat → Int32 → Int32
  | 0, _, a => a
  | r + 1, k, a => if ((s >>> (nI k &&& 31)) &&& 1) = 1 then signG f s r (k + 1) (a ||| f (k * 2 + 1)) else signG f s r (k + 1) a
def signS (f : Nat → Int32) (n : Nat) (s : Int32) : Int32 := signG f s n 0 0
/-- the stones that show what is asked, from the k-th set on, r left -/
def stG (f : Nat → Int32) (n : Nat) (signs : Int32) : Nat → Nat → Int32 → Int32 → Int32
  | 0, _, b, _ => b
  | r + 1, k, b, w => if (b = -1 ∨ daysS f n (nI k) < w) ∧ (signs &&& (signS f n (nI k) ^^^ (-1))) = 0 then stG f n signs r (k + 1) (nI k) (daysS f n (nI k)) else stG f n signs r (k + 1) b w
def stS (f : Nat → Int32) (n : Nat) (signs : Int32) : Int32 := stG f n signs (2 ^ n) 0 (-1) 0
/-- a smith's product -/
def prodG (f : Nat → Int32) (s : Int32) : Nat → Nat → Int64 → Int64
  | 0, _, p => p
  | r + 1, k, p => if ((s >>> (nI k &&& 31)) &&& 1) = 1 then prodG f s r (k + 1) (p * (f k).toInt64) else prodG f s r (k + 1) p
def prodS (f : Nat → Int32) (m : Nat) (s : Int32) : Int64 := prodG (fun k => f (m * 8 + k)) s 8 0 1
def allG (f : Nat → Int32) (s : Int32) : Nat → Nat → Int64 → Int64
  | 0, _, a => a
  | r + 1, k, a => allG f s r (k + 1) (a + prodS f k s)
def likeG (f : Nat → Int32) (s : Int32) : Nat → Nat → Int32 → Int64 → Int32
  | 0, _, b, _ => b
  | r + 1, k, b, g => if lg_cmp (prodS f k s) g ≤ 0 then likeG f s r (k + 1) b g else likeG f s r (k + 1) (nI k) (prodS f k s)
section BK2
variable {h : tm_H} {b : Nat} {lo hi : Int32} {cnt : Nat → Nat} {tab : Nat → Nat → Int32}
theorem days_loop (H : BkAt h b lo hi cnt tab) {s : Int32} : ∀ r k a, k + r = cnt 5 → tE mX3_daysOf 4 [.ref b, .int s, .int a, .int (nI k)] [] h = some (h, some (.int (daysG (tab 5) s r k a))) := by
  have hc := bk_c5 H
  intro r
  induction r with
  | zero =>
    intro k a hk
    obtain rfl : k = cnt 5 := by omega
    rw [bX3_daysOf_4]
    simp only [bX3_daysOf_9, bX3_daysOf_12, bX3_daysOf_15, bX3_daysOf_24, bX3_daysOf_29, bX3_daysOf_34, bX3_daysOf_36, bX3_daysOf_42, tk1_some, tk0_some, tkc_some, tkc_none, ↓reduceIte, bk_o H, gf_3_5, bk_l5 H, tm_isO, ln_count (bk_l5 H), Int32.le_refl, if_true, daysG]
  | succ r ih =>
    intro k a hk
    have e1 : ¬ nI (cnt 5) ≤ nI k := nI_ge (by omega) (by omega)
    have e2 := bk_at5 H (r := nI k) (c := 0) (r' := k) (c' := 0) rfl rfl (by omega) (by decide)
    have e4 := fun a => ih (k + 1) a (by omega)
    rw [bX3_daysOf_4]
    simp only [bX3_daysOf_9, bX3_daysOf_12, bX3_daysOf_15, bX3_daysOf_24, bX3_daysOf_29, bX3_daysOf_34, bX3_daysOf_36, bX3_daysOf_42, tk1_some, tk0_some, tkc_some, tkc_none, ↓reduceIte, bk_o H, gf_3_5, bk_l5 H, tm_isO, ln_count (bk_l5 H), e1, e2, if_false, daysG, nI_k1, e4, Nat.add_zero]
    by_cases z : ((s >>> (nI k &&& 31)) &&& 1) = 1
    · simp only [z, not_true, if_true, if_false]
    · simp only [z, not_false_eq_true, if_true, if_false]
theorem days_spec (H : BkAt h b lo hi cnt tab) {s : Int32} : tC mX3_daysOf [.ref b, .int s] h = some (h, some (.int (daysS (tab 5) (cnt 5) s))) := by
  rw [cX3_daysOf_, bX3_daysOf_0]
  have := days_loop H (s := s) (cnt 5) 0 0 (by omega)
  rw [nI_0] at this
  exact this
theorem sign_loop (H : BkAt h b lo hi cnt tab) {s : Int32} : ∀ r k a, k + r = cnt 5 → tE mX3_signsOf 4 [.ref b, .int s, .int a, .int (nI k)] [] h = some (h, some (.int (signG (tab 5) s r k a))) := by
  have hc := bk_c5 H
  intro r
  induction r with
  | zero =>
    intro k a hk
    obtain rfl : k = cnt 5 := by omega
    rw [bX3_signsOf_4]
    simp only [bX3_signsOf_9, bX3_signsOf_12, bX3_signsOf_15, bX3_signsOf_24, bX3_signsOf_29, bX3_signsOf_34, bX3_signsOf_36, bX3_signsOf_42, tk1_some, tk0_some, tkc_some, tkc_none, ↓reduceIte, bk_o H, gf_3_5, bk_l5 H, tm_isO, ln_count (bk_l5 H), Int32.le_refl, if_true, signG]
  | succ r ih =>
    intro k a hk
    have e1 : ¬ nI (cnt 5) ≤ nI k := nI_ge (by omega) (by omega)
    have e2 := bk_at5 H (r := nI k) (c := 1) (r' := k) (c' := 1) rfl rfl (by omega) (by decide)
    have e4 := fun a => ih (k + 1) a (by omega)
    rw [bX3_signsOf_4]
    simp only [bX3_signsOf_9, bX3_signsOf_12, bX3_signsOf_15, bX3_signsOf_24, bX3_signsOf_29, bX3_signsOf_34, bX3_signsOf_36, bX3_signsOf_42, tk1_some, tk0_some, tkc_some, tkc_none, ↓reduceIte, bk_o H, gf_3_5, bk_l5 H, tm_isO, ln_count (bk_l5 H), e1, e2, if_false, signG, nI_k1, e4]
    by_cases z : ((s >>> (nI k &&& 31)) &&& 1) = 1
    · simp only [z, not_true, if_true, if_false]
    · simp only [z, not_false_eq_true, if_true, if_false]
theorem sign_spec (H : BkAt h b lo hi cnt tab) {s : Int32} : tC mX3_signsOf [.ref b, .int s] h = some (h, some (.int (signS (tab 5) (cnt 5) s))) := by
  rw [cX3_signsOf_, bX3_signsOf_0]
  have := sign_loop H (s := s) (cnt 5) 0 0 (by omega)
  rw [nI_0] at this
  exact this
theorem st_loop (H : BkAt h b lo hi cnt tab) {signs : Int32} {N : Nat} (hN : N ≤ 64) : ∀ r k w v (x : Value), k + r = N → tE mX3_stonesThatShow 18 [.ref b, .int signs, .int w, .int v, .int (nI N), .int (nI k), x] [] h = some (h, some (.int (stG (tab 5) (cnt 5) signs r k w v))) := by
  intro r
  induction r with
  | zero =>
    intro k w v x hk
    obtain rfl : k = N := by omega
    rw [bX3_stonesThatShow_18]
    simp only [bX3_stonesThatShow_9, bX3_stonesThatShow_12, bX3_stonesThatShow_25, bX3_stonesThatShow_31, bX3_stonesThatShow_38, bX3_stonesThatShow_44, bX3_stonesThatShow_51, bX3_stonesThatShow_57, bX3_stonesThatShow_63, bX3_stonesThatShow_69, tk1_some, tk0_some, tkc_some, tkc_none, ↓reduceIte, Int32.le_refl, if_true, stG]
  | succ r ih =>
    intro k w v x hk
    have e1 : ¬ nI N ≤ nI k := nI_ge (by omega) (by omega)
    have e4 := fun w v x => ih (k + 1) w v x (by omega)
    rw [bX3_stonesThatShow_18]
    simp only [bX3_stonesThatShow_9, bX3_stonesThatShow_12, bX3_stonesThatShow_25, bX3_stonesThatShow_31, bX3_stonesThatShow_38, bX3_stonesThatShow_44, bX3_stonesThatShow_51, bX3_stonesThatShow_57, bX3_stonesThatShow_63, bX3_stonesThatShow_69, tk1_some, tk0_some, tkc_some, tkc_none, ↓reduceIte, bk_o H, tm_isO, days_spec H, sign_spec H, e1, if_false, stG, nI_k1, e4]
    by_cases z : (signs &&& (signS (tab 5) (cnt 5) (nI k) ^^^ (-1))) = 0
    · by_cases y : w = -1
      · simp only [z, y, not_true, if_true, if_false, true_or, and_self]
      · by_cases t : daysS (tab 5) (cnt 5) (nI k) < v
        · simp only [z, y, t, Int32.not_le.mpr t, not_true, if_true, if_false, or_true, and_self]
        · simp only [z, y, t, Int32.not_lt.mp t, not_true, if_true, if_false, or_self, and_true]
    · by_cases y : w = -1
      · simp only [z, y, not_false_eq_true, if_true, if_false, and_false]
      · by_cases t : daysS (tab 5) (cnt 5) (nI k) < v
        · simp only [z, y, t, Int32.not_le.mpr t, not_false_eq_true, if_true, if_false, and_false]
        · simp only [z, y, t, Int32.not_lt.mp t, if_true, if_false, and_false]
theorem shl1 {n : Nat} (hn : n ≤ 6) : (1 : Int32) <<< (nI n &&& 31) = nI (2 ^ n) := by
  rcases (show n = 0 ∨ n = 1 ∨ n = 2 ∨ n = 3 ∨ n = 4 ∨ n = 5 ∨ n = 6 by omega) with rfl | rfl | rfl | rfl | rfl | rfl | rfl <;> decide
theorem st_spec (H : BkAt h b lo hi cnt tab) {signs : Int32} : tC mX3_stonesThatShow [.ref b, .int signs] h = some (h, some (.int (stS (tab 5) (cnt 5) signs))) := by
  have hc := bk_c5 H
  have hp : 2 ^ cnt 5 ≤ 64 := by
    have : 2 ^ cnt 5 ≤ 2 ^ 6 := Nat.pow_le_pow_right (by decide) hc
    exact this
  have := st_loop H (signs := signs) hp (2 ^ cnt 5) 0 (-1) 0 tm_U (by omega)
  rw [nI_0] at this
  simp only [cX3_stonesThatShow_, bX3_stonesThatShow_0, bX3_stonesThatShow_9, bX3_stonesThatShow_12, bX3_stonesThatShow_25, bX3_stonesThatShow_31, bX3_stonesThatShow_38, bX3_stonesThatShow_44, bX3_stonesThatShow_51, bX3_stonesThatShow_57, bX3_stonesThatShow_63, bX3_stonesThatShow_69, tk1_some, tk0_some, tkc_some, tkc_none, ↓reduceIte, bk_o H, gf_3_5, bk_l5 H, tm_isO, ln_count (bk_l5 H), shl1 hc, this, stS]
theorem prod_loop (H : BkAt h b lo hi cnt tab) {s : Int32} {m : Nat} (hm : m < cnt 6) : ∀ r k p, k + r = 8 → tE mX3_productOf 5 [.ref b, .int (nI m), .int s, .long p, tm_U, .int (nI k)] [] h = some (h, some (.long (prodG (fun k => tab 6 (m * 8 + k)) s r k p))) := by
  intro r
  induction r with
  | zero =>
    intro k p hk
    obtain rfl : k = 8 := by omega
    rw [bX3_productOf_5, if_pos (by decide), bX3_productOf_42]; rfl
  | succ r ih =>
    intro k p hk
    have e1 : ¬ 8 ≤ nI k := nI_ge (a := k) (b := 8) (by omega) (by decide)
    have e2 := bk_at6 H (r := nI m) (c := nI k) (r' := m) (c' := k) rfl rfl hm (by omega)
    have e4 := fun p => ih (k + 1) p (by omega)
    rw [bX3_productOf_5]
    simp only [bX3_productOf_12, bX3_productOf_22, bX3_productOf_27, bX3_productOf_42, bX3_productOf_33 (a2 := .int s) rfl, bX3_productOf_36 (a4 := tm_U) rfl, tk1_some, tk0_some, tkc_some, tkc_none, ↓reduceIte, bk_o H, gf_3_6, bk_l6 H, tm_isO, e1, e2, if_false, prodG, nI_k1, e4]
    by_cases z : ((s >>> (nI k &&& 31)) &&& 1) = 1
    · simp only [z, not_true, if_true, if_false]
    · simp only [z, not_false_eq_true, if_true, if_false]
theorem prod_spec (H : BkAt h b lo hi cnt tab) {s : Int32} {m : Nat} (hm : m < cnt 6) : tC mX3_productOf [.ref b, .int (nI m), .int s] h = some (h, some (.long (prodS (tab 6) m s))) := by
  have := prod_loop H (s := s) hm 8 0 1 (by omega)
  rw [nI_0] at this
  rw [cX3_productOf_, bX3_productOf_0 (by rfl), this]; rfl
theorem all_loop (H : BkAt h b lo hi cnt tab) {s : Int32} : ∀ r k a, k + r = cnt 6 → tE mX3_productOfAll 5 [.ref b, .int s, .long a, tm_U, .int (nI k)] [] h = some (h, some (.long (allG (tab 6) s r k a))) := by
  have hc := bk_c6 H
  intro r
  induction r with
  | zero =>
    intro k a hk
    obtain rfl : k = cnt 6 := by omega
    rw [bX3_productOfAll_5]
    simp only [bX3_productOfAll_11, bX3_productOfAll_14, bX3_productOfAll_17, bX3_productOfAll_25, bX3_productOfAll_33, tk1_some, tk0_some, tkc_some, tkc_none, ↓reduceIte, bk_o H, gf_3_6, bk_l6 H, tm_isO, ln_count (bk_l6 H), Int32.le_refl, if_true, allG]
  | succ r ih =>
    intro k a hk
    have e1 : ¬ nI (cnt 6) ≤ nI k := nI_ge (by omega) (by omega)
    have e4 := fun a => ih (k + 1) a (by omega)
    rw [bX3_productOfAll_5]
    simp only [bX3_productOfAll_11, bX3_productOfAll_14, bX3_productOfAll_17, bX3_productOfAll_33, bX3_productOfAll_25 (a1 := .int s) rfl, tk1_some, tk0_some, tkc_some, tkc_none, ↓reduceIte, bk_o H, gf_3_6, bk_l6 H, tm_isO, ln_count (bk_l6 H), e1, prod_spec H (s := s) (show k < cnt 6 by omega), if_false, allG, nI_k1, e4, tm_nl_i]
theorem all_spec (H : BkAt h b lo hi cnt tab) {s : Int32} : tC mX3_productOfAll [.ref b, .int s] h = some (h, some (.long (allG (tab 6) s (cnt 6) 0 0))) := by
  have := all_loop H (s := s) (cnt 6) 0 0 (by omega)
  rw [nI_0] at this
  rw [cX3_productOfAll_, bX3_productOfAll_0 (by rfl), this]
theorem like_loop (H : BkAt h b lo hi cnt tab) {s : Int32} : ∀ r k w g (x y : Value), k + r = cnt 6 → tE mX3_likeliestSmith 7 [.ref b, .int s, .int w, .long g, tm_U, .int (nI k), x, y] [] h = some (h, some (.int (likeG (tab 6) s r k w g))) := by
  have hc := bk_c6 H
  intro r
  induction r with
  | zero =>
    intro k w g x y hk
    obtain rfl : k = cnt 6 := by omega
    rw [bX3_likeliestSmith_7]
    simp only [bX3_likeliestSmith_13, bX3_likeliestSmith_16, bX3_likeliestSmith_19, bX3_likeliestSmith_26, bX3_likeliestSmith_35, bX3_likeliestSmith_41, bX3_likeliestSmith_47, tk1_some, tk0_some, tkc_some, tkc_none, ↓reduceIte, bk_o H, gf_3_6, bk_l6 H, tm_isO, ln_count (bk_l6 H), Int32.le_refl, if_true, likeG]
  | succ r ih =>
    intro k w g x y hk
    have e1 : ¬ nI (cnt 6) ≤ nI k := nI_ge (by omega) (by omega)
    have e4 := fun w g x y => ih (k + 1) w g x y (by omega)
    rw [bX3_likeliestSmith_7]
    simp only [bX3_likeliestSmith_13, bX3_likeliestSmith_16, bX3_likeliestSmith_19, bX3_likeliestSmith_47, bX3_likeliestSmith_26 (a5 := .int (nI k)) rfl, bX3_likeliestSmith_35 (a1 := .int s) (a2 := .int w) rfl rfl, bX3_likeliestSmith_41 (a4 := tm_U) rfl, tk1_some, tk0_some, tkc_some, tkc_none, ↓reduceIte, bk_o H, gf_3_6, bk_l6 H, tm_isO, ln_count (bk_l6 H), e1, prod_spec H (s := s) (show k < cnt 6 by omega), if_false, likeG, nI_k1, e4, tm_nl_i, tm_nl_U]
    by_cases z : lg_cmp (prodS (tab 6) k s) g ≤ 0
    · simp only [z, if_true]
    · simp only [z, if_false]
theorem like_spec (H : BkAt h b lo hi cnt tab) {s : Int32} : tC mX3_likeliestSmith [.ref b, .int s] h = some (h, some (.int (likeG (tab 6) s (cnt 6) 0 (-1) 0))) := by
  have := like_loop H (s := s) (cnt 6) 0 (-1) 0 tm_U tm_U (by omega)
  rw [nI_0] at this
  rw [cX3_likeliestSmith_, bX3_likeliestSmith_0 (by rfl), this]
/-- the lowest and the highest of the belows -/
def loF (f : Nat → Int32) : Nat → Int32
  | 0 => 999
  | k + 1 => if f (k * 3 + 1) < loF f k then f (k * 3 + 1) else loF f k
def hiF (f : Nat → Int32) : Nat → Int32
  | 0 => 0
  | k + 1 => if hiF f k < f (k * 3 + 1) then f (k * 3 + 1) else hiF f k
theorem loF_le (f : Nat → Int32) : ∀ n t, t < n → loF f n ≤ f (t * 3 + 1) := by
  intro n
  induction n with
  | zero => intro t ht; omega
  | succ n ih =>
    intro t ht
    simp only [loF]
    by_cases e : t = n
    · subst e
      split
      · exact Int32.le_refl _
      · rename_i z; exact Int32.not_lt.mp z
    · split
      · rename_i z; exact Int32.le_trans (Int32.le_of_lt z) (ih t (by omega))
      · exact ih t (by omega)
theorem hiF_ge (f : Nat → Int32) : ∀ n t, t < n → f (t * 3 + 1) ≤ hiF f n := by
  intro n
  induction n with
  | zero => intro t ht; omega
  | succ n ih =>
    intro t ht
    simp only [hiF]
    by_cases e : t = n
    · subst e
      split
      · exact Int32.le_refl _
      · rename_i z; exact Int32.not_lt.mp z
    · split
      · rename_i z; exact Int32.le_trans (ih t (by omega)) (Int32.le_of_lt z)
      · exact ih t (by omega)
theorem BkAt_mark (H : BkAt h b lo hi cnt tab) (lo' hi' : Int32) : BkAt (tm_up h b (bkO b lo' hi')) b lo' hi' cnt tab :=
  ⟨tm_up_same, fun l hl => ⟨by rw [tm_up_ne (by omega)]; exact (H.2.1 l hl).1, by rw [tm_up_ne (by omega)]; exact (H.2.1 l hl).2⟩, H.2.2⟩
theorem mark_loop (H : BkAt h b lo hi cnt tab) : ∀ r k, k + r = cnt 3 → tE mX3_markTurns 14 [.ref b, .int (nI k)] [] (tm_up h b (bkO b (loF (tab 3) k) (hiF (tab 3) k))) = some (tm_up h b (bkO b (loF (tab 3) (cnt 3)) (hiF (tab 3) (cnt 3))), none) := by
  have hc := bk_c3 H
  intro r
  induction r with
  | zero =>
    intro k hk
    obtain rfl : k = cnt 3 := by omega
    have H' := BkAt_mark H (loF (tab 3) (cnt 3)) (hiF (tab 3) (cnt 3))
    rw [bX3_markTurns_14]
    simp only [bX3_markTurns_7, bX3_markTurns_12, bX3_markTurns_19, bX3_markTurns_22, bX3_markTurns_25, bX3_markTurns_30, bX3_markTurns_34, bX3_markTurns_39, bX3_markTurns_45, bX3_markTurns_50, bX3_markTurns_54, bX3_markTurns_59, bX3_markTurns_65, bX3_markTurns_71, tk1_some, tk0_some, tkc_some, tkc_none, ↓reduceIte, bk_o H', gf_3_3, bk_l3 H', tm_isO, ln_count (bk_l3 H'), Int32.le_refl, if_true]
  | succ r ih =>
    intro k hk
    have H' := BkAt_mark H (loF (tab 3) k) (hiF (tab 3) k)
    have e1 : ¬ nI (cnt 3) ≤ nI k := nI_ge (by omega) (by omega)
    have e2 := bk_at3 H' (r := nI k) (c := 1) (r' := k) (c' := 1) rfl rfl (by omega) (by decide)
    have H2 := BkAt_mark H (loF (tab 3) (k + 1)) (hiF (tab 3) k)
    have e3 := bk_at3 H2 (r := nI k) (c := 1) (r' := k) (c' := 1) rfl rfl (by omega) (by decide)
    have e4 := ih (k + 1) (by omega)
    have q1 : (if tab 3 (k * 3 + 1) < loF (tab 3) k then tab 3 (k * 3 + 1) else loF (tab 3) k) = loF (tab 3) (k + 1) := rfl
    have q2 : (if hiF (tab 3) k < tab 3 (k * 3 + 1) then tab 3 (k * 3 + 1) else hiF (tab 3) k) = hiF (tab 3) (k + 1) := rfl
    rw [bX3_markTurns_14, bk_o H', gf_3_3, tk1_some, bX3_markTurns_19, bk_l3 H', tm_isO, ln_count (bk_l3 H'), tkc_some, bX3_markTurns_22, if_neg e1, bX3_markTurns_25, bk_o H', gf_3_7, tk1_some, bX3_markTurns_30, bk_o H', gf_3_3, tk1_some, bX3_markTurns_34, bk_l3 H', tm_isO, e2, tkc_some, bX3_markTurns_39, q1, tm_pf_eq, bk_o H', ps_3_7, Option.map_some, tk0_some, tm_up_up,
      bX3_markTurns_45, bk_o H2, gf_3_8, tk1_some, bX3_markTurns_50, bk_o H2, gf_3_3, tk1_some, bX3_markTurns_54, bk_l3 H2, tm_isO, e3, tkc_some, bX3_markTurns_59, q2, tm_pf_eq, bk_o H2, ps_3_8, Option.map_some, tk0_some, tm_up_up, bX3_markTurns_65, nI_k1]
    exact e4
theorem mark_spec (H : BkAt h b lo hi cnt tab) : tC mX3_markTurns [.ref b] h = some (tm_up h b (bkO b (loF (tab 3) (cnt 3)) (hiF (tab 3) (cnt 3))), none) := by
  have := mark_loop H (cnt 3) 0 (by omega)
  rw [nI_0] at this
  rw [cX3_markTurns_, bX3_markTurns_0, tm_pf_eq, bk_o H, ps_3_7, Option.map_some, tk0_some, bX3_markTurns_7, tm_pf_eq, tm_up_same, ps_3_8, Option.map_some, tk0_some, tm_up_up, bX3_markTurns_12]
  exact this
end BK2
