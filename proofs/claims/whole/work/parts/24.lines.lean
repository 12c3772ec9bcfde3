/-! LINES of a book -/
abbrev lnO (m k a n : Nat) : va_E := .inr (5, [.int (nI m), .int (nI k), .ref a, .int (nI n)])
section LN
variable {h : tm_H} {o m k a n : Nat}
theorem ln_clear (ho : h o = lnO m k a n) : tC mX5_clear [.ref o] h = some (tm_up h o (lnO m k a 0), none) := by
  simp only [cX5_clear_, bX5_clear_0, bX5_clear_5, tk1_some, tk0_some, tkc_some, tkc_none, ↓reduceIte, tm_pf_eq, ho, ps_5_3, Option.map_some, lnO, nI_0]
theorem ln_count (ho : h o = lnO m k a n) : tC mX5_count [.ref o] h = some (h, some (.int (nI n))) := by
  simp only [cX5_count_, bX5_count_0, bX5_count_4, tk1_some, tk0_some, tkc_some, tkc_none, ↓reduceIte, ho, gf_5_3]
theorem ln_isFull (ho : h o = lnO m k a n) (hm : m < 2 ^ 31) (hn : n < 2 ^ 31) : tC mX5_isFull [.ref o] h = some (h, some (.int (bI (decide (m ≤ n))))) := by
  simp only [cX5_isFull_, bX5_isFull_0, bX5_isFull_4, bX5_isFull_8, bX5_isFull_11, bX5_isFull_16, bX5_isFull_15, tk1_some, tk0_some, tkc_some, tkc_none, ↓reduceIte, ho, gf_5_3, gf_5_0, nI_ltI hn hm, tm_rb0, tm_rb1]
  by_cases q : n < m
  · simp only [q, if_true, decide_eq_false (Nat.not_le.mpr q), bI_f]
  · simp only [q, if_false, decide_eq_true (Nat.not_lt.mp q), bI_t]
theorem ln_at {f : Nat → Int32} {r c : Int32} {r' c' N : Nat} (ho : h o = lnO m k a n) (ha : h a = aI N f) (hr : r = nI r') (hc : c = nI c') (hr' : r' < n) (hc' : c' < k) (hN : r' * k + c' < N) (hn : n < 1000) (hk : k < 1000) (hN2 : N < 2 ^ 31) : tC mX5_at [.ref o, .int r, .int c] h = some (h, some (.int (f (r' * k + c')))) := by
  subst hr; subst hc
  have e1 : ¬ nI r' < 0 := nI_pos (by omega)
  have e2 : ¬ nI n ≤ nI r' := nI_ge hr' (by omega)
  have e3 : ¬ nI c' < 0 := nI_pos (by omega)
  have e4 : nI c' < nI k := nI_lt hc' (by omega)
  simp only [cX5_at_, bX5_at_0, bX5_at_4, bX5_at_9, bX5_at_12, bX5_at_16, bX5_at_21, bX5_at_24, bX5_at_26, bX5_at_30, bX5_at_35, bX5_at_39, tk1_some, tk0_some, tkc_some, tkc_none, ↓reduceIte, ho, ha, gf_5_3, gf_5_2, gf_5_1, e1, e2, e3, e4, if_true, if_false, nI_mul, nI_add, tm_ai_in rfl hN hN2]
theorem ln_put {f : Nat → Int32} {c x : Int32} {c' N : Nat} (ho : h o = lnO m k a n) (ha : h a = aI N f) (hc : c = nI c') (hr' : n < m) (hc' : c' < k) (hN : n * k + c' < N) (hn : m < 1000) (hk : k < 1000) (hN2 : N < 2 ^ 31) : tC mX5_put [.ref o, .int c, .int x] h = some (tm_up h a (aI N (upd f (n * k + c') x)), none) := by
  subst hc
  have e2 : ¬ nI m ≤ nI n := nI_ge hr' (by omega)
  have e3 : ¬ nI c' < 0 := nI_pos (by omega)
  have e4 : ¬ nI k ≤ nI c' := nI_ge hc' (by omega)
  simp only [cX5_put_, bX5_put_0, bX5_put_4, bX5_put_8, bX5_put_11, bX5_put_15, bX5_put_20, bX5_put_23, bX5_put_27, bX5_put_31, bX5_put_35, bX5_put_40, tk1_some, tk0_some, tkc_some, tkc_none, ↓reduceIte, ho, ha, gf_5_3, gf_5_2, gf_5_1, gf_5_0, e2, e3, e4, if_true, if_false, nI_mul, nI_add, tm_si_eq, tm_sa_in rfl hN hN2, Option.map_some]
theorem ln_close (ho : h o = lnO m k a n) (hr' : n < m) (hn : m < 1000) : tC mX5_close [.ref o] h = some (tm_up h o (lnO m k a (n + 1)), none) := by
  have e2 : ¬ nI m ≤ nI n := nI_ge hr' (by omega)
  simp only [cX5_close_, bX5_close_0, bX5_close_4, bX5_close_8, bX5_close_11, bX5_close_16, bX5_close_21, tk1_some, tk0_some, tkc_some, tkc_none, ↓reduceIte, ho, gf_5_3, gf_5_0, e2, if_false, tm_pf_eq, ps_5_3, Option.map_some, nI_1]
end LN
