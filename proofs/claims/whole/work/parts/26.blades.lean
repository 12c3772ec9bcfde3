/-! BLADES learned, and the next way -/
def sm (f : Nat → Int32) : Nat → Int32
  | 0 => 0
  | n + 1 => sm f n + f n
theorem i32_comm4 (a b c d : Int32) : (a + b) + (c + d) = (a + c) + (b + d) := by
  rw [Int32.add_assoc, Int32.add_assoc, ← Int32.add_assoc b c d, Int32.add_comm b c, Int32.add_assoc]
theorem sm_add (f g : Nat → Int32) : ∀ n, sm (fun k => f k + g k) n = sm f n + sm g n := by
  intro n
  induction n with
  | zero => rfl
  | succ n ih => simp only [sm, ih]; exact i32_comm4 _ _ _ _
theorem sm_zero : ∀ n, sm (fun _ => 0) n = 0 := by
  intro n
  induction n with
  | zero => rfl
  | succ n ih => simp only [sm, ih]; rfl
theorem sm_congr {f g : Nat → Int32} : ∀ n, (∀ k, k < n → f k = g k) → sm f n = sm g n := by
  intro n
  induction n with
  | zero => intro _; rfl
  | succ n ih => intro h; simp only [sm, ih (fun k hk => h k (by omega)), h n (by omega)]
theorem sm_swap (g : Nat → Nat → Int32) : ∀ m n, sm (fun a => sm (fun b => g a b) n) m = sm (fun b => sm (fun a => g a b) m) n := by
  intro m
  induction m with
  | zero => intro n; exact (sm_zero n).symm
  | succ m ih =>
    intro n
    simp only [sm]
    rw [ih n, ← sm_add]
def cmpS (x y : Int32) : Int32 := if y ≤ x then (if ¬ x = y then 1 else 0) else -1
theorem cmp_spec {h : tm_H} {x y : Int32} : tC mJ6_compare_7cf53 [.int x, .int y] h = some (h, some (.int (cmpS x y))) := by
  simp only [cJ6_compare_7cf53_, bJ6_compare_7cf53_0, bJ6_compare_7cf53_5, bJ6_compare_7cf53_19, bJ6_compare_7cf53_9, bJ6_compare_7cf53_14, bJ6_compare_7cf53_18, cmpS]
  by_cases q : y ≤ x
  · simp only [if_pos q]
    by_cases r : x = y
    · simp [r]
    · simp [r]
  · simp only [if_neg q]
/-- the one way in which numbers differ, from the k-th on, r left -/
def wayF (d : Nat → Int32) : Nat → Nat → Int32 → Int32
  | 0, _, w => w
  | r + 1, k, w => if d k = 0 then wayF d r (k + 1) w else if w = -1 then wayF d r (k + 1) (if d k ≤ 0 then nI k + 3 else nI k) else -1
def wayS (d : Nat → Int32) : Int32 := wayF d 3 0 (-1)
theorem way_rng (d : Nat → Int32) : wayS d = -1 ∨ ∃ j, j < 6 ∧ wayS d = nI j := by
  unfold wayS
  have e0 : ¬ (nI 0 : Int32) = -1 := by decide
  have e1 : ¬ (nI 1 : Int32) = -1 := by decide
  have e3 : ¬ (nI 3 : Int32) = -1 := by decide
  have e4 : ¬ (nI 4 : Int32) = -1 := by decide
  have n3 : (nI 0 + 3 : Int32) = nI 3 := by decide
  have n4 : (nI 1 + 3 : Int32) = nI 4 := by decide
  have n5 : (nI 2 + 3 : Int32) = nI 5 := by decide
  by_cases h0 : d 0 = 0 <;> by_cases h1 : d 1 = 0 <;> by_cases h2 : d 2 = 0 <;> by_cases p0 : d 0 ≤ 0 <;> by_cases p1 : d 1 ≤ 0 <;> by_cases p2 : d 2 ≤ 0 <;>
    simp only [wayF, h0, h1, h2, p0, p1, p2, if_true, if_false, e0, e1, e3, e4, n3, n4, n5, Nat.zero_add, Nat.reduceAdd, true_or] <;>
    first
    | exact Or.inl trivial
    | exact Or.inr ⟨0, by decide, rfl⟩
    | exact Or.inr ⟨1, by decide, rfl⟩
    | exact Or.inr ⟨2, by decide, rfl⟩
    | exact Or.inr ⟨3, by decide, rfl⟩
    | exact Or.inr ⟨4, by decide, rfl⟩
    | exact Or.inr ⟨5, by decide, rfl⟩
    | skip
abbrev blO (a b c n : Nat) : va_E := .inr (2, [.ref a, .ref b, .ref c, .int (nI n)])
section BL
variable {h : tm_H} {o a b c n : Nat} {mk hw gn : Nat → Int32}
theorem bl_clear (ho : h o = blO a b c n) : tC mX2_clear [.ref o] h = some (tm_up h o (blO a b c 0), none) := by
  simp only [cX2_clear_, bX2_clear_0, bX2_clear_5, tk1_some, tk0_some, tkc_some, tkc_none, ↓reduceIte, tm_pf_eq, ho, ps_2_3, Option.map_some, blO, nI_0]
theorem bl_count (ho : h o = blO a b c n) : tC mX2_count [.ref o] h = some (h, some (.int (nI n))) := by
  simp only [cX2_count_, bX2_count_0, bX2_count_4, tk1_some, tk0_some, tkc_some, tkc_none, ↓reduceIte, ho, gf_2_3]
theorem bl_isFull (ho : h o = blO a b c n) (hn : n < 2 ^ 31) : tC mX2_isFull [.ref o] h = some (h, some (.int (bI (decide (20 ≤ n))))) := by
  have e : (nI n < 20) = (n < 20) := propext (nI_ltI (b := 20) hn (by decide))
  simp only [cX2_isFull_, bX2_isFull_0, bX2_isFull_4, bX2_isFull_9, bX2_isFull_14, bX2_isFull_13, tk1_some, tk0_some, tkc_some, tkc_none, ↓reduceIte, ho, gf_2_3, e, tm_rb0, tm_rb1]
  by_cases q : n < 20
  · simp only [q, if_true, decide_eq_false (Nat.not_le.mpr q), bI_f]
  · simp only [q, if_false, decide_eq_true (Nat.not_lt.mp q), bI_t]
theorem bl_add {x0 x1 x2 x3 : Int32} (ho : h o = blO a b c n) (ha : h a = aI 60 mk) (hb : h b = aI 20 hw) (hn : n < 20) (hoa : o ≠ a) (hob : o ≠ b) (hab : a ≠ b) :
    tC mX2_add [.ref o, .int x0, .int x1, .int x2, .int x3] h = some (tm_up (tm_up (tm_up h a (aI 60 (upd (upd (upd mk (n * 3) x0) (n * 3 + 1) x1) (n * 3 + 2) x2))) b (aI 20 (upd hw n x3))) o (blO a b c (n + 1)), some (.int (nI (n + 1)))) := by
  have e3 : nI n * 3 = nI (n * 3) := nI_mul n 3
  have e4 : nI n * 3 + 1 = nI (n * 3 + 1) := by rw [e3]; exact nI_1 _
  have e5 : nI n * 3 + 2 = nI (n * 3 + 2) := by rw [e3]; exact nI_add _ 2
  have e1 : tC mX2_isFull [.ref o] h = some (h, some (.int (bI false))) := by rw [bl_isFull ho (by omega), decide_eq_false (by omega)]
  rw [cX2_add_, bX2_add_0, ho, tm_isO, e1, tkc_some, bX2_add_4, if_neg (by decide), bX2_add_7, ho, gf_2_0, tk1_some, bX2_add_11, ho, gf_2_3, tk1_some, bX2_add_15, tm_si_eq, ha, tm_sa_in e3 (by omega) (by decide), Option.map_some, tk0_some,
    bX2_add_19, tm_up_ne hoa, ho, gf_2_0, tk1_some, bX2_add_23, tm_up_ne hoa, ho, gf_2_3, tk1_some, bX2_add_27, tm_si_eq, tm_up_same, tm_sa_in e4 (by omega) (by decide), Option.map_some, tk0_some, tm_up_up,
    bX2_add_33, tm_up_ne hoa, ho, gf_2_0, tk1_some, bX2_add_37, tm_up_ne hoa, ho, gf_2_3, tk1_some, bX2_add_41, tm_si_eq, tm_up_same, tm_sa_in e5 (by omega) (by decide), Option.map_some, tk0_some, tm_up_up,
    bX2_add_47, tm_up_ne hoa, ho, gf_2_1, tk1_some, bX2_add_51, tm_up_ne hoa, ho, gf_2_3, tk1_some, bX2_add_55, tm_si_eq, tm_up_ne (Ne.symm hab), hb, tm_sa_in rfl hn (by decide), Option.map_some, tk0_some,
    bX2_add_58, tm_up_ne hob, tm_up_ne hoa, ho, gf_2_3, tk1_some, bX2_add_63, tm_pf_eq, tm_up_ne hob, tm_up_ne hoa, ho, ps_2_3, Option.map_some, tk0_some, bX2_add_68, tm_up_same, gf_2_3, tk1_some, bX2_add_72, nI_k1]
theorem wb_loop {p q : Nat} (ho : h o = blO a b c n) (ha : h a = aI 60 mk) (hp : p < 20) (hq : q < 20) {x : Value} : ∀ r k w (x : Value), k + r = 3 → tE mX2_wayBetween 5 [.ref o, .int (nI p), .int (nI q), .int w, .int (nI k), x] [] h = some (h, some (.int (wayF (fun k => mk (q * 3 + k) - mk (p * 3 + k)) r k w))) := by
  intro r
  induction r with
  | zero =>
    intro k w x hk
    obtain rfl : k = 3 := by omega
    rw [bX2_wayBetween_5, if_pos (by decide), bX2_wayBetween_74]; rfl
  | succ r ih =>
    intro k w x hk
    have e1 : ¬ 3 ≤ nI k := nI_ge (a := k) (b := 3) (by omega) (by decide)
    have e2 : nI q * 3 + nI k = nI (q * 3 + k) := by rw [show (3 : Int32) = nI 3 from rfl, nI_mul, nI_add]
    have e3 : nI p * 3 + nI k = nI (p * 3 + k) := by rw [show (3 : Int32) = nI 3 from rfl, nI_mul, nI_add]
    rw [bX2_wayBetween_5, if_neg e1, bX2_wayBetween_11, ho, gf_2_0, tk1_some, bX2_wayBetween_15, ha, tm_ai_in e2 (by omega) (by decide), tk1_some, bX2_wayBetween_22, ho, gf_2_0, tk1_some, bX2_wayBetween_26, ha, tm_ai_in e3 (by omega) (by decide), tk1_some, bX2_wayBetween_33, wayF]
    by_cases z : mk (q * 3 + k) - mk (p * 3 + k) = 0
    · rw [if_pos z, if_pos z, bX2_wayBetween_48, if_pos z, bX2_wayBetween_68, nI_k1]
      exact ih (k + 1) w _ (by omega)
    · rw [if_neg z, if_neg z, bX2_wayBetween_41]
      by_cases y : w = -1
      · rw [if_pos y, if_pos y, bX2_wayBetween_48, if_neg z, bX2_wayBetween_53]
        by_cases t : mk (q * 3 + k) - mk (p * 3 + k) ≤ 0
        · rw [if_pos t, if_pos t, bX2_wayBetween_63, bX2_wayBetween_67, bX2_wayBetween_68, nI_k1]
          exact ih (k + 1) _ _ (by omega)
        · rw [if_neg t, if_neg t, bX2_wayBetween_58, bX2_wayBetween_67, bX2_wayBetween_68, nI_k1]
          exact ih (k + 1) _ _ (by omega)
      · rw [if_neg y, if_neg y, bX2_wayBetween_46]
theorem wb_spec {p q : Nat} (ho : h o = blO a b c n) (ha : h a = aI 60 mk) (hp : p < 20) (hq : q < 20) : tC mX2_wayBetween [.ref o, .int (nI p), .int (nI q)] h = some (h, some (.int (wayS (fun k => mk (q * 3 + k) - mk (p * 3 + k))))) := by
  rw [cX2_wayBetween_, bX2_wayBetween_0]
  have := wb_loop ho ha hp hq (x := tm_U) 3 0 (-1) tm_U (by omega)
  rw [nI_0] at this
  exact this
/-- gains behind q seconds of the first p -/
def gIn (mk hw g : Nat → Int32) (p : Nat) : Nat → Nat → Int32
  | 0 => g
  | q + 1 => if wayS (fun k => mk (q * 3 + k) - mk (p * 3 + k)) = -1 then gIn mk hw g p q else upd (gIn mk hw g p q) (wayS (fun k => mk (q * 3 + k) - mk (p * 3 + k))).toNatClampNeg (gIn mk hw g p q (wayS (fun k => mk (q * 3 + k) - mk (p * 3 + k))).toNatClampNeg + cmpS (hw q) (hw p))
def gOut (mk hw g : Nat → Int32) (n : Nat) : Nat → Nat → Int32
  | 0 => g
  | p + 1 => gIn mk hw (gOut mk hw g n p) p n
theorem gIn_eq (mk hw g : Nat → Int32) (p : Nat) {w : Nat} (hw6 : w < 6) : ∀ q, gIn mk hw g p q w = g w + sm (fun q => if wayS (fun k => mk (q * 3 + k) - mk (p * 3 + k)) = nI w then cmpS (hw q) (hw p) else 0) q := by
  intro q
  induction q with
  | zero => simp [gIn, sm]
  | succ q ih =>
    simp only [gIn, sm]
    rcases way_rng (fun k => mk (q * 3 + k) - mk (p * 3 + k)) with e | ⟨j, hj, e⟩
    · have : ¬ (-1 : Int32) = nI w := by
        rcases (show w = 0 ∨ w = 1 ∨ w = 2 ∨ w = 3 ∨ w = 4 ∨ w = 5 by omega) with rfl | rfl | rfl | rfl | rfl | rfl <;> decide
      rw [e, if_pos rfl, if_neg this, ih]; simp
    · have : ¬ nI j = -1 := by
        rcases (show j = 0 ∨ j = 1 ∨ j = 2 ∨ j = 3 ∨ j = 4 ∨ j = 5 by omega) with rfl | rfl | rfl | rfl | rfl | rfl <;> decide
      rw [e, if_neg this, nI_clamp (by omega)]
      unfold upd
      by_cases q2 : w = j
      · subst q2; rw [if_pos rfl, if_pos rfl, ih, Int32.add_assoc]
      · rw [if_neg q2, if_neg (fun z => q2 ((nI_eq (by omega) (by omega)).mp z).symm), ih]; simp
theorem gOut_eq (mk hw g : Nat → Int32) (n : Nat) {w : Nat} (hw6 : w < 6) : ∀ p, gOut mk hw g n p w = g w + sm (fun p => sm (fun q => if wayS (fun k => mk (q * 3 + k) - mk (p * 3 + k)) = nI w then cmpS (hw q) (hw p) else 0) n) p := by
  intro p
  induction p with
  | zero => simp [gOut, sm]
  | succ p ih => simp only [gOut, sm, gIn_eq _ _ _ _ hw6, ih, Int32.add_assoc]
theorem cg_in {p : Nat} {x : Value} (ho : h o = blO a b c n) (ha : h a = aI 60 mk) (hb : h b = aI 20 hw) (hn : n ≤ 20) (hp : p < n) (hoc : o ≠ c) (hac : a ≠ c) (hbc : b ≠ c) (g : Nat → Int32) : ∀ r q (x : Value), q + r = n → ∃ x', tE mX2_countGains 20 [.ref o, .int (nI p), .int (nI q), x] [] (tm_up h c (aI 6 (gIn mk hw g p q))) = tE mX2_countGains 10 [.ref o, .int (nI (p + 1)), .int (nI n), x'] [] (tm_up h c (aI 6 (gIn mk hw g p n))) := by
  intro r
  induction r with
  | zero =>
    intro q x hq
    obtain rfl : q = n := by omega
    refine ⟨x, ?_⟩
    rw [bX2_countGains_20, tm_up_ne hoc, ho, gf_2_3, tk1_some, bX2_countGains_25, if_pos ((nI_leI (by omega) (by omega)).mpr (Nat.le_refl _)), bX2_countGains_70, nI_k1]
  | succ r ih =>
    intro q x hq
    have e1 : ¬ nI n ≤ nI q := nI_ge (by omega) (by omega)
    have ho' : (tm_up h c (aI 6 (gIn mk hw g p q))) o = blO a b c n := by rw [tm_up_ne hoc]; exact ho
    have ha' : (tm_up h c (aI 6 (gIn mk hw g p q))) a = aI 60 mk := by rw [tm_up_ne hac]; exact ha
    have hb' : (tm_up h c (aI 6 (gIn mk hw g p q))) b = aI 20 hw := by rw [tm_up_ne hbc]; exact hb
    rw [bX2_countGains_20, ho', gf_2_3, tk1_some, bX2_countGains_25, if_neg e1, bX2_countGains_28, ho', tm_isO, wb_spec ho' ha' (by omega) (by omega), tkc_some, bX2_countGains_34]
    rcases way_rng (fun k => mk (q * 3 + k) - mk (p * 3 + k)) with e | ⟨j, hj, e⟩
    · rw [if_pos e, bX2_countGains_64, nI_k1]
      obtain ⟨x', e2⟩ := ih (q + 1) (.int (wayS (fun k => mk (q * 3 + k) - mk (p * 3 + k)))) (by omega)
      refine ⟨x', ?_⟩
      rw [← e2]
      simp only [gIn, e, if_true]
    · have e3 : ¬ nI j = -1 := by
        rcases (show j = 0 ∨ j = 1 ∨ j = 2 ∨ j = 3 ∨ j = 4 ∨ j = 5 by omega) with rfl | rfl | rfl | rfl | rfl | rfl <;> decide
      rw [if_neg (by rw [e]; exact e3), bX2_countGains_40, ho', gf_2_2, tk1_some, bX2_countGains_44, tm_up_same, tm_ai_in e (by omega) (by decide), tk1_some, bX2_countGains_47, ho', gf_2_1, tk1_some, bX2_countGains_51, hb', tm_ai_in rfl (by omega) (by decide), tk1_some, bX2_countGains_53, ho', gf_2_1, tk1_some, bX2_countGains_57, hb', tm_ai_in rfl (by omega) (by decide), tk1_some, bX2_countGains_59, cmp_spec, tkc_some, bX2_countGains_62, tm_si_eq, tm_up_same, tm_sa_in e (by omega) (by decide), Option.map_some, tk0_some, bX2_countGains_64, tm_up_up, nI_k1]
      obtain ⟨x', e2⟩ := ih (q + 1) (.int (wayS (fun k => mk (q * 3 + k) - mk (p * 3 + k)))) (by omega)
      refine ⟨x', ?_⟩
      rw [← e2]
      simp only [gIn, e, e3, if_false, nI_clamp (show j < 2 ^ 31 by omega)]
theorem cg_out (ho : h o = blO a b c n) (ha : h a = aI 60 mk) (hb : h b = aI 20 hw) (hn : n ≤ 20) (hoc : o ≠ c) (hac : a ≠ c) (hbc : b ≠ c) (g : Nat → Int32) : ∀ r p (y x : Value), p + r = n → tE mX2_countGains 10 [.ref o, .int (nI p), y, x] [] (tm_up h c (aI 6 (gOut mk hw g n p))) = some (tm_up h c (aI 6 (gOut mk hw g n n)), none) := by
  intro r
  induction r with
  | zero =>
    intro p y x hp
    obtain rfl : p = n := by omega
    rw [bX2_countGains_10, tm_up_ne hoc, ho, gf_2_3, tk1_some, bX2_countGains_15, if_pos ((nI_leI (by omega) (by omega)).mpr (Nat.le_refl _)), bX2_countGains_76]
  | succ r ih =>
    intro p y x hp
    have e1 : ¬ nI n ≤ nI p := nI_ge (by omega) (by omega)
    rw [bX2_countGains_10, tm_up_ne hoc, ho, gf_2_3, tk1_some, bX2_countGains_15, if_neg e1, bX2_countGains_18]
    obtain ⟨x', e⟩ := cg_in (p := p) (x := x) ho ha hb hn (by omega) hoc hac hbc (gOut mk hw g n p) n 0 x (by omega)
    rw [nI_0] at e
    rw [show gIn mk hw (gOut mk hw g n p) p 0 = gOut mk hw g n p from rfl] at e
    rw [e]
    exact ih (p + 1) _ _ (by omega)
theorem cg_spec (ho : h o = blO a b c n) (ha : h a = aI 60 mk) (hb : h b = aI 20 hw) (hc : h c = aI 6 gn) (hn : n ≤ 20) (hoc : o ≠ c) (hac : a ≠ c) (hbc : b ≠ c) : tC mX2_countGains [.ref o] h = some (tm_up h c (aI 6 (gOut mk hw (fillF gn 0 6) n n)), none) := by
  rw [cX2_countGains_, bX2_countGains_0, ho, gf_2_2, tk1_some, bX2_countGains_4, fill_spec hc (by decide), tkc_none, bX2_countGains_8]
  have := cg_out (h := tm_up h c (aI 6 (fillF gn 0 6))) (by rw [tm_up_ne hoc]; exact ho) (by rw [tm_up_ne hac]; exact ha) (by rw [tm_up_ne hbc]; exact hb) hn hoc hac hbc (fillF gn 0 6) n 0 tm_U tm_U (by omega)
  rw [nI_0, tm_up_up, tm_up_up] at this
  exact this
/-- the best of the ways, from the k-th on, r left -/
def bestF (g : Nat → Int32) : Nat → Nat → Int32 → Int32 → Int32
  | 0, _, b, _ => b
  | r + 1, k, b, m => if g k ≤ m then bestF g r (k + 1) b m else bestF g r (k + 1) (nI k) (g k)
theorem bw_loop {g : Nat → Int32} (ho : h o = blO a b c n) (hc : h c = aI 6 g) : ∀ r k x m, k + r = 6 → tE mX2_bestWay 11 [.ref o, .int x, .int m, .int (nI k)] [] h = some (h, some (.int (bestF g r k x m))) := by
  intro r
  induction r with
  | zero =>
    intro k x m hk
    obtain rfl : k = 6 := by omega
    rw [bX2_bestWay_11, if_pos (by decide), bX2_bestWay_42]; rfl
  | succ r ih =>
    intro k x m hk
    have e1 : ¬ 6 ≤ nI k := nI_ge (a := k) (b := 6) (by omega) (by decide)
    rw [bX2_bestWay_11, if_neg e1, bX2_bestWay_17, ho, gf_2_2, tk1_some, bX2_bestWay_21, hc, tm_ai_in rfl (by omega) (by decide), tk1_some, bX2_bestWay_23, bestF]
    by_cases z : g k ≤ m
    · rw [if_pos z, if_pos z, bX2_bestWay_36, nI_k1]
      exact ih (k + 1) _ _ (by omega)
    · rw [if_neg z, if_neg z, bX2_bestWay_27, ho, gf_2_2, tk1_some, bX2_bestWay_31, hc, tm_ai_in rfl (by omega) (by decide), tk1_some, bX2_bestWay_33, bX2_bestWay_36, nI_k1]
      exact ih (k + 1) _ _ (by omega)
theorem bestF_c {f g : Nat → Int32} (h : ∀ k, k < 6 → f k = g k) : ∀ r k x m, k + r = 6 → bestF f r k x m = bestF g r k x m := by
  intro r
  induction r with
  | zero => intro k x m _; rfl
  | succ r ih =>
    intro k x m hk
    simp only [bestF, h k (by omega), ih (k + 1) _ _ (show k + 1 + r = 6 by omega)]
/-- how often a way was better, less how often worse -/
def gainS (mk hw : Nat → Int32) (n : Nat) (w : Nat) : Int32 := sm (fun p => sm (fun q => if wayS (fun k => mk (q * 3 + k) - mk (p * 3 + k)) = nI w then cmpS (hw q) (hw p) else 0) n) n
theorem bl_best (ho : h o = blO a b c n) (ha : h a = aI 60 mk) (hb : h b = aI 20 hw) (hc : h c = aI 6 gn) (hn : n ≤ 20) (hoc : o ≠ c) (hac : a ≠ c) (hbc : b ≠ c) : ∃ g', tC mX2_bestWay [.ref o] h = some (tm_up h c (aI 6 g'), some (.int (bestF (gainS mk hw n) 6 0 (-2) 0))) := by
  refine ⟨gOut mk hw (fillF gn 0 6) n n, ?_⟩
  rw [cX2_bestWay_, bX2_bestWay_0, ho, tm_isO, cg_spec ho ha hb hc hn hoc hac hbc, tkc_none, bX2_bestWay_4]
  have := bw_loop (h := tm_up h c (aI 6 (gOut mk hw (fillF gn 0 6) n n))) (o := o) (g := gOut mk hw (fillF gn 0 6) n n) (by rw [tm_up_ne hoc]; exact ho) tm_up_same 6 0 (-2) 0 (by omega)
  rw [nI_0] at this
  rw [this, bestF_c (g := gainS mk hw n) (fun w hw6 => by rw [gOut_eq _ _ _ _ hw6]; simp [fillF, hw6, gainS]) 6 0 _ _ (by omega)]
end BL
