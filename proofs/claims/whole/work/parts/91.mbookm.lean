/-! THE REFERENCE's calls: next, led, size, feed -/
section M42
variable {h : tm_H} {S : SS} {f mk hw : Nat → Int32} {n : Nat}
def BlR (f mk hw : Nat → Int32) (n : Nat) : Prop := ∀ k, k < n → f (4 * k) = mk (k * 3) ∧ f (4 * k + 1) = mk (k * 3 + 1) ∧ f (4 * k + 2) = mk (k * 3 + 2) ∧ f (4 * k + 3) = hw k
theorem blr_at (R : BlR f mk hw n) {k j : Nat} (hk : k < n) (hj : j < 3) : f (4 * k + j) = mk (k * 3 + j) := by
  obtain ⟨a, b, c, _⟩ := R k hk
  rcases (show j = 0 ∨ j = 1 ∨ j = 2 by omega) with rfl | rfl | rfl
  · exact a
  · exact b
  · exact c
theorem mdf_loop (g34 : tm_gf (h 70) 11 34 = some (.ref 83)) (hb : h 83 = aI 80 f) (R : BlR f mk hw n) (hn : n ≤ 20) {p q what : Nat} (hp : p < n) (hq : q < n) (hw3 : what < 3) : ∀ r k, k + r = 3 → tE mX11_differs 3 [.ref 70, .int (nI p), .int (nI q), .int (nI what), .int (nI k)] [] h = some (h, some (.int (difF (fun k => mk (p * 3 + k) - mk (q * 3 + k)) what r k))) := by
  have t0 : (80 : Nat) < 2 ^ 31 := by decide
  have q1 : ∀ j, j < 3 → tm_ai 0 (h 83) (nI (4 * p + j)) = some (.int (mk (p * 3 + j))) := fun j hj => by rw [hb, tm_ai_in rfl (show 4 * p + j < 80 by omega) t0, blr_at R hp hj]
  have q2 : ∀ j, j < 3 → tm_ai 0 (h 83) (nI (4 * q + j)) = some (.int (mk (q * 3 + j))) := fun j hj => by rw [hb, tm_ai_in rfl (show 4 * q + j < 80 by omega) t0, blr_at R hq hj]
  intro r
  induction r with
  | zero =>
    intro k hk
    obtain rfl : k = 3 := by omega
    rw [bX11_differs_3, if_pos (show (3 : Int32) ≤ nI 3 from Int32.le_refl _)]
    have e1 := q1 what hw3
    have e2 := q2 what hw3
    unfold difF
    by_cases a : mk (p * 3 + what) - mk (q * 3 + what) ≤ 0
    · by_cases b : 0 ≤ mk (p * 3 + what) - mk (q * 3 + what)
      · simp only [bX11_differs_48, bX11_differs_52, bX11_differs_58, bX11_differs_62, bX11_differs_68, bX11_differs_80, bX11_differs_89, bX11_differs_90, tk1_some, tk0_some, tkc_some, tkc_none, ↓reduceIte, g34, i4, e1, e2, a, b, if_true]
      · simp only [bX11_differs_48, bX11_differs_52, bX11_differs_58, bX11_differs_62, bX11_differs_68, bX11_differs_80, bX11_differs_85, bX11_differs_90, tk1_some, tk0_some, tkc_some, tkc_none, ↓reduceIte, g34, i4, e1, e2, a, b, if_true, if_false]
    · simp only [bX11_differs_48, bX11_differs_52, bX11_differs_58, bX11_differs_62, bX11_differs_68, bX11_differs_76, bX11_differs_90, tk1_some, tk0_some, tkc_some, tkc_none, ↓reduceIte, g34, i4, e1, e2, a, if_false]
  | succ r ih =>
    intro k hk
    have e1 : ¬ (3 : Int32) ≤ nI k := nI_ge (show k < 3 by omega) (by decide)
    have e := ih (k + 1) (by omega)
    rw [bX11_differs_3, if_neg e1]
    unfold difF
    by_cases d : k = what
    · have d' : nI k = nI what := by rw [d]
      rw [if_pos d, ← e, bX11_differs_9, if_pos d', bX11_differs_42, nI_k1]
    · have d' : ¬ nI k = nI what := fun y => d (by have := congrArg iN y; rw [iN_nI (by omega), iN_nI (by omega)] at this; exact this)
      rw [if_neg d, bX11_differs_9, if_neg d']
      have e3 := q1 k (by omega)
      have e4 := q2 k (by omega)
      by_cases z : mk (p * 3 + k) = mk (q * 3 + k)
      · rw [if_pos (sub_eq_z.mpr z), ← e]
        simp only [bX11_differs_15, bX11_differs_19, bX11_differs_26, bX11_differs_30, bX11_differs_37, bX11_differs_42, tk1_some, tk0_some, tkc_some, tkc_none, ↓reduceIte, g34, i4, e3, e4, z, if_true, nI_k1]
      · rw [if_neg (fun y => z (sub_eq_z.mp y))]
        simp only [bX11_differs_15, bX11_differs_19, bX11_differs_26, bX11_differs_30, bX11_differs_37, bX11_differs_40, tk1_some, tk0_some, tkc_some, tkc_none, ↓reduceIte, g34, i4, e3, e4, z, if_false]
theorem m_diff (g34 : tm_gf (h 70) 11 34 = some (.ref 83)) (hb : h 83 = aI 80 f) (R : BlR f mk hw n) (hn : n ≤ 20) {p q what : Nat} (hp : p < n) (hq : q < n) (hw3 : what < 3) : tC mX11_differs [.ref 70, .int (nI p), .int (nI q), .int (nI what)] h = some (h, some (.int (difF (fun k => mk (p * 3 + k) - mk (q * 3 + k)) what 3 0))) := by
  have e := mdf_loop g34 hb R hn hp hq hw3 3 0 (by omega)
  rw [nI_0] at e
  rw [cX11_differs_, bX11_differs_0, e]
def gnF (mk hw : Nat → Int32) (w a b : Nat) : Int32 := if wayS (fun k => mk (a * 3 + k) - mk (b * 3 + k)) = nI w then cmpS (hw a) (hw b) else 0
theorem mod3 : ∀ w, w < 6 → nI w - nI w / 3 * 3 = nI (w % 3) := by decide
theorem mnx_in (g34 : tm_gf (h 70) 11 34 = some (.ref 83)) (g33 : tm_gf (h 70) 11 33 = some (.int (nI n))) (I : tm_isObj (h 70) 11 = true) (hb : h 83 = aI 80 f) (R : BlR f mk hw n) (hn : n ≤ 20) (Rh : ∀ k, k < n → 0 ≤ hw k ∧ hw k ≤ 2) {x1 x2 : Value} {w a : Nat} (hw6 : w < 6) (ha : a < n) : ∀ r b c x7, b + r = n → ∃ y7, tE mX11_next 49 [.ref 70, x1, x2, .int (nI w), .int (c + sm (gnF mk hw w a) b), .int (nI a), .int (nI b), x7] [] h = tE mX11_next 140 [.ref 70, x1, x2, .int (nI w), .int (c + sm (gnF mk hw w a) n), .int (nI a), .int (nI n), y7] [] h := by
  have t0 : (80 : Nat) < 2 ^ 31 := by decide
  intro r
  induction r with
  | zero =>
    intro b c x7 hr
    obtain rfl : b = n := by omega
    refine ⟨x7, ?_⟩
    rw [bX11_next_49]
    simp only [bX11_next_55, tk1_some, tk0_some, tkc_some, tkc_none, ↓reduceIte, g33, Int32.le_refl, if_true]
  | succ r ih =>
    intro b c x7 hr
    have e1 : ¬ nI n ≤ nI b := nI_ge (by omega) (by omega)
    have hbn : b < n := by omega
    have D := m_diff g34 hb R hn ha hbn (show w % 3 < 3 from Nat.mod_lt _ (by decide))
    have wd := way_dif (fun k => mk (a * 3 + k) - mk (b * 3 + k)) w hw6
    have t3 : (if w < 3 then (1 : Int32) else -1) = (if (3 : Int32) ≤ nI w then -1 else 1) := by
      rcases (show w = 0 ∨ w = 1 ∨ w = 2 ∨ w = 3 ∨ w = 4 ∨ w = 5 by omega) with rfl | rfl | rfl | rfl | rfl | rfl <;> decide
    have st : tE mX11_next 49 [.ref 70, x1, x2, .int (nI w), .int (c + sm (gnF mk hw w a) b), .int (nI a), .int (nI b), x7] [] h = tE mX11_next 79 [.ref 70, x1, x2, .int (nI w), .int (c + sm (gnF mk hw w a) b), .int (nI a), .int (nI b), x7] [.int (if w < 3 then 1 else -1), .int (difF (fun k => mk (a * 3 + k) - mk (b * 3 + k)) (w % 3) 3 0)] h := by
      rw [t3, bX11_next_49]
      by_cases d : (3 : Int32) ≤ nI w
      · simp only [bX11_next_55, bX11_next_58, bX11_next_69, bX11_next_78, tk1_some, tk0_some, tkc_some, tkc_none, ↓reduceIte, g33, e1, if_false, I, mod3 w hw6, D, d, if_true]
      · simp only [bX11_next_55, bX11_next_58, bX11_next_69, bX11_next_74, tk1_some, tk0_some, tkc_some, tkc_none, ↓reduceIte, g33, e1, if_false, I, mod3 w hw6, D, d]
    rw [st, bX11_next_79]
    have es : ∀ b, c + sm (gnF mk hw w a) (b + 1) = c + sm (gnF mk hw w a) b + gnF mk hw w a b := fun b => by
      show c + (sm (gnF mk hw w a) b + gnF mk hw w a b) = _
      rw [Int32.add_assoc]
    have q1 : tm_ai 0 (h 83) (nI (4 * a + 3)) = some (.int (hw a)) := by rw [hb, tm_ai_in rfl (show 4 * a + 3 < 80 by omega) t0, (R a ha).2.2.2]
    have q2 : tm_ai 0 (h 83) (nI (4 * b + 3)) = some (.int (hw b)) := by rw [hb, tm_ai_in rfl (show 4 * b + 3 < 80 by omega) t0, (R b hbn).2.2.2]
    by_cases z : difF (fun k => mk (a * 3 + k) - mk (b * 3 + k)) (w % 3) 3 0 = (if w < 3 then 1 else -1)
    · rw [if_pos z]
      have gF : gnF mk hw w a b = cmpS (hw a) (hw b) := if_pos (wd.mpr z)
      obtain ⟨cs1, cs2⟩ := cmp_sub (Rh a ha) (Rh b hbn)
      obtain ⟨y7, e⟩ := ih (b + 1) c (.int (hw a - hw b)) (by omega)
      refine ⟨y7, ?_⟩
      rw [← e, es b, gF]
      have i43 : 4 * nI a + 3 = nI (4 * a + 3) := i4 a 3
      have i44 : 4 * nI b + 3 = nI (4 * b + 3) := i4 b 3
      unfold cmpS
      by_cases y1 : hw b ≤ hw a
      · rw [if_pos y1]
        by_cases y2 : hw a = hw b
        · rw [if_neg (fun y => y y2)]
          have l1 : hw a - hw b ≤ 0 := cs1.mpr (by rw [y2]; exact Int32.le_refl _)
          have l2 : 0 ≤ hw a - hw b := cs2.mpr y1
          simp only [bX11_next_85, bX11_next_89, bX11_next_96, bX11_next_100, bX11_next_107, bX11_next_121, bX11_next_130, bX11_next_131, bX11_next_134, tk1_some, tk0_some, tkc_some, tkc_none, ↓reduceIte, g34, i43, i44, q1, q2, l1, l2, if_true, nI_k1]
        · rw [if_pos y2]
          have l1 : ¬ hw a - hw b ≤ 0 := fun y => y2 (Int32.le_antisymm (cs1.mp y) y1)
          simp only [bX11_next_85, bX11_next_89, bX11_next_96, bX11_next_100, bX11_next_107, bX11_next_117, bX11_next_131, bX11_next_134, tk1_some, tk0_some, tkc_some, tkc_none, ↓reduceIte, g34, i43, i44, q1, q2, l1, if_false, nI_k1]
      · rw [if_neg y1]
        have l1 : hw a - hw b ≤ 0 := cs1.mpr (Int32.le_of_lt (Int32.not_le.mp y1))
        have l2 : ¬ 0 ≤ hw a - hw b := fun y => y1 (cs2.mp y)
        simp only [bX11_next_85, bX11_next_89, bX11_next_96, bX11_next_100, bX11_next_107, bX11_next_121, bX11_next_126, bX11_next_131, bX11_next_134, tk1_some, tk0_some, tkc_some, tkc_none, ↓reduceIte, g34, i43, i44, q1, q2, l1, l2, if_true, if_false, nI_k1]
    · rw [if_neg z]
      have gF : gnF mk hw w a b = 0 := if_neg (fun y => z (wd.mp y))
      obtain ⟨y7, e⟩ := ih (b + 1) c x7 (by omega)
      refine ⟨y7, ?_⟩
      rw [← e, es b, gF, Int32.add_zero, bX11_next_82, bX11_next_134, nI_k1]
theorem mnx_mid (g34 : tm_gf (h 70) 11 34 = some (.ref 83)) (g33 : tm_gf (h 70) 11 33 = some (.int (nI n))) (I : tm_isObj (h 70) 11 = true) (hb : h 83 = aI 80 f) (R : BlR f mk hw n) (hn : n ≤ 20) (Rh : ∀ k, k < n → 0 ≤ hw k ∧ hw k ≤ 2) {x1 x2 : Value} {w : Nat} (hw6 : w < 6) : ∀ r a x6 x7, a + r = n → ∃ y6 y7, tE mX11_next 37 [.ref 70, x1, x2, .int (nI w), .int (sm (fun a => sm (gnF mk hw w a) n) a), .int (nI a), x6, x7] [] h = tE mX11_next 146 [.ref 70, x1, x2, .int (nI w), .int (sm (fun a => sm (gnF mk hw w a) n) n), .int (nI n), y6, y7] [] h := by
  intro r
  induction r with
  | zero =>
    intro a x6 x7 hr
    obtain rfl : a = n := by omega
    refine ⟨x6, x7, ?_⟩
    rw [bX11_next_37]
    simp only [bX11_next_43, tk1_some, tk0_some, tkc_some, tkc_none, ↓reduceIte, g33, Int32.le_refl, if_true]
  | succ r ih =>
    intro a x6 x7 hr
    have e1 : ¬ nI n ≤ nI a := nI_ge (by omega) (by omega)
    obtain ⟨y7, L⟩ := mnx_in g34 g33 I hb R hn Rh (x1 := x1) (x2 := x2) hw6 (show a < n by omega) n 0 (sm (fun a => sm (gnF mk hw w a) n) a) x7 (by omega)
    rw [nI_0, show sm (gnF mk hw w a) 0 = 0 from rfl, Int32.add_zero] at L
    obtain ⟨z6, z7, e⟩ := ih (a + 1) (.int (nI n)) y7 (by omega)
    refine ⟨z6, z7, ?_⟩
    rw [← e, bX11_next_37]
    simp only [bX11_next_43, bX11_next_46, tk1_some, tk0_some, tkc_some, tkc_none, ↓reduceIte, g33, e1, if_false, L, bX11_next_140, nI_k1]
    rfl
theorem mnx_out (g34 : tm_gf (h 70) 11 34 = some (.ref 83)) (g33 : tm_gf (h 70) 11 33 = some (.int (nI n))) (I : tm_isObj (h 70) 11 = true) (hb : h 83 = aI 80 f) (R : BlR f mk hw n) (hn : n ≤ 20) (Rh : ∀ k, k < n → 0 ≤ hw k ∧ hw k ≤ 2) : ∀ r w x m x4 x5 x6 x7, w + r = 6 → ∃ y2 y4 y5 y6 y7, tE mX11_next 25 [.ref 70, .int x, .int m, .int (nI w), x4, x5, x6, x7] [] h = tE mX11_next 166 [.ref 70, .int (bestF (gainS mk hw n) r w x m), y2, .int 6, y4, y5, y6, y7] [] h := by
  intro r
  induction r with
  | zero =>
    intro w x m x4 x5 x6 x7 hr
    obtain rfl : w = 6 := by omega
    exact ⟨_, _, _, _, _, by rw [bX11_next_25, if_pos (show (6 : Int32) ≤ nI 6 from Int32.le_refl _)]; rfl⟩
  | succ r ih =>
    intro w x m x4 x5 x6 x7 hr
    have e1 : ¬ (6 : Int32) ≤ nI w := nI_ge (show w < 6 by omega) (by decide)
    obtain ⟨y6, y7, L⟩ := mnx_mid g34 g33 I hb R hn Rh (x1 := .int x) (x2 := .int m) (w := w) (by omega) n 0 x6 x7 (by omega)
    have eg : sm (fun a => sm (gnF mk hw w a) n) n = gainS mk hw n w := by
      unfold gainS
      exact sm_swap (fun a b => gnF mk hw w a b) n n
    rw [eg, nI_0, show sm (fun a => sm (gnF mk hw w a) n) 0 = 0 from rfl] at L
    unfold bestF
    by_cases z : gainS mk hw n w ≤ m
    · rw [if_pos z]
      obtain ⟨a2, a4, a5, a6, a7, e⟩ := ih (w + 1) x m (.int (gainS mk hw n w)) (.int (nI n)) y6 y7 (by omega)
      refine ⟨a2, a4, a5, a6, a7, ?_⟩
      have z' : ¬ m < gainS mk hw n w := Int32.not_lt.mpr z
      rw [← e, bX11_next_25, if_neg e1, bX11_next_31, L, bX11_next_146, if_neg z', bX11_next_152, bX11_next_160, nI_k1]
    · rw [if_neg z]
      obtain ⟨a2, a4, a5, a6, a7, e⟩ := ih (w + 1) (nI w) (gainS mk hw n w) (.int (gainS mk hw n w)) (.int (nI n)) y6 y7 (by omega)
      refine ⟨a2, a4, a5, a6, a7, ?_⟩
      have z' : m < gainS mk hw n w := Int32.not_le.mp z
      rw [← e, bX11_next_25, if_neg e1, bX11_next_31, L, bX11_next_146, if_pos z', bX11_next_155, bX11_next_160, nI_k1]
theorem m_next (X : MInv h S) (P : PX S) (Rh : ∀ k, k < sBl S → 0 ≤ sHw S k ∧ sHw S k ≤ 2) : ∃ h', tC mX11_next [.ref 70] h = some (h', some (sNext S).2) ∧ MInv h' (sNext S).1 ∧ FrM h h' := by
  obtain ⟨h1, E1, X1, F1, _, I1⟩ := m_thr X (v := 0)
  unfold sNext
  cases bo : sBo S with
  | false =>
    have bk := (m_bk X1).2 bo
    obtain ⟨h2, X2, F2, _, D2, _⟩ := m_note X1 (t := 1) (by decide)
    refine ⟨h2, ?_, X2, FrM_tr F1 F2⟩
    simp only [cX11_next_, bX11_next_0, bX11_next_5, bX11_next_9n, bX11_next_12, bX11_next_17, tk1_some, tk0_some, tkc_some, tkc_none, ↓reduceIte, E1, bk, I1, D2, Bool.false_eq_true, if_false, sRef]
  | true =>
    obtain ⟨b0, bk⟩ := (m_bk X1).1 bo
    obtain ⟨Z, tn, f, o, a, zb, rel, _⟩ := MI_143 X1
    have g33 := (m_top X1).2.2.2.2.1
    have g34 := (m_top X1).2.2.2.2.2.2.2.1
    obtain ⟨y2, y4, y5, y6, y7, L⟩ := mnx_out g34 g33 I1 a rel P.2.1 Rh 6 0 (-2) 0 tm_U tm_U tm_U tm_U (by omega)
    rw [nI_0] at L
    obtain ⟨h2, X2, F2, I2, _, _, _, _, D2⟩ := m_note X1 (t := 0) (by decide)
    have D2 := fun v => (D2 rfl v).1
    refine ⟨h2, ?_, X2, FrM_tr F1 F2⟩
    simp only [cX11_next_, bX11_next_0, bX11_next_5, bX11_next_9r, bX11_next_18, bX11_next_166, bX11_next_171, tk1_some, tk0_some, tkc_some, tkc_none, ↓reduceIte, E1, bk, L, I1, D2, if_true, sAns]
/-- led: which places are told -/
def ledC (S : SS) (i : Int32) : Bool := sBo S && decide (0 ≤ i) && decide (i < nI (sR S).2.1)
theorem m_led (X : MInv h S) (P : PX S) {i : Int32} : ∃ h', tC mX11_led [.ref 70, .int i] h = some (h', some (.int (if ledC S i = true then ledS ((sR S).1 7 (iN i)) else 0))) ∧ MInv h' S ∧ FrM h h' ∧ tm_gf (h' 70) 11 0 = some (.int (if ledC S i = true then 0 else 1)) := by
  obtain ⟨h1, E1, X1, F1, G1, I1⟩ := m_thr X (v := 1)
  obtain ⟨h2, E2, X2, F2, G2, I2⟩ := m_thr X (v := 0)
  unfold ledC
  cases bo : sBo S with
  | false =>
    have bk := (m_bk X).2 bo
    refine ⟨h1, ?_, X1, F1, by rw [G1]; rfl⟩
    simp only [cX11_led_, bX11_led_0, bX11_led_5n, bX11_led_20, bX11_led_25, bX11_led_28, bX11_led_32, bX11_led_35, bX11_led_45, tk1_some, tk0_some, tkc_some, tkc_none, ↓reduceIte, bk, E1, G1, show ((1 : Int32) ≤ 0) = False from by decide, if_false, Bool.false_and, Bool.false_eq_true]
  | true =>
    obtain ⟨b, nn, G, nm, Z, z1, z2, M, R, put⟩ := MI_bar X bo
    obtain ⟨_, _, _, g24, _⟩ := MR_f R
    have bk : tm_gf (h 70) 11 3 = some (.ref b) := by
      obtain ⟨_, hm, km, cl, tu, th, om, HA, _⟩ := R
      rw [HA.1, gf_11_3, z1]
    by_cases a : i < 0
    · refine ⟨h1, ?_, X1, F1, by rw [G1, decide_eq_false (Int32.not_le.mpr a)]; rfl⟩
      rw [decide_eq_false (Int32.not_le.mpr a)]
      simp only [cX11_led_, bX11_led_0, bX11_led_5r, bX11_led_8, bX11_led_20, bX11_led_25, bX11_led_28, bX11_led_32, bX11_led_35, bX11_led_45, tk1_some, tk0_some, tkc_some, tkc_none, ↓reduceIte, bk, a, if_true, E1, G1, show ((1 : Int32) ≤ 0) = False from by decide, if_false, Bool.and_false, Bool.false_and, Bool.false_eq_true]
    · have a0 := Int32.not_lt.mp a
      by_cases c : i < nI (sR S).2.1
      · have ok : (true && decide (0 ≤ i) && decide (i < nI (sR S).2.1)) = true := by rw [decide_eq_true a0, decide_eq_true c]; rfl
        rw [ok, if_pos rfl, if_pos rfl]
        obtain ⟨_, hm, km, cl, tu, th, om, HA, e8, e2, e6, e0, O⟩ := R
        have t40 : (sR S).2.1 ≤ 40 := by rw [(P.2.2.2.2.2 bo).2]; exact nzc_le _ _
        have li := iN_lt a0 (show (sR S).2.1 < 2 ^ 31 by omega) c
        have o2 : h2 77 = h 77 := by
          rw [tm_pf_eq, Option.map_eq_some_iff] at E2
          obtain ⟨e, _, rfl⟩ := E2
          exact tm_up_ne (by decide)
        have q : tm_ai 0 (h2 77) i = some (.int (ledS ((sR S).1 7 (iN i)))) := by
          rw [o2, HA.2.2.2.2.2.2, tm_ai_in (nI_iN a0).symm (show iN i < 40 by omega) (by decide), O (iN i) li]
        have g27 : tm_gf (h2 70) 11 27 = some (.ref 77) := by
          obtain ⟨Z2, tn2, oo, _⟩ := MI_get X2
          rw [oo, gf_11_27]
        refine ⟨h2, ?_, X2, F2, G2⟩
        simp only [cX11_led_, bX11_led_0, bX11_led_5r, bX11_led_8, bX11_led_12, bX11_led_17, bX11_led_24, bX11_led_25, bX11_led_28, bX11_led_32, bX11_led_39, bX11_led_43, bX11_led_45, tk1_some, tk0_some, tkc_some, tkc_none, ↓reduceIte, bk, a, if_false, g24, c, if_true, E2, G2, Int32.le_refl, g27, q]
      · refine ⟨h1, ?_, X1, F1, by rw [G1, decide_eq_false c, Bool.and_false]; rfl⟩
        rw [decide_eq_false c]
        simp only [cX11_led_, bX11_led_0, bX11_led_5r, bX11_led_8, bX11_led_12, bX11_led_17, bX11_led_20, bX11_led_25, bX11_led_28, bX11_led_32, bX11_led_35, bX11_led_45, tk1_some, tk0_some, tkc_some, tkc_none, ↓reduceIte, bk, a, if_false, g24, c, E1, G1, show ((1 : Int32) ≤ 0) = False from by decide, Bool.and_false, Bool.false_eq_true]
end M42
section M43
variable {h : tm_H} {S : SS}
theorem m_size (X : MInv h S) (P : PX S) (Q : sBo S = true → PB S) {what : Int32} : ∃ h', tC mX11_size [.ref 70, .int what] h = some (h', some (.int (sSize S what))) ∧ MInv h' S ∧ FrM h h' := by
  obtain ⟨h1, E1, X1, F1, _, I1⟩ := m_thr X (v := 0)
  refine ⟨h1, ?_, X1, F1⟩
  unfold sSize
  by_cases e11 : what = 11
  · subst e11
    rw [show inB 11 0 12 = true from by decide, if_pos rfl]
    simp only [cX11_size_, bX11_size_0, bX11_size_5, bX11_size_11, bX11_size_15, tk1_some, tk0_some, tkc_some, tkc_none, ↓reduceIte, E1, not_true, if_false, (m_top X1).2.2.1]
    rfl
  · cases iv : inB what 0 12 with
    | false =>
      rw [if_neg (by decide)]
      simp only [cX11_size_, bX11_size_0, bX11_size_5, bX11_size_16, bX11_size_23, bX11_size_26, tk1_some, tk0_some, tkc_some, tkc_none, ↓reduceIte, E1, e11, not_false_eq_true, if_true, m_in, iv, bI_f, not_true, if_false]
    | true =>
      rw [if_pos rfl]
      obtain ⟨k, hk, rfl⟩ := inB_nk (hi := 12) (by decide) iv
      rw [iN_nI (by omega)]
      have k11 : k ≠ 11 := fun y => e11 (by rw [y]; rfl)
      cases bo : sBo S with
      | false =>
        have bk := (m_bk X1).2 bo
        obtain ⟨c0, r1, r2, r3, b0⟩ := P.2.2.2.2.1 bo
        have ec : cutS S = 0 := by unfold cutS; rw [bo]; rfl
        have ew : widS S = 0 := by unfold widS; rw [bo]; rfl
        have st : tC mX11_size [.ref 70, .int (nI k)] h = some (h1, some (.int 0)) := by
          simp only [cX11_size_, bX11_size_0, bX11_size_5, bX11_size_16, bX11_size_23, bX11_size_28, bX11_size_32n, bX11_size_35, tk1_some, tk0_some, tkc_some, tkc_none, ↓reduceIte, E1, e11, not_false_eq_true, if_true, m_in, iv, bI_t, show ((1 : Int32) = 0) = False from by decide, bk]
        rw [st]
        have ez : sizeS S k = 0 := by
          rcases (show k = 0 ∨ k = 1 ∨ k = 2 ∨ k = 3 ∨ k = 4 ∨ k = 5 ∨ k = 6 ∨ k = 7 ∨ k = 8 ∨ k = 9 ∨ k = 10 ∨ k = 12 by omega) with rfl | rfl | rfl | rfl | rfl | rfl | rfl | rfl | rfl | rfl | rfl | rfl
          · show nI (cutS S) = 0; rw [ec]; rfl
          · show nI (widS S) = 0; rw [ew]; rfl
          · show nI (sC S 2) = 0; rw [c0 2 (by decide)]; rfl
          · show nI (sC S 3) = 0; rw [c0 3 (by decide)]; rfl
          · show nI (sC S 4) = 0; rw [c0 4 (by decide)]; rfl
          · show nI (sC S 5) = 0; rw [c0 5 (by decide)]; rfl
          · show nI (sC S 6) = 0; rw [c0 6 (by decide)]; rfl
          · show nI (sR S).2.2.2.1 = 0; rw [r3]; rfl
          · show bI (decide ((sR S).2.2.1 ≠ -1)) = 0; rw [r2]; decide
          · show nI (sR S).2.1 = 0; rw [r1]; rfl
          · show nI (sBl S) = 0; rw [b0]; rfl
          · show nI (widS S) * sqS (widS S) (widS S) = 0; rw [ew]; decide
        rw [ez]
      | true =>
        obtain ⟨b, nn, G, nm, Z, hm, km, W, _, _, _, _, _, _, R, _, _, bk⟩ := m_see X1 P bo (Q bo)
        obtain ⟨_, g22, g23, g24, _⟩ := MR_f R
        have M := mw_b W
        have en : sB S 0 0 = nI (cutS S) := (Q bo).2.2.1
        have ew : sB S 0 1 = nI (widS S) := (Q bo).2.2.2.1
        have st : tC mX11_size [.ref 70, .int (nI k)] h = tE mX11_size 37 [.ref 70, .int (nI k)] [] h1 := by
          simp only [cX11_size_, bX11_size_0, bX11_size_5, bX11_size_16, bX11_size_23, bX11_size_28, bX11_size_32r, tk1_some, tk0_some, tkc_some, tkc_none, ↓reduceIte, E1, e11, not_false_eq_true, if_true, m_in, iv, bI_t, show ((1 : Int32) = 0) = False from by decide, bk]
        rw [st]
        rcases (show k = 0 ∨ k = 1 ∨ k = 2 ∨ k = 3 ∨ k = 4 ∨ k = 5 ∨ k = 6 ∨ k = 7 ∨ k = 8 ∨ k = 9 ∨ k = 10 ∨ k = 12 by omega) with rfl | rfl | rfl | rfl | rfl | rfl | rfl | rfl | rfl | rfl | rfl | rfl
        · rw [show nI 0 = 0 from rfl]
          simp only [bX11_size_37_0, bX11_size_96, bX11_size_100, bX11_size_103, tk1_some, tk0_some, tkc_some, tkc_none, ↓reduceIte, bk, mb_o M, gf_10_0, en, sizeS]
        · rw [show nI 1 = 1 from rfl]
          simp only [bX11_size_37_1, bX11_size_104, bX11_size_108, bX11_size_111, tk1_some, tk0_some, tkc_some, tkc_none, ↓reduceIte, bk, mb_o M, gf_10_1, ew, sizeS]
        · rw [show nI 2 = 2 from rfl]
          simp only [bX11_size_37_2, bX11_size_112, bX11_size_116, bX11_size_119, tk1_some, tk0_some, tkc_some, tkc_none, ↓reduceIte, bk, mb_o M, gf_10_7, sizeS]
        · rw [show nI 3 = 3 from rfl]
          simp only [bX11_size_37_3, bX11_size_120, bX11_size_124, bX11_size_127, tk1_some, tk0_some, tkc_some, tkc_none, ↓reduceIte, bk, mb_o M, gf_10_8, sizeS]
        · rw [show nI 4 = 4 from rfl]
          simp only [bX11_size_37_4, bX11_size_128, bX11_size_132, bX11_size_135, tk1_some, tk0_some, tkc_some, tkc_none, ↓reduceIte, bk, mb_o M, gf_10_9, sizeS]
        · rw [show nI 5 = 5 from rfl]
          simp only [bX11_size_37_5, bX11_size_136, bX11_size_140, bX11_size_143, tk1_some, tk0_some, tkc_some, tkc_none, ↓reduceIte, bk, mb_o M, gf_10_10, sizeS]
        · rw [show nI 6 = 6 from rfl]
          simp only [bX11_size_37_6, bX11_size_144, bX11_size_148, bX11_size_151, tk1_some, tk0_some, tkc_some, tkc_none, ↓reduceIte, bk, mb_o M, gf_10_11, sizeS]
        · rw [show nI 7 = 7 from rfl]
          simp only [bX11_size_37_7, bX11_size_152, bX11_size_156, tk1_some, tk0_some, tkc_some, tkc_none, ↓reduceIte, g22, sizeS]
        · rw [show nI 8 = 8 from rfl]
          by_cases z : (sR S).2.2.1 = -1
          · have d0 : bI (decide ((sR S).2.2.1 ≠ -1)) = 0 := by rw [z]; decide
            have z' : ((sR S).2.2.1 = -1) = True := eq_true z
            simp only [bX11_size_37_8, bX11_size_157, bX11_size_161, bX11_size_165, bX11_size_170, tk1_some, tk0_some, tkc_some, tkc_none, ↓reduceIte, g23, z', not_true, if_false, sizeS]
            rw [d0]
          · have d0 : bI (decide ((sR S).2.2.1 ≠ -1)) = 1 := by rw [decide_eq_true z]; rfl
            simp only [bX11_size_37_8, bX11_size_157, bX11_size_161, bX11_size_169, bX11_size_170, tk1_some, tk0_some, tkc_some, tkc_none, ↓reduceIte, g23, z, not_false_eq_true, if_true, sizeS]
            rw [d0]
        · rw [show nI 9 = 9 from rfl]
          simp only [bX11_size_37_9, bX11_size_171, bX11_size_175, tk1_some, tk0_some, tkc_some, tkc_none, ↓reduceIte, g24, sizeS]
        · rw [show nI 10 = 10 from rfl]
          simp only [bX11_size_37_10, bX11_size_176, bX11_size_180, tk1_some, tk0_some, tkc_some, tkc_none, ↓reduceIte, (m_top X1).2.2.2.2.1, sizeS]
        · have sw : (nI 12).toInt < 0 ∨ 10 < (nI 12).toInt := by decide
          simp only [bX11_size_37_d sw, bX11_size_181, bX11_size_185, bX11_size_188, tk1_some, tk0_some, tkc_some, tkc_none, ↓reduceIte, bk, mb_o M, tm_isO, mwp M ew (px_w P), sizeS]
/-- a byte of a number -/
theorem nar8 (x : BitVec 32) (n : Nat) (h : n ≤ 24) : (x.sshiftRight n).setWidth 8 = (x >>> n).setWidth 8 := by
  apply BitVec.eq_of_getLsbD_eq
  intro i hi
  rw [BitVec.getLsbD_setWidth, BitVec.getLsbD_setWidth, BitVec.getLsbD_sshiftRight, BitVec.getLsbD_ushiftRight]
  rw [if_pos (show n + i < 32 by omega), decide_eq_false (show ¬ 32 ≤ i by omega)]
  simp
theorem byA (v sh : Int32) (n : Nat) (h : n ≤ 24) (e1 : ((sh.toUInt32 &&& Int32.toUInt32 31).toBitVec % 32).toNat = n) (e2 : ((sh &&& 31).toBitVec.smod 32).toNat = n) : (v.toUInt32 >>> (sh.toUInt32 &&& Int32.toUInt32 31)).toInt32.toInt8 = (v >>> (sh &&& 31)).toInt8 := by
  apply Int8.toBitVec_inj.mp
  have a : (v.toUInt32 >>> (sh.toUInt32 &&& Int32.toUInt32 31)).toBitVec = v.toBitVec >>> n := by
    rw [UInt32.toBitVec_shiftRight]
    show v.toBitVec >>> ((sh.toUInt32 &&& Int32.toUInt32 31).toBitVec % 32) = _
    rw [BitVec.ushiftRight_eq', e1]
  have b : (v >>> (sh &&& 31)).toBitVec = v.toBitVec.sshiftRight n := by
    rw [Int32.toBitVec_shiftRight]
    show v.toBitVec.sshiftRight ((sh &&& 31).toBitVec.smod 32).toNat = _
    rw [e2]
  rw [Int32.toBitVec_toInt8, Int32.toBitVec_toInt8]
  show ((v.toUInt32 >>> (sh.toUInt32 &&& Int32.toUInt32 31)).toBitVec).signExtend 8 = _
  rw [a, b, BitVec.signExtend_eq_setWidth_of_le _ (by decide), BitVec.signExtend_eq_setWidth_of_le _ (by decide)]
  exact (nar8 _ _ h).symm
def shK (k : Nat) : Int32 := if k % 4 = 0 then 24 else if k % 4 = 1 then 16 else if k % 4 = 2 then 8 else 0
theorem shK_e : ∀ k, k < 20 → 24 - (8 * (nI k - nI k / 4 * 4)) = shK k := by decide
theorem byB (v : Int32) (k : Nat) : vp_nar .byte (v >>> (shK k &&& 31)).toInt8.toInt32 = byS v (shK k) := by
  unfold byS
  have h : shK k = 24 ∨ shK k = 16 ∨ shK k = 8 ∨ shK k = 0 := by
    unfold shK
    split
    · exact .inl rfl
    · split
      · exact .inr (.inl rfl)
      · split
        · exact .inr (.inr (.inl rfl))
        · exact .inr (.inr (.inr rfl))
  rcases h with e | e | e | e
  · rw [e, byA v 24 24 (by decide) (by decide) (by decide)]
  · rw [e, byA v 16 16 (by decide) (by decide) (by decide)]
  · rw [e, byA v 8 8 (by decide) (by decide) (by decide)]
  · rw [e, byA v 0 0 (by decide) (by decide) (by decide)]
theorem MI_131 (X : MInv h S) : ∃ Z tn, h 70 = moO Z (nI tn) ∧ h 71 = aB 700 (sTp S) ∧ Z.2.2.1.1.1 = nI (sN S) ∧ ∀ tp' n', MInv (tm_up (tm_up h 71 (aB 700 tp')) 70 (moO (Z.1, Z.2.1, ((nI n', Z.2.2.1.1.2), Z.2.2.1.2), Z.2.2.2) (nI tn))) (sTape S tp' n') := by
  obtain ⟨Z, m, c, s, h0, hm, T, ⟨tn, hm0, km, cl, tu, th, om, HA⟩, tp, B, ⟨f1, t1⟩, ⟨f2, t2⟩, ⟨f3, t3⟩, ⟨f4, l1, l2⟩, ⟨f5, t4⟩, ⟨f, b1, b2⟩⟩ := X
  refine ⟨Z, tn, HA.1, tp, T.2.1, fun tp' n' => ?_⟩
  have n1 : ∀ k, k ≠ 71 → tm_up h 71 (aB 700 tp') k = h k := fun k x => tm_up_ne x
  have HA1 : MA (tm_up h 71 (aB 700 tp')) Z tn hm0 km cl tu th om := MA_c (fun k x => n1 k (by omega)) HA
  have B1 : MBB (tm_up h 71 (aB 700 tp')) Z m S := MBB_c (fun k x => n1 k (by omega)) B
  have e131 : tm_up h 71 (aB 700 tp') 71 = aB 700 tp' := tm_up_same
  generalize tm_up h 71 (aB 700 tp') = h1 at n1 HA1 B1 e131
  have nx : ∀ k e, k ≠ 70 → tm_up h1 70 e k = h1 k := fun k e x => tm_up_ne x
  refine ⟨(Z.1, Z.2.1, ((nI n', Z.2.2.1.1.2), Z.2.2.1.2), Z.2.2.2), m, c, s, by rw [nx 0 _ (by decide), n1 0 (by decide)]; exact h0, hm, ⟨T.1, rfl, T.2.2.1, T.2.2.2⟩, ⟨tn, hm0, km, cl, tu, th, om, MA_o HA1 _ tn⟩, by rw [nx 71 _ (by decide)]; exact e131, ⟨fun bo => ?_, B1.2⟩, ⟨f1, by rw [nx 78 _ (by decide), n1 78 (by decide)]; exact t1⟩, ⟨f2, by rw [nx 79 _ (by decide), n1 79 (by decide)]; exact t2⟩, ⟨f3, by rw [nx 80 _ (by decide), n1 80 (by decide)]; exact t3⟩, ⟨f4, by rw [nx 81 _ (by decide), n1 81 (by decide)]; exact l1, l2⟩, ⟨f5, by rw [nx 82 _ (by decide), n1 82 (by decide)]; exact t4⟩, ⟨f, by rw [nx 83 _ (by decide), n1 83 (by decide)]; exact b1, b2⟩⟩
  obtain ⟨b, nn, G, nm, z1, z2, z3, M, R⟩ := B1.1 bo
  have et : nI tn = nI (sR S).2.1 := by
    obtain ⟨_, _, _, _, _, _, _, HR, _⟩ := R
    have := HA1.1
    rw [HR.1] at this
    have := congrArg (fun e => tm_gf e 11 24) this
    simp only [gf_11_24, Option.some.injEq, Value.int.injEq] at this
    exact this.symm
  refine ⟨b, nn, G, nm, z1, z2, z3, MBk_c (fun k x y => nx k _ (by omega)) M, ?_⟩
  rw [et]
  exact MR_z R rfl
def fdV (a b c d e : Int32) (k : Nat) : Int32 := if k < 4 then a else if k < 8 then b else if k < 12 then c else if k < 16 then d else e
theorem mfd_sel {a b c d e : Int32} {x7 : Value} {k : Nat} (hk : k < 20) : tE mX11_feed 23 [.ref 70, .int a, .int b, .int c, .int d, .int e, .int (nI k), x7] [] h = tE mX11_feed 76 [.ref 70, .int a, .int b, .int c, .int d, .int e, .int (nI k), x7] [.int (fdV a b c d e k)] h := by
  have L : ∀ m, m < 2 ^ 31 → ((nI m ≤ nI k) ↔ m ≤ k) := fun m hm => nI_leI hm (by omega)
  have e20 : ¬ (20 : Int32) ≤ nI k := fun y => absurd ((L 20 (by decide)).mp y) (by omega)
  have L4 : (4 : Int32) ≤ nI k ↔ 4 ≤ k := L 4 (by decide)
  have L8 : (8 : Int32) ≤ nI k ↔ 8 ≤ k := L 8 (by decide)
  have L12 : (12 : Int32) ≤ nI k ↔ 12 ≤ k := L 12 (by decide)
  have L16 : (16 : Int32) ≤ nI k ↔ 16 ≤ k := L 16 (by decide)
  unfold fdV
  rw [bX11_feed_23, if_neg e20]
  by_cases d4 : k < 4
  · rw [if_pos d4, bX11_feed_30, if_neg (fun y => absurd (L4.mp y) (by omega)), bX11_feed_36]
  · rw [if_neg d4, bX11_feed_30, if_pos (L4.mpr (by omega))]
    by_cases d8 : k < 8
    · rw [if_pos d8, bX11_feed_40, if_neg (fun y => absurd (L8.mp y) (by omega)), bX11_feed_47]
    · rw [if_neg d8, bX11_feed_40, if_pos (L8.mpr (by omega))]
      by_cases d12 : k < 12
      · rw [if_pos d12, bX11_feed_51, if_neg (fun y => absurd (L12.mp y) (by omega)), bX11_feed_58]
      · rw [if_neg d12, bX11_feed_51, if_pos (L12.mpr (by omega))]
        by_cases d16 : k < 16
        · rw [if_pos d16, bX11_feed_62, if_neg (fun y => absurd (L16.mp y) (by omega)), bX11_feed_69]
        · rw [if_neg d16, bX11_feed_62, if_pos (L16.mpr (by omega)), bX11_feed_74]
theorem mfd_1 (X : MInv h S) (hn : sN S < 700) {a b c d e : Int32} {x7 : Value} {k : Nat} (hk : k < 20) : ∃ h', tE mX11_feed 23 [.ref 70, .int a, .int b, .int c, .int d, .int e, .int (nI k), x7] [] h = tE mX11_feed 23 [.ref 70, .int a, .int b, .int c, .int d, .int e, .int (nI (k + 1)), .int (fdV a b c d e k)] [] h' ∧ MInv h' (sPut1 S (fdV a b c d e k) (shK k)) ∧ FrM h h' := by
  obtain ⟨Z, tn, o, t, zn, put⟩ := MI_131 X
  have X2 := put (upd (sTp S) (sN S) (byS (fdV a b c d e k) (shK k))) (sN S + 1)
  refine ⟨_, ?_, X2, FrM_tr (FrM_up (by decide)) (FrM_up (by decide))⟩
  obtain ⟨z1, z2, ⟨⟨z3, z4⟩, z5⟩, z6⟩ := Z
  obtain rfl : z3 = nI (sN S) := zn
  have s1 : tm_si 1 h 71 (nI (sN S)) (byS (fdV a b c d e k) (shK k)) = some (tm_up h 71 (aB 700 (upd (sTp S) (sN S) (byS (fdV a b c d e k) (shK k))))) := by rw [tm_si_eq, t, tm_sa_in rfl hn (by decide), Option.map_some]
  have nx : ∀ e, tm_up h 71 e 70 = moO (z1, z2, ((nI (sN S), z4), z5), z6) (nI tn) := fun e => by rw [tm_up_ne (by decide)]; exact o
  rw [mfd_sel hk]
  simp only [bX11_feed_76, bX11_feed_82, bX11_feed_86, bX11_feed_101, bX11_feed_106, bX11_feed_111, tk1_some, tk0_some, tkc_some, tkc_none, ↓reduceIte, o, gf_11_5, gf_11_6, shK_e k hk, byB, s1, nx, tm_pf_eq, ps_11_6, Option.map_some, nI_k1]
def fdS (S : SS) (a b c d e : Int32) : Nat → SS
  | 0 => S
  | k + 1 => sPut1 (fdS S a b c d e k) (fdV a b c d e k) (shK k)
theorem fdS_n {a b c d e : Int32} : ∀ k, sN (fdS S a b c d e k) = sN S + k
  | 0 => rfl
  | k + 1 => by
    show sN (fdS S a b c d e k) + 1 = _
    rw [fdS_n k]; omega
theorem mfd_loop {a b c d e : Int32} (hn : sN S + 20 ≤ 700) : ∀ r k h x7, MInv h (fdS S a b c d e k) → k + r = 20 → ∃ h' y7, tE mX11_feed 23 [.ref 70, .int a, .int b, .int c, .int d, .int e, .int (nI k), x7] [] h = tE mX11_feed 117 [.ref 70, .int a, .int b, .int c, .int d, .int e, .int 20, y7] [] h' ∧ MInv h' (fdS S a b c d e 20) ∧ FrM h h' := by
  intro r
  induction r with
  | zero =>
    intro k h x7 X hk
    obtain rfl : k = 20 := by omega
    exact ⟨h, x7, by rw [bX11_feed_23, if_pos (show (20 : Int32) ≤ nI 20 from Int32.le_refl _)]; rfl, X, FrM_rf h⟩
  | succ r ih =>
    intro k h x7 X hk
    obtain ⟨h1, P1, X1, F1⟩ := mfd_1 X (by rw [fdS_n]; omega) (a := a) (b := b) (c := c) (d := d) (e := e) (x7 := x7) (k := k) (by omega)
    obtain ⟨h2, y7, P2, X2, F2⟩ := ih (k + 1) h1 _ X1 (by omega)
    exact ⟨h2, y7, P1.trans P2, X2, FrM_tr F1 F2⟩
theorem m_feed (X : MInv h S) (P : PX S) {a b c d e : Int32} : ∃ h', tC mX11_feed [.ref 70, .int a, .int b, .int c, .int d, .int e] h = some (h', some (sFeed S a b c d e).2) ∧ MInv h' (sFeed S a b c d e).1 ∧ FrM h h' := by
  obtain ⟨h1, E1, X1, F1, _, I1⟩ := m_thr X (v := 0)
  have hn := P.1
  have e20 : nI (sN S) + 20 = nI (sN S + 20) := nI_add _ 20
  have g6 := (m_top X1).2.2.1
  unfold sFeed
  by_cases l : sN S + 20 ≤ 700
  · rw [if_pos l]
    have l' : nI (sN S + 20) ≤ 700 := (nI_leI (by omega) (show 700 < 2 ^ 31 by decide)).mpr l
    obtain ⟨h2, y7, P2, X2, F2⟩ := mfd_loop l (a := a) (b := b) (c := c) (d := d) (e := e) 20 0 h1 tm_U X1 (by omega)
    rw [nI_0] at P2
    have g := (m_top X2).2.2.1
    rw [fdS_n] at g
    refine ⟨h2, ?_, X2, FrM_tr F1 F2⟩
    simp only [cX11_feed_, bX11_feed_0, bX11_feed_5, bX11_feed_9, bX11_feed_20, bX11_feed_117, bX11_feed_121, tk1_some, tk0_some, tkc_some, tkc_none, ↓reduceIte, E1, g6, e20, l', if_true, P2, g]
  · rw [if_neg l]
    have l' : ¬ nI (sN S + 20) ≤ 700 := nI_ge (show 700 < sN S + 20 by omega) (by omega)
    refine ⟨h1, ?_, X1, F1⟩
    simp only [cX11_feed_, bX11_feed_0, bX11_feed_5, bX11_feed_9, bX11_feed_18, tk1_some, tk0_some, tkc_some, tkc_none, ↓reduceIte, E1, g6, e20, l', if_false]
end M43
/-! THE REFERENCE's calls: book -/
def FP (z : RSt) (r : Bool × RSt) : Prop := (r.1 = true → zF r.2 = zF z) ∧ (r.1 = false → 0 < zF r.2)
theorem FP_and {z : RSt} {p : Bool × RSt} {g : RSt → Bool × RSt} (a : FP z p) (b : ∀ y, p = (true, y) → FP y (g y)) : FP z (rAnd p g) := by
  obtain ⟨q, y⟩ := p
  cases q with
  | true =>
    have c := b y rfl
    exact ⟨fun h => (c.1 h).trans (a.1 rfl), c.2⟩
  | false => exact a
section FPs
variable {tp : Nat → Int32} {n : Nat} {z : RSt}
theorem FP_whole {lo hi : Int32} : FP z (rWhole tp lo hi z) := by
  unfold rWhole
  split
  · split
    · exact ⟨fun _ => rfl, fun y => by cases y⟩
    · exact ⟨fun y => (by cases y), fun _ => by show (0 : Int32) < 4; decide⟩
  · exact ⟨fun y => (by cases y), fun _ => by show (0 : Int32) < 1; decide⟩
theorem FP_wk {lo hi : Int32} {l c : Nat} : FP z (rWK tp lo hi l c z) := by
  have a := FP_whole (tp := tp) (z := z) (lo := lo) (hi := hi)
  unfold rWK
  split
  · rename_i d; exact ⟨fun _ => (FF_put _ _ _ _).trans (a.1 d), fun y => by cases y⟩
  · rename_i d; exact ⟨fun y => (by cases y), fun _ => a.2 (by rw [Bool.not_eq_true] at d; exact d)⟩
theorem FP_tells {k l c : Nat} {lo hi : Int32} : FP z (rTells tp n k lo hi l c z) := by
  unfold rTells
  split
  · exact FP_wk (z := rStep tp n (rStep tp n z))
  · exact ⟨fun y => (by cases y), fun _ => by show (0 : Int32) < 1; decide⟩
theorem FP_tellsW {l c : Nat} {lo hi : Int32} : FP z (rTellsW tp n lo hi l c z) := FP_wk (z := rStep tp n z)
theorem FP_word {k : Nat} : FP z (rWord tp n k z) := by
  unfold rWord
  split
  · exact ⟨fun _ => rfl, fun y => by cases y⟩
  · exact ⟨fun y => (by cases y), fun _ => by show (0 : Int32) < 1; decide⟩
theorem FP_name {kd : Int32} : FP z (rName tp n kd z) := by
  unfold rName
  split
  · split
    · split
      · exact ⟨fun _ => rfl, fun y => by cases y⟩
      · exact ⟨fun y => (by cases y), fun _ => by show (0 : Int32) < 3; decide⟩
    · exact ⟨fun y => (by cases y), fun _ => by show (0 : Int32) < 3; decide⟩
  · exact ⟨fun y => (by cases y), fun _ => by show (0 : Int32) < 1; decide⟩
theorem FP_to {l : Nat} : FP z (rTo tp n l z) := by
  unfold rTo
  split
  · split
    · exact ⟨fun _ => FF_put _ _ _ _, fun y => by cases y⟩
    · exact ⟨fun y => (by cases y), fun _ => by show (0 : Int32) < 2; decide⟩
  · exact ⟨fun y => (by cases y), fun _ => by show (0 : Int32) < 1; decide⟩
theorem FP_ends {l : Nat} : FP z (true, rEnds tp n l z) := ⟨fun _ => FF_close l z, fun y => by cases y⟩
theorem FP_signs : ∀ r s z, FP z (rSigns tp n r s z)
  | 0, s, z => ⟨fun _ => (FF_close _ _).trans (FF_put _ _ _ _), fun y => by cases y⟩
  | r + 1, s, z => by
    unfold rSigns
    refine FP_and (FP_whole (z := rStep tp n z)) fun y _ => ?_
    split
    · exact ⟨fun y => (by cases y), fun _ => by show (0 : Int32) < 3; decide⟩
    · split
      · exact FP_signs r _ (rStep tp n y)
      · exact ⟨fun _ => (FF_close _ _).trans (FF_put _ _ _ _), fun y => by cases y⟩
theorem FP_smG : ∀ r k z, FP z (rSmG tp n r k z)
  | 0, k, z => ⟨fun _ => FF_close _ _, fun y => by cases y⟩
  | r + 1, k, z => by
    unfold rSmG
    refine FP_and (FP_whole (z := rStep tp n z)) fun y _ => ?_
    split
    · exact ⟨fun y => (by cases y), fun _ => by show (0 : Int32) < 5; decide⟩
    · have e : zF (rStep tp n (rPut 6 k (zL y) y)) = zF y := FF_put _ _ _ _
      split
      · have q := FP_smG r (k + 1) (rStep tp n (rPut 6 k (zL y) y))
        exact ⟨fun h => (q.1 h).trans e, q.2⟩
      · exact ⟨fun _ => (FF_close _ _).trans e, fun y => by cases y⟩
theorem FP_line : FP z (rLine tp n z) := by
  have R : ∀ (l : Nat) (k : Int32) (g : RSt → Bool × RSt), 0 < k → (∀ y, FP y (g y)) → FP z (rAnd (rRoom l k z) g) := fun l k g hk a => by
    refine FP_and ?_ fun y _ => a y
    unfold rRoom
    split
    · exact ⟨fun y => (by cases y), fun _ => hk⟩
    · exact ⟨fun _ => rfl, fun y => by cases y⟩
  unfold rLine
  split
  · exact R 0 3 _ (by decide) fun y => FP_and FP_tells fun y _ => FP_and FP_tells fun y _ => FP_ends
  · split
    · exact R 1 3 _ (by decide) fun y => FP_and FP_tellsW fun y _ => FP_and FP_tells fun y _ => FP_and FP_tells fun y _ => FP_and FP_tells fun y _ => FP_and FP_tells fun y _ => FP_ends
    · split
      · exact R 2 5 _ (by decide) fun y => FP_and FP_name fun y _ => FP_and FP_tells fun y _ => FP_and FP_tells fun y _ => FP_and FP_tells fun y _ => FP_ends
      · split
        · exact R 3 5 _ (by decide) fun y => FP_and FP_to fun y _ => FP_and FP_tells fun y _ => FP_and FP_tells fun y _ => FP_ends
        · split
          · exact R 4 5 _ (by decide) fun y => FP_and FP_name fun y _ => FP_and FP_tellsW fun y _ => FP_and FP_tells fun y _ => FP_ends
          · split
            · exact R 5 5 _ (by decide) fun y => FP_and FP_name fun y _ => FP_and FP_tells fun y _ => FP_and FP_word fun y _ => FP_signs _ _ _
            · split
              · exact R 6 5 _ (by decide) fun y => FP_and FP_name fun y _ => by
                  have q := FP_smG (tp := tp) (n := n) 9 0 (rOnes 8 0 y)
                  exact ⟨fun h => (q.1 h).trans (FF_ones _ _ _), q.2⟩
              · exact ⟨fun y => (by cases y), fun _ => by show (0 : Int32) < 1; decide⟩
theorem FP_loop : ∀ r (q : Bool × RSt), FP z q → FP z (rLoop tp n r q)
  | 0, q, a => a
  | r + 1, q, a => by
    unfold rLoop
    split
    · rename_i c
      split
      · exact a
      · refine FP_loop r _ ?_
        have e := a.1 c
        have b : FP q.2 (rAnd (rParts tp n q.2) (rLine tp n)) := by
          refine FP_and ?_ fun y _ => FP_line
          unfold rParts
          split
          · exact ⟨fun _ => rfl, fun y => by cases y⟩
          · exact ⟨fun y => (by cases y), fun _ => by show (0 : Int32) < 1; decide⟩
        exact ⟨fun h => (b.1 h).trans e, b.2⟩
    · exact a
theorem read_pos (hz : zF z = 0) : zF (rRead tp n z) = 0 ∨ 0 < zF (rRead tp n z) := by
  have a := FP_loop (tp := tp) (n := n) 700 _ (FP_line (tp := tp) (n := n) (z := z))
  unfold rRead rFin
  generalize rLoop tp n 700 (rLine tp n z) = q at a
  obtain ⟨b, y⟩ := q
  cases b with
  | false => exact .inr (a.2 rfl)
  | true =>
    cases l : rLacks y with
    | true =>
      right
      simp only [l, if_true]
      show (0 : Int32) < 6; decide
    | false =>
      left
      simp only [l]
      exact (a.1 rfl).trans hz
end FPs
section M44
variable {h : tm_H} {S : SS}
/-- the heap's book only counts -/
theorem MI_0 (X : MInv h S) {m c s c' s' : Nat} (h0 : h 0 = tm_bk m c s) : MInv (tm_up h 0 (tm_bk m c' s')) S := by
  obtain ⟨Z, m1, c1, s1, h1, hm, T, ⟨tn, hm0, km, cl, tu, th, om, HA⟩, tp, B, ⟨f1, t1⟩, ⟨f2, t2⟩, ⟨f3, t3⟩, ⟨f4, l1, l2⟩, ⟨f5, t4⟩, ⟨f, b1, b2⟩⟩ := X
  have em : m1 = m := by
    rw [h0] at h1
    injection h1 with h1
    injection h1 with h1 _
    exact h1.symm
  subst em
  have nx : ∀ k, k ≠ 0 → tm_up h 0 (tm_bk m1 c' s') k = h k := fun k x => tm_up_ne x
  exact ⟨Z, m1, c', s', tm_up_same, hm, T, ⟨tn, hm0, km, cl, tu, th, om, MA_c (fun k x => nx k (by omega)) HA⟩, by rw [nx 71 (by decide)]; exact tp, MBB_c (fun k x => nx k (by omega)) B, ⟨f1, by rw [nx 78 (by decide)]; exact t1⟩, ⟨f2, by rw [nx 79 (by decide)]; exact t2⟩, ⟨f3, by rw [nx 80 (by decide)]; exact t3⟩, ⟨f4, by rw [nx 81 (by decide)]; exact l1, l2⟩, ⟨f5, by rw [nx 82 (by decide)]; exact t4⟩, ⟨f, by rw [nx 83 (by decide)]; exact b1, b2⟩⟩
theorem book_fin {h h' : tm_H} {v : Option Value} {m c s m' c' s' : Nat} (h0 : h 0 = tm_bk m c s) (h1 : h' 0 = tm_bk m' c' s') (hc : c' ≤ c + 14) (hs : s' ≤ s + 167) : tm_fin mX11_book h (some (h', v)) = some (tm_up h' 0 (tm_bk m' (c + 14) (s + 167)), v) := by
  unfold tm_fin
  have e1 : tm_kc h = c := by unfold tm_kc; rw [h0]; rfl
  have e2 : tm_ks h = s := by unfold tm_ks; rw [h0]; rfl
  have e3 : tm_kc h' = c' := by unfold tm_kc; rw [h1]; rfl
  have e4 : tm_ks h' = s' := by unfold tm_ks; rw [h1]; rfl
  have e5 : tm_sz h' = m' := by unfold tm_sz; rw [h1]; rfl
  have e6 : tm_mc mX11_book = 14 := rfl
  have e7 : tm_ms mX11_book = 167 := rfl
  show (if tm_mc mX11_book = 0 then some (h', v) else if tm_kc h' ≤ tm_kc h + tm_mc mX11_book ∧ tm_ks h' ≤ tm_ks h + tm_ms mX11_book then some (tm_up h' 0 (tm_bk (tm_sz h') (tm_kc h + tm_mc mX11_book) (tm_ks h + tm_ms mX11_book)), v) else none) = _
  rw [e1, e2, e3, e4, e5, e6, e7, if_neg (by decide), if_pos ⟨hc, hs⟩]
theorem mbc_loop {x1 : Value} {Z : MZ} {tn : Nat} {hm km tu th om : Nat → Int32} : ∀ r k h cl, MA h Z tn hm km (fillF cl 0 k) tu th om → k + r = 40 → ∃ h', tE mX11_book 99 [.ref 70, x1, .int (nI k)] [] h = tE mX11_book 120 [.ref 70, x1, .int 0] [] h' ∧ MA h' Z tn hm km (fillF cl 0 40) tu th om ∧ (∀ k, k ≠ 74 → h' k = h k) := by
  intro r
  induction r with
  | zero =>
    intro k h cl H hk
    obtain rfl : k = 40 := by omega
    exact ⟨h, by rw [bX11_book_99, if_pos (show (40 : Int32) ≤ nI 40 from Int32.le_refl _), bX11_book_118], H, fun _ _ => rfl⟩
  | succ r ih =>
    intro k h cl H hk
    have e1 : ¬ (40 : Int32) ≤ nI k := nI_ge (show k < 40 by omega) (by decide)
    have g18 : tm_gf (h 70) 11 18 = some (.ref 74) := by rw [H.1, gf_11_18]
    have s : tm_si 0 h 74 (nI k) 0 = some (tm_up h 74 (aI 40 (fillF cl 0 (k + 1)))) := by
      rw [tm_si_eq, H.2.2.2.1, tm_sa_in rfl (show k < 40 by omega) (by decide), fillF_s]; rfl
    obtain ⟨h', P, H', F'⟩ := ih (k + 1) _ cl (MA_a4 H (fillF cl 0 (k + 1))) (by omega)
    refine ⟨h', ?_, H', fun k hk => by rw [F' k hk, tm_up_ne hk]⟩
    rw [← P, bX11_book_99, if_neg e1]
    simp only [bX11_book_105, bX11_book_109, bX11_book_112, tk1_some, tk0_some, tkc_some, tkc_none, ↓reduceIte, g18, s, nI_k1]
theorem mbl_loop {x1 : Value} (g31 : tm_gf (h 70) 11 31 = some (.ref 81)) : ∀ r k f, k + r = 9 → tE mX11_book 120 [.ref 70, x1, .int (nI k)] [] (tm_up h 81 (aI 9 (fillF f 0 k))) = tE mX11_book 139 [.ref 70, x1, .int 9] [] (tm_up h 81 (aI 9 (fillF f 0 9))) := by
  intro r
  induction r with
  | zero =>
    intro k f hk
    obtain rfl : k = 9 := by omega
    rw [bX11_book_120, if_pos (show (8 : Int32) < nI 9 by decide)]; rfl
  | succ r ih =>
    intro k f hk
    have e1 : ¬ (8 : Int32) < nI k := Int32.not_lt.mpr ((nI_leI (a := k) (b := 8) (by omega) (by decide)).mpr (by omega))
    have g : tm_gf (tm_up h 81 (aI 9 (fillF f 0 k)) 70) 11 31 = some (.ref 81) := by rw [tm_up_ne (by decide)]; exact g31
    have s : tm_si 0 (tm_up h 81 (aI 9 (fillF f 0 k))) 81 (nI k) 0 = some (tm_up h 81 (aI 9 (fillF f 0 (k + 1)))) := by
      rw [tm_si_eq, tm_up_same, tm_sa_in rfl (show k < 9 by omega) (by decide), fillF_s]
      show some (tm_up (tm_up h 81 _) 81 _) = _
      rw [tm_up_up]
    rw [← ih (k + 1) f (by omega), bX11_book_120, if_neg e1]
    simp only [bX11_book_126, bX11_book_130, bX11_book_133, tk1_some, tk0_some, tkc_some, tkc_none, ↓reduceIte, g, s, nI_k1]
end M44
section M45
variable {h : tm_H} {S : SS}
theorem bk_inj {m c s m' c' s' : Nat} (e : tm_bk m c s = tm_bk m' c' s') : m = m' := by
  injection e with e
  injection e with e _
theorem MBB_g {h' : tm_H} {Z : MZ} {m m' : Nat} (hm : 83 ≤ m) (le : m ≤ m') (E : ∀ k, k ≠ 0 → k ≤ m → h' k = h k) (B : MBB h Z m S) : MBB h' Z m' S := by
  refine ⟨fun bo => ?_, B.2⟩
  obtain ⟨b, nn, G, nm, z1, z2, z3, M, ez, hm, km, cl, tu, th, om, HA, r⟩ := B.1 bo
  refine ⟨b, nn, G, nm, z1, z2, by omega, MBk_c (fun k x y => E k (by omega) (by omega)) M, ez, hm, km, cl, tu, th, om, ?_, r⟩
  exact ⟨by rw [E 70 (by omega) (by omega)]; exact HA.1, by rw [E 72 (by omega) (by omega)]; exact HA.2.1, by rw [E 73 (by omega) (by omega)]; exact HA.2.2.1, by rw [E 74 (by omega) (by omega)]; exact HA.2.2.2.1, by rw [E 75 (by omega) (by omega)]; exact HA.2.2.2.2.1, by rw [E 76 (by omega) (by omega)]; exact HA.2.2.2.2.2.1, by rw [E 77 (by omega) (by omega)]; exact HA.2.2.2.2.2.2⟩
theorem F10_at {m i : Nat} (h1 : 1 ≤ i) (h2 : i ≤ 13) (h3 : i ≠ 12) : F_10 m i = aI (mbL i) (fun _ => 0) := by
  rcases (show i = 1 ∨ i = 2 ∨ i = 3 ∨ i = 4 ∨ i = 5 ∨ i = 6 ∨ i = 7 ∨ i = 8 ∨ i = 9 ∨ i = 10 ∨ i = 11 ∨ i = 13 by omega) with rfl | rfl | rfl | rfl | rfl | rfl | rfl | rfl | rfl | rfl | rfl | rfl <;> rfl
theorem m_book (X : MInv h S) (P : PX S) (B8 : ByOk (sTp S)) {n : Int32} {S' : SS} {r : Int32} (R : BookRel S n S' r) {m c s : Nat} (h0 : h 0 = tm_bk m c s) : ∃ h' m', tC mX11_book [.ref 70, .int n] h = some (h', some (.int r)) ∧ MInv h' S' ∧ h' 0 = tm_bk m' (c + 14) (s + 167) ∧ m' ≤ m + 14 ∧ (∀ k, k ≠ 0 → k < 70 → h' k = h k) := by
  obtain ⟨h1, E1, X1, F1, _, I1⟩ := m_thr X (v := 0)
  have h10 : h1 0 = tm_bk m c s := by rw [F1 0 (by decide)]; exact h0
  have g6 := (m_top X1).2.2.1
  have n7 := P.1
  unfold BookRel at R
  cases iv : inB n 0 (nI (sN S)) with
  | false =>
    rw [iv, if_neg (by decide)] at R
    obtain ⟨rfl, rfl⟩ := R
    obtain ⟨h2, X2, F2, _, D2, _⟩ := m_note X1 (t := 2) (by decide)
    have h20 : h2 0 = tm_bk m c s := by rw [F2 0 (by decide)]; exact h10
    have st : tE mX11_book 0 [.ref 70, .int n, tm_U] [] h = some (h2, some (.int (-1))) := by
      unfold inB at iv
      by_cases d : n < 0
      · simp only [bX11_book_0, bX11_book_5, bX11_book_17, bX11_book_22, tk1_some, tk0_some, tkc_some, tkc_none, ↓reduceIte, E1, d, if_true, I1, D2]
      · rw [if_neg d] at iv
        by_cases d2 : nI (sN S) < n
        · have d3 : ¬ n ≤ nI (sN S) := Int32.not_le.mpr d2
          simp only [bX11_book_0, bX11_book_5, bX11_book_9, bX11_book_14, bX11_book_17, bX11_book_22, tk1_some, tk0_some, tkc_some, tkc_none, ↓reduceIte, E1, d, if_false, g6, d3, I1, D2]
        · rw [if_neg d2] at iv; cases iv
    exact ⟨tm_up h2 0 (tm_bk m (c + 14) (s + 167)), m, by rw [cX11_book_, st, book_fin h0 h20 (by omega) (by omega)], MI_0 X2 h20, tm_up_same, by omega, fun k hk hk2 => by rw [tm_up_ne hk, F2 k hk2, F1 k hk2]⟩
  | true =>
    rw [iv, if_pos rfl] at R
    obtain ⟨z, ⟨lw, nm0, kn, tab, ez⟩, alt⟩ := R
    obtain ⟨en, _, hk7⟩ := inB_nat (a := 0) (b := sN S) (by omega) (by omega) iv
    obtain ⟨i1, i2⟩ := inB_t iv
    generalize iN n = k at en hk7 ez
    subst en
    obtain ⟨Z, m1, c1, s1, q0, hm, T, ⟨tn, hm0, km, cl, tu, th, om, HA⟩, tp, B, ⟨f1, t1⟩, ⟨f2, t2⟩, ⟨f3, t3⟩, ⟨f4, l1, l2⟩, ⟨f5, t4⟩, ⟨f6, b1, b2⟩⟩ := X1
    obtain rfl : m1 = m := bk_inj (q0.symm.trans h10)
    obtain ⟨⟨th0, tr0, wh0⟩, ⟨zb, zfr⟩, ⟨⟨ta, sz, at', so, pl⟩, ⟨mk', nu, fl, wa, wd⟩⟩, z4, z5⟩ := Z
    have o1 : h1 70 = moO ((th0, tr0, wh0), (zb, zfr), ((ta, sz, at', so, pl), (mk', nu, fl, wa, wd)), z4, z5) (nI tn) := HA.1
    have d : ¬ nI k < 0 := Int32.not_lt.mpr i1
    have eta : ta = nI (sN S) := T.2.1
    have st1 : tE mX11_book 0 [.ref 70, .int (nI k), tm_U] [] h = tE mX11_book 43 [.ref 70, .int (nI k), tm_U] [] (tm_up h1 70 (moO ((th0, tr0, wh0), (zb, zfr), ((0, nI k, 0, so, pl), (mk', nu, 0, wa, wd)), z4, z5) (nI tn))) := by
      simp only [bX11_book_0, bX11_book_5, bX11_book_9, bX11_book_14, bX11_book_23, bX11_book_28, bX11_book_33, bX11_book_38, tk1_some, tk0_some, tkc_some, tkc_none, ↓reduceIte, E1, d, if_false, eta, gf_11_6, i2, if_true, o1, tm_pf_eq, ps_11_7, ps_11_6, ps_11_8, ps_11_13, Option.map_some, tm_up_same, tm_up_up]
    have h2x : ∀ k', k' ≠ 70 → tm_up h1 70 (moO ((th0, tr0, wh0), (zb, zfr), ((0, nI k, 0, so, pl), (mk', nu, 0, wa, wd)), z4, z5) (nI tn)) k' = h1 k' := fun k' x => tm_up_ne x
    have h2o : tm_up h1 70 (moO ((th0, tr0, wh0), (zb, zfr), ((0, nI k, 0, so, pl), (mk', nu, 0, wa, wd)), z4, z5) (nI tn)) 70 = moO ((th0, tr0, wh0), (zb, zfr), ((0, nI k, 0, so, pl), (mk', nu, 0, wa, wd)), z4, z5) (nI tn) := tm_up_same
    generalize tm_up h1 70 (moO ((th0, tr0, wh0), (zb, zfr), ((0, nI k, 0, so, pl), (mk', nu, 0, wa, wd)), z4, z5) (nI tn)) = h2 at st1 h2x h2o
    have h20 : h2 0 = tm_bk m1 c s := by rw [h2x 0 (by decide)]; exact h10
    have sz2 : tm_sz h2 = m1 := by unfold tm_sz; rw [h20]; rfl
    have kc2 : tm_kc h2 = c := by unfold tm_kc; rw [h20]; rfl
    have ks2 : tm_ks h2 = s := by unfold tm_ks; rw [h20]; rfl
    have e3 : tm_new h2 (.inr (10, tm_dflt 10)) 26 = tm_up (tm_up h2 0 (tm_bk (m1 + 1) (c + 1) (s + 26))) (m1 + 1) (.inr (10, tm_dflt 10)) := by unfold tm_new; rw [sz2, kc2, ks2]
    have CT := ctor_10 (h := tm_up (tm_up h2 0 (tm_bk (m1 + 1) (c + 1) (s + 26))) (m1 + 1) (.inr (10, tm_dflt 10))) (m := m1 + 1) (o := m1 + 1) (c := c + 1) (s := s + 26) (by rw [tm_up_ne (by omega), tm_up_same]) tm_up_same (by omega) (Nat.le_refl _)
    have st2 : tE mX11_book 43 [.ref 70, .int (nI k), tm_U] [] h2 = tE mX11_book 51 [.ref 70, .int (nI k), tm_U] [.ref (m1 + 1), .ref 70] (mkH (tm_up (tm_up h2 0 (tm_bk (m1 + 1) (c + 1) (s + 26))) (m1 + 1) (.inr (10, tm_dflt 10))) (m1 + 1) (m1 + 1) 13 (obj_10 (m1 + 1)) (F_10 (m1 + 1)) (c + 1 + 13) (s + 26 + 141)) := by
      rw [bX11_book_43, sz2, e3, bX11_book_47, CT, tkc_none]
    have h4_0 : mkH (tm_up (tm_up h2 0 (tm_bk (m1 + 1) (c + 1) (s + 26))) (m1 + 1) (.inr (10, tm_dflt 10))) (m1 + 1) (m1 + 1) 13 (obj_10 (m1 + 1)) (F_10 (m1 + 1)) (c + 1 + 13) (s + 26 + 141) 0 = tm_bk (m1 + 14) (c + 14) (s + 167) := mk_0
    have h4_b : mkH (tm_up (tm_up h2 0 (tm_bk (m1 + 1) (c + 1) (s + 26))) (m1 + 1) (.inr (10, tm_dflt 10))) (m1 + 1) (m1 + 1) 13 (obj_10 (m1 + 1)) (F_10 (m1 + 1)) (c + 1 + 13) (s + 26 + 141) (m1 + 1) = obj_10 (m1 + 1) := mk_o (by omega)
    have h4_i : ∀ i, 1 ≤ i → i ≤ 13 → mkH (tm_up (tm_up h2 0 (tm_bk (m1 + 1) (c + 1) (s + 26))) (m1 + 1) (.inr (10, tm_dflt 10))) (m1 + 1) (m1 + 1) 13 (obj_10 (m1 + 1)) (F_10 (m1 + 1)) (c + 1 + 13) (s + 26 + 141) (m1 + 1 + i) = F_10 (m1 + 1) i := fun i x y => mk_at (Nat.le_refl _) x y
    have h4_x : ∀ k', k' ≠ 0 → k' ≤ m1 → mkH (tm_up (tm_up h2 0 (tm_bk (m1 + 1) (c + 1) (s + 26))) (m1 + 1) (.inr (10, tm_dflt 10))) (m1 + 1) (m1 + 1) 13 (obj_10 (m1 + 1)) (F_10 (m1 + 1)) (c + 1 + 13) (s + 26 + 141) k' = h2 k' := fun k' x y => by
      unfold mkH
      rw [if_neg x, if_neg (by omega), if_neg (by omega), tm_up_ne (by omega), tm_up_ne x]
    generalize mkH (tm_up (tm_up h2 0 (tm_bk (m1 + 1) (c + 1) (s + 26))) (m1 + 1) (.inr (10, tm_dflt 10))) (m1 + 1) (m1 + 1) 13 (obj_10 (m1 + 1)) (F_10 (m1 + 1)) (c + 1 + 13) (s + 26 + 141) = h4 at st2 h4_0 h4_b h4_i h4_x
    have o4 : h4 70 = moO ((th0, tr0, wh0), (zb, zfr), ((0, nI k, 0, so, pl), (mk', nu, 0, wa, wd)), z4, z5) (nI tn) := by rw [h4_x 70 (by decide) (by omega)]; exact h2o
    have st3 : tE mX11_book 51 [.ref 70, .int (nI k), tm_U] [.ref (m1 + 1), .ref 70] h4 = tE mX11_book 59 [.ref 70, .int (nI k), tm_U] [] (tm_up h4 70 (mpO ((th0, tr0, wh0), (zb, .ref (m1 + 1)), ((0, nI k, 0, 0, pl), (mk', nu, 0, wa, wd)), z4, z5) (0, 0, pl, mk', nu, 0, wa, wd) (nI tn))) := by
      simp only [bX11_book_51, bX11_book_54, tk1_some, tk0_some, tkc_some, tkc_none, ↓reduceIte, o4, tm_pf_eq, ps_11_4, ps_11_9, Option.map_some, tm_up_same, tm_up_up]
    have tp4 : h4 71 = aB 700 (sTp S) := by rw [h4_x 71 (by decide) (by omega), h2x 71 (by decide)]; exact tp
    obtain ⟨p1, G5, tk5, f5', w5⟩ := m_goes (h := tm_up h4 70 (mpO ((th0, tr0, wh0), (zb, .ref (m1 + 1)), ((0, nI k, 0, 0, pl), (mk', nu, 0, wa, wd)), z4, z5) (0, 0, pl, mk', nu, 0, wa, wd) (nI tn))) (Z := ((th0, tr0, wh0), (zb, .ref (m1 + 1)), ((0, nI k, 0, 0, pl), (mk', nu, 0, wa, wd)), z4, z5)) (p := (0, 0, pl, mk', nu, 0, wa, wd)) (tu := nI tn) (n := k) B8 (by rw [tm_up_ne (by decide)]; exact tp4) rfl (by omega) tm_up_same (b := 0) (Nat.zero_le _) rfl (by show (0 : Int32) ≠ 5; decide)
    rw [tm_up_up] at G5
    have S6 : FBk (tm_up h4 70 (mpO ((th0, tr0, wh0), (zb, .ref (m1 + 1)), ((0, nI k, 0, 0, pl), (mk', nu, 0, wa, wd)), z4, z5) p1 (nI tn))) (m1 + 1) (true, rSt0 (sTp S) k lw nm0 kn tab) := by
      refine ⟨(0, 0, -1, 0, 0, 0, 0), fun _ => 0, 0, fun _ _ => 0, fun _ => 0, ⟨?_, fun i x y w => ?_, ?_⟩, fun l hl => Nat.zero_le _, by omega, fun _ => ⟨rfl, rfl, ⟨fun i hi => absurd hi (Nat.not_lt_zero _), fun i hi => absurd hi (Nat.not_lt_zero _), fun i hi => absurd hi (Nat.not_lt_zero _), fun i hi => absurd hi (Nat.not_lt_zero _), fun i j hi => absurd hi (Nat.not_lt_zero _)⟩, fun _ => rfl, fun y => absurd rfl y, fun _ => rfl, fun y => absurd rfl y, fun i hi => absurd hi (Nat.not_lt_zero _), ⟨fun _ => [], fun i hi => absurd hi (Nat.not_lt_zero _)⟩⟩⟩
      · rw [tm_up_ne (by omega), h4_b]; rfl
      · rw [tm_up_ne (by omega), h4_i i x y, F10_at x y w]
      · rw [tm_up_ne (by omega), h4_i 12 (by decide) (by decide)]; rfl
    obtain ⟨h7, p2, P7, o7, F7, fz, wz, fb⟩ := m_readB (h := tm_up h4 70 (mpO ((th0, tr0, wh0), (zb, .ref (m1 + 1)), ((0, nI k, 0, 0, pl), (mk', nu, 0, wa, wd)), z4, z5) p1 (nI tn))) (b := m1 + 1) (n := k) (tp := sTp S) (z := rSt0 (sTp S) k lw nm0 kn tab) ⟨B8, by rw [tm_up_ne (by decide)]; exact tp4, rfl, by omega⟩ rfl (by omega) (p := p1) (tu := nI tn) tm_up_same ⟨⟨0, Nat.zero_le _, rfl⟩, tk5, f5'⟩ S6 Gd_0 rfl
    have rp := read_pos (tp := sTp S) (n := k) (z := rSt0 (sTp S) k lw nm0 kn tab) rfl
    have good := read_good (tp := sTp S) (n := k) (lw := lw) (nm := nm0) (kn := kn) (tab := tab)
    rw [← ez] at fz wz fb rp good
    have i5 : tm_isObj (tm_up h4 70 (mpO ((th0, tr0, wh0), (zb, .ref (m1 + 1)), ((0, nI k, 0, 0, pl), (mk', nu, 0, wa, wd)), z4, z5) (0, 0, pl, mk', nu, 0, wa, wd) (nI tn)) 70) 11 = true := by rw [tm_up_same]; exact tm_isO
    have i6 : tm_isObj (tm_up h4 70 (mpO ((th0, tr0, wh0), (zb, .ref (m1 + 1)), ((0, nI k, 0, 0, pl), (mk', nu, 0, wa, wd)), z4, z5) p1 (nI tn)) 70) 11 = true := by rw [tm_up_same]; exact tm_isO
    have g13 : tm_gf (h7 70) 11 13 = some (.int (zF z)) := by rw [o7, gf_11_13, fz]
    have st4 : tE mX11_book 0 [.ref 70, .int (nI k), tm_U] [] h = tE mX11_book 71 [.ref 70, .int (nI k), tm_U] [.int (zF z)] h7 := by
      rw [st1, st2, st3, bX11_book_59, i5, G5, tkc_none, bX11_book_63, i6, P7, tkc_none, bX11_book_67, g13, tk1_some]
    have h7x : ∀ k', k' ≠ 0 → k' ≠ 70 → k' ≤ m1 → h7 k' = h1 k' := fun k' x y w => by rw [F7 k' y (by omega), tm_up_ne y, h4_x k' x w, h2x k' y]
    have h70 : h7 0 = tm_bk (m1 + 14) (c + 14) (s + 167) := by rw [F7 0 (by decide) (by omega), tm_up_ne (by decide)]; exact h4_0
    have o7' : h7 70 = moO ((th0, tr0, wh0), (zb, .ref (m1 + 1)), ((0, nI k, p2.1, p2.2.1, p2.2.2.1), (p2.2.2.2.1, p2.2.2.2.2.1, p2.2.2.2.2.2.1, p2.2.2.2.2.2.2.1, p2.2.2.2.2.2.2.2)), z4, z5) (nI tn) := o7
    rw [cX11_book_, st4, bX11_book_71]
    rcases alt with ⟨zf, rfl, rfl, lM⟩ | ⟨zf, rfl, rfl⟩
    · rw [zf, if_pos (by decide)]
      obtain ⟨Gg, g0, g1, g2⟩ := good zf
      have ok := good_ok Gg g0
      obtain ⟨F, c', nn, G, nm, Sh, bd, nb, BR0⟩ := fb zf
      obtain ⟨r1, r2, r3, r4, r5, r6, r7, r8, r9⟩ : BR z F c' nn G nm := BR0 rfl
      subst r1 r2
      have MB7 : MBk h7 (m1 + 1) (zC z) (zB z) (zN z) G nm := by
        refine ⟨?_, Sh.2.1, Sh.2.2, lM, r3⟩
        rw [Sh.1]
        obtain ⟨a1, a2⟩ := r5 (by omega)
        obtain ⟨a3, a4, a5, a6, a7⟩ := r7 (by omega)
        rw [a1, a2, a3, a4, a5, a6, a7]
      -- the book is taken
      have st5 : tE mX11_book 89 [.ref 70, .int (nI k), tm_U] [] h7 = tE mX11_book 99 [.ref 70, .int (nI k), .int 0] [] (tm_up h7 70 (moO ((th0, tr0, wh0), (.ref (m1 + 1), .ref (m1 + 1)), ((0, nI k, p2.1, p2.2.1, p2.2.2.1), (p2.2.2.2.1, p2.2.2.2.2.1, p2.2.2.2.2.2.1, p2.2.2.2.2.2.2.1, p2.2.2.2.2.2.2.2)), z4, z5) (nI tn))) := by
        simp only [bX11_book_89, bX11_book_94, bX11_book_97, tk1_some, tk0_some, tkc_some, tkc_none, ↓reduceIte, o7', gf_11_4, tm_pf_eq, ps_11_3, Option.map_some]
      have HA7 : MA (tm_up h7 70 (moO ((th0, tr0, wh0), (.ref (m1 + 1), .ref (m1 + 1)), ((0, nI k, p2.1, p2.2.1, p2.2.2.1), (p2.2.2.2.1, p2.2.2.2.2.1, p2.2.2.2.2.2.1, p2.2.2.2.2.2.2.1, p2.2.2.2.2.2.2.2)), z4, z5) (nI tn))) ((th0, tr0, wh0), (.ref (m1 + 1), .ref (m1 + 1)), ((0, nI k, p2.1, p2.2.1, p2.2.2.1), (p2.2.2.2.1, p2.2.2.2.2.1, p2.2.2.2.2.2.1, p2.2.2.2.2.2.2.1, p2.2.2.2.2.2.2.2)), z4, z5) tn hm0 km (fillF cl 0 0) tu th om := by
        rw [fillF_0]
        exact ⟨tm_up_same, by rw [tm_up_ne (by decide), h7x 72 (by decide) (by decide) (by omega)]; exact HA.2.1, by rw [tm_up_ne (by decide), h7x 73 (by decide) (by decide) (by omega)]; exact HA.2.2.1, by rw [tm_up_ne (by decide), h7x 74 (by decide) (by decide) (by omega)]; exact HA.2.2.2.1, by rw [tm_up_ne (by decide), h7x 75 (by decide) (by decide) (by omega)]; exact HA.2.2.2.2.1, by rw [tm_up_ne (by decide), h7x 76 (by decide) (by decide) (by omega)]; exact HA.2.2.2.2.2.1, by rw [tm_up_ne (by decide), h7x 77 (by decide) (by decide) (by omega)]; exact HA.2.2.2.2.2.2⟩
      obtain ⟨h9, st6, HA9, F9⟩ := mbc_loop (x1 := .int (nI k)) 40 0 _ cl HA7 (by omega)
      rw [nI_0] at st6
      have h9x : ∀ k', k' ≠ 70 → k' ≠ 74 → h9 k' = h7 k' := fun k' x y => by rw [F9 k' y, tm_up_ne x]
      have l9 : h9 81 = aI 9 f4 := by rw [h9x 81 (by decide) (by decide), h7x 81 (by decide) (by decide) (by omega)]; exact l1
      have st7 := mbl_loop (h := h9) (x1 := .int (nI k)) (by rw [HA9.1, gf_11_31]) 9 0 f4 (by omega)
      rw [fillF_0, ← l9, tm_up_id, nI_0] at st7
      have o10 : tm_up h9 81 (aI 9 (fillF f4 0 9)) 70 = moO ((th0, tr0, wh0), (.ref (m1 + 1), .ref (m1 + 1)), ((0, nI k, p2.1, p2.2.1, p2.2.2.1), (p2.2.2.2.1, p2.2.2.2.2.1, p2.2.2.2.2.2.1, p2.2.2.2.2.2.2.1, p2.2.2.2.2.2.2.2)), z4, z5) (nI tn) := by rw [tm_up_ne (by decide)]; exact HA9.1
      have st8 : tE mX11_book 139 [.ref 70, .int (nI k), .int 9] [] (tm_up h9 81 (aI 9 (fillF f4 0 9))) = tE mX11_book 144 [.ref 70, .int (nI k), .int 9] [] (tm_up (tm_up h9 81 (aI 9 (fillF f4 0 9))) 70 (moO ((th0, tr0, wh0), (.ref (m1 + 1), .ref (m1 + 1)), ((0, nI k, p2.1, p2.2.1, p2.2.2.1), (p2.2.2.2.1, p2.2.2.2.2.1, p2.2.2.2.2.2.1, p2.2.2.2.2.2.2.1, p2.2.2.2.2.2.2.2)), z4, 0) (nI tn))) := by
        simp only [bX11_book_139, tk1_some, tk0_some, tkc_some, tkc_none, ↓reduceIte, o10, tm_pf_eq, ps_11_33, Option.map_some]
      have HA10 : MA (tm_up h9 81 (aI 9 (fillF f4 0 9))) ((th0, tr0, wh0), (.ref (m1 + 1), .ref (m1 + 1)), ((0, nI k, p2.1, p2.2.1, p2.2.2.1), (p2.2.2.2.1, p2.2.2.2.2.1, p2.2.2.2.2.2.1, p2.2.2.2.2.2.2.1, p2.2.2.2.2.2.2.2)), z4, z5) tn hm0 km (fillF cl 0 40) tu th om := MA_c (fun k' x => tm_up_ne (by omega)) HA9
      have HA11 := MA_o HA10 ((th0, tr0, wh0), (.ref (m1 + 1), .ref (m1 + 1)), ((0, nI k, p2.1, p2.2.1, p2.2.2.1), (p2.2.2.2.1, p2.2.2.2.2.1, p2.2.2.2.2.2.1, p2.2.2.2.2.2.2.1, p2.2.2.2.2.2.2.2)), z4, 0) tn
      have h11x : ∀ k', k' ≠ 70 → k' ≠ 74 → k' ≠ 81 → tm_up (tm_up h9 81 (aI 9 (fillF f4 0 9))) 70 (moO ((th0, tr0, wh0), (.ref (m1 + 1), .ref (m1 + 1)), ((0, nI k, p2.1, p2.2.1, p2.2.2.1), (p2.2.2.2.1, p2.2.2.2.2.1, p2.2.2.2.2.2.1, p2.2.2.2.2.2.2.1, p2.2.2.2.2.2.2.2)), z4, 0) (nI tn)) k' = h7 k' := fun k' x y w => by rw [tm_up_ne x, tm_up_ne w, h9x k' x y]
      have h11l : tm_up (tm_up h9 81 (aI 9 (fillF f4 0 9))) 70 (moO ((th0, tr0, wh0), (.ref (m1 + 1), .ref (m1 + 1)), ((0, nI k, p2.1, p2.2.1, p2.2.2.1), (p2.2.2.2.1, p2.2.2.2.2.1, p2.2.2.2.2.2.1, p2.2.2.2.2.2.2.1, p2.2.2.2.2.2.2.2)), z4, 0) (nI tn)) 81 = aI 9 (fillF f4 0 9) := by rw [tm_up_ne (by decide), tm_up_same]
      generalize tm_up (tm_up h9 81 (aI 9 (fillF f4 0 9))) 70 (moO ((th0, tr0, wh0), (.ref (m1 + 1), .ref (m1 + 1)), ((0, nI k, p2.1, p2.2.1, p2.2.2.1), (p2.2.2.2.1, p2.2.2.2.2.1, p2.2.2.2.2.2.1, p2.2.2.2.2.2.2.1, p2.2.2.2.2.2.2.2)), z4, 0) (nI tn)) = h11 at st8 HA11 h11x h11l
      obtain ⟨h12, Z12, P12, R12, Q12, F12⟩ := MR_hot (tab := zB z) (cuts := iN (zB z 0 0)) (w := iN (zB z 0 1)) ok.2.1 ok.2.2.2.1 HA11 (A := fitA (zB z) (iN (zB z 0 0)) (iN (zB z 0 1)) (sR S).1) (fun i j x y => by
        unfold fitA
        rw [heatS_k.2.2.2.1, upA_ne _ _ (by decide), upA_same, fillF_in ok.2.1 ok.2.2.2.1 x y, fillF_in ok.2.1 ok.2.2.2.1 x y]) (v := 0)
      have h12x : ∀ k', (k' < 70 ∨ k' = 71 ∨ (78 ≤ k' ∧ k' ≠ 81)) → h12 k' = h7 k' := fun k' x => by rw [F12 k' (by omega) (by omega), h11x k' (by omega) (by omega) (by omega)]
      have XI : MInv h12 ((sTp S, 0), (0, sT S, sW S), (true, zC z, zB z), (0, hot0 (zB z) (iN (zB z 0 0)) (iN (zB z 0 1)) 0 (fitA (zB z) (iN (zB z 0 0)) (iN (zB z 0 1)) (sR S).1)), (fillF (sD S) 0 8, 0), (sMk S, sHw S, 0)) := by
        have R12' := R12
        obtain ⟨_, hm', km', cl', tu', th', om', HA12, _⟩ := R12
        obtain ⟨y1, y2, y3, y4⟩ := Q12
        have h7f : h7 71 = aB 700 (sTp S) := by rw [h7x 71 (by decide) (by decide) (by omega)]; exact tp
        refine ⟨Z12, m1 + 14, c + 14, s + 167, by rw [h12x 0 (by omega)]; exact h70, by omega, ⟨by rw [y1]; exact T.1, by rw [y3]; rfl, by rw [y3]; show p2.2.2.2.2.2.1 = 0; rw [fz, zf], by rw [y4]; rfl⟩, ⟨_, hm', km', cl', tu', th', om', HA12⟩, by rw [h12x 71 (by omega)]; exact h7f, ⟨fun _ => ⟨m1 + 1, zN z, G, nm, by rw [y2], by omega, by omega, MBk_c (fun k' x y => h12x k' (by omega)) MB7, R12'⟩, fun y => by cases y⟩, ⟨f1, by rw [h12x 78 (by omega), h7x 78 (by decide) (by decide) (by omega)]; exact t1⟩, ⟨f2, by rw [h12x 79 (by omega), h7x 79 (by decide) (by decide) (by omega)]; exact t2⟩, ⟨f3, by rw [h12x 80 (by omega), h7x 80 (by decide) (by decide) (by omega)]; exact t3⟩, ⟨fillF f4 0 9, by rw [F12 81 (by decide) (by decide)]; exact h11l, fun j hj => ?_, ?_⟩, ⟨f5, by rw [h12x 82 (by omega), h7x 82 (by decide) (by decide) (by omega)]; exact t4⟩, ⟨f6, by rw [h12x 83 (by omega), h7x 83 (by decide) (by decide) (by omega)]; exact b1, fun j hj => absurd hj (Nat.not_lt_zero _)⟩⟩
        · show fillF f4 0 9 j = fillF (sD S) 0 8 j
          unfold fillF; rw [if_pos (by omega), if_pos hj]
        · unfold fillF; rw [if_pos (by decide)]
      obtain ⟨h13, X13, F13, I13, _, _, _, _, D13⟩ := m_note XI (t := 0) (by decide)
      have D13 := fun v => (D13 rfl v).1
      have o12 : tm_gf (h12 70) 11 3 = some (.ref (m1 + 1)) := by
        obtain ⟨_, hm', km', cl', tu', th', om', HA12, _⟩ := R12
        rw [HA12.1, gf_11_3, Q12.2.1]
      have g7 : tm_gf (h12 (m1 + 1)) 10 7 = some (.int (nI (zC z 2))) := by rw [h12x (m1 + 1) (by omega), MB7.1, gf_10_7]
      have i11 : tm_isObj (h11 70) 11 = true := by rw [HA11.1]; exact tm_isO
      have i12 : tm_isObj (h12 70) 11 = true := I13
      have st9 : tE mX11_book 89 [.ref 70, .int (nI k), tm_U] [] h7 = some (h13, some (.int (nI (zC z 2)))) := by
        rw [st5, st6, st7, st8, bX11_book_144, i11, P12, tkc_none, bX11_book_149, o12, tk1_some, bX11_book_154, g7, tk1_some, bX11_book_157, i12, D13, tkc_some, bX11_book_160]
      have h130 : h13 0 = tm_bk (m1 + 14) (c + 14) (s + 167) := by rw [F13 0 (by decide), h12x 0 (by omega)]; exact h70
      refine ⟨tm_up h13 0 (tm_bk (m1 + 14) (c + 14) (s + 167)), m1 + 14, by rw [st9, book_fin h0 h130 (Nat.le_refl _) (Nat.le_refl _)], MI_0 X13 h130, tm_up_same, Nat.le_refl _, fun k' x y => ?_⟩
      rw [tm_up_ne x, F13 k' y, h12x k' (by omega), h7x k' x (by omega) (by omega), F1 k' y]
    · have zp : ¬ zF z ≤ 0 := Int32.not_le.mpr (rp.resolve_left zf)
      rw [if_neg zp]
      have g14 : tm_gf (tm_up h7 70 (moO ((th0, 4, wh0), (zb, .ref (m1 + 1)), ((0, nI k, p2.1, p2.2.1, p2.2.2.1), (p2.2.2.2.1, p2.2.2.2.2.1, p2.2.2.2.2.2.1, p2.2.2.2.2.2.2.1, p2.2.2.2.2.2.2.2)), z4, z5) (nI tn)) 70) 11 14 = some (.int p2.2.2.2.2.2.2.1) := by rw [tm_up_same, gf_11_14]
      have st5 : tE mX11_book 74 [.ref 70, .int (nI k), tm_U] [] h7 = some (tm_up h7 70 (moO ((th0, 4, p2.2.2.2.2.2.2.1), (zb, .ref (m1 + 1)), ((0, nI k, p2.1, p2.2.1, p2.2.2.1), (p2.2.2.2.1, p2.2.2.2.2.1, p2.2.2.2.2.2.1, p2.2.2.2.2.2.2.1, p2.2.2.2.2.2.2.2)), z4, z5) (nI tn)), some (.int (-1))) := by
        simp only [bX11_book_74, bX11_book_79, bX11_book_84, bX11_book_87, tk1_some, tk0_some, tkc_some, tkc_none, ↓reduceIte, o7', tm_pf_eq, ps_11_1, ps_11_2, Option.map_some, tm_up_same, tm_up_up, gf_11_14]
      have EE : ∀ k', k' ≠ 0 → k' ≤ m1 → tm_up h7 70 (h1 70) k' = h1 k' := fun k' x y => by
        by_cases e : k' = 70
        · subst e; exact tm_up_same
        · rw [tm_up_ne e, h7x k' x e y]
      have XI := MI_o (S := S) (h := tm_up h7 70 (h1 70)) (Z := ((th0, tr0, wh0), (zb, zfr), ((ta, sz, at', so, pl), (mk', nu, fl, wa, wd)), z4, z5)) (m := m1 + 14) (c := c + 14) (s := s + 167) (by rw [tm_up_ne (by decide)]; exact h70) (by omega) ⟨tn, hm0, km, cl, tu, th, om, by rw [EE 70 (by decide) (by omega)]; exact HA.1, by rw [EE 72 (by decide) (by omega)]; exact HA.2.1, by rw [EE 73 (by decide) (by omega)]; exact HA.2.2.1, by rw [EE 74 (by decide) (by omega)]; exact HA.2.2.2.1, by rw [EE 75 (by decide) (by omega)]; exact HA.2.2.2.2.1, by rw [EE 76 (by decide) (by omega)]; exact HA.2.2.2.2.2.1, by rw [EE 77 (by decide) (by omega)]; exact HA.2.2.2.2.2.2⟩ (by rw [EE 71 (by decide) (by omega)]; exact tp) (MBB_g hm (by omega) EE B) ⟨f1, by rw [EE 78 (by decide) (by omega)]; exact t1⟩ ⟨f2, by rw [EE 79 (by decide) (by omega)]; exact t2⟩ ⟨f3, by rw [EE 80 (by decide) (by omega)]; exact t3⟩ ⟨f4, by rw [EE 81 (by decide) (by omega)]; exact l1, l2⟩ ⟨f5, by rw [EE 82 (by decide) (by omega)]; exact t4⟩ ⟨f6, by rw [EE 83 (by decide) (by omega)]; exact b1, b2⟩ (Z' := ((th0, 4, p2.2.2.2.2.2.2.1), (zb, .ref (m1 + 1)), ((0, nI k, p2.1, p2.2.1, p2.2.2.1), (p2.2.2.2.1, p2.2.2.2.2.1, p2.2.2.2.2.2.1, p2.2.2.2.2.2.2.1, p2.2.2.2.2.2.2.2)), z4, z5)) (S' := sFaulty S z) rfl rfl ⟨by show ((4 : Int32), p2.2.2.2.2.2.2.1) = (4, sWhere (sFaulty S z)); rw [wz zf]; rfl, rfl, fz, T.2.2.2⟩ rfl rfl (tn := tn) (by rw [tm_up_same, o1, gf_11_24])
      rw [tm_up_up] at XI
      refine ⟨_, m1 + 14, by rw [st5, book_fin h0 (m' := m1 + 14) (c' := c + 14) (s' := s + 167) (by rw [tm_up_ne (by decide)]; exact h70) (Nat.le_refl _) (Nat.le_refl _)], MI_0 XI (by rw [tm_up_ne (by decide)]; exact h70), tm_up_same, Nat.le_refl _, fun k' x y => ?_⟩
      rw [tm_up_ne x, tm_up_ne (by omega), h7x k' x (by omega) (by omega), F1 k' y]
end M45
