/-! AIM: the least clay; class and reference find the same way -/
def dig (w k j : Nat) : Nat := k / 4 ^ (w - 1 - j) % 4
theorem shr_0 : ∀ k, k < 1024 → (nI k >>> (nI (2 * 0) &&& 31)) &&& 3 = nI (k / 4 ^ 0 % 4) := by decide +kernel
theorem shr_1 : ∀ k, k < 1024 → (nI k >>> (nI (2 * 1) &&& 31)) &&& 3 = nI (k / 4 ^ 1 % 4) := by decide +kernel
theorem shr_2 : ∀ k, k < 1024 → (nI k >>> (nI (2 * 2) &&& 31)) &&& 3 = nI (k / 4 ^ 2 % 4) := by decide +kernel
theorem shr_3 : ∀ k, k < 1024 → (nI k >>> (nI (2 * 3) &&& 31)) &&& 3 = nI (k / 4 ^ 3 % 4) := by decide +kernel
theorem shr_4 : ∀ k, k < 1024 → (nI k >>> (nI (2 * 4) &&& 31)) &&& 3 = nI (k / 4 ^ 4 % 4) := by decide +kernel
theorem dgS_d {w k j : Nat} (hw : w ≤ 5) (hk : k < 1024) (hj : j < w) : dgS w (nI k) (nI j) = nI (dig w k j) := by
  unfold dgS dig
  rw [nI_sub1 (by omega), nI_sub (by omega), two_nI]
  rcases (show w - 1 - j = 0 ∨ w - 1 - j = 1 ∨ w - 1 - j = 2 ∨ w - 1 - j = 3 ∨ w - 1 - j = 4 by omega) with e | e | e | e | e
  · rw [e]; exact shr_0 k hk
  · rw [e]; exact shr_1 k hk
  · rw [e]; exact shr_2 k hk
  · rw [e]; exact shr_3 k hk
  · rw [e]; exact shr_4 k hk
theorem dig_le (w k j : Nat) : dig w k j ≤ 3 := by unfold dig; omega
theorem dig_l (w k : Nat) : dig (w + 1) k w = k % 4 := by
  unfold dig
  rw [show w + 1 - 1 - w = 0 by omega]; simp
theorem dig_s {w k j : Nat} (hj : j < w) : dig (w + 1) k j = dig w (k / 4) j := by
  unfold dig
  rw [show w + 1 - 1 - j = (w - 1 - j) + 1 by omega, Nat.div_div_eq_div_mul, Nat.pow_succ, Nat.mul_comm (4 ^ (w - 1 - j)) 4]
def totN (w k : Nat) : Nat → Nat
  | 0 => 0
  | j + 1 => totN w k j + dig w k j
theorem totN_le (w k : Nat) : ∀ j, totN w k j ≤ 3 * j
  | 0 => Nat.le_refl _
  | j + 1 => by
    have a := totN_le w k j
    have b := dig_le w k j
    unfold totN; omega
theorem totW_d {w k : Nat} (hw : w ≤ 5) (hk : k < 1024) : ∀ j, j ≤ w → totW w (nI k) j = nI (totN w k j)
  | 0, _ => rfl
  | j + 1, h => by
    show totW w (nI k) j + dgS w (nI k) (nI j) = _
    rw [totW_d hw hk j (by omega), dgS_d hw hk (by omega), nI_add]; rfl
def tenN (w k : Nat) : Nat → Nat → Nat
  | 0, a => a
  | j + 1, a => tenN w k j (a * 10 + dig w k j)
theorem tenW_d {w k : Nat} (hw : w ≤ 5) (hk : k < 1024) : ∀ j a, j ≤ w → tenW w (nI k) j (nI a) = nI (tenN w k j a)
  | 0, _, _ => rfl
  | j + 1, a, h => by
    unfold tenW tenN
    rw [dgS_d hw hk (by omega), show (10 : Int32) = nI 10 from rfl, nI_mul, nI_add]
    exact tenW_d hw hk j _ (by omega)
theorem tenN_le (w k : Nat) : ∀ j a, tenN w k j a + 1 ≤ (a + 1) * 10 ^ j
  | 0, a => by simp [tenN]
  | j + 1, a => by
    have b := dig_le w k j
    have c := tenN_le w k j (a * 10 + dig w k j)
    unfold tenN
    have d : (a * 10 + dig w k j + 1) * 10 ^ j ≤ ((a + 1) * 10) * 10 ^ j := Nat.mul_le_mul_right _ (by omega)
    have e : ((a + 1) * 10) * 10 ^ j = (a + 1) * 10 ^ (j + 1) := by rw [Nat.pow_succ, Nat.mul_assoc, Nat.mul_comm 10]
    omega
def tolN (w k : Nat) : Nat → Nat
  | 0 => 0
  | j + 1 => tolN w k j + 10 ^ j * dig w k j
theorem ten_tol (w k : Nat) : ∀ j a, tenN w k j a = a * 10 ^ j + tolN w k j
  | 0, a => by simp [tenN, tolN]
  | j + 1, a => by
    unfold tenN tolN
    rw [ten_tol w k j, Nat.add_mul, Nat.mul_assoc, Nat.pow_succ, Nat.mul_comm 10 (10 ^ j), Nat.mul_comm (dig w k j)]
    omega
/-- no digit above u -/
def capW (u : Nat) : Nat → Nat → Nat
  | 0, _ => 0
  | w + 1, k => 4 * capW u w (k / 4) + min (k % 4) u
theorem capW_lt {u : Nat} : ∀ w k, capW u w k < 4 ^ w
  | 0, _ => by simp [capW]
  | w + 1, k => by
    have a := capW_lt (u := u) w (k / 4)
    unfold capW
    rw [Nat.pow_succ]; omega
theorem cap_dig {u : Nat} : ∀ w k j, j < w → dig w (capW u w k) j = min (dig w k j) u
  | 0, _, _, h => absurd h (Nat.not_lt_zero _)
  | w + 1, k, j, h => by
    by_cases e : j = w
    · subst e
      rw [dig_l, dig_l]
      unfold capW; omega
    · rw [dig_s (show j < w by omega), dig_s (show j < w by omega)]
      have q : capW u (w + 1) k / 4 = capW u w (k / 4) := by
        show (4 * capW u w (k / 4) + min (k % 4) u) / 4 = _
        omega
      rw [q]
      exact cap_dig w (k / 4) j (by omega)
theorem tot_cap {u w k : Nat} : ∀ j, j ≤ w → totN w (capW u w k) j ≤ totN w k j ∧ ((∃ i, i < j ∧ u < dig w k i) → totN w (capW u w k) j < totN w k j)
  | 0, _ => ⟨Nat.le_refl _, fun ⟨i, hi, _⟩ => absurd hi (Nat.not_lt_zero _)⟩
  | j + 1, h => by
    obtain ⟨a, b⟩ := tot_cap (u := u) (w := w) (k := k) j (by omega)
    have c := cap_dig (u := u) w k j (by omega)
    unfold totN
    refine ⟨by omega, fun ⟨i, hi, hu⟩ => ?_⟩
    by_cases e : i = j
    · subst e; omega
    · have := b ⟨i, by omega, hu⟩
      omega
theorem aimU_d {w k u : Nat} (hw : w ≤ 5) (hk : k < 1024) (hu : u ≤ 3) : ∀ r j, j + r = w → (aimU w (nI u) (nI k) r j = true ↔ ∀ i, j ≤ i → i < w → dig w k i ≤ u)
  | 0, j, h => by
    unfold aimU
    exact ⟨fun _ i a b => absurd b (by omega), fun _ => rfl⟩
  | r + 1, j, h => by
    have ih := aimU_d hw hk hu r (j + 1) (by omega)
    have dl := dig_le w k j
    have L : (dgS w (nI k) (nI j) ≤ nI u) ↔ dig w k j ≤ u := by rw [dgS_d hw hk (by omega)]; exact nI_leI (by omega) (by omega)
    unfold aimU
    by_cases d : dgS w (nI k) (nI j) ≤ nI u
    · rw [if_pos d, ih]
      have d' := L.mp d
      constructor
      · intro q i a b
        by_cases e : i = j
        · subst e; exact d'
        · exact q i (by omega) b
      · intro q i a b; exact q i (by omega) b
    · rw [if_neg d]
      constructor
      · intro q; cases q
      · intro q; exact absurd (L.mpr (q j (Nat.le_refl _) (by omega))) d
theorem ops_cap : ∀ s, s < 61 → ∀ d, d < 4 → opS (nI s) (nI d) = opS (nI s) (nI (min d (useG (nI s) 3 0))) := by decide +kernel
theorem use_le : ∀ s, s < 61 → useG (nI s) 3 0 ≤ 3 := by decide +kernel
/-- the reference's search -/
def rfA (T : Nat → Nat) (Q : Nat → Bool) (told : Nat → Int32) : Nat → Nat → Int32 × Int32 → Int32 × Int32
  | 0, _, s => s
  | r + 1, k, s => rfA T Q told r (k + 1) (if s.1 ≠ -1 ∧ s.1 ≤ nI (T k) then s else if Q k = true then (nI (T k), told k) else s)
def RfI (T : Nat → Nat) (Q : Nat → Bool) (told : Nat → Int32) (K : Nat) (s : Int32 × Int32) : Prop :=
  (s.1 = -1 ∧ ∀ k, k < K → Q k = false) ∨ ∃ k0, k0 < K ∧ Q k0 = true ∧ s = (nI (T k0), told k0) ∧ (∀ k, k < K → Q k = true → T k0 ≤ T k) ∧ (∀ k, k < k0 → Q k = true → T k0 < T k)
theorem rfA_i {T : Nat → Nat} {Q : Nat → Bool} {told : Nat → Int32} (hT : ∀ k, T k < 2 ^ 31) : ∀ r k s, RfI T Q told k s → RfI T Q told (k + r) (rfA T Q told r k s)
  | 0, _, _, I => I
  | r + 1, k, s, I => by
    unfold rfA
    rw [show k + (r + 1) = (k + 1) + r by omega]
    refine rfA_i hT r (k + 1) _ ?_
    have nn : ∀ k, nI (T k) ≠ -1 := fun k y => absurd (nI_pos' (hT k)) (by rw [y]; decide)
    rcases I with ⟨e, n⟩ | ⟨k0, a, b, e, c, d⟩
    · rw [if_neg (fun y => y.1 e)]
      cases q : Q k with
      | true =>
        rw [if_pos rfl]
        refine .inr ⟨k, by omega, q, rfl, fun k' hk' qk => ?_, fun k' hk' qk => ?_⟩
        · by_cases x : k' = k
          · rw [x]; exact Nat.le_refl _
          · rw [n k' (by omega)] at qk; cases qk
        · rw [n k' hk'] at qk; cases qk
      | false =>
        rw [if_neg (by decide)]
        refine .inl ⟨e, fun k' hk' => ?_⟩
        by_cases x : k' = k
        · rw [x]; exact q
        · exact n k' (by omega)
    · subst e
      by_cases l : nI (T k0) ≤ nI (T k)
      · rw [if_pos ⟨nn k0, l⟩]
        have l' := (nI_leI (hT k0) (hT k)).mp l
        refine .inr ⟨k0, by omega, b, rfl, fun k' hk' qk => ?_, d⟩
        by_cases x : k' = k
        · rw [x]; exact l'
        · exact c k' (by omega) qk
      · rw [if_neg (fun y => l y.2)]
        have l' : T k < T k0 := by
          have := (not_congr (nI_leI (hT k0) (hT k))).mp l
          omega
        cases q : Q k with
        | true =>
          rw [if_pos rfl]
          refine .inr ⟨k, by omega, q, rfl, fun k' hk' qk => ?_, fun k' hk' qk => ?_⟩
          · by_cases x : k' = k
            · rw [x]; exact Nat.le_refl _
            · have := c k' (by omega) qk; omega
          · have := c k' hk' qk; omega
        | false =>
          rw [if_neg (by decide)]
          refine .inr ⟨k0, by omega, b, rfl, fun k' hk' qk => ?_, d⟩
          by_cases x : k' = k
          · rw [x, q] at qk; cases qk
          · exact c k' (by omega) qk
/-- the class's search -/
theorem lcI_i {P : Int32 → Bool} : ∀ r k, (∀ x, lcI P r k = some x → k ≤ x ∧ x < k + r ∧ P (nI x) = true ∧ ∀ y, k ≤ y → y < x → P (nI y) = false) ∧ (lcI P r k = none → ∀ y, k ≤ y → y < k + r → P (nI y) = false)
  | 0, k => ⟨fun x h => (by cases h), fun _ y a b => absurd b (by omega)⟩
  | r + 1, k => by
    obtain ⟨i1, i2⟩ := lcI_i (P := P) r (k + 1)
    unfold lcI
    cases q : P (nI k) with
    | true =>
      rw [if_pos rfl]
      refine ⟨fun x h => ?_, fun h => by cases h⟩
      injection h with h
      subst h
      exact ⟨Nat.le_refl _, by omega, q, fun y a b => absurd b (by omega)⟩
    | false =>
      rw [if_neg (by decide)]
      refine ⟨fun x h => ?_, fun h y a b => ?_⟩
      · obtain ⟨a, b, c, d⟩ := i1 x h
        refine ⟨by omega, by omega, c, fun y e f => ?_⟩
        by_cases x' : y = k
        · rw [x']; exact q
        · exact d y (by omega) f
      · by_cases x' : y = k
        · rw [x']; exact q
        · exact i2 h y (by omega) (by omega)
theorem lcO_i {P : Int32 → Int32 → Bool} {N : Nat} : ∀ r t, (∀ x, lcO P N r t = some x → ∃ u, t ≤ u ∧ u < t + r ∧ x < N ∧ P (nI u) (nI x) = true ∧ (∀ y, y < x → P (nI u) (nI y) = false) ∧ (∀ u' y, t ≤ u' → u' < u → y < N → P (nI u') (nI y) = false)) ∧ (lcO P N r t = none → ∀ u y, t ≤ u → u < t + r → y < N → P (nI u) (nI y) = false)
  | 0, t => ⟨fun x h => (by cases h), fun _ u y a b => absurd b (by omega)⟩
  | r + 1, t => by
    obtain ⟨i1, i2⟩ := lcO_i (P := P) (N := N) r (t + 1)
    obtain ⟨j1, j2⟩ := lcI_i (P := P (nI t)) N 0
    unfold lcO
    cases e : lcI (P (nI t)) N 0 with
    | some x0 =>
      refine ⟨fun x h => ?_, fun h => by cases h⟩
      injection h with h
      subst h
      obtain ⟨a, b, c, d⟩ := j1 _ e
      exact ⟨t, Nat.le_refl _, by omega, by omega, c, fun y hy => d y (Nat.zero_le _) hy, fun u' y p q => absurd q (by omega)⟩
    | none =>
      have n0 := j2 e
      refine ⟨fun x h => ?_, fun h u y a b c => ?_⟩
      · obtain ⟨u, a, b, c, d, f, g⟩ := i1 x h
        refine ⟨u, by omega, by omega, c, d, f, fun u' y p q s => ?_⟩
        by_cases x' : u' = t
        · rw [x']; exact n0 y (Nat.zero_le _) (by omega)
        · exact g u' y (by omega) q s
      · by_cases x' : u = t
        · rw [x']; exact n0 y (Nat.zero_le _) (by omega)
        · exact i2 h u y (by omega) (by omega) c
section AQ
variable {cnt : Nat → Nat} {tab : Nat → Nat → Int32} {w : Nat} {sq : Int32}
theorem aimQ_c (hw : w ≤ 5) {o o' : Nat → Int32} (E : ∀ j, j < w → o j = o' j) {heat hard : Int32} {wd : Nat} (hwd : wd ≤ w) : aimQ cnt tab w sq o heat wd hard = aimQ cnt tab w sq o' heat wd hard := by
  unfold aimQ
  rw [crkW_c hw E, clou_c hw E, behindG_c (fun j hj => (trK_c hw E).1.2.1 0 j (by decide) hj) (w - wd) wd (by omega)]
/-- both searches end at the same way -/
theorem aim_same (hw : w ≤ 5) {heat hard : Int32} {wd : Nat} (hwd : wd ≤ w) (rs : 0 ≤ tab 1 2 ∧ tab 1 2 ≤ 60) {s : Int32 × Int32} (R : RfI (fun k => totN w k w) (fun k => aimQ cnt tab w sq (aimO (tab 1 2) w (nI k)) heat wd hard) (fun k => nI (tolN w k w)) (4 ^ w) s) : (leastS cnt tab w sq heat wd hard = -1 ↔ s.1 = -1) ∧ (s.1 ≠ -1 → leastS cnt tab w sq heat wd hard = s.2) := by
  have p4 : 4 ^ w ≤ 4 ^ 5 := Nat.pow_le_pow_right (by decide) hw
  have k1024 : ∀ k, k < 4 ^ w → k < 1024 := fun k h => Nat.lt_of_lt_of_le h p4
  have es : tab 1 2 = nI (iN (tab 1 2)) := (nI_iN rs.1).symm
  have s60 : iN (tab 1 2) ≤ 60 := iN_le rs.1 (by decide) rs.2
  have ul : useG (tab 1 2) 3 0 ≤ 3 := by rw [es]; exact use_le _ (by omega)
  have oc : ∀ d, d < 4 → opS (tab 1 2) (nI d) = opS (tab 1 2) (nI (min d (useG (tab 1 2) 3 0))) := fun d hd => by rw [es]; exact ops_cap _ (by omega) d hd
  -- a way with useless clay is never the least
  have cap : ∀ k, k < 4 ^ w → aimQ cnt tab w sq (aimO (tab 1 2) w (nI k)) heat wd hard = true → aimU w (nI (useG (tab 1 2) 3 0)) (nI k) w 0 = false → ∃ k', k' < 4 ^ w ∧ aimQ cnt tab w sq (aimO (tab 1 2) w (nI k')) heat wd hard = true ∧ totN w k' w < totN w k w := fun k hk q u => by
    refine ⟨capW (useG (tab 1 2) 3 0) w k, capW_lt w k, ?_, (tot_cap w (Nat.le_refl _)).2 ?_⟩
    · rw [aimQ_c hw (o' := aimO (tab 1 2) w (nI k)) (fun j hj => ?_) hwd]
      · exact q
      · unfold aimO
        rw [dgS_d hw (k1024 _ (capW_lt w k)) hj, dgS_d hw (k1024 k hk) hj, cap_dig w k j hj]
        have := dig_le w k j
        exact (oc _ (by omega)).symm
    · have U : ¬ ∀ i, 0 ≤ i → i < w → dig w k i ≤ useG (tab 1 2) 3 0 := fun y => by
        have := (aimU_d hw (k1024 k hk) ul w 0 (by omega)).mpr y
        rw [u] at this; cases this
      by_cases x : ∃ i, i < w ∧ useG (tab 1 2) 3 0 < dig w k i
      · exact x
      · exact absurd (fun i _ hi => by
          by_cases y : dig w k i ≤ useG (tab 1 2) 3 0
          · exact y
          · exact absurd ⟨i, hi, by omega⟩ x) U
  have tk : ∀ k, k < 4 ^ w → totW w (nI k) w = nI (totN w k w) := fun k hk => totW_d hw (k1024 k hk) w (Nat.le_refl _)
  have tl : ∀ k, totN w k w ≤ 3 * w := fun k => totN_le w k w
  have pe : ∀ k u, k < 4 ^ w → u < 1000 → (lcP w (aimS cnt tab w sq heat wd hard) (nI u) (nI k) = true ↔ totN w k w = u ∧ aimU w (nI (useG (tab 1 2) 3 0)) (nI k) w 0 = true ∧ aimQ cnt tab w sq (aimO (tab 1 2) w (nI k)) heat wd hard = true) := fun k u hk hu => by
    unfold lcP aimS
    rw [Bool.and_eq_true, Bool.and_eq_true, decide_eq_true_eq, tk k hk]
    have := tl k
    rw [nI_eq (by omega) (by omega)]
  have tw : ∀ k, k < 4 ^ w → tenW w (nI k) w 0 = nI (tolN w k w) := fun k hk => by
    have := tenW_d hw (k1024 k hk) w 0 (Nat.le_refl _)
    rw [nI_0] at this
    rw [this, ten_tol, Nat.zero_mul, Nat.zero_add]
  have tn : ∀ k, nI (tolN w k w) ≠ -1 := fun k y => by
    have a := tenN_le w k w 0
    rw [ten_tol, Nat.zero_mul, Nat.zero_add, Nat.zero_add, Nat.one_mul] at a
    have b : 10 ^ w ≤ 10 ^ 5 := Nat.pow_le_pow_right (by decide) hw
    exact absurd (nI_pos' (show tolN w k w < 2 ^ 31 by omega)) (by rw [y]; decide)
  have nn : ∀ k, nI (totN w k w) ≠ -1 := fun k y => by
    have := tl k
    exact absurd (nI_pos' (show totN w k w < 2 ^ 31 by omega)) (by rw [y]; decide)
  obtain ⟨L1, L2⟩ := lcO_i (P := lcP w (aimS cnt tab w sq heat wd hard)) (N := 4 ^ w) (3 * w + 1) 0
  unfold leastS
  unfold RfI at R
  dsimp only at R
  rcases R with ⟨e, n⟩ | ⟨k0, a, b, e, c, d⟩
  · cases l : lcO (lcP w (aimS cnt tab w sq heat wd hard)) (4 ^ w) (3 * w + 1) 0 with
    | none => exact ⟨⟨fun _ => e, fun _ => rfl⟩, fun y => absurd e y⟩
    | some x =>
      obtain ⟨u, u1, u2, hx, px, _⟩ := L1 x l
      have := ((pe x u hx (by omega)).mp px).2.2
      rw [n x hx] at this; cases this
  · subst e
    have U0 : aimU w (nI (useG (tab 1 2) 3 0)) (nI k0) w 0 = true := by
      cases q : aimU w (nI (useG (tab 1 2) 3 0)) (nI k0) w 0 with
      | true => rfl
      | false =>
        obtain ⟨k', x, y, z⟩ := cap k0 a b q
        have := c k' x y
        omega
    have p0 := (pe k0 (totN w k0 w) a (by have := tl k0; omega)).mpr ⟨rfl, U0, b⟩
    cases l : lcO (lcP w (aimS cnt tab w sq heat wd hard)) (4 ^ w) (3 * w + 1) 0 with
    | none =>
      have := L2 l (totN w k0 w) k0 (Nat.zero_le _) (by have := tl k0; omega) a
      rw [p0] at this; cases this
    | some x =>
      obtain ⟨u, u1, u2, hx, px, f, g⟩ := L1 x l
      obtain ⟨t1, t2, t3⟩ := (pe x u hx (by omega)).mp px
      have le1 : totN w k0 w ≤ totN w x w := c x hx t3
      have le2 : u ≤ totN w k0 w := by
        by_cases y : u ≤ totN w k0 w
        · exact y
        · have := g (totN w k0 w) k0 (Nat.zero_le _) (by omega) a
          rw [p0] at this; cases this
      have eu : totN w k0 w = u := by omega
      have ex : x = k0 := by
        rcases Nat.lt_trichotomy x k0 with y | y | y
        · have := d x y t3
          omega
        · exact y
        · have := f k0 y
          rw [← eu, p0] at this; cases this
      subst ex
      show (tenW w (nI x) w 0 = -1 ↔ nI (totN w x w) = -1) ∧ (nI (totN w x w) ≠ -1 → tenW w (nI x) w 0 = nI (tolN w x w))
      rw [tw x hx]
      exact ⟨⟨fun y => absurd y (tn x), fun y => absurd y (nn x)⟩, fun _ => rfl⟩
end AQ
section M46
variable {h0 h : tm_H} {S : SS} {b nn : Nat} {G : Nat → Nat → Int32} {nm : Nat → Int64} {c40 cl : Nat → Int32} {lo hi : Int32}
theorem mad_loop (T0 : MT0 h0 S b nn G nm c40 lo hi) {x1 x2 x3 x4 x5 x11 : Value} {k : Nat} (hk : k < 1024) : ∀ r j h cl, TT h0 h cl → (∀ i, i < j → cl i = dgS (widS S) (nI k) (nI i)) → j + r = widS S → ∃ h' cl', tE mX11_aim 97 [.ref 70, x1, x2, x3, x4, x5, .int (nI k), .int (nI (totN (widS S) k j)), .int (nI (tolN (widS S) k j)), .int (nI (10 ^ j)), .int (nI j), x11] [] h = tE mX11_aim 175 [.ref 70, x1, x2, x3, x4, x5, .int (nI k), .int (nI (totN (widS S) k (widS S))), .int (nI (tolN (widS S) k (widS S))), .int (nI (10 ^ widS S)), .int (nI (widS S)), x11] [] h' ∧ TT h0 h' cl' ∧ (∀ i, i < widS S → cl' i = dgS (widS S) (nI k) (nI i)) := by
  have hw : widS S ≤ 5 := T0.2.2.2.2.2.2.2.2.2.1
  have ew : sB S 0 1 = nI (widS S) := T0.2.2.2.2.2.2.2.2.2.2
  intro r
  induction r with
  | zero =>
    intro j h cl T D hj
    obtain rfl : j = widS S := by omega
    obtain ⟨W, o, o4⟩ := mt_W T0 T
    have M := mw_b W
    refine ⟨h, cl, ?_, T, D⟩
    rw [bX11_aim_97]
    simp only [bX11_aim_103, bX11_aim_106, tk1_some, tk0_some, tkc_some, tkc_none, ↓reduceIte, mw_3 W, mb_o M, gf_10_1, ew, Int32.le_refl, if_true]
  | succ r ih =>
    intro j h cl T D hj
    obtain ⟨W, o, o4⟩ := mt_W T0 T
    have M := mw_b W
    have e1 : ¬ nI (widS S) ≤ nI j := nI_ge (by omega) (by omega)
    have g30 : tm_gf (h 70) 11 30 = some (.ref 80) := by rw [o]; exact T0.2.2.2.2.2.1
    have dd := dgS_d hw hk (show j < widS S by omega)
    obtain ⟨FU, hm, km, th, H⟩ := T
    have s : tm_si 0 h 80 (nI j) (dgS (widS S) (nI k) (nI j)) = some (tm_up h 80 (aI 5 (upd cl j (dgS (widS S) (nI k) (nI j))))) := by rw [tm_si_eq, H.2.2.1, tm_sa_in rfl (show j < 5 by omega) (by decide), Option.map_some]
    have T1 : TT h0 (tm_up h 80 (aI 5 (upd cl j (dgS (widS S) (nI k) (nI j))))) (upd cl j (dgS (widS S) (nI k) (nI j))) :=
      ⟨fun k x y => by rw [tm_up_ne (by omega)]; exact FU k x y, hm, km, th, by rw [tm_up_ne (by decide)]; exact H.1, by rw [tm_up_ne (by decide)]; exact H.2.1, tm_up_same, by rw [tm_up_ne (by decide)]; exact H.2.2.2⟩
    obtain ⟨h', cl', P, T', D'⟩ := ih (j + 1) _ _ T1 (fun i hi => by
      by_cases d : i = j
      · subst d; rw [upd_at]
      · rw [upd_off d]; exact D i (by omega)) (by omega)
    refine ⟨h', cl', ?_, T', D'⟩
    have nx : tm_up h 80 (aI 5 (upd cl j (dgS (widS S) (nI k) (nI j)))) 70 = h 70 := tm_up_ne (by decide)
    have q : tm_ai 0 (tm_up h 80 (aI 5 (upd cl j (dgS (widS S) (nI k) (nI j)))) 80) (nI j) = some (.int (dgS (widS S) (nI k) (nI j))) := by rw [tm_up_same, tm_ai_in rfl (show j < 5 by omega) (by decide), upd_at]
    have u1 : nI (totN (widS S) k j) + dgS (widS S) (nI k) (nI j) = nI (totN (widS S) k (j + 1)) := by rw [dd, nI_add]; rfl
    have u2 : nI (tolN (widS S) k j) + nI (10 ^ j) * dgS (widS S) (nI k) (nI j) = nI (tolN (widS S) k (j + 1)) := by rw [dd, nI_mul, nI_add]; rfl
    have u3 : nI (10 ^ j) * 10 = nI (10 ^ (j + 1)) := by rw [show (10 : Int32) = nI 10 from rfl, nI_mul, Nat.pow_succ]
    rw [← P, bX11_aim_97]
    unfold dgS at s q u1 u2 nx
    unfold dgS
    simp only [bX11_aim_103, bX11_aim_106, bX11_aim_109, bX11_aim_113, bX11_aim_122, bX11_aim_125, bX11_aim_135, bX11_aim_141, bX11_aim_144, bX11_aim_155, bX11_aim_158, tk1_some, tk0_some, tkc_some, tkc_none, ↓reduceIte, mw_3 W, mb_o M, gf_10_1, ew, e1, if_false, g30, s, nx, q, u1, u2, u3, nI_k1]
theorem msf_loop (T0 : MT0 h0 S b nn G nm c40 lo hi) (T : TT h0 h cl) {km : Nat → Int32} (k9 : h 79 = aI 5 km) (Q : ∀ j, j < widS S → ∃ kd, kd < sC S 2 ∧ km j = nI kd) {x1 x2 x4 x5 x6 x7 x8 x9 : Value} {hard : Int32} : ∀ r j sf, j + r = widS S → ∃ y11, tE mX11_aim 226 [.ref 70, x1, x2, .int hard, x4, x5, x6, x7, x8, x9, .int (bI sf), .int (nI j)] [] h = tE mX11_aim 275 [.ref 70, x1, x2, .int hard, x4, x5, x6, x7, x8, x9, .int (bI (sf && !behindG (sB S 2) km hard 0 r j)), y11] [] h := by
  have hw : widS S ≤ 5 := T0.2.2.2.2.2.2.2.2.2.1
  have ew : sB S 0 1 = nI (widS S) := T0.2.2.2.2.2.2.2.2.2.2
  obtain ⟨W, o, _⟩ := mt_W T0 T
  have M := mw_b W
  have c5 : sC S 2 ≤ 5 := mb_c M (by decide)
  have g29 : tm_gf (h 70) 11 29 = some (.ref 79) := by rw [o]; exact T0.2.2.2.2.1
  intro r
  induction r with
  | zero =>
    intro j sf hj
    obtain rfl : j = widS S := by omega
    refine ⟨.int (nI (widS S)), ?_⟩
    rw [bX11_aim_226]
    simp only [bX11_aim_232, bX11_aim_235, tk1_some, tk0_some, tkc_some, tkc_none, ↓reduceIte, mw_3 W, mb_o M, gf_10_1, ew, Int32.le_refl, if_true, behindG, Bool.not_false, Bool.and_true]
  | succ r ih =>
    intro j sf hj
    have e1 : ¬ nI (widS S) ≤ nI j := nI_ge (by omega) (by omega)
    obtain ⟨kd, hkd, ek⟩ := Q j (by omega)
    have g1 := (M.2.2.2.2.1 kd hkd).1
    have q0 : tm_ai 0 (h 79) (nI j) = some (.int (nI kd)) := by rw [k9, tm_ai_in rfl (show j < 5 by omega) (by decide), ek]
    have q1 : tm_ai 0 (h (b + 1)) (nI kd) = some (.int (sB S 2 (kd * 3))) := by rw [mb_1 M, tm_ai_in rfl (show kd < 5 by omega) (by decide), g1]
    have eh : hardS (sB S 2) km hard (0 * 5 + j) = decide (hard ≤ sB S 2 (kd * 3)) := by unfold hardS; rw [show 0 * 5 + j = j by omega, ek, nI_clamp (by omega)]
    rw [bX11_aim_226]
    unfold behindG
    rw [eh]
    cases sf with
    | false =>
      obtain ⟨y, e⟩ := ih (j + 1) false (by omega)
      refine ⟨y, ?_⟩
      rw [Bool.false_and] at e ⊢
      rw [← e]
      simp only [bX11_aim_232, bX11_aim_235, bX11_aim_238, bX11_aim_266, bX11_aim_267, tk1_some, tk0_some, tkc_some, tkc_none, ↓reduceIte, mw_3 W, mb_o M, gf_10_1, ew, e1, if_false, bI_f, if_true, nI_k1]
    | true =>
      by_cases z : hard ≤ sB S 2 (kd * 3)
      · obtain ⟨y, e⟩ := ih (j + 1) false (by omega)
        refine ⟨y, ?_⟩
        rw [decide_eq_true z, if_pos rfl, Bool.not_true, Bool.and_false]
        rw [Bool.false_and] at e
        rw [← e]
        simp only [bX11_aim_232, bX11_aim_235, bX11_aim_238, bX11_aim_243, bX11_aim_247, bX11_aim_250, bX11_aim_254, bX11_aim_257, bX11_aim_258, bX11_aim_266, bX11_aim_267, tk1_some, tk0_some, tkc_some, tkc_none, ↓reduceIte, mw_3 W, mb_o M, gf_10_1, gf_10_13, ew, e1, if_false, bI_t, bI_f, show ((1 : Int32) = 0) = False from by decide, g29, q0, q1, z, if_true, nI_k1]
      · obtain ⟨y, e⟩ := ih (j + 1) true (by omega)
        refine ⟨y, ?_⟩
        rw [decide_eq_false z, if_neg (by decide), ← e]
        simp only [bX11_aim_232, bX11_aim_235, bX11_aim_238, bX11_aim_243, bX11_aim_247, bX11_aim_250, bX11_aim_254, bX11_aim_257, bX11_aim_258, bX11_aim_262, bX11_aim_267, tk1_some, tk0_some, tkc_some, tkc_none, ↓reduceIte, mw_3 W, mb_o M, gf_10_1, gf_10_13, ew, e1, if_false, bI_t, show ((1 : Int32) = 0) = False from by decide, g29, q0, q1, z, nI_k1]
theorem mam_step (T0 : MT0 h0 S b nn G nm c40 lo hi) (T : TT h0 h cl) {heat hard : Int32} {wd k : Nat} (hwd : wd ≤ widS S) (hk : k < 1024) {le be : Int32} {x7 x8 x9 x10 x11 : Value} : ∃ h' cl' y7 y8 y9 y10 y11, tE mX11_aim 85 [.ref 70, .int heat, .int (nI wd), .int hard, .int le, .int be, .int (nI k), x7, x8, x9, x10, x11] [] h = tE mX11_aim 291 [.ref 70, .int heat, .int (nI wd), .int hard, .int (if le ≠ -1 ∧ le ≤ nI (totN (widS S) k (widS S)) then (le, be) else if aimQ (sC S) (sB S) (widS S) (sqW S) (aimO (sB S 1 2) (widS S) (nI k)) heat wd hard = true then (nI (totN (widS S) k (widS S)), nI (tolN (widS S) k (widS S))) else (le, be)).1, .int (if le ≠ -1 ∧ le ≤ nI (totN (widS S) k (widS S)) then (le, be) else if aimQ (sC S) (sB S) (widS S) (sqW S) (aimO (sB S 1 2) (widS S) (nI k)) heat wd hard = true then (nI (totN (widS S) k (widS S)), nI (tolN (widS S) k (widS S))) else (le, be)).2, .int (nI k), y7, y8, y9, y10, y11] [] h' ∧ TT h0 h' cl' := by
  have hw : widS S ≤ 5 := T0.2.2.2.2.2.2.2.2.2.1
  have ew : sB S 0 1 = nI (widS S) := T0.2.2.2.2.2.2.2.2.2.2
  obtain ⟨h1, cl1, P1, T1, D1⟩ := mad_loop T0 (x1 := .int heat) (x2 := .int (nI wd)) (x3 := .int hard) (x4 := .int le) (x5 := .int be) (x11 := x11) hk (widS S) 0 h cl T (fun i hi => absurd hi (Nat.not_lt_zero _)) (by omega)
  have st : tE mX11_aim 85 [.ref 70, .int heat, .int (nI wd), .int hard, .int le, .int be, .int (nI k), x7, x8, x9, x10, x11] [] h = tE mX11_aim 175 [.ref 70, .int heat, .int (nI wd), .int hard, .int le, .int be, .int (nI k), .int (nI (totN (widS S) k (widS S))), .int (nI (tolN (widS S) k (widS S))), .int (nI (10 ^ widS S)), .int (nI (widS S)), x11] [] h1 := by
    rw [← P1, bX11_aim_85]; rfl
  rw [st]
  by_cases c1 : le ≠ -1 ∧ le ≤ nI (totN (widS S) k (widS S))
  · refine ⟨h1, cl1, .int (nI (totN (widS S) k (widS S))), .int (nI (tolN (widS S) k (widS S))), .int (nI (10 ^ widS S)), .int (nI (widS S)), x11, ?_, T1⟩
    rw [if_pos c1, bX11_aim_175, if_neg c1.1, bX11_aim_181, if_pos c1.2]
  · rw [if_neg c1]
    have s188 : tE mX11_aim 175 [.ref 70, .int heat, .int (nI wd), .int hard, .int le, .int be, .int (nI k), .int (nI (totN (widS S) k (widS S))), .int (nI (tolN (widS S) k (widS S))), .int (nI (10 ^ widS S)), .int (nI (widS S)), x11] [] h1 = tE mX11_aim 188 [.ref 70, .int heat, .int (nI wd), .int hard, .int le, .int be, .int (nI k), .int (nI (totN (widS S) k (widS S))), .int (nI (tolN (widS S) k (widS S))), .int (nI (10 ^ widS S)), .int (nI (widS S)), x11] [] h1 := by
      rw [bX11_aim_175]
      by_cases e : le = -1
      · rw [if_pos e]
      · rw [if_neg e, bX11_aim_181, if_neg (fun y => c1 ⟨e, y⟩)]
    rw [s188]
    obtain ⟨W1, o1, _⟩ := mt_W T0 T1
    have M1 := mw_b W1
    obtain ⟨h2, km2, P2, T2, k2, E2⟩ := mt_try T0 T1 (opn := aimO (sB S 1 2) (widS S) (nI k)) (fun j hj => by rw [D1 j hj]; rfl) (heat := heat) (water := sB S 1 0)
    obtain ⟨W2, o2, _⟩ := mt_W T0 T2
    have M2 := mw_b W2
    have c5 : sC S 2 ≤ 5 := mb_c M2 (by decide)
    have g29 : tm_gf (h2 70) 11 29 = some (.ref 79) := by rw [o2]; exact T0.2.2.2.2.1
    have QK := KOk_trK T0.1 c5 hw (sq := sqW S) (water := sB S 1 0) (opn := aimO (sB S 1 2) (widS S) (nI k)) (heat := heat)
    have Q1 : ∀ i j, i < 1 → j < widS S → ∃ kd, kd < sC S 2 ∧ km2 (i * 5 + j) = nI kd := fun i j hi hj => by
      obtain ⟨kd, x, y⟩ := QK i j hi hj
      exact ⟨kd, x, (E2 i j hi hj).trans y⟩
    have PC := mcloud W2 k2 (by decide) (cuts := 1) (fun i j hi hj => (by omega : i * 5 + j < 5)) Q1 ew hw (i := 0) (by decide) (hard := hard)
    rw [nI_0, cloudG_c (kg := (trK (sC S) (sB S) (widS S) (sqW S) (aimO (sB S 1 2) (widS S) (nI k)) heat (sB S 1 0)).1 2) (fun j hj => E2 0 j (by decide) hj) (widS S) 0 (by omega)] at PC
    unfold aimQ
    cases c : crkW (sC S) (sB S) (widS S) (sqW S) (aimO (sB S 1 2) (widS S) (nI k)) heat (sB S 1 0) with
    | true =>
      rw [c, bI_t] at P2
      refine ⟨h2, cl1, .int (nI (totN (widS S) k (widS S))), .int (nI (tolN (widS S) k (widS S))), .int (nI (10 ^ widS S)), .int (nI (widS S)), x11, ?_, T2⟩
      rw [if_pos rfl, if_neg (by decide)]
      simp only [bX11_aim_188, bX11_aim_194, bX11_aim_197, bX11_aim_200, tk1_some, tk0_some, tkc_some, tkc_none, ↓reduceIte, mw_3 W1, mb_o M1, gf_10_2, mw_i W1, P2, show ((1 : Int32) = 0) = False from by decide, not_false_eq_true, if_true]
    | false =>
      rw [c, bI_f] at P2
      simp only [Bool.false_eq_true, if_false]
      by_cases z : nI (cloudG (sB S 2) ((trK (sC S) (sB S) (widS S) (sqW S) (aimO (sB S 1 2) (widS S) (nI k)) heat (sB S 1 0)).1 2) hard 0 (widS S) 0) = nI wd
      · obtain ⟨y11, L⟩ := msf_loop T0 T2 k2 (fun j hj => by
          obtain ⟨kd, x, y⟩ := Q1 0 j (by decide) hj
          exact ⟨kd, x, by rw [show 0 * 5 + j = j by omega] at y; exact y⟩) (x1 := .int heat) (x2 := .int (nI wd)) (x4 := .int le) (x5 := .int be) (x6 := .int (nI k)) (x7 := .int (nI (totN (widS S) k (widS S)))) (x8 := .int (nI (tolN (widS S) k (widS S)))) (x9 := .int (nI (10 ^ widS S))) (hard := hard) (widS S - wd) wd true (by omega)
        rw [bI_t, Bool.true_and, behindG_c (kg := (trK (sC S) (sB S) (widS S) (sqW S) (aimO (sB S 1 2) (widS S) (nI k)) heat (sB S 1 0)).1 2) (fun j hj => E2 0 j (by decide) hj) (widS S - wd) wd (by omega)] at L
        rw [if_pos z]
        have s275 : tE mX11_aim 188 [.ref 70, .int heat, .int (nI wd), .int hard, .int le, .int be, .int (nI k), .int (nI (totN (widS S) k (widS S))), .int (nI (tolN (widS S) k (widS S))), .int (nI (10 ^ widS S)), .int (nI (widS S)), x11] [] h1 = tE mX11_aim 275 [.ref 70, .int heat, .int (nI wd), .int hard, .int le, .int be, .int (nI k), .int (nI (totN (widS S) k (widS S))), .int (nI (tolN (widS S) k (widS S))), .int (nI (10 ^ widS S)), .int (bI (!behindG (sB S 2) ((trK (sC S) (sB S) (widS S) (sqW S) (aimO (sB S 1 2) (widS S) (nI k)) heat (sB S 1 0)).1 2) hard 0 (widS S - wd) wd)), y11] [] h2 := by
          rw [← L]
          simp only [bX11_aim_188, bX11_aim_194, bX11_aim_197, bX11_aim_200, bX11_aim_203, bX11_aim_208, bX11_aim_213, bX11_aim_220, tk1_some, tk0_some, tkc_some, tkc_none, ↓reduceIte, mw_3 W1, mb_o M1, gf_10_2, mw_i W1, P2, not_true, if_false, g29, mw_i W2, PC, z, if_true]
        rw [s275, bX11_aim_275]
        cases bh : behindG (sB S 2) ((trK (sC S) (sB S) (widS S) (sqW S) (aimO (sB S 1 2) (widS S) (nI k)) heat (sB S 1 0)).1 2) hard 0 (widS S - wd) wd with
        | true =>
          refine ⟨h2, cl1, .int (nI (totN (widS S) k (widS S))), .int (nI (tolN (widS S) k (widS S))), .int (nI (10 ^ widS S)), .int 0, y11, ?_, T2⟩
          rw [Bool.not_true, bI_f, if_neg (fun y => y rfl), bX11_aim_280, if_neg (by decide)]
        | false =>
          refine ⟨h2, cl1, .int (nI (totN (widS S) k (widS S))), .int (nI (tolN (widS S) k (widS S))), .int (nI (10 ^ widS S)), .int 1, y11, ?_, T2⟩
          rw [Bool.not_false, bI_t, if_pos (by decide), bX11_aim_283, if_pos rfl]
      · refine ⟨h2, cl1, .int (nI (totN (widS S) k (widS S))), .int (nI (tolN (widS S) k (widS S))), .int (nI (10 ^ widS S)), .int (nI (widS S)), x11, ?_, T2⟩
        rw [if_neg z, if_neg (by decide)]
        simp only [bX11_aim_188, bX11_aim_194, bX11_aim_197, bX11_aim_200, bX11_aim_203, bX11_aim_208, bX11_aim_213, bX11_aim_217, tk1_some, tk0_some, tkc_some, tkc_none, ↓reduceIte, mw_3 W1, mb_o M1, gf_10_2, mw_i W1, P2, not_true, if_false, g29, mw_i W2, PC, z]
theorem mam_loop (T0 : MT0 h0 S b nn G nm c40 lo hi) {heat hard : Int32} {wd : Nat} (hwd : wd ≤ widS S) : ∀ r k (s : Int32 × Int32) h cl x7 x8 x9 x10 x11, TT h0 h cl → k + r = 4 ^ widS S → ∃ h' cl' y7 y8 y9 y10 y11, tE mX11_aim 69 [.ref 70, .int heat, .int (nI wd), .int hard, .int s.1, .int s.2, .int (nI k), x7, x8, x9, x10, x11] [] h = tE mX11_aim 297 [.ref 70, .int heat, .int (nI wd), .int hard, .int (rfA (fun k => totN (widS S) k (widS S)) (fun k => aimQ (sC S) (sB S) (widS S) (sqW S) (aimO (sB S 1 2) (widS S) (nI k)) heat wd hard) (fun k => nI (tolN (widS S) k (widS S))) r k s).1, .int (rfA (fun k => totN (widS S) k (widS S)) (fun k => aimQ (sC S) (sB S) (widS S) (sqW S) (aimO (sB S 1 2) (widS S) (nI k)) heat wd hard) (fun k => nI (tolN (widS S) k (widS S))) r k s).2, .int (nI (4 ^ widS S)), y7, y8, y9, y10, y11] [] h' ∧ TT h0 h' cl' := by
  have hw : widS S ≤ 5 := T0.2.2.2.2.2.2.2.2.2.1
  have ew : sB S 0 1 = nI (widS S) := T0.2.2.2.2.2.2.2.2.2.2
  have p4 : 4 ^ widS S ≤ 4 ^ 5 := Nat.pow_le_pow_right (by decide) hw
  intro r
  induction r with
  | zero =>
    intro k s h cl x7 x8 x9 x10 x11 T hk
    obtain rfl : k = 4 ^ widS S := by omega
    obtain ⟨W, o, _⟩ := mt_W T0 T
    have M := mw_b W
    refine ⟨h, cl, x7, x8, x9, x10, x11, ?_, T⟩
    rw [bX11_aim_69]
    simp only [bX11_aim_77, bX11_aim_80, tk1_some, tk0_some, tkc_some, tkc_none, ↓reduceIte, mw_3 W, mb_o M, gf_10_1, ew, shl2 _ (show widS S < 6 by omega), Int32.le_refl, if_true, rfA]
  | succ r ih =>
    intro k s h cl x7 x8 x9 x10 x11 T hk
    obtain ⟨W, o, _⟩ := mt_W T0 T
    have M := mw_b W
    have e1 : ¬ nI (4 ^ widS S) ≤ nI k := nI_ge (by omega) (by omega)
    obtain ⟨h1, cl1, y7, y8, y9, y10, y11, P1, T1⟩ := mam_step T0 T (heat := heat) (hard := hard) hwd (show k < 1024 by omega) (le := s.1) (be := s.2) (x7 := x7) (x8 := x8) (x9 := x9) (x10 := x10) (x11 := x11)
    obtain ⟨h2, cl2, z7, z8, z9, z10, z11, P2, T2⟩ := ih (k + 1) _ h1 cl1 y7 y8 y9 y10 y11 T1 (by omega)
    refine ⟨h2, cl2, z7, z8, z9, z10, z11, ?_, T2⟩
    have st : tE mX11_aim 69 [.ref 70, .int heat, .int (nI wd), .int hard, .int s.1, .int s.2, .int (nI k), x7, x8, x9, x10, x11] [] h = tE mX11_aim 85 [.ref 70, .int heat, .int (nI wd), .int hard, .int s.1, .int s.2, .int (nI k), x7, x8, x9, x10, x11] [] h := by
      rw [bX11_aim_69]
      simp only [bX11_aim_77, bX11_aim_80, tk1_some, tk0_some, tkc_some, tkc_none, ↓reduceIte, mw_3 W, mb_o M, gf_10_1, ew, shl2 _ (show widS S < 6 by omega), e1, if_false]
    rw [st, P1, bX11_aim_291, nI_k1, P2]
    rfl
theorem m_aim (X : MInv h S) (P : PX S) (Q : sBo S = true → PB S) (rs : sBo S = true → 0 ≤ sB S 1 2 ∧ sB S 1 2 ≤ 60) {heat width hard : Int32} : ∃ h', tC mX11_aim [.ref 70, .int heat, .int width, .int hard] h = some (h', some (sAim S heat width hard).2) ∧ MInv h' (sAim S heat width hard).1 ∧ FrM h h' := by
  obtain ⟨h1, E1, X1, F1, _, I1⟩ := m_thr X (v := 0)
  unfold sAim
  cases bo : sBo S with
  | false =>
    have bk := (m_bk X1).2 bo
    obtain ⟨h2, X2, F2, _, D2, _⟩ := m_note X1 (t := 1) (by decide)
    refine ⟨h2, ?_, X2, FrM_tr F1 F2⟩
    simp only [cX11_aim_, bX11_aim_0, bX11_aim_5, bX11_aim_9n, bX11_aim_12, bX11_aim_17, tk1_some, tk0_some, tkc_some, tkc_none, ↓reduceIte, E1, bk, I1, D2, Bool.false_eq_true, if_false, sRef]
  | true =>
    obtain ⟨b, nn, G, nm, c40, lo, hi, cl, T0, T⟩ := m_tri X1 P bo (Q bo)
    obtain ⟨W, o, _⟩ := mt_W T0 T
    have M := mw_b W
    have bk := mw_3 W
    have hw : widS S ≤ 5 := T0.2.2.2.2.2.2.2.2.2.1
    have ew : sB S 0 1 = nI (widS S) := T0.2.2.2.2.2.2.2.2.2.2
    obtain ⟨h2, X2, F2, _, D2, _⟩ := m_note X1 (t := 2) (by decide)
    rw [if_pos rfl]
    unfold aimC
    cases i1 : inB heat 0 999 with
    | false =>
      simp only [Bool.false_eq_true, if_false]
      refine ⟨h2, ?_, X2, FrM_tr F1 F2⟩
      simp only [cX11_aim_, bX11_aim_0, bX11_aim_5, bX11_aim_9r, bX11_aim_18, bX11_aim_26, bX11_aim_54, bX11_aim_59, tk1_some, tk0_some, tkc_some, tkc_none, ↓reduceIte, E1, bk, m_in, i1, bI_f, if_true, I1, D2, sRef]
    | true =>
      rw [if_pos rfl]
      cases i2 : inB width 0 (nI (widS S)) with
      | false =>
        simp only [Bool.false_eq_true, if_false]
        refine ⟨h2, ?_, X2, FrM_tr F1 F2⟩
        simp only [cX11_aim_, bX11_aim_0, bX11_aim_5, bX11_aim_9r, bX11_aim_18, bX11_aim_26, bX11_aim_29, bX11_aim_35, bX11_aim_38, bX11_aim_41, bX11_aim_54, bX11_aim_59, tk1_some, tk0_some, tkc_some, tkc_none, ↓reduceIte, E1, bk, m_in, i1, mb_o M, gf_10_1, ew, i2, bI_t, bI_f, show ((1 : Int32) = 0) = False from by decide, if_true, if_false, I1, D2, sRef]
      | true =>
        rw [if_pos rfl]
        cases i3 : inB hard 0 99 with
        | false =>
          rw [if_neg (by decide)]
          refine ⟨h2, ?_, X2, FrM_tr F1 F2⟩
          simp only [cX11_aim_, bX11_aim_0, bX11_aim_5, bX11_aim_9r, bX11_aim_18, bX11_aim_26, bX11_aim_29, bX11_aim_35, bX11_aim_38, bX11_aim_41, bX11_aim_44, bX11_aim_51, bX11_aim_54, bX11_aim_59, tk1_some, tk0_some, tkc_some, tkc_none, ↓reduceIte, E1, bk, m_in, i1, mb_o M, gf_10_1, ew, i2, i3, bI_t, bI_f, show ((1 : Int32) = 0) = False from by decide, not_true, if_false, I1, D2, sRef]
        | true =>
          rw [if_pos rfl]
          obtain ⟨en, _, hwd⟩ := inB_nat (a := 0) (b := widS S) (by omega) (by omega) i2
          generalize iN width = wd at en hwd
          subst en
          obtain ⟨h3, cl3, y7, y8, y9, y10, y11, P3, T3⟩ := mam_loop T0 (heat := heat) (hard := hard) hwd (4 ^ widS S) 0 (-1, 0) h1 cl tm_U tm_U tm_U tm_U tm_U T (by omega)
          have RI := rfA_i (T := fun k => totN (widS S) k (widS S)) (Q := fun k => aimQ (sC S) (sB S) (widS S) (sqW S) (aimO (sB S 1 2) (widS S) (nI k)) heat wd hard) (told := fun k => nI (tolN (widS S) k (widS S))) (fun k => by have := totN_le (widS S) k (widS S); show totN (widS S) k (widS S) < 2 ^ 31; omega) (4 ^ widS S) 0 (-1, 0) (.inl ⟨rfl, fun k hk => absurd hk (Nat.not_lt_zero _)⟩)
          rw [Nat.zero_add] at RI
          obtain ⟨A1, A2⟩ := aim_same hw hwd (rs bo) RI
          generalize rfA (fun k => totN (widS S) k (widS S)) (fun k => aimQ (sC S) (sB S) (widS S) (sqW S) (aimO (sB S 1 2) (widS S) (nI k)) heat wd hard) (fun k => nI (tolN (widS S) k (widS S))) (4 ^ widS S) 0 (-1, 0) = s at P3 A1 A2
          rw [nI_0] at P3
          obtain ⟨X3, F3⟩ := m_triP X1 T3
          have st : tC mX11_aim [.ref 70, .int heat, .int (nI wd), .int hard] h = tE mX11_aim 297 [.ref 70, .int heat, .int (nI wd), .int hard, .int s.1, .int s.2, .int (nI (4 ^ widS S)), y7, y8, y9, y10, y11] [] h3 := by
            rw [← P3]
            simp only [cX11_aim_, bX11_aim_0, bX11_aim_5, bX11_aim_9r, bX11_aim_18, bX11_aim_26, bX11_aim_29, bX11_aim_35, bX11_aim_38, bX11_aim_41, bX11_aim_44, bX11_aim_51, bX11_aim_60, tk1_some, tk0_some, tkc_some, tkc_none, ↓reduceIte, E1, bk, m_in, i1, mb_o M, gf_10_1, ew, i2, i3, bI_t, show ((1 : Int32) = 0) = False from by decide, not_false_eq_true, if_true, if_false]
          rw [st, bX11_aim_297]
          by_cases e : s.1 = -1
          · rw [if_pos (A1.mpr e), if_neg (fun y => y e)]
            obtain ⟨h4, X4, F4, I4, D4, _⟩ := m_note X3 (t := 6) (by decide)
            refine ⟨h4, ?_, X4, FrM_tr F1 (FrM_tr F3 F4)⟩
            simp only [bX11_aim_303, bX11_aim_309, bX11_aim_318, tk1_some, tk0_some, tkc_some, tkc_none, ↓reduceIte, I4, D4, sRef]
          · rw [if_neg (fun y => e (A1.mp y)), if_pos e, A2 e]
            obtain ⟨h4, X4, F4, I4, _, _, _, _, D4⟩ := m_note X3 (t := 0) (by decide)
            have D4 := fun v => (D4 rfl v).1
            refine ⟨h4, ?_, X4, FrM_tr F1 (FrM_tr F3 F4)⟩
            simp only [bX11_aim_312, bX11_aim_318, tk1_some, tk0_some, tkc_some, tkc_none, ↓reduceIte, I4, D4, sAns]
end M46
