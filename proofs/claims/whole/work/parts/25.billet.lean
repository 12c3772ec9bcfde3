/-! ARRAYS filled; LAYERS folded -/
def fillF (f : Nat → Int32) (v : Int32) (k : Nat) : Nat → Int32 := fun j => if j < k then v else f j
theorem fillF_0 (f : Nat → Int32) (v : Int32) : fillF f v 0 = f := by funext j; simp [fillF]
theorem fillF_s (f : Nat → Int32) (v : Int32) (k : Nat) : upd (fillF f v k) k v = fillF f v (k + 1) := by
  funext j
  unfold upd fillF
  by_cases h1 : j = k
  · subst h1; simp
  · by_cases h2 : j < k
    · rw [if_neg h1, if_pos h2, if_pos (by omega)]
    · rw [if_neg h1, if_neg h2, if_neg (by omega)]
theorem nI_k1 (k : Nat) : nI k + 1 = nI (k + 1) := nI_1 k
section FI
variable {h : tm_H} {a n : Nat} {f : Nat → Int32} {v : Int32}
theorem fill_loop (ha : h a = aI n f) (hn : n < 2 ^ 31) : ∀ d k, k + d = n → tE mJ7_fill_53178 5 [.ref a, .int v, .int (nI k), .int (nI n)] [] (tm_up h a (aI n (fillF f v k))) = some (tm_up h a (aI n (fillF f v n)), none) := by
  intro d
  induction d with
  | zero =>
    intro k hk
    obtain rfl : k = n := by omega
    simp only [bJ7_fill_53178_4, bJ7_fill_53178_5, bJ7_fill_53178_10, bJ7_fill_53178_14, bJ7_fill_53178_20, tk1_some, tk0_some, tkc_some, tkc_none, ↓reduceIte, nI_leI hn hn, Nat.le_refl, if_true]
  | succ d ih =>
    intro k hk
    have e1 : ¬ nI n ≤ nI k := nI_ge (by omega) hn
    rw [bJ7_fill_53178_5, if_neg e1, bJ7_fill_53178_10, tm_si_eq, tm_up_same, tm_sa_in rfl (by omega) hn, Option.map_some, tk0_some, bJ7_fill_53178_14, tm_up_up, fillF_s, nI_k1]
    exact ih (k + 1) (by omega)
theorem fill_spec (ha : h a = aI n f) (hn : n < 2 ^ 31) : tC mJ7_fill_53178 [.ref a, .int v] h = some (tm_up h a (aI n (fillF f v n)), none) := by
  rw [cJ7_fill_53178_, bJ7_fill_53178_0, ha, tm_al_i (by omega), tk1_some, bJ7_fill_53178_4]
  have := fill_loop (v := v) ha hn n 0 (by omega)
  rw [fillF_0, ← ha, tm_up_id, nI_0] at this
  rw [this]
end FI
/-- a fold of the layers, the first half then the second -/
def foldA (f : Nat → Int32) : Nat → Nat → Int32
  | 0 => f
  | k + 1 => upd (foldA f k) k ((foldA f k (2 * k) + foldA f k (2 * k + 1)) / 2)
def foldB (f : Nat → Int32) : Nat → Nat → Int32
  | 0 => f
  | k + 1 => upd (foldB f k) (7 - k) (foldB f k k)
def foldL (f : Nat → Int32) : Nat → Int32 := foldB (foldA f 4) 4
theorem two_nI (k : Nat) : 2 * nI k = nI (2 * k) := nI_mul 2 k
section FO
variable {h : tm_H} {a : Nat} {f : Nat → Int32}
theorem fo_loop1 {a2 : Value} : ∀ d k, k + d = 4 → tE mX1_foldOver 7 [.ref a, .int (nI 4), .int (nI k)] [] (tm_up h a (aI 8 (foldA f k))) = tE mX1_foldOver 38 [.ref a, .int (nI 4), .int 0] [] (tm_up h a (aI 8 (foldA f 4))) := by
  intro d
  induction d with
  | zero =>
    intro k hk
    obtain rfl : k = 4 := by omega
    simp only [bX1_foldOver_7, bX1_foldOver_36, nI_leI (show 4 < 2 ^ 31 by decide) (show 4 < 2 ^ 31 by decide), Nat.le_refl, if_true]
  | succ d ih =>
    intro k hk
    have e1 : ¬ nI 4 ≤ nI k := nI_ge (by omega) (by decide)
    rw [bX1_foldOver_7, if_neg e1, bX1_foldOver_12, tm_up_same, two_nI, tm_ai_in rfl (by omega) (by decide), tk1_some, bX1_foldOver_19, tm_up_same, two_nI, nI_k1, tm_ai_in rfl (by omega) (by decide), tk1_some, bX1_foldOver_26, tm_si_eq, tm_up_same, tm_sa_in rfl (by omega) (by decide), Option.map_some, tk0_some, bX1_foldOver_30, tm_up_up, nI_k1]
    exact ih (k + 1) (by omega)
theorem fo_loop2 : ∀ d k, k + d = 4 → tE mX1_foldOver 38 [.ref a, .int (nI 4), .int (nI k)] [] (tm_up h a (aI 8 (foldB f k))) = some (tm_up h a (aI 8 (foldB f 4)), none) := by
  intro d
  induction d with
  | zero =>
    intro k hk
    obtain rfl : k = 4 := by omega
    simp only [bX1_foldOver_38, bX1_foldOver_60, nI_leI (show 4 < 2 ^ 31 by decide) (show 4 < 2 ^ 31 by decide), Nat.le_refl, if_true]
  | succ d ih =>
    intro k hk
    have e1 : ¬ nI 4 ≤ nI k := nI_ge (by omega) (by decide)
    have e2 : nI 8 - 1 - nI k = nI (7 - k) := by
      rcases (show k = 0 ∨ k = 1 ∨ k = 2 ∨ k = 3 by omega) with rfl | rfl | rfl | rfl <;> decide
    rw [bX1_foldOver_38, if_neg e1, bX1_foldOver_43, tm_up_same, tm_al_i (by omega), tk1_some, bX1_foldOver_46, tm_up_same, tm_ai_in rfl (by omega) (by decide), tk1_some, e2, bX1_foldOver_53, tm_si_eq, tm_up_same, tm_sa_in rfl (by omega) (by decide), Option.map_some, tk0_some, bX1_foldOver_54, tm_up_up, nI_k1]
    exact ih (k + 1) (by omega)
theorem fo_spec (ha : h a = aI 8 f) : tC mX1_foldOver [.ref a] h = some (tm_up h a (aI 8 (foldL f)), none) := by
  rw [cX1_foldOver_, bX1_foldOver_0, ha, tm_al_i (by omega), tk1_some, bX1_foldOver_2, show nI 8 / 2 = nI 4 from by decide]
  have e1 := fo_loop1 (h := h) (a := a) (f := f) (a2 := tm_U) 4 0 (by omega)
  rw [show foldA f 0 = f from rfl, ← ha, tm_up_id, nI_0] at e1
  rw [e1]
  have e2 := fo_loop2 (h := tm_up h a (aI 8 (foldA f 4))) (a := a) (f := foldA f 4) 4 0 (by omega)
  rw [show foldB (foldA f 4) 0 = foldA f 4 from rfl, tm_up_up, tm_up_up, nI_0] at e2
  exact e2
/-- least and greatest of the first k -/
def spL (f : Nat → Int32) : Nat → Int32
  | 0 => 9999
  | k + 1 => if f k < spL f k then f k else spL f k
def spG (f : Nat → Int32) : Nat → Int32
  | 0 => 0
  | k + 1 => if spG f k < f k then f k else spG f k
theorem sp_loop (ha : h a = aI 8 f) : ∀ d k, k + d = 8 → tE mX1_spread 8 [.ref a, .int (spL f k), .int (spG f k), .int (nI k)] [] h = some (h, some (.int (spG f 8 - spL f 8))) := by
  intro d
  induction d with
  | zero =>
    intro k hk
    obtain rfl : k = 8 := by omega
    simp only [bX1_spread_8, bX1_spread_11, bX1_spread_14, bX1_spread_18, bX1_spread_26, bX1_spread_36, tk1_some, tk0_some, tkc_some, tkc_none, ↓reduceIte, ha, tm_al_i (show 0 < 3 by decide), nI_leI (show 8 < 2 ^ 31 by decide) (show 8 < 2 ^ 31 by decide), Nat.le_refl, if_true]
  | succ d ih =>
    intro k hk
    have e1 : ¬ nI 8 ≤ nI k := nI_ge (by omega) (by decide)
    rw [bX1_spread_8, ha, tm_al_i (by omega), tk1_some, bX1_spread_11, if_neg e1, bX1_spread_14, ha, tm_ai_in rfl (by omega) (by decide), tk1_some, bX1_spread_18, ha, tm_ai_in rfl (by omega) (by decide), tk1_some, bX1_spread_26, nI_k1]
    exact ih (k + 1) (by omega)
theorem sp_spec (ha : h a = aI 8 f) : tC mX1_spread [.ref a] h = some (h, some (.int (spG f 8 - spL f 8))) := by
  rw [cX1_spread_, bX1_spread_0]
  have := sp_loop ha 8 0 (by omega)
  rw [nI_0] at this
  exact this
end FO
abbrev biO (d t : Nat) (c : Int32) : va_E := .inr (1, [.ref d, .ref t, .int c])
/-- carbon behind n folds -/
def carb (c : Int32) : Nat → Int32
  | 0 => c
  | n + 1 => carb c n - carb c n / 50
def foldN (f : Nat → Int32) : Nat → Nat → Int32
  | 0 => f
  | n + 1 => foldL (foldN f n)
section BI
variable {h : tm_H} {o d t : Nat} {c : Int32} {f : Nat → Int32}
theorem bi_clear (ho : h o = biO d t c) (hd : h d = aI 8 f) (hod : o ≠ d) : tC mX1_clear [.ref o] h = some (tm_up (tm_up h d (aI 8 (fillF f 0 8))) o (biO d t 0), none) := by
  simp only [cX1_clear_, bX1_clear_0, bX1_clear_4, bX1_clear_8, bX1_clear_13, tk1_some, tk0_some, tkc_some, tkc_none, ↓reduceIte, ho, gf_1_0, fill_spec hd (by decide), tm_pf_eq, tm_up_ne hod, ps_1_2, Option.map_some]
theorem bi_ft_loop (ho : h o = biO d t c) (hd : h d = aI 8 f) (hod : o ≠ d) {n : Nat} (hn : n < 2 ^ 31) : ∀ r k, k + r = n → tE mX1_foldTimes 2 [.ref o, .int (nI n), .int (nI k)] [] (tm_up (tm_up h d (aI 8 (foldN f k))) o (biO d t (carb c k))) = some (tm_up (tm_up h d (aI 8 (foldN f n))) o (biO d t (carb c n)), some (.int (carb c n))) := by
  intro r
  induction r with
  | zero =>
    intro k hk
    obtain rfl : k = n := by omega
    rw [bX1_foldTimes_2, if_pos ((nI_leI hn hn).mpr (Nat.le_refl _)), bX1_foldTimes_36, tm_up_same, gf_1_2, tk1_some, bX1_foldTimes_40]
  | succ r ih =>
    intro k hk
    have e1 : ¬ nI n ≤ nI k := nI_ge (by omega) hn
    have e2 : tC mX1_foldOver [.ref d] (tm_up (tm_up h d (aI 8 (foldN f k))) o (biO d t (carb c k))) = some (tm_up (tm_up (tm_up h d (aI 8 (foldN f k))) o (biO d t (carb c k))) d (aI 8 (foldL (foldN f k))), none) := fo_spec (by rw [tm_up_ne (Ne.symm hod), tm_up_same])
    rw [bX1_foldTimes_2, if_neg e1, bX1_foldTimes_7, tm_up_same, gf_1_0, tk1_some, bX1_foldTimes_11, e2, tkc_none, bX1_foldTimes_14, tm_up_ne hod, tm_up_same, gf_1_2, tk1_some, bX1_foldTimes_19, tm_up_ne hod, tm_up_same, gf_1_2, tk1_some, bX1_foldTimes_23, tm_pf_eq, tm_up_ne hod, tm_up_same, ps_1_2, Option.map_some, tk0_some, bX1_foldTimes_30, nI_k1]
    rw [tm_up_comm (a := o) (b := d) hod, tm_up_up, tm_up_up]
    exact ih (k + 1) (by omega)
theorem bi_ft (ho : h o = biO d t c) (hd : h d = aI 8 f) (hod : o ≠ d) {n : Nat} (hn : n < 2 ^ 31) : tC mX1_foldTimes [.ref o, .int (nI n)] h = some (tm_up (tm_up h d (aI 8 (foldN f n))) o (biO d t (carb c n)), some (.int (carb c n))) := by
  rw [cX1_foldTimes_, bX1_foldTimes_0]
  have := bi_ft_loop ho hd hod hn n 0 (by omega)
  rw [show foldN f 0 = f from rfl, show carb c 0 = c from rfl, ← hd, tm_up_id, ← ho, tm_up_id, nI_0] at this
  rw [this]
theorem cpy_all (f g : Nat → Int32) (n : Nat) : ∀ k, k < n → va_cpy f g 0 0 n k = f k := by
  intro k hk
  unfold va_cpy
  rw [if_pos ⟨Nat.zero_le _, by omega⟩]
  simp
def cpyF (f g : Nat → Int32) : Nat → Int32 := va_cpy f g 0 0 8
theorem cp_8 {a0 a : Nat} {g : Nat → Int32} (h0 : h a0 = aI 8 f) (h1 : h a = aI 8 g) : tm_cp h a0 a 0 0 8 = some (tm_up h a (aI 8 (cpyF f g))) := by
  unfold tm_cp
  rw [h0, h1]
  show (if (0 : Int32) < 0 ∨ (0 : Int32) < 0 ∨ (8 : Int32) < 0 ∨ 8 < (0 : Int32).toNatClampNeg + (8 : Int32).toNatClampNeg ∨ 8 < (0 : Int32).toNatClampNeg + (8 : Int32).toNatClampNeg then none else some _) = _
  rw [if_neg (by decide)]
  rfl
/-- how many folds till the layers are even by t, from the k-th on, r left -/
def evenN (f : Nat → Int32) (t : Int32) : Nat → Nat → Int32
  | 0, _ => -1
  | r + 1, k => if t < spG (foldN f k) 8 - spL (foldN f k) 8 then evenN f t r (k + 1) else nI k
theorem foldN_c (f g : Nat → Int32) (h : ∀ k, k < 8 → f k = g k) : ∀ k, k < 8 → foldL f k = foldL g k := by
  intro k hk
  have h0 := h 0 (by omega); have h1 := h 1 (by omega); have h2 := h 2 (by omega); have h3 := h 3 (by omega)
  have h4 := h 4 (by omega); have h5 := h 5 (by omega); have h6 := h 6 (by omega); have h7 := h 7 (by omega)
  rcases (show k = 0 ∨ k = 1 ∨ k = 2 ∨ k = 3 ∨ k = 4 ∨ k = 5 ∨ k = 6 ∨ k = 7 by omega) with rfl | rfl | rfl | rfl | rfl | rfl | rfl | rfl <;> simp [foldL, foldA, foldB, upd, h0, h1, h2, h3, h4, h5, h6, h7]
theorem foldN_cc (f g : Nat → Int32) (h : ∀ k, k < 8 → f k = g k) : ∀ n, ∀ k, k < 8 → foldN f n k = foldN g n k := by
  intro n
  induction n with
  | zero => exact h
  | succ n ih => exact foldN_c _ _ ih
theorem sp_c (f g : Nat → Int32) : ∀ n, (∀ k, k < n → f k = g k) → spL f n = spL g n ∧ spG f n = spG g n := by
  intro n
  induction n with
  | zero => intro _; exact ⟨rfl, rfl⟩
  | succ n ih =>
    intro h
    obtain ⟨a, b⟩ := ih (fun k hk => h k (by omega))
    simp only [spL, spG, a, b, h n (by omega), and_self]
theorem evenN_c (f g : Nat → Int32) (t : Int32) (h : ∀ k, k < 8 → f k = g k) : ∀ r k, evenN f t r k = evenN g t r k := by
  intro r
  induction r with
  | zero => intro k; rfl
  | succ r ih =>
    intro k
    obtain ⟨a, b⟩ := sp_c (foldN f k) (foldN g k) 8 (foldN_cc f g h k)
    simp only [evenN, a, b, ih]
theorem bi_ev_loop {g : Nat → Int32} (ho : h o = biO d t c) (hot : o ≠ t) {x : Int32} : ∀ r k, k + r = 21 → ∃ g', tE mX1_foldsTillEven 17 [.ref o, .int x, .int (nI k)] [] (tm_up h t (aI 8 (foldN g k))) = some (tm_up h t (aI 8 g'), some (.int (evenN g x r k))) := by
  intro r
  induction r with
  | zero =>
    intro k hk
    obtain rfl : k = 21 := by omega
    refine ⟨foldN g 21, ?_⟩
    rw [bX1_foldsTillEven_17, if_pos (by decide), bX1_foldsTillEven_49]; rfl
  | succ r ih =>
    intro k hk
    have e1 : ¬ 20 < nI k := by
      have : ¬ nI 20 < nI k := nI_nlt (by omega) (by decide)
      exact this
    have e2 : tC mX1_spread [.ref t] (tm_up h t (aI 8 (foldN g k))) = _ := sp_spec (by rw [tm_up_same])
    have e3 : tC mX1_foldOver [.ref t] (tm_up h t (aI 8 (foldN g k))) = _ := fo_spec (by rw [tm_up_same])
    rw [bX1_foldsTillEven_17, if_neg e1, bX1_foldsTillEven_23, tm_up_ne hot, ho, gf_1_1, tk1_some, bX1_foldsTillEven_27, e2, tkc_some, bX1_foldsTillEven_30]
    by_cases q : x < spG (foldN g k) 8 - spL (foldN g k) 8
    · rw [if_pos q, bX1_foldsTillEven_36, tm_up_ne hot, ho, gf_1_1, tk1_some, bX1_foldsTillEven_40, e3, tkc_none, bX1_foldsTillEven_43, tm_up_up, nI_k1]
      obtain ⟨g', e⟩ := ih (k + 1) (by omega)
      refine ⟨g', ?_⟩
      rw [evenN, if_pos q]
      exact e
    · refine ⟨foldN g k, ?_⟩
      rw [if_neg q, bX1_foldsTillEven_34, evenN, if_neg q]
theorem bi_ev {g : Nat → Int32} (ho : h o = biO d t c) (hd : h d = aI 8 f) (ht : h t = aI 8 g) (hot : o ≠ t) {x : Int32} : ∃ g', tC mX1_foldsTillEven [.ref o, .int x] h = some (tm_up h t (aI 8 g'), some (.int (evenN f x 21 0))) := by
  obtain ⟨g', e⟩ := bi_ev_loop (g := cpyF f g) ho hot (x := x) 21 0 (by omega)
  refine ⟨g', ?_⟩
  rw [cX1_foldsTillEven_, bX1_foldsTillEven_0, ho, gf_1_0, tk1_some, bX1_foldsTillEven_4, ho, gf_1_1, tk1_some, bX1_foldsTillEven_9, cp_8 hd ht, tk0_some, bX1_foldsTillEven_15]
  rw [show foldN (cpyF f g) 0 = cpyF f g from rfl, nI_0] at e
  rw [e, evenN_c (cpyF f g) f x (cpy_all f g 8)]
end BI
