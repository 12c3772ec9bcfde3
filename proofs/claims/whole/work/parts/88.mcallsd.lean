/-! THE REFERENCE's calls: a chip; folding -/
def hgR (kt kf : Nat → Int32) (hard : Int32) : Nat → Nat → Nat
  | 0, i => i
  | r + 1, i => if hardS kt kf hard (i * 5) then hgR kt kf hard r (i + 1) else i
theorem hgR_chip {kt kf : Nat → Int32} {hard : Int32} : ∀ r i, hgR kt kf hard r (i + 1) = chipR kt kf hard r i + 1
  | 0, _ => rfl
  | r + 1, i => by
    unfold hgR chipR
    by_cases d : hardS kt kf hard ((i + 1) * 5) = true
    · rw [if_pos d, if_pos d, hgR_chip r (i + 1)]
    · rw [if_neg d, if_neg d]
theorem chipL_le {kt kf : Nat → Int32} {hard : Int32} : ∀ i, chipL kt kf hard i ≤ i
  | 0 => Nat.le_refl _
  | i + 1 => by
    unfold chipL
    by_cases d : hardS kt kf hard (i * 5) = true
    · rw [if_pos d]; have := chipL_le (kt := kt) (kf := kf) (hard := hard) i; omega
    · rw [if_neg d]; exact Nat.le_refl _
theorem hardS_e {kt f g : Nat → Int32} {hard : Int32} {x : Nat} (e : f x = g x) : hardS kt f hard x = hardS kt g hard x := by unfold hardS; rw [e]
theorem ar_chip (a b : Int32) : a + 1 - (b - 1) - 1 = a - b + 1 := by grind
theorem ar_low (k : Nat) : nI (k + 1) - 1 + (-1) = nI k - 1 := by rw [nI_p1, Int32.sub_eq_add_neg]
theorem ar_neg : nI 0 - 1 < 0 := by decide
section M36
variable {h h2 : tm_H} {S : SS} {b : Nat} {cuts c2 : Nat} {km f kt G1 : Nat → Int32}
theorem mchip_at (bk : tm_gf (h 130) 11 3 = some (.ref b)) (g17 : tm_gf (h 130) 11 17 = some (.ref 133)) (g13 : tm_gf (h b) 10 13 = some (.ref (b + 1))) (a2 : h 133 = aI 40 km) (a1 : h (b + 1) = aI 5 G1) (c5 : c2 ≤ 5) (R : ∀ k, k < c2 → G1 k = kt (k * 3)) (hcc : cuts ≤ 8) (K : ∀ i, i < cuts → ∃ k, k < c2 ∧ km (i * 5) = nI k) {i : Nat} (hi : i < cuts) {x1 x3 x4 : Value} {hard : Int32} :
    ∀ l, l = nI i → tE mX11_chip 44 [.ref 130, x1, .int hard, .int l, x4] [] h = (if hardS kt km hard (i * 5) = true then tE mX11_chip 64 [.ref 130, x1, .int hard, .int l, x4] [] h else tE mX11_chip 70 [.ref 130, x1, .int hard, .int l, x4] [] h) ∧ tE mX11_chip 82 [.ref 130, x1, .int hard, x3, .int l] [] h = (if hardS kt km hard (i * 5) = true then tE mX11_chip 103 [.ref 130, x1, .int hard, x3, .int l] [] h else tE mX11_chip 109 [.ref 130, x1, .int hard, x3, .int l] [] h) := by
  rintro l rfl
  obtain ⟨k, hk, ek⟩ := K i hi
  have e5 : (5 : Int32) * nI i = nI (i * 5) := by
    have := i5j' i 0
    rw [nI_0, Int32.add_zero, Nat.add_zero] at this; exact this
  have q0 : tm_ai 0 (h 133) (nI (i * 5)) = some (.int (nI k)) := by rw [a2, tm_ai_in rfl (show i * 5 < 40 by omega) (by decide), ek]
  have q1 : tm_ai 0 (h (b + 1)) (nI k) = some (.int (kt (k * 3))) := by rw [a1, tm_ai_in rfl (show k < 5 by omega) (by decide), R k hk]
  have eh : hardS kt km hard (i * 5) = decide (hard ≤ kt (k * 3)) := by unfold hardS; rw [ek, nI_clamp (by omega)]
  rw [eh]
  by_cases z : hard ≤ kt (k * 3)
  · have z' : ¬ kt (k * 3) < hard := Int32.not_lt.mpr z
    rw [decide_eq_true z, if_pos rfl, if_pos rfl]
    constructor
    · simp only [bX11_chip_44, bX11_chip_48, bX11_chip_51, bX11_chip_55, bX11_chip_59, bX11_chip_60, tk1_some, tk0_some, tkc_some, tkc_none, ↓reduceIte, bk, g17, g13, e5, q0, q1, z', if_false]
    · simp only [bX11_chip_82, bX11_chip_86, bX11_chip_89, bX11_chip_93, bX11_chip_98, bX11_chip_99, tk1_some, tk0_some, tkc_some, tkc_none, ↓reduceIte, bk, g17, g13, e5, q0, q1, z', if_false]
  · have z' : kt (k * 3) < hard := Int32.not_le.mp z
    rw [decide_eq_false z, if_neg (by decide), if_neg (by decide)]
    constructor
    · simp only [bX11_chip_44, bX11_chip_48, bX11_chip_51, bX11_chip_55, bX11_chip_59, bX11_chip_60, tk1_some, tk0_some, tkc_some, tkc_none, ↓reduceIte, bk, g17, g13, e5, q0, q1, z', if_true]
    · simp only [bX11_chip_82, bX11_chip_86, bX11_chip_89, bX11_chip_93, bX11_chip_98, bX11_chip_99, tk1_some, tk0_some, tkc_some, tkc_none, ↓reduceIte, bk, g17, g13, e5, q0, q1, z', if_true]
theorem mchip_lo (A : ∀ i, i < cuts → ∀ (x1 x3 x4 : Value) (hard l : Int32), l = nI i → tE mX11_chip 44 [.ref 130, x1, .int hard, .int l, x4] [] h = (if hardS kt km hard (i * 5) = true then tE mX11_chip 64 [.ref 130, x1, .int hard, .int l, x4] [] h else tE mX11_chip 70 [.ref 130, x1, .int hard, .int l, x4] [] h) ∧ tE mX11_chip 82 [.ref 130, x1, .int hard, x3, .int l] [] h = (if hardS kt km hard (i * 5) = true then tE mX11_chip 103 [.ref 130, x1, .int hard, x3, .int l] [] h else tE mX11_chip 109 [.ref 130, x1, .int hard, x3, .int l] [] h)) (hcc : cuts ≤ 8) {x1 x4 : Value} {hard : Int32} : ∀ l, l ≤ cuts → tE mX11_chip 40 [.ref 130, x1, .int hard, .int (nI l - 1), x4] [] h = tE mX11_chip 70 [.ref 130, x1, .int hard, .int (nI (chipL kt km hard l) - 1), x4] [] h := by
  intro l
  induction l with
  | zero => intro _; rw [bX11_chip_40, if_pos ar_neg]; rfl
  | succ l ih =>
    intro hl
    have e0 : ¬ nI l < 0 := Int32.not_lt.mpr (nI_pos' (by omega))
    rw [bX11_chip_40, nI_p1, if_neg e0, (A l (by omega) x1 tm_U x4 hard (nI l) rfl).1]
    unfold chipL
    by_cases d : hardS kt km hard (l * 5) = true
    · rw [if_pos d, if_pos d, bX11_chip_64, ← Int32.sub_eq_add_neg, ih (by omega)]
    · rw [if_neg d, if_neg d, nI_p1]
theorem mchip_hi (A : ∀ i, i < cuts → ∀ (x1 x3 x4 : Value) (hard l : Int32), l = nI i → tE mX11_chip 44 [.ref 130, x1, .int hard, .int l, x4] [] h = (if hardS kt km hard (i * 5) = true then tE mX11_chip 64 [.ref 130, x1, .int hard, .int l, x4] [] h else tE mX11_chip 70 [.ref 130, x1, .int hard, .int l, x4] [] h) ∧ tE mX11_chip 82 [.ref 130, x1, .int hard, x3, .int l] [] h = (if hardS kt km hard (i * 5) = true then tE mX11_chip 103 [.ref 130, x1, .int hard, x3, .int l] [] h else tE mX11_chip 109 [.ref 130, x1, .int hard, x3, .int l] [] h)) (hcc : cuts ≤ 8) (bk : tm_gf (h 130) 11 3 = some (.ref b)) (g0 : tm_gf (h b) 10 0 = some (.int (nI cuts))) {x1 x3 : Value} {hard : Int32} : ∀ r i, i + r = cuts → tE mX11_chip 70 [.ref 130, x1, .int hard, x3, .int (nI i)] [] h = tE mX11_chip 109 [.ref 130, x1, .int hard, x3, .int (nI (hgR kt km hard r i))] [] h := by
  intro r
  induction r with
  | zero =>
    intro i hi
    obtain rfl : i = cuts := by omega
    simp only [bX11_chip_70, bX11_chip_76, bX11_chip_79, tk1_some, tk0_some, tkc_some, tkc_none, ↓reduceIte, bk, g0, Int32.le_refl, if_true, hgR]
  | succ r ih =>
    intro i hi
    have e1 : ¬ nI cuts ≤ nI i := nI_ge (by omega) (by omega)
    have e := (A i (by omega) x1 x3 tm_U hard (nI i) rfl).2
    rw [bX11_chip_70]
    simp only [bX11_chip_76, bX11_chip_79, tk1_some, tk0_some, tkc_some, tkc_none, ↓reduceIte, bk, g0, e1, if_false, e]
    unfold hgR
    by_cases d : hardS kt km hard (i * 5) = true
    · rw [if_pos d, if_pos d, bX11_chip_103, nI_k1, ih (i + 1) (by omega)]
    · rw [if_neg d, if_neg d]
theorem chipL_c {kt f g : Nat → Int32} {hard : Int32} : ∀ i, (∀ k, k < i → f (k * 5) = g (k * 5)) → chipL kt f hard i = chipL kt g hard i
  | 0, _ => rfl
  | i + 1, E => by
    unfold chipL
    rw [hardS_e (E i (by omega)), chipL_c i (fun k hk => E k (by omega))]
theorem chipR_c {kt f g : Nat → Int32} {hard : Int32} : ∀ r i n, (∀ k, k < n → f (k * 5) = g (k * 5)) → i + r < n → chipR kt f hard r i = chipR kt g hard r i
  | 0, _, _, _, _ => rfl
  | r + 1, i, n, E, hn => by
    unfold chipR
    rw [hardS_e (E (i + 1) (by omega)), chipR_c r (i + 1) n E (by omega)]
theorem chipS_c {kt f g : Nat → Int32} {hard : Int32} {n i : Nat} (E : ∀ k, k < n → f (k * 5) = g (k * 5)) (hi : i < n) : chipS kt f hard n i = chipS kt g hard n i := by
  unfold chipS
  rw [hardS_e (E i hi), chipL_c i (fun k hk => E k (by omega)), chipR_c (n - 1 - i) i n E (by omega)]
theorem m_chip (X : MInv h S) (P : PX S) (Q : sBo S = true → PB S) (w0 : sBo S = true → 0 < widS S ∧ widS S ≤ 5) {i hard : Int32} : ∃ h', tC mX11_chip [.ref 130, .int i, .int hard] h = some (h', some (sChip S i hard).2) ∧ MInv h' (sChip S i hard).1 ∧ FrM h h' := by
  obtain ⟨h1, E1, X1, F1, _, I1⟩ := m_thr X (v := 0)
  have IC := m_cut X1 Q w0 (i := i)
  unfold sChip
  cases hs : hasS S i 0 with
  | false =>
    rw [hs, bI_f] at IC
    obtain ⟨h2, X2, F2, _, D2, _⟩ := m_note X1 (t := 1) (by decide)
    refine ⟨h2, ?_, X2, FrM_tr F1 F2⟩
    simp only [cX11_chip_, bX11_chip_0, bX11_chip_5, bX11_chip_10, bX11_chip_13, bX11_chip_18, tk1_some, tk0_some, tkc_some, tkc_none, ↓reduceIte, E1, I1, IC, not_true, D2, Bool.false_eq_true, if_false, sRef]
  | true =>
    rw [hs, bI_t] at IC
    cases iv : inB hard 0 99 with
    | false =>
      obtain ⟨h2, X2, F2, _, D2, _⟩ := m_note X1 (t := 2) (by decide)
      refine ⟨h2, ?_, X2, FrM_tr F1 F2⟩
      simp only [cX11_chip_, bX11_chip_0, bX11_chip_5, bX11_chip_10, bX11_chip_19, bX11_chip_26, bX11_chip_29, bX11_chip_34, tk1_some, tk0_some, tkc_some, tkc_none, ↓reduceIte, E1, I1, IC, show ((1 : Int32) = 0) = False from by decide, not_false_eq_true, not_true, if_true, m_in, iv, bI_f, D2, Bool.false_eq_true, if_false, sRef]
    | true =>
      obtain ⟨ei, li, _, lj, bo⟩ := has_nat P hs
      obtain ⟨b, nn, G, nm, Z, hm, km, W, a1, a2, K, e5, _, e2, _, g16, g17, bk⟩ := m_see X1 P bo (Q bo)
      generalize en : iN i = n at ei li ⊢
      subst ei
      have c8 := px_c P
      have w5 := px_w P
      have M := mw_b W
      have c5 : sC S 2 ≤ 5 := mb_c M (by decide)
      have w1 := (w0 bo).1
      have g0 : tm_gf (h1 b) 10 0 = some (.int (nI (cutS S))) := by rw [mb_o M, gf_10_0, (Q bo).2.2.1]
      have g13 : tm_gf (h1 b) 10 13 = some (.ref (b + 1)) := by rw [mb_o M, gf_10_13]
      have A : ∀ i, i < cutS S → ∀ (x1 x3 x4 : Value) (hard l : Int32), l = nI i → tE mX11_chip 44 [.ref 130, x1, .int hard, .int l, x4] [] h1 = (if hardS (sB S 2) km hard (i * 5) = true then tE mX11_chip 64 [.ref 130, x1, .int hard, .int l, x4] [] h1 else tE mX11_chip 70 [.ref 130, x1, .int hard, .int l, x4] [] h1) ∧ tE mX11_chip 82 [.ref 130, x1, .int hard, x3, .int l] [] h1 = (if hardS (sB S 2) km hard (i * 5) = true then tE mX11_chip 103 [.ref 130, x1, .int hard, x3, .int l] [] h1 else tE mX11_chip 109 [.ref 130, x1, .int hard, x3, .int l] [] h1) :=
        fun i hi x1 x3 x4 hard l el => mchip_at bk g17 g13 a2 (mb_1 M) c5 (fun k hk => (M.2.2.2.2.1 k hk).1) c8 (fun i hi => by
          obtain ⟨k, x, y⟩ := K i 0 hi w1
          exact ⟨k, x, by rw [Nat.add_zero] at y; exact y⟩) hi l el
      have L1 := mchip_lo A c8 (x1 := .int (nI (n))) (x4 := .int (nI (n))) (hard := hard) (n + 1) (by omega)
      have L2 := fun x3 => mchip_hi A c8 bk g0 (x1 := .int (nI (n))) (x3 := x3) (hard := hard) (cutS S - n) (n) (by omega)
      have er : chipS (sB S 2) km hard (cutS S) (n) = chipS (sB S 2) ((sR S).1 2) hard (cutS S) (n) := chipS_c (fun k hk => by have := e2 k 0 hk w1; rw [Nat.add_zero] at this; exact this) li
      rw [← er]
      obtain ⟨h2, X2, F2, I2, _, _, _, _, D2⟩ := m_note X1 (t := 0) (by decide)
      have D2 := fun v => (D2 rfl v).1
      refine ⟨h2, ?_, X2, FrM_tr F1 F2⟩
      rw [nI_p1] at L1
      have st : tC mX11_chip [.ref 130, .int (nI (n)), .int hard] h = tE mX11_chip 109 [.ref 130, .int (nI (n)), .int hard, .int (nI (chipL (sB S 2) km hard (n + 1)) - 1), .int (nI (hgR (sB S 2) km hard (cutS S - n) (n)))] [] h1 := by
        simp only [cX11_chip_, bX11_chip_0, bX11_chip_5, bX11_chip_10, bX11_chip_19, bX11_chip_26, bX11_chip_35, tk1_some, tk0_some, tkc_some, tkc_none, ↓reduceIte, E1, I1, IC, show ((1 : Int32) = 0) = False from by decide, not_false_eq_true, if_true, m_in, iv, bI_t, L1, L2]
      rw [st, bX11_chip_109]
      rw [show cutS S - n = (cutS S - 1 - n) + 1 by omega]
      unfold chipL hgR chipS
      have lle := chipL_le (kt := sB S 2) (kf := km) (hard := hard) (n)
      by_cases d : hardS (sB S 2) km hard (n * 5) = true
      · rw [if_pos d, if_pos d, if_pos d, hgR_chip]
        have ne : ¬ nI (chipL (sB S 2) km hard (n)) - 1 = nI (n) := by
          intro y
          have := congrArg (· + 1) y
          simp only [Int32.sub_add_cancel, nI_k1] at this
          have := congrArg iN this
          rw [iN_nI (by omega), iN_nI (by omega)] at this
          omega
        rw [if_pos ne]
        simp only [bX11_chip_119, bX11_chip_125, bX11_chip_128, tk1_some, tk0_some, tkc_some, tkc_none, ↓reduceIte, I1, D2, sAns, if_true, ← nI_k1, ar_chip]
      · rw [if_neg d, if_neg d, if_neg d, nI_p1]
        rw [if_neg (fun y => y rfl)]
        simp only [bX11_chip_115, bX11_chip_125, bX11_chip_128, tk1_some, tk0_some, tkc_some, tkc_none, ↓reduceIte, I1, D2, sAns, if_true]
end M36
