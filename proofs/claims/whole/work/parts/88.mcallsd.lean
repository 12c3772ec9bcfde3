/-! THE REFERENCE's calls: a chip; folding -/
def hgR (kt kf : Nat → Int32) (hard : Int32) : Nat → Nat → Nat
  | 0, i => i
  | r + 1, i => if hardS kt kf hard (i * 5) then hgR kt kf hard r (i + 1) else i
theorem hgR_chip {kt kf : Nat → Int32} {hard : Int32} : ∀ r i, hgR kt kf hard r (i + 1) = chipR kt kf hard r i + 1
  | 0, _ => rfl
  | r + 1, i => by
    unfold hgR chipR
    by_cases d : hardS kt kf hard ((i + 1) * 5) = true
    · rw [if_pos d, if_pos d, hgR_chip r (i + 1)]
    · rw [if_neg d, if_neg d]
theorem chipL_le {kt kf : Nat → Int32} {hard : Int32} : ∀ i, chipL kt kf hard i ≤ i
  | 0 => Nat.le_refl _
  | i + 1 => by
    unfold chipL
    by_cases d : hardS kt kf hard (i * 5) = true
    · rw [if_pos d]; have := chipL_le (kt := kt) (kf := kf) (hard := hard) i; omega
    · rw [if_neg d]; exact Nat.le_refl _
theorem hardS_e {kt f g : Nat → Int32} {hard : Int32} {x : Nat} (e : f x = g x) : hardS kt f hard x = hardS kt g hard x := by unfold hardS; rw [e]
theorem ar_chip (a b : Int32) : a + 1 - (b - 1) - 1 = a - b + 1 := by grind
theorem ar_low (k : Nat) : nI (k + 1) - 1 + (-1) = nI k - 1 := by rw [nI_p1, Int32.sub_eq_add_neg]
theorem ar_neg : nI 0 - 1 < 0 := by decide
section M36
variable {h h2 : tm_H} {S : SS} {b : Nat} {cuts c2 : Nat} {km f kt G1 : Nat → Int32}
theorem mchip_at (bk : tm_gf (h 70) 11 3 = some (.ref b)) (g17 : tm_gf (h 70) 11 17 = some (.ref 73)) (g13 : tm_gf (h b) 10 13 = some (.ref (b + 1))) (a2 : h 73 = aI 40 km) (a1 : h (b + 1) = aI 5 G1) (c5 : c2 ≤ 5) (R : ∀ k, k < c2 → G1 k = kt (k * 3)) (hcc : cuts ≤ 8) (K : ∀ i, i < cuts → ∃ k, k < c2 ∧ km (i * 5) = nI k) {i : Nat} (hi : i < cuts) {x1 x3 x4 : Value} {hard : Int32} :
    ∀ l, l = nI i → tE mX11_chip 44 [.ref 70, x1, .int hard, .int l, x4] [] h = (if hardS kt km hard (i * 5) = true then tE mX11_chip 64 [.ref 70, x1, .int hard, .int l, x4] [] h else tE mX11_chip 70 [.ref 70, x1, .int hard, .int l, x4] [] h) ∧ tE mX11_chip 82 [.ref 70, x1, .int hard, x3, .int l] [] h = (if hardS kt km hard (i * 5) = true then tE mX11_chip 103 [.ref 70, x1, .int hard, x3, .int l] [] h else tE mX11_chip 109 [.ref 70, x1, .int hard, x3, .int l] [] h) := by
  rintro l rfl
  obtain ⟨k, hk, ek⟩ := K i hi
  have e5 : (5 : Int32) * nI i = nI (i * 5) := by
    have := i5j' i 0
    rw [nI_0, Int32.add_zero, Nat.add_zero] at this; exact this
  have q0 : tm_ai 0 (h 73) (nI (i * 5)) = some (.int (nI k)) := by rw [a2, tm_ai_in rfl (show i * 5 < 40 by omega) (by decide), ek]
  have q1 : tm_ai 0 (h (b + 1)) (nI k) = some (.int (kt (k * 3))) := by rw [a1, tm_ai_in rfl (show k < 5 by omega) (by decide), R k hk]
  have eh : hardS kt km hard (i * 5) = decide (hard ≤ kt (k * 3)) := by unfold hardS; rw [ek, nI_clamp (by omega)]
  rw [eh]
  by_cases z : hard ≤ kt (k * 3)
  · have z' : ¬ kt (k * 3) < hard := Int32.not_lt.mpr z
    rw [decide_eq_true z, if_pos rfl, if_pos rfl]
    constructor
    · simp only [bX11_chip_44, bX11_chip_48, bX11_chip_51, bX11_chip_55, bX11_chip_59, bX11_chip_60, tk1_some, tk0_some, tkc_some, tkc_none, ↓reduceIte, bk, g17, g13, e5, q0, q1, z', if_false]
    · simp only [bX11_chip_82, bX11_chip_86, bX11_chip_89, bX11_chip_93, bX11_chip_98, bX11_chip_99, tk1_some, tk0_some, tkc_some, tkc_none, ↓reduceIte, bk, g17, g13, e5, q0, q1, z', if_false]
  · have z' : kt (k * 3) < hard := Int32.not_le.mp z
    rw [decide_eq_false z, if_neg (by decide), if_neg (by decide)]
    constructor
    · simp only [bX11_chip_44, bX11_chip_48, bX11_chip_51, bX11_chip_55, bX11_chip_59, bX11_chip_60, tk1_some, tk0_some, tkc_some, tkc_none, ↓reduceIte, bk, g17, g13, e5, q0, q1, z', if_true]
    · simp only [bX11_chip_82, bX11_chip_86, bX11_chip_89, bX11_chip_93, bX11_chip_98, bX11_chip_99, tk1_some, tk0_some, tkc_some, tkc_none, ↓reduceIte, bk, g17, g13, e5, q0, q1, z', if_true]
theorem mchip_lo (A : ∀ i, i < cuts → ∀ (x1 x3 x4 : Value) (hard l : Int32), l = nI i → tE mX11_chip 44 [.ref 70, x1, .int hard, .int l, x4] [] h = (if hardS kt km hard (i * 5) = true then tE mX11_chip 64 [.ref 70, x1, .int hard, .int l, x4] [] h else tE mX11_chip 70 [.ref 70, x1, .int hard, .int l, x4] [] h) ∧ tE mX11_chip 82 [.ref 70, x1, .int hard, x3, .int l] [] h = (if hardS kt km hard (i * 5) = true then tE mX11_chip 103 [.ref 70, x1, .int hard, x3, .int l] [] h else tE mX11_chip 109 [.ref 70, x1, .int hard, x3, .int l] [] h)) (hcc : cuts ≤ 8) {x1 x4 : Value} {hard : Int32} : ∀ l, l ≤ cuts → tE mX11_chip 40 [.ref 70, x1, .int hard, .int (nI l - 1), x4] [] h = tE mX11_chip 70 [.ref 70, x1, .int hard, .int (nI (chipL kt km hard l) - 1), x4] [] h := by
  intro l
  induction l with
  | zero => intro _; rw [bX11_chip_40, if_pos ar_neg]; rfl
  | succ l ih =>
    intro hl
    have e0 : ¬ nI l < 0 := Int32.not_lt.mpr (nI_pos' (by omega))
    rw [bX11_chip_40, nI_p1, if_neg e0, (A l (by omega) x1 tm_U x4 hard (nI l) rfl).1]
    unfold chipL
    by_cases d : hardS kt km hard (l * 5) = true
    · rw [if_pos d, if_pos d, bX11_chip_64, ← Int32.sub_eq_add_neg, ih (by omega)]
    · rw [if_neg d, if_neg d, nI_p1]
theorem mchip_hi (A : ∀ i, i < cuts → ∀ (x1 x3 x4 : Value) (hard l : Int32), l = nI i → tE mX11_chip 44 [.ref 70, x1, .int hard, .int l, x4] [] h = (if hardS kt km hard (i * 5) = true then tE mX11_chip 64 [.ref 70, x1, .int hard, .int l, x4] [] h else tE mX11_chip 70 [.ref 70, x1, .int hard, .int l, x4] [] h) ∧ tE mX11_chip 82 [.ref 70, x1, .int hard, x3, .int l] [] h = (if hardS kt km hard (i * 5) = true then tE mX11_chip 103 [.ref 70, x1, .int hard, x3, .int l] [] h else tE mX11_chip 109 [.ref 70, x1, .int hard, x3, .int l] [] h)) (hcc : cuts ≤ 8) (bk : tm_gf (h 70) 11 3 = some (.ref b)) (g0 : tm_gf (h b) 10 0 = some (.int (nI cuts))) {x1 x3 : Value} {hard : Int32} : ∀ r i, i + r = cuts → tE mX11_chip 70 [.ref 70, x1, .int hard, x3, .int (nI i)] [] h = tE mX11_chip 109 [.ref 70, x1, .int hard, x3, .int (nI (hgR kt km hard r i))] [] h := by
  intro r
  induction r with
  | zero =>
    intro i hi
    obtain rfl : i = cuts := by omega
    simp only [bX11_chip_70, bX11_chip_76, bX11_chip_79, tk1_some, tk0_some, tkc_some, tkc_none, ↓reduceIte, bk, g0, Int32.le_refl, if_true, hgR]
  | succ r ih =>
    intro i hi
    have e1 : ¬ nI cuts ≤ nI i := nI_ge (by omega) (by omega)
    have e := (A i (by omega) x1 x3 tm_U hard (nI i) rfl).2
    rw [bX11_chip_70]
    simp only [bX11_chip_76, bX11_chip_79, tk1_some, tk0_some, tkc_some, tkc_none, ↓reduceIte, bk, g0, e1, if_false, e]
    unfold hgR
    by_cases d : hardS kt km hard (i * 5) = true
    · rw [if_pos d, if_pos d, bX11_chip_103, nI_k1, ih (i + 1) (by omega)]
    · rw [if_neg d, if_neg d]
theorem chipL_c {kt f g : Nat → Int32} {hard : Int32} : ∀ i, (∀ k, k < i → f (k * 5) = g (k * 5)) → chipL kt f hard i = chipL kt g hard i
  | 0, _ => rfl
  | i + 1, E => by
    unfold chipL
    rw [hardS_e (E i (by omega)), chipL_c i (fun k hk => E k (by omega))]
theorem chipR_c {kt f g : Nat → Int32} {hard : Int32} : ∀ r i n, (∀ k, k < n → f (k * 5) = g (k * 5)) → i + r < n → chipR kt f hard r i = chipR kt g hard r i
  | 0, _, _, _, _ => rfl
  | r + 1, i, n, E, hn => by
    unfold chipR
    rw [hardS_e (E (i + 1) (by omega)), chipR_c r (i + 1) n E (by omega)]
theorem chipS_c {kt f g : Nat → Int32} {hard : Int32} {n i : Nat} (E : ∀ k, k < n → f (k * 5) = g (k * 5)) (hi : i < n) : chipS kt f hard n i = chipS kt g hard n i := by
  unfold chipS
  rw [hardS_e (E i hi), chipL_c i (fun k hk => E k (by omega)), chipR_c (n - 1 - i) i n E (by omega)]
theorem m_chip (X : MInv h S) (P : PX S) (Q : sBo S = true → PB S) (w0 : sBo S = true → 0 < widS S ∧ widS S ≤ 5) {i hard : Int32} : ∃ h', tC mX11_chip [.ref 70, .int i, .int hard] h = some (h', some (sChip S i hard).2) ∧ MInv h' (sChip S i hard).1 ∧ FrM h h' := by
  obtain ⟨h1, E1, X1, F1, _, I1⟩ := m_thr X (v := 0)
  have IC := m_cut X1 Q w0 (i := i)
  unfold sChip
  cases hs : hasS S i 0 with
  | false =>
    rw [hs, bI_f] at IC
    obtain ⟨h2, X2, F2, _, D2, _⟩ := m_note X1 (t := 1) (by decide)
    refine ⟨h2, ?_, X2, FrM_tr F1 F2⟩
    simp only [cX11_chip_, bX11_chip_0, bX11_chip_5, bX11_chip_10, bX11_chip_13, bX11_chip_18, tk1_some, tk0_some, tkc_some, tkc_none, ↓reduceIte, E1, I1, IC, not_true, D2, Bool.false_eq_true, if_false, sRef]
  | true =>
    rw [hs, bI_t] at IC
    cases iv : inB hard 0 99 with
    | false =>
      obtain ⟨h2, X2, F2, _, D2, _⟩ := m_note X1 (t := 2) (by decide)
      refine ⟨h2, ?_, X2, FrM_tr F1 F2⟩
      simp only [cX11_chip_, bX11_chip_0, bX11_chip_5, bX11_chip_10, bX11_chip_19, bX11_chip_26, bX11_chip_29, bX11_chip_34, tk1_some, tk0_some, tkc_some, tkc_none, ↓reduceIte, E1, I1, IC, show ((1 : Int32) = 0) = False from by decide, not_false_eq_true, not_true, if_true, m_in, iv, bI_f, D2, Bool.false_eq_true, if_false, sRef]
    | true =>
      obtain ⟨ei, li, _, lj, bo⟩ := has_nat P hs
      obtain ⟨b, nn, G, nm, Z, hm, km, W, a1, a2, K, e5, _, e2, _, g16, g17, bk⟩ := m_see X1 P bo (Q bo)
      generalize en : iN i = n at ei li ⊢
      subst ei
      have c8 := px_c P
      have w5 := px_w P
      have M := mw_b W
      have c5 : sC S 2 ≤ 5 := mb_c M (by decide)
      have w1 := (w0 bo).1
      have g0 : tm_gf (h1 b) 10 0 = some (.int (nI (cutS S))) := by rw [mb_o M, gf_10_0, (Q bo).2.2.1]
      have g13 : tm_gf (h1 b) 10 13 = some (.ref (b + 1)) := by rw [mb_o M, gf_10_13]
      have A : ∀ i, i < cutS S → ∀ (x1 x3 x4 : Value) (hard l : Int32), l = nI i → tE mX11_chip 44 [.ref 70, x1, .int hard, .int l, x4] [] h1 = (if hardS (sB S 2) km hard (i * 5) = true then tE mX11_chip 64 [.ref 70, x1, .int hard, .int l, x4] [] h1 else tE mX11_chip 70 [.ref 70, x1, .int hard, .int l, x4] [] h1) ∧ tE mX11_chip 82 [.ref 70, x1, .int hard, x3, .int l] [] h1 = (if hardS (sB S 2) km hard (i * 5) = true then tE mX11_chip 103 [.ref 70, x1, .int hard, x3, .int l] [] h1 else tE mX11_chip 109 [.ref 70, x1, .int hard, x3, .int l] [] h1) :=
        fun i hi x1 x3 x4 hard l el => mchip_at bk g17 g13 a2 (mb_1 M) c5 (fun k hk => (M.2.2.2.2.1 k hk).1) c8 (fun i hi => by
          obtain ⟨k, x, y⟩ := K i 0 hi w1
          exact ⟨k, x, by rw [Nat.add_zero] at y; exact y⟩) hi l el
      have L1 := mchip_lo A c8 (x1 := .int (nI (n))) (x4 := .int (nI (n))) (hard := hard) (n + 1) (by omega)
      have L2 := fun x3 => mchip_hi A c8 bk g0 (x1 := .int (nI (n))) (x3 := x3) (hard := hard) (cutS S - n) (n) (by omega)
      have er : chipS (sB S 2) km hard (cutS S) (n) = chipS (sB S 2) ((sR S).1 2) hard (cutS S) (n) := chipS_c (fun k hk => by have := e2 k 0 hk w1; rw [Nat.add_zero] at this; exact this) li
      rw [← er]
      obtain ⟨h2, X2, F2, I2, _, _, _, _, D2⟩ := m_note X1 (t := 0) (by decide)
      have D2 := fun v => (D2 rfl v).1
      refine ⟨h2, ?_, X2, FrM_tr F1 F2⟩
      rw [nI_p1] at L1
      have st : tC mX11_chip [.ref 70, .int (nI (n)), .int hard] h = tE mX11_chip 109 [.ref 70, .int (nI (n)), .int hard, .int (nI (chipL (sB S 2) km hard (n + 1)) - 1), .int (nI (hgR (sB S 2) km hard (cutS S - n) (n)))] [] h1 := by
        simp only [cX11_chip_, bX11_chip_0, bX11_chip_5, bX11_chip_10, bX11_chip_19, bX11_chip_26, bX11_chip_35, tk1_some, tk0_some, tkc_some, tkc_none, ↓reduceIte, E1, I1, IC, show ((1 : Int32) = 0) = False from by decide, not_false_eq_true, if_true, m_in, iv, bI_t, L1, L2]
      rw [st, bX11_chip_109]
      rw [show cutS S - n = (cutS S - 1 - n) + 1 by omega]
      unfold chipL hgR chipS
      have lle := chipL_le (kt := sB S 2) (kf := km) (hard := hard) (n)
      by_cases d : hardS (sB S 2) km hard (n * 5) = true
      · rw [if_pos d, if_pos d, if_pos d, hgR_chip]
        have ne : ¬ nI (chipL (sB S 2) km hard (n)) - 1 = nI (n) := by
          intro y
          have := congrArg (· + 1) y
          simp only [Int32.sub_add_cancel, nI_k1] at this
          have := congrArg iN this
          rw [iN_nI (by omega), iN_nI (by omega)] at this
          omega
        rw [if_pos ne]
        simp only [bX11_chip_119, bX11_chip_125, bX11_chip_128, tk1_some, tk0_some, tkc_some, tkc_none, ↓reduceIte, I1, D2, sAns, if_true, ← nI_k1, ar_chip]
      · rw [if_neg d, if_neg d, if_neg d, nI_p1]
        rw [if_neg (fun y => y rfl)]
        simp only [bX11_chip_115, bX11_chip_125, bX11_chip_128, tk1_some, tk0_some, tkc_some, tkc_none, ↓reduceIte, I1, D2, sAns, if_true]
end M36
/-! THE REFERENCE's calls: fold, even -/
def fo9 (f : Nat → Int32) : Nat → Int32 := upd (foldL f) 8 (foldL f 8 - foldL f 8 / 50)
theorem foldL_8 (f : Nat → Int32) : foldL f 8 = f 8 := by simp [foldL, foldA, foldB, upd]
theorem fo9_rel {f d : Nat → Int32} {c : Int32} (a : ∀ k, k < 8 → f k = d k) (b : f 8 = c) : (∀ k, k < 8 → fo9 f k = foldL d k) ∧ fo9 f 8 = c - c / 50 := by
  refine ⟨fun k hk => ?_, ?_⟩
  · unfold fo9; rw [upd_off (by omega)]; exact foldN_c f d a k hk
  · unfold fo9; rw [upd_at, foldL_8, b]
section M37
variable {h : tm_H} {S : SS} {a : Nat} {f : Nat → Int32}
theorem mfo_1 : ∀ d k, k + d = 4 → tE mX11_folds 2 [.ref a, .int (nI k)] [] (tm_up h a (aI 9 (foldA f k))) = tE mX11_folds 33 [.ref a, .int 0] [] (tm_up h a (aI 9 (foldA f 4))) := by
  intro d
  induction d with
  | zero =>
    intro k hk
    obtain rfl : k = 4 := by omega
    rw [bX11_folds_2, if_pos (show (4 : Int32) ≤ nI 4 from Int32.le_refl _), bX11_folds_31]
  | succ d ih =>
    intro k hk
    have e1 : ¬ (4 : Int32) ≤ nI k := nI_ge (show k < 4 by omega) (by decide)
    rw [bX11_folds_2, if_neg e1, bX11_folds_7, tm_up_same, two_nI, tm_ai_in rfl (by omega) (by decide), tk1_some, bX11_folds_14, tm_up_same, two_nI, nI_k1, tm_ai_in rfl (by omega) (by decide), tk1_some, bX11_folds_21, tm_si_eq, tm_up_same, tm_sa_in rfl (by omega) (by decide), Option.map_some, tk0_some, bX11_folds_25, tm_up_up, nI_k1]
    exact ih (k + 1) (by omega)
theorem mfo_2 : ∀ d k, k + d = 4 → tE mX11_folds 33 [.ref a, .int (nI k)] [] (tm_up h a (aI 9 (foldB f k))) = tE mX11_folds 53 [.ref a, .int 4] [] (tm_up h a (aI 9 (foldB f 4))) := by
  intro d
  induction d with
  | zero =>
    intro k hk
    obtain rfl : k = 4 := by omega
    rw [bX11_folds_33, if_pos (show (4 : Int32) ≤ nI 4 from Int32.le_refl _)]; rfl
  | succ d ih =>
    intro k hk
    have e1 : ¬ (4 : Int32) ≤ nI k := nI_ge (show k < 4 by omega) (by decide)
    have e2 : 7 - nI k = nI (7 - k) := by
      rcases (show k = 0 ∨ k = 1 ∨ k = 2 ∨ k = 3 by omega) with rfl | rfl | rfl | rfl <;> decide
    rw [bX11_folds_33, if_neg e1, bX11_folds_38, tm_up_same, tm_ai_in rfl (by omega) (by decide), tk1_some, e2, bX11_folds_46, tm_si_eq, tm_up_same, tm_sa_in rfl (by omega) (by decide), Option.map_some, tk0_some, bX11_folds_47, tm_up_up, nI_k1]
    exact ih (k + 1) (by omega)
theorem m_folds (ha : h a = aI 9 f) : tC mX11_folds [.ref a] h = some (tm_up h a (aI 9 (fo9 f)), none) := by
  have e1 := mfo_1 (h := h) (a := a) (f := f) 4 0 (by omega)
  rw [show foldA f 0 = f from rfl, ← ha, tm_up_id, nI_0] at e1
  have e2 := mfo_2 (h := tm_up h a (aI 9 (foldA f 4))) (a := a) (f := foldA f 4) 4 0 (by omega)
  rw [show foldB (foldA f 4) 0 = foldA f 4 from rfl, tm_up_up, tm_up_up, nI_0] at e2
  have q : tm_ai 0 (tm_up h a (aI 9 (foldL f)) a) 8 = some (.int (foldL f 8)) := by rw [tm_up_same, tm_ai_in (show (8 : Int32) = nI 8 from rfl) (by decide) (by decide)]
  have s : ∀ v, tm_si 0 (tm_up h a (aI 9 (foldL f))) a 8 v = some (tm_up h a (aI 9 (upd (foldL f) 8 v))) := fun v => by
    rw [tm_si_eq, tm_up_same, tm_sa_in (show (8 : Int32) = nI 8 from rfl) (by decide) (by decide), Option.map_some, tm_up_up]
  rw [cX11_folds_, bX11_folds_0, e1, e2, show foldB (foldA f 4) 4 = foldL f from rfl]
  rw [bX11_folds_53, q, tk1_some, bX11_folds_58, q, tk1_some, bX11_folds_62, s, tk0_some, bX11_folds_67]; rfl
theorem mfold_loop {x1 : Value} {d : Nat → Int32} {c : Int32} {n : Nat} (hn : n < 2 ^ 31) (g : tm_gf (h 70) 11 31 = some (.ref 81)) : ∀ r k f, k + r = n → (∀ j, j < 8 → f j = foldN d k j) → f 8 = carb c k → ∃ f', tE mX11_fold 36 [.ref 70, .int (nI n), .int (nI k)] [] (tm_up h 81 (aI 9 f)) = tE mX11_fold 54 [.ref 70, .int (nI n), .int (nI n)] [] (tm_up h 81 (aI 9 f')) ∧ (∀ j, j < 8 → f' j = foldN d n j) ∧ f' 8 = carb c n := by
  intro r
  induction r with
  | zero =>
    intro k f hk q1 q2
    obtain rfl : k = n := by omega
    exact ⟨f, by rw [bX11_fold_36, if_pos (Int32.le_refl _)], q1, q2⟩
  | succ r ih =>
    intro k f hk q1 q2
    have e1 : ¬ nI n ≤ nI k := nI_ge (by omega) hn
    obtain ⟨p1, p2⟩ := fo9_rel q1 q2
    obtain ⟨f', e, r1, r2⟩ := ih (k + 1) (fo9 f) (by omega) p1 p2
    refine ⟨f', ?_, r1, r2⟩
    have P : tC mX11_folds [.ref 81] (tm_up h 81 (aI 9 f)) = some (tm_up h 81 (aI 9 (fo9 f)), none) := by
      rw [m_folds (f := f) tm_up_same, tm_up_up]
    have g' : tm_gf (tm_up h 81 (aI 9 f) 70) 11 31 = some (.ref 81) := by rw [tm_up_ne (by decide)]; exact g
    rw [bX11_fold_36, if_neg e1, ← e]
    simp only [bX11_fold_41, bX11_fold_45, bX11_fold_48, tk1_some, tk0_some, tkc_some, tkc_none, ↓reduceIte, g', P, nI_k1]
theorem m_fold (X : MInv h S) {n : Int32} : ∃ h', tC mX11_fold [.ref 70, .int n] h = some (h', some (sFold S n).2) ∧ MInv h' (sFold S n).1 ∧ FrM h h' := by
  obtain ⟨h1, E1, X1, F1, _, I1⟩ := m_thr X (v := 0)
  unfold sFold
  cases bo : sBo S with
  | false =>
    have bk := (m_bk X1).2 bo
    obtain ⟨h2, X2, F2, _, D2, _⟩ := m_note X1 (t := 1) (by decide)
    refine ⟨h2, ?_, X2, FrM_tr F1 F2⟩
    simp only [cX11_fold_, bX11_fold_0, bX11_fold_5, bX11_fold_9n, bX11_fold_12, bX11_fold_17, tk1_some, tk0_some, tkc_some, tkc_none, ↓reduceIte, E1, bk, I1, D2, Bool.false_eq_true, if_false, sRef]
  | true =>
    obtain ⟨b0, bk⟩ := (m_bk X1).1 bo
    cases iv : inB n 1 20 with
    | false =>
      obtain ⟨h2, X2, F2, _, D2, _⟩ := m_note X1 (t := 2) (by decide)
      refine ⟨h2, ?_, X2, FrM_tr F1 F2⟩
      simp only [cX11_fold_, bX11_fold_0, bX11_fold_5, bX11_fold_9r, bX11_fold_18, bX11_fold_25, bX11_fold_28, bX11_fold_33, tk1_some, tk0_some, tkc_some, tkc_none, ↓reduceIte, E1, bk, m_in, iv, bI_f, not_true, if_false, I1, D2, Bool.false_eq_true, if_true, sRef]
    | true =>
      obtain ⟨en, _, h20⟩ := inB_nat (a := 1) (b := 20) (by decide) (by decide) iv
      generalize iN n = k at en h20 ⊢
      subst en
      have g31 := (m_top X1).2.2.2.2.2.1
      obtain ⟨f, l1, l2, l3, put⟩ := MI_141 X1
      obtain ⟨f', e, r1, r2⟩ := mfold_loop (x1 := tm_U) (h := h1) (d := sD S) (c := sCa S) (n := k) (by omega) g31 k 0 f (by omega) l2 l3
      rw [← l1, tm_up_id, nI_0] at e
      have X2 := put f' _ _ r1 r2
      have g2 := (m_top X2).2.2.2.2.2.1
      obtain ⟨h3, X3, F3, I3, _, _, _, _, D3⟩ := m_note X2 (t := 0) (by decide)
      have D3 := fun v => (D3 rfl v).1
      have q : tm_ai 0 (tm_up h1 81 (aI 9 f') 81) 8 = some (.int (carb (sCa S) k)) := by rw [tm_up_same, tm_ai_in (show (8 : Int32) = nI 8 from rfl) (by decide) (by decide), r2]
      refine ⟨h3, ?_, X3, FrM_tr F1 (FrM_tr (FrM_up (by decide)) F3)⟩
      simp only [cX11_fold_, bX11_fold_0, bX11_fold_5, bX11_fold_9r, bX11_fold_18, bX11_fold_25, bX11_fold_34, bX11_fold_54, bX11_fold_59, bX11_fold_62, bX11_fold_65, tk1_some, tk0_some, tkc_some, tkc_none, ↓reduceIte, E1, bk, m_in, iv, bI_t, show ((1 : Int32) = 0) = False from by decide, not_false_eq_true, if_true, e, g2, q, I3, D3]
/-- least and greatest, begun with the first -/
def lo8 (f : Nat → Int32) : Nat → Int32
  | 0 => f 0
  | k + 1 => if lo8 f k ≤ f (k + 1) then lo8 f k else f (k + 1)
def hi8 (f : Nat → Int32) : Nat → Int32
  | 0 => f 0
  | k + 1 => if f (k + 1) ≤ hi8 f k then hi8 f k else f (k + 1)
theorem sp_8 {f : Nat → Int32} (R : 0 ≤ f 0 ∧ f 0 ≤ 9999) : ∀ k, spL f (k + 1) = lo8 f k ∧ spG f (k + 1) = hi8 f k
  | 0 => by
    unfold spL spG lo8 hi8
    show (if f 0 < 9999 then f 0 else 9999) = f 0 ∧ (if 0 < f 0 then f 0 else 0) = f 0
    constructor
    · by_cases d : f 0 < 9999
      · rw [if_pos d]
      · rw [if_neg d]; exact Int32.le_antisymm (Int32.not_lt.mp d) R.2
    · by_cases d : 0 < f 0
      · rw [if_pos d]
      · rw [if_neg d]; exact Int32.le_antisymm R.1 (Int32.not_lt.mp d)
  | k + 1 => by
    obtain ⟨a, b⟩ := sp_8 R k
    constructor
    · show (if f (k + 1) < spL f (k + 1) then f (k + 1) else spL f (k + 1)) = (if lo8 f k ≤ f (k + 1) then lo8 f k else f (k + 1))
      rw [a]
      by_cases d : lo8 f k ≤ f (k + 1)
      · rw [if_pos d, if_neg (Int32.not_lt.mpr d)]
      · rw [if_neg d, if_pos (Int32.not_le.mp d)]
    · show (if spG f (k + 1) < f (k + 1) then f (k + 1) else spG f (k + 1)) = (if f (k + 1) ≤ hi8 f k then hi8 f k else f (k + 1))
      rw [b]
      by_cases d : f (k + 1) ≤ hi8 f k
      · rw [if_pos d, if_neg (Int32.not_lt.mpr d)]
      · rw [if_neg d, if_pos (Int32.not_le.mp d)]
theorem mev_loop (ha : h a = aI 9 f) {t : Int32} : ∀ r k, k + r = 7 → tE mX11_isEven 11 [.ref a, .int t, .int (lo8 f k), .int (hi8 f k), .int (nI (k + 1))] [] h = tE mX11_isEven 58 [.ref a, .int t, .int (lo8 f 7), .int (hi8 f 7), .int 8] [] h := by
  intro r
  induction r with
  | zero =>
    intro k hk
    obtain rfl : k = 7 := by omega
    rw [bX11_isEven_11, if_pos (show (8 : Int32) ≤ nI (7 + 1) from Int32.le_refl _)]; rfl
  | succ r ih =>
    intro k hk
    have e1 : ¬ (8 : Int32) ≤ nI (k + 1) := nI_ge (show k + 1 < 8 by omega) (by decide)
    have q : tm_ai 0 (h a) (nI (k + 1)) = some (.int (f (k + 1))) := by rw [ha, tm_ai_in rfl (by omega) (by decide)]
    rw [← ih (k + 1) (by omega), bX11_isEven_11, if_neg e1]
    show _ = tE mX11_isEven 11 [.ref a, .int t, .int (if lo8 f k ≤ f (k + 1) then lo8 f k else f (k + 1)), .int (if f (k + 1) ≤ hi8 f k then hi8 f k else f (k + 1)), .int (nI (k + 1 + 1))] [] h
    by_cases d : lo8 f k ≤ f (k + 1)
    · rw [if_pos d]
      by_cases d2 : f (k + 1) ≤ hi8 f k
      · rw [if_pos d2]
        simp only [bX11_isEven_18, bX11_isEven_22, bX11_isEven_33, bX11_isEven_34, bX11_isEven_39, bX11_isEven_50, bX11_isEven_51, tk1_some, tk0_some, tkc_some, tkc_none, ↓reduceIte, q, d, d2, if_true, nI_k1]
      · rw [if_neg d2]
        simp only [bX11_isEven_18, bX11_isEven_22, bX11_isEven_33, bX11_isEven_34, bX11_isEven_39, bX11_isEven_43, bX11_isEven_47, bX11_isEven_51, tk1_some, tk0_some, tkc_some, tkc_none, ↓reduceIte, q, d, d2, if_true, if_false, nI_k1]
    · rw [if_neg d]
      by_cases d2 : f (k + 1) ≤ hi8 f k
      · rw [if_pos d2]
        simp only [bX11_isEven_18, bX11_isEven_22, bX11_isEven_26, bX11_isEven_30, bX11_isEven_34, bX11_isEven_39, bX11_isEven_50, bX11_isEven_51, tk1_some, tk0_some, tkc_some, tkc_none, ↓reduceIte, q, d, d2, if_true, if_false, nI_k1]
      · rw [if_neg d2]
        simp only [bX11_isEven_18, bX11_isEven_22, bX11_isEven_26, bX11_isEven_30, bX11_isEven_34, bX11_isEven_39, bX11_isEven_43, bX11_isEven_47, bX11_isEven_51, tk1_some, tk0_some, tkc_some, tkc_none, ↓reduceIte, q, d, d2, if_false, nI_k1]
theorem m_isEven (ha : h a = aI 9 f) (R : 0 ≤ f 0 ∧ f 0 ≤ 9999) {t : Int32} : tC mX11_isEven [.ref a, .int t] h = some (h, some (.int (if t < spG f 8 - spL f 8 then 0 else 1))) := by
  have e := mev_loop ha (t := t) 7 0 (by omega)
  have q : tm_ai 0 (h a) 0 = some (.int (f 0)) := by rw [ha, tm_ai_in (show (0 : Int32) = nI 0 from rfl) (by decide) (by decide)]
  obtain ⟨a1, a2⟩ := sp_8 R 7
  rw [a1, a2]
  replace e : tE mX11_isEven 11 [.ref a, .int t, .int (f 0), .int (f 0), .int 1] [] h = _ := e
  have st : tC mX11_isEven [.ref a, .int t] h = tE mX11_isEven 58 [.ref a, .int t, .int (lo8 f 7), .int (hi8 f 7), .int 8] [] h := by
    rw [← e]
    simp only [cX11_isEven_, bX11_isEven_0, bX11_isEven_3, bX11_isEven_7, tk1_some, tk0_some, tkc_some, tkc_none, ↓reduceIte, q]
  rw [st, bX11_isEven_58]
  by_cases d : t < hi8 f 7 - lo8 f 7
  · rw [if_pos d, if_pos d, bX11_isEven_69, bX11_isEven_70, tm_rb0]
  · rw [if_neg d, if_neg d, bX11_isEven_65, bX11_isEven_70, tm_rb1]
theorem av_rng {x y : Int32} (a : 0 ≤ x ∧ x ≤ 9999) (b : 0 ≤ y ∧ y ≤ 9999) : 0 ≤ (x + y) / 2 ∧ (x + y) / 2 ≤ 9999 := by
  have l1 := iN_le a.1 (show 9999 < 2 ^ 31 by decide) a.2
  have l2 := iN_le b.1 (show 9999 < 2 ^ 31 by decide) b.2
  have e1 := nI_iN a.1
  have e2 := nI_iN b.1
  rw [← e1, ← e2, nI_add]
  have e3 : nI (iN x + iN y) / 2 = nI ((iN x + iN y) / 2) := (Int32.ofNat_div (b := 2) (by omega) (by decide)).symm
  rw [e3]
  exact ⟨nI_pos' (by omega), (nI_leI (b := 9999) (by omega) (by decide)).mpr (by omega)⟩
def Ly (d : Nat → Int32) : Prop := ∀ k, k < 8 → 0 ≤ d k ∧ d k ≤ 9999
theorem Ly_fold {d : Nat → Int32} (R : Ly d) : Ly (foldL d) := by
  have h0 := R 0 (by decide); have h1 := R 1 (by decide); have h2 := R 2 (by decide); have h3 := R 3 (by decide)
  have h4 := R 4 (by decide); have h5 := R 5 (by decide); have h6 := R 6 (by decide); have h7 := R 7 (by decide)
  have a0 := av_rng h0 h1; have a1 := av_rng h2 h3; have a2 := av_rng h4 h5; have a3 := av_rng h6 h7
  intro k hk
  rcases (show k = 0 ∨ k = 1 ∨ k = 2 ∨ k = 3 ∨ k = 4 ∨ k = 5 ∨ k = 6 ∨ k = 7 by omega) with rfl | rfl | rfl | rfl | rfl | rfl | rfl | rfl <;> simp [foldL, foldA, foldB, upd] <;> assumption
theorem Ly_foldN {d : Nat → Int32} (R : Ly d) : ∀ n, Ly (foldN d n)
  | 0 => R
  | n + 1 => Ly_fold (Ly_foldN R n)
theorem mcp_loop {x1 : Value} (g31 : tm_gf (h 70) 11 31 = some (.ref 81)) (g32 : tm_gf (h 70) 11 32 = some (.ref 82)) (h1 : h 81 = aI 9 f) : ∀ r k g, k + r = 9 → (∀ j, j < k → g j = f j) → ∃ g', tE mX11_even 37 [.ref 70, x1, .int (nI k)] [] (tm_up h 82 (aI 9 g)) = tE mX11_even 63 [.ref 70, x1, .int 0] [] (tm_up h 82 (aI 9 g')) ∧ (∀ j, j < 9 → g' j = f j) := by
  intro r
  induction r with
  | zero =>
    intro k g hk q
    obtain rfl : k = 9 := by omega
    exact ⟨g, by rw [bX11_even_37, if_pos (show (8 : Int32) < nI 9 by decide), bX11_even_61], q⟩
  | succ r ih =>
    intro k g hk q
    have e1 : ¬ (8 : Int32) < nI k := Int32.not_lt.mpr ((nI_leI (a := k) (b := 8) (by omega) (by decide)).mpr (by omega))
    obtain ⟨g', e, q'⟩ := ih (k + 1) (upd g k (f k)) (by omega) (fun j hj => by
      by_cases d : j = k
      · subst d; rw [upd_at]
      · rw [upd_off d]; exact q j (by omega))
    refine ⟨g', ?_, q'⟩
    have n0 : tm_up h 82 (aI 9 g) 70 = h 70 := tm_up_ne (by decide)
    have n1 : tm_up h 82 (aI 9 g) 81 = h 81 := tm_up_ne (by decide)
    have s : tm_si 0 (tm_up h 82 (aI 9 g)) 82 (nI k) (f k) = some (tm_up h 82 (aI 9 (upd g k (f k)))) := by
      rw [tm_si_eq, tm_up_same, tm_sa_in rfl (show k < 9 by omega) (by decide), Option.map_some, tm_up_up]
    have q0 : tm_ai 0 (h 81) (nI k) = some (.int (f k)) := by rw [h1, tm_ai_in rfl (show k < 9 by omega) (by decide)]
    rw [← e, bX11_even_37, if_neg e1]
    simp only [bX11_even_43, bX11_even_47, bX11_even_52, bX11_even_54, bX11_even_55, tk1_some, tk0_some, tkc_some, tkc_none, ↓reduceIte, n0, n1, g31, g32, q0, s, nI_k1]
theorem mevn_loop {t : Int32} {d : Nat → Int32} (R : Ly d) (g32 : tm_gf (h 70) 11 32 = some (.ref 82)) : ∀ r k g, k + r = 21 → (∀ j, j < 8 → g j = foldN d k j) → ∃ g', tE mX11_even 63 [.ref 70, .int t, .int (nI k)] [] (tm_up h 82 (aI 9 g)) = if evenN d t r k = -1 then tE mX11_even 99 [.ref 70, .int t, .int 21] [] (tm_up h 82 (aI 9 g')) else tE mX11_even 80 [.ref 70, .int t, .int (evenN d t r k)] [] (tm_up h 82 (aI 9 g')) := by
  intro r
  induction r with
  | zero =>
    intro k g hk q
    obtain rfl : k = 21 := by omega
    exact ⟨g, by rw [bX11_even_63, if_pos (show (20 : Int32) < nI 21 by decide), if_pos (show evenN d t 0 21 = -1 from rfl)]; rfl⟩
  | succ r ih =>
    intro k g hk q
    have e1 : ¬ (20 : Int32) < nI k := Int32.not_lt.mpr ((nI_leI (a := k) (b := 20) (by omega) (by decide)).mpr (by omega))
    have n0 : tm_up h 82 (aI 9 g) 70 = h 70 := tm_up_ne (by decide)
    have R0 := Ly_foldN R k 0 (by decide)
    rw [← q 0 (by decide)] at R0
    have P := m_isEven (h := tm_up h 82 (aI 9 g)) (a := 82) (f := g) tm_up_same R0 (t := t)
    obtain ⟨s1, s2⟩ := sp_c g (foldN d k) 8 q
    rw [s1, s2] at P
    unfold evenN
    by_cases z : t < spG (foldN d k) 8 - spL (foldN d k) 8
    · rw [if_pos z]
      rw [if_pos z] at P
      obtain ⟨g', e⟩ := ih (k + 1) (fo9 g) (by omega) (fo9_rel q rfl).1
      refine ⟨g', ?_⟩
      have P2 : tC mX11_folds [.ref 82] (tm_up h 82 (aI 9 g)) = some (tm_up h 82 (aI 9 (fo9 g)), none) := by
        rw [m_folds (f := g) tm_up_same, tm_up_up]
      rw [← e, bX11_even_63, if_neg e1]
      simp only [bX11_even_69, bX11_even_73, bX11_even_77, bX11_even_86, bX11_even_90, bX11_even_93, tk1_some, tk0_some, tkc_some, tkc_none, ↓reduceIte, n0, g32, P, P2, if_true, nI_k1]
    · rw [if_neg z]
      rw [if_neg z] at P
      have ne : ¬ nI k = -1 := fun y => absurd (nI_pos' (show k < 2 ^ 31 by omega)) (by rw [y]; decide)
      refine ⟨g, ?_⟩
      rw [if_neg ne, bX11_even_63, if_neg e1]
      simp only [bX11_even_69, bX11_even_73, bX11_even_77, tk1_some, tk0_some, tkc_some, tkc_none, ↓reduceIte, n0, g32, P, show ((1 : Int32) = 0) = False from by decide, if_false]
theorem MI_scr (X : MInv h S) {h' : tm_H} (E : ∀ k, k ≠ 76 → k ≠ 78 → k ≠ 79 → k ≠ 80 → k ≠ 82 → h' k = h k) (t0 : ∃ f, h' 76 = aI 40 f) (t1 : ∃ f, h' 78 = aI 5 f) (t2 : ∃ f, h' 79 = aI 5 f) (t3 : ∃ f, h' 80 = aI 5 f) (t4 : ∃ f, h' 82 = aI 9 f) : MInv h' S ∧ FrM h h' := by
  refine ⟨?_, fun k hk => E k (by omega) (by omega) (by omega) (by omega) (by omega)⟩
  obtain ⟨Z, m, c, s, h0, hm, T, ⟨tn, hm0, km, cl, tu, th, om, HA⟩, tp, B, _, _, _, ⟨f, l1, l2⟩, _, ⟨f6, b1, b2⟩⟩ := X
  obtain ⟨tf, t0⟩ := t0
  have nx : ∀ k, (k < 76 ∨ k = 77 ∨ k = 81 ∨ 82 < k) → h' k = h k := fun k x => E k (by omega) (by omega) (by omega) (by omega) (by omega)
  have MAx : ∀ {tn hm km cl tu th om}, MA h Z tn hm km cl tu th om → MA h' Z tn hm km cl tu tf om := fun H =>
    ⟨by rw [nx 70 (by omega)]; exact H.1, by rw [nx 72 (by omega)]; exact H.2.1, by rw [nx 73 (by omega)]; exact H.2.2.1, by rw [nx 74 (by omega)]; exact H.2.2.2.1, by rw [nx 75 (by omega)]; exact H.2.2.2.2.1, t0, by rw [nx 77 (by omega)]; exact H.2.2.2.2.2.2⟩
  refine ⟨Z, m, c, s, by rw [nx 0 (by omega)]; exact h0, hm, T, ⟨tn, hm0, km, cl, tu, tf, om, MAx HA⟩, by rw [nx 71 (by omega)]; exact tp, ⟨fun bo => ?_, B.2⟩, t1, t2, t3, ⟨f, by rw [nx 81 (by omega)]; exact l1, l2⟩, t4, ⟨f6, by rw [nx 83 (by omega)]; exact b1, b2⟩⟩
  obtain ⟨b, nn, G, nm, z1, z2, z3, M, ez, hm, km, cl, tu, th, om, HA, r⟩ := B.1 bo
  exact ⟨b, nn, G, nm, z1, z2, z3, MBk_c (fun k x y => nx k (by omega)) M, ez, hm, km, cl, tu, tf, om, MAx HA, r⟩
theorem MI_sc (X : MInv h S) : (∃ f, h 76 = aI 40 f) ∧ (∃ f, h 78 = aI 5 f) ∧ (∃ f, h 79 = aI 5 f) ∧ (∃ f, h 80 = aI 5 f) ∧ (∃ f, h 82 = aI 9 f) := by
  obtain ⟨Z, m, c, s, h0, hm, T, ⟨tn, hm0, km, cl, tu, th, om, HA⟩, tp, B, t1, t2, t3, _, t4, _⟩ := X
  exact ⟨⟨th, HA.2.2.2.2.2.1⟩, t1, t2, t3, t4⟩
theorem MI_142 (X : MInv h S) (g : Nat → Int32) : MInv (tm_up h 82 (aI 9 g)) S := by
  obtain ⟨⟨f0, t0⟩, ⟨f1, t1⟩, ⟨f2, t2⟩, ⟨f3, t3⟩, t4⟩ := MI_sc X
  exact (MI_scr X (fun k _ _ _ _ x => tm_up_ne x) ⟨f0, by rw [tm_up_ne (by decide)]; exact t0⟩ ⟨f1, by rw [tm_up_ne (by decide)]; exact t1⟩ ⟨f2, by rw [tm_up_ne (by decide)]; exact t2⟩ ⟨f3, by rw [tm_up_ne (by decide)]; exact t3⟩ ⟨g, tm_up_same⟩).1
theorem m_even (X : MInv h S) (R : Ly (sD S)) {t : Int32} : ∃ h', tC mX11_even [.ref 70, .int t] h = some (h', some (sEven S t).2) ∧ MInv h' (sEven S t).1 ∧ FrM h h' := by
  obtain ⟨h1, E1, X1, F1, _, I1⟩ := m_thr X (v := 0)
  unfold sEven
  cases bo : sBo S with
  | false =>
    have bk := (m_bk X1).2 bo
    obtain ⟨h2, X2, F2, _, D2, _⟩ := m_note X1 (t := 1) (by decide)
    refine ⟨h2, ?_, X2, FrM_tr F1 F2⟩
    simp only [cX11_even_, bX11_even_0, bX11_even_5, bX11_even_9n, bX11_even_12, bX11_even_17, tk1_some, tk0_some, tkc_some, tkc_none, ↓reduceIte, E1, bk, I1, D2, Bool.false_eq_true, if_false, sRef]
  | true =>
    obtain ⟨b0, bk⟩ := (m_bk X1).1 bo
    cases iv : inB t 0 9999 with
    | false =>
      obtain ⟨h2, X2, F2, _, D2, _⟩ := m_note X1 (t := 2) (by decide)
      refine ⟨h2, ?_, X2, FrM_tr F1 F2⟩
      simp only [cX11_even_, bX11_even_0, bX11_even_5, bX11_even_9r, bX11_even_18, bX11_even_26, bX11_even_29, bX11_even_34, tk1_some, tk0_some, tkc_some, tkc_none, ↓reduceIte, E1, bk, m_in, iv, bI_f, not_true, if_false, I1, D2, Bool.false_eq_true, if_true, sRef]
    | true =>
      have g31 := (m_top X1).2.2.2.2.2.1
      have g32 := (m_top X1).2.2.2.2.2.2.1
      obtain ⟨f, l1, l2, l3, _⟩ := MI_141 X1
      obtain ⟨_, _, _, _, ⟨g0, t4⟩⟩ := MI_sc X1
      obtain ⟨g1, e1, q1⟩ := mcp_loop (x1 := .int t) g31 g32 l1 9 0 g0 (by omega) (fun j hj => absurd hj (by omega))
      rw [← t4, tm_up_id, nI_0] at e1
      obtain ⟨g2, e2⟩ := mevn_loop (h := h1) (t := t) R g32 21 0 g1 (by omega) (fun j hj => by rw [q1 j (by omega)]; exact l2 j hj)
      rw [nI_0] at e2
      have X2 := MI_142 X1 g2
      have st : tC mX11_even [.ref 70, .int t] h = tE mX11_even 63 [.ref 70, .int t, .int 0] [] (tm_up h1 82 (aI 9 g1)) := by
        rw [← e1]
        simp only [cX11_even_, bX11_even_0, bX11_even_5, bX11_even_9r, bX11_even_18, bX11_even_26, bX11_even_35, tk1_some, tk0_some, tkc_some, tkc_none, ↓reduceIte, E1, bk, m_in, iv, bI_t, show ((1 : Int32) = 0) = False from by decide, not_false_eq_true, if_true]
      rw [st, e2, if_pos rfl, if_pos rfl]
      by_cases d : evenN (sD S) t 21 0 = -1
      · rw [if_pos d, if_pos d]
        obtain ⟨h3, X3, F3, I3, D3, _⟩ := m_note X2 (t := 6) (by decide)
        refine ⟨h3, ?_, X3, FrM_tr F1 (FrM_tr (FrM_up (by decide)) F3)⟩
        simp only [bX11_even_99, bX11_even_105, tk1_some, tk0_some, tkc_some, tkc_none, ↓reduceIte, I3, D3, sRef]
      · rw [if_neg d, if_neg d]
        obtain ⟨h3, X3, F3, I3, _, _, _, _, D3⟩ := m_note X2 (t := 0) (by decide)
        have D3 := fun v => (D3 rfl v).1
        refine ⟨h3, ?_, X3, FrM_tr F1 (FrM_tr (FrM_up (by decide)) F3)⟩
        simp only [bX11_even_80, bX11_even_85, tk1_some, tk0_some, tkc_some, tkc_none, ↓reduceIte, I3, D3, sAns]
end M37
