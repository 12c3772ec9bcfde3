/-! THE REFERENCE's calls: cold -/
section M35
variable {h h2 : tm_H} {S : SS} {b : Nat} {w cuts : Nat} {hm f : Nat → Int32}
theorem mcold_in (bk : tm_gf (h 130) 11 3 = some (.ref b)) (g16 : tm_gf (h 130) 11 16 = some (.ref 132)) (g1 : tm_gf (h b) 10 1 = some (.int (nI w))) (a1 : h 132 = aI 40 hm) (hcc : cuts ≤ 8) (hw : w ≤ 5) (E : EqI cuts w hm f) (I : tm_isObj (h 130) 11 = true) (D : ∀ v : Int32, tC mX11_done [.ref 130, .int v] h = some (h2, some (.int v))) {i : Nat} (hi : i < cuts) : ∀ r j, j + r = w → tE mX11_cold 33 [.ref 130, .int (nI i), .int (nI j)] [] h = if coldR f i r j = true then tE mX11_cold 20 [.ref 130, .int (nI (i + 1)), .int (nI w)] [] h else some (h2, some (.int 0)) := by
  intro r
  induction r with
  | zero =>
    intro j hj
    obtain rfl : j = w := by omega
    rw [bX11_cold_33]
    simp only [bX11_cold_38, bX11_cold_41, bX11_cold_71, tk1_some, tk0_some, tkc_some, tkc_none, ↓reduceIte, bk, g1, Int32.le_refl, if_true, coldR, nI_k1]
  | succ r ih =>
    intro j hj
    have e1 : ¬ nI w ≤ nI j := nI_ge (by omega) (by omega)
    have q : tm_ai 0 (h 132) (nI (i * 5 + j)) = some (.int (f (i * 5 + j))) := by
      rw [a1, tm_ai_in rfl (show i * 5 + j < 40 by omega) (by decide), E i j hi (by omega)]
    have e := ih (j + 1) (by omega)
    rw [bX11_cold_33]
    unfold coldR
    by_cases d : f (i * 5 + j) ≤ 99
    · rw [if_pos d, ← e]
      simp only [bX11_cold_38, bX11_cold_41, bX11_cold_44, bX11_cold_48, bX11_cold_54, bX11_cold_65, tk1_some, tk0_some, tkc_some, tkc_none, ↓reduceIte, bk, g1, e1, if_false, g16, i5j', q, d, if_true, nI_k1]
    · rw [if_neg d]
      simp only [bX11_cold_38, bX11_cold_41, bX11_cold_44, bX11_cold_48, bX11_cold_54, bX11_cold_59, bX11_cold_64, tk1_some, tk0_some, tkc_some, tkc_none, ↓reduceIte, bk, g1, e1, if_false, g16, i5j', q, d, I, D, Bool.false_eq_true]
theorem mcold_out (bk : tm_gf (h 130) 11 3 = some (.ref b)) (g16 : tm_gf (h 130) 11 16 = some (.ref 132)) (g0 : tm_gf (h b) 10 0 = some (.int (nI cuts))) (g1 : tm_gf (h b) 10 1 = some (.int (nI w))) (a1 : h 132 = aI 40 hm) (hcc : cuts ≤ 8) (hw : w ≤ 5) (E : EqI cuts w hm f) (I : tm_isObj (h 130) 11 = true) (D : ∀ v : Int32, tC mX11_done [.ref 130, .int v] h = some (h2, some (.int v))) : ∀ r i x, i + r = cuts → tE mX11_cold 20 [.ref 130, .int (nI i), x] [] h = some (h2, some (.int (bI (coldG f w r i)))) := by
  intro r
  induction r with
  | zero =>
    intro i x hi
    obtain rfl : i = cuts := by omega
    rw [bX11_cold_20]
    simp only [bX11_cold_25, bX11_cold_28, bX11_cold_77, bX11_cold_82, tk1_some, tk0_some, tkc_some, tkc_none, ↓reduceIte, bk, g0, Int32.le_refl, if_true, I, D, coldG, bI_t]
  | succ r ih =>
    intro i x hi
    have e1 : ¬ nI cuts ≤ nI i := nI_ge (by omega) (by omega)
    have e := mcold_in bk g16 g1 a1 hcc hw E I D (show i < cuts by omega) w 0 (by omega)
    rw [nI_0] at e
    rw [bX11_cold_20]
    simp only [bX11_cold_25, bX11_cold_28, bX11_cold_31, tk1_some, tk0_some, tkc_some, tkc_none, ↓reduceIte, bk, g0, e1, if_false, e]
    unfold coldG
    by_cases d : coldR f i w 0 = true
    · rw [if_pos d, if_pos d, ih (i + 1) _ (by omega)]
    · rw [if_neg d, if_neg d]; rfl
theorem m_cold (X : MInv h S) (P : PX S) (Q : sBo S = true → PB S) : ∃ h', tC mX11_cold [.ref 130] h = some (h', some (sCold S).2) ∧ MInv h' (sCold S).1 ∧ FrM h h' := by
  obtain ⟨h1, E1, X1, F1, _, I1⟩ := m_thr X (v := 0)
  unfold sCold
  cases bo : sBo S with
  | false =>
    have bk := (m_bk X1).2 bo
    obtain ⟨h2, X2, F2, _, D2, _⟩ := m_note X1 (t := 1) (by decide)
    refine ⟨h2, ?_, X2, FrM_tr F1 F2⟩
    simp only [cX11_cold_, bX11_cold_0, bX11_cold_5, bX11_cold_9n, bX11_cold_12, bX11_cold_17, tk1_some, tk0_some, tkc_some, tkc_none, ↓reduceIte, E1, bk, I1, D2, Bool.false_eq_true, if_false, sRef]
  | true =>
    obtain ⟨b, nn, G, nm, Z, hm, km, W, a1, a2, K, e5, e8, e2, R, g16, g17, bk⟩ := m_see X1 P bo (Q bo)
    obtain ⟨h2, X2, F2, I2, _, _, _, _, D2⟩ := m_note X1 (t := 0) (by decide)
    have D2 := fun v => (D2 rfl v).1
    have M := mw_b W
    have g0 : tm_gf (h1 b) 10 0 = some (.int (nI (cutS S))) := by rw [mb_o M, gf_10_0, (Q bo).2.2.1]
    have g1 : tm_gf (h1 b) 10 1 = some (.int (nI (widS S))) := by rw [mb_o M, gf_10_1, (Q bo).2.2.2.1]
    have e := mcold_out bk g16 g0 g1 a1 (px_c P) (px_w P) e8 I1 D2 (cutS S) 0 tm_U (by omega)
    rw [nI_0] at e
    refine ⟨h2, ?_, X2, FrM_tr F1 F2⟩
    simp only [cX11_cold_, bX11_cold_0, bX11_cold_5, bX11_cold_9r, bX11_cold_18, tk1_some, tk0_some, tkc_some, tkc_none, ↓reduceIte, E1, bk, e, if_true, sAns]
end M35
