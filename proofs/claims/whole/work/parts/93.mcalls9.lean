/-! THE REFERENCE's calls: a blade is learned -/
section M34
variable {h : tm_H} {S : SS}
theorem MI_143 (X : MInv h S) : ∃ Z tn f, h 130 = moO Z (nI tn) ∧ h 143 = aI 80 f ∧ Z.2.2.2.2 = nI (sBl S) ∧ (∀ k, k < sBl S → f (4 * k) = sMk S (k * 3) ∧ f (4 * k + 1) = sMk S (k * 3 + 1) ∧ f (4 * k + 2) = sMk S (k * 3 + 2) ∧ f (4 * k + 3) = sHw S k) ∧ ∀ f' mk' hw' n', (∀ k, k < n' → f' (4 * k) = mk' (k * 3) ∧ f' (4 * k + 1) = mk' (k * 3 + 1) ∧ f' (4 * k + 2) = mk' (k * 3 + 2) ∧ f' (4 * k + 3) = hw' k) → MInv (tm_up (tm_up h 143 (aI 80 f')) 130 (moO (Z.1, Z.2.1, Z.2.2.1, Z.2.2.2.1, nI n') (nI tn))) (sBla S mk' hw' n') := by
  obtain ⟨Z, m, c, s, h0, hm, T, ⟨tn, hm0, km, cl, tu, th, om, HA⟩, tp, B, ⟨f1, t1⟩, ⟨f2, t2⟩, ⟨f3, t3⟩, ⟨f4, l1, l2⟩, ⟨f5, t4⟩, ⟨f, b1, b2⟩⟩ := X
  refine ⟨Z, tn, f, HA.1, b1, T.2.2.2, b2, fun f' mk' hw' n' q => ?_⟩
  have n1 : ∀ k, k ≠ 143 → tm_up h 143 (aI 80 f') k = h k := fun k x => tm_up_ne x
  have HA1 : MA (tm_up h 143 (aI 80 f')) Z tn hm0 km cl tu th om := MA_c (fun k x => n1 k (by omega)) HA
  have B1 : MBB (tm_up h 143 (aI 80 f')) Z m S := MBB_c (fun k x => n1 k (by omega)) B
  have e143 : tm_up h 143 (aI 80 f') 143 = aI 80 f' := tm_up_same
  generalize tm_up h 143 (aI 80 f') = h1 at n1 HA1 B1 e143
  have nx : ∀ k e, k ≠ 130 → tm_up h1 130 e k = h1 k := fun k e x => tm_up_ne x
  refine ⟨(Z.1, Z.2.1, Z.2.2.1, Z.2.2.2.1, nI n'), m, c, s, by rw [nx 0 _ (by decide), n1 0 (by decide)]; exact h0, hm, ⟨T.1, T.2.1, T.2.2.1, rfl⟩, ⟨tn, hm0, km, cl, tu, th, om, MA_o HA1 _ tn⟩, by rw [nx 131 _ (by decide), n1 131 (by decide)]; exact tp, ⟨fun bo => ?_, B1.2⟩, ⟨f1, by rw [nx 138 _ (by decide), n1 138 (by decide)]; exact t1⟩, ⟨f2, by rw [nx 139 _ (by decide), n1 139 (by decide)]; exact t2⟩, ⟨f3, by rw [nx 140 _ (by decide), n1 140 (by decide)]; exact t3⟩, ⟨f4, by rw [nx 141 _ (by decide), n1 141 (by decide)]; exact l1, l2⟩, ⟨f5, by rw [nx 142 _ (by decide), n1 142 (by decide)]; exact t4⟩, ⟨f', by rw [nx 143 _ (by decide)]; exact e143, q⟩⟩
  obtain ⟨b, nn, G, nm, z1, z2, z3, M, R⟩ := B1.1 bo
  have et : nI tn = nI (sR S).2.1 := by
    obtain ⟨_, _, _, _, _, _, _, HR, _⟩ := R
    have := HA1.1
    rw [HR.1] at this
    have := congrArg (fun e => tm_gf e 11 24) this
    simp only [gf_11_24, Option.some.injEq, Value.int.injEq] at this
    exact this.symm
  refine ⟨b, nn, G, nm, z1, z2, z3, MBk_c (fun k x y => nx k _ (by omega)) M, ?_⟩
  rw [et]
  exact MR_z R rfl
theorem i4 (k j : Nat) : 4 * nI k + nI j = nI (4 * k + j) := by rw [show (4 : Int32) = nI 4 from rfl, nI_mul, nI_add]
theorem m_learn (X : MInv h S) (P : PX S) {heat water clay how : Int32} : ∃ h', tC mX11_learn [.ref 130, .int heat, .int water, .int clay, .int how] h = some (h', some (sLearn S heat water clay how).2) ∧ MInv h' (sLearn S heat water clay how).1 ∧ FrM h h' := by
  obtain ⟨h1, E1, X1, F1, _, I1⟩ := m_thr X (v := 0)
  unfold sLearn
  cases bo : sBo S with
  | false =>
    have bk := (m_bk X1).2 bo
    obtain ⟨h2, X2, F2, _, D2, _⟩ := m_note X1 (t := 1) (by decide)
    refine ⟨h2, ?_, X2, FrM_tr F1 F2⟩
    simp only [cX11_learn_, bX11_learn_0, bX11_learn_5, bX11_learn_9n, bX11_learn_12, bX11_learn_17, tk1_some, tk0_some, tkc_some, tkc_none, ↓reduceIte, E1, bk, I1, D2, Bool.false_eq_true, if_false, sRef]
  | true =>
    obtain ⟨b0, bk⟩ := (m_bk X1).1 bo
    have L : tC mX11_learn [.ref 130, .int heat, .int water, .int clay, .int how] h = if learnC heat water clay how = true then tE mX11_learn 65 [.ref 130, .int heat, .int water, .int clay, .int how] [] h1 else tE mX11_learn 59 [.ref 130, .int heat, .int water, .int clay, .int how] [] h1 := by
      unfold learnC
      cases c1 : inB heat 0 999 with
      | false => simp only [cX11_learn_, bX11_learn_0, bX11_learn_5, bX11_learn_9r, bX11_learn_18, bX11_learn_26, tk1_some, tk0_some, tkc_some, tkc_none, ↓reduceIte, E1, bk, m_in, c1, bI_f, if_true, Bool.false_eq_true, if_false]
      | true =>
        cases c2 : inB water 0 999 with
        | false => simp only [cX11_learn_, bX11_learn_0, bX11_learn_5, bX11_learn_9r, bX11_learn_18, bX11_learn_26, bX11_learn_29, bX11_learn_37, tk1_some, tk0_some, tkc_some, tkc_none, ↓reduceIte, E1, bk, m_in, c1, c2, bI_f, bI_t, show ((1 : Int32) = 0) = False from by decide, if_true, Bool.false_eq_true, if_false]
        | true =>
          cases c3 : inB clay 0 3 with
          | false => simp only [cX11_learn_, bX11_learn_0, bX11_learn_5, bX11_learn_9r, bX11_learn_18, bX11_learn_26, bX11_learn_29, bX11_learn_37, bX11_learn_40, bX11_learn_46, tk1_some, tk0_some, tkc_some, tkc_none, ↓reduceIte, E1, bk, m_in, c1, c2, c3, bI_f, bI_t, show ((1 : Int32) = 0) = False from by decide, if_true, Bool.false_eq_true, if_false]
          | true =>
            cases c4 : inB how 0 2 with
            | false => simp only [cX11_learn_, bX11_learn_0, bX11_learn_5, bX11_learn_9r, bX11_learn_18, bX11_learn_26, bX11_learn_29, bX11_learn_37, bX11_learn_40, bX11_learn_46, bX11_learn_49, bX11_learn_56, tk1_some, tk0_some, tkc_some, tkc_none, ↓reduceIte, E1, bk, m_in, c1, c2, c3, c4, bI_f, bI_t, show ((1 : Int32) = 0) = False from by decide, not_true, if_true, Bool.false_eq_true, if_false]
            | true => simp only [cX11_learn_, bX11_learn_0, bX11_learn_5, bX11_learn_9r, bX11_learn_18, bX11_learn_26, bX11_learn_29, bX11_learn_37, bX11_learn_40, bX11_learn_46, bX11_learn_49, bX11_learn_56, tk1_some, tk0_some, tkc_some, tkc_none, ↓reduceIte, E1, bk, m_in, c1, c2, c3, c4, bI_t, show ((1 : Int32) = 0) = False from by decide, not_false_eq_true, if_true, if_false]
    rw [L, if_pos rfl]
    cases lc : learnC heat water clay how with
    | false =>
      obtain ⟨h2, X2, F2, _, D2, _⟩ := m_note X1 (t := 2) (by decide)
      refine ⟨h2, ?_, X2, FrM_tr F1 F2⟩
      simp only [bX11_learn_59, bX11_learn_64, tk1_some, tk0_some, tkc_some, tkc_none, ↓reduceIte, I1, D2, Bool.false_eq_true, if_false, sRef]
    | true =>
      rw [if_pos rfl, if_pos rfl]
      have g33 := (m_top X1).2.2.2.2.1
      have b20 : sBl S ≤ 20 := P.2.1
      have lm : (nI (sBl S) = 20) = (20 ≤ sBl S) := lim_e (m := 20) (by decide) b20
      by_cases d : 20 ≤ sBl S
      · rw [if_pos d]
        obtain ⟨h2, X2, F2, _, D2, _⟩ := m_note X1 (t := 3) (by decide)
        refine ⟨h2, ?_, X2, FrM_tr F1 F2⟩
        simp only [bX11_learn_65, bX11_learn_69, bX11_learn_74, bX11_learn_79, tk1_some, tk0_some, tkc_some, tkc_none, ↓reduceIte, g33, lm, d, not_true, if_false, I1, D2, sRef]
      · rw [if_neg d]
        obtain ⟨Z, tn, f, o, a, zb, rel, put⟩ := MI_143 X1
        obtain ⟨z1, z2, z3, z4, z5⟩ := Z
        obtain rfl : z5 = nI (sBl S) := zb
        have X2 := put (upd (upd (upd (upd f (4 * sBl S) heat) (4 * sBl S + 1) water) (4 * sBl S + 2) clay) (4 * sBl S + 3) how) (mkA S heat water clay) (upd (sHw S) (sBl S) how) (sBl S + 1) (fun k hk => by
          unfold mkA
          by_cases e : k = sBl S
          · subst e
            refine ⟨?_, ?_, ?_, ?_⟩
            · rw [upd_off (by omega), upd_off (by omega), upd_off (by omega), upd_at, upd_off (by omega), upd_off (by omega), upd_at]
            · rw [upd_off (by omega), upd_off (by omega), upd_at, upd_off (by omega), upd_at]
            · rw [upd_off (by omega), upd_at, upd_at]
            · rw [upd_at, upd_at]
          · obtain ⟨r0, r1, r2, r3⟩ := rel k (by omega)
            refine ⟨?_, ?_, ?_, ?_⟩
            · rw [upd_off (by omega), upd_off (by omega), upd_off (by omega), upd_off (by omega), upd_off (by omega), upd_off (by omega), upd_off (by omega)]; exact r0
            · rw [upd_off (by omega), upd_off (by omega), upd_off (by omega), upd_off (by omega), upd_off (by omega), upd_off (by omega), upd_off (by omega)]; exact r1
            · rw [upd_off (by omega), upd_off (by omega), upd_off (by omega), upd_off (by omega), upd_off (by omega), upd_off (by omega), upd_off (by omega)]; exact r2
            · rw [upd_off (by omega), upd_off (by omega), upd_off (by omega), upd_off (by omega), upd_off e]; exact r3)
        obtain ⟨h3, X3, F3, I3, _, _, _, _, D3⟩ := m_note X2 (t := 0) (by decide)
        have D3 := fun v => (D3 rfl v).1
        refine ⟨h3, ?_, X3, FrM_tr F1 (FrM_tr (FrM_tr (FrM_up (by decide)) (FrM_up (by decide))) F3)⟩
        have t0 : (80 : Nat) < 2 ^ 31 := by decide
        have s1 : tm_si 0 h1 143 (4 * nI (sBl S)) heat = some (tm_up h1 143 (aI 80 (upd f (4 * sBl S) heat))) := by
          have e := i4 (sBl S) 0
          rw [nI_0, Int32.add_zero, Nat.add_zero] at e
          rw [e, tm_si_eq, a, tm_sa_in rfl (show 4 * sBl S < 80 by omega) t0]; rfl
        have s2 : ∀ g (v : Int32) (j : Nat) (jI : Int32), jI = nI j → j < 4 → tm_si 0 (tm_up h1 143 (aI 80 g)) 143 (4 * nI (sBl S) + jI) v = some (tm_up h1 143 (aI 80 (upd g (4 * sBl S + j) v))) := fun g v j jI ej hj => by
          rw [ej, i4, tm_si_eq, tm_up_same, tm_sa_in rfl (show 4 * sBl S + j < 80 by omega) t0]
          show some (tm_up (tm_up h1 143 (aI 80 g)) 143 _) = _
          rw [tm_up_up]
        have nx : ∀ e, tm_up h1 143 e 130 = moO (z1, z2, z3, z4, nI (sBl S)) (nI tn) := fun e => by rw [tm_up_ne (by decide)]; exact o
        have g34 := (m_top X1).2.2.2.2.2.2.2.1
        simp only [bX11_learn_65, bX11_learn_69, bX11_learn_80, bX11_learn_84, bX11_learn_89, bX11_learn_92, bX11_learn_96, bX11_learn_101, bX11_learn_106, bX11_learn_110, bX11_learn_115, bX11_learn_120, bX11_learn_124, bX11_learn_129, bX11_learn_135, bX11_learn_140, bX11_learn_145, bX11_learn_150, bX11_learn_153, tk1_some, tk0_some, tkc_some, tkc_none, ↓reduceIte, o, gf_11_33, gf_11_34, lm, d, not_false_eq_true, if_true, s1, nx, s2 _ water 1 1 rfl (by decide), s2 _ clay 2 2 rfl (by decide), s2 _ how 3 3 rfl (by decide), tm_pf_eq, ps_11_33, Option.map_some, nI_k1, tm_up_same, tm_isO, D3]
end M34
