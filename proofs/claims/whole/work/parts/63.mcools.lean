/-! THE REFERENCE: a tenth of the bar, a tenth of a trial -/
abbrev MZ : Type := (Int32 × Int32 × Int32) × (Value × Value) × ((Int32 × Int32 × Int32 × Int32 × Int32) × (Int32 × Int32 × Int32 × Int32 × Int64)) × (Int32 × Int32 × Int32 × Int32 × Int32) × Int32
abbrev moO (Z : MZ) (tu : Int32) : va_E := .inr (11, [.int Z.1.1, .int Z.1.2.1, .int Z.1.2.2, Z.2.1.1, Z.2.1.2, .ref 71, .int Z.2.2.1.1.1, .int Z.2.2.1.1.2.1, .int Z.2.2.1.1.2.2.1, .int Z.2.2.1.1.2.2.2.1, .int Z.2.2.1.1.2.2.2.2, .int Z.2.2.1.2.1, .int Z.2.2.1.2.2.1, .int Z.2.2.1.2.2.2.1, .int Z.2.2.1.2.2.2.2.1, .long Z.2.2.1.2.2.2.2.2, .ref 72, .ref 73, .ref 74, .ref 75, .ref 76, .int Z.2.2.2.1.1, .int Z.2.2.2.1.2.1, .int Z.2.2.2.1.2.2.1, .int tu, .int Z.2.2.2.1.2.2.2.1, .int Z.2.2.2.1.2.2.2.2, .ref 77, .ref 78, .ref 79, .ref 80, .ref 81, .ref 82, .int Z.2.2.2.2, .ref 83])
def MA (h : tm_H) (Z : MZ) (tn : Nat) (hm km cl tu th om : Nat → Int32) : Prop :=
  h 70 = moO Z (nI tn) ∧ h 72 = aI 40 hm ∧ h 73 = aI 40 km ∧ h 74 = aI 40 cl ∧ h 75 = aI 40 tu ∧ h 76 = aI 40 th ∧ h 77 = aI 40 om
def FrC (h h' : tm_H) : Prop := ∀ k, k ≠ 70 → (k < 72 ∨ 77 < k) → h' k = h k
theorem FrC_rf (h : tm_H) : FrC h h := fun _ _ _ => rfl
theorem FrC_tr {h h1 h2 : tm_H} (a : FrC h h1) (b : FrC h1 h2) : FrC h h2 := fun k x y => (b k x y).trans (a k x y)
theorem MBk_c {h h' : tm_H} {b n : Nat} {cnt : Nat → Nat} {tab G : Nat → Nat → Int32} {nm : Nat → Int64} (E : ∀ k, b ≤ k → k ≤ b + 13 → h' k = h k) (M : MBk h b cnt tab n G nm) : MBk h' b cnt tab n G nm :=
  ⟨by rw [E b (by omega) (by omega)]; exact M.1, fun i h1 h2 h3 => by rw [E _ (by omega) (by omega)]; exact M.2.1 i h1 h2 h3, by rw [E _ (by omega) (by omega)]; exact M.2.2.1, M.2.2.2⟩
theorem MW_of {h : tm_H} {b n : Nat} {cnt : Nat → Nat} {tab G : Nat → Nat → Int32} {nm : Nat → Int64} {Z : MZ} {tu : Int32} (o : h 70 = moO Z tu) (z : Z.2.1.1 = .ref b) (M : MBk h b cnt tab n G nm) (hb : 83 < b) : MW h b cnt tab n G nm := by
  refine ⟨by rw [o]; exact tm_isO, ?_, by rw [o]; rfl, by rw [o]; rfl, by rw [o]; rfl, M, hb⟩
  rw [o]; show some Z.2.1.1 = _; rw [z]
section M2
variable {b n : Nat} {cnt : Nat → Nat} {tab G : Nat → Nat → Int32} {nm : Nat → Int64} {w cuts : Nat} {Z : MZ} {cl th : Nat → Int32} {water lo hi' : Int32} {te : Nat}
/-- heats before (i, j) are new, those behind it old -/
def RIJ (cuts w i j : Nat) (A : Nat → Nat → Int32) (hm km tu : Nat → Int32) : Prop := ∀ i' j', i' < cuts → j' < w → km (i' * 5 + j') = A 2 (i' * 5 + j') ∧ tu (i' * 5 + j') = A 6 (i' * 5 + j') ∧ hm (i' * 5 + j') = if i' < i ∨ (i' = i ∧ j' < j) then A 8 (i' * 5 + j') else A 9 (i' * 5 + j')
theorem x5 {i j i' j' : Nat} (hj : j < 5) (hj' : j' < 5) : i' * 5 + j' = i * 5 + j ↔ i' = i ∧ j' = j := by omega
theorem mp2_in (F : BkF lo hi' cnt tab) (z : Z.2.1.1 = .ref b) (hb : 83 < b) (hcc : cuts ≤ 8) (ew : tab 0 1 = nI w) (hw : w ≤ 5) (ht : te ≠ 0) (ht2 : te < 2 ^ 31) {i : Nat} (hi : i < cuts) {wp : Int32} : ∀ r j h A tn hm km tu om x9 x10, MA h Z tn hm km cl tu th om → MBk h b cnt tab n G nm → KN (cnt 2) A tn → RIJ cuts w i j A hm km tu → (∀ k, k < tn → om k = ledS (A 7 k)) → (∀ j', j' < w → th (i * 5 + j') = A 8 (i * 5 + j')) → j + r = w → ∃ h' hm' km' tu' om' y9 y10, tE mX11_cools 76 [.ref 70, .ref 72, .ref 73, .ref 74, .int (nI cuts), .int water, .int (nI te), .int (nI i), .int (nI j), x9, x10] [] h = tE mX11_cools 200 [.ref 70, .ref 72, .ref 73, .ref 74, .int (nI cuts), .int water, .int (nI te), .int (nI i), .int (nI w), y9, y10] [] h' ∧ MA h' Z (rowT cnt tab wp te i r j (A, tn)).2 hm' km' cl tu' th om' ∧ RIJ cuts w i w (rowT cnt tab wp te i r j (A, tn)).1 hm' km' tu' ∧ (∀ k, k < (rowT cnt tab wp te i r j (A, tn)).2 → om' k = ledS ((rowT cnt tab wp te i r j (A, tn)).1 7 k)) ∧ FrC h h' := by
  have t0 : 40 < 2 ^ 31 := by decide
  intro r
  induction r with
  | zero =>
    intro j h A tn hm km tu om x9 x10 H M K R O T hj
    obtain rfl : j = w := by omega
    have W := MW_of H.1 z M hb
    refine ⟨h, hm, km, tu, om, x9, x10, ?_, H, R, O, FrC_rf h⟩
    rw [bX11_cools_76]
    simp only [bX11_cools_82, bX11_cools_85, tk1_some, tk0_some, tkc_some, tkc_none, ↓reduceIte, mw_3 W, mb_o M, gf_10_1, ew, Int32.le_refl, if_true]
  | succ r ih =>
    intro j h A tn hm km tu om x9 x10 H M K R O T hj
    have hjw : j < w := by omega
    have e1 : ¬ nI w ≤ nI j := nI_ge hjw (by omega)
    have W := MW_of H.1 z M hb
    have hx : i * 5 + j < 40 := by omega
    obtain ⟨o0, a2, a3, a4, a5, a6, a7⟩ := H
    obtain ⟨rk, rt, rh⟩ := R i j hi hjw
    rw [if_neg (by omega)] at rh
    have c5 : cnt 2 ≤ 5 := mb_c M (by decide)
    have P := mturn W (fr := A 9 (i * 5 + j)) (to := A 8 (i * 5 + j))
    have q2 : tm_ai 0 (h 72) (nI (i * 5 + j)) = some (.int (A 9 (i * 5 + j))) := by rw [a2, tm_ai_in rfl hx t0, rh]
    have q3 : tm_ai 0 (h 73) (nI (i * 5 + j)) = some (.int (A 2 (i * 5 + j))) := by rw [a3, tm_ai_in rfl hx t0, rk]
    have q6 : tm_ai 0 (h 76) (nI (i * 5 + j)) = some (.int (A 8 (i * 5 + j))) := by rw [a6, tm_ai_in rfl hx t0, T j hjw]
    -- the heat is the new one
    have s2 : tm_si 0 h 72 (nI (i * 5 + j)) (A 8 (i * 5 + j)) = some (tm_up h 72 (aI 40 (upd hm (i * 5 + j) (A 8 (i * 5 + j))))) := by rw [tm_si_eq, a2, tm_sa_in rfl hx t0, Option.map_some]
    have U : ∀ k, k ≠ 72 → tm_up h 72 (aI 40 (upd hm (i * 5 + j) (A 8 (i * 5 + j)))) k = h k := fun k hk => tm_up_ne hk
    have u2 : tm_up h 72 (aI 40 (upd hm (i * 5 + j) (A 8 (i * 5 + j)))) 72 = aI 40 (upd hm (i * 5 + j) (A 8 (i * 5 + j))) := tm_up_same
    generalize tm_up h 72 (aI 40 (upd hm (i * 5 + j) (A 8 (i * 5 + j)))) = h1 at s2 U u2
    have H1 : MA h1 Z tn (upd hm (i * 5 + j) (A 8 (i * 5 + j))) km cl tu th om := ⟨by rw [U 70 (by decide)]; exact o0, u2, by rw [U 73 (by decide)]; exact a3, by rw [U 74 (by decide)]; exact a4, by rw [U 75 (by decide)]; exact a5, by rw [U 76 (by decide)]; exact a6, by rw [U 77 (by decide)]; exact a7⟩
    have F1 : FrC h h1 := fun k x y => U k (by omega)
    have M1 : MBk h1 b cnt tab n G nm := MBk_c (fun k x y => U k (by omega)) M
    have st : ∃ y9 y10, tE mX11_cools 76 [.ref 70, .ref 72, .ref 73, .ref 74, .int (nI cuts), .int water, .int (nI te), .int (nI i), .int (nI j), x9, x10] [] h = tE mX11_cools 136 [.ref 70, .ref 72, .ref 73, .ref 74, .int (nI cuts), .int water, .int (nI te), .int (nI i), .int (nI j), y9, .int (kndS cnt tab A (i * 5 + j))] [] h1 ∧ y9 = .int (nI (i * 5 + j)) ∧ y10 = y9 := by
      refine ⟨_, _, ?_, rfl, rfl⟩
      rw [bX11_cools_76]
      unfold kndS
      by_cases k0 : A 2 (i * 5 + j) = 0
      · rw [if_pos k0]
        simp only [bX11_cools_82, bX11_cools_85, bX11_cools_88, bX11_cools_101, bX11_cools_104, bX11_cools_109, bX11_cools_113, bX11_cools_116, bX11_cools_119, bX11_cools_123, bX11_cools_132, bX11_cools_135, tk1_some, tk0_some, tkc_some, tkc_none, ↓reduceIte, mw_3 W, mw_20 W, mw_i W, mb_o M, gf_10_1, ew, e1, if_false, i5j', q3, k0, not_true, q2, q6, P, s2]
      · rw [if_neg k0]
        simp only [bX11_cools_82, bX11_cools_85, bX11_cools_88, bX11_cools_101, bX11_cools_122, bX11_cools_123, bX11_cools_132, bX11_cools_135, tk1_some, tk0_some, tkc_some, tkc_none, ↓reduceIte, mw_3 W, mw_20 W, mb_o M, gf_10_1, ew, e1, if_false, i5j', q3, k0, not_false_eq_true, if_true, q6, s2]
    obtain ⟨y9, y10, st, rfl, -⟩ := st
    rw [st]
    unfold rowT
    by_cases kz : kndS cnt tab A (i * 5 + j) = 0
    · rw [show stepT cnt tab wp te (i * 5 + j) (A, tn) = (A, tn) from by unfold stepT; exact if_pos kz]
      have R1 : RIJ cuts w i (j + 1) A (upd hm (i * 5 + j) (A 8 (i * 5 + j))) km tu := by
        intro i' j' h1 h2
        obtain ⟨b1, b2, b3⟩ := R i' j' h1 h2
        refine ⟨b1, b2, ?_⟩
        unfold upd
        by_cases e : i' = i ∧ j' = j
        · obtain ⟨rfl, rfl⟩ := e
          rw [if_pos rfl, if_pos (by omega)]
        · rw [if_neg (by omega), b3]
          by_cases e2 : i' < i ∨ (i' = i ∧ j' < j)
          · rw [if_pos e2, if_pos (by omega)]
          · rw [if_neg e2, if_neg (by omega)]
      obtain ⟨h2, hm2, km2, tu2, om2, y9, y10, e, x1, x2, x3, x4⟩ := ih (j + 1) h1 A tn _ km tu om (.int (nI (i * 5 + j))) (.int (kndS cnt tab A (i * 5 + j))) H1 M1 K R1 O T (by omega)
      refine ⟨h2, hm2, km2, tu2, om2, y9, y10, ?_, x1, x2, x3, FrC_tr F1 x4⟩
      rw [← e]
      rw [bX11_cools_136]
      simp only [bX11_cools_141, bX11_cools_194, kz, not_true, if_false, nI_k1]
    · obtain ⟨k0, kd, hkd, ekd⟩ := knd_kd F kz
      have tn40 := KN_lt K k0 hx
      rw [show stepT cnt tab wp te (i * 5 + j) (A, tn) = (turnA (tab 2) wp te A tn (i * 5 + j) kd, tn + 1) from by unfold stepT; rw [if_neg kz, if_pos tn40, show kndS cnt tab (A, tn).1 (i * 5 + j) = nI kd from ekd, iN_nI (by omega)]]
      have kdz : ¬ nI kd = 0 := by rw [← ekd]; exact kz
      have K1 := KN_turn (tenth := te) (wp := wp) (t2 := tab 2) K k0 hx hkd kdz
      obtain ⟨o0', b2, b3, b4, b5, b6, b7⟩ := H1
      -- kind, tenth, order, how many
      have s3 : tm_si 0 h1 73 (nI (i * 5 + j)) (nI kd) = some (tm_up h1 73 (aI 40 (upd km (i * 5 + j) (nI kd)))) := by rw [tm_si_eq, b3, tm_sa_in rfl hx t0, Option.map_some]
      have s5 : tm_si 0 (tm_up h1 73 (aI 40 (upd km (i * 5 + j) (nI kd)))) 75 (nI (i * 5 + j)) (nI te) = some (tm_up (tm_up h1 73 (aI 40 (upd km (i * 5 + j) (nI kd)))) 75 (aI 40 (upd tu (i * 5 + j) (nI te)))) := by rw [tm_si_eq, tm_up_ne (by decide), b5, tm_sa_in rfl hx t0, Option.map_some]
      have s7 : tm_si 0 (tm_up (tm_up h1 73 (aI 40 (upd km (i * 5 + j) (nI kd)))) 75 (aI 40 (upd tu (i * 5 + j) (nI te)))) 77 (nI tn) (10 * nI i + nI j) = some (tm_up (tm_up (tm_up h1 73 (aI 40 (upd km (i * 5 + j) (nI kd)))) 75 (aI 40 (upd tu (i * 5 + j) (nI te)))) 77 (aI 40 (upd om tn (10 * nI i + nI j)))) := by rw [tm_si_eq, tm_up_ne (by decide), tm_up_ne (by decide), b7, tm_sa_in rfl tn40 t0, Option.map_some]
      have o3 : tm_up h1 73 (aI 40 (upd km (i * 5 + j) (nI kd))) 70 = moO Z (nI tn) := by rw [tm_up_ne (by decide)]; exact o0'
      have o5 : tm_up (tm_up h1 73 (aI 40 (upd km (i * 5 + j) (nI kd)))) 75 (aI 40 (upd tu (i * 5 + j) (nI te))) 70 = moO Z (nI tn) := by rw [tm_up_ne (by decide)]; exact o3
      have o7 : tm_up (tm_up (tm_up h1 73 (aI 40 (upd km (i * 5 + j) (nI kd)))) 75 (aI 40 (upd tu (i * 5 + j) (nI te)))) 77 (aI 40 (upd om tn (10 * nI i + nI j))) 70 = moO Z (nI tn) := by rw [tm_up_ne (by decide)]; exact o5
      have V : ∀ k, k ≠ 70 → k ≠ 73 → k ≠ 75 → k ≠ 77 → tm_up (tm_up (tm_up (tm_up h1 73 (aI 40 (upd km (i * 5 + j) (nI kd)))) 75 (aI 40 (upd tu (i * 5 + j) (nI te)))) 77 (aI 40 (upd om tn (10 * nI i + nI j)))) 70 (moO Z (nI (tn + 1))) k = h1 k := fun k x y w z => by rw [tm_up_ne x, tm_up_ne z, tm_up_ne w, tm_up_ne y]
      have H4 : MA (tm_up (tm_up (tm_up (tm_up h1 73 (aI 40 (upd km (i * 5 + j) (nI kd)))) 75 (aI 40 (upd tu (i * 5 + j) (nI te)))) 77 (aI 40 (upd om tn (10 * nI i + nI j)))) 70 (moO Z (nI (tn + 1)))) Z (tn + 1) (upd hm (i * 5 + j) (A 8 (i * 5 + j))) (upd km (i * 5 + j) (nI kd)) cl (upd tu (i * 5 + j) (nI te)) th (upd om tn (10 * nI i + nI j)) :=
        ⟨tm_up_same, by rw [V 72 (by decide) (by decide) (by decide) (by decide)]; exact b2, by rw [tm_up_ne (by decide), tm_up_ne (by decide), tm_up_ne (by decide), tm_up_same], by rw [V 74 (by decide) (by decide) (by decide) (by decide)]; exact b4, by rw [tm_up_ne (by decide), tm_up_ne (by decide), tm_up_same], by rw [V 76 (by decide) (by decide) (by decide) (by decide)]; exact b6, by rw [tm_up_ne (by decide), tm_up_same]⟩
      have pf : tm_pf (tm_up (tm_up (tm_up h1 73 (aI 40 (upd km (i * 5 + j) (nI kd)))) 75 (aI 40 (upd tu (i * 5 + j) (nI te)))) 77 (aI 40 (upd om tn (10 * nI i + nI j)))) 70 11 24 (.int (nI (tn + 1))) = some (tm_up (tm_up (tm_up (tm_up h1 73 (aI 40 (upd km (i * 5 + j) (nI kd)))) 75 (aI 40 (upd tu (i * 5 + j) (nI te)))) 77 (aI 40 (upd om tn (10 * nI i + nI j)))) 70 (moO Z (nI (tn + 1)))) := by
        rw [tm_pf_eq, o7, ps_11_24, Option.map_some]
      have M4 : MBk (tm_up (tm_up (tm_up (tm_up h1 73 (aI 40 (upd km (i * 5 + j) (nI kd)))) 75 (aI 40 (upd tu (i * 5 + j) (nI te)))) 77 (aI 40 (upd om tn (10 * nI i + nI j)))) 70 (moO Z (nI (tn + 1)))) b cnt tab n G nm := MBk_c (fun k x y => V k (by omega) (by omega) (by omega) (by omega)) M1
      have F4 : FrC h1 (tm_up (tm_up (tm_up (tm_up h1 73 (aI 40 (upd km (i * 5 + j) (nI kd)))) 75 (aI 40 (upd tu (i * 5 + j) (nI te)))) 77 (aI 40 (upd om tn (10 * nI i + nI j)))) 70 (moO Z (nI (tn + 1)))) := fun k x y => V k x (by omega) (by omega) (by omega)
      have te0 : ¬ nI te = 0 := fun y => ht ((nI_eq (b := 0) ht2 (by decide)).mp y)
      have go : tE mX11_cools 136 [.ref 70, .ref 72, .ref 73, .ref 74, .int (nI cuts), .int water, .int (nI te), .int (nI i), .int (nI j), .int (nI (i * 5 + j)), .int (kndS cnt tab A (i * 5 + j))] [] h1 = tE mX11_cools 76 [.ref 70, .ref 72, .ref 73, .ref 74, .int (nI cuts), .int water, .int (nI te), .int (nI i), .int (nI (j + 1)), .int (nI (i * 5 + j)), .int (nI kd)] [] (tm_up (tm_up (tm_up (tm_up h1 73 (aI 40 (upd km (i * 5 + j) (nI kd)))) 75 (aI 40 (upd tu (i * 5 + j) (nI te)))) 77 (aI 40 (upd om tn (10 * nI i + nI j)))) 70 (moO Z (nI (tn + 1)))) := by
        rw [ekd, bX11_cools_136]
        simp only [bX11_cools_144, bX11_cools_150, bX11_cools_158, bX11_cools_162, bX11_cools_167, bX11_cools_171, bX11_cools_175, bX11_cools_184, bX11_cools_189, bX11_cools_194, tk1_some, tk0_some, tkc_some, tkc_none, ↓reduceIte, kdz, te0, not_false_eq_true, if_true, s3, o3, gf_11_19, s5, o5, gf_11_27, gf_11_24, s7, o7, nI_k1, pf]
      rw [go]
      generalize tm_up (tm_up (tm_up (tm_up h1 73 (aI 40 (upd km (i * 5 + j) (nI kd)))) 75 (aI 40 (upd tu (i * 5 + j) (nI te)))) 77 (aI 40 (upd om tn (10 * nI i + nI j)))) 70 (moO Z (nI (tn + 1))) = h4 at H4 M4 F4
      have R4 : RIJ cuts w i (j + 1) (turnA (tab 2) wp te A tn (i * 5 + j) kd) (upd hm (i * 5 + j) (A 8 (i * 5 + j))) (upd km (i * 5 + j) (nI kd)) (upd tu (i * 5 + j) (nI te)) := by
        intro i' j' h1 h2
        obtain ⟨b1, b2, b3⟩ := R i' j' h1 h2
        show upd km (i * 5 + j) (nI kd) (i' * 5 + j') = upd (A 2) (i * 5 + j) (nI kd) (i' * 5 + j') ∧ upd tu (i * 5 + j) (nI te) (i' * 5 + j') = upd (A 6) (i * 5 + j) (nI te) (i' * 5 + j') ∧ upd hm (i * 5 + j) (A 8 (i * 5 + j)) (i' * 5 + j') = if i' < i ∨ (i' = i ∧ j' < j + 1) then A 8 (i' * 5 + j') else A 9 (i' * 5 + j')
        unfold upd
        by_cases e : i' = i ∧ j' = j
        · obtain ⟨rfl, rfl⟩ := e
          rw [if_pos rfl, if_pos rfl, if_pos rfl, if_pos rfl, if_pos rfl, if_pos (by omega)]
          exact ⟨rfl, rfl, rfl⟩
        · rw [if_neg (by omega), if_neg (by omega), if_neg (by omega), if_neg (by omega), if_neg (by omega), b3]
          refine ⟨b1, b2, ?_⟩
          by_cases e2 : i' < i ∨ (i' = i ∧ j' < j)
          · rw [if_pos e2, if_pos (by omega)]
          · rw [if_neg e2, if_neg (by omega)]
      have O4 : ∀ k, k < tn + 1 → upd om tn (10 * nI i + nI j) k = ledS (turnA (tab 2) wp te A tn (i * 5 + j) kd 7 k) := by
        intro k hk
        show upd om tn (10 * nI i + nI j) k = ledS (upd (A 7) tn (nI (i * 5 + j)) k)
        unfold upd
        by_cases e : k = tn
        · rw [if_pos e, if_pos e]; exact (led_nI (by omega) (by omega)).symm
        · rw [if_neg e, if_neg e]; exact O k (by omega)
      obtain ⟨h5, hm5, km5, tu5, om5, y9, y10, e, x1, x2, x3, x4⟩ := ih (j + 1) h4 _ (tn + 1) _ _ _ _ (.int (nI (i * 5 + j))) (.int (nI kd)) H4 M4 K1 R4 O4 T (by omega)
      exact ⟨h5, hm5, km5, tu5, om5, y9, y10, e, x1, x2, x3, FrC_tr F1 (FrC_tr F4 x4)⟩
end M2
