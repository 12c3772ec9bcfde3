/-! THE REFERENCE: trials -/
theorem sz_eqM {tab : Nat → Nat → Int32} {cuts w : Nat} {A : Nat → Nat → Int32} {hm km : Nat → Int32} (hw : w ≤ 5) (hc : cuts ≤ 8) (e8 : EqI cuts w hm (A 8)) (e2 : EqI cuts w km (A 2)) (S : SzI cuts w (tab 1 4) A) (R : RmA tab (nI w * sqS w w) A) : EqI cuts w (szM tab hm km) (A 5) ∧ EqI cuts w (mpM tab w km) (A 4) := by
  refine ⟨fun i j hi hj => ?_, fun i j hi hj => ?_⟩
  · rw [S i j hi hj]
    unfold szM sizG
    rw [e8 i j hi hj, e2 i j hi hj, (R (i * 5 + j) (by omega)).1]
  · unfold mpM
    rw [e2 i j hi hj, (R (i * 5 + j) (by omega)).2]
theorem crk_eqM {cnt : Nat → Nat} {tab : Nat → Nat → Int32} {cuts w te tn : Nat} {water lo hi' : Int32} {A : Nat → Nat → Int32} {hm km : Nat → Int32} (F : BkF lo hi' cnt tab) (h5 : cnt 2 ≤ 5) (hw : w ≤ 5) (hc : cuts ≤ 8) (R : RmA tab (nI w * sqS w w) A) (e8 : EqI cuts w hm ((onceS cnt tab cuts w (sqS w w) water te A tn (-1)).1 8)) (e2 : EqI cuts w km ((onceS cnt tab cuts w (sqS w w) water te A tn (-1)).1 2)) : crkR (szM tab hm km) (mpM tab w km) w (sqS w w) cuts 0 (-1) = (onceS cnt tab cuts w (sqS w w) water te A tn (-1)).2.2.1 := by
  obtain ⟨a, b⟩ := sz_eqM hw hc e8 e2 (onceS_sz hw) (RmA_once F h5 R)
  rw [once_crk hw, crkR_c a b cuts 0 (-1) (by omega)]
def TA (h : tm_H) (hm km cl th : Nat → Int32) : Prop := h 78 = aI 5 hm ∧ h 79 = aI 5 km ∧ h 80 = aI 5 cl ∧ h 76 = aI 40 th
def FrU (h h' : tm_H) : Prop := ∀ k, k ≠ 76 → (k < 78 ∨ 80 < k) → h' k = h k
theorem FrU_rf (h : tm_H) : FrU h h := fun _ _ _ => rfl
theorem FrU_tr {h h1 h2 : tm_H} (a : FrU h h1) (b : FrU h1 h2) : FrU h h2 := fun k x y => (b k x y).trans (a k x y)
section MT
variable {b n : Nat} {cnt : Nat → Nat} {tab G : Nat → Nat → Int32} {nm : Nat → Int64} {w : Nat} {cl : Nat → Int32} {water lo hi' : Int32}
theorem MW_u {h h' : tm_H} (F : FrU h h') (W : MW h b cnt tab n G nm) : MW h' b cnt tab n G nm := by
  obtain ⟨w1, w2, w3, w4, w5, w6, w7⟩ := W
  have e : h' 70 = h 70 := F 70 (by decide) (by decide)
  exact ⟨by rw [e]; exact w1, by rw [e]; exact w2, by rw [e]; exact w3, by rw [e]; exact w4, by rw [e]; exact w5, MBk_c (fun k x y => F k (by omega) (by omega)) w6, w7⟩
theorem mt2_in (F : BkF lo hi' cnt tab) (ew : tab 0 1 = nI w) (hw : w ≤ 5) {wp : Int32} {te : Nat} {th : Nat → Int32} : ∀ r j h A tn hm km x9 x10, TA h hm km cl th → MW h b cnt tab n G nm → KN (cnt 2) A tn → (∀ j', j' < w → km (0 * 5 + j') = A 2 (0 * 5 + j') ∧ hm (0 * 5 + j') = if j' < j then A 8 (0 * 5 + j') else A 9 (0 * 5 + j')) → (∀ j', j' < w → th (0 * 5 + j') = A 8 (0 * 5 + j')) → j + r = w → ∃ h' hm' km' y9 y10, tE mX11_cools 76 [.ref 70, .ref 78, .ref 79, .ref 80, .int (nI 1), .int water, .int 0, .int (nI 0), .int (nI j), x9, x10] [] h = tE mX11_cools 200 [.ref 70, .ref 78, .ref 79, .ref 80, .int (nI 1), .int water, .int 0, .int (nI 0), .int (nI w), y9, y10] [] h' ∧ TA h' hm' km' cl th ∧ (∀ j', j' < w → km' (0 * 5 + j') = (rowT cnt tab wp te 0 r j (A, tn)).1 2 (0 * 5 + j') ∧ hm' (0 * 5 + j') = A 8 (0 * 5 + j')) ∧ FrU h h' := by
  have t0 : 5 < 2 ^ 31 := by decide
  intro r
  induction r with
  | zero =>
    intro j h A tn hm km x9 x10 H W K R T hj
    obtain rfl : j = w := by omega
    have M := mw_b W
    refine ⟨h, hm, km, x9, x10, ?_, H, fun j' hj' => ⟨(R j' hj').1, by rw [(R j' hj').2, if_pos hj']⟩, FrU_rf h⟩
    rw [bX11_cools_76]
    simp only [bX11_cools_82, bX11_cools_85, tk1_some, tk0_some, tkc_some, tkc_none, ↓reduceIte, mw_3 W, mb_o M, gf_10_1, ew, Int32.le_refl, if_true]
  | succ r ih =>
    intro j h A tn hm km x9 x10 H W K R T hj
    have hjw : j < w := by omega
    have e1 : ¬ nI w ≤ nI j := nI_ge hjw (by omega)
    have M := mw_b W
    have hx : 0 * 5 + j < 5 := by omega
    obtain ⟨a2, a3, a4, a6⟩ := H
    obtain ⟨rk, rh⟩ := R j hjw
    rw [if_neg (by omega)] at rh
    have c5 : cnt 2 ≤ 5 := mb_c M (by decide)
    have P := mturn W (fr := A 9 (0 * 5 + j)) (to := A 8 (0 * 5 + j))
    have q2 : tm_ai 0 (h 78) (nI (0 * 5 + j)) = some (.int (A 9 (0 * 5 + j))) := by rw [a2, tm_ai_in rfl hx t0, rh]
    have q3 : tm_ai 0 (h 79) (nI (0 * 5 + j)) = some (.int (A 2 (0 * 5 + j))) := by rw [a3, tm_ai_in rfl hx t0, rk]
    have q6 : tm_ai 0 (h 76) (nI (0 * 5 + j)) = some (.int (A 8 (0 * 5 + j))) := by rw [a6, tm_ai_in rfl (show 0 * 5 + j < 40 by omega) (by decide), T j hjw]
    have s2 : tm_si 0 h 78 (nI (0 * 5 + j)) (A 8 (0 * 5 + j)) = some (tm_up h 78 (aI 5 (upd hm (0 * 5 + j) (A 8 (0 * 5 + j))))) := by rw [tm_si_eq, a2, tm_sa_in rfl hx t0, Option.map_some]
    have U : ∀ k, k ≠ 78 → tm_up h 78 (aI 5 (upd hm (0 * 5 + j) (A 8 (0 * 5 + j)))) k = h k := fun k hk => tm_up_ne hk
    have u2 : tm_up h 78 (aI 5 (upd hm (0 * 5 + j) (A 8 (0 * 5 + j)))) 78 = aI 5 (upd hm (0 * 5 + j) (A 8 (0 * 5 + j))) := tm_up_same
    generalize tm_up h 78 (aI 5 (upd hm (0 * 5 + j) (A 8 (0 * 5 + j)))) = h1 at s2 U u2
    have H1 : TA h1 (upd hm (0 * 5 + j) (A 8 (0 * 5 + j))) km cl th := ⟨u2, by rw [U 79 (by decide)]; exact a3, by rw [U 80 (by decide)]; exact a4, by rw [U 76 (by decide)]; exact a6⟩
    have F1 : FrU h h1 := fun k x y => U k (by omega)
    have W1 := MW_u F1 W
    have st : tE mX11_cools 76 [.ref 70, .ref 78, .ref 79, .ref 80, .int (nI 1), .int water, .int 0, .int (nI 0), .int (nI j), x9, x10] [] h = tE mX11_cools 136 [.ref 70, .ref 78, .ref 79, .ref 80, .int (nI 1), .int water, .int 0, .int (nI 0), .int (nI j), .int (nI (0 * 5 + j)), .int (kndS cnt tab A (0 * 5 + j))] [] h1 := by
      rw [bX11_cools_76]
      unfold kndS
      by_cases k0 : A 2 (0 * 5 + j) = 0
      · rw [if_pos k0]
        simp only [bX11_cools_82, bX11_cools_85, bX11_cools_88, bX11_cools_101, bX11_cools_104, bX11_cools_109, bX11_cools_113, bX11_cools_116, bX11_cools_119, bX11_cools_123, bX11_cools_132, bX11_cools_135, tk1_some, tk0_some, tkc_some, tkc_none, ↓reduceIte, mw_3 W, mw_20 W, mw_i W, mb_o M, gf_10_1, ew, e1, if_false, i5j', q3, k0, not_true, q2, q6, P, s2]
      · rw [if_neg k0]
        simp only [bX11_cools_82, bX11_cools_85, bX11_cools_88, bX11_cools_101, bX11_cools_122, bX11_cools_123, bX11_cools_132, bX11_cools_135, tk1_some, tk0_some, tkc_some, tkc_none, ↓reduceIte, mw_3 W, mw_20 W, mb_o M, gf_10_1, ew, e1, if_false, i5j', q3, k0, not_false_eq_true, if_true, q6, s2]
    rw [st]
    unfold rowT
    by_cases kz : kndS cnt tab A (0 * 5 + j) = 0
    · rw [show stepT cnt tab wp te (0 * 5 + j) (A, tn) = (A, tn) from by unfold stepT; exact if_pos kz]
      obtain ⟨h2, hm2, km2, y9, y10, e, x1, x2, x4⟩ := ih (j + 1) h1 A tn _ km (.int (nI (0 * 5 + j))) (.int (kndS cnt tab A (0 * 5 + j))) H1 W1 K (fun j' h2 => by
        refine ⟨(R j' h2).1, ?_⟩
        unfold upd
        by_cases e : j' = j
        · subst e; rw [if_pos rfl, if_pos (by omega)]
        · rw [if_neg (by omega), (R j' h2).2]
          by_cases e2 : j' < j
          · rw [if_pos e2, if_pos (by omega)]
          · rw [if_neg e2, if_neg (by omega)]) T (by omega)
      refine ⟨h2, hm2, km2, y9, y10, ?_, x1, x2, FrU_tr F1 x4⟩
      rw [← e]
      rw [bX11_cools_136]
      simp only [bX11_cools_141, bX11_cools_194, kz, not_true, if_false, nI_k1]
    · obtain ⟨k0, kd, hkd, ekd⟩ := knd_kd F kz
      have tn40 := KN_lt K k0 (show 0 * 5 + j < 40 by omega)
      rw [show stepT cnt tab wp te (0 * 5 + j) (A, tn) = (turnA (tab 2) wp te A tn (0 * 5 + j) kd, tn + 1) from by unfold stepT; rw [if_neg kz, if_pos tn40, show kndS cnt tab (A, tn).1 (0 * 5 + j) = nI kd from ekd, iN_nI (by omega)]]
      have kdz : ¬ nI kd = 0 := by rw [← ekd]; exact kz
      have K1 := KN_turn (tenth := te) (wp := wp) (t2 := tab 2) K k0 (show 0 * 5 + j < 40 by omega) hkd kdz
      obtain ⟨b2, b3, b4, b6⟩ := H1
      have s3 : tm_si 0 h1 79 (nI (0 * 5 + j)) (nI kd) = some (tm_up h1 79 (aI 5 (upd km (0 * 5 + j) (nI kd)))) := by rw [tm_si_eq, b3, tm_sa_in rfl hx t0, Option.map_some]
      have H4 : TA (tm_up h1 79 (aI 5 (upd km (0 * 5 + j) (nI kd)))) (upd hm (0 * 5 + j) (A 8 (0 * 5 + j))) (upd km (0 * 5 + j) (nI kd)) cl th := ⟨by rw [tm_up_ne (by decide)]; exact b2, tm_up_same, by rw [tm_up_ne (by decide)]; exact b4, by rw [tm_up_ne (by decide)]; exact b6⟩
      have F4 : FrU h1 (tm_up h1 79 (aI 5 (upd km (0 * 5 + j) (nI kd)))) := fun k x y => tm_up_ne (by omega)
      generalize tm_up h1 79 (aI 5 (upd km (0 * 5 + j) (nI kd))) = h4 at s3 H4 F4
      have W4 := MW_u F4 W1
      obtain ⟨h5, hm5, km5, y9, y10, e, x1, x2, x4⟩ := ih (j + 1) h4 (turnA (tab 2) wp te A tn (0 * 5 + j) kd) (tn + 1) _ _ (.int (nI (0 * 5 + j))) (.int (nI kd)) H4 W4 K1 (fun j' h2 => by
        show upd km (0 * 5 + j) (nI kd) (0 * 5 + j') = upd (A 2) (0 * 5 + j) (nI kd) (0 * 5 + j') ∧ upd hm (0 * 5 + j) (A 8 (0 * 5 + j)) (0 * 5 + j') = if j' < j + 1 then A 8 (0 * 5 + j') else A 9 (0 * 5 + j')
        unfold upd
        by_cases e : j' = j
        · subst e; rw [if_pos rfl, if_pos rfl, if_pos rfl, if_pos (by omega)]; exact ⟨rfl, rfl⟩
        · rw [if_neg (by omega), if_neg (by omega), if_neg (by omega), (R j' h2).2]
          refine ⟨(R j' h2).1, ?_⟩
          by_cases e2 : j' < j
          · rw [if_pos e2, if_pos (by omega)]
          · rw [if_neg e2, if_neg (by omega)]) T (by omega)
      refine ⟨h5, hm5, km5, y9, y10, ?_, x1, x2, FrU_tr F1 (FrU_tr F4 x4)⟩
      rw [← e, ekd, bX11_cools_136]
      simp only [bX11_cools_144, bX11_cools_150, bX11_cools_155, bX11_cools_194, tk1_some, tk0_some, tkc_some, tkc_none, ↓reduceIte, kdz, not_false_eq_true, not_true, if_true, if_false, s3, nI_k1]
theorem mcools_tri {h : tm_H} (F : BkF lo hi' cnt tab) (ew : tab 0 1 = nI w) (hw : w ≤ 5) (hb : 83 < b) {sq crk : Int32} {te : Nat} {A : Nat → Nat → Int32} {tn : Nat} {hm km th : Nat → Int32} (H : TA h hm km cl th) (W : MW h b cnt tab n G nm) (K : KN (cnt 2) A tn) (e8 : EqI 1 w hm (A 8)) (e2 : EqI 1 w km (A 2)) (e1 : ∀ i j, i < 1 → j < w → A 1 (i * 5 + j) = opS (tab 1 2) (cl (i * 5 + j))) : ∃ h' hm' km' th', tC mX11_cools [.ref 70, .ref 78, .ref 79, .ref 80, .int 1, .int water, .int 0] h = some (h', none) ∧ TA h' hm' km' cl th' ∧ EqI 1 w hm' ((onceS cnt tab 1 w sq water te A tn crk).1 8) ∧ EqI 1 w km' ((onceS cnt tab 1 w sq water te A tn crk).1 2) ∧ FrU h h' := by
  obtain ⟨a2, a3, a4, a6⟩ := H
  obtain ⟨h1, tf, y8, P1, u1, F1, D1⟩ := mp1_out (cuts := 1) (a2 := 79) (water := water) (N := 5) (by decide) (by decide) (fun i j hi hj => (by omega : i * 5 + j < 5)) ew hw (by decide) (by decide) hb (x6 := .int 0) (x9 := tm_U) (x10 := tm_U) 1 0 h th tm_U W a2 a4 a6 (by omega) (fun i' j' x y e => absurd e (by omega))
  have H1 : TA h1 hm km cl tf := ⟨by rw [F1 78 (by decide)]; exact a2, by rw [F1 79 (by decide)]; exact a3, by rw [F1 80 (by decide)]; exact a4, u1⟩
  have FU1 : FrU h h1 := fun k x y => F1 k x
  have gg : ∀ j, j < w → rowF (coolG (tab 1 1) (tab 1 3) water (A 8) (A 1) 1 w 0) (A 9) 0 w (0 * 5 + j) = coolG (tab 1 1) (tab 1 3) water hm (fun k => opS (tab 1 2) (cl k)) 1 w 0 (0 * 5 + j) := fun j hj => by
    rw [rowF_in hw hj, if_pos rfl]; exact coolG_c (oa := A 1) (ob := fun k => opS (tab 1 2) (cl k)) (fun i j x y => (e8 i j x y).symm) e1 (by decide) hj
  obtain ⟨h2, hm2, km2, y9, y10, P2, H2, R2, F2⟩ := mt2_in F ew hw (cl := cl) (water := water) (wp := nI w * sq) (te := te + 1) (th := tf) w 0 h1 (upA (swA A) 8 (rowF (coolG (tab 1 1) (tab 1 3) water (A 8) (A 1) 1 w 0) (A 9) 0 w)) tn hm km tm_U tm_U H1 (MW_u FU1 W) K (fun j' hj' => ⟨e2 0 j' (by decide) hj', by rw [if_neg (by omega)]; exact e8 0 j' (by decide) hj'⟩) (fun j' hj' => by rw [upA_same, gg j' hj']; exact D1 0 j' (by decide) hj') (by omega)
  have k8 := rowT_ke (cnt := cnt) (tab := tab) (m := 8) (by decide) (by decide) (by decide) (by decide) (by decide) (wp := nI w * sq) (tenth := te + 1) (i := 0) w 0 (upA (swA A) 8 (rowF (coolG (tab 1 1) (tab 1 3) water (A 8) (A 1) 1 w 0) (A 9) 0 w), tn)
  have o8 : (onceS cnt tab 1 w sq water te A tn crk).1 8 = (rowT cnt tab (nI w * sq) (te + 1) 0 w 0 (upA (swA A) 8 (rowF (coolG (tab 1 1) (tab 1 3) water (A 8) (A 1) 1 w 0) (A 9) 0 w), tn)).1 8 := rfl
  have o2 : (onceS cnt tab 1 w sq water te A tn crk).1 2 = (rowT cnt tab (nI w * sq) (te + 1) 0 w 0 (upA (swA A) 8 (rowF (coolG (tab 1 1) (tab 1 3) water (A 8) (A 1) 1 w 0) (A 9) 0 w), tn)).1 2 := rfl
  rw [show nI 1 = 1 from rfl, nI_0] at P1 P2
  refine ⟨h2, hm2, km2, tf, ?_, H2, fun i j x y => ?_, fun i j x y => ?_, FrU_tr FU1 F2⟩
  · rw [cX11_cools_, bX11_cools_0, P1, bX11_cools_66, if_neg (by decide), bX11_cools_73, P2, bX11_cools_200, bX11_cools_66, if_pos (by decide), bX11_cools_206]
  · obtain rfl : i = 0 := by omega
    rw [o8, k8]; exact (R2 j y).2
  · obtain rfl : i = 0 := by omega
    rw [o2]; exact (R2 j y).1
theorem mtr_loop (F : BkF lo hi' cnt tab) (ew : tab 0 1 = nI w) (hw : w ≤ 5) (hb : 83 < b) {x1 : Value} : ∀ r k h A tn hm km th, TA h hm km cl th → MW h b cnt tab n G nm → h 70 = h 70 → tm_gf (h 70) 11 28 = some (.ref 78) → tm_gf (h 70) 11 29 = some (.ref 79) → tm_gf (h 70) 11 30 = some (.ref 80) → KN (cnt 2) A tn → RmA tab (nI w * sqS w w) A → EqI 1 w hm (A 8) → EqI 1 w km (A 2) → (∀ i j, i < 1 → j < w → A 1 (i * 5 + j) = opS (tab 1 2) (cl (i * 5 + j))) → k + r = 60 → ∃ h' hm' km' th', tE mX11_tries 35 [.ref 70, x1, .int water, .int (nI k)] [] h = some (h', some (.int (bI (decide ((trC cnt tab 1 w (sqS w w) water r k (A, tn, -1)).2.2 ≠ -1))))) ∧ TA h' hm' km' cl th' ∧ EqI 1 w km' ((trC cnt tab 1 w (sqS w w) water r k (A, tn, -1)).1 2) ∧ FrU h h' := by
  intro r
  induction r with
  | zero =>
    intro k h A tn hm km th H W _ g8 g9 g0 K R e8 e2 e1 hk
    obtain rfl : k = 60 := by omega
    refine ⟨h, hm, km, th, ?_, H, e2, FrU_rf h⟩
    rw [bX11_tries_35, if_pos (by decide), bX11_tries_85, tm_rb0]; rfl
  | succ r ih =>
    intro k h A tn hm km th H W _ g8 g9 g0 K R e8 e2 e1 hk
    have c5 : cnt 2 ≤ 5 := mb_c (mw_b W) (by decide)
    have l : ¬ (60 : Int32) ≤ nI k := fun y => (nI_ge (show k < 60 by omega) (show 60 < 2 ^ 31 by decide)) y
    obtain ⟨h1, hm1, km1, th1, P1, H1, E8, E2, F1⟩ := mcools_tri F ew hw hb (sq := sqS w w) (crk := -1) (te := k) (water := water) H W K e8 e2 e1
    have K1 := KN_once F c5 hw (by decide : 1 ≤ 8) (sq := sqS w w) (water := water) (tenth := k) (crk := -1) K
    have W1 := MW_u F1 W
    have o : h1 70 = h 70 := F1 70 (by decide) (by decide)
    have Q1 : ∀ i j, i < 1 → j < w → ∃ kd, kd < cnt 2 ∧ km1 (i * 5 + j) = nI kd := fun i j hi hj => by
      obtain ⟨kd, x, y⟩ := K1.1 (i * 5 + j) (by omega)
      exact ⟨kd, x, (E2 i j hi hj).trans y⟩
    have C := mcrk W1 H1.1 H1.2.1 (by decide) (by decide) (cuts := 1) (by decide) (fun i j hi hj => (by omega : i * 5 + j < 5)) Q1 ew hw
    rw [crk_eqM F c5 hw (by decide : 1 ≤ 8) R E8 E2, show nI 1 = 1 from rfl] at C
    have et : trC cnt tab 1 w (sqS w w) water (r + 1) k (A, tn, -1) = trC cnt tab 1 w (sqS w w) water r (k + 1) ((onceS cnt tab 1 w (sqS w w) water k A tn (-1)).1, (onceS cnt tab 1 w (sqS w w) water k A tn (-1)).2.1, (onceS cnt tab 1 w (sqS w w) water k A tn (-1)).2.2.1) := by
      rw [trC]; exact if_pos rfl
    rw [et]
    have R1 := RmA_once F c5 (cuts := 1) (w := w) (sq := sqS w w) (water := water) (tn := tn) (tenth := k) (crk := -1) R
    have A1 := onceS_1 (cnt := cnt) (tab := tab) (cuts := 1) (w := w) (sq := sqS w w) (water := water) (A := A) (tenth := k) (tn := tn) (crk := -1)
    generalize onceS cnt tab 1 w (sqS w w) water k A tn (-1) = s at E8 E2 K1 C R1 A1
    have st : tE mX11_tries 35 [.ref 70, x1, .int water, .int (nI k)] [] h = tE mX11_tries 73 [.ref 70, x1, .int water, .int (nI k)] [.int s.2.2.1] h1 := by
      rw [bX11_tries_35, if_neg l]
      simp only [bX11_tries_41, bX11_tries_46, bX11_tries_50, bX11_tries_54, bX11_tries_60, bX11_tries_65, bX11_tries_69, tk1_some, tk0_some, tkc_some, tkc_none, ↓reduceIte, g8, g9, g0, mw_i W, P1, o, C]
    rw [st, bX11_tries_73]
    by_cases z : s.2.2.1 = -1
    · rw [if_pos z, z]
      obtain ⟨h2, hm2, km2, th2, P2, H2, E2', F2⟩ := ih (k + 1) h1 s.1 s.2.1 hm1 km1 th1 H1 W1 rfl (by rw [o]; exact g8) (by rw [o]; exact g9) (by rw [o]; exact g0) K1 R1 E8 E2 (fun i j hi hj => by rw [A1]; exact e1 i j hi hj) (by omega)
      refine ⟨h2, hm2, km2, th2, ?_, H2, E2', FrU_tr F1 F2⟩
      rw [bX11_tries_79, nI_k1, P2]
    · rw [if_neg z]
      have ec : trC cnt tab 1 w (sqS w w) water r (k + 1) (s.1, s.2.1, s.2.2.1) = (s.1, s.2.1, s.2.2.1) := by
        cases r with
        | zero => rfl
        | succ r => rw [trC]; exact if_neg z
      rw [ec]
      refine ⟨h1, hm1, km1, th1, ?_, H1, E2, F1⟩
      rw [bX11_tries_77, tm_rb1, show decide ((s.1, s.2.1, s.2.2.1).2.2 ≠ -1) = true from decide_eq_true z]; rfl
theorem mtr_init (ew : tab 0 1 = nI w) (hw : w ≤ 5) {heat : Int32} {x2 : Value} : ∀ r j h hm km th, TA h hm km cl th → MW h b cnt tab n G nm → tm_gf (h 70) 11 28 = some (.ref 78) → tm_gf (h 70) 11 29 = some (.ref 79) → (∀ j', j' < j → hm j' = heat ∧ km j' = 0) → j + r = w → ∃ h' hm' km', tE mX11_tries 2 [.ref 70, .int heat, x2, .int (nI j)] [] h = tE mX11_tries 35 [.ref 70, .int heat, x2, .int 0] [] h' ∧ TA h' hm' km' cl th ∧ (∀ j', j' < w → hm' j' = heat ∧ km' j' = 0) ∧ FrU h h' := by
  have t0 : 5 < 2 ^ 31 := by decide
  intro r
  induction r with
  | zero =>
    intro j h hm km th H W g8 g9 D hj
    obtain rfl : j = w := by omega
    have M := mw_b W
    refine ⟨h, hm, km, ?_, H, D, FrU_rf h⟩
    rw [bX11_tries_2]
    simp only [bX11_tries_7, bX11_tries_10, bX11_tries_33, tk1_some, tk0_some, tkc_some, tkc_none, ↓reduceIte, mw_3 W, mb_o M, gf_10_1, ew, Int32.le_refl, if_true]
  | succ r ih =>
    intro j h hm km th H W g8 g9 D hj
    have e1 : ¬ nI w ≤ nI j := nI_ge (by omega) (by omega)
    have M := mw_b W
    obtain ⟨a2, a3, a4, a6⟩ := H
    have s2 : tm_si 0 h 78 (nI j) heat = some (tm_up h 78 (aI 5 (upd hm j heat))) := by rw [tm_si_eq, a2, tm_sa_in rfl (show j < 5 by omega) t0, Option.map_some]
    have s3 : tm_si 0 (tm_up h 78 (aI 5 (upd hm j heat))) 79 (nI j) 0 = some (tm_up (tm_up h 78 (aI 5 (upd hm j heat))) 79 (aI 5 (upd km j 0))) := by rw [tm_si_eq, tm_up_ne (by decide), a3, tm_sa_in rfl (show j < 5 by omega) t0, Option.map_some]
    have g9' : tm_gf (tm_up h 78 (aI 5 (upd hm j heat)) 70) 11 29 = some (.ref 79) := by rw [tm_up_ne (by decide)]; exact g9
    have F1 : FrU h (tm_up (tm_up h 78 (aI 5 (upd hm j heat))) 79 (aI 5 (upd km j 0))) := fun k x y => by rw [tm_up_ne (by omega), tm_up_ne (by omega)]
    have H1 : TA (tm_up (tm_up h 78 (aI 5 (upd hm j heat))) 79 (aI 5 (upd km j 0))) (upd hm j heat) (upd km j 0) cl th := ⟨by rw [tm_up_ne (by decide), tm_up_same], tm_up_same, by rw [tm_up_ne (by decide), tm_up_ne (by decide)]; exact a4, by rw [tm_up_ne (by decide), tm_up_ne (by decide)]; exact a6⟩
    have o : tm_up (tm_up h 78 (aI 5 (upd hm j heat))) 79 (aI 5 (upd km j 0)) 70 = h 70 := F1 70 (by decide) (by decide)
    obtain ⟨h2, hm2, km2, P2, H2, D2, F2⟩ := ih (j + 1) _ (upd hm j heat) (upd km j 0) th H1 (MW_u F1 W) (by rw [o]; exact g8) (by rw [o]; exact g9) (fun j' hj' => by
      unfold upd
      by_cases e : j' = j
      · rw [if_pos e, if_pos e]; exact ⟨rfl, rfl⟩
      · rw [if_neg e, if_neg e]; exact D j' (by omega)) (by omega)
    refine ⟨h2, hm2, km2, ?_, H2, D2, FrU_tr F1 F2⟩
    rw [← P2, bX11_tries_2]
    simp only [bX11_tries_7, bX11_tries_10, bX11_tries_13, bX11_tries_17, bX11_tries_20, bX11_tries_24, bX11_tries_27, tk1_some, tk0_some, tkc_some, tkc_none, ↓reduceIte, mw_3 W, mb_o M, gf_10_1, ew, e1, if_false, g8, s2, g9', s3, nI_k1]
/-- one trial -/
theorem mtries {h : tm_H} (F : BkF lo hi' cnt tab) (ew : tab 0 1 = nI w) (hw : w ≤ 5) (hb : 83 < b) {heat : Int32} {hm km th : Nat → Int32} (H : TA h hm km cl th) (W : MW h b cnt tab n G nm) (g8 : tm_gf (h 70) 11 28 = some (.ref 78)) (g9 : tm_gf (h 70) 11 29 = some (.ref 79)) (g0 : tm_gf (h 70) 11 30 = some (.ref 80)) {opn : Nat → Int32} (eo : ∀ j, j < w → opn j = opS (tab 1 2) (cl j)) : ∃ h' hm' km' th', tC mX11_tries [.ref 70, .int heat, .int water] h = some (h', some (.int (bI (crkW cnt tab w (sqS w w) opn heat water)))) ∧ TA h' hm' km' cl th' ∧ EqI 1 w km' ((trK cnt tab w (sqS w w) opn heat water).1 2) ∧ FrU h h' := by
  obtain ⟨h1, hm1, km1, P1, H1, D1, F1⟩ := mtr_init ew hw (heat := heat) (x2 := .int water) w 0 h hm km th H W g8 g9 (fun j' hj' => absurd hj' (by omega)) (by omega)
  have o : h1 70 = h 70 := F1 70 (by decide) (by decide)
  obtain ⟨h2, hm2, km2, th2, P2, H2, E2, F2⟩ := mtr_loop F ew hw hb (x1 := .int heat) (water := water) 60 0 h1 (heatS tab 1 w (sqS w w) heat (fun _ => opn)) 0 hm1 km1 th H1 (MW_u F1 W) rfl (by rw [o]; exact g8) (by rw [o]; exact g9) (by rw [o]; exact g0) (KN_heat F) RmA_heat (fun i j hi hj => by
      obtain rfl : i = 0 := by omega
      rw [show 0 * 5 + j = j by omega, (D1 j hj).1]
      unfold heatS
      rw [sizL_ne (by decide)]
      show heat = fillF opn heat 40 j
      unfold fillF; rw [if_pos (by omega)]) (fun i j hi hj => by
      obtain rfl : i = 0 := by omega
      rw [show 0 * 5 + j = j by omega, (D1 j hj).2, heatS_2]
      unfold fillF; rw [if_pos (by omega)]) (fun i j hi hj => by
      obtain rfl : i = 0 := by omega
      rw [show 0 * 5 + j = j by omega]
      unfold heatS
      rw [sizL_ne (by decide)]
      exact eo j hj) (by omega)
  rw [nI_0] at P1 P2
  refine ⟨h2, hm2, km2, th2, ?_, H2, E2, FrU_tr F1 F2⟩
  rw [cX11_tries_, bX11_tries_0, P1, P2]; rfl
end MT
