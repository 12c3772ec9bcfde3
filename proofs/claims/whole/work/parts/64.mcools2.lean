/-! THE REFERENCE: a tenth of the bar, whole; a tenth of a trial -/
section M3
variable {b n : Nat} {cnt : Nat → Nat} {tab G : Nat → Nat → Int32} {nm : Nat → Int64} {w cuts : Nat} {Z : MZ} {cl th : Nat → Int32} {water lo hi' : Int32} {te : Nat}
/-- what the bar's rows are like, the first i of them gone through -/
def mQi (cuts w i : Nat) (s : CSt) (hm km tu om : Nat → Int32) : Prop :=
  (∀ i' j', i' < cuts → j' < w → km (i' * 5 + j') = s.1 2 (i' * 5 + j') ∧ tu (i' * 5 + j') = s.1 6 (i' * 5 + j') ∧ hm (i' * 5 + j') = if i' < i then s.1 8 (i' * 5 + j') else s.1 9 (i' * 5 + j')) ∧ (∀ k, k < s.2.1 → om k = ledS (s.1 7 k))
theorem mp2_out (F : BkF lo hi' cnt tab) (z : Z.2.1.1 = .ref b) (hb : 83 < b) (hcc : cuts ≤ 8) (ew : tab 0 1 = nI w) (hw : w ≤ 5) (ht : te ≠ 0) (ht2 : te < 2 ^ 31) {sq : Int32} {ho op : Nat → Int32} (T : ∀ i j, i < cuts → j < w → th (i * 5 + j) = coolG (tab 1 1) (tab 1 3) water ho op cuts w i (i * 5 + j)) : ∀ r i h (s : CSt) hm km tu om x8 x9 x10, MA h Z s.2.1 hm km cl tu th om → MBk h b cnt tab n G nm → KN (cnt 2) s.1 s.2.1 → mQi cuts w i s hm km tu om → EqI cuts w (s.1 9) ho → EqI cuts w (s.1 1) op → i + r = cuts → ∃ h' hm' km' tu' om', tE mX11_cools 66 [.ref 70, .ref 72, .ref 73, .ref 74, .int (nI cuts), .int water, .int (nI te), .int (nI i), x8, x9, x10] [] h = some (h', none) ∧ MA h' Z (cutsT cnt tab cuts w sq water te r i s).2.1 hm' km' cl tu' th om' ∧ mQi cuts w cuts (cutsT cnt tab cuts w sq water te r i s) hm' km' tu' om' ∧ FrC h h' := by
  intro r
  induction r with
  | zero =>
    intro i h s hm km tu om x8 x9 x10 H M K Q E9 E1 hi
    obtain rfl : i = cuts := by omega
    refine ⟨h, hm, km, tu, om, ?_, H, Q, FrC_rf h⟩
    rw [bX11_cools_66, if_pos (Int32.le_refl _), bX11_cools_206]
  | succ r ih =>
    intro i h s hm km tu om x8 x9 x10 H M K Q E9 E1 hi
    have hi2 : i < cuts := by omega
    have e1 : ¬ nI cuts ≤ nI i := nI_ge hi2 (by omega)
    have c5 : cnt 2 ≤ 5 := mb_c M (by decide)
    have gg : ∀ j, j < w → rowF (coolG (tab 1 1) (tab 1 3) water (s.1 9) (s.1 1) cuts w i) (s.1 8) i w (i * 5 + j) = coolG (tab 1 1) (tab 1 3) water ho op cuts w i (i * 5 + j) := fun j hj => by
      rw [rowF_in hw hj, if_pos rfl]; exact coolG_c E9 E1 hi2 hj
    have R0 : RIJ cuts w i 0 (upA s.1 8 (rowF (coolG (tab 1 1) (tab 1 3) water (s.1 9) (s.1 1) cuts w i) (s.1 8) i w)) hm km tu := by
      intro i' j' h1 h2
      obtain ⟨a, c, d⟩ := Q.1 i' j' h1 h2
      refine ⟨a, c, ?_⟩
      rw [d, upA_same, upA_ne _ _ (by decide)]
      by_cases e : i' < i
      · rw [if_pos e, if_pos (Or.inl e), rowF_in hw h2, if_neg (by omega)]
      · rw [if_neg e, if_neg (by omega)]
    obtain ⟨h2, hm2, km2, tu2, om2, y9, y10, P2, H2, R2, O2, F2⟩ := mp2_in F z hb hcc ew hw ht ht2 hi2 (cl := cl) (th := th) (water := water) (wp := nI w * sq) w 0 h (upA s.1 8 (rowF (coolG (tab 1 1) (tab 1 3) water (s.1 9) (s.1 1) cuts w i) (s.1 8) i w)) s.2.1 hm km tu om x9 x10 H M K R0 Q.2 (fun j' hj' => by rw [upA_same, gg j' hj']; exact T i j' hi2 hj') (by omega)
    have M2 : MBk h2 b cnt tab n G nm := MBk_c (fun k x y => F2 k (by omega) (by omega)) M
    have K2 := KN_row F c5 (wp := nI w * sq) (tenth := te) hw (show i < 8 by omega) w 0 (upA s.1 8 (rowF (coolG (tab 1 1) (tab 1 3) water (s.1 9) (s.1 1) cuts w i) (s.1 8) i w)) s.2.1 (by omega) K
    have k8 := rowT_ke (cnt := cnt) (tab := tab) (m := 8) (by decide) (by decide) (by decide) (by decide) (by decide) (wp := nI w * sq) (tenth := te) (i := i) w 0 (upA s.1 8 (rowF (coolG (tab 1 1) (tab 1 3) water (s.1 9) (s.1 1) cuts w i) (s.1 8) i w), s.2.1)
    have k9 := rowT_ke (cnt := cnt) (tab := tab) (m := 9) (by decide) (by decide) (by decide) (by decide) (by decide) (wp := nI w * sq) (tenth := te) (i := i) w 0 (upA s.1 8 (rowF (coolG (tab 1 1) (tab 1 3) water (s.1 9) (s.1 1) cuts w i) (s.1 8) i w), s.2.1)
    have k1 := rowT_ke (cnt := cnt) (tab := tab) (m := 1) (by decide) (by decide) (by decide) (by decide) (by decide) (wp := nI w * sq) (tenth := te) (i := i) w 0 (upA s.1 8 (rowF (coolG (tab 1 1) (tab 1 3) water (s.1 9) (s.1 1) cuts w i) (s.1 8) i w), s.2.1)
    have ec1 : (cutT cnt tab cuts w sq water te i s).1 = upA (rowT cnt tab (nI w * sq) te i w 0 (upA s.1 8 (rowF (coolG (tab 1 1) (tab 1 3) water (s.1 9) (s.1 1) cuts w i) (s.1 8) i w), s.2.1)).1 5 _ := rfl
    have ec2 : (cutT cnt tab cuts w sq water te i s).2.1 = (rowT cnt tab (nI w * sq) te i w 0 (upA s.1 8 (rowF (coolG (tab 1 1) (tab 1 3) water (s.1 9) (s.1 1) cuts w i) (s.1 8) i w), s.2.1)).2 := rfl
    rw [nI_0] at P2
    unfold cutsT
    generalize cutT cnt tab cuts w sq water te i s = s' at ec1 ec2
    generalize rowT cnt tab (nI w * sq) te i w 0 (upA s.1 8 (rowF (coolG (tab 1 1) (tab 1 3) water (s.1 9) (s.1 1) cuts w i) (s.1 8) i w), s.2.1) = t at H2 R2 O2 K2 k8 k9 k1 ec1 ec2
    have n2 : s'.1 2 = t.1 2 := by rw [ec1, upA_ne _ _ (by decide)]
    have n6 : s'.1 6 = t.1 6 := by rw [ec1, upA_ne _ _ (by decide)]
    have n7 : s'.1 7 = t.1 7 := by rw [ec1, upA_ne _ _ (by decide)]
    have n8 : s'.1 8 = t.1 8 := by rw [ec1, upA_ne _ _ (by decide)]
    have n9 : s'.1 9 = s.1 9 := by rw [ec1, upA_ne _ _ (by decide), k9]; rfl
    have n1 : s'.1 1 = s.1 1 := by rw [ec1, upA_ne _ _ (by decide), k1]; rfl
    have t9 : t.1 9 = s.1 9 := by rw [k9]; rfl
    have Q2 : mQi cuts w (i + 1) s' hm2 km2 tu2 om2 := by
      refine ⟨fun i' j' h1 h2 => ?_, fun k hk => by rw [n7]; exact O2 k (by rw [← ec2]; exact hk)⟩
      obtain ⟨a, c, d⟩ := R2 i' j' h1 h2
      rw [n2, n6, n8, n9]
      refine ⟨a, c, ?_⟩
      rw [d, t9]
      by_cases e : i' < i + 1
      · rw [if_pos e, if_pos (by omega)]
      · rw [if_neg e, if_neg (by omega)]
    have K3 : KN (cnt 2) s'.1 s'.2.1 := by
      refine ⟨fun k hk => by rw [n2]; exact K2.1 k hk, by rw [ec2, n2]; exact K2.2⟩
    obtain ⟨h3, hm3, km3, tu3, om3, P3, H3, Q3, F3⟩ := ih (i + 1) h2 s' hm2 km2 tu2 om2 (.int (nI w)) y9 y10 (by rw [ec2]; exact H2) M2 K3 Q2 (by rw [n9]; exact E9) (by rw [n1]; exact E1) (by omega)
    refine ⟨h3, hm3, km3, tu3, om3, ?_, H3, Q3, FrC_tr F2 F3⟩
    rw [bX11_cools_66, if_neg e1, bX11_cools_73, P2, bX11_cools_200, nI_k1, P3]
/-- the heats behind the tenth are told first -/
theorem mp1_in {a1 a2 a3 N : Nat} {hf cf : Nat → Int32} (hN : N < 2 ^ 31) (hcc : cuts ≤ 8) (hc : ∀ i j, i < cuts → j < w → i * 5 + j < N) (ew : tab 0 1 = nI w) (hw : w ≤ 5) (n1 : a1 ≠ 76) (n3 : a3 ≠ 76) (hb : 83 < b) {i : Nat} (hi : i < cuts) {x6 x9 x10 : Value} : ∀ r j h tf, MW h b cnt tab n G nm → h a1 = aI N hf → h a3 = aI N cf → h 76 = aI 40 tf → j + r = w → (∀ i' j', i' < cuts → j' < w → (i' < i ∨ (i' = i ∧ j' < j)) → tf (i' * 5 + j') = coolG (tab 1 1) (tab 1 3) water hf (fun k => opS (tab 1 2) (cf k)) cuts w i' (i' * 5 + j')) → ∃ h' tf', tE mX11_cools 13 [.ref 70, .ref a1, .ref a2, .ref a3, .int (nI cuts), .int water, x6, .int (nI i), .int (nI j), x9, x10] [] h = tE mX11_cools 57 [.ref 70, .ref a1, .ref a2, .ref a3, .int (nI cuts), .int water, x6, .int (nI i), .int (nI w), x9, x10] [] h' ∧ h' 76 = aI 40 tf' ∧ (∀ k, k ≠ 76 → h' k = h k) ∧ (∀ i' j', i' < cuts → j' < w → i' < i + 1 → tf' (i' * 5 + j') = coolG (tab 1 1) (tab 1 3) water hf (fun k => opS (tab 1 2) (cf k)) cuts w i' (i' * 5 + j')) := by
  intro r
  induction r with
  | zero =>
    intro j h tf W h1 h3 h6 hj D
    obtain rfl : j = w := by omega
    have M := mw_b W
    refine ⟨h, tf, ?_, h6, fun _ _ => rfl, fun i' j' x y e => D i' j' x y (by omega)⟩
    rw [bX11_cools_13]
    simp only [bX11_cools_19, bX11_cools_22, tk1_some, tk0_some, tkc_some, tkc_none, ↓reduceIte, mw_3 W, mb_o M, gf_10_1, ew, Int32.le_refl, if_true]
  | succ r ih =>
    intro j h tf W h1 h3 h6 hj D
    have hjw : j < w := by omega
    have e1 : ¬ nI w ≤ nI j := nI_ge hjw (by omega)
    have M := mw_b W
    have P := mcooled W h1 h3 hN hcc hc ew hw hi hjw (water := water)
    have hx : i * 5 + j < 40 := by omega
    have st : tm_si 0 h 76 (nI (i * 5 + j)) (coolG (tab 1 1) (tab 1 3) water hf (fun k => opS (tab 1 2) (cf k)) cuts w i (i * 5 + j)) = some (tm_up h 76 (aI 40 (upd tf (i * 5 + j) (coolG (tab 1 1) (tab 1 3) water hf (fun k => opS (tab 1 2) (cf k)) cuts w i (i * 5 + j))))) := by rw [tm_si_eq, h6, tm_sa_in rfl hx (by decide), Option.map_some]
    have U : ∀ k, k ≠ 76 → tm_up h 76 (aI 40 (upd tf (i * 5 + j) (coolG (tab 1 1) (tab 1 3) water hf (fun k => opS (tab 1 2) (cf k)) cuts w i (i * 5 + j)))) k = h k := fun k hk => tm_up_ne hk
    have u6 : tm_up h 76 (aI 40 (upd tf (i * 5 + j) (coolG (tab 1 1) (tab 1 3) water hf (fun k => opS (tab 1 2) (cf k)) cuts w i (i * 5 + j)))) 76 = aI 40 (upd tf (i * 5 + j) (coolG (tab 1 1) (tab 1 3) water hf (fun k => opS (tab 1 2) (cf k)) cuts w i (i * 5 + j))) := tm_up_same
    generalize tm_up h 76 (aI 40 (upd tf (i * 5 + j) (coolG (tab 1 1) (tab 1 3) water hf (fun k => opS (tab 1 2) (cf k)) cuts w i (i * 5 + j)))) = k1 at st U u6
    have W1 : MW k1 b cnt tab n G nm := by
      obtain ⟨w1, w2, w3, w4, w5, w6, w7⟩ := W
      exact ⟨by rw [U 70 (by decide)]; exact w1, by rw [U 70 (by decide)]; exact w2, by rw [U 70 (by decide)]; exact w3, by rw [U 70 (by decide)]; exact w4, by rw [U 70 (by decide)]; exact w5, MBk_c (fun k x y => U k (by omega)) w6, w7⟩
    obtain ⟨h2, tf2, P2, u2, F2, D2⟩ := ih (j + 1) k1 _ W1 (by rw [U a1 n1]; exact h1) (by rw [U a3 n3]; exact h3) u6 (by omega) (fun i' j' x y e => by
      unfold upd
      by_cases q : i' = i ∧ j' = j
      · obtain ⟨rfl, rfl⟩ := q; rw [if_pos rfl]
      · rw [if_neg (by omega)]; exact D i' j' x y (by omega))
    refine ⟨h2, tf2, ?_, u2, fun k hk => (F2 k hk).trans (U k hk), D2⟩
    rw [← P2, bX11_cools_13]
    simp only [bX11_cools_19, bX11_cools_22, bX11_cools_25, bX11_cools_29, bX11_cools_50, bX11_cools_51, tk1_some, tk0_some, tkc_some, tkc_none, ↓reduceIte, mw_3 W, mw_20 W, mw_i W, mb_o M, gf_10_1, ew, e1, if_false, i5j', P, st, nI_k1]
theorem mp1_out {a1 a2 a3 N : Nat} {hf cf : Nat → Int32} (hN : N < 2 ^ 31) (hcc : cuts ≤ 8) (hc : ∀ i j, i < cuts → j < w → i * 5 + j < N) (ew : tab 0 1 = nI w) (hw : w ≤ 5) (n1 : a1 ≠ 76) (n3 : a3 ≠ 76) (hb : 83 < b) {x6 x9 x10 : Value} : ∀ r i h tf x8, MW h b cnt tab n G nm → h a1 = aI N hf → h a3 = aI N cf → h 76 = aI 40 tf → i + r = cuts → (∀ i' j', i' < cuts → j' < w → i' < i → tf (i' * 5 + j') = coolG (tab 1 1) (tab 1 3) water hf (fun k => opS (tab 1 2) (cf k)) cuts w i' (i' * 5 + j')) → ∃ h' tf' y8, tE mX11_cools 3 [.ref 70, .ref a1, .ref a2, .ref a3, .int (nI cuts), .int water, x6, .int (nI i), x8, x9, x10] [] h = tE mX11_cools 66 [.ref 70, .ref a1, .ref a2, .ref a3, .int (nI cuts), .int water, x6, .int 0, y8, x9, x10] [] h' ∧ h' 76 = aI 40 tf' ∧ (∀ k, k ≠ 76 → h' k = h k) ∧ (∀ i' j', i' < cuts → j' < w → tf' (i' * 5 + j') = coolG (tab 1 1) (tab 1 3) water hf (fun k => opS (tab 1 2) (cf k)) cuts w i' (i' * 5 + j')) := by
  intro r
  induction r with
  | zero =>
    intro i h tf x8 W h1 h3 h6 hi D
    obtain rfl : i = cuts := by omega
    refine ⟨h, tf, x8, ?_, h6, fun _ _ => rfl, fun i' j' x y => D i' j' x y x⟩
    rw [bX11_cools_3, if_pos (Int32.le_refl _), bX11_cools_63]
  | succ r ih =>
    intro i h tf x8 W h1 h3 h6 hi D
    have e1 : ¬ nI cuts ≤ nI i := nI_ge (by omega) (by omega)
    obtain ⟨h2, tf2, P2, u2, F2, D2⟩ := mp1_in (a2 := a2) (water := water) hN hcc hc ew hw n1 n3 hb (show i < cuts by omega) (x6 := x6) (x9 := x9) (x10 := x10) w 0 h tf W h1 h3 h6 (by omega) (fun i' j' x y e => D i' j' x y (by omega))
    have W2 : MW h2 b cnt tab n G nm := by
      obtain ⟨w1, w2, w3, w4, w5, w6, w7⟩ := W
      exact ⟨by rw [F2 70 (by decide)]; exact w1, by rw [F2 70 (by decide)]; exact w2, by rw [F2 70 (by decide)]; exact w3, by rw [F2 70 (by decide)]; exact w4, by rw [F2 70 (by decide)]; exact w5, MBk_c (fun k x y => F2 k (by omega)) w6, w7⟩
    obtain ⟨h4, tf4, y8, P4, u4, F4, D4⟩ := ih (i + 1) h2 tf2 (.int (nI w)) W2 (by rw [F2 a1 n1]; exact h1) (by rw [F2 a3 n3]; exact h3) u2 (by omega) D2
    refine ⟨h4, tf4, y8, ?_, u4, fun k hk => (F4 k hk).trans (F2 k hk), D4⟩
    rw [nI_0] at P2
    rw [bX11_cools_3, if_neg e1, bX11_cools_10, P2, bX11_cools_57, nI_k1, P4]
/-- a tenth of the bar -/
theorem mcools_bar {h : tm_H} (F : BkF lo hi' cnt tab) (z : Z.2.1.1 = .ref b) (hb : 83 < b) (hcc : cuts ≤ 8) (ew : tab 0 1 = nI w) (hw : w ≤ 5) (ht2 : te + 1 < 2 ^ 31) {sq crk : Int32} {A : Nat → Nat → Int32} {tn : Nat} {hm km tu om : Nat → Int32} (H : MA h Z tn hm km cl tu th om) (M : MBk h b cnt tab n G nm) (K : KN (cnt 2) A tn) (e8 : EqI cuts w hm (A 8)) (e2 : EqI cuts w km (A 2)) (e6 : EqI cuts w tu (A 6)) (e1 : ∀ i j, i < cuts → j < w → A 1 (i * 5 + j) = opS (tab 1 2) (cl (i * 5 + j))) (O : ∀ k, k < tn → om k = ledS (A 7 k)) : ∃ h' hm' km' tu' om' th', tC mX11_cools [.ref 70, .ref 72, .ref 73, .ref 74, .int (nI cuts), .int water, .int (nI (te + 1))] h = some (h', none) ∧ MA h' Z (onceS cnt tab cuts w sq water te A tn crk).2.1 hm' km' cl tu' th' om' ∧ EqI cuts w hm' ((onceS cnt tab cuts w sq water te A tn crk).1 8) ∧ EqI cuts w km' ((onceS cnt tab cuts w sq water te A tn crk).1 2) ∧ EqI cuts w tu' ((onceS cnt tab cuts w sq water te A tn crk).1 6) ∧ (∀ k, k < (onceS cnt tab cuts w sq water te A tn crk).2.1 → om' k = ledS ((onceS cnt tab cuts w sq water te A tn crk).1 7 k)) ∧ FrC h h' := by
  have W := MW_of H.1 z M hb
  obtain ⟨o0, a2, a3, a4, a5, a6, a7⟩ := H
  obtain ⟨h1, tf, y8, P1, u1, F1, D1⟩ := mp1_out (a2 := 73) (water := water) (by decide) hcc (fun i j hi hj => (by omega : i * 5 + j < 40)) ew hw (by decide) (by decide) hb (x6 := .int (nI (te + 1))) (x9 := tm_U) (x10 := tm_U) cuts 0 h th tm_U W a2 a4 a6 (by omega) (fun i' j' x y e => absurd e (by omega))
  have H1 : MA h1 Z tn hm km cl tu tf om := ⟨by rw [F1 70 (by decide)]; exact o0, by rw [F1 72 (by decide)]; exact a2, by rw [F1 73 (by decide)]; exact a3, by rw [F1 74 (by decide)]; exact a4, by rw [F1 75 (by decide)]; exact a5, u1, by rw [F1 77 (by decide)]; exact a7⟩
  obtain ⟨h2, hm2, km2, tu2, om2, P2, H2, Q2, F2⟩ := mp2_out F z hb hcc ew hw (show te + 1 ≠ 0 by omega) ht2 (water := water) (sq := sq) (ho := hm) (op := fun k => opS (tab 1 2) (cl k)) D1 cuts 0 h1 (swA A, tn, crk, false) hm km tu om y8 tm_U tm_U H1 (MBk_c (fun k x y => F1 k (by omega)) M) K ⟨fun i' j' x y => ⟨e2 i' j' x y, e6 i' j' x y, by rw [if_neg (by omega)]; exact e8 i' j' x y⟩, O⟩ (fun i j x y => (e8 i j x y).symm) e1 (by omega)
  rw [nI_0] at P1 P2
  refine ⟨h2, hm2, km2, tu2, om2, tf, by rw [cX11_cools_, bX11_cools_0, P1, P2], H2, fun i j x y => ?_, fun i j x y => (Q2.1 i j x y).1, fun i j x y => (Q2.1 i j x y).2.1, Q2.2, FrC_tr (fun k x y => F1 k (by omega)) F2⟩
  have := (Q2.1 i j x y).2.2
  rw [if_pos x] at this
  exact this
end M3
