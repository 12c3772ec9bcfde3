/-! CELLS of the class: one tenth, and a heat -/
abbrev CSt := (Nat → Nat → Int32) × Nat × Int32 × Bool
def cutT (cnt : Nat → Nat) (tab : Nat → Nat → Int32) (cuts w : Nat) (sq water : Int32) (tenth i : Nat) (s : CSt) : CSt :=
  let g := coolG (tab 1 1) (tab 1 3) water (s.1 9) (s.1 1) cuts w i
  let t := rowT cnt tab (nI w * sq) tenth i w 0 (upA s.1 8 (rowF g (s.1 8) i w), s.2.1)
  let B := upA t.1 5 (rowF (sizG (tab 1 4) (t.1 8) (t.1 3)) (t.1 5) i w)
  (B, t.2, crkS (B 5) (B 4) w sq i s.2.2.1 w 0, s.2.2.2 || movS g (s.1 9) i w)
def cutsT (cnt : Nat → Nat) (tab : Nat → Nat → Int32) (cuts w : Nat) (sq water : Int32) (tenth : Nat) : Nat → Nat → CSt → CSt
  | 0, _, s => s
  | r + 1, i, s => cutsT cnt tab cuts w sq water tenth r (i + 1) (cutT cnt tab cuts w sq water tenth i s)
def swA (A : Nat → Nat → Int32) : Nat → Nat → Int32 := fun m => if m = 8 then A 9 else if m = 9 then A 8 else A m
def onceS (cnt : Nat → Nat) (tab : Nat → Nat → Int32) (cuts w : Nat) (sq water : Int32) (tenth : Nat) (A : Nat → Nat → Int32) (tn : Nat) (crk : Int32) : CSt :=
  cutsT cnt tab cuts w sq water (tenth + 1) cuts 0 (swA A, tn, crk, false)
section CE9
variable {c : Nat} {p q bk cuts w : Nat} {sq water : Int32} {tenth : Nat} {lo hi' : Int32} {cnt : Nat → Nat} {tab : Nat → Nat → Int32}
theorem CAt_sw {h : tm_H} {A : Nat → Nat → Int32} {turned : Nat} {crk : Int32} (H : CAt h c A p q bk cuts w sq water tenth turned crk) (tenth' : Nat) : CAt (tm_up h c (cO c q p bk cuts w sq water tenth' turned crk)) c (swA A) q p bk cuts w sq water tenth' turned crk := by
  obtain ⟨h1, h2, h3, h4, h5, h6⟩ := H
  refine ⟨tm_up_same, fun k hk => ?_, ?_, ?_, ?_, h6⟩
  · rw [tm_up_ne (by omega), h2 k hk, show swA A k = A k from by unfold swA; rw [if_neg (by omega), if_neg (by omega)]]
  · rw [tm_up_ne (by omega), h4]; rfl
  · rw [tm_up_ne (by omega), h3]; rfl
  · omega
theorem once_or {a0 x1 x3 x4 x5 x6 : Value} {h : tm_H} (a b : Bool) : tE mX4_coolOnce 45 [a0, x1, .int (bI a), x3, x4, x5, x6] [.int (bI b)] h = tE mX4_coolOnce 53 [a0, x1, .int (bI a ||| bI b), x3, .int 0, x5, x6] [] h := by
  rw [bI_or]
  cases b
  · rw [bI_f, bX4_coolOnce_45, if_pos rfl, bX4_coolOnce_50, Bool.or_false]
  · rw [bI_t, bX4_coolOnce_45, if_neg (by decide), bX4_coolOnce_48, bX4_coolOnce_50, Bool.or_true, bI_t]
theorem cutsT_loop (B : BkF lo hi' cnt tab) (hd : bk + 14 < c ∨ c + 10 < bk) {x1 : Value} : ∀ r i x4 x5 x6 h (s : CSt), CAt h c s.1 p q bk cuts w sq water tenth s.2.1 s.2.2.1 → BkAt h bk lo hi' cnt tab → s.2.1 ≤ 40 → i + r = cuts → ∃ h', tE mX4_coolOnce 32 [.ref c, x1, .int (bI s.2.2.2), .int (nI i), x4, x5, x6] [] h = some (h', some (.int (bI (cutsT cnt tab cuts w sq water tenth r i s).2.2.2))) ∧ CAt h' c (cutsT cnt tab cuts w sq water tenth r i s).1 p q bk cuts w sq water tenth (cutsT cnt tab cuts w sq water tenth r i s).2.1 (cutsT cnt tab cuts w sq water tenth r i s).2.2.1 ∧ Fr c h h' ∧ (cutsT cnt tab cuts w sq water tenth r i s).2.1 ≤ 40 := by
  intro r
  induction r with
  | zero =>
    intro i x4 x5 x6 h s H K ht hi
    obtain rfl : i = cuts := by omega
    refine ⟨h, ?_, H, Fr_rf c h, ht⟩
    rw [bX4_coolOnce_32]
    simp only [bX4_coolOnce_37, bX4_coolOnce_142, tk1_some, tk0_some, tkc_some, tkc_none, ↓reduceIte, ca_o H, gf_4_11, Int32.le_refl, if_true, tm_rbb, cutsT]
  | succ r ih =>
    intro i x4 x5 x6 h s H K ht hi
    have hc := ca_c H
    have e1 : ¬ nI cuts ≤ nI i := nI_ge (by omega) (by omega)
    have hi2 : i < cuts := by omega
    have P1 := cool_spec H hi2 K B.2.1
    generalize hg : coolG (tab 1 1) (tab 1 3) water (s.1 9) (s.1 1) cuts w i = g at P1
    have F1 : Fr c h (tm_up h p (aI 40 (rowF g (s.1 8) i w))) := by
      have := H.2.2.2.2.1
      exact Fr_up (by omega) (by omega)
    have H1 := CAt_p H (rowF g (s.1 8) i w)
    generalize tm_up h p (aI 40 (rowF g (s.1 8) i w)) = h1 at P1 F1 H1
    have K1 := BkAt_fr K F1 hd
    obtain ⟨h2, y5, y6, P2, H2, F2, t2⟩ := rowT_loop B hd hi2 (x1 := x1) (mv := bI s.2.2.2 ||| bI (movS g (s.1 9) i w)) w 0 x5 x6 h1 _ s.2.1 s.2.2.1 H1 K1 ht (by omega)
    have K2 := BkAt_fr K1 F2 hd
    generalize ht' : rowT cnt tab (nI w * sq) tenth i w 0 (upA s.1 8 (rowF g (s.1 8) i w), s.2.1) = t at P2 H2 t2
    have P3 := size_spec H2 (show i < 8 by omega) K2 B.2.1
    have F3 : Fr c h2 (tm_up h2 (c + 1 + 5) (aI 40 (rowF (sizG (tab 1 4) (t.1 8) (t.1 3)) (t.1 5) i w))) := Fr_up (by omega) (by omega)
    have H3 := CAt_arr H2 (show 5 < 8 by decide) (rowF (sizG (tab 1 4) (t.1 8) (t.1 3)) (t.1 5) i w)
    generalize tm_up h2 (c + 1 + 5) (aI 40 (rowF (sizG (tab 1 4) (t.1 8) (t.1 3)) (t.1 5) i w)) = h3 at P3 F3 H3
    have K3 := BkAt_fr K2 F3 hd
    have P4 := crk_spec H3 (show i < 8 by omega)
    generalize hB : upA t.1 5 (rowF (sizG (tab 1 4) (t.1 8) (t.1 3)) (t.1 5) i w) = B' at H3 P4
    have H4 := CAt_o H3 water tenth t.2 (crkS (B' 5) (B' 4) w sq i s.2.2.1 w 0)
    have F4 : Fr c h3 (tm_up h3 c (cO c p q bk cuts w sq water tenth t.2 (crkS (B' 5) (B' 4) w sq i s.2.2.1 w 0))) := Fr_up (by omega) (by omega)
    generalize tm_up h3 c (cO c p q bk cuts w sq water tenth t.2 (crkS (B' 5) (B' 4) w sq i s.2.2.1 w 0)) = h4 at P4 H4 F4
    have K4 := BkAt_fr K3 F4 hd
    have ec : cutT cnt tab cuts w sq water tenth i s = (B', t.2, crkS (B' 5) (B' 4) w sq i s.2.2.1 w 0, s.2.2.2 || movS g (s.1 9) i w) := by
      unfold cutT; simp only [hg, ht', hB]
    obtain ⟨h5, P5, H5, F5, t5⟩ := ih (i + 1) (.int (nI w)) y5 y6 h4 (cutT cnt tab cuts w sq water tenth i s) (by rw [ec]; exact H4) K4 (by rw [ec]; exact t2) (by omega)
    refine ⟨h5, ?_, H5, Fr_tr F1 (Fr_tr F2 (Fr_tr F3 (Fr_tr F4 F5))), t5⟩
    rw [show (cutT cnt tab cuts w sq water tenth i s).2.2.2 = (s.2.2.2 || movS g (s.1 9) i w) from by rw [ec], ← bI_or] at P5
    rw [nI_0] at P2
    rw [bX4_coolOnce_32]
    simp only [bX4_coolOnce_37, bX4_coolOnce_40, once_or, bX4_coolOnce_126, bX4_coolOnce_131, bX4_coolOnce_136, tk1_some, tk0_some, tkc_some, tkc_none, ↓reduceIte, ca_o H, gf_4_11, e1, if_false, tm_isO, P1, P2, ca_o H2, P3, ca_o H3, P4, nI_k1, P5]
    rfl
theorem once_spec {h : tm_H} {A : Nat → Nat → Int32} {turned : Nat} {crk : Int32} (H : CAt h c A p q bk cuts w sq water tenth turned crk) (K : BkAt h bk lo hi' cnt tab) (B : BkF lo hi' cnt tab) (hd : bk + 14 < c ∨ c + 10 < bk) (ht : turned ≤ 40) : ∃ h', tC mX4_coolOnce [.ref c] h = some (h', some (.int (bI (onceS cnt tab cuts w sq water tenth A turned crk).2.2.2))) ∧ CAt h' c (onceS cnt tab cuts w sq water tenth A turned crk).1 q p bk cuts w sq water (tenth + 1) (onceS cnt tab cuts w sq water tenth A turned crk).2.1 (onceS cnt tab cuts w sq water tenth A turned crk).2.2.1 ∧ Fr c h h' ∧ (onceS cnt tab cuts w sq water tenth A turned crk).2.1 ≤ 40 := by
  have H1 := CAt_sw H (tenth + 1)
  have F1 : Fr c h (tm_up h c (cO c q p bk cuts w sq water (tenth + 1) turned crk)) := Fr_up (by omega) (by omega)
  obtain ⟨h', P, H2, F2, t2⟩ := cutsT_loop B hd (x1 := .ref q) cuts 0 tm_U tm_U tm_U _ (swA A, turned, crk, false) H1 (BkAt_fr K F1 hd) ht (by omega)
  refine ⟨h', ?_, H2, Fr_tr F1 F2, t2⟩
  rw [nI_0, bI_f] at P
  simp only [cX4_coolOnce_, bX4_coolOnce_0, bX4_coolOnce_4, bX4_coolOnce_10, bX4_coolOnce_13, bX4_coolOnce_18, bX4_coolOnce_23, bX4_coolOnce_28, tk1_some, tk0_some, tkc_some, tkc_none, ↓reduceIte, ca_o H, gf_4_9, gf_4_8, gf_4_15, tm_pf_eq, ps_4_9, ps_4_8, ps_4_15, tm_up_same, tm_up_up, Option.map_some, nI_k1, P]
  rfl
end CE9
