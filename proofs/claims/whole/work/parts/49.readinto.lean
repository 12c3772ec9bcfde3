/-! THE READER of the class: a whole text -/
section RI
variable {h : tm_H} {bk n : Nat} {tp : Nat → Int32} {z : RSt} {lo hi : Int32} {cnt : Nat → Nat} {tab : Nat → Nat → Int32}
theorem BkAt_cnt (B : BkAt h bk lo hi cnt tab) {l c : Nat} (hl : l < 7) (hc : c ≤ lnM l) : BkAt (tm_up h (bk + 1 + 2 * l) (lnO (lnM l) (lnC l) (bk + 2 + 2 * l) c)) bk lo hi (updN cnt l c) tab := by
  refine ⟨by rw [tm_up_ne (by omega)]; exact B.1, fun l' hl' => ⟨?_, by rw [tm_up_ne (by omega)]; exact (B.2.1 l' hl').2⟩, fun l' hl' => ?_⟩
  · by_cases q : l' = l
    · subst q; rw [tm_up_same]; unfold updN; rw [if_pos rfl]
    · rw [tm_up_ne (by omega), (B.2.1 l' hl').1]; unfold updN; rw [if_neg q]
  · unfold updN
    by_cases q : l' = l
    · subst q; rw [if_pos rfl]; exact hc
    · rw [if_neg q]; exact B.2.2 l' hl'
def FrK (bk : Nat) (h h' : tm_H) : Prop := ∀ k, (k < bk ∨ bk + 14 < k) → h' k = h k
theorem FrK_tr {c : Nat} {h h1 h2 : tm_H} (a : FrK c h h1) (b : FrK c h1 h2) : FrK c h h2 := fun k hk => (b k hk).trans (a k hk)
theorem bk_cl1 (B : BkAt h bk lo hi cnt tab) {l x : Nat} (hl : l < 7) (hx : x = bk + 1 + 2 * l) : ∃ h', tC mX5_clear [.ref x] h = some (h', none) ∧ BkAt h' bk lo hi (updN cnt l 0) tab ∧ FrK bk h h' ∧ tm_isObj (h x) 5 = true := by
  subst hx
  have L := (B.2.1 l hl).1
  exact ⟨_, ln_clear L, BkAt_cnt B hl (Nat.zero_le _), fun k hk => tm_up_ne (by omega), by rw [L]; exact tm_isO⟩
theorem bk_clear (B : BkAt h bk lo hi cnt tab) : ∃ h', tC mX3_clear [.ref bk] h = some (h', none) ∧ BkAt h' bk lo hi (fun _ => 0) tab ∧ FrK bk h h' := by
  obtain ⟨h0, P0, B0, F0, I0⟩ := bk_cl1 B (l := 0) (x := bk + 1) (by decide) (by omega)
  obtain ⟨h1, P1, B1, F1, I1⟩ := bk_cl1 B0 (l := 1) (x := bk + 3) (by decide) (by omega)
  obtain ⟨h2, P2, B2, F2, I2⟩ := bk_cl1 B1 (l := 2) (x := bk + 5) (by decide) (by omega)
  obtain ⟨h3, P3, B3, F3, I3⟩ := bk_cl1 B2 (l := 3) (x := bk + 7) (by decide) (by omega)
  obtain ⟨h4, P4, B4, F4, I4⟩ := bk_cl1 B3 (l := 4) (x := bk + 9) (by decide) (by omega)
  obtain ⟨h5, P5, B5, F5, I5⟩ := bk_cl1 B4 (l := 5) (x := bk + 11) (by decide) (by omega)
  obtain ⟨h6, P6, B6, F6, I6⟩ := bk_cl1 B5 (l := 6) (x := bk + 13) (by decide) (by omega)
  refine ⟨h6, ?_, ⟨B6.1, fun l hl => ?_, fun l hl => Nat.zero_le _⟩, FrK_tr F0 (FrK_tr F1 (FrK_tr F2 (FrK_tr F3 (FrK_tr F4 (FrK_tr F5 F6)))))⟩
  · simp only [cX3_clear_, bX3_clear_0, bX3_clear_4, bX3_clear_7, bX3_clear_11, bX3_clear_14, bX3_clear_18, bX3_clear_21, bX3_clear_25, bX3_clear_28, bX3_clear_32, bX3_clear_35, bX3_clear_39, bX3_clear_42, bX3_clear_46, bX3_clear_49, tk1_some, tk0_some, tkc_some, tkc_none, ↓reduceIte, bk_o B, bk_o B0, bk_o B1, bk_o B2, bk_o B3, bk_o B4, bk_o B5, gf_3_0, gf_3_1, gf_3_2, gf_3_3, gf_3_4, gf_3_5, gf_3_6, I0, I1, I2, I3, I4, I5, I6, P0, P1, P2, P3, P4, P5, P6]
  · have q := B6.2.1 l hl
    refine ⟨?_, q.2⟩
    have e : updN (updN (updN (updN (updN (updN (updN cnt 0 0) 1 0) 2 0) 3 0) 4 0) 5 0) 6 0 l = 0 := by
      unfold updN
      rcases (show l = 0 ∨ l = 1 ∨ l = 2 ∨ l = 3 ∨ l = 4 ∨ l = 5 ∨ l = 6 by omega) with rfl | rfl | rfl | rfl | rfl | rfl | rfl <;> rfl
    rw [e] at q
    exact q.1
def rParts (tp : Nat → Int32) (n : Nat) (z : RSt) : Bool × RSt := if (zT z).2.2 = 3 then (true, rStep tp n z) else (false, rF z 1)
theorem r_parts (H : RdAt h bk n tp z) : ∃ h', tC mX6_parts [.ref 40] h = some (h', some (.int (bI (rParts tp n z).1))) ∧ RdAt h' bk n tp (rParts tp n z).2 ∧ FrR bk h h' := by
  unfold rParts
  by_cases c : (zT z).2.2 = 3
  · rw [if_pos c]
    obtain ⟨h1, P1, H1, F1⟩ := r_step H
    refine ⟨h1, ?_, H1, F1⟩
    simp only [cX6_parts_, bX6_parts_0, bX6_parts_4, bX6_parts_7, bX6_parts_11, bX6_parts_16, bX6_parts_17, bX6_parts_21, bX6_parts_24, tk1_some, tk0_some, tkc_some, tkc_none, ↓reduceIte, rd_o H, gf_6_0, r_isT H, r_sort H, c, if_true, P1, tm_rb1, bI_t]
  · rw [if_neg c]
    obtain ⟨h1, P1, H1, F1⟩ := r_fails H (k := 1)
    refine ⟨h1, ?_, H1, F1⟩
    simp only [cX6_parts_, bX6_parts_0, bX6_parts_4, bX6_parts_7, bX6_parts_11, bX6_parts_16, bX6_parts_17, bX6_parts_21, bX6_parts_24, tk1_some, tk0_some, tkc_some, tkc_none, ↓reduceIte, rd_o H, gf_6_0, r_isT H, r_sort H, c, if_false, tm_isO, P1, tm_rb0, bI_f]
def rLacks (z : RSt) : Bool := if 1 ≤ zC z 0 then (if 1 ≤ zC z 1 then (if 2 ≤ zC z 2 then false else true) else true) else true
theorem r_lacks (H : RdAt h bk n tp z) : tC mX6_lacks [.ref 40] h = some (h, some (.int (bI (rLacks z)))) := by
  obtain ⟨lo, hi, B⟩ := H.2.2.2.2.2.1
  obtain ⟨P0, I0⟩ := r_full H (l := 0) (x := bk + 1) (by decide) (by omega)
  obtain ⟨P1, I1⟩ := r_full H (l := 1) (x := bk + 3) (by decide) (by omega)
  have P2 := ln_count (bk_l2 B)
  have I2 : tm_isObj (h (bk + 5)) 5 = true := by rw [bk_l2 B]; exact tm_isO
  have c5 := bk_c2 B
  unfold rLacks
  by_cases c0 : 1 ≤ zC z 0
  · rw [show decide (lnM 0 ≤ zC z 0) = true from decide_eq_true c0, bI_t] at P0
    by_cases c1 : 1 ≤ zC z 1
    · rw [show decide (lnM 1 ≤ zC z 1) = true from decide_eq_true c1, bI_t] at P1
      by_cases c2 : 2 ≤ zC z 2
      · have c2' : 2 ≤ nI (zC z 2) := (nI_leI (show 2 < 2 ^ 31 by decide) (by omega)).mpr c2
        simp only [cX6_lacks_, bX6_lacks_0, bX6_lacks_4, bX6_lacks_7, bX6_lacks_10, bX6_lacks_13, bX6_lacks_17, bX6_lacks_20, bX6_lacks_23, bX6_lacks_26, bX6_lacks_30, bX6_lacks_33, bX6_lacks_36, bX6_lacks_40, bX6_lacks_45, bX6_lacks_44, tk1_some, tk0_some, tkc_some, tkc_none, ↓reduceIte, rd_o H, gf_6_4, bk_o B, gf_3_0, gf_3_1, gf_3_2, I0, P0, I1, P1, I2, P2, c0, c1, c2, c2', show ((1 : Int32) = 0) = False from by decide, if_true, if_false, tm_rb0, bI_f]
      · have c2' : ¬ 2 ≤ nI (zC z 2) := nI_ge (show zC z 2 < 2 by omega) (by decide)
        simp only [cX6_lacks_, bX6_lacks_0, bX6_lacks_4, bX6_lacks_7, bX6_lacks_10, bX6_lacks_13, bX6_lacks_17, bX6_lacks_20, bX6_lacks_23, bX6_lacks_26, bX6_lacks_30, bX6_lacks_33, bX6_lacks_36, bX6_lacks_40, bX6_lacks_45, bX6_lacks_44, tk1_some, tk0_some, tkc_some, tkc_none, ↓reduceIte, rd_o H, gf_6_4, bk_o B, gf_3_0, gf_3_1, gf_3_2, I0, P0, I1, P1, I2, P2, c0, c1, c2, c2', show ((1 : Int32) = 0) = False from by decide, if_true, if_false, tm_rb1, bI_t]
    · rw [show decide (lnM 1 ≤ zC z 1) = false from decide_eq_false c1, bI_f] at P1
      simp only [cX6_lacks_, bX6_lacks_0, bX6_lacks_4, bX6_lacks_7, bX6_lacks_10, bX6_lacks_13, bX6_lacks_17, bX6_lacks_20, bX6_lacks_23, bX6_lacks_26, bX6_lacks_30, bX6_lacks_33, bX6_lacks_36, bX6_lacks_40, bX6_lacks_45, bX6_lacks_44, tk1_some, tk0_some, tkc_some, tkc_none, ↓reduceIte, rd_o H, gf_6_4, bk_o B, gf_3_0, gf_3_1, I0, P0, I1, P1, c0, c1, show ((1 : Int32) = 0) = False from by decide, if_true, if_false, tm_rb1, bI_t]
  · rw [show decide (lnM 0 ≤ zC z 0) = false from decide_eq_false c0, bI_f] at P0
    simp only [cX6_lacks_, bX6_lacks_0, bX6_lacks_4, bX6_lacks_7, bX6_lacks_10, bX6_lacks_13, bX6_lacks_17, bX6_lacks_20, bX6_lacks_23, bX6_lacks_26, bX6_lacks_30, bX6_lacks_33, bX6_lacks_36, bX6_lacks_40, bX6_lacks_45, bX6_lacks_44, tk1_some, tk0_some, tkc_some, tkc_none, ↓reduceIte, rd_o H, gf_6_4, bk_o B, gf_3_0, I0, P0, c0, if_true, if_false, tm_rb1, bI_t]
def rLoop (tp : Nat → Int32) (n : Nat) : Nat → Bool × RSt → Bool × RSt
  | 0, q => q
  | r + 1, q => if q.1 = true then (if (zT q.2).2.2 = 0 then q else rLoop tp n r (rAnd (rParts tp n q.2) (rLine tp n))) else q
def rFin (q : Bool × RSt) : RSt := if q.1 = true then (if rLacks q.2 = true then rF q.2 6 else q.2) else q.2
theorem ri_end (b : Bool) (H : RdAt h bk n tp z) {a1 a2 a3 a5 : Value} : ∃ h', tE mX6_readInto 90 [.ref 40, a1, a2, a3, .int (bI b), a5] [] h = some (h', some (.int (zF (rFin (b, z))))) ∧ RdAt h' bk n tp (rFin (b, z)) ∧ FrR bk h h' := by
  cases b with
  | false =>
    refine ⟨h, ?_, H, FrR_rf _ _⟩
    have e : rFin (false, z) = z := rfl
    rw [bX6_readInto_90, bI_f, if_pos rfl, bX6_readInto_109, rd_o H, gf_6_6, tk1_some, bX6_readInto_113, e]
  | true =>
    have L := r_lacks H
    cases c : rLacks z with
    | false =>
      have e : rFin (true, z) = z := by unfold rFin; simp only [c]; rfl
      rw [c, bI_f] at L
      refine ⟨h, ?_, by rw [e]; exact H, FrR_rf _ _⟩
      rw [e]
      simp only [bX6_readInto_90, bX6_readInto_95, bX6_readInto_99, bX6_readInto_109, bX6_readInto_113, tk1_some, tk0_some, tkc_some, tkc_none, ↓reduceIte, bI_t, show ((1 : Int32) = 0) = False from by decide, if_false, rd_o H, tm_isO, L, if_true, gf_6_6]
    | true =>
      have e : rFin (true, z) = rF z 6 := by unfold rFin; simp only [c]; rfl
      rw [c, bI_t] at L
      obtain ⟨h1, P1, H1, F1⟩ := r_fails H (k := 6)
      refine ⟨h1, ?_, by rw [e]; exact H1, F1⟩
      rw [e]
      simp only [bX6_readInto_90, bX6_readInto_95, bX6_readInto_99, bX6_readInto_102, bX6_readInto_108, bX6_readInto_109, bX6_readInto_113, tk1_some, tk0_some, tkc_some, tkc_none, ↓reduceIte, bI_t, show ((1 : Int32) = 0) = False from by decide, if_false, rd_o H, rd_o H1, tm_isO, L, P1, gf_6_6]
theorem ri_loop {a1 a2 a3 : Value} : ∀ r k b h z, RdAt h bk n tp z → k + r = 700 → ∃ h', tE mX6_readInto 40 [.ref 40, a1, a2, a3, .int (bI b), .int (nI k)] [] h = some (h', some (.int (zF (rFin (rLoop tp n r (b, z)))))) ∧ RdAt h' bk n tp (rFin (rLoop tp n r (b, z))) ∧ FrR bk h h' := by
  intro r
  induction r with
  | zero =>
    intro k b h z H hk
    obtain rfl : k = 700 := by omega
    obtain ⟨h1, P1, H1, F1⟩ := ri_end b H (a1 := a1) (a2 := a2) (a3 := a3) (a5 := .int (nI 700))
    refine ⟨h1, ?_, H1, F1⟩
    rw [bX6_readInto_40, if_pos (show (700 : Int32) ≤ nI 700 by decide), P1]; rfl
  | succ r ih =>
    intro k b h z H hk
    have e1 : ¬ (700 : Int32) ≤ nI k := fun y => (nI_ge (show k < 700 by omega) (show 700 < 2 ^ 31 by decide)) y
    rw [bX6_readInto_40, if_neg e1]
    cases b with
    | false =>
      obtain ⟨h1, P1, H1, F1⟩ := ri_end false H (a1 := a1) (a2 := a2) (a3 := a3) (a5 := .int (nI k))
      refine ⟨h1, ?_, H1, F1⟩
      rw [bX6_readInto_48, bI_f, if_pos rfl, ← bI_f, P1]; rfl
    | true =>
      have e2 : rLoop tp n (r + 1) (true, z) = if (zT z).2.2 = 0 then (true, z) else rLoop tp n r (rAnd (rParts tp n z) (rLine tp n)) := rfl
      rw [e2]
      by_cases c : (zT z).2.2 = 0
      · rw [if_pos c]
        obtain ⟨h1, P1, H1, F1⟩ := ri_end true H (a1 := a1) (a2 := a2) (a3 := a3) (a5 := .int (nI k))
        refine ⟨h1, ?_, H1, F1⟩
        simp only [bX6_readInto_48, bX6_readInto_53, bX6_readInto_57, bX6_readInto_60, tk1_some, tk0_some, tkc_some, tkc_none, ↓reduceIte, bI_t, show ((1 : Int32) = 0) = False from by decide, if_false, rd_o H, gf_6_0, r_isT H, r_sort H, c, if_true]
        exact P1
      · rw [if_neg c]
        obtain ⟨h1, P1, H1, F1⟩ := r_parts H
        generalize rParts tp n z = q1 at P1 H1
        obtain ⟨b1, z1⟩ := q1
        cases b1 with
        | false =>
          replace P1 : _ = some (h1, some (Value.int 0)) := P1
          obtain ⟨h2, P2, H2, F2⟩ := ih (k + 1) false h1 z1 H1 (by omega)
          refine ⟨h2, ?_, H2, FrR_tr F1 F2⟩
          rw [show rAnd (false, z1) (rLine tp n) = (false, z1) from rfl, ← P2]
          simp only [bX6_readInto_48, bX6_readInto_53, bX6_readInto_57, bX6_readInto_60, bX6_readInto_63, bX6_readInto_67, bX6_readInto_81, bX6_readInto_82, tk1_some, tk0_some, tkc_some, tkc_none, ↓reduceIte, bI_t, show ((1 : Int32) = 0) = False from by decide, if_false, rd_o H, gf_6_0, r_isT H, r_sort H, c, if_true, tm_isO, P1, nI_k1, bI_f]
        | true =>
          replace P1 : _ = some (h1, some (Value.int 1)) := P1
          replace H1 : RdAt h1 bk n tp z1 := H1
          rw [show rAnd (true, z1) (rLine tp n) = rLine tp n z1 from rfl]
          obtain ⟨h2, P2, H2, F2⟩ := r_line H1
          generalize rLine tp n z1 = q2 at P2 H2
          obtain ⟨b2, z2⟩ := q2
          obtain ⟨h3, P3, H3, F3⟩ := ih (k + 1) b2 h2 z2 H2 (by omega)
          refine ⟨h3, ?_, H3, FrR_tr F1 (FrR_tr F2 F3)⟩
          rw [← P3]
          cases b2 with
          | false =>
            replace P2 : _ = some (h2, some (Value.int 0)) := P2
            simp only [bX6_readInto_48, bX6_readInto_53, bX6_readInto_57, bX6_readInto_60, bX6_readInto_63, bX6_readInto_67, bX6_readInto_70, bX6_readInto_74, bX6_readInto_81, bX6_readInto_82, tk1_some, tk0_some, tkc_some, tkc_none, ↓reduceIte, bI_t, show ((1 : Int32) = 0) = False from by decide, if_false, rd_o H, rd_o H1, gf_6_0, r_isT H, r_sort H, c, if_true, tm_isO, P1, P2, nI_k1, bI_f]
          | true =>
            replace P2 : _ = some (h2, some (Value.int 1)) := P2
            simp only [bX6_readInto_48, bX6_readInto_53, bX6_readInto_57, bX6_readInto_60, bX6_readInto_63, bX6_readInto_67, bX6_readInto_70, bX6_readInto_74, bX6_readInto_77, bX6_readInto_82, tk1_some, tk0_some, tkc_some, tkc_none, ↓reduceIte, bI_t, show ((1 : Int32) = 0) = False from by decide, if_false, rd_o H, rd_o H1, gf_6_0, r_isT H, r_sort H, c, if_true, tm_isO, P1, P2, nI_k1]
def rSt0 (tp : Nat → Int32) (n : Nat) (lw : Int32) (nm : Nat → Int64) (kn : Nat → Int32) (tab : Nat → Nat → Int32) : RSt := (tokS tp n 0, lw, 0, 0, nm, kn, fun _ => 0, tab)
def rRead (tp : Nat → Int32) (n : Nat) (z : RSt) : RSt := rFin (rLoop tp n 700 (rLine tp n z))
/-- the reader at rest -/
theorem ri_spec {b0 nc0 a0 n0 s0 t0 : Nat} {lw f0 so0 : Int32} {nm : Nat → Int64} {kn : Nat → Int32} (h3 : h 40 = rdO b0 nc0 lw f0) (h4 : h 41 = tkO a0 n0 s0 t0 so0) (h2 : h 2 = aB 700 tp) (h6 : h 43 = aJ 22 nm) (h7 : h 44 = aI 22 kn) (B : BkAt h bk lo hi cnt tab) (hn : n ≤ 700) (hbk : 2 < bk ∧ bk < 26) : ∃ h', tC mX6_readInto [.ref 40, .ref bk, .ref 2, .int (nI n)] h = some (h', some (.int (zF (rRead tp n (rSt0 tp n lw nm kn tab))))) ∧ RdAt h' bk n tp (rRead tp n (rSt0 tp n lw nm kn tab)) ∧ FrR bk h h' := by
  have B1 : BkAt (tm_up h 40 (rdO bk nc0 lw f0)) bk lo hi cnt tab := BkAt_up B (by omega)
  obtain ⟨k1, P1, B2, F1⟩ := bk_clear B1
  have k3 : k1 40 = rdO bk nc0 lw f0 := by rw [F1 40 (by omega)]; exact tm_up_same
  have k4 : k1 41 = tkO a0 n0 s0 t0 so0 := by rw [F1 41 (by omega), tm_up_ne (by decide)]; exact h4
  have k2 : k1 2 = aB 700 tp := by rw [F1 2 (by omega), tm_up_ne (by decide)]; exact h2
  have k6 : k1 43 = aJ 22 nm := by rw [F1 43 (by omega), tm_up_ne (by decide)]; exact h6
  have k7 : k1 44 = aI 22 kn := by rw [F1 44 (by omega), tm_up_ne (by decide)]; exact h7
  have P3 := begin_spec (h := tm_up k1 40 (rdO bk 0 lw 0)) (o := 41) (a := 2) (n := n) (by rw [tm_up_ne (by decide)]; exact k4) (by rw [tm_up_ne (by decide)]; exact k2) (by decide) hn
  have tb := tokS_b (tp := tp) (Nat.zero_le n)
  have R : RdAt (tm_up (tm_up k1 40 (rdO bk 0 lw 0)) 41 (tkO 2 n (tokS tp n 0).1 (tokS tp n 0).2.1 (tokS tp n 0).2.2)) bk n tp (rSt0 tp n lw nm kn tab) :=
    ⟨by rw [tm_up_ne (by decide), tm_up_same]; rfl, tm_up_same, by rw [tm_up_ne (by decide), tm_up_ne (by decide)]; exact k2, by rw [tm_up_ne (by decide), tm_up_ne (by decide)]; exact k6, by rw [tm_up_ne (by decide), tm_up_ne (by decide)]; exact k7, ⟨lo, hi, BkAt_up (BkAt_up B2 (by omega)) (by omega)⟩, hn, tb.2.1, tb.2.2.1, Nat.zero_le _, hbk⟩
  have F2 : FrR bk h (tm_up (tm_up k1 40 (rdO bk 0 lw 0)) 41 (tkO 2 n (tokS tp n 0).1 (tokS tp n 0).2.1 (tokS tp n 0).2.2)) := fun k x3 x4 x6 x7 x => by
    rw [tm_up_ne x4, tm_up_ne x3, F1 k x, tm_up_ne x3]
  generalize tm_up (tm_up k1 40 (rdO bk 0 lw 0)) 41 (tkO 2 n (tokS tp n 0).1 (tokS tp n 0).2.1 (tokS tp n 0).2.2) = k5 at P3 R F2
  obtain ⟨k8, P8, R8, F8⟩ := r_line R
  unfold rRead
  generalize rLine tp n (rSt0 tp n lw nm kn tab) = q at P8 R8
  obtain ⟨b, z⟩ := q
  obtain ⟨k9, P9, R9, F9⟩ := ri_loop (a1 := .ref bk) (a2 := .ref 2) (a3 := .int (nI n)) 700 0 b k8 z R8 (by omega)
  refine ⟨k9, ?_, R9, FrR_tr F2 (FrR_tr F8 F9)⟩
  rw [nI_0] at P9
  have i4 : tm_isObj (k1 41) 7 = true := by rw [k4]; exact tm_isO
  have i4' : tm_isObj (tm_up k1 40 (rdO bk 0 lw 0) 41) 7 = true := by rw [tm_up_ne (by decide)]; exact i4
  have n0 : nI 0 = 0 := nI_0
  simp only [rdO, nI_0] at P3 i4'
  have bo := bk_o B1
  simp only [cX6_readInto_, bX6_readInto_0, bX6_readInto_5, bX6_readInto_9, bX6_readInto_12, bX6_readInto_17, bX6_readInto_22, bX6_readInto_26, bX6_readInto_31, bX6_readInto_35, tk1_some, tk0_some, tkc_some, tkc_none, ↓reduceIte, h3, tm_pf_eq, ps_6_4, ps_6_3, ps_6_6, Option.map_some, tm_up_same, tm_up_up, gf_6_4, gf_6_0, bo, tm_isO, P1, k3, i4', P3, rd_o R, P8]
  exact P9
end RI
