/-! THE READER of the class: its state, its small steps -/
abbrev RSt : Type := Tok × Int32 × Int32 × Nat × (Nat → Int64) × (Nat → Int32) × (Nat → Nat) × (Nat → Nat → Int32)
abbrev zT (z : RSt) : Tok := z.1
abbrev zL (z : RSt) : Int32 := z.2.1
abbrev zF (z : RSt) : Int32 := z.2.2.1
abbrev zN (z : RSt) : Nat := z.2.2.2.1
abbrev zM (z : RSt) : Nat → Int64 := z.2.2.2.2.1
abbrev zK (z : RSt) : Nat → Int32 := z.2.2.2.2.2.1
abbrev zC (z : RSt) : Nat → Nat := z.2.2.2.2.2.2.1
abbrev zB (z : RSt) : Nat → Nat → Int32 := z.2.2.2.2.2.2.2
def rT (z : RSt) (T : Tok) : RSt := (T, z.2)
def rL (z : RSt) (v : Int32) : RSt := (z.1, v, z.2.2)
def rF (z : RSt) (f : Int32) : RSt := (z.1, z.2.1, f, z.2.2.2)
def rN (z : RSt) (n : Nat) (m : Nat → Int64) (k : Nat → Int32) : RSt := (z.1, z.2.1, z.2.2.1, n, m, k, z.2.2.2.2.2.2)
def rB (z : RSt) (c : Nat → Nat) (t : Nat → Nat → Int32) : RSt := (z.1, z.2.1, z.2.2.1, z.2.2.2.1, z.2.2.2.2.1, z.2.2.2.2.2.1, c, t)
def updN (f : Nat → Nat) (k v : Nat) : Nat → Nat := fun m => if m = k then v else f m
abbrev rdO (bk nc : Nat) (lw f : Int32) : va_E := .inr (6, [.ref 41, .ref 43, .ref 44, .int (nI nc), .ref bk, .int lw, .int f])
def RdAt (h : tm_H) (bk n : Nat) (tp : Nat → Int32) (z : RSt) : Prop :=
  h 40 = rdO bk (zN z) (zL z) (zF z) ∧ h 41 = tkO 2 n (zT z).1 (zT z).2.1 (zT z).2.2 ∧ h 2 = aB 700 tp ∧ h 43 = aJ 22 (zM z) ∧ h 44 = aI 22 (zK z) ∧ (∃ lo hi, BkAt h bk lo hi (zC z) (zB z)) ∧ n ≤ 700 ∧ (zT z).1 ≤ (zT z).2.1 ∧ (zT z).2.1 ≤ n ∧ zN z ≤ 22 ∧ 2 < bk ∧ bk < 26
def FrR (bk : Nat) (h h' : tm_H) : Prop := ∀ k, k ≠ 40 → k ≠ 41 → k ≠ 43 → k ≠ 44 → (k < bk ∨ bk + 14 < k) → h' k = h k
theorem FrR_rf (bk : Nat) (h : tm_H) : FrR bk h h := fun _ _ _ _ _ _ => rfl
theorem FrR_tr {bk : Nat} {h h1 h2 : tm_H} (a : FrR bk h h1) (b : FrR bk h1 h2) : FrR bk h h2 := fun k x3 x4 x6 x7 x => (b k x3 x4 x6 x7 x).trans (a k x3 x4 x6 x7 x)
theorem FrR_up {bk a : Nat} {h : tm_H} {e : va_E} (x : a = 40 ∨ a = 41 ∨ a = 43 ∨ a = 44 ∨ (bk ≤ a ∧ a ≤ bk + 14)) : FrR bk h (tm_up h a e) := fun k x3 x4 x6 x7 y => tm_up_ne (by omega)
theorem BkAt_up {h : tm_H} {b a : Nat} {e : va_E} {lo hi : Int32} {cnt : Nat → Nat} {tab : Nat → Nat → Int32} (H : BkAt h b lo hi cnt tab) (x : a < b ∨ b + 14 < a) : BkAt (tm_up h a e) b lo hi cnt tab :=
  ⟨by rw [tm_up_ne (by omega)]; exact H.1, fun l hl => ⟨by rw [tm_up_ne (by omega)]; exact (H.2.1 l hl).1, by rw [tm_up_ne (by omega)]; exact (H.2.1 l hl).2⟩, H.2.2⟩
theorem lnMC : ∀ l, l < 7 → lnM l ≤ 6 ∧ lnC l ≤ 8 := by decide
theorem ln_putG {h : tm_H} {o m k a n N : Nat} {f : Nat → Int32} {c x : Int32} {c' : Nat} (ho : h o = lnO m k a n) (ha : h a = aI N f) (hc : c = nI c') (hc' : c' < k) (hN : m * k = N) (hm : m < 100) (hk : k < 100) (hn : n ≤ m) : tC mX5_put [.ref o, .int c, .int x] h = some (if n < m then tm_up h a (aI N (upd f (n * k + c') x)) else h, none) := by
  have hmk : m * k ≤ 100 * 100 := Nat.mul_le_mul (by omega) (by omega)
  by_cases q : n < m
  · rw [if_pos q]
    have : (n + 1) * k ≤ m * k := Nat.mul_le_mul_right k q
    rw [Nat.succ_mul] at this
    exact ln_put ho ha hc q hc' (by omega) (by omega) (by omega) (by omega)
  · rw [if_neg q]
    have e2 : nI m ≤ nI n := (nI_leI (by omega) (by omega)).mpr (by omega)
    simp only [cX5_put_, bX5_put_0, bX5_put_4, bX5_put_8, bX5_put_11, bX5_put_15, bX5_put_20, bX5_put_23, bX5_put_27, bX5_put_31, bX5_put_35, bX5_put_40, tk1_some, tk0_some, tkc_some, tkc_none, ↓reduceIte, ho, gf_5_3, gf_5_0, e2, if_true]
theorem ln_closeG {h : tm_H} {o m k a n : Nat} (ho : h o = lnO m k a n) (hm : m < 100) (hn : n ≤ m) : tC mX5_close [.ref o] h = some (if n < m then tm_up h o (lnO m k a (n + 1)) else h, none) := by
  by_cases q : n < m
  · rw [if_pos q]; exact ln_close ho q (by omega)
  · rw [if_neg q]
    have e2 : nI m ≤ nI n := (nI_leI (by omega) (by omega)).mpr (by omega)
    simp only [cX5_close_, bX5_close_0, bX5_close_4, bX5_close_8, bX5_close_11, bX5_close_16, bX5_close_21, tk1_some, tk0_some, tkc_some, tkc_none, ↓reduceIte, ho, gf_5_3, gf_5_0, e2, if_true]
def rStep (tp : Nat → Int32) (n : Nat) (z : RSt) : RSt := rT z (tokS tp n (zT z).2.1)
def rPut (l c : Nat) (v : Int32) (z : RSt) : RSt := if zC z l < lnM l then rB z (zC z) (upA (zB z) l (upd (zB z l) (zC z l * lnC l + c) v)) else z
def rClose (l : Nat) (z : RSt) : RSt := if zC z l < lnM l then rB z (updN (zC z) l (zC z l + 1)) (zB z) else z
section RD
variable {h : tm_H} {bk n : Nat} {tp : Nat → Int32} {z : RSt}
theorem rd_o (H : RdAt h bk n tp z) : h 40 = rdO bk (zN z) (zL z) (zF z) := H.1
theorem rd_t (H : RdAt h bk n tp z) : h 41 = tkO 2 n (zT z).1 (zT z).2.1 (zT z).2.2 := H.2.1
theorem rd_a (H : RdAt h bk n tp z) : h 2 = aB 700 tp := H.2.2.1
theorem rd_nm (H : RdAt h bk n tp z) : h 43 = aJ 22 (zM z) := H.2.2.2.1
theorem rd_kn (H : RdAt h bk n tp z) : h 44 = aI 22 (zK z) := H.2.2.2.2.1
theorem rd_n (H : RdAt h bk n tp z) : n ≤ 700 := H.2.2.2.2.2.2.1
theorem rd_s (H : RdAt h bk n tp z) : (zT z).1 ≤ (zT z).2.1 := H.2.2.2.2.2.2.2.1
theorem rd_b (H : RdAt h bk n tp z) : (zT z).2.1 ≤ n := H.2.2.2.2.2.2.2.2.1
theorem rd_nc (H : RdAt h bk n tp z) : zN z ≤ 22 := H.2.2.2.2.2.2.2.2.2.1
theorem rd_k (H : RdAt h bk n tp z) : 2 < bk ∧ bk < 26 := H.2.2.2.2.2.2.2.2.2.2
theorem rd_l (H : RdAt h bk n tp z) {l : Nat} (hl : l < 7) : h (bk + 1 + 2 * l) = lnO (lnM l) (lnC l) (bk + 2 + 2 * l) (zC z l) ∧ h (bk + 2 + 2 * l) = aI (lnM l * lnC l) (zB z l) ∧ zC z l ≤ lnM l := by
  obtain ⟨lo, hi, B⟩ := H.2.2.2.2.2.1
  exact ⟨(B.2.1 l hl).1, (B.2.1 l hl).2, B.2.2 l hl⟩
theorem Rd_o (H : RdAt h bk n tp z) (nc : Nat) (hnc : nc ≤ 22) (lw f : Int32) : RdAt (tm_up h 40 (rdO bk nc lw f)) bk n tp (z.1, lw, f, nc, z.2.2.2.2) := by
  obtain ⟨a, b, c, d, e, ⟨lo, hi, B⟩, g⟩ := H
  have k := g.2.2.2.2
  exact ⟨tm_up_same, by rw [tm_up_ne (by decide)]; exact b, by rw [tm_up_ne (by decide)]; exact c, by rw [tm_up_ne (by decide)]; exact d, by rw [tm_up_ne (by decide)]; exact e, ⟨lo, hi, BkAt_up B (by omega)⟩, g.1, g.2.1, g.2.2.1, hnc, k⟩
theorem Rd_t (H : RdAt h bk n tp z) {T : Tok} (h1 : T.1 ≤ T.2.1) (h2 : T.2.1 ≤ n) : RdAt (tm_up h 41 (tkO 2 n T.1 T.2.1 T.2.2)) bk n tp (rT z T) := by
  obtain ⟨a, b, c, d, e, ⟨lo, hi, B⟩, g⟩ := H
  have k := g.2.2.2.2
  exact ⟨by rw [tm_up_ne (by decide)]; exact a, tm_up_same, by rw [tm_up_ne (by decide)]; exact c, by rw [tm_up_ne (by decide)]; exact d, by rw [tm_up_ne (by decide)]; exact e, ⟨lo, hi, BkAt_up B (by omega)⟩, g.1, h1, h2, g.2.2.2⟩
theorem Rd_nm (H : RdAt h bk n tp z) (m : Nat → Int64) : RdAt (tm_up h 43 (aJ 22 m)) bk n tp (rN z (zN z) m (zK z)) := by
  obtain ⟨a, b, c, d, e, ⟨lo, hi, B⟩, g⟩ := H
  have k := g.2.2.2.2
  exact ⟨by rw [tm_up_ne (by decide)]; exact a, by rw [tm_up_ne (by decide)]; exact b, by rw [tm_up_ne (by decide)]; exact c, tm_up_same, by rw [tm_up_ne (by decide)]; exact e, ⟨lo, hi, BkAt_up B (by omega)⟩, g⟩
theorem Rd_kn (H : RdAt h bk n tp z) (m : Nat → Int32) : RdAt (tm_up h 44 (aI 22 m)) bk n tp (rN z (zN z) (zM z) m) := by
  obtain ⟨a, b, c, d, e, ⟨lo, hi, B⟩, g⟩ := H
  have k := g.2.2.2.2
  exact ⟨by rw [tm_up_ne (by decide)]; exact a, by rw [tm_up_ne (by decide)]; exact b, by rw [tm_up_ne (by decide)]; exact c, by rw [tm_up_ne (by decide)]; exact d, tm_up_same, ⟨lo, hi, BkAt_up B (by omega)⟩, g⟩
theorem Rd_arr (H : RdAt h bk n tp z) {l : Nat} (hl : l < 7) (f : Nat → Int32) : RdAt (tm_up h (bk + 2 + 2 * l) (aI (lnM l * lnC l) f)) bk n tp (rB z (zC z) (upA (zB z) l f)) := by
  obtain ⟨a, b, c, d, e, ⟨lo, hi, B⟩, g⟩ := H
  have k := g.2.2.2.2
  refine ⟨by rw [tm_up_ne (by omega)]; exact a, by rw [tm_up_ne (by omega)]; exact b, by rw [tm_up_ne (by omega)]; exact c, by rw [tm_up_ne (by omega)]; exact d, by rw [tm_up_ne (by omega)]; exact e, ⟨lo, hi, by rw [tm_up_ne (by omega)]; exact B.1, fun l' hl' => ⟨by rw [tm_up_ne (by omega)]; exact (B.2.1 l' hl').1, ?_⟩, B.2.2⟩, g⟩
  by_cases q : l' = l
  · subst q; rw [tm_up_same]; show _ = aI _ (upA _ l' f l'); rw [upA_same]
  · rw [tm_up_ne (by omega), (B.2.1 l' hl').2]; show _ = aI _ (upA _ l f l'); rw [upA_ne _ _ q]
theorem Rd_cnt (H : RdAt h bk n tp z) {l c : Nat} (hl : l < 7) (hc : c ≤ lnM l) : RdAt (tm_up h (bk + 1 + 2 * l) (lnO (lnM l) (lnC l) (bk + 2 + 2 * l) c)) bk n tp (rB z (updN (zC z) l c) (zB z)) := by
  obtain ⟨a, b, c', d, e, ⟨lo, hi, B⟩, g⟩ := H
  have k := g.2.2.2.2
  refine ⟨by rw [tm_up_ne (by omega)]; exact a, by rw [tm_up_ne (by omega)]; exact b, by rw [tm_up_ne (by omega)]; exact c', by rw [tm_up_ne (by omega)]; exact d, by rw [tm_up_ne (by omega)]; exact e, ⟨lo, hi, by rw [tm_up_ne (by omega)]; exact B.1, fun l' hl' => ⟨?_, by rw [tm_up_ne (by omega)]; exact (B.2.1 l' hl').2⟩, fun l' hl' => ?_⟩, g⟩
  · by_cases q : l' = l
    · subst q; rw [tm_up_same]; show _ = lnO _ _ _ (updN _ l' c l'); unfold updN; rw [if_pos rfl]
    · rw [tm_up_ne (by omega), (B.2.1 l' hl').1]; show _ = lnO _ _ _ (updN _ l c l'); unfold updN; rw [if_neg q]
  · show updN (zC z) l c l' ≤ lnM l'
    unfold updN
    by_cases q : l' = l
    · subst q; rw [if_pos rfl]; exact hc
    · rw [if_neg q]; exact B.2.2 l' hl'
theorem r_step (H : RdAt h bk n tp z) : ∃ h', tC mX7_step [.ref 41] h = some (h', none) ∧ RdAt h' bk n tp (rStep tp n z) ∧ FrR bk h h' := by
  have b := tokS_b (tp := tp) (rd_b H)
  exact ⟨_, step_spec (rd_t H) (rd_a H) (by decide) (rd_n H) (rd_b H), Rd_t H b.2.1 b.2.2.1, FrR_up (by omega)⟩
theorem r_isW (H : RdAt h bk n tp z) {k : Nat} (hk : k < 42) : tC mX7_isWord [.ref 41, .retAddr k] h = some (h, some (.int (bI (isWd tp (zT z) k)))) :=
  isw_spec (rd_t H) (rd_a H) hk (rd_s H) (Nat.le_trans (rd_b H) (rd_n H))
theorem r_sort (H : RdAt h bk n tp z) : tC mX7_sort [.ref 41] h = some (h, some (.int (zT z).2.2)) := tk_sort (rd_t H)
theorem r_isT (H : RdAt h bk n tp z) : tm_isObj (h 41) 7 = true := by rw [rd_t H]; exact tm_isO
theorem r_put (H : RdAt h bk n tp z) {l c x : Nat} {v ci : Int32} (hl : l < 7) (hc : c < lnC l) (hx : x = bk + 1 + 2 * l) (hi : ci = nI c) : ∃ h', tC mX5_put [.ref x, .int ci, .int v] h = some (h', none) ∧ RdAt h' bk n tp (rPut l c v z) ∧ FrR bk h h' ∧ tm_isObj (h x) 5 = true := by
  subst hx
  obtain ⟨a, b, d⟩ := rd_l H hl
  have m := lnMC l hl
  have P := ln_putG (x := v) a b hi hc rfl (by omega) (by omega) d
  refine ⟨_, P, ?_, ?_, by rw [a]; exact tm_isO⟩
  · unfold rPut
    by_cases q : zC z l < lnM l
    · rw [if_pos q, if_pos q]; exact Rd_arr H hl _
    · rw [if_neg q, if_neg q]; exact H
  · by_cases q : zC z l < lnM l
    · rw [if_pos q]; exact FrR_up (by omega)
    · rw [if_neg q]; exact FrR_rf _ _
theorem r_close (H : RdAt h bk n tp z) {l x : Nat} (hl : l < 7) (hx : x = bk + 1 + 2 * l) : ∃ h', tC mX5_close [.ref x] h = some (h', none) ∧ RdAt h' bk n tp (rClose l z) ∧ FrR bk h h' ∧ tm_isObj (h x) 5 = true := by
  subst hx
  obtain ⟨a, b, d⟩ := rd_l H hl
  have m := lnMC l hl
  have P := ln_closeG a (by omega) d
  refine ⟨_, P, ?_, ?_, by rw [a]; exact tm_isO⟩
  · unfold rClose
    by_cases q : zC z l < lnM l
    · rw [if_pos q, if_pos q]; exact Rd_cnt H hl q
    · rw [if_neg q, if_neg q]; exact H
  · by_cases q : zC z l < lnM l
    · rw [if_pos q]; exact FrR_up (by omega)
    · rw [if_neg q]; exact FrR_rf _ _
theorem r_full (H : RdAt h bk n tp z) {l x : Nat} (hl : l < 7) (hx : x = bk + 1 + 2 * l) : tC mX5_isFull [.ref x] h = some (h, some (.int (bI (decide (lnM l ≤ zC z l))))) ∧ tm_isObj (h x) 5 = true := by
  subst hx
  obtain ⟨a, b, d⟩ := rd_l H hl
  have m := lnMC l hl
  exact ⟨ln_isFull a (by omega) (by omega), by rw [a]; exact tm_isO⟩
theorem r_fails (H : RdAt h bk n tp z) {k : Int32} : ∃ h', tC mX6_fails [.ref 40, .int k] h = some (h', some (.int 0)) ∧ RdAt h' bk n tp (rF z k) ∧ FrR bk h h' := by
  refine ⟨_, ?_, Rd_o H (zN z) (rd_nc H) (zL z) k, FrR_up (by omega)⟩
  simp only [cX6_fails_, bX6_fails_0, bX6_fails_5, tk1_some, tk0_some, tkc_some, tkc_none, ↓reduceIte, rd_o H, tm_pf_eq, ps_6_6, Option.map_some, tm_rb0]
def inB (v lo hi : Int32) : Bool := if v < lo then false else if hi < v then false else true
theorem within_spec {h : tm_H} {v lo hi : Int32} : tC mX9_within [.int v, .int lo, .int hi] h = some (h, some (.int (bI (inB v lo hi)))) := by
  unfold inB
  by_cases c : v < lo
  · simp only [cX9_within_, bX9_within_0, bX9_within_5, bX9_within_10, bX9_within_15, bX9_within_14, tk1_some, tk0_some, tkc_some, tkc_none, ↓reduceIte, c, if_true, tm_rb0, bI_f]
  · by_cases d : hi < v
    · simp only [cX9_within_, bX9_within_0, bX9_within_5, bX9_within_10, bX9_within_15, bX9_within_14, tk1_some, tk0_some, tkc_some, tkc_none, ↓reduceIte, c, d, if_true, if_false, tm_rb0, bI_f]
    · simp only [cX9_within_, bX9_within_0, bX9_within_5, bX9_within_10, bX9_within_15, bX9_within_14, tk1_some, tk0_some, tkc_some, tkc_none, ↓reduceIte, c, d, if_false, tm_rb1, bI_t]
def rWhole (tp : Nat → Int32) (lo hi : Int32) (z : RSt) : Bool × RSt :=
  if (zT z).2.2 = 2 then (if inB (vlG tp ((zT z).2.1 - (zT z).1) (zT z).1 0) lo hi = true then (true, rL z (vlG tp ((zT z).2.1 - (zT z).1) (zT z).1 0)) else (false, rF (rL z (vlG tp ((zT z).2.1 - (zT z).1) (zT z).1 0)) 4)) else (false, rF z 1)
theorem r_whole (H : RdAt h bk n tp z) {lo hi : Int32} : ∃ h', tC mX6_isWhole [.ref 40, .int lo, .int hi] h = some (h', some (.int (bI (rWhole tp lo hi z).1))) ∧ RdAt h' bk n tp (rWhole tp lo hi z).2 ∧ FrR bk h h' := by
  unfold rWhole
  by_cases c : (zT z).2.2 = 2
  · rw [if_pos c]
    have V := vl_spec (rd_t H) (rd_a H) (rd_s H) (Nat.le_trans (rd_b H) (rd_n H))
    generalize hv : vlG tp ((zT z).2.1 - (zT z).1) (zT z).1 0 = v at V
    have H1 := Rd_o H (zN z) (rd_nc H) v (zF z)
    have F1 : FrR bk h (tm_up h 40 (rdO bk (zN z) v (zF z))) := FrR_up (by omega)
    by_cases d : inB v lo hi = true
    · rw [if_pos d]
      refine ⟨_, ?_, H1, F1⟩
      simp only [cX6_isWhole_, bX6_isWhole_0, bX6_isWhole_4, bX6_isWhole_7, bX6_isWhole_11, bX6_isWhole_16, bX6_isWhole_17, bX6_isWhole_22, bX6_isWhole_25, bX6_isWhole_28, bX6_isWhole_32, bX6_isWhole_37, bX6_isWhole_40, bX6_isWhole_45, bX6_isWhole_48, bX6_isWhole_53, bX6_isWhole_52, tk1_some, tk0_some, tkc_some, tkc_none, ↓reduceIte, rd_o H, gf_6_0, r_isT H, r_sort H, c, if_true, V, tm_pf_eq, ps_6_5, Option.map_some, tm_up_same, gf_6_5, within_spec, d, bI_t, show ((1 : Int32) = 0) = False from by decide, not_false_eq_true, tm_rb1]
    · rw [if_neg d]
      obtain ⟨h2, P2, H2, F2⟩ := r_fails H1 (k := 4)
      refine ⟨h2, ?_, H2, FrR_tr F1 F2⟩
      rw [Bool.not_eq_true] at d
      simp only [cX6_isWhole_, bX6_isWhole_0, bX6_isWhole_4, bX6_isWhole_7, bX6_isWhole_11, bX6_isWhole_16, bX6_isWhole_17, bX6_isWhole_22, bX6_isWhole_25, bX6_isWhole_28, bX6_isWhole_32, bX6_isWhole_37, bX6_isWhole_40, bX6_isWhole_45, bX6_isWhole_48, bX6_isWhole_53, bX6_isWhole_52, tk1_some, tk0_some, tkc_some, tkc_none, ↓reduceIte, rd_o H, gf_6_0, r_isT H, r_sort H, c, if_true, V, tm_pf_eq, ps_6_5, Option.map_some, tm_up_same, gf_6_5, within_spec, d, bI_f, not_true, if_false, tm_isO, P2, tm_rb0]
  · rw [if_neg c]
    obtain ⟨h2, P2, H2, F2⟩ := r_fails H (k := 1)
    refine ⟨h2, ?_, H2, F2⟩
    simp only [cX6_isWhole_, bX6_isWhole_0, bX6_isWhole_4, bX6_isWhole_7, bX6_isWhole_11, bX6_isWhole_16, bX6_isWhole_17, bX6_isWhole_22, bX6_isWhole_25, bX6_isWhole_28, bX6_isWhole_32, bX6_isWhole_37, bX6_isWhole_40, bX6_isWhole_45, bX6_isWhole_48, bX6_isWhole_53, bX6_isWhole_52, tk1_some, tk0_some, tkc_some, tkc_none, ↓reduceIte, rd_o H, gf_6_0, r_isT H, r_sort H, c, if_false, tm_isO, P2, tm_rb0, bI_f]
theorem r_keeps (H : RdAt h bk n tp z) {l c x : Nat} {ci : Int32} (hl : l < 7) (hc : c < lnC l) (hx : x = bk + 1 + 2 * l) (hi : ci = nI c) : ∃ h', tC mX6_keeps [.ref 40, .ref x, .int ci] h = some (h', some (.int 1)) ∧ RdAt h' bk n tp (rPut l c (zL z) z) ∧ FrR bk h h' := by
  obtain ⟨h', P, H1, F, I⟩ := r_put H hl hc hx hi (v := zL z)
  refine ⟨h', ?_, H1, F⟩
  simp only [cX6_keeps_, bX6_keeps_0, bX6_keeps_6, bX6_keeps_9, tk1_some, tk0_some, tkc_some, tkc_none, ↓reduceIte, rd_o H, gf_6_5, I, P, tm_rb1]
def rWK (tp : Nat → Int32) (lo hi : Int32) (l c : Nat) (z : RSt) : Bool × RSt :=
  if (rWhole tp lo hi z).1 = true then (true, rPut l c (zL (rWhole tp lo hi z).2) (rWhole tp lo hi z).2) else (false, (rWhole tp lo hi z).2)
def rTells (tp : Nat → Int32) (n k : Nat) (lo hi : Int32) (l c : Nat) (z : RSt) : Bool × RSt :=
  if isWd tp (zT (rStep tp n z)) k = true then rWK tp lo hi l c (rStep tp n (rStep tp n z)) else (false, rF (rStep tp n z) 1)
theorem r_tells (H : RdAt h bk n tp z) {k : Nat} (hk : k < 42) {lo hi : Int32} {l c x : Nat} {ci : Int32} (hl : l < 7) (hc : c < lnC l) (hx : x = bk + 1 + 2 * l) (hi' : ci = nI c) : ∃ h', tC mX6_tells [.ref 40, .retAddr k, .int lo, .int hi, .ref x, .int ci] h = some (h', some (.int (bI (rTells tp n k lo hi l c z).1))) ∧ RdAt h' bk n tp (rTells tp n k lo hi l c z).2 ∧ FrR bk h h' := by
  obtain ⟨h1, P1, H1, F1⟩ := r_step H
  unfold rTells
  have W := r_isW H1 hk
  by_cases d : isWd tp (zT (rStep tp n z)) k = true
  · rw [if_pos d]
    rw [d, bI_t] at W
    obtain ⟨h2, P2, H2, F2⟩ := r_step H1
    obtain ⟨h3, P3, H3, F3⟩ := r_whole H2 (lo := lo) (hi := hi)
    unfold rWK
    by_cases e : (rWhole tp lo hi (rStep tp n (rStep tp n z))).1 = true
    · rw [if_pos e]
      rw [e, bI_t] at P3
      obtain ⟨h4, P4, H4, F4⟩ := r_keeps H3 hl hc hx hi'
      refine ⟨h4, ?_, H4, FrR_tr F1 (FrR_tr F2 (FrR_tr F3 F4))⟩
      simp only [cX6_tells_, bX6_tells_0, bX6_tells_4, bX6_tells_7, bX6_tells_11, bX6_tells_15, bX6_tells_18, bX6_tells_23, bX6_tells_24, bX6_tells_28, bX6_tells_31, bX6_tells_37, bX6_tells_40, bX6_tells_48, bX6_tells_51, bX6_tells_56, bX6_tells_55, tk1_some, tk0_some, tkc_some, tkc_none, ↓reduceIte, rd_o H, rd_o H1, rd_o H2, rd_o H3, gf_6_0, r_isT H, r_isT H1, tm_isO, P1, W, P2, P3, P4, show ((1 : Int32) = 0) = False from by decide, not_false_eq_true, if_true, if_false, tm_rb1, bI_t]
    · rw [if_neg e]
      rw [Bool.not_eq_true] at e
      rw [e, bI_f] at P3
      refine ⟨h3, ?_, H3, FrR_tr F1 (FrR_tr F2 F3)⟩
      simp only [cX6_tells_, bX6_tells_0, bX6_tells_4, bX6_tells_7, bX6_tells_11, bX6_tells_15, bX6_tells_18, bX6_tells_23, bX6_tells_24, bX6_tells_28, bX6_tells_31, bX6_tells_37, bX6_tells_40, bX6_tells_48, bX6_tells_51, bX6_tells_56, bX6_tells_55, tk1_some, tk0_some, tkc_some, tkc_none, ↓reduceIte, rd_o H, rd_o H1, rd_o H2, gf_6_0, r_isT H, r_isT H1, tm_isO, P1, W, P2, P3, show ((1 : Int32) = 0) = False from by decide, not_false_eq_true, if_true, tm_rb0, bI_f]
  · rw [if_neg d]
    rw [Bool.not_eq_true] at d
    rw [d, bI_f] at W
    obtain ⟨h2, P2, H2, F2⟩ := r_fails H1 (k := 1)
    refine ⟨h2, ?_, H2, FrR_tr F1 F2⟩
    simp only [cX6_tells_, bX6_tells_0, bX6_tells_4, bX6_tells_7, bX6_tells_11, bX6_tells_15, bX6_tells_18, bX6_tells_23, bX6_tells_24, bX6_tells_28, bX6_tells_31, bX6_tells_37, bX6_tells_40, bX6_tells_48, bX6_tells_51, bX6_tells_56, bX6_tells_55, tk1_some, tk0_some, tkc_some, tkc_none, ↓reduceIte, rd_o H, rd_o H1, gf_6_0, r_isT H, r_isT H1, tm_isO, P1, W, P2, not_true, if_false, tm_rb0, bI_f]
def rTellsW (tp : Nat → Int32) (n : Nat) (lo hi : Int32) (l c : Nat) (z : RSt) : Bool × RSt := rWK tp lo hi l c (rStep tp n z)
theorem r_tellsW (H : RdAt h bk n tp z) {lo hi : Int32} {l c x : Nat} {ci : Int32} (hl : l < 7) (hc : c < lnC l) (hx : x = bk + 1 + 2 * l) (hi' : ci = nI c) : ∃ h', tC mX6_tellsWhole [.ref 40, .int lo, .int hi, .ref x, .int ci] h = some (h', some (.int (bI (rTellsW tp n lo hi l c z).1))) ∧ RdAt h' bk n tp (rTellsW tp n lo hi l c z).2 ∧ FrR bk h h' := by
  obtain ⟨h2, P2, H2, F2⟩ := r_step H
  obtain ⟨h3, P3, H3, F3⟩ := r_whole H2 (lo := lo) (hi := hi)
  unfold rTellsW rWK
  by_cases e : (rWhole tp lo hi (rStep tp n z)).1 = true
  · rw [if_pos e]
    rw [e, bI_t] at P3
    obtain ⟨h4, P4, H4, F4⟩ := r_keeps H3 hl hc hx hi'
    refine ⟨h4, ?_, H4, FrR_tr F2 (FrR_tr F3 F4)⟩
    simp only [cX6_tellsWhole_, bX6_tellsWhole_0, bX6_tellsWhole_4, bX6_tellsWhole_7, bX6_tellsWhole_13, bX6_tellsWhole_16, bX6_tellsWhole_23, bX6_tellsWhole_26, bX6_tellsWhole_31, bX6_tellsWhole_30, tk1_some, tk0_some, tkc_some, tkc_none, ↓reduceIte, rd_o H, rd_o H2, rd_o H3, gf_6_0, r_isT H, tm_isO, P2, P3, P4, show ((1 : Int32) = 0) = False from by decide, if_false, tm_rb1, bI_t]
  · rw [if_neg e]
    rw [Bool.not_eq_true] at e
    rw [e, bI_f] at P3
    refine ⟨h3, ?_, H3, FrR_tr F2 F3⟩
    simp only [cX6_tellsWhole_, bX6_tellsWhole_0, bX6_tellsWhole_4, bX6_tellsWhole_7, bX6_tellsWhole_13, bX6_tellsWhole_16, bX6_tellsWhole_23, bX6_tellsWhole_26, bX6_tellsWhole_31, bX6_tellsWhole_30, tk1_some, tk0_some, tkc_some, tkc_none, ↓reduceIte, rd_o H, rd_o H2, gf_6_0, r_isT H, tm_isO, P2, P3, if_true, tm_rb0, bI_f]
def rWord (tp : Nat → Int32) (n k : Nat) (z : RSt) : Bool × RSt := if isWd tp (zT (rStep tp n z)) k = true then (true, rStep tp n z) else (false, rF (rStep tp n z) 1)
theorem r_word (H : RdAt h bk n tp z) {k : Nat} (hk : k < 42) : ∃ h', tC mX6_takesWord [.ref 40, .retAddr k] h = some (h', some (.int (bI (rWord tp n k z).1))) ∧ RdAt h' bk n tp (rWord tp n k z).2 ∧ FrR bk h h' := by
  obtain ⟨h1, P1, H1, F1⟩ := r_step H
  unfold rWord
  have W := r_isW H1 hk
  by_cases d : isWd tp (zT (rStep tp n z)) k = true
  · rw [if_pos d]
    rw [d, bI_t] at W
    refine ⟨h1, ?_, H1, F1⟩
    simp only [cX6_takesWord_, bX6_takesWord_0, bX6_takesWord_4, bX6_takesWord_7, bX6_takesWord_11, bX6_takesWord_15, bX6_takesWord_18, bX6_takesWord_23, bX6_takesWord_26, bX6_takesWord_31, bX6_takesWord_30, tk1_some, tk0_some, tkc_some, tkc_none, ↓reduceIte, rd_o H, rd_o H1, gf_6_0, r_isT H, r_isT H1, tm_isO, P1, W, show ((1 : Int32) = 0) = False from by decide, not_false_eq_true, if_true, tm_rb1, bI_t]
  · rw [if_neg d]
    rw [Bool.not_eq_true] at d
    rw [d, bI_f] at W
    obtain ⟨h2, P2, H2, F2⟩ := r_fails H1 (k := 1)
    refine ⟨h2, ?_, H2, FrR_tr F1 F2⟩
    simp only [cX6_takesWord_, bX6_takesWord_0, bX6_takesWord_4, bX6_takesWord_7, bX6_takesWord_11, bX6_takesWord_15, bX6_takesWord_18, bX6_takesWord_23, bX6_takesWord_26, bX6_takesWord_31, bX6_takesWord_30, tk1_some, tk0_some, tkc_some, tkc_none, ↓reduceIte, rd_o H, rd_o H1, gf_6_0, r_isT H, r_isT H1, tm_isO, P1, W, P2, not_true, if_false, if_true, tm_rb0, bI_f]
def rEnds (tp : Nat → Int32) (n l : Nat) (z : RSt) : RSt := rStep tp n (rClose l z)
theorem r_ends (H : RdAt h bk n tp z) {l x : Nat} (hl : l < 7) (hx : x = bk + 1 + 2 * l) : ∃ h', tC mX6_ends [.ref 40, .ref x] h = some (h', some (.int 1)) ∧ RdAt h' bk n tp (rEnds tp n l z) ∧ FrR bk h h' := by
  obtain ⟨h1, P1, H1, F1, I⟩ := r_close H hl hx
  obtain ⟨h2, P2, H2, F2⟩ := r_step H1
  refine ⟨h2, ?_, H2, FrR_tr F1 F2⟩
  simp only [cX6_ends_, bX6_ends_0, bX6_ends_4, bX6_ends_8, bX6_ends_11, tk1_some, tk0_some, tkc_some, tkc_none, ↓reduceIte, I, P1, rd_o H1, gf_6_0, r_isT H1, P2, tm_rb1]
def rRoom (l : Nat) (k : Int32) (z : RSt) : Bool × RSt := if lnM l ≤ zC z l then (false, rF z k) else (true, z)
theorem r_room (H : RdAt h bk n tp z) {l x : Nat} {k : Int32} (hl : l < 7) (hx : x = bk + 1 + 2 * l) : ∃ h', tC mX6_hasRoom [.ref 40, .ref x, .int k] h = some (h', some (.int (bI (rRoom l k z).1))) ∧ RdAt h' bk n tp (rRoom l k z).2 ∧ FrR bk h h' := by
  obtain ⟨P, I⟩ := r_full H hl hx
  unfold rRoom
  by_cases d : lnM l ≤ zC z l
  · rw [if_pos d]
    rw [decide_eq_true d, bI_t] at P
    obtain ⟨h2, P2, H2, F2⟩ := r_fails H (k := k)
    refine ⟨h2, ?_, H2, F2⟩
    simp only [cX6_hasRoom_, bX6_hasRoom_0, bX6_hasRoom_4, bX6_hasRoom_7, bX6_hasRoom_12, bX6_hasRoom_15, bX6_hasRoom_20, bX6_hasRoom_19, tk1_some, tk0_some, tkc_some, tkc_none, ↓reduceIte, I, P, rd_o H, tm_isO, P2, show ((1 : Int32) = 0) = False from by decide, if_false, if_true, tm_rb0, bI_f]
  · rw [if_neg d]
    rw [decide_eq_false d, bI_f] at P
    refine ⟨h, ?_, H, FrR_rf _ _⟩
    simp only [cX6_hasRoom_, bX6_hasRoom_0, bX6_hasRoom_4, bX6_hasRoom_7, bX6_hasRoom_12, bX6_hasRoom_15, bX6_hasRoom_20, bX6_hasRoom_19, tk1_some, tk0_some, tkc_some, tkc_none, ↓reduceIte, I, P, if_true, tm_rb1, bI_t]
def isNm (tp : Nat → Int32) (T : Tok) : Bool :=
  if T.2.2 = 1 then (if isWd tp T 0 = true then false else if isWd tp T 1 = true then false else if isWd tp T 2 = true then false else if isWd tp T 3 = true then false else if isWd tp T 4 = true then false else if isWd tp T 5 = true then false else if isWd tp T 6 = true then false else true) else false
theorem r_isName (H : RdAt h bk n tp z) : tC mX6_isName [.ref 40] h = some (h, some (.int (bI (isNm tp (zT z))))) := by
  have w0 := r_isW H (k := 0) (by decide)
  have w1 := r_isW H (k := 1) (by decide)
  have w2 := r_isW H (k := 2) (by decide)
  have w3 := r_isW H (k := 3) (by decide)
  have w4 := r_isW H (k := 4) (by decide)
  have w5 := r_isW H (k := 5) (by decide)
  have w6 := r_isW H (k := 6) (by decide)
  unfold isNm
  by_cases c : (zT z).2.2 = 1
  · simp only [cX6_isName_, bX6_isName_0, bX6_isName_4, bX6_isName_7, bX6_isName_11, bX6_isName_15, bX6_isName_20, bX6_isName_23, bX6_isName_27, bX6_isName_32, bX6_isName_35, bX6_isName_39, bX6_isName_44, bX6_isName_47, bX6_isName_51, bX6_isName_56, bX6_isName_59, bX6_isName_63, bX6_isName_68, bX6_isName_71, bX6_isName_75, bX6_isName_80, bX6_isName_83, bX6_isName_87, bX6_isName_92, bX6_isName_95, bX6_isName_100, bX6_isName_99, tk1_some, tk0_some, tkc_some, tkc_none, ↓reduceIte, rd_o H, gf_6_0, r_isT H, r_sort H, c, not_true, if_false, if_true, w0, w1, w2, w3, w4, w5, w6]
    cases isWd tp (zT z) 0
    · cases isWd tp (zT z) 1
      · cases isWd tp (zT z) 2
        · cases isWd tp (zT z) 3
          · cases isWd tp (zT z) 4
            · cases isWd tp (zT z) 5
              · cases isWd tp (zT z) 6 <;> rfl
              · rfl
            · rfl
          · rfl
        · rfl
      · rfl
    · rfl
  · simp only [cX6_isName_, bX6_isName_0, bX6_isName_4, bX6_isName_7, bX6_isName_11, bX6_isName_15, bX6_isName_20, bX6_isName_23, bX6_isName_27, bX6_isName_32, bX6_isName_35, bX6_isName_39, bX6_isName_44, bX6_isName_47, bX6_isName_51, bX6_isName_56, bX6_isName_59, bX6_isName_63, bX6_isName_68, bX6_isName_71, bX6_isName_75, bX6_isName_80, bX6_isName_83, bX6_isName_87, bX6_isName_92, bX6_isName_95, bX6_isName_100, bX6_isName_99, tk1_some, tk0_some, tkc_some, tkc_none, ↓reduceIte, rd_o H, gf_6_0, r_isT H, r_sort H, c, not_false_eq_true, if_true, if_false, tm_rb0, bI_f]
/-- the place of a name among those told, from the k-th on, r left -/
def ixG (nm : Nat → Int64) (w : Int64) : Nat → Nat → Option Nat
  | 0, _ => none
  | r + 1, k => if lg_cmp (nm k) w = 0 then some k else ixG nm w r (k + 1)
def ixI : Option Nat → Int32
  | some k => nI k
  | none => -1
theorem ixG_b {nm : Nat → Int64} {w : Int64} : ∀ r k j, ixG nm w r k = some j → k ≤ j ∧ j < k + r
  | 0, k, j, h => by cases h
  | r + 1, k, j, h => by
    unfold ixG at h
    split at h
    · cases h; omega
    · have := ixG_b r (k + 1) j h; omega
theorem ix_loop (H : RdAt h bk n tp z) {w : Int64} : ∀ r k, k + r = zN z → tE mX6_nameAtHand 10 [.ref 40, .long w, tm_U, .int (nI k)] [] h = some (h, some (.int (ixI (ixG (zM z) w r k)))) := by
  have hn := rd_nc H
  intro r
  induction r with
  | zero =>
    intro k hk
    obtain rfl : k = zN z := by omega
    simp only [bX6_nameAtHand_10, bX6_nameAtHand_15, bX6_nameAtHand_37, tk1_some, tk0_some, tkc_some, tkc_none, ↓reduceIte, rd_o H, gf_6_3, Int32.le_refl, if_true, ixG, ixI]
  | succ r ih =>
    intro k hk
    have e1 : ¬ nI (zN z) ≤ nI k := nI_ge (by omega) (by omega)
    have e := ih (k + 1) (by omega)
    rw [bX6_nameAtHand_10]
    unfold ixG
    by_cases c : lg_cmp (zM z k) w = 0
    · simp only [bX6_nameAtHand_15, bX6_nameAtHand_18, bX6_nameAtHand_22, bX6_nameAtHand_24, bX6_nameAtHand_29, tk1_some, tk0_some, tkc_some, tkc_none, ↓reduceIte, rd_o H, gf_6_3, gf_6_1, e1, if_false, rd_nm H, tm_aj_in rfl (show k < 22 by omega) (show 22 < 2 ^ 31 by decide), c, not_true, if_true, ixI]
    · simp only [bX6_nameAtHand_15, bX6_nameAtHand_18, bX6_nameAtHand_22, bX6_nameAtHand_24, bX6_nameAtHand_31 (a2 := tm_U) rfl, tk1_some, tk0_some, tkc_some, tkc_none, ↓reduceIte, rd_o H, gf_6_3, gf_6_1, e1, if_false, rd_nm H, tm_aj_in rfl (show k < 22 by omega) (show 22 < 2 ^ 31 by decide), c, not_false_eq_true, if_true, nI_k1, e]
def zW (tp : Nat → Int32) (z : RSt) : Int64 := wnG tp ((zT z).2.1 - (zT z).1) (zT z).1 0
theorem r_wn (H : RdAt h bk n tp z) : tC mX7_wordNumber [.ref 41] h = some (h, some (.long (zW tp z))) := wn_spec (rd_t H) (rd_a H) (rd_s H) (Nat.le_trans (rd_b H) (rd_n H))
def zX (tp : Nat → Int32) (z : RSt) : Option Nat := ixG (zM z) (zW tp z) (zN z) 0
theorem r_ix (H : RdAt h bk n tp z) : tC mX6_nameAtHand [.ref 40] h = some (h, some (.int (ixI (zX tp z)))) := by
  have e := ix_loop H (w := zW tp z) (zN z) 0 (by omega)
  rw [nI_0] at e
  simp only [cX6_nameAtHand_, bX6_nameAtHand_0, bX6_nameAtHand_4, bX6_nameAtHand_7 (a0 := .ref 40) rfl, tk1_some, tk0_some, tkc_some, tkc_none, ↓reduceIte, rd_o H, gf_6_0, r_isT H, r_wn H, e]
  rfl
theorem ixI_n {o : Option Nat} (hb : ∀ j, o = some j → j < 22) : (ixI o = -1) = (o = none) := by
  cases o with
  | none => exact propext ⟨fun _ => rfl, fun _ => rfl⟩
  | some j =>
    have hj := hb j rfl
    refine propext ⟨fun e => ?_, fun e => by cases e⟩
    exact absurd (nI_pos' (show j < 2 ^ 31 by omega)) (by show ¬ 0 ≤ ixI (some j); rw [e]; decide)
theorem zX_b (H : RdAt h bk n tp z) : ∀ j, zX tp z = some j → j < zN z := fun j e => by have := ixG_b _ _ _ e; omega
def rName (tp : Nat → Int32) (n : Nat) (kd : Int32) (z : RSt) : Bool × RSt :=
  if isNm tp (zT (rStep tp n z)) = true then (if zX tp (rStep tp n z) = none then (if zN z < 22 then (true, rN (rStep tp n z) (zN z + 1) (vp_updL (zM z) (zN z) (zW tp (rStep tp n z))) (upd (zK z) (zN z) kd)) else (false, rF (rStep tp n z) 3)) else (false, rF (rStep tp n z) 3)) else (false, rF (rStep tp n z) 1)
theorem r_name (H : RdAt h bk n tp z) {kd : Int32} : ∃ h', tC mX6_takesNewName [.ref 40, .int kd] h = some (h', some (.int (bI (rName tp n kd z).1))) ∧ RdAt h' bk n tp (rName tp n kd z).2 ∧ FrR bk h h' := by
  obtain ⟨h1, P1, H1, F1⟩ := r_step H
  have t0 : 22 < 2 ^ 31 := by decide
  have W := r_isName H1
  have X := r_ix H1
  have n1 : zN (rStep tp n z) = zN z := rfl
  have hn := rd_nc H
  unfold rName
  by_cases d : isNm tp (zT (rStep tp n z)) = true
  · rw [if_pos d]
    rw [d, bI_t] at W
    by_cases c : zX tp (rStep tp n z) = none
    · rw [if_pos c]
      rw [c, show ixI none = -1 from rfl] at X
      by_cases l : zN z < 22
      · rw [if_pos l]
        have l' : nI (zN z) < 22 := nI_lt l t0
        have A2 := Rd_nm H1 (vp_updL (zM z) (zN z) (zW tp (rStep tp n z)))
        have E2 : tm_sj h1 43 (nI (zN z)) (zW tp (rStep tp n z)) = some (tm_up h1 43 (aJ 22 (vp_updL (zM z) (zN z) (zW tp (rStep tp n z))))) := by
          rw [tm_sj_eq (rd_nm H1), tm_sjj_in rfl l t0]; rfl
        have F2 : FrR bk h1 (tm_up h1 43 (aJ 22 (vp_updL (zM z) (zN z) (zW tp (rStep tp n z))))) := FrR_up (by omega)
        generalize tm_up h1 43 (aJ 22 (vp_updL (zM z) (zN z) (zW tp (rStep tp n z)))) = h2 at A2 E2 F2
        have A3 := Rd_kn A2 (upd (zK z) (zN z) kd)
        have E3 : tm_si 0 h2 44 (nI (zN z)) kd = some (tm_up h2 44 (aI 22 (upd (zK z) (zN z) kd))) := by
          rw [tm_si_eq, rd_kn A2, tm_sa_in rfl l t0]; rfl
        have F3 : FrR bk h2 (tm_up h2 44 (aI 22 (upd (zK z) (zN z) kd))) := FrR_up (by omega)
        generalize tm_up h2 44 (aI 22 (upd (zK z) (zN z) kd)) = h3 at A3 E3 F3
        have A4 := Rd_o A3 (zN z + 1) l (zL z) (zF z)
        refine ⟨_, ?_, A4, FrR_tr F1 (FrR_tr F2 (FrR_tr F3 (FrR_up (by omega))))⟩
        have o1 : h1 40 = rdO bk (zN z) (zL z) (zF z) := H1.1
        have o2 : h2 40 = rdO bk (zN z) (zL z) (zF z) := A2.1
        have o3 : h3 40 = rdO bk (zN z) (zL z) (zF z) := A3.1
        simp only [cX6_takesNewName_, bX6_takesNewName_0, bX6_takesNewName_4, bX6_takesNewName_7, bX6_takesNewName_11, bX6_takesNewName_14, bX6_takesNewName_19, bX6_takesNewName_20, bX6_takesNewName_24, bX6_takesNewName_28, bX6_takesNewName_32, bX6_takesNewName_37, bX6_takesNewName_42, bX6_takesNewName_43, bX6_takesNewName_47, bX6_takesNewName_51, bX6_takesNewName_55, bX6_takesNewName_58, bX6_takesNewName_59, bX6_takesNewName_63, bX6_takesNewName_67, bX6_takesNewName_69, bX6_takesNewName_74, bX6_takesNewName_79, tk1_some, tk0_some, tkc_some, tkc_none, ↓reduceIte, rd_o H, o1, o2, o3, gf_6_0, gf_6_1, gf_6_2, gf_6_3, r_isT H, r_isT H1, tm_isO, P1, W, X, l', r_wn H1, E2, E3, show ((1 : Int32) = 0) = False from by decide, not_false_eq_true, not_true, if_false, if_true, tm_pf_eq, ps_6_3, Option.map_some, nI_k1, tm_rb1, bI_t]
      · rw [if_neg l]
        have l' : ¬ nI (zN z) < 22 := nI_nlt (show 22 ≤ zN z by omega) (by omega)
        obtain ⟨h2, P2, H2, F2⟩ := r_fails H1 (k := 3)
        refine ⟨h2, ?_, H2, FrR_tr F1 F2⟩
        have o1 : h1 40 = rdO bk (zN z) (zL z) (zF z) := H1.1
        simp only [cX6_takesNewName_, bX6_takesNewName_0, bX6_takesNewName_4, bX6_takesNewName_7, bX6_takesNewName_11, bX6_takesNewName_14, bX6_takesNewName_19, bX6_takesNewName_20, bX6_takesNewName_24, bX6_takesNewName_28, bX6_takesNewName_32, bX6_takesNewName_37, bX6_takesNewName_42, bX6_takesNewName_43, bX6_takesNewName_47, bX6_takesNewName_51, bX6_takesNewName_55, bX6_takesNewName_58, bX6_takesNewName_59, bX6_takesNewName_63, bX6_takesNewName_67, bX6_takesNewName_69, bX6_takesNewName_74, bX6_takesNewName_79, tk1_some, tk0_some, tkc_some, tkc_none, ↓reduceIte, rd_o H, o1, gf_6_0, gf_6_3, r_isT H, tm_isO, P1, W, X, l', P2, show ((1 : Int32) = 0) = False from by decide, not_false_eq_true, not_true, if_false, if_true, tm_rb0, bI_f]
    · rw [if_neg c]
      have c' : ¬ ixI (zX tp (rStep tp n z)) = -1 := by
        rw [ixI_n (fun j e => by have := zX_b H1 j e; have := rd_nc H1; omega)]; exact c
      obtain ⟨h2, P2, H2, F2⟩ := r_fails H1 (k := 3)
      refine ⟨h2, ?_, H2, FrR_tr F1 F2⟩
      simp only [cX6_takesNewName_, bX6_takesNewName_0, bX6_takesNewName_4, bX6_takesNewName_7, bX6_takesNewName_11, bX6_takesNewName_14, bX6_takesNewName_19, bX6_takesNewName_20, bX6_takesNewName_24, bX6_takesNewName_28, bX6_takesNewName_32, bX6_takesNewName_37, bX6_takesNewName_42, bX6_takesNewName_43, bX6_takesNewName_47, bX6_takesNewName_51, bX6_takesNewName_55, bX6_takesNewName_58, bX6_takesNewName_59, bX6_takesNewName_63, bX6_takesNewName_67, bX6_takesNewName_69, bX6_takesNewName_74, bX6_takesNewName_79, tk1_some, tk0_some, tkc_some, tkc_none, ↓reduceIte, rd_o H, rd_o H1, gf_6_0, r_isT H, tm_isO, P1, W, X, c', P2, show ((1 : Int32) = 0) = False from by decide, not_false_eq_true, if_true, tm_rb0, bI_f]
  · rw [if_neg d]
    rw [Bool.not_eq_true] at d
    rw [d, bI_f] at W
    obtain ⟨h2, P2, H2, F2⟩ := r_fails H1 (k := 1)
    refine ⟨h2, ?_, H2, FrR_tr F1 F2⟩
    simp only [cX6_takesNewName_, bX6_takesNewName_0, bX6_takesNewName_4, bX6_takesNewName_7, bX6_takesNewName_11, bX6_takesNewName_14, bX6_takesNewName_19, bX6_takesNewName_20, bX6_takesNewName_24, bX6_takesNewName_28, bX6_takesNewName_32, bX6_takesNewName_37, bX6_takesNewName_42, bX6_takesNewName_43, bX6_takesNewName_47, bX6_takesNewName_51, bX6_takesNewName_55, bX6_takesNewName_58, bX6_takesNewName_59, bX6_takesNewName_63, bX6_takesNewName_67, bX6_takesNewName_69, bX6_takesNewName_74, bX6_takesNewName_79, tk1_some, tk0_some, tkc_some, tkc_none, ↓reduceIte, rd_o H, rd_o H1, gf_6_0, r_isT H, tm_isO, P1, W, P2, not_true, if_false, tm_rb0, bI_f]
def zD (tp : Nat → Int32) (z : RSt) : Int32 := match zX tp z with | some j => zK z j | none => -1
def rTo (tp : Nat → Int32) (n l : Nat) (z : RSt) : Bool × RSt :=
  if isNm tp (zT (rStep tp n z)) = true then (if 0 < zD tp (rStep tp n z) then (true, rPut l 0 (zD tp (rStep tp n z)) (rStep tp n z)) else (false, rF (rPut l 0 (zD tp (rStep tp n z)) (rStep tp n z)) 2)) else (false, rF (rStep tp n z) 1)
theorem lnC_0 : ∀ l, l < 7 → 0 < lnC l := by decide
theorem r_to (H : RdAt h bk n tp z) {l x : Nat} (hl : l < 7) (hx : x = bk + 1 + 2 * l) : ∃ h', tC mX6_takesKindTurnedTo [.ref 40, .ref x] h = some (h', some (.int (bI (rTo tp n l z).1))) ∧ RdAt h' bk n tp (rTo tp n l z).2 ∧ FrR bk h h' := by
  obtain ⟨h1, P1, H1, F1⟩ := r_step H
  have t0 : 22 < 2 ^ 31 := by decide
  have W := r_isName H1
  have X := r_ix H1
  unfold rTo
  by_cases d : isNm tp (zT (rStep tp n z)) = true
  · rw [if_pos d]
    rw [d, bI_t] at W
    obtain ⟨h2, P2, H2, F2, I⟩ := r_put H1 hl (lnC_0 l hl) hx (ci := 0) rfl (v := zD tp (rStep tp n z))
    have D : ∃ x2 : Value, tC mX6_takesKindTurnedTo [.ref 40, .ref x] h = tE mX6_takesKindTurnedTo 47 [.ref 40, .ref x, x2, .int (zD tp (rStep tp n z))] [] h2 := by
      cases c : zX tp (rStep tp n z) with
      | none =>
        have dd : zD tp (rStep tp n z) = -1 := by unfold zD; rw [c]
        rw [dd] at P2
        rw [c, show ixI none = -1 from rfl] at X
        refine ⟨.int (-1), ?_⟩
        rw [dd]
        simp only [cX6_takesKindTurnedTo_, bX6_takesKindTurnedTo_0, bX6_takesKindTurnedTo_4, bX6_takesKindTurnedTo_7, bX6_takesKindTurnedTo_11, bX6_takesKindTurnedTo_20, bX6_takesKindTurnedTo_24, bX6_takesKindTurnedTo_30, bX6_takesKindTurnedTo_40, tk1_some, tk0_some, tkc_some, tkc_none, ↓reduceIte, rd_o H, rd_o H1, gf_6_0, r_isT H, tm_isO, P1, W, X, I, P2, show ((1 : Int32) = 0) = False from by decide, not_false_eq_true, not_true, if_false, if_true]
      | some j =>
        have dd : zD tp (rStep tp n z) = zK (rStep tp n z) j := by unfold zD; rw [c]
        have hj := zX_b H1 j c
        have hn := rd_nc H1
        rw [dd] at P2
        have c' : ¬ ixI (zX tp (rStep tp n z)) = -1 := by
          rw [ixI_n (fun j e => by have := zX_b H1 j e; omega), c]; exact fun y => by cases y
        rw [c] at X c'
        refine ⟨.int (nI j), ?_⟩
        rw [dd]
        have kj : tm_ai 0 (h1 44) (ixI (some j)) = some (.int (zK (rStep tp n z) j)) := by rw [rd_kn H1]; exact tm_ai_in rfl (by omega) t0
        simp only [cX6_takesKindTurnedTo_, bX6_takesKindTurnedTo_0, bX6_takesKindTurnedTo_4, bX6_takesKindTurnedTo_7, bX6_takesKindTurnedTo_11, bX6_takesKindTurnedTo_20, bX6_takesKindTurnedTo_24, bX6_takesKindTurnedTo_34, bX6_takesKindTurnedTo_38, bX6_takesKindTurnedTo_40, tk1_some, tk0_some, tkc_some, tkc_none, ↓reduceIte, rd_o H, rd_o H1, gf_6_0, gf_6_2, r_isT H, tm_isO, P1, W, X, c', kj, I, P2, show ((1 : Int32) = 0) = False from by decide, not_false_eq_true, if_false, if_true]
        rfl
    obtain ⟨x2, D⟩ := D
    rw [D]
    by_cases e : 0 < zD tp (rStep tp n z)
    · rw [if_pos e]
      refine ⟨h2, ?_, H2, FrR_tr F1 F2⟩
      simp only [bX6_takesKindTurnedTo_47, bX6_takesKindTurnedTo_59, bX6_takesKindTurnedTo_64, e, if_true, tm_rb1, bI_t]
    · rw [if_neg e]
      obtain ⟨h3, P3, H3, F3⟩ := r_fails H2 (k := 2)
      refine ⟨h3, ?_, H3, FrR_tr F1 (FrR_tr F2 F3)⟩
      simp only [bX6_takesKindTurnedTo_47, bX6_takesKindTurnedTo_51, bX6_takesKindTurnedTo_56, bX6_takesKindTurnedTo_63, bX6_takesKindTurnedTo_64, tk1_some, tk0_some, tkc_some, tkc_none, ↓reduceIte, e, if_false, rd_o H2, tm_isO, P3, if_true, tm_rb0, bI_f]
  · rw [if_neg d]
    rw [Bool.not_eq_true] at d
    rw [d, bI_f] at W
    obtain ⟨h2, P2, H2, F2⟩ := r_fails H1 (k := 1)
    refine ⟨h2, ?_, H2, FrR_tr F1 F2⟩
    simp only [cX6_takesKindTurnedTo_, bX6_takesKindTurnedTo_0, bX6_takesKindTurnedTo_4, bX6_takesKindTurnedTo_7, bX6_takesKindTurnedTo_11, bX6_takesKindTurnedTo_14, bX6_takesKindTurnedTo_19, bX6_takesKindTurnedTo_20, bX6_takesKindTurnedTo_24, bX6_takesKindTurnedTo_30, bX6_takesKindTurnedTo_40, bX6_takesKindTurnedTo_47, bX6_takesKindTurnedTo_51, bX6_takesKindTurnedTo_56, bX6_takesKindTurnedTo_59, bX6_takesKindTurnedTo_64, bX6_takesKindTurnedTo_63, bX6_takesKindTurnedTo_34, bX6_takesKindTurnedTo_38, tk1_some, tk0_some, tkc_some, tkc_none, ↓reduceIte, rd_o H, rd_o H1, gf_6_0, r_isT H, tm_isO, P1, W, P2, not_true, if_false, tm_rb0, bI_f]
end RD
