/-! CELLS of the class: a cell turns, a tenth goes by -/
def turnA (t2 : Nat → Int32) (wp : Int32) (tenth : Nat) (A : Nat → Nat → Int32) (turned k kd : Nat) : Nat → Nat → Int32 :=
  upA (upA (upA (upA (upA A 2 (upd (A 2) k (nI kd))) 3 (upd (A 3) k (t2 (kd * 3 + 1)))) 4 (upd (A 4) k (t2 (kd * 3 + 2) * wp))) 6 (upd (A 6) k (nI tenth))) 7 (upd (A 7) turned (nI k))
theorem upA_comm (A : Nat → Nat → Int32) {m n : Nat} (f g : Nat → Int32) (hn : m ≠ n) : upA (upA A m f) n g = upA (upA A n g) m f := by
  funext x; unfold upA
  by_cases e : x = n
  · subst e; rw [if_pos rfl, if_neg (fun y => hn y.symm), if_pos rfl]
  · rw [if_neg e, if_neg e]
section CE7
variable {h : tm_H} {c : Nat} {A : Nat → Nat → Int32} {p q bk cuts w : Nat} {sq water : Int32} {tenth turned : Nat} {crk : Int32} {lo hi' : Int32} {cnt : Nat → Nat} {tab : Nat → Nat → Int32}
theorem turnC_spec (H : CAt h c A p q bk cuts w sq water tenth turned crk) (K : BkAt h bk lo hi' cnt tab) (hd : bk + 14 < c ∨ c + 10 < bk) {k kd : Nat} (hk : k < 40) (hkd : kd < cnt 2) (ht : turned < 40) : ∃ h', tC mX4_turnCell [.ref c, .int (nI k), .int (nI kd)] h = some (h', none) ∧ CAt h' c (turnA (tab 2) (nI w * sq) tenth A turned k kd) p q bk cuts w sq water tenth (turned + 1) crk ∧ Fr c h h' := by
  have t0 : 40 < 2 ^ 31 := by decide
  have e1 : ¬ (40 : Int32) ≤ nI turned := fun y => (nI_ge ht t0) y
  have F1 : Fr c h (tm_up h (c + 1 + 2) (aI 40 (upd (A 2) k (nI kd)))) := Fr_up (by omega) (by omega)
  have H1 := CAt_arr H (show 2 < 8 by decide) (upd (A 2) k (nI kd))
  have K1 := BkAt_fr K F1 hd
  generalize hh1 : tm_up h (c + 1 + 2) (aI 40 (upd (A 2) k (nI kd))) = h1 at F1 H1 K1
  have F2 : Fr c h1 (tm_up h1 (c + 1 + 3) (aI 40 (upd (A 3) k (tab 2 (kd * 3 + 1))))) := Fr_up (by omega) (by omega)
  have H2 := CAt_arr H1 (show 3 < 8 by decide) (upd (A 3) k (tab 2 (kd * 3 + 1)))
  have K2 := BkAt_fr K1 F2 hd
  generalize hh2 : tm_up h1 (c + 1 + 3) (aI 40 (upd (A 3) k (tab 2 (kd * 3 + 1)))) = h2 at F2 H2 K2
  have F3 : Fr c h2 (tm_up h2 (c + 1 + 4) (aI 40 (upd (A 4) k (tab 2 (kd * 3 + 2) * (nI w * sq))))) := Fr_up (by omega) (by omega)
  have H3 := CAt_arr H2 (show 4 < 8 by decide) (upd (A 4) k (tab 2 (kd * 3 + 2) * (nI w * sq)))
  generalize hh3 : tm_up h2 (c + 1 + 4) (aI 40 (upd (A 4) k (tab 2 (kd * 3 + 2) * (nI w * sq)))) = h3 at F3 H3
  have F4 : Fr c h3 (tm_up h3 (c + 1 + 6) (aI 40 (upd (A 6) k (nI tenth)))) := Fr_up (by omega) (by omega)
  have H4 := CAt_arr H3 (show 6 < 8 by decide) (upd (A 6) k (nI tenth))
  generalize hh4 : tm_up h3 (c + 1 + 6) (aI 40 (upd (A 6) k (nI tenth))) = h4 at F4 H4
  have F5 : Fr c h4 (tm_up h4 (c + 1 + 7) (aI 40 (upd (A 7) turned (nI k)))) := Fr_up (by omega) (by omega)
  have H5 := CAt_arr H4 (show 7 < 8 by decide) (upd (A 7) turned (nI k))
  generalize hh5 : tm_up h4 (c + 1 + 7) (aI 40 (upd (A 7) turned (nI k))) = h5 at F5 H5
  have F6 : Fr c h5 (tm_up h5 c (cO c p q bk cuts w sq water tenth (turned + 1) crk)) := Fr_up (by omega) (by omega)
  have H6 := CAt_o H5 water tenth (turned + 1) crk
  refine ⟨_, ?_, H6, Fr_tr F1 (Fr_tr F2 (Fr_tr F3 (Fr_tr F4 (Fr_tr F5 F6))))⟩
  have s1 : (tm_si 0 h (c + 3) (nI k) (nI kd)) = some h1 := by
    rw [tm_si_eq, ca_2 H, tm_sa_in rfl hk t0, ← hh1]; rfl
  have s2 : (tm_si 0 h1 (c + 4) (nI k) (tab 2 (kd * 3 + 1))) = some h2 := by
    rw [tm_si_eq, ca_3 H1, tm_sa_in rfl hk t0, ← hh2]; rfl
  have s3 : (tm_si 0 h2 (c + 5) (nI k) (tab 2 (kd * 3 + 2) * (nI w * sq))) = some h3 := by
    rw [tm_si_eq, ca_4 H2, tm_sa_in rfl hk t0, ← hh3]; rfl
  have s4 : (tm_si 0 h3 (c + 7) (nI k) (nI tenth)) = some h4 := by
    rw [tm_si_eq, ca_6 H3, tm_sa_in rfl hk t0, ← hh4]; rfl
  have s5 : (tm_si 0 h4 (c + 8) (nI turned) (nI k)) = some h5 := by
    rw [tm_si_eq, ca_7 H4, tm_sa_in rfl ht t0, ← hh5]; rfl
  have b1 := bk_at2 K1 (r := nI kd) (c := 1) (c' := 1) rfl rfl hkd (by decide)
  have b2 := bk_at2 K2 (r := nI kd) (c := 2) (c' := 2) rfl rfl hkd (by decide)
  simp only [cX4_turnCell_, bX4_turnCell_0, bX4_turnCell_4, bX4_turnCell_9, bX4_turnCell_13, bX4_turnCell_16, bX4_turnCell_20, bX4_turnCell_25, bX4_turnCell_28, bX4_turnCell_33, bX4_turnCell_34, bX4_turnCell_38, bX4_turnCell_43, bX4_turnCell_46, bX4_turnCell_51, bX4_turnCell_55, bX4_turnCell_57, bX4_turnCell_61, bX4_turnCell_66, bX4_turnCell_67, bX4_turnCell_71, bX4_turnCell_75, bX4_turnCell_77, bX4_turnCell_82, bX4_turnCell_87, tk1_some, tk0_some, tkc_some, tkc_none, ↓reduceIte, ca_o H, ca_o H1, ca_o H2, ca_o H3, ca_o H4, ca_o H5, gf_4_16, gf_4_2, gf_4_3, gf_4_4, gf_4_6, gf_4_7, gf_4_10, gf_4_15, e1, if_false, s1, s2, s3, s4, s5, bk_o K1, bk_o K2, gf_3_2, bk_l2 K1, bk_l2 K2, tm_isO, b1, b2, ce_wp H2, tm_pf_eq, ps_4_16, Option.map_some, nI_k1]
end CE7
def iN (x : Int32) : Nat := x.toInt.toNat
theorem iN_nI {k : Nat} (hk : k < 2 ^ 31) : iN (nI k) = k := by
  unfold iN nI
  rw [Int32.toInt_ofNat_of_lt hk]; rfl
/-- a book that can be worked by -/
def BkF (lo hi : Int32) (cnt : Nat → Nat) (tab : Nat → Nat → Int32) : Prop :=
  0 < cnt 0 ∧ 0 < cnt 1 ∧ 0 < cnt 2 ∧ (∀ t, t < cnt 3 → ∃ kd, kd < cnt 2 ∧ tab 3 (t * 3) = nI kd) ∧ (∀ t, t < cnt 3 → lo ≤ tab 3 (t * 3 + 1)) ∧ (∀ t, t < cnt 3 → tab 3 (t * 3 + 1) ≤ hi)
theorem turnG_kd {f : Nat → Int32} {n m : Nat} (hm : 0 < m) (hf : ∀ t, t < n → ∃ kd, kd < m ∧ f (t * 3) = nI kd) {a b : Int32} : ∀ r k, k + r = n → ∃ kd, kd < m ∧ turnG f a b r k = nI kd
  | 0, _, _ => ⟨0, hm, rfl⟩
  | r + 1, k, hk => by
    have e := turnG_kd hm hf (a := a) (b := b) r (k + 1) (by omega)
    unfold turnG
    split
    · exact e
    · split
      · exact e
      · split
        · exact e
        · exact hf k (by omega)
theorem turnS_kd {f : Nat → Int32} {n m : Nat} (hm : 0 < m) (hf : ∀ t, t < n → ∃ kd, kd < m ∧ f (t * 3) = nI kd) {a b : Int32} : ∃ kd, kd < m ∧ turnS f n a b = nI kd := by
  unfold turnS
  split
  · exact ⟨0, hm, rfl⟩
  · exact turnG_kd hm hf n 0 (by omega)
def kndS (cnt : Nat → Nat) (tab A : Nat → Nat → Int32) (k : Nat) : Int32 := if A 2 k = 0 then turnS (tab 3) (cnt 3) (A 9 k) (A 8 k) else 0
def stepT (cnt : Nat → Nat) (tab : Nat → Nat → Int32) (wp : Int32) (tenth k : Nat) (s : (Nat → Nat → Int32) × Nat) : (Nat → Nat → Int32) × Nat :=
  if kndS cnt tab s.1 k = 0 then s else if s.2 < 40 then (turnA (tab 2) wp tenth s.1 s.2 k (iN (kndS cnt tab s.1 k)), s.2 + 1) else s
def rowT (cnt : Nat → Nat) (tab : Nat → Nat → Int32) (wp : Int32) (tenth i : Nat) : Nat → Nat → (Nat → Nat → Int32) × Nat → (Nat → Nat → Int32) × Nat
  | 0, _, s => s
  | r + 1, j, s => rowT cnt tab wp tenth i r (j + 1) (stepT cnt tab wp tenth (i * 5 + j) s)
section CE8
variable {c : Nat} {p q bk cuts w : Nat} {sq water : Int32} {tenth : Nat} {lo hi' : Int32} {cnt : Nat → Nat} {tab : Nat → Nat → Int32}
theorem turnC_no {h : tm_H} {A : Nat → Nat → Int32} {turned : Nat} {crk : Int32} (H : CAt h c A p q bk cuts w sq water tenth turned crk) {k kd : Int32} (ht : ¬ turned < 40) (ht2 : turned < 2 ^ 31) : tC mX4_turnCell [.ref c, .int k, .int kd] h = some (h, none) := by
  have e1 : (40 : Int32) ≤ nI turned := (nI_leI (show 40 < 2 ^ 31 by decide) ht2).mpr (by omega)
  simp only [cX4_turnCell_, bX4_turnCell_0, bX4_turnCell_4, bX4_turnCell_9, bX4_turnCell_13, bX4_turnCell_16, bX4_turnCell_20, bX4_turnCell_25, bX4_turnCell_28, bX4_turnCell_33, bX4_turnCell_34, bX4_turnCell_38, bX4_turnCell_43, bX4_turnCell_46, bX4_turnCell_51, bX4_turnCell_55, bX4_turnCell_57, bX4_turnCell_61, bX4_turnCell_66, bX4_turnCell_67, bX4_turnCell_71, bX4_turnCell_75, bX4_turnCell_77, bX4_turnCell_82, bX4_turnCell_87, tk1_some, tk0_some, tkc_some, tkc_none, ↓reduceIte, ca_o H, gf_4_16, e1, if_true]
theorem rowT_loop (B : BkF lo hi' cnt tab) (hd : bk + 14 < c ∨ c + 10 < bk) {i : Nat} (hi : i < cuts) {x1 : Value} {mv : Int32} : ∀ r j x5 x6 h A turned crk, CAt h c A p q bk cuts w sq water tenth turned crk → BkAt h bk lo hi' cnt tab → turned ≤ 40 → j + r = w → ∃ h' y5 y6, tE mX4_coolOnce 53 [.ref c, x1, .int mv, .int (nI i), .int (nI j), x5, x6] [] h = tE mX4_coolOnce 126 [.ref c, x1, .int mv, .int (nI i), .int (nI w), y5, y6] [] h' ∧ CAt h' c (rowT cnt tab (nI w * sq) tenth i r j (A, turned)).1 p q bk cuts w sq water tenth (rowT cnt tab (nI w * sq) tenth i r j (A, turned)).2 crk ∧ Fr c h h' ∧ (rowT cnt tab (nI w * sq) tenth i r j (A, turned)).2 ≤ 40 := by
  have t0 : 40 < 2 ^ 31 := by decide
  intro r
  induction r with
  | zero =>
    intro j x5 x6 h A turned crk H K ht hj
    obtain rfl : j = w := by omega
    refine ⟨h, x5, x6, ?_, H, Fr_rf c h, ht⟩
    rw [bX4_coolOnce_53]
    simp only [bX4_coolOnce_59, tk1_some, tk0_some, tkc_some, tkc_none, ↓reduceIte, ca_o H, gf_4_12, Int32.le_refl, if_true]
  | succ r ih =>
    intro j x5 x6 h A turned crk H K ht hj
    have hw := ca_w H
    have hc := ca_c H
    have e1 : ¬ nI w ≤ nI j := nI_ge (by omega) (by omega)
    have hk : i * 5 + j < 40 := by omega
    have T := turn_spec K B.2.2.2.2.1 B.2.2.2.2.2 (ahead := A 9 (i * 5 + j)) (now := A 8 (i * 5 + j))
    obtain ⟨kd, hkd, ekd⟩ := turnS_kd B.2.2.1 B.2.2.2.1 (a := A 9 (i * 5 + j)) (b := A 8 (i * 5 + j))
    have hc2 := bk_c2 K
    rw [bX4_coolOnce_53]
    unfold rowT
    by_cases z : kndS cnt tab A (i * 5 + j) = 0
    · rw [show stepT cnt tab (nI w * sq) tenth (i * 5 + j) (A, turned) = (A, turned) from by unfold stepT; exact if_pos z]
      obtain ⟨h', y5, y6, q1, q2, q3, q4⟩ := ih (j + 1) (.int (nI (i * 5 + j))) (.int 0) h A turned crk H K ht (by omega)
      refine ⟨h', y5, y6, ?_, q2, q3, q4⟩
      rw [← q1]
      unfold kndS at z
      by_cases a0 : A 2 (i * 5 + j) = 0
      · rw [if_pos a0] at z
        rw [z] at T
        simp only [bX4_coolOnce_4, bX4_coolOnce_10, bX4_coolOnce_13, bX4_coolOnce_18, bX4_coolOnce_23, bX4_coolOnce_28, bX4_coolOnce_37, bX4_coolOnce_40, bX4_coolOnce_45, bX4_coolOnce_48, bX4_coolOnce_50, bX4_coolOnce_59, bX4_coolOnce_62, bX4_coolOnce_74, bX4_coolOnce_77, bX4_coolOnce_80, bX4_coolOnce_84, bX4_coolOnce_88, bX4_coolOnce_91, bX4_coolOnce_95, bX4_coolOnce_98, bX4_coolOnce_101, bX4_coolOnce_105, bX4_coolOnce_112, bX4_coolOnce_120, bX4_coolOnce_104, bX4_coolOnce_131, bX4_coolOnce_136, bX4_coolOnce_142, tk1_some, tk0_some, tkc_some, tkc_none, ↓reduceIte, ca_o H, gf_4_12, gf_4_2, gf_4_10, gf_4_9, gf_4_8, e1, if_false, if_true, not_true, i5j, ca_2 H, ca_p H, ca_q H, tm_ai_in rfl hk t0, a0, bk_o K, tm_isO, T, nI_k1]
      · simp only [bX4_coolOnce_4, bX4_coolOnce_10, bX4_coolOnce_13, bX4_coolOnce_18, bX4_coolOnce_23, bX4_coolOnce_28, bX4_coolOnce_37, bX4_coolOnce_40, bX4_coolOnce_45, bX4_coolOnce_48, bX4_coolOnce_50, bX4_coolOnce_59, bX4_coolOnce_62, bX4_coolOnce_74, bX4_coolOnce_77, bX4_coolOnce_80, bX4_coolOnce_84, bX4_coolOnce_88, bX4_coolOnce_91, bX4_coolOnce_95, bX4_coolOnce_98, bX4_coolOnce_101, bX4_coolOnce_105, bX4_coolOnce_112, bX4_coolOnce_120, bX4_coolOnce_104, bX4_coolOnce_131, bX4_coolOnce_136, bX4_coolOnce_142, tk1_some, tk0_some, tkc_some, tkc_none, ↓reduceIte, ca_o H, gf_4_12, gf_4_2, e1, if_false, if_true, not_false_eq_true, i5j, ca_2 H, tm_ai_in rfl hk t0, a0, nI_k1]
    · have a0 : A 2 (i * 5 + j) = 0 := by
        refine Classical.byContradiction fun y => z ?_
        unfold kndS; exact if_neg y
      have z1 : kndS cnt tab A (i * 5 + j) = nI kd := by unfold kndS; rw [if_pos a0]; exact ekd
      have z2 : ¬ nI kd = 0 := by rw [← z1]; exact z
      rw [ekd] at T
      by_cases t4 : turned < 40
      · rw [show stepT cnt tab (nI w * sq) tenth (i * 5 + j) (A, turned) = (turnA (tab 2) (nI w * sq) tenth A turned (i * 5 + j) kd, turned + 1) from by unfold stepT; rw [if_neg z, if_pos t4, z1, iN_nI (by omega)]]
        obtain ⟨h1, r1, r2, r3⟩ := turnC_spec H K hd hk hkd t4
        obtain ⟨h', y5, y6, q1, q2, q3, q4⟩ := ih (j + 1) (.int (nI (i * 5 + j))) (.int (nI kd)) h1 _ (turned + 1) crk r2 (BkAt_fr K r3 hd) (by omega) (by omega)
        refine ⟨h', y5, y6, ?_, q2, Fr_tr r3 q3, q4⟩
        rw [← q1]
        simp only [bX4_coolOnce_4, bX4_coolOnce_10, bX4_coolOnce_13, bX4_coolOnce_18, bX4_coolOnce_23, bX4_coolOnce_28, bX4_coolOnce_37, bX4_coolOnce_40, bX4_coolOnce_45, bX4_coolOnce_48, bX4_coolOnce_50, bX4_coolOnce_59, bX4_coolOnce_62, bX4_coolOnce_74, bX4_coolOnce_77, bX4_coolOnce_80, bX4_coolOnce_84, bX4_coolOnce_88, bX4_coolOnce_91, bX4_coolOnce_95, bX4_coolOnce_98, bX4_coolOnce_101, bX4_coolOnce_105, bX4_coolOnce_112, bX4_coolOnce_120, bX4_coolOnce_104, bX4_coolOnce_131, bX4_coolOnce_136, bX4_coolOnce_142, tk1_some, tk0_some, tkc_some, tkc_none, ↓reduceIte, ca_o H, gf_4_12, gf_4_2, gf_4_10, gf_4_9, gf_4_8, e1, if_false, if_true, not_true, i5j, ca_2 H, ca_p H, ca_q H, tm_ai_in rfl hk t0, a0, bk_o K, tm_isO, T, z2, r1, nI_k1]
      · rw [show stepT cnt tab (nI w * sq) tenth (i * 5 + j) (A, turned) = (A, turned) from by unfold stepT; rw [if_neg z, if_neg t4]]
        obtain ⟨h', y5, y6, q1, q2, q3, q4⟩ := ih (j + 1) (.int (nI (i * 5 + j))) (.int (nI kd)) h A turned crk H K ht (by omega)
        refine ⟨h', y5, y6, ?_, q2, q3, q4⟩
        rw [← q1]
        simp only [bX4_coolOnce_4, bX4_coolOnce_10, bX4_coolOnce_13, bX4_coolOnce_18, bX4_coolOnce_23, bX4_coolOnce_28, bX4_coolOnce_37, bX4_coolOnce_40, bX4_coolOnce_45, bX4_coolOnce_48, bX4_coolOnce_50, bX4_coolOnce_59, bX4_coolOnce_62, bX4_coolOnce_74, bX4_coolOnce_77, bX4_coolOnce_80, bX4_coolOnce_84, bX4_coolOnce_88, bX4_coolOnce_91, bX4_coolOnce_95, bX4_coolOnce_98, bX4_coolOnce_101, bX4_coolOnce_105, bX4_coolOnce_112, bX4_coolOnce_120, bX4_coolOnce_104, bX4_coolOnce_131, bX4_coolOnce_136, bX4_coolOnce_142, tk1_some, tk0_some, tkc_some, tkc_none, ↓reduceIte, ca_o H, gf_4_12, gf_4_2, gf_4_10, gf_4_9, gf_4_8, e1, if_false, if_true, not_true, i5j, ca_2 H, ca_p H, ca_q H, tm_ai_in rfl hk t0, a0, bk_o K, tm_isO, T, z2, turnC_no H t4 (by omega), nI_k1]
end CE8
