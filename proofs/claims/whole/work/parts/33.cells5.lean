/-! CELLS of the class: a cell turns, a tenth goes by -/
def turnA (t2 : Nat → Int32) (wp : Int32) (tenth : Nat) (A : Nat → Nat → Int32) (turned k kd : Nat) : Nat → Nat → Int32 :=
  upA (upA (upA (upA (upA A 2 (upd (A 2) k (nI kd))) 3 (upd (A 3) k (t2 (kd * 3 + 1)))) 4 (upd (A 4) k (t2 (kd * 3 + 2) * wp))) 6 (upd (A 6) k (nI tenth))) 7 (upd (A 7) turned (nI k))
theorem upA_comm (A : Nat → Nat → Int32) {m n : Nat} (f g : Nat → Int32) (hn : m ≠ n) : upA (upA A m f) n g = upA (upA A n g) m f := by
  funext x; unfold upA
  by_cases e : x = n
  · subst e; rw [if_pos rfl, if_neg (fun y => hn y.symm), if_pos rfl]
  · rw [if_neg e, if_neg e]
section CE7
variable {h : tm_H} {c : Nat} {A : Nat → Nat → Int32} {p q bk cuts w : Nat} {sq water : Int32} {tenth turned : Nat} {crk : Int32} {lo hi' : Int32} {cnt : Nat → Nat} {tab : Nat → Nat → Int32}
theorem turnC_spec (H : CAt h c A p q bk cuts w sq water tenth turned crk) (K : BkAt h bk lo hi' cnt tab) (hd : bk + 14 < c ∨ c + 10 < bk) {k kd : Nat} (hk : k < 40) (hkd : kd < cnt 2) (ht : turned < 40) : ∃ h', tC mX4_turnCell [.ref c, .int (nI k), .int (nI kd)] h = some (h', none) ∧ CAt h' c (turnA (tab 2) (nI w * sq) tenth A turned k kd) p q bk cuts w sq water tenth (turned + 1) crk ∧ Fr c h h' := by
  have t0 : 40 < 2 ^ 31 := by decide
  have e1 : ¬ (40 : Int32) ≤ nI turned := fun y => (nI_ge ht t0) y
  have F1 : Fr c h (tm_up h (c + 1 + 2) (aI 40 (upd (A 2) k (nI kd)))) := Fr_up (by omega) (by omega)
  have H1 := CAt_arr H (show 2 < 8 by decide) (upd (A 2) k (nI kd))
  have K1 := BkAt_fr K F1 hd
  generalize hh1 : tm_up h (c + 1 + 2) (aI 40 (upd (A 2) k (nI kd))) = h1 at F1 H1 K1
  have F2 : Fr c h1 (tm_up h1 (c + 1 + 3) (aI 40 (upd (A 3) k (tab 2 (kd * 3 + 1))))) := Fr_up (by omega) (by omega)
  have H2 := CAt_arr H1 (show 3 < 8 by decide) (upd (A 3) k (tab 2 (kd * 3 + 1)))
  have K2 := BkAt_fr K1 F2 hd
  generalize hh2 : tm_up h1 (c + 1 + 3) (aI 40 (upd (A 3) k (tab 2 (kd * 3 + 1)))) = h2 at F2 H2 K2
  have F3 : Fr c h2 (tm_up h2 (c + 1 + 4) (aI 40 (upd (A 4) k (tab 2 (kd * 3 + 2) * (nI w * sq))))) := Fr_up (by omega) (by omega)
  have H3 := CAt_arr H2 (show 4 < 8 by decide) (upd (A 4) k (tab 2 (kd * 3 + 2) * (nI w * sq)))
  generalize hh3 : tm_up h2 (c + 1 + 4) (aI 40 (upd (A 4) k (tab 2 (kd * 3 + 2) * (nI w * sq)))) = h3 at F3 H3
  have F4 : Fr c h3 (tm_up h3 (c + 1 + 6) (aI 40 (upd (A 6) k (nI tenth)))) := Fr_up (by omega) (by omega)
  have H4 := CAt_arr H3 (show 6 < 8 by decide) (upd (A 6) k (nI tenth))
  generalize hh4 : tm_up h3 (c + 1 + 6) (aI 40 (upd (A 6) k (nI tenth))) = h4 at F4 H4
  have F5 : Fr c h4 (tm_up h4 (c + 1 + 7) (aI 40 (upd (A 7) turned (nI k)))) := Fr_up (by omega) (by omega)
  have H5 := CAt_arr H4 (show 7 < 8 by decide) (upd (A 7) turned (nI k))
  generalize hh5 : tm_up h4 (c + 1 + 7) (aI 40 (upd (A 7) turned (nI k))) = h5 at F5 H5
  have F6 : Fr c h5 (tm_up h5 c (cO c p q bk cuts w sq water tenth (turned + 1) crk)) := Fr_up (by omega) (by omega)
  have H6 := CAt_o H5 water tenth (turned + 1) crk
  refine ⟨_, ?_, H6, Fr_tr F1 (Fr_tr F2 (Fr_tr F3 (Fr_tr F4 (Fr_tr F5 F6))))⟩
  have s1 : (tm_si 0 h (c + 3) (nI k) (nI kd)) = some h1 := by
    rw [tm_si_eq, ca_2 H, tm_sa_in rfl hk t0, ← hh1]; rfl
  have s2 : (tm_si 0 h1 (c + 4) (nI k) (tab 2 (kd * 3 + 1))) = some h2 := by
    rw [tm_si_eq, ca_3 H1, tm_sa_in rfl hk t0, ← hh2]; rfl
  have s3 : (tm_si 0 h2 (c + 5) (nI k) (tab 2 (kd * 3 + 2) * (nI w * sq))) = some h3 := by
    rw [tm_si_eq, ca_4 H2, tm_sa_in rfl hk t0, ← hh3]; rfl
  have s4 : (tm_si 0 h3 (c + 7) (nI k) (nI tenth)) = some h4 := by
    rw [tm_si_eq, ca_6 H3, tm_sa_in rfl hk t0, ← hh4]; rfl
  have s5 : (tm_si 0 h4 (c + 8) (nI turned) (nI k)) = some h5 := by
    rw [tm_si_eq, ca_7 H4, tm_sa_in rfl ht t0, ← hh5]; rfl
  have b1 := bk_at2 K1 (r := nI kd) (c := 1) (c' := 1) rfl rfl hkd (by decide)
  have b2 := bk_at2 K2 (r := nI kd) (c := 2) (c' := 2) rfl rfl hkd (by decide)
  simp only [cX4_turnCell_, bX4_turnCell_0, bX4_turnCell_4, bX4_turnCell_9, bX4_turnCell_13, bX4_turnCell_16, bX4_turnCell_20, bX4_turnCell_25, bX4_turnCell_28, bX4_turnCell_33, bX4_turnCell_34, bX4_turnCell_38, bX4_turnCell_43, bX4_turnCell_46, bX4_turnCell_51, bX4_turnCell_55, bX4_turnCell_57, bX4_turnCell_61, bX4_turnCell_66, bX4_turnCell_67, bX4_turnCell_71, bX4_turnCell_75, bX4_turnCell_77, bX4_turnCell_82, bX4_turnCell_87, tk1_some, tk0_some, tkc_some, tkc_none, ↓reduceIte, ca_o H, ca_o H1, ca_o H2, ca_o H3, ca_o H4, ca_o H5, gf_4_16, gf_4_2, gf_4_3, gf_4_4, gf_4_6, gf_4_7, gf_4_10, gf_4_15, e1, if_false, s1, s2, s3, s4, s5, bk_o K1, bk_o K2, gf_3_2, bk_l2 K1, bk_l2 K2, tm_isO, b1, b2, ce_wp H2, tm_pf_eq, ps_4_16, Option.map_some, nI_k1]
end CE7
