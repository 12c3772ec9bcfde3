/-! ANY TENTH AGAIN: what lies outside the bar does not count, the order too; the reference's again -/
def Orr (tn : Nat) (A B : Nat → Nat → Int32) : Prop := ∀ k, k < tn → A 7 k = B 7 k
section O1
variable {cnt : Nat → Nat} {tab : Nat → Nat → Int32} {cuts w : Nat} {sq water wp : Int32}
theorem turnA_7 {t2 : Nat → Int32} {A : Nat → Nat → Int32} {tenth tn k kd : Nat} : turnA t2 wp tenth A tn k kd 7 = upd (A 7) tn (nI k) := by
  unfold turnA; rw [upA_same]
theorem stepT_o {i j tenth tn : Nat} {A B : Nat → Nat → Int32} (hi : i < cuts) (hj : j < w) (E : EqR cuts w (i + 1) A B) (O : Orr tn A B) : Orr (stepT cnt tab wp tenth (i * 5 + j) (A, tn)).2 (stepT cnt tab wp tenth (i * 5 + j) (A, tn)).1 (stepT cnt tab wp tenth (i * 5 + j) (B, tn)).1 := by
  have k : kndS cnt tab A (i * 5 + j) = kndS cnt tab B (i * 5 + j) := by
    unfold kndS
    rw [E.2.1 i j hi hj, E.2.2.2.2.2.2.1 i j (by omega) hj, E.2.2.2.2.2.2.2 i j hi hj]
  unfold stepT
  simp only [k]
  split
  · exact O
  · split
    · intro x hx
      dsimp only
      rw [turnA_7, turnA_7]
      by_cases d : x = tn
      · subst d; rw [upd_at, upd_at]
      · rw [upd_off d, upd_off d]; exact O x (by have : x < tn + 1 := hx; omega)
    · exact O
theorem rowT_o {i tenth : Nat} (hi : i < cuts) : ∀ r j (A B : Nat → Nat → Int32) tn, j + r = w → EqR cuts w (i + 1) A B → Orr tn A B → Orr (rowT cnt tab wp tenth i r j (A, tn)).2 (rowT cnt tab wp tenth i r j (A, tn)).1 (rowT cnt tab wp tenth i r j (B, tn)).1
  | 0, j, A, B, tn, _, _, O => O
  | r + 1, j, A, B, tn, h, E, O => by
    obtain ⟨a, b⟩ := stepT_c (tn := tn) (cnt := cnt) (tab := tab) (wp := wp) (tenth := tenth) hi (show j < w by omega) E
    have o := stepT_o (cnt := cnt) (tab := tab) (wp := wp) (tenth := tenth) hi (show j < w by omega) E O
    unfold rowT
    generalize stepT cnt tab wp tenth (i * 5 + j) (A, tn) = s at a b o
    generalize stepT cnt tab wp tenth (i * 5 + j) (B, tn) = t at a b o
    obtain ⟨s1, s2⟩ := s
    obtain ⟨t1, t2⟩ := t
    obtain rfl : s2 = t2 := b
    exact rowT_o hi r (j + 1) s1 t1 s2 (by omega) a o
theorem cutT_o {i tenth : Nat} (hw : w ≤ 5) (hi : i < cuts) {A B : Nat → Nat → Int32} {z : Nat × Int32 × Bool} (E : EqR cuts w i A B) (O : Orr z.1 A B) : Orr (cutT cnt tab cuts w sq water tenth i (A, z)).2.1 (cutT cnt tab cuts w sq water tenth i (A, z)).1 (cutT cnt tab cuts w sq water tenth i (B, z)).1 := by
  obtain ⟨e1, e2, e3, e4, e5, e6, e8, e9⟩ := E
  have G : ∀ j, j < w → coolG (tab 1 1) (tab 1 3) water (A 9) (A 1) cuts w i (i * 5 + j) = coolG (tab 1 1) (tab 1 3) water (B 9) (B 1) cuts w i (i * 5 + j) := fun j hj => coolG_c e9 e1 hi hj
  have E1 : EqR cuts w (i + 1) (upA A 8 (rowF (coolG (tab 1 1) (tab 1 3) water (A 9) (A 1) cuts w i) (A 8) i w)) (upA B 8 (rowF (coolG (tab 1 1) (tab 1 3) water (B 9) (B 1) cuts w i) (B 8) i w)) := by
    refine ⟨e1, e2, e3, e4, e5, e6, ?_, e9⟩
    intro i' j' h1 h2
    rw [upA_same, upA_same, rowF_in hw h2, rowF_in hw h2]
    by_cases e : i' = i
    · subst e; rw [if_pos rfl, if_pos rfl, G j' h2]
    · rw [if_neg e, if_neg e]; exact e8 i' j' (by omega) h2
  exact rowT_o (cnt := cnt) (tab := tab) (wp := nI w * sq) (tenth := tenth) hi w 0 _ _ z.1 (by omega) E1 O
theorem cutsT_o {tenth : Nat} (hw : w ≤ 5) : ∀ r i (A B : Nat → Nat → Int32) (z : Nat × Int32 × Bool), i + r = cuts → EqR cuts w i A B → Orr z.1 A B → Orr (cutsT cnt tab cuts w sq water tenth r i (A, z)).2.1 (cutsT cnt tab cuts w sq water tenth r i (A, z)).1 (cutsT cnt tab cuts w sq water tenth r i (B, z)).1
  | 0, i, A, B, z, h, E, O => O
  | r + 1, i, A, B, z, h, E, O => by
    obtain ⟨a, b⟩ := cutT_c (cnt := cnt) (tab := tab) (sq := sq) (water := water) (tenth := tenth) (z := z) hw (show i < cuts by omega) E
    have o := cutT_o (cnt := cnt) (tab := tab) (sq := sq) (water := water) (tenth := tenth) (z := z) hw (show i < cuts by omega) E O
    unfold cutsT
    generalize cutT cnt tab cuts w sq water tenth i (A, z) = s at a b o
    generalize cutT cnt tab cuts w sq water tenth i (B, z) = t at a b o
    obtain ⟨s1, s2⟩ := s
    obtain ⟨t1, t2⟩ := t
    obtain rfl : s2 = t2 := b
    exact cutsT_o hw r (i + 1) s1 t1 s2 (by omega) a o
theorem onceS_o {tenth tn : Nat} {crk : Int32} (hw : w ≤ 5) {A B : Nat → Nat → Int32} (E : EqH cuts w A B) (O : Orr tn A B) : Orr (onceS cnt tab cuts w sq water tenth A tn crk).2.1 (onceS cnt tab cuts w sq water tenth A tn crk).1 (onceS cnt tab cuts w sq water tenth B tn crk).1 := by
  obtain ⟨e1, e2, e3, e4, e5, e6, e8⟩ := E
  exact cutsT_o (cnt := cnt) (tab := tab) (sq := sq) (water := water) (tenth := tenth + 1) hw cuts 0 (swA A) (swA B) (tn, crk, false) (by omega) ⟨e1, e2, e3, e4, e5, e6, fun i j h => absurd h (by omega), e8⟩ O
/-- two bars that can't be told apart -/
def EqB (cuts w : Nat) (s t : BSt) : Prop := EqH cuts w s.1 t.1 ∧ Orr s.2.1 s.1 t.1 ∧ s.2 = t.2
theorem EqB_tr {s t u : BSt} (a : EqB cuts w s t) (b : EqB cuts w t u) : EqB cuts w s u :=
  ⟨EqH_tr a.1 b.1, fun k hk => (a.2.1 k hk).trans (b.2.1 k (by rw [← a.2.2]; exact hk)), a.2.2.trans b.2.2⟩
theorem EqB_rf (s : BSt) : EqB cuts w s s := ⟨EqH_rf _ _ _, fun _ _ => rfl, rfl⟩
theorem barStep_e (hw : w ≤ 5) {s t : BSt} (E : EqB cuts w s t) : EqB cuts w (barStep cnt tab cuts w sq water s) (barStep cnt tab cuts w sq water t) := by
  obtain ⟨A, z⟩ := s
  obtain ⟨B, y⟩ := t
  obtain ⟨e, o, rfl⟩ := E
  obtain ⟨a, b⟩ := onceS_c (cnt := cnt) (tab := tab) (sq := sq) (water := water) (tenth := z.2.2.1) (tn := z.1) (crk := z.2.1) hw e
  have o2 := onceS_o (cnt := cnt) (tab := tab) (sq := sq) (water := water) (tenth := z.2.2.1) (tn := z.1) (crk := z.2.1) hw e o
  refine ⟨a, o2, ?_⟩
  show ((onceS cnt tab cuts w sq water z.2.2.1 A z.1 z.2.1).2.1, (onceS cnt tab cuts w sq water z.2.2.1 A z.1 z.2.1).2.2.1, z.2.2.1 + 1, (if bendS ((onceS cnt tab cuts w sq water z.2.2.1 A z.1 z.2.1).1 5) w cuts < z.2.2.2.1 then bendS ((onceS cnt tab cuts w sq water z.2.2.1 A z.1 z.2.1).1 5) w cuts else z.2.2.2.1), (if z.2.2.2.2 < bendS ((onceS cnt tab cuts w sq water z.2.2.1 A z.1 z.2.1).1 5) w cuts then bendS ((onceS cnt tab cuts w sq water z.2.2.1 A z.1 z.2.1).1 5) w cuts else z.2.2.2.2)) = ((onceS cnt tab cuts w sq water z.2.2.1 B z.1 z.2.1).2.1, (onceS cnt tab cuts w sq water z.2.2.1 B z.1 z.2.1).2.2.1, z.2.2.1 + 1, (if bendS ((onceS cnt tab cuts w sq water z.2.2.1 B z.1 z.2.1).1 5) w cuts < z.2.2.2.1 then bendS ((onceS cnt tab cuts w sq water z.2.2.1 B z.1 z.2.1).1 5) w cuts else z.2.2.2.1), (if z.2.2.2.2 < bendS ((onceS cnt tab cuts w sq water z.2.2.1 B z.1 z.2.1).1 5) w cuts then bendS ((onceS cnt tab cuts w sq water z.2.2.1 B z.1 z.2.1).1 5) w cuts else z.2.2.2.2))
  rw [b, bendS_c a.2.2.2.2.1]
theorem barS_e (hw : w ≤ 5) : ∀ r (s t : BSt), EqB cuts w s t → EqB cuts w (barS cnt tab cuts w sq water r s) (barS cnt tab cuts w sq water r t)
  | 0, _, _, E => E
  | r + 1, s, t, E => by
    unfold barS
    rw [← E.2.2]
    by_cases d : s.2.2.1 = -1
    · rw [if_pos d, if_pos d]; exact barS_e hw r _ _ (barStep_e hw E)
    · rw [if_neg d, if_neg d]; exact E
theorem barS_st : ∀ r (s : BSt), ¬ s.2.2.1 = -1 → barS cnt tab cuts w sq water r s = s
  | 0, _, _ => rfl
  | r + 1, s, d => by unfold barS; rw [if_neg d]
theorem barS_add : ∀ a b (s : BSt), barS cnt tab cuts w sq water (a + b) s = barS cnt tab cuts w sq water b (barS cnt tab cuts w sq water a s)
  | 0, b, s => by rw [Nat.zero_add]; rfl
  | a + 1, b, s => by
    rw [show a + 1 + b = (a + b) + 1 by omega]
    by_cases d : s.2.2.1 = -1
    · rw [barS, if_pos d, barS, if_pos d]; exact barS_add a b _
    · rw [barS_st _ _ d, barS_st _ _ d, barS_st _ _ d]
theorem barS_te : ∀ r (s : BSt), (barS cnt tab cuts w sq water r s).2.2.2.1 ≤ s.2.2.2.1 + r
  | 0, _ => Nat.le_refl _
  | r + 1, s => by
    unfold barS
    by_cases d : s.2.2.1 = -1
    · rw [if_pos d]
      have := barS_te r (barStep cnt tab cuts w sq water s)
      have e : (barStep cnt tab cuts w sq water s).2.2.2.1 = s.2.2.2.1 + 1 := rfl
      omega
    · rw [if_neg d]; omega
/-- a run that was stopped is a shorter one -/
theorem barS_cut : ∀ r (s : BSt) m, (barS cnt tab cuts w sq water r s).2.2.2.1 = s.2.2.2.1 + m → barS cnt tab cuts w sq water r s = barS cnt tab cuts w sq water m s
  | 0, s, m, h => by
    have h' : s.2.2.2.1 = s.2.2.2.1 + m := h
    obtain rfl : m = 0 := by omega
    rfl
  | r + 1, s, m, h => by
    by_cases d : s.2.2.1 = -1
    · rw [barS, if_pos d] at h ⊢
      have g := barS_mono cnt tab cuts w sq water r (barStep cnt tab cuts w sq water s)
      have e : (barStep cnt tab cuts w sq water s).2.2.2.1 = s.2.2.2.1 + 1 := rfl
      obtain ⟨m, rfl⟩ : ∃ k, m = k + 1 := ⟨m - 1, by omega⟩
      rw [barS, if_pos d]
      exact barS_cut r _ m (by omega)
    · rw [barS_st _ _ d, barS_st _ _ d]
theorem barS_ful {s : BSt} {n m : Nat} (hn : n ≤ m) (h : (barS cnt tab cuts w sq water m s).2.2.2.1 = s.2.2.2.1 + m) : (barS cnt tab cuts w sq water n s).2.2.2.1 = s.2.2.2.1 + n := by
  obtain ⟨k, rfl⟩ : ∃ k, m = n + k := ⟨m - n, by omega⟩
  rw [barS_add] at h
  have a := barS_te (cnt := cnt) (tab := tab) (cuts := cuts) (w := w) (sq := sq) (water := water) k (barS cnt tab cuts w sq water n s)
  have b := barS_te (cnt := cnt) (tab := tab) (cuts := cuts) (w := w) (sq := sq) (water := water) n s
  omega
theorem barS_01 : ∀ r (s : BSt), (barS cnt tab cuts w sq water r s).1 0 = s.1 0 ∧ (barS cnt tab cuts w sq water r s).1 1 = s.1 1
  | 0, _ => ⟨rfl, rfl⟩
  | r + 1, s => by
    by_cases d : s.2.2.1 = -1
    · rw [barS, if_pos d]
      obtain ⟨a, b⟩ := barS_01 r (barStep cnt tab cuts w sq water s)
      exact ⟨a.trans once_0, b.trans once_1⟩
    · rw [barS_st _ _ d]; exact ⟨rfl, rfl⟩
theorem hot0_e (hc : cuts ≤ 8) (hw : w ≤ 5) {v : Int32} {A B : Nat → Nat → Int32} (E : EqI cuts w (A 1) (B 1)) : EqB cuts w (hot0 tab cuts w v A) (hot0 tab cuts w v B) :=
  ⟨heatS_c hc hw E, fun k hk => absurd hk (Nat.not_lt_zero _), rfl⟩
end O1
/-- the bar is what its heat and its tenths make of it -/
def HisS (S : SS) : Prop := EqB (cutS S) (widS S) (barS (sC S) (sB S) (cutS S) (widS S) (sqW S) (sB S 1 0) (sR S).2.2.2.1 (hot0 (sB S) (cutS S) (widS S) (sH S) (sR S).1)) (sR S)
section M38
variable {h : tm_H} {S : SS}
theorem MR_e {Z : MZ} {fh : Int32} {s t : BSt} {cuts w : Nat} (H : MR h Z fh s cuts w) (E : EqB cuts w s t) (e0 : EqI cuts w (s.1 0) (t.1 0)) : MR h Z fh t cuts w := by
  obtain ⟨ez, hm, km, cl, tu, th, om, HA, e8, e2, e6, e0', O⟩ := H
  obtain ⟨⟨q1, q2, q3, q4, q5, q6, q8⟩, o, q⟩ := E
  rw [q] at ez
  refine ⟨ez, hm, km, cl, tu, th, om, by rw [← q]; exact HA, EqI_tr e8 q8, EqI_tr e2 q2, EqI_tr e6 q6, EqI_tr e0' e0, fun k hk => ?_⟩
  rw [← q] at hk
  rw [O k hk, o k hk]
theorem m_again (X : MInv h S) (P : PX S) (Q : sBo S = true → PB S) (HS : sBo S = true → HisS S) {n : Int32} : ∃ h', tC mX11_again [.ref 70, .int n] h = some (h', some (sAgain S n).2) ∧ MInv h' (sAgain S n).1 ∧ FrM h h' := by
  obtain ⟨h1, E1, X1, F1, _, I1⟩ := m_thr X (v := 0)
  unfold sAgain
  cases bo : sBo S with
  | false =>
    have bk := (m_bk X1).2 bo
    obtain ⟨h2, X2, F2, _, _, D2, _⟩ := m_note X1 (t := 1) (by decide)
    refine ⟨h2, ?_, X2, FrM_tr F1 F2⟩
    simp only [cX11_again_, bX11_again_0, bX11_again_5, bX11_again_9n, bX11_again_12, bX11_again_17, tk1_some, tk0_some, tkc_some, tkc_none, ↓reduceIte, E1, bk, I1, D2, tm_rb0, Bool.false_eq_true, if_false, sDen]
  | true =>
    obtain ⟨b0, bk⟩ := (m_bk X1).1 bo
    obtain ⟨b, nn, G, nm, Z, z1, z2, M, R, put⟩ := MI_bar X1 bo
    obtain ⟨g21, g22, g23, _, _, _, _⟩ := MR_f R
    cases iv : inB n 0 (nI (sR S).2.2.2.1) with
    | false =>
      obtain ⟨h2, X2, F2, _, _, D2, _⟩ := m_note X1 (t := 2) (by decide)
      refine ⟨h2, ?_, X2, FrM_tr F1 F2⟩
      simp only [cX11_again_, bX11_again_0, bX11_again_5, bX11_again_9r, bX11_again_18, bX11_again_24, bX11_again_27, bX11_again_30, bX11_again_35, tk1_some, tk0_some, tkc_some, tkc_none, ↓reduceIte, E1, bk, g22, m_in, iv, bI_f, not_true, if_false, I1, D2, tm_rb0, Bool.false_eq_true, if_true, sDen]
    | true =>
      have t4 := P.2.2.1
      obtain ⟨en, _, hn⟩ := inB_nat (a := 0) (b := (sR S).2.2.2.1) (by omega) (by omega) iv
      obtain ⟨⟨lo, hi, F⟩, h5, eC, eW, BO⟩ := Q bo
      have HI := HS bo
      unfold HisS at HI
      obtain ⟨_, hm, km, cl, tu, th, om, HA, e8, e2, e6, e0, O⟩ := R
      obtain ⟨h2, Z2, P2, R2, Q2, F2⟩ := MR_hot (tab := sB S) (px_c P) (px_w P) HA e0 (v := sH S)
      have BH := BOk_hot (v := sH S) F (px_w P) (A := (sR S).1) (cuts := cutS S) BO.2.2.2
      have full := barS_ful (n := iN n) hn (by rw [HI.2.2]; show _ = 0 + _; rw [Nat.zero_add])
      obtain ⟨h3, Z3, P3, R3, Q3, F3⟩ := m_agL F h5 z2 (px_c P) eC eW (px_w P) (N := iN n) (by omega) (iN n) h2 Z2 _ (by show 0 + _ = _; omega) (by rw [Q2.2.1]; exact z1) (MBk_C z2 F2 M) BH R2 full
      rw [← en] at P3
      have R4 : MR h3 Z3 (sH S) (backS S n) (cutS S) (widS S) := by
        unfold backS
        by_cases d : n = nI (sR S).2.2.2.1
        · rw [if_pos d]
          have dn : iN n = (sR S).2.2.2.1 := by rw [d, iN_nI (by omega)]
          rw [dn] at R3
          refine MR_e R3 HI ?_
          rw [(barS_01 _ _).1]
          show EqI _ _ (heatS (sB S) (cutS S) (widS S) (sqS (widS S) (widS S)) (sH S) (sR S).1 0) _
          rw [heatS_k.2.2.2.1]; exact EqI_rf _ _ _
        · rw [if_neg d]; exact R3
      obtain ⟨X3, G3⟩ := put h3 Z3 (sH S) _ R4 (ZEq_tr Q2 Q3) (FrC_tr F2 F3)
      obtain ⟨h4, X4, F4, I4, _, _, _, _, D4⟩ := m_note X3 (t := 0) (by decide)
      have D4 := (D4 rfl 0).2
      refine ⟨h4, ?_, X4, FrM_tr F1 (FrM_tr G3 F4)⟩
      simp only [cX11_again_, bX11_again_0, bX11_again_5, bX11_again_9r, bX11_again_18, bX11_again_24, bX11_again_27, bX11_again_36, bX11_again_41, bX11_again_59, bX11_again_63, tk1_some, tk0_some, tkc_some, tkc_none, ↓reduceIte, E1, bk, g21, g22, m_in, iv, bI_t, show ((1 : Int32) = 0) = False from by decide, not_false_eq_true, if_true, I1, P2, P3, I4, D4, tm_rb1]
end M38
/-! THE REFERENCE's calls: trials -/
/-- only the trials' arrays differ -/
def TT (h0 h : tm_H) (cl : Nat → Int32) : Prop := FrU h0 h ∧ ∃ hm km th, TA h hm km cl th
def MT0 (h0 : tm_H) (S : SS) (b nn : Nat) (G : Nat → Nat → Int32) (nm : Nat → Int64) (c40 : Nat → Int32) (lo hi : Int32) : Prop :=
  BkF lo hi (sC S) (sB S) ∧ 83 < b ∧ MW h0 b (sC S) (sB S) nn G nm ∧ tm_gf (h0 70) 11 28 = some (.ref 78) ∧ tm_gf (h0 70) 11 29 = some (.ref 79) ∧ tm_gf (h0 70) 11 30 = some (.ref 80) ∧ tm_gf (h0 70) 11 18 = some (.ref 74) ∧ h0 74 = aI 40 c40 ∧ (∀ j, j < widS S → c40 j = cfS S j) ∧ widS S ≤ 5 ∧ sB S 0 1 = nI (widS S)
section M39
variable {h0 h : tm_H} {S : SS} {b nn : Nat} {G : Nat → Nat → Int32} {nm : Nat → Int64} {c40 cl : Nat → Int32} {lo hi : Int32}
theorem m_tri (X : MInv h S) (P : PX S) (bo : sBo S = true) (Q : PB S) : ∃ b nn G nm c40 lo hi cl, MT0 h S b nn G nm c40 lo hi ∧ TT h h cl := by
  obtain ⟨b, nn, G, nm, Z, z1, z2, M, R, _⟩ := MI_bar X bo
  obtain ⟨_, hm, km, c40, tu, th, om, HA, e8, e2, e6, e0, O⟩ := R
  obtain ⟨⟨lo, hi, F⟩, h5, en, ew, K⟩ := Q
  obtain ⟨_, ⟨f1, t1⟩, ⟨f2, t2⟩, ⟨f3, t3⟩, _⟩ := MI_sc X
  have c0 := (bo_cut P bo).1
  refine ⟨b, nn, G, nm, c40, lo, hi, f3, ⟨F, z2, MW_of HA.1 z1 M z2, by rw [HA.1, gf_11_28], by rw [HA.1, gf_11_29], by rw [HA.1, gf_11_30], by rw [HA.1, gf_11_18], HA.2.2.2.1, fun j hj => ?_, px_w P, ew⟩, FrU_rf h, f1, f2, th, t1, t2, t3, HA.2.2.2.2.2.1⟩
  have := e0 0 j c0 hj
  rw [show 0 * 5 + j = j by omega] at this; exact this
theorem m_triP (X : MInv h0 S) (T : TT h0 h cl) : MInv h S ∧ FrM h0 h := by
  obtain ⟨F, hm, km, th, a1, a2, a3, a4⟩ := T
  obtain ⟨_, _, _, _, ⟨f4, t4⟩⟩ := MI_sc X
  exact MI_scr X (fun k x1 x2 x3 x4 _ => F k x1 (by omega)) ⟨th, a4⟩ ⟨hm, a1⟩ ⟨km, a2⟩ ⟨cl, a3⟩ ⟨f4, by rw [F 82 (by decide) (by decide)]; exact t4⟩
theorem mt_W (T0 : MT0 h0 S b nn G nm c40 lo hi) (T : TT h0 h cl) : MW h b (sC S) (sB S) nn G nm ∧ h 70 = h0 70 ∧ h 74 = h0 74 :=
  ⟨MW_u T.1 T0.2.2.1, T.1 70 (by decide) (by decide), T.1 74 (by decide) (by decide)⟩
theorem mt_try (T0 : MT0 h0 S b nn G nm c40 lo hi) (T : TT h0 h cl) {opn : Nat → Int32} (eo : ∀ j, j < widS S → opn j = opS (sB S 1 2) (cl j)) {heat water : Int32} : ∃ h' km', tC mX11_tries [.ref 70, .int heat, .int water] h = some (h', some (.int (bI (crkW (sC S) (sB S) (widS S) (sqW S) opn heat water)))) ∧ TT h0 h' cl ∧ h' 79 = aI 5 km' ∧ EqI 1 (widS S) km' ((trK (sC S) (sB S) (widS S) (sqW S) opn heat water).1 2) := by
  obtain ⟨W, o, _⟩ := mt_W T0 T
  obtain ⟨F, hb, _, g8, g9, g0, _, _, _, hw, ew⟩ := T0
  obtain ⟨FU, hm, km, th, H⟩ := T
  obtain ⟨h', hm', km', th', P, H', E, F'⟩ := mtries F ew hw hb (heat := heat) (water := water) H W (by rw [o]; exact g8) (by rw [o]; exact g9) (by rw [o]; exact g0) eo
  exact ⟨h', km', P, ⟨FrU_tr FU F', hm', km', th', H'⟩, H'.2.1, E⟩
theorem mcb_loop (T0 : MT0 h0 S b nn G nm c40 lo hi) {more : Int32} : ∀ r j h cl x3, TT h0 h cl → (∀ k, k < j → cl k = keptS (cfS S k + more) 0 3) → j + r = widS S → ∃ h' cl', tE mX11_claysBy 2 [.ref 70, .int more, .int (nI j), x3] [] h = some (h', none) ∧ TT h0 h' cl' ∧ (∀ k, k < widS S → cl' k = keptS (cfS S k + more) 0 3) := by
  have hw : widS S ≤ 5 := T0.2.2.2.2.2.2.2.2.2.1
  have ew : sB S 0 1 = nI (widS S) := T0.2.2.2.2.2.2.2.2.2.2
  intro r
  induction r with
  | zero =>
    intro j h cl x3 T D hj
    obtain rfl : j = widS S := by omega
    obtain ⟨W, o, o4⟩ := mt_W T0 T
    have M := mw_b W
    refine ⟨h, cl, ?_, T, D⟩
    rw [bX11_claysBy_2]
    simp only [bX11_claysBy_7, bX11_claysBy_10, bX11_claysBy_52, tk1_some, tk0_some, tkc_some, tkc_none, ↓reduceIte, mw_3 W, mb_o M, gf_10_1, ew, Int32.le_refl, if_true]
  | succ r ih =>
    intro j h cl x3 T D hj
    obtain ⟨W, o, o4⟩ := mt_W T0 T
    have M := mw_b W
    have e1 : ¬ nI (widS S) ≤ nI j := nI_ge (by omega) (by omega)
    have g18 : tm_gf (h 70) 11 18 = some (.ref 74) := by rw [o]; exact T0.2.2.2.2.2.2.1
    have g30 : tm_gf (h 70) 11 30 = some (.ref 80) := by rw [o]; exact T0.2.2.2.2.2.1
    have q : tm_ai 0 (h 74) (nI j) = some (.int (cfS S j)) := by rw [o4, T0.2.2.2.2.2.2.2.1, tm_ai_in rfl (show j < 40 by omega) (by decide), T0.2.2.2.2.2.2.2.2.1 j (by omega)]
    obtain ⟨FU, hm, km, th, H⟩ := T
    have s : ∀ v, tm_si 0 h 80 (nI j) v = some (tm_up h 80 (aI 5 (upd cl j v))) := fun v => by rw [tm_si_eq, H.2.2.1, tm_sa_in rfl (show j < 5 by omega) (by decide), Option.map_some]
    have T1 : ∀ v, TT h0 (tm_up h 80 (aI 5 (upd cl j v))) (upd cl j v) := fun v =>
      ⟨fun k x y => by rw [tm_up_ne (by omega)]; exact FU k x y, hm, km, th, by rw [tm_up_ne (by decide)]; exact H.1, by rw [tm_up_ne (by decide)]; exact H.2.1, tm_up_same, by rw [tm_up_ne (by decide)]; exact H.2.2.2⟩
    obtain ⟨h', cl', P, T', D'⟩ := ih (j + 1) _ _ (.int (cfS S j + more)) (T1 (keptS (cfS S j + more) 0 3)) (fun k hk => by
      by_cases d : k = j
      · subst d; rw [upd_at]
      · rw [upd_off d]; exact D k (by omega)) (by omega)
    refine ⟨h', cl', ?_, T', D'⟩
    rw [← P]
    have sk := s (keptS (cfS S j + more) 0 3)
    rw [bX11_claysBy_2]
    by_cases d0 : 0 ≤ cfS S j + more
    · by_cases d3 : cfS S j + more ≤ 3
      · have ek : keptS (cfS S j + more) 0 3 = cfS S j + more := by unfold keptS; rw [if_pos d0, if_pos d3]
        rw [ek] at sk ⊢
        simp only [bX11_claysBy_7, bX11_claysBy_10, bX11_claysBy_13, bX11_claysBy_17, bX11_claysBy_19, bX11_claysBy_26, bX11_claysBy_35, bX11_claysBy_44, bX11_claysBy_45, bX11_claysBy_46, tk1_some, tk0_some, tkc_some, tkc_none, ↓reduceIte, mw_3 W, mb_o M, gf_10_1, ew, e1, if_false, g18, q, g30, d0, d3, if_true, sk, nI_k1]
      · have ek : keptS (cfS S j + more) 0 3 = 3 := by unfold keptS; rw [if_pos d0, if_neg d3]
        rw [ek] at sk ⊢
        simp only [bX11_claysBy_7, bX11_claysBy_10, bX11_claysBy_13, bX11_claysBy_17, bX11_claysBy_19, bX11_claysBy_26, bX11_claysBy_35, bX11_claysBy_40, bX11_claysBy_45, bX11_claysBy_46, tk1_some, tk0_some, tkc_some, tkc_none, ↓reduceIte, mw_3 W, mb_o M, gf_10_1, ew, e1, if_false, g18, q, g30, d0, d3, if_true, sk, nI_k1]
    · have ek : keptS (cfS S j + more) 0 3 = 0 := by unfold keptS; rw [if_neg d0]
      rw [ek] at sk ⊢
      simp only [bX11_claysBy_7, bX11_claysBy_10, bX11_claysBy_13, bX11_claysBy_17, bX11_claysBy_19, bX11_claysBy_26, bX11_claysBy_31, bX11_claysBy_45, bX11_claysBy_46, tk1_some, tk0_some, tkc_some, tkc_none, ↓reduceIte, mw_3 W, mb_o M, gf_10_1, ew, e1, if_false, g18, q, g30, d0, sk, nI_k1]
theorem mt_clays (T0 : MT0 h0 S b nn G nm c40 lo hi) (T : TT h0 h cl) {more : Int32} : ∃ h' cl', tC mX11_claysBy [.ref 70, .int more] h = some (h', none) ∧ TT h0 h' cl' ∧ (∀ k, k < widS S → cl' k = keptS (cfS S k + more) 0 3) := by
  obtain ⟨h', cl', P, T', D'⟩ := mcb_loop T0 (more := more) (widS S) 0 h cl tm_U T (fun k hk => absurd hk (by omega)) (by omega)
  rw [nI_0] at P
  exact ⟨h', cl', by rw [cX11_claysBy_, bX11_claysBy_0, P], T', D'⟩
theorem m_bounded {h : tm_H} {v : Int32} : tC mX11_bounded [.int v] h = some (h, some (.int (keptS v 0 999))) := by
  unfold keptS
  by_cases d0 : 0 ≤ v
  · by_cases d3 : v ≤ 999
    · simp only [cX11_bounded_, bX11_bounded_0, bX11_bounded_8, bX11_bounded_21, bX11_bounded_22, d0, d3, if_true]
    · simp only [cX11_bounded_, bX11_bounded_0, bX11_bounded_8, bX11_bounded_15, bX11_bounded_22, d0, d3, if_true, if_false]
  · simp only [cX11_bounded_, bX11_bounded_0, bX11_bounded_4, bX11_bounded_22, d0, if_false]
theorem c3_lt {k : Nat} (hk : k < 3) : ¬ (1 : Int32) < cI k := by
  rcases (show k = 0 ∨ k = 1 ∨ k = 2 by omega) with rfl | rfl | rfl <;> decide
theorem msc_in (T0 : MT0 h0 S b nn G nm c40 lo hi) {opn : Nat → Int32} {x3 : Value} {heat water byH byW u : Int32} : ∀ r k c h cl, TT h0 h cl → (∀ j, j < widS S → opn j = opS (sB S 1 2) (cl j)) → k + r = 3 → ∃ h', tE mX11_scattered 20 [.ref 70, .int heat, .int water, x3, .int byH, .int byW, .int c, .int u, .int (cI k)] [] h = tE mX11_scattered 69 [.ref 70, .int heat, .int water, x3, .int byH, .int byW, .int (cnI (fun v => crkW (sC S) (sB S) (widS S) (sqW S) opn (keptS (heat + u * byH) 0 999) (keptS (water + v * byW) 0 999)) r k c), .int u, .int (cI 3)] [] h' ∧ TT h0 h' cl := by
  intro r
  induction r with
  | zero =>
    intro k c h cl T eo hk
    obtain rfl : k = 3 := by omega
    refine ⟨h, ?_, T⟩
    rw [bX11_scattered_20, if_pos (show (1 : Int32) < cI 3 by decide)]; rfl
  | succ r ih =>
    intro k c h cl T eo hk
    obtain ⟨W, o, _⟩ := mt_W T0 T
    obtain ⟨h1, km1, P1, T1, _⟩ := mt_try T0 T eo (heat := keptS (heat + u * byH) 0 999) (water := keptS (water + cI k * byW) 0 999)
    have e1 := c3_lt (show k < 3 by omega)
    unfold cnI
    by_cases z : crkW (sC S) (sB S) (widS S) (sqW S) opn (keptS (heat + u * byH) 0 999) (keptS (water + cI k * byW) 0 999) = true
    · rw [if_pos z]
      rw [z, bI_t] at P1
      obtain ⟨h2, P2, T2⟩ := ih (k + 1) (c + 1) h1 cl T1 eo (by omega)
      refine ⟨h2, ?_, T2⟩
      rw [← P2, bX11_scattered_20, if_neg e1]
      simp only [bX11_scattered_26, bX11_scattered_39, bX11_scattered_49, bX11_scattered_52, bX11_scattered_55, bX11_scattered_60, tk1_some, tk0_some, tkc_some, tkc_none, ↓reduceIte, m_bounded, mw_i W, P1, show ((1 : Int32) = 0) = False from by decide, if_false, cI_s]
    · rw [if_neg z]
      rw [Bool.not_eq_true] at z
      rw [z, bI_f] at P1
      obtain ⟨h2, P2, T2⟩ := ih (k + 1) c h1 cl T1 eo (by omega)
      refine ⟨h2, ?_, T2⟩
      rw [← P2, bX11_scattered_20, if_neg e1]
      simp only [bX11_scattered_26, bX11_scattered_39, bX11_scattered_49, bX11_scattered_52, bX11_scattered_59, bX11_scattered_60, tk1_some, tk0_some, tkc_some, tkc_none, ↓reduceIte, m_bounded, mw_i W, P1, if_true, cI_s, Int32.add_zero]
theorem msc_out (T0 : MT0 h0 S b nn G nm c40 lo hi) {opn : Nat → Int32} {x3 : Value} {heat water byH byW : Int32} : ∀ r k c h cl x8, TT h0 h cl → (∀ j, j < widS S → opn j = opS (sB S 1 2) (cl j)) → k + r = 3 → ∃ h', tE mX11_scattered 11 [.ref 70, .int heat, .int water, x3, .int byH, .int byW, .int c, .int (cI k), x8] [] h = some (h', some (.int (cnO (ninG (sC S) (sB S) (widS S) (sqW S) opn heat byH water byW) r k c))) ∧ TT h0 h' cl := by
  intro r
  induction r with
  | zero =>
    intro k c h cl x8 T eo hk
    obtain rfl : k = 3 := by omega
    refine ⟨h, ?_, T⟩
    rw [bX11_scattered_11, if_pos (show (1 : Int32) < cI 3 by decide), bX11_scattered_75]; rfl
  | succ r ih =>
    intro k c h cl x8 T eo hk
    have e1 := c3_lt (show k < 3 by omega)
    obtain ⟨h1, P1, T1⟩ := msc_in T0 (x3 := x3) (heat := heat) (water := water) (byH := byH) (byW := byW) (u := cI k) 3 0 c h cl T eo (by omega)
    obtain ⟨h2, P2, T2⟩ := ih (k + 1) (ninG (sC S) (sB S) (widS S) (sqW S) opn heat byH water byW (cI k) c) h1 cl (.int (cI 3)) T1 eo (by omega)
    refine ⟨h2, ?_, T2⟩
    unfold cnO
    rw [← P2, bX11_scattered_11, if_neg e1, bX11_scattered_17]
    rw [show cI 0 = -1 from by decide] at P1
    rw [P1, bX11_scattered_69, cI_s]; rfl
theorem mt_scat (T0 : MT0 h0 S b nn G nm c40 lo hi) (T : TT h0 h cl) {opn : Nat → Int32} {heat water more byH byW : Int32} (eo : ∀ j, j < widS S → opn j = opS (sB S 1 2) (keptS (cfS S j + more) 0 3)) : ∃ h' cl', tC mX11_scattered [.ref 70, .int heat, .int water, .int more, .int byH, .int byW] h = some (h', some (.int (cnO (ninG (sC S) (sB S) (widS S) (sqW S) opn heat byH water byW) 3 0 0))) ∧ TT h0 h' cl' := by
  obtain ⟨W, o, _⟩ := mt_W T0 T
  obtain ⟨h1, cl1, P1, T1, D1⟩ := mt_clays T0 T (more := more)
  obtain ⟨h2, P2, T2⟩ := msc_out T0 (opn := opn) (x3 := .int more) (heat := heat) (water := water) (byH := byH) (byW := byW) 3 0 0 h1 cl1 tm_U T1 (fun j hj => by rw [D1 j hj]; exact eo j hj) (by omega)
  rw [show cI 0 = -1 from by decide] at P2
  refine ⟨h2, cl1, ?_, T2⟩
  simp only [cX11_scattered_, bX11_scattered_0, bX11_scattered_5, tk1_some, tk0_some, tkc_some, tkc_none, ↓reduceIte, mw_i W, P1, P2]
theorem mt_nin (T0 : MT0 h0 S b nn G nm c40 lo hi) (T : TT h0 h cl) {ch heat byH byW : Int32} : ∃ h' cl', tC mX11_scattered [.ref 70, .int (heatW ch heat), .int (waterW (sB S 1 0) ch), .int (moreS ch), .int byH, .int byW] h = some (h', some (.int (ninS (sC S) (sB S) (widS S) (sqW S) (cfS S) ch heat byH byW))) ∧ TT h0 h' cl' :=
  mt_scat T0 T (fun _ _ => rfl)
theorem m_rsc (X : MInv h S) {heat byH byW : Int32} : tC mX11_refusesScatter [.ref 70, .int heat, .int byH, .int byW] h = some (h, some (.int (if sBo S = true then (if scatC heat byH byW = true then 0 else 2) else 1))) := by
  cases bo : sBo S with
  | false =>
    have bk := (m_bk X).2 bo
    simp only [cX11_refusesScatter_, bX11_refusesScatter_0, bX11_refusesScatter_4n, bX11_refusesScatter_7, bX11_refusesScatter_47, tk1_some, tk0_some, tkc_some, tkc_none, ↓reduceIte, bk, Bool.false_eq_true, if_false]
  | true =>
    obtain ⟨b0, bk⟩ := (m_bk X).1 bo
    unfold scatC
    cases i1 : inB heat 0 999 with
    | false => simp only [cX11_refusesScatter_, bX11_refusesScatter_0, bX11_refusesScatter_4r, bX11_refusesScatter_11, bX11_refusesScatter_19, bX11_refusesScatter_46, bX11_refusesScatter_47, tk1_some, tk0_some, tkc_some, tkc_none, ↓reduceIte, bk, m_in, i1, bI_f, if_true, Bool.false_eq_true, if_false]
    | true =>
      cases i2 : inB byH 0 99 with
      | false => simp only [cX11_refusesScatter_, bX11_refusesScatter_0, bX11_refusesScatter_4r, bX11_refusesScatter_11, bX11_refusesScatter_19, bX11_refusesScatter_22, bX11_refusesScatter_29, bX11_refusesScatter_46, bX11_refusesScatter_47, tk1_some, tk0_some, tkc_some, tkc_none, ↓reduceIte, bk, m_in, i1, i2, bI_f, bI_t, show ((1 : Int32) = 0) = False from by decide, if_true, Bool.false_eq_true, if_false]
      | true =>
        cases i3 : inB byW 0 99 with
        | false => simp only [cX11_refusesScatter_, bX11_refusesScatter_0, bX11_refusesScatter_4r, bX11_refusesScatter_11, bX11_refusesScatter_19, bX11_refusesScatter_22, bX11_refusesScatter_29, bX11_refusesScatter_32, bX11_refusesScatter_39, bX11_refusesScatter_46, bX11_refusesScatter_47, tk1_some, tk0_some, tkc_some, tkc_none, ↓reduceIte, bk, m_in, i1, i2, i3, bI_f, bI_t, show ((1 : Int32) = 0) = False from by decide, if_true, Bool.false_eq_true, if_false]
        | true => simp only [cX11_refusesScatter_, bX11_refusesScatter_0, bX11_refusesScatter_4r, bX11_refusesScatter_11, bX11_refusesScatter_19, bX11_refusesScatter_22, bX11_refusesScatter_29, bX11_refusesScatter_32, bX11_refusesScatter_39, bX11_refusesScatter_42, bX11_refusesScatter_47, tk1_some, tk0_some, tkc_some, tkc_none, ↓reduceIte, bk, m_in, i1, i2, i3, bI_t, show ((1 : Int32) = 0) = False from by decide, if_true, if_false]
theorem m_scatter (X : MInv h S) (P : PX S) (Q : sBo S = true → PB S) {heat byH byW : Int32} : ∃ h', tC mX11_scatter [.ref 70, .int heat, .int byH, .int byW] h = some (h', some (sScat S heat byH byW).2) ∧ MInv h' (sScat S heat byH byW).1 ∧ FrM h h' := by
  obtain ⟨h1, E1, X1, F1, _, I1⟩ := m_thr X (v := 0)
  have RS := m_rsc X1 (heat := heat) (byH := byH) (byW := byW)
  unfold sScat
  cases bo : sBo S with
  | false =>
    rw [bo, if_neg (by decide)] at RS
    obtain ⟨h2, X2, F2, _, D2, _⟩ := m_note X1 (t := 1) (by decide)
    refine ⟨h2, ?_, X2, FrM_tr F1 F2⟩
    simp only [cX11_scatter_, bX11_scatter_0, bX11_scatter_5, bX11_scatter_12, bX11_scatter_19, bX11_scatter_25, bX11_scatter_47, tk1_some, tk0_some, tkc_some, tkc_none, ↓reduceIte, E1, I1, RS, show ((1 : Int32) ≤ 0) = False from by decide, D2, Bool.false_eq_true, if_false, sRef]
  | true =>
    rw [bo, if_pos rfl] at RS
    cases sc : scatC heat byH byW with
    | false =>
      rw [sc, if_neg (by decide)] at RS
      obtain ⟨h2, X2, F2, _, D2, _⟩ := m_note X1 (t := 2) (by decide)
      refine ⟨h2, ?_, X2, FrM_tr F1 F2⟩
      simp only [cX11_scatter_, bX11_scatter_0, bX11_scatter_5, bX11_scatter_12, bX11_scatter_19, bX11_scatter_25, bX11_scatter_47, tk1_some, tk0_some, tkc_some, tkc_none, ↓reduceIte, E1, I1, RS, show ((2 : Int32) ≤ 0) = False from by decide, D2, Bool.false_eq_true, if_false, if_true, sRef]
    | true =>
      rw [sc, if_pos rfl] at RS
      obtain ⟨b, nn, G, nm, c40, lo, hi, cl, T0, T⟩ := m_tri X1 P bo (Q bo)
      obtain ⟨W, o, _⟩ := mt_W T0 T
      have M := mw_b W
      obtain ⟨h2, cl2, P2, T2⟩ := mt_nin T0 T (ch := -1) (heat := heat) (byH := byH) (byW := byW)
      rw [show heatW (-1) heat = heat from if_neg (by decide), show waterW (sB S 1 0) (-1) = sB S 1 0 from if_neg (by decide), show moreS (-1) = 0 from by decide] at P2
      obtain ⟨X2, F2⟩ := m_triP X1 T2
      obtain ⟨h3, X3, F3, I3, _, _, _, _, D3⟩ := m_note X2 (t := 0) (by decide)
      have D3 := fun v => (D3 rfl v).1
      refine ⟨h3, ?_, X3, FrM_tr F1 (FrM_tr F2 F3)⟩
      simp only [cX11_scatter_, bX11_scatter_0, bX11_scatter_5, bX11_scatter_12, bX11_scatter_28, bX11_scatter_35, bX11_scatter_38, bX11_scatter_44, bX11_scatter_47, tk1_some, tk0_some, tkc_some, tkc_none, ↓reduceIte, E1, I1, RS, show ((0 : Int32) ≤ 0) = True from by decide, if_true, mw_3 W, mb_o M, gf_10_2, P2, I3, D3, sAns]
/-- the water is told so that 20 more of it is no heat above the hottest -/
theorem wat_20 {wa : Int32} (r : 0 ≤ wa ∧ wa ≤ 99) : keptS (wa + 20) 0 999 = wa + 20 := by
  have l := iN_le r.1 (show 99 < 2 ^ 31 by decide) r.2
  rw [← nI_iN r.1, show (20 : Int32) = nI 20 from rfl, nI_add]
  unfold keptS
  rw [if_pos (nI_pos' (by omega)), if_pos (show nI (iN wa + 20) ≤ 999 from (nI_leI (b := 999) (by omega) (by decide)).mpr (by omega))]
theorem mlw_st (W : MW h b (sC S) (sB S) nn G nm) (wr : 0 ≤ sB S 1 0 ∧ sB S 1 0 ≤ 99) {heat : Int32} {x2 x3 x4 x5 x6 x8 : Value} {k : Nat} (hk : k < 4) : tE mX11_lowers 56 [.ref 70, .int heat, x2, x3, x4, x5, x6, .int (nI k), x8] [] h = tE mX11_lowers 120 [.ref 70, .int heat, x2, x3, x4, x5, x6, .int (nI k), x8] [.int (moreS (nI k)), .int (waterW (sB S 1 0) (nI k)), .int (heatW (nI k) heat), .ref 70] h := by
  have M := mw_b W
  rcases (show k = 0 ∨ k = 1 ∨ k = 2 ∨ k = 3 by omega) with rfl | rfl | rfl | rfl
  · rw [show moreS (nI 0) = 0 from by decide, show waterW (sB S 1 0) (nI 0) = sB S 1 0 from if_neg (by decide), show heatW (nI 0) heat = keptS (heat - 20) 0 999 from if_pos (by decide)]
    simp only [bX11_lowers_56, bX11_lowers_62, bX11_lowers_69, bX11_lowers_73, bX11_lowers_92, bX11_lowers_96, bX11_lowers_99, bX11_lowers_109, bX11_lowers_119, tk1_some, tk0_some, tkc_some, tkc_none, ↓reduceIte, show (nI 0 = 0) = True from by decide, show (nI 0 = 1) = False from by decide, show (nI 0 = 2) = False from by decide, show (nI 0 = 3) = False from by decide, not_true, not_false_eq_true, if_true, if_false, m_bounded, mw_3 W, mb_o M, gf_10_2]
  · rw [show moreS (nI 1) = 0 from by decide, show waterW (sB S 1 0) (nI 1) = sB S 1 0 + 20 from (if_pos (by decide)).trans (wat_20 wr), show heatW (nI 1) heat = heat from if_neg (by decide)]
    simp only [bX11_lowers_56, bX11_lowers_72, bX11_lowers_73, bX11_lowers_79, bX11_lowers_83, bX11_lowers_86, bX11_lowers_99, bX11_lowers_109, bX11_lowers_119, tk1_some, tk0_some, tkc_some, tkc_none, ↓reduceIte, show (nI 1 = 0) = False from by decide, show (nI 1 = 1) = True from by decide, show (nI 1 = 2) = False from by decide, show (nI 1 = 3) = False from by decide, not_true, not_false_eq_true, if_true, if_false, mw_3 W, mb_o M, gf_10_2]
  · rw [show moreS (nI 2) = 1 from by decide, show waterW (sB S 1 0) (nI 2) = sB S 1 0 from if_neg (by decide), show heatW (nI 2) heat = heat from if_neg (by decide)]
    simp only [bX11_lowers_56, bX11_lowers_72, bX11_lowers_73, bX11_lowers_92, bX11_lowers_96, bX11_lowers_99, bX11_lowers_105, tk1_some, tk0_some, tkc_some, tkc_none, ↓reduceIte, show (nI 2 = 0) = False from by decide, show (nI 2 = 1) = False from by decide, show (nI 2 = 2) = True from by decide, not_true, not_false_eq_true, if_true, if_false, mw_3 W, mb_o M, gf_10_2]
  · rw [show moreS (nI 3) = -1 from by decide, show waterW (sB S 1 0) (nI 3) = sB S 1 0 from if_neg (by decide), show heatW (nI 3) heat = heat from if_neg (by decide)]
    simp only [bX11_lowers_56, bX11_lowers_72, bX11_lowers_73, bX11_lowers_92, bX11_lowers_96, bX11_lowers_99, bX11_lowers_109, bX11_lowers_115, tk1_some, tk0_some, tkc_some, tkc_none, ↓reduceIte, show (nI 3 = 0) = False from by decide, show (nI 3 = 1) = False from by decide, show (nI 3 = 2) = False from by decide, show (nI 3 = 3) = True from by decide, not_true, not_false_eq_true, if_true, if_false, mw_3 W, mb_o M, gf_10_2]
theorem mlw_loop (T0 : MT0 h0 S b nn G nm c40 lo hi) (wr : 0 ≤ sB S 1 0 ∧ sB S 1 0 ≤ 99) {heat byH byW : Int32} {x4 : Value} : ∀ r k least best h cl x8, TT h0 h cl → k + r = 4 → ∃ h' cl' y5 y8, tE mX11_lowers 50 [.ref 70, .int heat, .int byH, .int byW, x4, .int least, .int best, .int (nI k), x8] [] h = tE mX11_lowers 151 [.ref 70, .int heat, .int byH, .int byW, x4, y5, .int (bstS (fun ch => ninS (sC S) (sB S) (widS S) (sqW S) (cfS S) ch heat byH byW) r k least best), .int 4, y8] [] h' ∧ TT h0 h' cl' := by
  intro r
  induction r with
  | zero =>
    intro k least best h cl x8 T hk
    obtain rfl : k = 4 := by omega
    exact ⟨h, cl, _, _, by rw [bX11_lowers_50, if_pos (show (4 : Int32) ≤ nI 4 from Int32.le_refl _)]; rfl, T⟩
  | succ r ih =>
    intro k least best h cl x8 T hk
    have e1 : ¬ (4 : Int32) ≤ nI k := nI_ge (show k < 4 by omega) (by decide)
    obtain ⟨W, o, _⟩ := mt_W T0 T
    obtain ⟨h1, cl1, P1, T1⟩ := mt_nin T0 T (ch := nI k) (heat := heat) (byH := byH) (byW := byW)
    unfold bstS
    by_cases d : least ≤ ninS (sC S) (sB S) (widS S) (sqW S) (cfS S) (nI k) heat byH byW
    · rw [if_pos d]
      obtain ⟨h2, cl2, y5, y8, P2, T2⟩ := ih (k + 1) least best h1 cl1 (.int (ninS (sC S) (sB S) (widS S) (sqW S) (cfS S) (nI k) heat byH byW)) T1 (by omega)
      refine ⟨h2, cl2, y5, y8, ?_, T2⟩
      have d' : ¬ ninS (sC S) (sB S) (widS S) (sqW S) (cfS S) (nI k) heat byH byW < least := Int32.not_lt.mpr d
      rw [← P2, bX11_lowers_50, if_neg e1, mlw_st W wr (show k < 4 by omega)]
      simp only [bX11_lowers_120, bX11_lowers_125, bX11_lowers_134, bX11_lowers_145, tk1_some, tk0_some, tkc_some, tkc_none, ↓reduceIte, mw_i W, P1, d', if_false, nI_k1]
    · rw [if_neg d]
      obtain ⟨h2, cl2, y5, y8, P2, T2⟩ := ih (k + 1) (ninS (sC S) (sB S) (widS S) (sqW S) (cfS S) (nI k) heat byH byW) (nI k) h1 cl1 (.int (ninS (sC S) (sB S) (widS S) (sqW S) (cfS S) (nI k) heat byH byW)) T1 (by omega)
      refine ⟨h2, cl2, y5, y8, ?_, T2⟩
      have d' : ninS (sC S) (sB S) (widS S) (sqW S) (cfS S) (nI k) heat byH byW < least := Int32.not_le.mp d
      rw [← P2, bX11_lowers_50, if_neg e1, mlw_st W wr (show k < 4 by omega)]
      simp only [bX11_lowers_120, bX11_lowers_125, bX11_lowers_137, bX11_lowers_145, tk1_some, tk0_some, tkc_some, tkc_none, ↓reduceIte, mw_i W, P1, d', if_true, nI_k1]
theorem m_lowers (X : MInv h S) (P : PX S) (Q : sBo S = true → PB S) (wr : sBo S = true → 0 ≤ sB S 1 0 ∧ sB S 1 0 ≤ 99) {heat byH byW : Int32} : ∃ h', tC mX11_lowers [.ref 70, .int heat, .int byH, .int byW] h = some (h', some (sLow S heat byH byW).2) ∧ MInv h' (sLow S heat byH byW).1 ∧ FrM h h' := by
  obtain ⟨h1, E1, X1, F1, _, I1⟩ := m_thr X (v := 0)
  have RS := m_rsc X1 (heat := heat) (byH := byH) (byW := byW)
  unfold sLow
  cases bo : sBo S with
  | false =>
    rw [bo, if_neg (by decide)] at RS
    obtain ⟨h2, X2, F2, _, D2, _⟩ := m_note X1 (t := 1) (by decide)
    refine ⟨h2, ?_, X2, FrM_tr F1 F2⟩
    simp only [cX11_lowers_, bX11_lowers_0, bX11_lowers_5, bX11_lowers_12, bX11_lowers_19, bX11_lowers_25, tk1_some, tk0_some, tkc_some, tkc_none, ↓reduceIte, E1, I1, RS, show ((1 : Int32) ≤ 0) = False from by decide, D2, Bool.false_eq_true, if_false, sRef]
  | true =>
    rw [bo, if_pos rfl] at RS
    cases sc : scatC heat byH byW with
    | false =>
      rw [sc, if_neg (by decide)] at RS
      obtain ⟨h2, X2, F2, _, D2, _⟩ := m_note X1 (t := 2) (by decide)
      refine ⟨h2, ?_, X2, FrM_tr F1 F2⟩
      simp only [cX11_lowers_, bX11_lowers_0, bX11_lowers_5, bX11_lowers_12, bX11_lowers_19, bX11_lowers_25, tk1_some, tk0_some, tkc_some, tkc_none, ↓reduceIte, E1, I1, RS, show ((2 : Int32) ≤ 0) = False from by decide, D2, Bool.false_eq_true, if_false, if_true, sRef]
    | true =>
      rw [sc, if_pos rfl] at RS
      obtain ⟨b, nn, G, nm, c40, lo, hi, cl, T0, T⟩ := m_tri X1 P bo (Q bo)
      obtain ⟨W, o, _⟩ := mt_W T0 T
      have M := mw_b W
      obtain ⟨h2, cl2, P2, T2⟩ := mt_nin T0 T (ch := -1) (heat := heat) (byH := byH) (byW := byW)
      rw [show heatW (-1) heat = heat from if_neg (by decide), show waterW (sB S 1 0) (-1) = sB S 1 0 from if_neg (by decide), show moreS (-1) = 0 from by decide] at P2
      obtain ⟨h3, cl3, y5, y8, P3, T3⟩ := mlw_loop T0 (wr bo) (heat := heat) (byH := byH) (byW := byW) (x4 := .int 0) 4 0 (ninS (sC S) (sB S) (widS S) (sqW S) (cfS S) (-1) heat byH byW) (-2) h2 cl2 tm_U T2 (by omega)
      rw [nI_0] at P3
      obtain ⟨X3, F3⟩ := m_triP X1 T3
      obtain ⟨h4, X4, F4, I4, _, _, _, _, D4⟩ := m_note X3 (t := 0) (by decide)
      have D4 := fun v => (D4 rfl v).1
      refine ⟨h4, ?_, X4, FrM_tr F1 (FrM_tr F3 F4)⟩
      simp only [cX11_lowers_, bX11_lowers_0, bX11_lowers_5, bX11_lowers_12, bX11_lowers_26, bX11_lowers_32, bX11_lowers_35, bX11_lowers_41, bX11_lowers_151, bX11_lowers_157, tk1_some, tk0_some, tkc_some, tkc_none, ↓reduceIte, E1, I1, RS, show ((0 : Int32) ≤ 0) = True from by decide, if_true, mw_3 W, mb_o M, gf_10_2, P2, P3, I4, D4, sAns]
theorem mwy_st (W : MW h b (sC S) (sB S) nn G nm) {x1 x2 : Value} {k : Nat} (hk : k < 4) : tE mX11_why 70 [.ref 70, x1, x2, .int (nI k)] [] h = tE mX11_why 90 [.ref 70, x1, x2, .int (nI k)] [.int (moreS (nI k)), .ref 70] h := by
  rcases (show k = 0 ∨ k = 1 ∨ k = 2 ∨ k = 3 by omega) with rfl | rfl | rfl | rfl
  · rw [show moreS (nI 0) = 0 from by decide]
    simp only [bX11_why_70, bX11_why_80, bX11_why_89, show (nI 0 = 2) = False from by decide, show (nI 0 = 3) = False from by decide, not_false_eq_true, if_true]
  · rw [show moreS (nI 1) = 0 from by decide]
    simp only [bX11_why_70, bX11_why_80, bX11_why_89, show (nI 1 = 2) = False from by decide, show (nI 1 = 3) = False from by decide, not_false_eq_true, if_true]
  · rw [show moreS (nI 2) = 1 from by decide]
    simp only [bX11_why_70, bX11_why_76, show (nI 2 = 2) = True from by decide, not_true, if_false]
  · rw [show moreS (nI 3) = -1 from by decide]
    simp only [bX11_why_70, bX11_why_80, bX11_why_85, show (nI 3 = 2) = False from by decide, show (nI 3 = 3) = True from by decide, not_false_eq_true, not_true, if_true, if_false]
theorem mwy_st2 (W : MW h b (sC S) (sB S) nn G nm) (wr : 0 ≤ sB S 1 0 ∧ sB S 1 0 ≤ 99) {heat : Int32} {x2 : Value} {k : Nat} (hk : k < 4) : tE mX11_why 93 [.ref 70, .int heat, x2, .int (nI k)] [] h = tE mX11_why 134 [.ref 70, .int heat, x2, .int (nI k)] [.int (waterW (sB S 1 0) (nI k)), .int (heatW (nI k) heat), .ref 70] h := by
  have M := mw_b W
  by_cases k0 : k = 0
  · subst k0
    rw [show waterW (sB S 1 0) (nI 0) = sB S 1 0 from if_neg (by decide), show heatW (nI 0) heat = keptS (heat - 20) 0 999 from if_pos (by decide)]
    simp only [bX11_why_93, bX11_why_98, bX11_why_105, bX11_why_109, bX11_why_127, bX11_why_131, tk1_some, tk0_some, tkc_some, tkc_none, ↓reduceIte, show (nI 0 = 0) = True from by decide, show (nI 0 = 1) = False from by decide, not_true, not_false_eq_true, if_true, if_false, m_bounded, mw_3 W, mb_o M, gf_10_2]
  · by_cases k1 : k = 1
    · subst k1
      rw [show waterW (sB S 1 0) (nI 1) = sB S 1 0 + 20 from (if_pos (by decide)).trans (wat_20 wr), show heatW (nI 1) heat = heat from if_neg (by decide)]
      simp only [bX11_why_93, bX11_why_108, bX11_why_109, bX11_why_114, bX11_why_118, bX11_why_121, tk1_some, tk0_some, tkc_some, tkc_none, ↓reduceIte, show (nI 1 = 0) = False from by decide, show (nI 1 = 1) = True from by decide, not_true, not_false_eq_true, if_true, if_false, mw_3 W, mb_o M, gf_10_2]
    · have n0 : (nI k = 0) = False := eq_false (fun y => k0 (by have := congrArg iN y; rw [iN_nI (by omega)] at this; exact this))
      have n1 : (nI k = 1) = False := eq_false (fun y => k1 (by have := congrArg iN y; rw [iN_nI (by omega)] at this; exact this))
      rw [show waterW (sB S 1 0) (nI k) = sB S 1 0 from if_neg (by rw [n1]; exact id), show heatW (nI k) heat = heat from if_neg (by rw [n0]; exact id)]
      simp only [bX11_why_93, bX11_why_108, bX11_why_109, bX11_why_127, bX11_why_131, tk1_some, tk0_some, tkc_some, tkc_none, ↓reduceIte, n0, n1, not_false_eq_true, if_true, mw_3 W, mb_o M, gf_10_2]
theorem mwy_loop (T0 : MT0 h0 S b nn G nm c40 lo hi) (wr : 0 ≤ sB S 1 0 ∧ sB S 1 0 ≤ 99) {heat : Int32} : ∀ r k bits h cl, TT h0 h cl → k + r = 4 → ∃ h' cl', tE mX11_why 65 [.ref 70, .int heat, .int bits, .int (nI k)] [] h = tE mX11_why 152 [.ref 70, .int heat, .int (savS (whyW S heat) r k bits), .int 4] [] h' ∧ TT h0 h' cl' := by
  intro r
  induction r with
  | zero =>
    intro k bits h cl T hk
    obtain rfl : k = 4 := by omega
    exact ⟨h, cl, by rw [bX11_why_65, if_pos (show (4 : Int32) ≤ nI 4 from Int32.le_refl _)]; rfl, T⟩
  | succ r ih =>
    intro k bits h cl T hk
    have e1 : ¬ (4 : Int32) ≤ nI k := nI_ge (show k < 4 by omega) (by decide)
    obtain ⟨W, o, _⟩ := mt_W T0 T
    obtain ⟨h1, cl1, P1, T1, D1⟩ := mt_clays T0 T (more := moreS (nI k))
    obtain ⟨W1, o1, _⟩ := mt_W T0 T1
    obtain ⟨h2, km2, P2, T2, _⟩ := mt_try T0 T1 (opn := opnS (sB S 1 2) (cfS S) (nI k)) (fun j hj => by rw [D1 j hj]; rfl) (heat := heatW (nI k) heat) (water := waterW (sB S 1 0) (nI k))
    replace P2 : tC mX11_tries [.ref 70, .int (heatW (nI k) heat), .int (waterW (sB S 1 0) (nI k))] h1 = some (h2, some (.int (bI (whyW S heat (nI k))))) := P2
    have s1 : tE mX11_why 65 [.ref 70, .int heat, .int bits, .int (nI k)] [] h = tE mX11_why 137 [.ref 70, .int heat, .int bits, .int (nI k)] [.int (bI (whyW S heat (nI k)))] h2 := by
      rw [bX11_why_65, if_neg e1, mwy_st W (show k < 4 by omega)]
      simp only [bX11_why_90, tk1_some, tk0_some, tkc_some, tkc_none, ↓reduceIte, mw_i W, P1]
      rw [mwy_st2 W1 wr (show k < 4 by omega)]
      simp only [bX11_why_134, tk1_some, tk0_some, tkc_some, tkc_none, ↓reduceIte, mw_i W1, P2]
    rw [s1]
    unfold savS
    by_cases z : whyW S heat (nI k) = true
    · rw [if_pos z, z, bI_t]
      obtain ⟨h3, cl3, P3, T3⟩ := ih (k + 1) bits h2 cl1 T2 (by omega)
      refine ⟨h3, cl3, ?_, T3⟩
      rw [← P3]
      simp only [bX11_why_137, bX11_why_146, show ((1 : Int32) = 0) = False from by decide, not_false_eq_true, if_true, nI_k1]
    · rw [if_neg z]
      rw [Bool.not_eq_true] at z
      rw [z, bI_f]
      obtain ⟨h3, cl3, P3, T3⟩ := ih (k + 1) (bits ||| (1 <<< (nI k &&& 31))) h2 cl1 T2 (by omega)
      refine ⟨h3, cl3, ?_, T3⟩
      rw [← P3]
      simp only [bX11_why_137, bX11_why_140, bX11_why_146, not_true, if_false, nI_k1]
theorem m_why (X : MInv h S) (P : PX S) (Q : sBo S = true → PB S) (wr : sBo S = true → 0 ≤ sB S 1 0 ∧ sB S 1 0 ≤ 99) {heat : Int32} : ∃ h', tC mX11_why [.ref 70, .int heat] h = some (h', some (sWhy S heat).2) ∧ MInv h' (sWhy S heat).1 ∧ FrM h h' := by
  obtain ⟨h1, E1, X1, F1, _, I1⟩ := m_thr X (v := 0)
  unfold sWhy
  cases bo : sBo S with
  | false =>
    have bk := (m_bk X1).2 bo
    obtain ⟨h2, X2, F2, _, D2, _⟩ := m_note X1 (t := 1) (by decide)
    refine ⟨h2, ?_, X2, FrM_tr F1 F2⟩
    simp only [cX11_why_, bX11_why_0, bX11_why_5, bX11_why_9n, bX11_why_12, bX11_why_17, tk1_some, tk0_some, tkc_some, tkc_none, ↓reduceIte, E1, bk, I1, D2, Bool.false_eq_true, if_false, sRef]
  | true =>
    obtain ⟨b0, bk⟩ := (m_bk X1).1 bo
    cases iv : inB heat 0 999 with
    | false =>
      obtain ⟨h2, X2, F2, _, D2, _⟩ := m_note X1 (t := 2) (by decide)
      refine ⟨h2, ?_, X2, FrM_tr F1 F2⟩
      simp only [cX11_why_, bX11_why_0, bX11_why_5, bX11_why_9r, bX11_why_18, bX11_why_26, bX11_why_29, bX11_why_34, tk1_some, tk0_some, tkc_some, tkc_none, ↓reduceIte, E1, bk, m_in, iv, bI_f, not_true, if_false, I1, D2, Bool.false_eq_true, if_true, sRef]
    | true =>
      obtain ⟨b, nn, G, nm, c40, lo, hi, cl, T0, T⟩ := m_tri X1 P bo (Q bo)
      obtain ⟨h2, cl2, P2, T2, D2⟩ := mt_clays T0 T (more := 0)
      obtain ⟨W2, o2, _⟩ := mt_W T0 T2
      have M2 := mw_b W2
      obtain ⟨h3, km3, P3, T3, _⟩ := mt_try T0 T2 (opn := opnS (sB S 1 2) (cfS S) (-1)) (fun j hj => by rw [D2 j hj]; rfl) (heat := heat) (water := sB S 1 0)
      have ew : whyW S heat (-1) = crkW (sC S) (sB S) (widS S) (sqW S) (opnS (sB S 1 2) (cfS S) (-1)) heat (sB S 1 0) := by
        unfold whyW
        rw [show heatW (-1) heat = heat from if_neg (by decide), show waterW (sB S 1 0) (-1) = sB S 1 0 from if_neg (by decide)]
      rw [← ew] at P3
      have st : tC mX11_why [.ref 70, .int heat] h = tE mX11_why 52 [.ref 70, .int heat, tm_U, tm_U] [.int (bI (whyW S heat (-1)))] h3 := by
        simp only [cX11_why_, bX11_why_0, bX11_why_5, bX11_why_9r, bX11_why_18, bX11_why_26, bX11_why_35, bX11_why_40, bX11_why_46, bX11_why_49, tk1_some, tk0_some, tkc_some, tkc_none, ↓reduceIte, E1, bk, m_in, iv, bI_t, show ((1 : Int32) = 0) = False from by decide, not_false_eq_true, if_true, I1, P2, mw_3 W2, mb_o M2, gf_10_2, mw_i W2, P3]
      rw [st, if_pos rfl, if_pos rfl]
      by_cases z : whyW S heat (-1) = true
      · rw [if_pos z, z, bI_t]
        obtain ⟨h4, cl4, P4, T4⟩ := mwy_loop T0 (wr bo) (heat := heat) 4 0 0 h3 cl2 T3 (by omega)
        rw [nI_0] at P4
        obtain ⟨X4, F4⟩ := m_triP X1 T4
        obtain ⟨h5, X5, F5, I5, _, _, _, _, D5⟩ := m_note X4 (t := 0) (by decide)
        have D5 := fun v => (D5 rfl v).1
        refine ⟨h5, ?_, X5, FrM_tr F1 (FrM_tr F4 F5)⟩
        simp only [bX11_why_52, bX11_why_61, bX11_why_152, bX11_why_157, tk1_some, tk0_some, tkc_some, tkc_none, ↓reduceIte, show ((1 : Int32) = 0) = False from by decide, not_false_eq_true, if_true, P4, I5, D5, sAns]
      · rw [if_neg z]
        rw [Bool.not_eq_true] at z
        rw [z, bI_f]
        obtain ⟨X3, F3⟩ := m_triP X1 T3
        obtain ⟨h5, X5, F5, I5, D5, _⟩ := m_note X3 (t := 5) (by decide)
        refine ⟨h5, ?_, X5, FrM_tr F1 (FrM_tr F3 F5)⟩
        simp only [bX11_why_52, bX11_why_55, bX11_why_60, tk1_some, tk0_some, tkc_some, tkc_none, ↓reduceIte, not_true, if_false, I5, D5, sRef]
end M39
