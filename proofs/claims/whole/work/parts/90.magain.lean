/-! ANY TENTH AGAIN: what lies outside the bar does not count, the order too; the reference's again -/
def Orr (tn : Nat) (A B : Nat → Nat → Int32) : Prop := ∀ k, k < tn → A 7 k = B 7 k
section O1
variable {cnt : Nat → Nat} {tab : Nat → Nat → Int32} {cuts w : Nat} {sq water wp : Int32}
theorem turnA_7 {t2 : Nat → Int32} {A : Nat → Nat → Int32} {tenth tn k kd : Nat} : turnA t2 wp tenth A tn k kd 7 = upd (A 7) tn (nI k) := by
  unfold turnA; rw [upA_same]
theorem stepT_o {i j tenth tn : Nat} {A B : Nat → Nat → Int32} (hi : i < cuts) (hj : j < w) (E : EqR cuts w (i + 1) A B) (O : Orr tn A B) : Orr (stepT cnt tab wp tenth (i * 5 + j) (A, tn)).2 (stepT cnt tab wp tenth (i * 5 + j) (A, tn)).1 (stepT cnt tab wp tenth (i * 5 + j) (B, tn)).1 := by
  have k : kndS cnt tab A (i * 5 + j) = kndS cnt tab B (i * 5 + j) := by
    unfold kndS
    rw [E.2.1 i j hi hj, E.2.2.2.2.2.2.1 i j (by omega) hj, E.2.2.2.2.2.2.2 i j hi hj]
  unfold stepT
  simp only [k]
  split
  · exact O
  · split
    · intro x hx
      dsimp only
      rw [turnA_7, turnA_7]
      by_cases d : x = tn
      · subst d; rw [upd_at, upd_at]
      · rw [upd_off d, upd_off d]; exact O x (by have : x < tn + 1 := hx; omega)
    · exact O
theorem rowT_o {i tenth : Nat} (hi : i < cuts) : ∀ r j (A B : Nat → Nat → Int32) tn, j + r = w → EqR cuts w (i + 1) A B → Orr tn A B → Orr (rowT cnt tab wp tenth i r j (A, tn)).2 (rowT cnt tab wp tenth i r j (A, tn)).1 (rowT cnt tab wp tenth i r j (B, tn)).1
  | 0, j, A, B, tn, _, _, O => O
  | r + 1, j, A, B, tn, h, E, O => by
    obtain ⟨a, b⟩ := stepT_c (tn := tn) (cnt := cnt) (tab := tab) (wp := wp) (tenth := tenth) hi (show j < w by omega) E
    have o := stepT_o (cnt := cnt) (tab := tab) (wp := wp) (tenth := tenth) hi (show j < w by omega) E O
    unfold rowT
    generalize stepT cnt tab wp tenth (i * 5 + j) (A, tn) = s at a b o
    generalize stepT cnt tab wp tenth (i * 5 + j) (B, tn) = t at a b o
    obtain ⟨s1, s2⟩ := s
    obtain ⟨t1, t2⟩ := t
    obtain rfl : s2 = t2 := b
    exact rowT_o hi r (j + 1) s1 t1 s2 (by omega) a o
theorem cutT_o {i tenth : Nat} (hw : w ≤ 5) (hi : i < cuts) {A B : Nat → Nat → Int32} {z : Nat × Int32 × Bool} (E : EqR cuts w i A B) (O : Orr z.1 A B) : Orr (cutT cnt tab cuts w sq water tenth i (A, z)).2.1 (cutT cnt tab cuts w sq water tenth i (A, z)).1 (cutT cnt tab cuts w sq water tenth i (B, z)).1 := by
  obtain ⟨e1, e2, e3, e4, e5, e6, e8, e9⟩ := E
  have G : ∀ j, j < w → coolG (tab 1 1) (tab 1 3) water (A 9) (A 1) cuts w i (i * 5 + j) = coolG (tab 1 1) (tab 1 3) water (B 9) (B 1) cuts w i (i * 5 + j) := fun j hj => coolG_c e9 e1 hi hj
  have E1 : EqR cuts w (i + 1) (upA A 8 (rowF (coolG (tab 1 1) (tab 1 3) water (A 9) (A 1) cuts w i) (A 8) i w)) (upA B 8 (rowF (coolG (tab 1 1) (tab 1 3) water (B 9) (B 1) cuts w i) (B 8) i w)) := by
    refine ⟨e1, e2, e3, e4, e5, e6, ?_, e9⟩
    intro i' j' h1 h2
    rw [upA_same, upA_same, rowF_in hw h2, rowF_in hw h2]
    by_cases e : i' = i
    · subst e; rw [if_pos rfl, if_pos rfl, G j' h2]
    · rw [if_neg e, if_neg e]; exact e8 i' j' (by omega) h2
  exact rowT_o (cnt := cnt) (tab := tab) (wp := nI w * sq) (tenth := tenth) hi w 0 _ _ z.1 (by omega) E1 O
theorem cutsT_o {tenth : Nat} (hw : w ≤ 5) : ∀ r i (A B : Nat → Nat → Int32) (z : Nat × Int32 × Bool), i + r = cuts → EqR cuts w i A B → Orr z.1 A B → Orr (cutsT cnt tab cuts w sq water tenth r i (A, z)).2.1 (cutsT cnt tab cuts w sq water tenth r i (A, z)).1 (cutsT cnt tab cuts w sq water tenth r i (B, z)).1
  | 0, i, A, B, z, h, E, O => O
  | r + 1, i, A, B, z, h, E, O => by
    obtain ⟨a, b⟩ := cutT_c (cnt := cnt) (tab := tab) (sq := sq) (water := water) (tenth := tenth) (z := z) hw (show i < cuts by omega) E
    have o := cutT_o (cnt := cnt) (tab := tab) (sq := sq) (water := water) (tenth := tenth) (z := z) hw (show i < cuts by omega) E O
    unfold cutsT
    generalize cutT cnt tab cuts w sq water tenth i (A, z) = s at a b o
    generalize cutT cnt tab cuts w sq water tenth i (B, z) = t at a b o
    obtain ⟨s1, s2⟩ := s
    obtain ⟨t1, t2⟩ := t
    obtain rfl : s2 = t2 := b
    exact cutsT_o hw r (i + 1) s1 t1 s2 (by omega) a o
theorem onceS_o {tenth tn : Nat} {crk : Int32} (hw : w ≤ 5) {A B : Nat → Nat → Int32} (E : EqH cuts w A B) (O : Orr tn A B) : Orr (onceS cnt tab cuts w sq water tenth A tn crk).2.1 (onceS cnt tab cuts w sq water tenth A tn crk).1 (onceS cnt tab cuts w sq water tenth B tn crk).1 := by
  obtain ⟨e1, e2, e3, e4, e5, e6, e8⟩ := E
  exact cutsT_o (cnt := cnt) (tab := tab) (sq := sq) (water := water) (tenth := tenth + 1) hw cuts 0 (swA A) (swA B) (tn, crk, false) (by omega) ⟨e1, e2, e3, e4, e5, e6, fun i j h => absurd h (by omega), e8⟩ O
/-- two bars that can't be told apart -/
def EqB (cuts w : Nat) (s t : BSt) : Prop := EqH cuts w s.1 t.1 ∧ Orr s.2.1 s.1 t.1 ∧ s.2 = t.2
theorem EqB_tr {s t u : BSt} (a : EqB cuts w s t) (b : EqB cuts w t u) : EqB cuts w s u :=
  ⟨EqH_tr a.1 b.1, fun k hk => (a.2.1 k hk).trans (b.2.1 k (by rw [← a.2.2]; exact hk)), a.2.2.trans b.2.2⟩
theorem EqB_rf (s : BSt) : EqB cuts w s s := ⟨EqH_rf _ _ _, fun _ _ => rfl, rfl⟩
theorem barStep_e (hw : w ≤ 5) {s t : BSt} (E : EqB cuts w s t) : EqB cuts w (barStep cnt tab cuts w sq water s) (barStep cnt tab cuts w sq water t) := by
  obtain ⟨A, z⟩ := s
  obtain ⟨B, y⟩ := t
  obtain ⟨e, o, rfl⟩ := E
  obtain ⟨a, b⟩ := onceS_c (cnt := cnt) (tab := tab) (sq := sq) (water := water) (tenth := z.2.2.1) (tn := z.1) (crk := z.2.1) hw e
  have o2 := onceS_o (cnt := cnt) (tab := tab) (sq := sq) (water := water) (tenth := z.2.2.1) (tn := z.1) (crk := z.2.1) hw e o
  refine ⟨a, o2, ?_⟩
  show ((onceS cnt tab cuts w sq water z.2.2.1 A z.1 z.2.1).2.1, (onceS cnt tab cuts w sq water z.2.2.1 A z.1 z.2.1).2.2.1, z.2.2.1 + 1, (if bendS ((onceS cnt tab cuts w sq water z.2.2.1 A z.1 z.2.1).1 5) w cuts < z.2.2.2.1 then bendS ((onceS cnt tab cuts w sq water z.2.2.1 A z.1 z.2.1).1 5) w cuts else z.2.2.2.1), (if z.2.2.2.2 < bendS ((onceS cnt tab cuts w sq water z.2.2.1 A z.1 z.2.1).1 5) w cuts then bendS ((onceS cnt tab cuts w sq water z.2.2.1 A z.1 z.2.1).1 5) w cuts else z.2.2.2.2)) = ((onceS cnt tab cuts w sq water z.2.2.1 B z.1 z.2.1).2.1, (onceS cnt tab cuts w sq water z.2.2.1 B z.1 z.2.1).2.2.1, z.2.2.1 + 1, (if bendS ((onceS cnt tab cuts w sq water z.2.2.1 B z.1 z.2.1).1 5) w cuts < z.2.2.2.1 then bendS ((onceS cnt tab cuts w sq water z.2.2.1 B z.1 z.2.1).1 5) w cuts else z.2.2.2.1), (if z.2.2.2.2 < bendS ((onceS cnt tab cuts w sq water z.2.2.1 B z.1 z.2.1).1 5) w cuts then bendS ((onceS cnt tab cuts w sq water z.2.2.1 B z.1 z.2.1).1 5) w cuts else z.2.2.2.2))
  rw [b, bendS_c a.2.2.2.2.1]
theorem barS_e (hw : w ≤ 5) : ∀ r (s t : BSt), EqB cuts w s t → EqB cuts w (barS cnt tab cuts w sq water r s) (barS cnt tab cuts w sq water r t)
  | 0, _, _, E => E
  | r + 1, s, t, E => by
    unfold barS
    rw [← E.2.2]
    by_cases d : s.2.2.1 = -1
    · rw [if_pos d, if_pos d]; exact barS_e hw r _ _ (barStep_e hw E)
    · rw [if_neg d, if_neg d]; exact E
theorem barS_st : ∀ r (s : BSt), ¬ s.2.2.1 = -1 → barS cnt tab cuts w sq water r s = s
  | 0, _, _ => rfl
  | r + 1, s, d => by unfold barS; rw [if_neg d]
theorem barS_add : ∀ a b (s : BSt), barS cnt tab cuts w sq water (a + b) s = barS cnt tab cuts w sq water b (barS cnt tab cuts w sq water a s)
  | 0, b, s => by rw [Nat.zero_add]; rfl
  | a + 1, b, s => by
    rw [show a + 1 + b = (a + b) + 1 by omega]
    by_cases d : s.2.2.1 = -1
    · rw [barS, if_pos d, barS, if_pos d]; exact barS_add a b _
    · rw [barS_st _ _ d, barS_st _ _ d, barS_st _ _ d]
theorem barS_te : ∀ r (s : BSt), (barS cnt tab cuts w sq water r s).2.2.2.1 ≤ s.2.2.2.1 + r
  | 0, _ => Nat.le_refl _
  | r + 1, s => by
    unfold barS
    by_cases d : s.2.2.1 = -1
    · rw [if_pos d]
      have := barS_te r (barStep cnt tab cuts w sq water s)
      have e : (barStep cnt tab cuts w sq water s).2.2.2.1 = s.2.2.2.1 + 1 := rfl
      omega
    · rw [if_neg d]; omega
/-- a run that was stopped is a shorter one -/
theorem barS_cut : ∀ r (s : BSt) m, (barS cnt tab cuts w sq water r s).2.2.2.1 = s.2.2.2.1 + m → barS cnt tab cuts w sq water r s = barS cnt tab cuts w sq water m s
  | 0, s, m, h => by
    have h' : s.2.2.2.1 = s.2.2.2.1 + m := h
    obtain rfl : m = 0 := by omega
    rfl
  | r + 1, s, m, h => by
    by_cases d : s.2.2.1 = -1
    · rw [barS, if_pos d] at h ⊢
      have g := barS_mono cnt tab cuts w sq water r (barStep cnt tab cuts w sq water s)
      have e : (barStep cnt tab cuts w sq water s).2.2.2.1 = s.2.2.2.1 + 1 := rfl
      obtain ⟨m, rfl⟩ : ∃ k, m = k + 1 := ⟨m - 1, by omega⟩
      rw [barS, if_pos d]
      exact barS_cut r _ m (by omega)
    · rw [barS_st _ _ d, barS_st _ _ d]
theorem barS_ful {s : BSt} {n m : Nat} (hn : n ≤ m) (h : (barS cnt tab cuts w sq water m s).2.2.2.1 = s.2.2.2.1 + m) : (barS cnt tab cuts w sq water n s).2.2.2.1 = s.2.2.2.1 + n := by
  obtain ⟨k, rfl⟩ : ∃ k, m = n + k := ⟨m - n, by omega⟩
  rw [barS_add] at h
  have a := barS_te (cnt := cnt) (tab := tab) (cuts := cuts) (w := w) (sq := sq) (water := water) k (barS cnt tab cuts w sq water n s)
  have b := barS_te (cnt := cnt) (tab := tab) (cuts := cuts) (w := w) (sq := sq) (water := water) n s
  omega
theorem barS_01 : ∀ r (s : BSt), (barS cnt tab cuts w sq water r s).1 0 = s.1 0 ∧ (barS cnt tab cuts w sq water r s).1 1 = s.1 1
  | 0, _ => ⟨rfl, rfl⟩
  | r + 1, s => by
    by_cases d : s.2.2.1 = -1
    · rw [barS, if_pos d]
      obtain ⟨a, b⟩ := barS_01 r (barStep cnt tab cuts w sq water s)
      exact ⟨a.trans once_0, b.trans once_1⟩
    · rw [barS_st _ _ d]; exact ⟨rfl, rfl⟩
theorem hot0_e (hc : cuts ≤ 8) (hw : w ≤ 5) {v : Int32} {A B : Nat → Nat → Int32} (E : EqI cuts w (A 1) (B 1)) : EqB cuts w (hot0 tab cuts w v A) (hot0 tab cuts w v B) :=
  ⟨heatS_c hc hw E, fun k hk => absurd hk (Nat.not_lt_zero _), rfl⟩
end O1
/-- the bar is what its heat and its tenths make of it -/
def HisS (S : SS) : Prop := EqB (cutS S) (widS S) (barS (sC S) (sB S) (cutS S) (widS S) (sqW S) (sB S 1 0) (sR S).2.2.2.1 (hot0 (sB S) (cutS S) (widS S) (sH S) (sR S).1)) (sR S)
section M38
variable {h : tm_H} {S : SS}
theorem MR_e {Z : MZ} {fh : Int32} {s t : BSt} {cuts w : Nat} (H : MR h Z fh s cuts w) (E : EqB cuts w s t) (e0 : EqI cuts w (s.1 0) (t.1 0)) : MR h Z fh t cuts w := by
  obtain ⟨ez, hm, km, cl, tu, th, om, HA, e8, e2, e6, e0', O⟩ := H
  obtain ⟨⟨q1, q2, q3, q4, q5, q6, q8⟩, o, q⟩ := E
  rw [q] at ez
  refine ⟨ez, hm, km, cl, tu, th, om, by rw [← q]; exact HA, EqI_tr e8 q8, EqI_tr e2 q2, EqI_tr e6 q6, EqI_tr e0' e0, fun k hk => ?_⟩
  rw [← q] at hk
  rw [O k hk, o k hk]
theorem m_again (X : MInv h S) (P : PX S) (Q : sBo S = true → PB S) (HS : sBo S = true → HisS S) {n : Int32} : ∃ h', tC mX11_again [.ref 130, .int n] h = some (h', some (sAgain S n).2) ∧ MInv h' (sAgain S n).1 ∧ FrM h h' := by
  obtain ⟨h1, E1, X1, F1, _, I1⟩ := m_thr X (v := 0)
  unfold sAgain
  cases bo : sBo S with
  | false =>
    have bk := (m_bk X1).2 bo
    obtain ⟨h2, X2, F2, _, _, D2, _⟩ := m_note X1 (t := 1) (by decide)
    refine ⟨h2, ?_, X2, FrM_tr F1 F2⟩
    simp only [cX11_again_, bX11_again_0, bX11_again_5, bX11_again_9n, bX11_again_12, bX11_again_17, tk1_some, tk0_some, tkc_some, tkc_none, ↓reduceIte, E1, bk, I1, D2, tm_rb0, Bool.false_eq_true, if_false, sDen]
  | true =>
    obtain ⟨b0, bk⟩ := (m_bk X1).1 bo
    obtain ⟨b, nn, G, nm, Z, z1, z2, M, R, put⟩ := MI_bar X1 bo
    obtain ⟨g21, g22, g23, _, _, _, _⟩ := MR_f R
    cases iv : inB n 0 (nI (sR S).2.2.2.1) with
    | false =>
      obtain ⟨h2, X2, F2, _, _, D2, _⟩ := m_note X1 (t := 2) (by decide)
      refine ⟨h2, ?_, X2, FrM_tr F1 F2⟩
      simp only [cX11_again_, bX11_again_0, bX11_again_5, bX11_again_9r, bX11_again_18, bX11_again_24, bX11_again_27, bX11_again_30, bX11_again_35, tk1_some, tk0_some, tkc_some, tkc_none, ↓reduceIte, E1, bk, g22, m_in, iv, bI_f, not_true, if_false, I1, D2, tm_rb0, Bool.false_eq_true, if_true, sDen]
    | true =>
      have t4 := P.2.2.1
      obtain ⟨en, _, hn⟩ := inB_nat (a := 0) (b := (sR S).2.2.2.1) (by omega) (by omega) iv
      obtain ⟨⟨lo, hi, F⟩, h5, eC, eW, BO⟩ := Q bo
      have HI := HS bo
      unfold HisS at HI
      obtain ⟨_, hm, km, cl, tu, th, om, HA, e8, e2, e6, e0, O⟩ := R
      obtain ⟨h2, Z2, P2, R2, Q2, F2⟩ := MR_hot (tab := sB S) (px_c P) (px_w P) HA e0 (v := sH S)
      have BH := BOk_hot (v := sH S) F (px_w P) (A := (sR S).1) (cuts := cutS S) BO.2.2.2
      have full := barS_ful (n := iN n) hn (by rw [HI.2.2]; show _ = 0 + _; rw [Nat.zero_add])
      obtain ⟨h3, Z3, P3, R3, Q3, F3⟩ := m_agL F h5 z2 (px_c P) eC eW (px_w P) (N := iN n) (by omega) (iN n) h2 Z2 _ (by show 0 + _ = _; omega) (by rw [Q2.2.1]; exact z1) (MBk_C z2 F2 M) BH R2 full
      rw [← en] at P3
      have R4 : MR h3 Z3 (sH S) (backS S n) (cutS S) (widS S) := by
        unfold backS
        by_cases d : n = nI (sR S).2.2.2.1
        · rw [if_pos d]
          have dn : iN n = (sR S).2.2.2.1 := by rw [d, iN_nI (by omega)]
          rw [dn] at R3
          refine MR_e R3 HI ?_
          rw [(barS_01 _ _).1]
          show EqI _ _ (heatS (sB S) (cutS S) (widS S) (sqS (widS S) (widS S)) (sH S) (sR S).1 0) _
          rw [heatS_k.2.2.2.1]; exact EqI_rf _ _ _
        · rw [if_neg d]; exact R3
      obtain ⟨X3, G3⟩ := put h3 Z3 (sH S) _ R4 (ZEq_tr Q2 Q3) (FrC_tr F2 F3)
      obtain ⟨h4, X4, F4, I4, _, _, _, _, D4⟩ := m_note X3 (t := 0) (by decide)
      have D4 := (D4 rfl 0).2
      refine ⟨h4, ?_, X4, FrM_tr F1 (FrM_tr G3 F4)⟩
      simp only [cX11_again_, bX11_again_0, bX11_again_5, bX11_again_9r, bX11_again_18, bX11_again_24, bX11_again_27, bX11_again_36, bX11_again_41, bX11_again_59, bX11_again_63, tk1_some, tk0_some, tkc_some, tkc_none, ↓reduceIte, E1, bk, g21, g22, m_in, iv, bI_t, show ((1 : Int32) = 0) = False from by decide, not_false_eq_true, if_true, I1, P2, P3, I4, D4, tm_rb1]
end M38
