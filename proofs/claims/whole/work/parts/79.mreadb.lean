/-! THE REFERENCE's reading: the whole text -/
section M19
variable {tp : Nat → Int32} {n : Nat} {z : RSt}
def moT (n : Nat) (z : RSt) (q : Bool × RSt) : Prop := (zT z).2.1 ≤ n → q.1 = true → (zT z).2.1 ≤ (zT q.2).2.1 ∧ (zT q.2).2.1 ≤ n
theorem mo_and {q : Bool × RSt} {f : RSt → Bool × RSt} (a : moT n z q) (b : ∀ y, moT n y (f y)) : moT n z (rAnd q f) := fun hn ht => by
  obtain ⟨t, u⟩ := rAnd_t ht
  obtain ⟨x1, x2⟩ := a hn t
  rw [u] at ht ⊢
  obtain ⟨y1, y2⟩ := b _ x2 ht
  exact ⟨Nat.le_trans x1 y1, y2⟩
theorem mo_s (hn : (zT z).2.1 ≤ n) : (zT z).2.1 ≤ (zT (rStep tp n z)).2.1 ∧ (zT (rStep tp n z)).2.1 ≤ n ∧ (zT z).2.1 ≤ (zT (rStep tp n z)).1 := by
  have := tokS_b (tp := tp) hn
  exact ⟨Nat.le_trans this.1 this.2.1, this.2.2.1, this.1⟩
theorem wk_T {lo hi : Int32} {l c : Nat} : zT (rWK tp lo hi l c z).2 = zT z := by
  unfold rWK
  split
  · exact (rPut_T _ _ _ _).trans whole_T
  · exact whole_T
theorem mo_tells {k l c : Nat} {lo hi : Int32} : moT n z (rTells tp n k lo hi l c z) := fun hn ht => by
  unfold rTells at ht ⊢
  by_cases d : isWd tp (zT (rStep tp n z)) k = true
  · rw [if_pos d, wk_T]
    obtain ⟨a, b, _⟩ := mo_s (tp := tp) hn
    obtain ⟨a2, b2, _⟩ := mo_s (tp := tp) (z := rStep tp n z) b
    exact ⟨Nat.le_trans a a2, b2⟩
  · rw [if_neg d] at ht; cases ht
theorem mo_tellsW {l c : Nat} {lo hi : Int32} : moT n z (rTellsW tp n lo hi l c z) := fun hn _ => by
  unfold rTellsW
  rw [wk_T]
  obtain ⟨a, b, _⟩ := mo_s (tp := tp) hn
  exact ⟨a, b⟩
theorem mo_word {k : Nat} : moT n z (rWord tp n k z) := fun hn ht => by
  unfold rWord at ht ⊢
  obtain ⟨a, b, _⟩ := mo_s (tp := tp) hn
  by_cases d : isWd tp (zT (rStep tp n z)) k = true
  · rw [if_pos d]; exact ⟨a, b⟩
  · rw [if_neg d] at ht; cases ht
theorem mo_name {kd : Int32} : moT n z (rName tp n kd z) := fun hn ht => by
  unfold rName at ht ⊢
  obtain ⟨a, b, _⟩ := mo_s (tp := tp) hn
  by_cases d : isNm tp (zT (rStep tp n z)) = true
  · rw [if_pos d] at ht ⊢
    by_cases e : zX tp (rStep tp n z) = none
    · rw [if_pos e] at ht ⊢
      by_cases f : zN z < 22
      · rw [if_pos f]; exact ⟨a, b⟩
      · rw [if_neg f] at ht; cases ht
    · rw [if_neg e] at ht; cases ht
  · rw [if_neg d] at ht; cases ht
theorem mo_to {l : Nat} : moT n z (rTo tp n l z) := fun hn ht => by
  unfold rTo at ht ⊢
  obtain ⟨a, b, _⟩ := mo_s (tp := tp) hn
  by_cases d : isNm tp (zT (rStep tp n z)) = true
  · rw [if_pos d] at ht ⊢
    by_cases e : 0 < zD tp (rStep tp n z)
    · rw [if_pos e]
      show (zT z).2.1 ≤ (zT (rPut l 0 _ (rStep tp n z))).2.1 ∧ (zT (rPut l 0 _ (rStep tp n z))).2.1 ≤ n
      rw [rPut_T]; exact ⟨a, b⟩
    · rw [if_neg e] at ht; cases ht
  · rw [if_neg d] at ht; cases ht
theorem mo_ends {l : Nat} : moT n z (true, rEnds tp n l z) := fun hn _ => by
  obtain ⟨a, b, _⟩ := mo_s (tp := tp) (z := rClose l z) (by rw [rClose_T]; exact hn)
  rw [rClose_T] at a
  exact ⟨a, b⟩
theorem mo_whole {lo hi : Int32} : moT n z (rWhole tp lo hi (rStep tp n z)) := fun hn _ => by
  rw [whole_T]
  obtain ⟨a, b, _⟩ := mo_s (tp := tp) hn
  exact ⟨a, b⟩
theorem mo_signs : ∀ r s z, moT n z (rSigns tp n r s z)
  | 0, s, z => fun hn _ => by
    show (zT z).2.1 ≤ (zT (rClose 5 (rPut 5 1 s z))).2.1 ∧ (zT (rClose 5 (rPut 5 1 s z))).2.1 ≤ n
    rw [rClose_T, rPut_T]; exact ⟨Nat.le_refl _, hn⟩
  | r + 1, s, z => by
    refine mo_and mo_whole fun y => ?_
    by_cases d : ((s >>> (zL y &&& 31)) &&& 1) = 1
    · rw [if_pos d]; exact fun _ ht => by cases ht
    · rw [if_neg d]
      by_cases e : (zT (rStep tp n y)).2.2 = 4
      · rw [if_pos e]
        intro hn ht
        obtain ⟨a, b, _⟩ := mo_s (tp := tp) hn
        obtain ⟨a2, b2⟩ := mo_signs r _ (rStep tp n y) b ht
        exact ⟨Nat.le_trans a a2, b2⟩
      · rw [if_neg e]
        intro hn ht
        obtain ⟨a, b, _⟩ := mo_s (tp := tp) hn
        show _ ≤ (zT (rClose 5 (rPut 5 1 _ (rStep tp n y)))).2.1 ∧ (zT (rClose 5 (rPut 5 1 _ (rStep tp n y)))).2.1 ≤ n
        rw [rClose_T, rPut_T]; exact ⟨a, b⟩
theorem mo_smG : ∀ r k z, moT n z (rSmG tp n r k z)
  | 0, k, z => fun hn _ => by
    show (zT z).2.1 ≤ (zT (rClose 6 z)).2.1 ∧ (zT (rClose 6 z)).2.1 ≤ n
    rw [rClose_T]; exact ⟨Nat.le_refl _, hn⟩
  | r + 1, k, z => by
    refine mo_and mo_whole fun y => ?_
    have q : (zT y).2.1 ≤ n → (zT y).2.1 ≤ (zT (rStep tp n (rPut 6 k (zL y) y))).2.1 ∧ (zT (rStep tp n (rPut 6 k (zL y) y))).2.1 ≤ n := fun hn => by
      obtain ⟨a, b, _⟩ := mo_s (tp := tp) (z := rPut 6 k (zL y) y) (by rw [rPut_T]; exact hn)
      rw [rPut_T] at a
      exact ⟨a, b⟩
    by_cases d : k = 8
    · rw [if_pos d]; exact fun _ ht => by cases ht
    · rw [if_neg d]
      by_cases e : (zT (rStep tp n (rPut 6 k (zL y) y))).2.2 = 4
      · rw [if_pos e]
        intro hn ht
        obtain ⟨a, b⟩ := q hn
        obtain ⟨a2, b2⟩ := mo_smG r _ _ b ht
        exact ⟨Nat.le_trans a a2, b2⟩
      · rw [if_neg e]
        intro hn ht
        show _ ≤ (zT (rClose 6 (rStep tp n (rPut 6 k (zL y) y)))).2.1 ∧ (zT (rClose 6 (rStep tp n (rPut 6 k (zL y) y)))).2.1 ≤ n
        rw [rClose_T]; exact q hn
theorem mo_room {l : Nat} {k : Int32} : moT n z (rRoom l k z) := fun hn ht => by
  rw [(room_ok ht).1]; exact ⟨Nat.le_refl _, hn⟩
theorem mo_line : moT n z (rLine tp n z) := by
  unfold rLine
  split
  · exact mo_and mo_room fun y => mo_and mo_tells fun y => mo_and mo_tells fun y => mo_ends
  · split
    · exact mo_and mo_room fun y => mo_and mo_tellsW fun y => mo_and mo_tells fun y => mo_and mo_tells fun y => mo_and mo_tells fun y => mo_and mo_tells fun y => mo_ends
    · split
      · exact mo_and mo_room fun y => mo_and mo_name fun y => mo_and mo_tells fun y => mo_and mo_tells fun y => mo_and mo_tells fun y => mo_ends
      · split
        · exact mo_and mo_room fun y => mo_and mo_to fun y => mo_and mo_tells fun y => mo_and mo_tells fun y => mo_ends
        · split
          · exact mo_and mo_room fun y => mo_and mo_name fun y => mo_and mo_tellsW fun y => mo_and mo_tells fun y => mo_ends
          · split
            · exact mo_and mo_room fun y => mo_and mo_name fun y => mo_and mo_tells fun y => mo_and mo_word fun y => mo_signs 9 0 y
            · split
              · refine mo_and mo_room fun y => mo_and mo_name fun y => fun hn ht => ?_
                have := mo_smG (tp := tp) 9 0 (rOnes 8 0 y) (by rw [(ones_M 8 0 y).2]; exact hn) ht
                rw [(ones_M 8 0 y).2] at this
                exact this
              · exact fun _ ht => by cases ht
theorem line_w (h : (rLine tp n z).1 = true) : (zT z).2.2 = 1 := by
  unfold rLine at h
  split at h
  · rename_i d; exact isWd_1 d
  · split at h
    · rename_i d; exact isWd_1 d
    · split at h
      · rename_i d; exact isWd_1 d
      · split at h
        · rename_i d; exact isWd_1 d
        · split at h
          · rename_i d; exact isWd_1 d
          · split at h
            · rename_i d; exact isWd_1 d
            · split at h
              · rename_i d; exact isWd_1 d
              · cases h
theorem rLoop_f : ∀ r {y : RSt}, rLoop tp n r (false, y) = (false, y)
  | 0, _ => rfl
  | _ + 1, _ => rfl
end M19
section M20
variable {b n : Nat} {tp : Nat → Int32} {Z : MZ} {tu : Int32}
/-- the end of the text, or over -/
def EV (tp : Nat → Int32) (n : Nat) (q : Bool × RSt) (p : PR) : Prop :=
  (q.1 = true → PG tp n (zT q.2) p ∧ (zT q.2).2.2 = 0 ∧ Gd q.2) ∧ (q.1 = false → PO (zF q.2) (zT q.2).1 p)
theorem mb_loop (zf : Z.2.1.2 = .ref b) (hb : 83 < b) : ∀ r (q : Bool × RSt) h p x, MC h n tp Z → h 70 = mpO Z p tu → LV tp n q p → FBk h b q → (q.1 = true → Gd q.2 ∧ 701 ≤ (zT q.2).2.1 + r) → ∃ h' p' x', tE mX11_readBook 10 [.ref 70, x] [] h = tE mX11_readBook 41 [.ref 70, x'] [] h' ∧ h' 70 = mpO Z p' tu ∧ FBk h' b (rLoop tp n r q) ∧ FrG b h h' ∧ EV tp n (rLoop tp n r q) p' := by
  intro r
  induction r with
  | zero =>
    intro q h p x C o L S g
    obtain ⟨b', z⟩ := q
    have fo : tm_up h 70 (mpO Z p tu) = h := by rw [← o, tm_up_id]
    cases b' with
    | false =>
      have P : PO (zF z) (zT z).1 p := L.2 rfl
      have I := m_isO (h := h) (Z := Z) (tu := tu) (x := 59) P
      have W := m_wrO (h := h) (Z := Z) (tu := tu) (k' := 1) P
      rw [fo] at I W
      refine ⟨h, p, .int 0, ?_, o, S, FrG_rf b h, ⟨fun y => (by cases y), fun _ => P⟩⟩
      simp only [bX11_readBook_10, bX11_readBook_16, bX11_readBook_2, bX11_readBook_28, bX11_readBook_32, bX11_readBook_36, tk1_some, tk0_some, tkc_some, tkc_none, ↓reduceIte, o, tm_isO, I, if_true, gf_11_9, P.1, show ((5 : Int32) = 1) = False from by decide, if_false, W]
    | true =>
      have H := L.1 rfl
      have t := tok_n H.1
      have q := (g rfl).2
      have n7 := C.2.2.2
      exact absurd q (by show ¬ 701 ≤ (zT z).2.1 + 0; have : (zT z).2.1 ≤ n := t.2; omega)
  | succ r ih =>
    intro q h p x C o L S g
    obtain ⟨b', z⟩ := q
    have fo : tm_up h 70 (mpO Z p tu) = h := by rw [← o, tm_up_id]
    cases b' with
    | false =>
      have P : PO (zF z) (zT z).1 p := L.2 rfl
      have I := m_isO (h := h) (Z := Z) (tu := tu) (x := 59) P
      have W := m_wrO (h := h) (Z := Z) (tu := tu) (k' := 1) P
      rw [fo] at I W
      refine ⟨h, p, .int 0, ?_, o, S, FrG_rf b h, ⟨fun y => (by cases y), fun _ => P⟩⟩
      simp only [bX11_readBook_10, bX11_readBook_16, bX11_readBook_2, bX11_readBook_28, bX11_readBook_32, bX11_readBook_36, tk1_some, tk0_some, tkc_some, tkc_none, ↓reduceIte, o, tm_isO, I, if_true, gf_11_9, P.1, show ((5 : Int32) = 1) = False from by decide, if_false, W]
    | true =>
      have H : PG tp n (zT z) p := L.1 rfl
      obtain ⟨gd, fu⟩ := g rfl
      have I := m_is59 (h := h) (Z := Z) (tu := tu) H
      have t := tok_n H.1
      have SO := (PG_so H).2.2.1
      have el : rLoop tp n (r + 1) (true, z) = if (zT z).2.2 = 0 then (true, z) else rLoop tp n r (rAnd (rParts tp n z) (rLine tp n)) := rfl
      rw [el]
      by_cases e3 : (zT z).2.2 = 3
      · have e0 : ¬ (zT z).2.2 = 0 := by rw [e3]; decide
        have ep : rParts tp n z = (true, rStep tp n z) := by unfold rParts; rw [if_pos e3]
        rw [if_neg e0, ep, rAnd_tt]
        obtain ⟨p1, P1, G1⟩ := m_go C (tu := tu) H e0 (by rw [e3]; decide)
        rw [fo] at I P1
        rw [decide_eq_true e3, bI_t] at I
        have C1 := MC_up C (a := 70) (e := mpO Z p1 tu) (by decide)
        obtain ⟨h2, p2, P2, o2, L2, S2, F2⟩ := m_line (z := rStep tp n z) C1 zf hb (tm_up_same (h := h) (c := mpO Z p1 tu)) G1 (FBk_c S (fun k x y => tm_up_ne (by omega))) gd
        obtain ⟨h3, p3, x3, E3, o3, S3, F3, V3⟩ := ih (rLine tp n (rStep tp n z)) h2 p2 (.int 1) (FrG_MC C1 hb F2) o2 L2 S2 (fun y => by
          refine ⟨Gd_line (z := rStep tp n z) gd y, ?_⟩
          have w := line_w y
          obtain ⟨_, m2, m3⟩ := mo_s (tp := tp) (z := z) t.2
          have m4 := (tokS_b (tp := tp) t.2).2.2.2.1 (by rw [show (tokS tp n (zT z).2.1).2.2 = 1 from w]; decide)
          have m5 := (mo_line (tp := tp) m2 y).1
          have m6 : (zT (rStep tp n z)).1 < (zT (rStep tp n z)).2.1 := m4
          have fu' : 701 ≤ (zT z).2.1 + (r + 1) := fu
          omega)
        refine ⟨h3, p3, x3, ?_, o3, S3, FrG_tr (FrG_tr (FrG_up (Or.inl rfl)) F2) F3, V3⟩
        rw [← E3]
        simp only [bX11_readBook_10, bX11_readBook_16, bX11_readBook_21, bX11_readBook_25, bX11_readBook_2, bX11_readBook_6, tk1_some, tk0_some, tkc_some, tkc_none, ↓reduceIte, o, tm_isO, I, show ((1 : Int32) = 0) = False from by decide, if_false, P1, tm_up_same, P2]
      · rw [fo] at I
        rw [decide_eq_false e3, bI_f] at I
        by_cases e0 : (zT z).2.2 = 0
        · rw [if_pos e0]
          have s : p.2.1 = 1 := SO.mpr e0
          refine ⟨h, p, .int 0, ?_, o, S, FrG_rf b h, ⟨fun _ => ⟨H, e0, gd⟩, fun y => (by cases y)⟩⟩
          simp only [bX11_readBook_10, bX11_readBook_16, bX11_readBook_2, bX11_readBook_28, bX11_readBook_32, tk1_some, tk0_some, tkc_some, tkc_none, ↓reduceIte, o, tm_isO, I, if_true, gf_11_9, s]
        · have ep : rParts tp n z = (false, rF z 1) := by unfold rParts; rw [if_neg e3]
          rw [if_neg e0, ep, rAnd_ff rfl, rLoop_f]
          have s : ¬ p.2.1 = 1 := fun y => e0 (SO.mp y)
          obtain ⟨p1, P1, G1⟩ := m_wr (h := h) (Z := Z) (tu := tu) H (k := 1)
          rw [fo] at P1
          refine ⟨tm_up h 70 (mpO Z p1 tu), p1, .int 0, ?_, tm_up_same, FBk_c (FBk_f S rfl) (fun k x y => tm_up_ne (by omega)), FrG_up (Or.inl rfl), ⟨fun y => (by cases y), fun _ => G1⟩⟩
          simp only [bX11_readBook_10, bX11_readBook_16, bX11_readBook_2, bX11_readBook_28, bX11_readBook_32, bX11_readBook_36, tk1_some, tk0_some, tkc_some, tkc_none, ↓reduceIte, o, tm_isO, I, if_true, gf_11_9, s, if_false, P1]
end M20
