/-! THE REFERENCE's reading, against the class's: small steps -/
def TkO (tp : Nat → Int32) (n : Nat) (T : Tok) : Prop := ∃ b, b ≤ n ∧ T = tokS tp n b
theorem tokX_k {tp : Nat → Int32} {n s : Nat} : (tokX tp n s).2.2 = 2 ∨ (tokX tp n s).2.2 = 3 ∨ (tokX tp n s).2.2 = 4 ∨ (tokX tp n s).2.2 = 5 := by
  have g : sgS (tp s) = 2 ∨ sgS (tp s) = 3 ∨ sgS (tp s) = 4 ∨ sgS (tp s) = 5 := by
    unfold sgS
    by_cases a : tp s = 59
    · rw [if_pos a]; exact Or.inr (Or.inl rfl)
    · rw [if_neg a]
      by_cases b : tp s = 44
      · rw [if_pos b]; exact Or.inr (Or.inr (Or.inl rfl))
      · rw [if_neg b]; exact Or.inr (Or.inr (Or.inr rfl))
  unfold tokX
  by_cases a : tp s < 48
  · rw [if_pos a]; exact g
  · rw [if_neg a]
    by_cases b : 57 < tp s
    · rw [if_pos b]; exact g
    · rw [if_neg b]
      by_cases c : 3 < rnS tp 48 57 (n - s) s - s
      · rw [if_pos c]; exact Or.inr (Or.inr (Or.inr rfl))
      · rw [if_neg c]; exact Or.inl rfl
theorem tok_k {tp : Nat → Int32} {n : Nat} {T : Tok} (h : TkO tp n T) : T.2.2 = 0 ∨ T.2.2 = 1 ∨ T.2.2 = 2 ∨ T.2.2 = 3 ∨ T.2.2 = 4 ∨ T.2.2 = 5 := by
  obtain ⟨b, hb, rfl⟩ := h
  unfold tokS
  by_cases c : n ≤ skS tp (n - b) b
  · rw [if_pos c]; exact Or.inl rfl
  · rw [if_neg c]
    unfold tokW
    by_cases a : tp (skS tp (n - b) b) < 97
    · rw [if_pos a]; exact Or.inr (Or.inr tokX_k)
    · rw [if_neg a]
      by_cases d : 122 < tp (skS tp (n - b) b)
      · rw [if_pos d]; exact Or.inr (Or.inr tokX_k)
      · rw [if_neg d]
        by_cases e : 8 < rnS tp 97 122 (n - skS tp (n - b) b) (skS tp (n - b) b) - skS tp (n - b) b
        · rw [if_pos e]; exact Or.inr (Or.inr (Or.inr (Or.inr (Or.inr rfl))))
        · rw [if_neg e]; exact Or.inr (Or.inl rfl)
theorem tok_n {tp : Nat → Int32} {n : Nat} {T : Tok} (h : TkO tp n T) : T.1 ≤ T.2.1 ∧ T.2.1 ≤ n := by
  obtain ⟨b, hb, rfl⟩ := h
  have := tokS_b (tp := tp) hb
  exact ⟨this.2.1, this.2.2.1⟩
theorem tok_L {tp : Nat → Int32} {n : Nat} {T : Tok} (h : TkO tp n T) (e : T.2.2 = 1) : LetR tp (T.2.1 - T.1) T.1 ∧ T.2.1 - T.1 ≤ 8 := by
  obtain ⟨b, hb, rfl⟩ := h
  exact tok_let hb e
/-- a token at hand, no fault yet -/
def PG (tp : Nat → Int32) (n : Nat) (T : Tok) (p : PR) : Prop := TkO tp n T ∧ mTk tp T p ∧ p.2.2.2.2.2.1 = 0
/-- over: what is noted -/
def PO (k : Int32) (pl : Nat) (p : PR) : Prop := p.2.1 = 5 ∧ p.2.2.2.2.2.1 = k ∧ p.2.2.2.2.2.2.1 = nI pl
theorem PG_5 {tp : Nat → Int32} {n : Nat} {T : Tok} {p : PR} (H : PG tp n T p) : p.2.1 ≠ 5 := by
  obtain ⟨a, ⟨_, k0, k1, k2, k3, k4, k5⟩, _⟩ := H
  rcases tok_k a with e | e | e | e | e | e
  · rw [k0 e]; decide
  · rw [(k1 e).1]; decide
  · rw [(k2 e).1]; decide
  · rw [(k3 e).1]; decide
  · rw [(k4 e).1]; decide
  · rw [k5 e]; decide
theorem PG_so {tp : Nat → Int32} {n : Nat} {T : Tok} {p : PR} (H : PG tp n T p) : ((p.2.1 = 2) = (T.2.2 = 1)) ∧ ((p.2.1 = 3) = (T.2.2 = 2)) ∧ ((p.2.1 = 1) = (T.2.2 = 0)) ∧ ((p.2.1 = 4) = (T.2.2 = 3 ∨ T.2.2 = 4)) := by
  obtain ⟨a, ⟨_, k0, k1, k2, k3, k4, k5⟩, _⟩ := H
  rcases tok_k a with e | e | e | e | e | e
  · rw [k0 e, e]; exact ⟨by decide, by decide, by decide, by decide⟩
  · rw [(k1 e).1, e]; exact ⟨by decide, by decide, by decide, by decide⟩
  · rw [(k2 e).1, e]; exact ⟨by decide, by decide, by decide, by decide⟩
  · rw [(k3 e).1, e]; exact ⟨by decide, by decide, by decide, by decide⟩
  · rw [(k4 e).1, e]; exact ⟨by decide, by decide, by decide, by decide⟩
  · rw [k5 e, e]; exact ⟨by decide, by decide, by decide, by decide⟩
def MC (h : tm_H) (n : Nat) (tp : Nat → Int32) (Z : MZ) : Prop := ByOk tp ∧ h 71 = aB 700 tp ∧ Z.2.2.1.1.2.1 = nI n ∧ n ≤ 700
section MR
variable {h : tm_H} {n : Nat} {tp : Nat → Int32} {Z : MZ} {tu : Int32}
theorem m_go (C : MC h n tp Z) {p : PR} {T : Tok} (H : PG tp n T p) (e0 : T.2.2 ≠ 0) (e5 : T.2.2 ≠ 5) : ∃ p', tC mX11_goesOn [.ref 70] (tm_up h 70 (mpO Z p tu)) = some (tm_up h 70 (mpO Z p' tu), none) ∧ PG tp n (tokS tp n T.2.1) p' := by
  obtain ⟨c1, c2, c3, c4⟩ := C
  have n5 := PG_5 H
  obtain ⟨a, ⟨_, k0, k1, k2, k3, k4, k5⟩, f⟩ := H
  have pa : p.1 = nI T.2.1 := by
    rcases tok_k a with e | e | e | e | e | e
    · exact absurd e e0
    · exact (k1 e).2.1
    · exact (k2 e).2.1
    · exact (k3 e).2.1
    · exact (k4 e).2.1
    · exact absurd e e5
  obtain ⟨p', P, K, F1, F2⟩ := m_goes c1 (h := tm_up h 70 (mpO Z p tu)) (by rw [tm_up_ne (by decide)]; exact c2) c3 c4 tm_up_same (tok_n a).2 pa n5
  rw [tm_up_up] at P
  exact ⟨p', P, ⟨T.2.1, (tok_n a).2, rfl⟩, K, by rw [F1]; exact f⟩
theorem m_goO {k : Int32} {pl : Nat} {p : PR} (H : PO k pl p) : tC mX11_goesOn [.ref 70] (tm_up h 70 (mpO Z p tu)) = some (tm_up h 70 (mpO Z p tu), none) := m_goesO tm_up_same H.1
def wrP (p : PR) (k pl : Int32) : PR := (p.1, 5, p.2.2.1, p.2.2.2.1, p.2.2.2.2.1, k, pl, p.2.2.2.2.2.2.2)
theorem m_wrH {p : PR} (n5 : p.2.1 ≠ 5) {k pl : Int32} : tC mX11_wrongHere [.ref 70, .int k, .int pl] (tm_up h 70 (mpO Z p tu)) = some (tm_up h 70 (mpO Z (wrP p k pl) tu), none) := by
  simp only [cX11_wrongHere_, bX11_wrongHere_0, bX11_wrongHere_4, bX11_wrongHere_8, bX11_wrongHere_9, bX11_wrongHere_14, bX11_wrongHere_19, bX11_wrongHere_24, tk1_some, tk0_some, tkc_some, tkc_none, ↓reduceIte, tm_up_same, tm_up_up, gf_11_9, n5, not_false_eq_true, if_true, tm_pf_eq, ps_11_13, ps_11_14, ps_11_9, Option.map_some, wrP]
theorem m_wrHO {p : PR} {k' pl k : Int32} {l : Nat} (H : PO k l p) : tC mX11_wrongHere [.ref 70, .int k', .int pl] (tm_up h 70 (mpO Z p tu)) = some (tm_up h 70 (mpO Z p tu), none) := by
  simp only [cX11_wrongHere_, bX11_wrongHere_0, bX11_wrongHere_4, bX11_wrongHere_8, bX11_wrongHere_9, bX11_wrongHere_14, bX11_wrongHere_19, bX11_wrongHere_24, tk1_some, tk0_some, tkc_some, tkc_none, ↓reduceIte, tm_up_same, gf_11_9, H.1, not_true, if_false]
theorem m_wr {p : PR} {T : Tok} (H : PG tp n T p) {k : Int32} : ∃ p', tC mX11_wrong [.ref 70, .int k] (tm_up h 70 (mpO Z p tu)) = some (tm_up h 70 (mpO Z p' tu), none) ∧ PO k T.1 p' := by
  refine ⟨wrP p k p.2.2.1, ?_, rfl, rfl, H.2.1.1⟩
  simp only [cX11_wrong_, bX11_wrong_0, bX11_wrong_6, bX11_wrong_9, tk1_some, tk0_some, tkc_some, tkc_none, ↓reduceIte, tm_up_same, gf_11_10, tm_isO, m_wrH (PG_5 H)]
theorem m_wrO {p : PR} {k' k : Int32} {l : Nat} (H : PO k l p) : tC mX11_wrong [.ref 70, .int k'] (tm_up h 70 (mpO Z p tu)) = some (tm_up h 70 (mpO Z p tu), none) := by
  simp only [cX11_wrong_, bX11_wrong_0, bX11_wrong_6, bX11_wrong_9, tk1_some, tk0_some, tkc_some, tkc_none, ↓reduceIte, tm_up_same, gf_11_10, tm_isO, m_wrHO H]
theorem m_isW {p : PR} {T : Tok} (H : PG tp n T p) {k m : Nat} (hk : k < 21) (hm : m = k + 21) : tC mX11_isWord [.ref 70, .retAddr m] (tm_up h 70 (mpO Z p tu)) = some (tm_up h 70 (mpO Z p tu), some (.int (bI (isWd tp T k)))) := by
  subst hm
  have W := wof_spec (h := tm_up h 70 (mpO Z p tu)) (show k + 21 < 42 by omega)
  have ew : wdG (k + 21) = wdG k := by unfold wdG txF; rw [tx_two k hk]
  rw [ew] at W
  by_cases e : T.2.2 = 1
  · have e2 : p.2.1 = 2 := (PG_so H).1.mpr e
    obtain ⟨L, hl⟩ := tok_L H.1 e
    have ev := (H.2.1.2.2.1 e).2.2
    rw [isWd_iff (by omega) e L hl]
    by_cases c : w32G tp (T.2.1 - T.1) T.1 0 = wdG k
    · rw [decide_eq_true c]
      simp only [cX11_isWord_, bX11_isWord_0, bX11_isWord_4, bX11_isWord_8, bX11_isWord_12, bX11_isWord_16, bX11_isWord_20, bX11_isWord_25, bX11_isWord_24, tk1_some, tk0_some, tkc_some, tkc_none, ↓reduceIte, tm_up_same, gf_11_9, e2, gf_11_15, ev, W, lgc_0, c, not_true, if_false, tm_rb1, bI_t]
    · rw [decide_eq_false c]
      simp only [cX11_isWord_, bX11_isWord_0, bX11_isWord_4, bX11_isWord_8, bX11_isWord_12, bX11_isWord_16, bX11_isWord_20, bX11_isWord_25, bX11_isWord_24, tk1_some, tk0_some, tkc_some, tkc_none, ↓reduceIte, tm_up_same, gf_11_9, e2, gf_11_15, ev, W, lgc_0, c, not_true, not_false_eq_true, if_true, if_false, tm_rb0, bI_f]
  · have e2 : ¬ p.2.1 = 2 := fun y => e ((PG_so H).1.mp y)
    have w : isWd tp T k = false := by unfold isWd; rw [if_neg e]
    rw [w]
    simp only [cX11_isWord_, bX11_isWord_0, bX11_isWord_4, bX11_isWord_8, bX11_isWord_12, bX11_isWord_16, bX11_isWord_20, bX11_isWord_25, bX11_isWord_24, tk1_some, tk0_some, tkc_some, tkc_none, ↓reduceIte, tm_up_same, gf_11_9, e2, not_false_eq_true, if_true, tm_rb0, bI_f]
theorem m_isWO {p : PR} {k : Int32} {l m : Nat} (H : PO k l p) : tC mX11_isWord [.ref 70, .retAddr m] (tm_up h 70 (mpO Z p tu)) = some (tm_up h 70 (mpO Z p tu), some (.int 0)) := by
  simp only [cX11_isWord_, bX11_isWord_0, bX11_isWord_4, bX11_isWord_8, bX11_isWord_12, bX11_isWord_16, bX11_isWord_20, bX11_isWord_25, bX11_isWord_24, tk1_some, tk0_some, tkc_some, tkc_none, ↓reduceIte, tm_up_same, gf_11_9, H.1, show ((5 : Int32) = 2) = False from by decide, not_false_eq_true, if_true, tm_rb0]
theorem m_in {h : tm_H} {v lo hi : Int32} : tC mX11_in [.int v, .int lo, .int hi] h = some (h, some (.int (bI (inB v lo hi)))) := by
  unfold inB
  by_cases c : v < lo
  · simp only [cX11_in_, bX11_in_0, bX11_in_5, bX11_in_10, bX11_in_15, bX11_in_14, tk1_some, tk0_some, tkc_some, tkc_none, ↓reduceIte, c, if_true, tm_rb0, bI_f]
  · by_cases d : hi < v
    · simp only [cX11_in_, bX11_in_0, bX11_in_5, bX11_in_10, bX11_in_15, bX11_in_14, tk1_some, tk0_some, tkc_some, tkc_none, ↓reduceIte, c, d, if_true, if_false, tm_rb0, bI_f]
    · simp only [cX11_in_, bX11_in_0, bX11_in_5, bX11_in_10, bX11_in_15, bX11_in_14, tk1_some, tk0_some, tkc_some, tkc_none, ↓reduceIte, c, d, if_false, tm_rb1, bI_t]
/-- the reference is one token ahead; or over, as the class is -/
def AV (tp : Nat → Int32) (n : Nat) (q : Bool × RSt) (p : PR) : Prop :=
  (q.1 = true → PG tp n (tokS tp n (zT q.2).2.1) p ∧ (zT q.2).2.1 ≤ n) ∧ (q.1 = false → PO (zF q.2) (zT q.2).1 p)
/-- at the same token -/
def LV (tp : Nat → Int32) (n : Nat) (q : Bool × RSt) (p : PR) : Prop :=
  (q.1 = true → PG tp n (zT q.2) p) ∧ (q.1 = false → PO (zF q.2) (zT q.2).1 p)
theorem AV_t {z : RSt} {p : PR} (a : PG tp n (tokS tp n (zT z).2.1) p) (b : (zT z).2.1 ≤ n) : AV tp n (true, z) p := ⟨fun _ => ⟨a, b⟩, fun y => by cases y⟩
theorem AV_f {z : RSt} {p : PR} (a : PO (zF z) (zT z).1 p) : AV tp n (false, z) p := ⟨fun y => (by cases y), fun _ => a⟩
theorem rPut_T (l c : Nat) (v : Int32) (z : RSt) : zT (rPut l c v z) = zT z := by unfold rPut; split <;> rfl
theorem rPut_L (l c : Nat) (v : Int32) (z : RSt) : zL (rPut l c v z) = zL z := by unfold rPut; split <;> rfl
theorem m_whO {p : PR} {lo hi k : Int32} {l : Nat} (H : PO k l p) : tC mX11_readWhole [.ref 70, .int lo, .int hi] (tm_up h 70 (mpO Z p tu)) = some (tm_up h 70 (mpO Z p tu), some (.int p.2.2.2.2.1)) := by
  simp only [cX11_readWhole_, bX11_readWhole_0, bX11_readWhole_4, bX11_readWhole_8, bX11_readWhole_13, bX11_readWhole_33, bX11_readWhole_37, bX11_readWhole_42, bX11_readWhole_16, bX11_readWhole_20, bX11_readWhole_25, bX11_readWhole_28, tk1_some, tk0_some, tkc_some, tkc_none, ↓reduceIte, tm_up_same, gf_11_9, gf_11_12, H.1, show ((5 : Int32) = 3) = False from by decide, if_false, tm_isO, m_wrO H, m_goO H]
theorem m_wh (C : MC h n tp Z) {z : RSt} {p : PR} (H : PG tp n (zT z) p) {lo hi : Int32} : ∃ p' v, tC mX11_readWhole [.ref 70, .int lo, .int hi] (tm_up h 70 (mpO Z p tu)) = some (tm_up h 70 (mpO Z p' tu), some (.int v)) ∧ AV tp n (rWhole tp lo hi z) p' ∧ ((rWhole tp lo hi z).1 = true → v = zL (rWhole tp lo hi z).2) := by
  have S := (PG_so H).2.1
  unfold rWhole
  by_cases c : (zT z).2.2 = 2
  · rw [if_pos c]
    have s3 : p.2.1 = 3 := S.mpr c
    have ev := (H.2.1.2.2.2.1 c).2.2
    generalize vlG tp ((zT z).2.1 - (zT z).1) (zT z).1 0 = v at ev
    by_cases d : inB v lo hi = true
    · rw [if_pos d]
      obtain ⟨p', P, G⟩ := m_go C (tu := tu) H (by rw [c]; decide) (by rw [c]; decide)
      refine ⟨p', v, ?_, AV_t G (tok_n H.1).2, fun _ => rfl⟩
      simp only [cX11_readWhole_, bX11_readWhole_0, bX11_readWhole_4, bX11_readWhole_8, bX11_readWhole_13, bX11_readWhole_33, bX11_readWhole_37, bX11_readWhole_42, bX11_readWhole_16, bX11_readWhole_20, bX11_readWhole_25, bX11_readWhole_28, tk1_some, tk0_some, tkc_some, tkc_none, ↓reduceIte, tm_up_same, gf_11_9, gf_11_12, s3, ev, if_true, m_in, d, bI_t, show ((1 : Int32) = 0) = False from by decide, not_false_eq_true, tm_isO, P]
    · rw [if_neg d]
      obtain ⟨p', P, G⟩ := m_wr (h := h) (Z := Z) (tu := tu) H (k := 4)
      refine ⟨p', p'.2.2.2.2.1, ?_, AV_f G, fun y => by cases y⟩
      rw [Bool.not_eq_true] at d
      simp only [cX11_readWhole_, bX11_readWhole_0, bX11_readWhole_4, bX11_readWhole_8, bX11_readWhole_13, bX11_readWhole_33, bX11_readWhole_37, bX11_readWhole_42, bX11_readWhole_16, bX11_readWhole_20, bX11_readWhole_25, bX11_readWhole_28, tk1_some, tk0_some, tkc_some, tkc_none, ↓reduceIte, tm_up_same, gf_11_9, gf_11_12, s3, ev, if_true, m_in, d, bI_f, not_true, if_false, tm_isO, P, m_goO G]
  · rw [if_neg c]
    have s3 : ¬ p.2.1 = 3 := fun y => c (S.mp y)
    obtain ⟨p', P, G⟩ := m_wr (h := h) (Z := Z) (tu := tu) H (k := 1)
    refine ⟨p', p'.2.2.2.2.1, ?_, AV_f G, fun y => by cases y⟩
    simp only [cX11_readWhole_, bX11_readWhole_0, bX11_readWhole_4, bX11_readWhole_8, bX11_readWhole_13, bX11_readWhole_33, bX11_readWhole_37, bX11_readWhole_42, bX11_readWhole_16, bX11_readWhole_20, bX11_readWhole_25, bX11_readWhole_28, tk1_some, tk0_some, tkc_some, tkc_none, ↓reduceIte, tm_up_same, gf_11_9, gf_11_12, s3, if_false, tm_isO, P, m_goO G]
theorem AV_wk {lo hi : Int32} {l c : Nat} {z : RSt} {p : PR} (A : AV tp n (rWhole tp lo hi z) p) : AV tp n (rWK tp lo hi l c z) p ∧ (rWK tp lo hi l c z).1 = (rWhole tp lo hi z).1 ∧ zL (rWK tp lo hi l c z).2 = zL (rWhole tp lo hi z).2 := by
  unfold rWK
  by_cases e : (rWhole tp lo hi z).1 = true
  · rw [if_pos e]
    obtain ⟨a, b⟩ := A.1 e
    refine ⟨AV_t (by rw [rPut_T]; exact a) (by rw [rPut_T]; exact b), e.symm, rPut_L _ _ _ _⟩
  · rw [if_neg e]
    rw [Bool.not_eq_true] at e
    exact ⟨AV_f (A.2 e), e.symm, rfl⟩
theorem m_part (C : MC h n tp Z) {q : Bool × RSt} {p : PR} (A : AV tp n q p) {k m : Nat} (hk : k < 21) (hm : m = k + 21) {lo hi : Int32} (l c : Nat) : ∃ p' v, tC mX11_readPart [.ref 70, .retAddr m, .int lo, .int hi] (tm_up h 70 (mpO Z p tu)) = some (tm_up h 70 (mpO Z p' tu), some (.int v)) ∧ AV tp n (rAnd q (rTells tp n k lo hi l c)) p' ∧ ((rAnd q (rTells tp n k lo hi l c)).1 = true → v = zL (rAnd q (rTells tp n k lo hi l c)).2) := by
  obtain ⟨b, z⟩ := q
  cases b with
  | false =>
    have G : PO (zF z) (zT z).1 p := A.2 rfl
    refine ⟨p, p.2.2.2.2.1, ?_, A, fun y => by cases y⟩
    simp only [cX11_readPart_, bX11_readPart_0, bX11_readPart_5, bX11_readPart_8, bX11_readPart_13, bX11_readPart_17, bX11_readPart_23, tk1_some, tk0_some, tkc_some, tkc_none, ↓reduceIte, tm_up_same, tm_isO, m_isWO G, not_true, if_false, m_wrO G, m_goO G, m_whO G]
  | true =>
    obtain ⟨a, hb⟩ := A.1 rfl
    show ∃ p' v, _ ∧ AV tp n (rTells tp n k lo hi l c z) p' ∧ ((rTells tp n k lo hi l c z).1 = true → v = zL (rTells tp n k lo hi l c z).2)
    have W := m_isW (h := h) (Z := Z) (tu := tu) a hk hm
    unfold rTells
    have ez : zT (rStep tp n z) = tokS tp n (zT z).2.1 := rfl
    rw [ez]
    by_cases d : isWd tp (tokS tp n (zT z).2.1) k = true
    · rw [if_pos d]
      rw [d, bI_t] at W
      have s1 : (tokS tp n (zT z).2.1).2.2 = 1 := by
        unfold isWd at d
        by_cases x : (tokS tp n (zT z).2.1).2.2 = 1
        · exact x
        · rw [if_neg x] at d; cases d
      obtain ⟨p1, P1, G1⟩ := m_go C (tu := tu) a (by rw [s1]; decide) (by rw [s1]; decide)
      obtain ⟨p2, v, P2, A2, V2⟩ := m_wh C (tu := tu) (z := rStep tp n (rStep tp n z)) G1 (lo := lo) (hi := hi)
      obtain ⟨a1, a2, a3⟩ := AV_wk (l := l) (c := c) A2
      refine ⟨p2, v, ?_, a1, fun y => by rw [a3]; exact V2 (by rw [← a2]; exact y)⟩
      simp only [cX11_readPart_, bX11_readPart_0, bX11_readPart_5, bX11_readPart_8, bX11_readPart_13, bX11_readPart_17, bX11_readPart_23, tk1_some, tk0_some, tkc_some, tkc_none, ↓reduceIte, tm_up_same, tm_isO, W, show ((1 : Int32) = 0) = False from by decide, not_false_eq_true, if_true, P1, P2]
    · rw [if_neg d]
      rw [Bool.not_eq_true] at d
      rw [d, bI_f] at W
      obtain ⟨p1, P1, G1⟩ := m_wr (h := h) (Z := Z) (tu := tu) a (k := 1)
      refine ⟨p1, p1.2.2.2.2.1, ?_, AV_f G1, fun y => by cases y⟩
      simp only [cX11_readPart_, bX11_readPart_0, bX11_readPart_5, bX11_readPart_8, bX11_readPart_13, bX11_readPart_17, bX11_readPart_23, tk1_some, tk0_some, tkc_some, tkc_none, ↓reduceIte, tm_up_same, tm_isO, W, not_true, if_false, P1, m_goO G1, m_whO G1]
theorem m_whl (C : MC h n tp Z) {q : Bool × RSt} {p : PR} (A : AV tp n q p) {lo hi : Int32} (l c : Nat) : ∃ p' v, tC mX11_readWhole [.ref 70, .int lo, .int hi] (tm_up h 70 (mpO Z p tu)) = some (tm_up h 70 (mpO Z p' tu), some (.int v)) ∧ AV tp n (rAnd q (rTellsW tp n lo hi l c)) p' ∧ ((rAnd q (rTellsW tp n lo hi l c)).1 = true → v = zL (rAnd q (rTellsW tp n lo hi l c)).2) := by
  obtain ⟨b, z⟩ := q
  cases b with
  | false => exact ⟨p, p.2.2.2.2.1, m_whO (A.2 rfl), A, fun y => by cases y⟩
  | true =>
    obtain ⟨a, hb⟩ := A.1 rfl
    obtain ⟨p2, v, P2, A2, V2⟩ := m_wh C (tu := tu) (z := rStep tp n z) a (lo := lo) (hi := hi)
    obtain ⟨a1, a2, a3⟩ := AV_wk (l := l) (c := c) A2
    exact ⟨p2, v, P2, a1, fun y => by rw [show zL (rAnd (true, z) (rTellsW tp n lo hi l c)).2 = zL (rWK tp lo hi l c (rStep tp n z)).2 from rfl, a3]; exact V2 (by rw [← a2]; exact y)⟩
end MR
