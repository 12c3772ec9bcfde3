/-! THE REFERENCE's reading: signs of stones -/
def pcN (m : Nat) : Nat := m % 2 + m / 2 % 2 + m / 4 % 2 + m / 8 % 2 + m / 16 % 2 + m / 32 % 2 + m / 64 % 2 + m / 128 % 2
theorem pcN_8 (m : Nat) : pcN m ≤ 8 := by unfold pcN; omega
theorem bit_all : ∀ m, m < 256 → ∀ k, k < 8 → ((Int32.ofNat m >>> (Int32.ofNat k &&& 31)) &&& 1) ≠ 1 → (Int32.ofNat m ||| ((1 : Int32) <<< (Int32.ofNat k &&& 31))) = Int32.ofNat (m + 2 ^ k) ∧ m + 2 ^ k < 256 ∧ pcN (m + 2 ^ k) = pcN m + 1 := by decide +kernel
theorem inB_nk {v : Int32} {hi : Nat} (hh : hi < 2 ^ 31) (h : inB v 0 (nI hi) = true) : ∃ k, k ≤ hi ∧ v = nI k := by
  obtain ⟨a, b⟩ := inB_r h
  have a' : (0 : Int32).toInt ≤ v.toInt := Int32.le_iff_toInt_le.mp a
  have b' : v.toInt ≤ (nI hi).toInt := Int32.le_iff_toInt_le.mp b
  have e : (nI hi).toInt = hi := Int32.toInt_ofNat_of_lt hh
  have z : (0 : Int32).toInt = 0 := rfl
  refine ⟨v.toInt.toNat, by omega, ?_⟩
  apply Int32.toInt_inj.mp
  rw [show (nI v.toInt.toNat).toInt = (v.toInt.toNat : Int) from Int32.toInt_ofNat_of_lt (by omega)]
  omega
section M15
variable {h : tm_H} {b n : Nat} {tp : Nat → Int32} {Z : MZ} {tu : Int32} {z : RSt} {F : B7} {c : Nat → Nat} {nn : Nat} {G : Nat → Nat → Int32} {nm : Nat → Int64}
theorem m_is44 {p : PR} {T : Tok} (H : PG tp n T p) : tC mX11_is [.ref 70, .int 44] (tm_up h 70 (mpO Z p tu)) = some (tm_up h 70 (mpO Z p tu), some (.int (bI (decide (T.2.2 = 4))))) := by
  by_cases e : T.2.2 = 4
  · have s : p.2.1 = 4 := (PG_so H).2.2.2.mpr (Or.inr e)
    have m := (H.2.1.2.2.2.2.2.1 e).2.2
    rw [decide_eq_true e]
    simp only [cX11_is_, bX11_is_0, bX11_is_4, bX11_is_8, bX11_is_12, bX11_is_16, bX11_is_21, bX11_is_20, tk1_some, tk0_some, tkc_some, tkc_none, ↓reduceIte, tm_up_same, gf_11_9, gf_11_11, s, m, not_true, if_false, tm_rb1, bI_t]
  · rw [decide_eq_false e]
    by_cases d : T.2.2 = 3
    · have s : p.2.1 = 4 := (PG_so H).2.2.2.mpr (Or.inl d)
      have m := (H.2.1.2.2.2.2.1 d).2.2
      simp only [cX11_is_, bX11_is_0, bX11_is_4, bX11_is_8, bX11_is_12, bX11_is_16, bX11_is_21, bX11_is_20, tk1_some, tk0_some, tkc_some, tkc_none, ↓reduceIte, tm_up_same, gf_11_9, gf_11_11, s, m, show ((59 : Int32) = 44) = False from by decide, not_true, not_false_eq_true, if_true, if_false, tm_rb0, bI_f]
    · have s : ¬ p.2.1 = 4 := fun y => ((PG_so H).2.2.2.mp y).elim d e
      simp only [cX11_is_, bX11_is_0, bX11_is_4, bX11_is_8, bX11_is_12, bX11_is_16, bX11_is_21, bX11_is_20, tk1_some, tk0_some, tkc_some, tkc_none, ↓reduceIte, tm_up_same, gf_11_9, s, not_false_eq_true, if_true, tm_rb0, bI_f]
theorem m_is59 {p : PR} {T : Tok} (H : PG tp n T p) : tC mX11_is [.ref 70, .int 59] (tm_up h 70 (mpO Z p tu)) = some (tm_up h 70 (mpO Z p tu), some (.int (bI (decide (T.2.2 = 3))))) := by
  by_cases e : T.2.2 = 3
  · have s : p.2.1 = 4 := (PG_so H).2.2.2.mpr (Or.inl e)
    have m := (H.2.1.2.2.2.2.1 e).2.2
    rw [decide_eq_true e]
    simp only [cX11_is_, bX11_is_0, bX11_is_4, bX11_is_8, bX11_is_12, bX11_is_16, bX11_is_21, bX11_is_20, tk1_some, tk0_some, tkc_some, tkc_none, ↓reduceIte, tm_up_same, gf_11_9, gf_11_11, s, m, not_true, if_false, tm_rb1, bI_t]
  · rw [decide_eq_false e]
    by_cases d : T.2.2 = 4
    · have s : p.2.1 = 4 := (PG_so H).2.2.2.mpr (Or.inr d)
      have m := (H.2.1.2.2.2.2.2.1 d).2.2
      simp only [cX11_is_, bX11_is_0, bX11_is_4, bX11_is_8, bX11_is_12, bX11_is_16, bX11_is_21, bX11_is_20, tk1_some, tk0_some, tkc_some, tkc_none, ↓reduceIte, tm_up_same, gf_11_9, gf_11_11, s, m, show ((44 : Int32) = 59) = False from by decide, not_true, not_false_eq_true, if_true, if_false, tm_rb0, bI_f]
    · have s : ¬ p.2.1 = 4 := fun y => ((PG_so H).2.2.2.mp y).elim e d
      simp only [cX11_is_, bX11_is_0, bX11_is_4, bX11_is_8, bX11_is_12, bX11_is_16, bX11_is_21, bX11_is_20, tk1_some, tk0_some, tkc_some, tkc_none, ↓reduceIte, tm_up_same, gf_11_9, s, not_false_eq_true, if_true, tm_rb0, bI_f]
theorem m_isO {p : PR} {k x : Int32} {l : Nat} (H : PO k l p) : tC mX11_is [.ref 70, .int x] (tm_up h 70 (mpO Z p tu)) = some (tm_up h 70 (mpO Z p tu), some (.int 0)) := by
  simp only [cX11_is_, bX11_is_0, bX11_is_4, bX11_is_8, bX11_is_12, bX11_is_16, bX11_is_21, bX11_is_20, tk1_some, tk0_some, tkc_some, tkc_none, ↓reduceIte, tm_up_same, gf_11_9, H.1, show ((5 : Int32) = 4) = False from by decide, not_false_eq_true, if_true, tm_rb0]
theorem m_eat (C : MC h n tp Z) {p : PR} {T : Tok} (H : PG tp n T p) : (T.2.2 = 4 → ∃ p', tC mX11_eatsComma [.ref 70] (tm_up h 70 (mpO Z p tu)) = some (tm_up h 70 (mpO Z p' tu), some (.int 1)) ∧ PG tp n (tokS tp n T.2.1) p') ∧ (T.2.2 ≠ 4 → tC mX11_eatsComma [.ref 70] (tm_up h 70 (mpO Z p tu)) = some (tm_up h 70 (mpO Z p tu), some (.int 0))) := by
  have I := m_is44 (h := h) (Z := Z) (tu := tu) H
  refine ⟨fun e => ?_, fun e => ?_⟩
  · obtain ⟨p', P, G'⟩ := m_go C (tu := tu) H (by rw [e]; decide) (by rw [e]; decide)
    rw [decide_eq_true e, bI_t] at I
    refine ⟨p', ?_, G'⟩
    simp only [cX11_eatsComma_, bX11_eatsComma_0, bX11_eatsComma_6, bX11_eatsComma_11, bX11_eatsComma_15, tk1_some, tk0_some, tkc_some, tkc_none, ↓reduceIte, tm_up_same, tm_isO, I, show ((1 : Int32) = 0) = False from by decide, if_false, P, tm_rb1]
  · rw [decide_eq_false e, bI_f] at I
    simp only [cX11_eatsComma_, bX11_eatsComma_0, bX11_eatsComma_6, bX11_eatsComma_11, bX11_eatsComma_15, tk1_some, tk0_some, tkc_some, tkc_none, ↓reduceIte, tm_up_same, tm_isO, I, if_true, tm_rb0]
theorem whole_T {lo hi : Int32} : zT (rWhole tp lo hi z).2 = zT z := by
  unfold rWhole
  split
  · split <;> rfl
  · rfl
/-- the word before the signs -/
theorem m_shows (C : MC h n tp Z) {q : Bool × RSt} {p : PR} (A : AV tp n q p) {v : Int32} : ∃ p', tE mX11_readStone 32 [.ref 70, tm_U, tm_U, tm_U, tm_U, tm_U] [.int v] (tm_up h 70 (mpO Z p tu)) = tE mX11_readStone 56 [.ref 70, .int v, .int 0, .int 1, tm_U, tm_U] [] (tm_up h 70 (mpO Z p' tu)) ∧ AV tp n (rAnd q (rWord tp n 20)) p' := by
  obtain ⟨b', z⟩ := q
  cases b' with
  | false =>
    have P := A.2 rfl
    refine ⟨p, ?_, by rw [rAnd_ff rfl]; exact A⟩
    simp only [bX11_readStone_32, bX11_readStone_40, bX11_readStone_43, bX11_readStone_48, bX11_readStone_52, tk1_some, tk0_some, tkc_some, tkc_none, ↓reduceIte, tm_up_same, tm_isO, m_isWO P, not_true, if_false, m_wrO P, m_goO P]
  | true =>
    obtain ⟨a, hb⟩ := A.1 rfl
    have a' : PG tp n (zT (rStep tp n z)) p := a
    have W := m_isW (h := h) (Z := Z) (tu := tu) a' (k := 20) (m := 41) (by decide) rfl
    rw [rAnd_tt]
    unfold rWord
    by_cases d : isWd tp (zT (rStep tp n z)) 20 = true
    · rw [if_pos d]
      rw [d, bI_t] at W
      have s1 : (zT (rStep tp n z)).2.2 = 1 := by
        unfold isWd at d
        by_cases x : (zT (rStep tp n z)).2.2 = 1
        · exact x
        · rw [if_neg x] at d; cases d
      obtain ⟨p1, P1, G1⟩ := m_go C (tu := tu) a' (by rw [s1]; decide) (by rw [s1]; decide)
      refine ⟨p1, ?_, AV_t G1 (tok_n a'.1).2⟩
      simp only [bX11_readStone_32, bX11_readStone_40, bX11_readStone_48, bX11_readStone_52, tk1_some, tk0_some, tkc_some, tkc_none, ↓reduceIte, tm_up_same, tm_isO, W, show ((1 : Int32) = 0) = False from by decide, not_false_eq_true, if_true, P1]
    · rw [if_neg d]
      rw [Bool.not_eq_true] at d
      rw [d, bI_f] at W
      obtain ⟨p1, P1, G1⟩ := m_wr (h := h) (Z := Z) (tu := tu) a' (k := 1)
      refine ⟨p1, ?_, AV_f G1⟩
      simp only [bX11_readStone_32, bX11_readStone_40, bX11_readStone_43, bX11_readStone_48, bX11_readStone_52, tk1_some, tk0_some, tkc_some, tkc_none, ↓reduceIte, tm_up_same, tm_isO, W, not_true, if_false, P1, m_goO G1]
theorem m_sgO {p : PR} {k : Int32} {l : Nat} (H : PO k l p) {x1 x2 x4 x5 : Value} : tE mX11_readStone 56 [.ref 70, x1, x2, .int 1, x4, x5] [] (tm_up h 70 (mpO Z p tu)) = some (tm_up h 70 (mpO Z p tu), none) := by
  simp only [bX11_readStone_56, bX11_readStone_60, bX11_readStone_64, bX11_readStone_73, bX11_readStone_79, bX11_readStone_100, bX11_readStone_104, bX11_readStone_108, tk1_some, tk0_some, tkc_some, tkc_none, ↓reduceIte, show ((1 : Int32) = 0) = False from by decide, if_false, tm_up_same, gf_11_10, tm_isO, m_whO H, gf_11_9, H.1, if_true, not_true]
theorem m_sg (C : MC h n tp Z) {v : Int32} : ∀ r m z p x4 x5, m < 256 → pcN m + r = 9 → AV tp n (true, z) p →
    ((rSigns tp n r (nI m) z).1 = false → ∃ p', tE mX11_readStone 56 [.ref 70, .int v, .int (nI m), .int 1, x4, x5] [] (tm_up h 70 (mpO Z p tu)) = some (tm_up h 70 (mpO Z p' tu), none) ∧ PO (zF (rSigns tp n r (nI m) z).2) (zT (rSigns tp n r (nI m) z).2).1 p') ∧
    ((rSigns tp n r (nI m) z).1 = true → ∃ p' s y4 y5 T lw, tE mX11_readStone 56 [.ref 70, .int v, .int (nI m), .int 1, x4, x5] [] (tm_up h 70 (mpO Z p tu)) = tE mX11_readStone 124 [.ref 70, .int v, .int s, .int 0, y4, y5] [] (tm_up h 70 (mpO Z p' tu)) ∧ (rSigns tp n r (nI m) z).2 = rClose 5 (rPut 5 1 s (T, lw, z.2.2)) ∧ PG tp n T p') := by
  intro r
  induction r with
  | zero =>
    intro m z p x4 x5 hm hp A
    exact absurd (pcN_8 m) (by omega)
  | succ r ih =>
    intro m z p x4 x5 hm hp A
    obtain ⟨a, hb⟩ := A.1 rfl
    have a' : PG tp n (zT (rStep tp n z)) p := a
    obtain ⟨p1, w, P1, A1, V1⟩ := m_wh C (tu := tu) (z := rStep tp n z) a' (lo := 0) (hi := 7)
    have eu : rSigns tp n (r + 1) (nI m) z = rAnd (rWhole tp 0 7 (rStep tp n z)) fun y => if ((nI m >>> (zL y &&& 31)) &&& 1) = 1 then (false, rF y 3) else if (zT (rStep tp n y)).2.2 = 4 then rSigns tp n r (nI m ||| ((1 : Int32) <<< (zL y &&& 31))) (rStep tp n y) else (true, rClose 5 (rPut 5 1 (nI m ||| ((1 : Int32) <<< (zL y &&& 31))) (rStep tp n y))) := rfl
    rw [eu]
    have E1 : tE mX11_readStone 56 [.ref 70, .int v, .int (nI m), .int 1, x4, x5] [] (tm_up h 70 (mpO Z p tu)) = tE mX11_readStone 79 [.ref 70, .int v, .int (nI m), .int 1, .int p.2.2.1, .int w] [.int p1.2.1] (tm_up h 70 (mpO Z p1 tu)) := by
      simp only [bX11_readStone_56, bX11_readStone_60, bX11_readStone_64, bX11_readStone_73, tk1_some, tk0_some, tkc_some, tkc_none, ↓reduceIte, show ((1 : Int32) = 0) = False from by decide, if_false, tm_up_same, gf_11_10, tm_isO, P1, gf_11_9]
    rw [E1]
    cases t : (rWhole tp 0 7 (rStep tp n z)).1 with
    | false =>
      have P := A1.2 t
      rw [rAnd_ff t]
      refine ⟨fun _ => ⟨p1, ?_, P⟩, fun y => by cases y⟩
      simp only [bX11_readStone_79, bX11_readStone_100, bX11_readStone_104, bX11_readStone_108, tk1_some, tk0_some, tkc_some, tkc_none, ↓reduceIte, P.1, if_true, tm_up_same, gf_11_9, not_true, if_false]
    | true =>
      obtain ⟨y, ey, iy⟩ := whole_ok t
      have w1 := V1 t
      obtain ⟨G1, n1⟩ := A1.1 t
      have wT := whole_T (tp := tp) (z := rStep tp n z) (lo := 0) (hi := 7)
      have eq2 : rWhole tp 0 7 (rStep tp n z) = (true, rL (rStep tp n z) y) := by
        rw [← ey, ← t]
      rw [eq2] at G1 n1 w1 ⊢
      rw [rAnd_tt]
      have w2 : w = y := w1
      subst w2
      obtain ⟨k, hk, rfl⟩ := inB_nk (hi := 7) (by decide) iy
      have n5 := PG_5 G1
      have n5' : (p1.2.1 = 5) = False := eq_false n5
      rw [show zL (rL (rStep tp n z) (nI k)) = nI k from rfl]
      by_cases d : ((nI m >>> (nI k &&& 31)) &&& 1) = 1
      · rw [if_pos d]
        refine ⟨fun _ => ⟨wrP p1 3 p.2.2.1, ?_, rfl, rfl, a'.2.1.1⟩, fun y => by cases y⟩
        simp only [bX11_readStone_79, bX11_readStone_83, bX11_readStone_93, bX11_readStone_100, bX11_readStone_104, bX11_readStone_108, tk1_some, tk0_some, tkc_some, tkc_none, ↓reduceIte, n5', if_false, d, not_true, tm_up_same, tm_isO, m_wrH n5, gf_11_9, show (wrP p1 3 p.2.2.1).2.1 = 5 from rfl]
      · rw [if_neg d]
        obtain ⟨b1, b2, b3⟩ := bit_all m hm k (by omega) d
        obtain ⟨e4, e0⟩ := m_eat C (tu := tu) G1
        by_cases x : (tokS tp n (zT (rL (rStep tp n z) (nI k))).2.1).2.2 = 4
        · obtain ⟨p2, P2, G2⟩ := e4 x
          have x' : (zT (rStep tp n (rL (rStep tp n z) (nI k)))).2.2 = 4 := x
          rw [if_pos x', show (nI m ||| ((1 : Int32) <<< (nI k &&& 31))) = nI (m + 2 ^ k) from b1]
          obtain ⟨i1, i2⟩ := ih (m + 2 ^ k) (rStep tp n (rL (rStep tp n z) (nI k))) p2 (.int p.2.2.1) (.int (nI k)) b2 (by rw [b3]; omega) (AV_t G2 (tok_n G1.1).2)
          have E2 : tE mX11_readStone 79 [.ref 70, .int v, .int (nI m), .int 1, .int p.2.2.1, .int (nI k)] [.int p1.2.1] (tm_up h 70 (mpO Z p1 tu)) = tE mX11_readStone 56 [.ref 70, .int v, .int (nI (m + 2 ^ k)), .int 1, .int p.2.2.1, .int (nI k)] [] (tm_up h 70 (mpO Z p2 tu)) := by
            simp only [bX11_readStone_79, bX11_readStone_83, bX11_readStone_100, bX11_readStone_104, bX11_readStone_109, bX11_readStone_120, tk1_some, tk0_some, tkc_some, tkc_none, ↓reduceIte, n5', if_false, d, not_false_eq_true, if_true, tm_up_same, gf_11_9, tm_isO, P2, show (nI m ||| ((1 : Int32) <<< (nI k &&& 31))) = nI (m + 2 ^ k) from b1]
          rw [E2]
          exact ⟨i1, i2⟩
        · have P2 := e0 x
          have x' : ¬ (zT (rStep tp n (rL (rStep tp n z) (nI k)))).2.2 = 4 := x
          rw [if_neg x']
          refine ⟨fun y => (by cases y), fun _ => ⟨p1, _, .int p.2.2.1, .int (nI k), zT (rStep tp n (rL (rStep tp n z) (nI k))), nI k, ?_, rfl, G1⟩⟩
          simp only [bX11_readStone_79, bX11_readStone_83, bX11_readStone_100, bX11_readStone_104, bX11_readStone_109, bX11_readStone_120, bX11_readStone_56, tk1_some, tk0_some, tkc_some, tkc_none, ↓reduceIte, n5', if_false, d, not_false_eq_true, if_true, tm_up_same, gf_11_9, tm_isO, P2]
end M15
