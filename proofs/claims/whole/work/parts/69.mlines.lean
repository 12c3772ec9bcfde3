/-! THE REFERENCE's reading: the book that is being told; bar and water -/
abbrev B7 : Type := Int32 × Int32 × Int32 × Int32 × Int32 × Int32 × Int32
def FSh (h : tm_H) (b : Nat) (F : B7) (c : Nat → Nat) (nn : Nat) (G : Nat → Nat → Int32) (nm : Nat → Int64) : Prop :=
  h b = mbO b F.1 F.2.1 F.2.2.1 F.2.2.2.1 F.2.2.2.2.1 F.2.2.2.2.2.1 F.2.2.2.2.2.2 (c 2) (c 3) (c 4) (c 5) (c 6) nn ∧ (∀ i, 1 ≤ i → i ≤ 13 → i ≠ 12 → h (b + i) = aI (mbL i) (G i)) ∧ h (b + 12) = aJ 22 nm
def NmR (nn : Nat) (M nm : Nat → Int64) : Prop := ∃ L : Nat → List Nat, ∀ i, i < nn → DgL (L i) ∧ (L i).length ≤ 8 ∧ M i = Int64.ofNat (rvW 27 (L i)) ∧ nm i = Int64.ofNat (rvW 32 (L i))
def BR (z : RSt) (F : B7) (c : Nat → Nat) (nn : Nat) (G : Nat → Nat → Int32) (nm : Nat → Int64) : Prop :=
  c = zC z ∧ nn = zN z ∧ MRel (zC z) (zB z) G ∧ (zC z 0 = 0 → F.1 = 0) ∧ (zC z 0 ≠ 0 → F.1 = zB z 0 0 ∧ F.2.1 = zB z 0 1) ∧ (zC z 1 = 0 → F.2.2.1 = -1) ∧ (zC z 1 ≠ 0 → F.2.2.1 = zB z 1 0 ∧ F.2.2.2.1 = zB z 1 1 ∧ F.2.2.2.2.1 = zB z 1 2 ∧ F.2.2.2.2.2.1 = zB z 1 3 ∧ F.2.2.2.2.2.2 = zB z 1 4) ∧ (∀ i, i < zN z → G 13 i = zK z i) ∧ NmR (zN z) (zM z) nm
def FBk (h : tm_H) (b : Nat) (q : Bool × RSt) : Prop :=
  ∃ F c nn G nm, FSh h b F c nn G nm ∧ (∀ l, l < 7 → c l ≤ lnM l) ∧ nn ≤ 22 ∧ (q.1 = true → BR q.2 F c nn G nm)
def FrG (b : Nat) (h h' : tm_H) : Prop := ∀ k, k ≠ 70 → (k < b ∨ b + 13 < k) → h' k = h k
theorem FrG_rf (b : Nat) (h : tm_H) : FrG b h h := fun _ _ _ => rfl
theorem FrG_tr {b : Nat} {h h1 h2 : tm_H} (x : FrG b h h1) (y : FrG b h1 h2) : FrG b h h2 := fun k a c => (y k a c).trans (x k a c)
theorem FrG_up {b a : Nat} {h : tm_H} {e : va_E} (x : a = 70 ∨ (b ≤ a ∧ a ≤ b + 13)) : FrG b h (tm_up h a e) := fun k y z => tm_up_ne (by omega)
theorem rAnd_as (q : Bool × RSt) (f g : RSt → Bool × RSt) : rAnd q (fun z => rAnd (f z) g) = rAnd (rAnd q f) g := by
  obtain ⟨b, z⟩ := q
  cases b <;> rfl
theorem rClose_T (l : Nat) (z : RSt) : zT (rClose l z) = zT z := by unfold rClose; split <;> rfl
/-- a put of what was read into the row that is being told; the names stay -/
def PutV (l c : Nat) (z z' : RSt) : Prop := Puts l c z z' ∧ zM z' = zM z ∧ (zC z l < lnM l → zB z' l (zC z l * lnC l + c) = zL z')
theorem rPut_M (l c : Nat) (v : Int32) (z : RSt) : zM (rPut l c v z) = zM z := by unfold rPut; split <;> rfl
section M9
variable {h : tm_H} {b n : Nat} {tp : Nat → Int32} {Z : MZ} {tu : Int32} {z : RSt} {F : B7} {c : Nat → Nat} {nn : Nat} {G : Nat → Nat → Int32} {nm : Nat → Int64}
theorem tells_pv {k l c : Nat} {lo hi : Int32} (h : (rTells tp n k lo hi l c z).1 = true) : PutV l c z (rTells tp n k lo hi l c z).2 ∧ inB (zL (rTells tp n k lo hi l c z).2) lo hi = true := by
  obtain ⟨T, v, e, i⟩ := tells_ok h
  rw [e]
  have p := put_puts l c v T v z
  exact ⟨⟨p.1, rPut_M _ _ _ _, fun hr => by rw [p.2 hr, rPut_L]⟩, by rw [rPut_L]; exact i⟩
theorem tellsW_pv {l c : Nat} {lo hi : Int32} (h : (rTellsW tp n lo hi l c z).1 = true) : PutV l c z (rTellsW tp n lo hi l c z).2 ∧ inB (zL (rTellsW tp n lo hi l c z).2) lo hi = true := by
  obtain ⟨T, v, e, i⟩ := tellsW_ok h
  rw [e]
  have p := put_puts l c v T v z
  exact ⟨⟨p.1, rPut_M _ _ _ _, fun hr => by rw [p.2 hr, rPut_L]⟩, by rw [rPut_L]; exact i⟩
theorem FSh_o (S : FSh h b F c nn G nm) (F' : B7) (c' : Nat → Nat) (nn' : Nat) : FSh (tm_up h b (mbO b F'.1 F'.2.1 F'.2.2.1 F'.2.2.2.1 F'.2.2.2.2.1 F'.2.2.2.2.2.1 F'.2.2.2.2.2.2 (c' 2) (c' 3) (c' 4) (c' 5) (c' 6) nn')) b F' c' nn' G nm :=
  ⟨tm_up_same, fun i h1 h2 h3 => by rw [tm_up_ne (by omega)]; exact S.2.1 i h1 h2 h3, by rw [tm_up_ne (by omega)]; exact S.2.2⟩
theorem FSh_a (S : FSh h b F c nn G nm) {i : Nat} (h1 : 1 ≤ i) (h2 : i ≤ 13) (h3 : i ≠ 12) (f : Nat → Int32) : FSh (tm_up h (b + i) (aI (mbL i) f)) b F c nn (upA G i f) nm := by
  refine ⟨by rw [tm_up_ne (by omega)]; exact S.1, fun j j1 j2 j3 => ?_, by rw [tm_up_ne (by omega)]; exact S.2.2⟩
  by_cases e : j = i
  · subst e; rw [tm_up_same, upA_same]
  · rw [tm_up_ne (by omega), upA_ne _ _ e]; exact S.2.1 j j1 j2 j3
theorem FSh_n (S : FSh h b F c nn G nm) (f : Nat → Int64) : FSh (tm_up h (b + 12) (aJ 22 f)) b F c nn G f :=
  ⟨by rw [tm_up_ne (by omega)]; exact S.1, fun j j1 j2 j3 => by rw [tm_up_ne (by omega)]; exact S.2.1 j j1 j2 j3, tm_up_same⟩
theorem FSh_c (S : FSh h b F c nn G nm) {h' : tm_H} (f : ∀ k, b ≤ k → k ≤ b + 13 → h' k = h k) : FSh h' b F c nn G nm :=
  ⟨by rw [f b (by omega) (by omega)]; exact S.1, fun i h1 h2 h3 => by rw [f (b + i) (by omega) (by omega)]; exact S.2.1 i h1 h2 h3, by rw [f (b + 12) (by omega) (by omega)]; exact S.2.2⟩
theorem FBk_c {q : Bool × RSt} (S : FBk h b q) {h' : tm_H} (f : ∀ k, b ≤ k → k ≤ b + 13 → h' k = h k) : FBk h' b q := by
  obtain ⟨F, c, nn, G, nm, S1, S2, S3, S4⟩ := S
  exact ⟨F, c, nn, G, nm, FSh_c S1 f, S2, S3, S4⟩
theorem FBk_f {q : Bool × RSt} (S : FBk h b q) {q' : Bool × RSt} (e : q'.1 = false) : FBk h b q' := by
  obtain ⟨F, c, nn, G, nm, S1, S2, S3, _⟩ := S
  exact ⟨F, c, nn, G, nm, S1, S2, S3, fun y => by rw [e] at y; cases y⟩
theorem m_head (C : MC h n tp Z) {p : PR} (H : PG tp n (zT z) p) (e1 : (zT z).2.2 = 1) (l : Nat) (k : Int32) :
    (lnM l ≤ zC z l → ∃ p1, tC mX11_wrong [.ref 70, .int k] (tm_up h 70 (mpO Z p tu)) = some (tm_up h 70 (mpO Z p1 tu), none) ∧ tC mX11_goesOn [.ref 70] (tm_up h 70 (mpO Z p1 tu)) = some (tm_up h 70 (mpO Z p1 tu), none) ∧ AV tp n (rRoom l k z) p1) ∧
    (¬ lnM l ≤ zC z l → ∃ p1, tC mX11_goesOn [.ref 70] (tm_up h 70 (mpO Z p tu)) = some (tm_up h 70 (mpO Z p1 tu), none) ∧ AV tp n (rRoom l k z) p1) := by
  unfold rRoom
  refine ⟨fun d => ?_, fun d => ?_⟩
  · obtain ⟨p1, P1, G1⟩ := m_wr (h := h) (Z := Z) (tu := tu) H (k := k)
    rw [if_pos d]
    exact ⟨p1, P1, m_goO G1, AV_f G1⟩
  · obtain ⟨p1, P1, G1⟩ := m_go C (tu := tu) H (by rw [e1]; decide) (by rw [e1]; decide)
    rw [if_neg d]
    exact ⟨p1, P1, AV_t G1 (tok_n H.1).2⟩
theorem inB_r {v lo hi : Int32} (h : inB v lo hi = true) : lo ≤ v ∧ v ≤ hi := by
  obtain ⟨a, b⟩ := inB_rn.mp h
  exact ⟨Int32.not_lt.mp a, Int32.not_lt.mp b⟩
theorem MRel_s {c c' : Nat → Nat} {t t' : Nat → Nat → Int32} {G : Nat → Nat → Int32} (M : MRel c t G) (ec : ∀ m, 2 ≤ m → m ≤ 6 → c' m = c m) (et : ∀ m, 2 ≤ m → m ≤ 6 → t' m = t m) : MRel c' t' G := by
  unfold MRel at M ⊢
  rw [ec 2 (by decide) (by decide), ec 3 (by decide) (by decide), ec 4 (by decide) (by decide), ec 5 (by decide) (by decide), ec 6 (by decide) (by decide), et 2 (by decide) (by decide), et 3 (by decide) (by decide), et 4 (by decide) (by decide), et 5 (by decide) (by decide), et 6 (by decide) (by decide)]
  exact M
theorem m_Bar (C : MC h n tp Z) (zf : Z.2.1.2 = .ref b) (hb : 83 < b) {p : PR} (o : h 70 = mpO Z p tu) (H : PG tp n (zT z) p) (e1 : (zT z).2.2 = 1) (S : FBk h b (true, z)) (g : Gd z) :
    ∃ h' p', tC mX11_readBar [.ref 70] h = some (h', none) ∧ h' 70 = mpO Z p' tu ∧ LV tp n (rAnd (rRoom 0 3 z) (rBar tp n)) p' ∧ FBk h' b (rAnd (rRoom 0 3 z) (rBar tp n)) ∧ FrG b h h' := by
  have S0 := S
  obtain ⟨F, c, nn, G, nm, Sh, bd, nb, R⟩ := S
  obtain ⟨r1, r2, r3, r4, r5, r6, r7, r8, r9⟩ : BR z F c nn G nm := R rfl
  subst r1 r2
  have ne : b ≠ 70 := by omega
  have nx : ∀ (H' : tm_H) (X : va_E), tm_up H' 70 X b = H' b := fun _ _ => tm_up_ne ne
  have cm : ∀ (H' : tm_H) (X Y : va_E), tm_up (tm_up H' 70 X) b Y = tm_up (tm_up H' b Y) 70 X := fun _ _ _ => tm_up_comm (Ne.symm ne)
  have fo : tm_up h 70 (mpO Z p tu) = h := by rw [← o, tm_up_id]
  have M : ∃ p1, AV tp n (rRoom 0 3 z) p1 ∧ tC mX11_readBar [.ref 70] (tm_up h 70 (mpO Z p tu)) = tE mX11_readBar 19 [.ref 70, tm_U, tm_U] [] (tm_up h 70 (mpO Z p1 tu)) := by
    obtain ⟨a1, a2⟩ := m_head C (tu := tu) H e1 0 3
    by_cases d : lnM 0 ≤ zC z 0
    · obtain ⟨p1, P1, Q1, A⟩ := a1 d
      refine ⟨p1, A, ?_⟩
      have d1 : 1 ≤ zC z 0 := d
      have f1 : ¬ F.1 ≤ 0 := by
        rw [(r5 (by omega)).1]
        intro y
        have := (inB_r (g.1 (by omega)).1).1
        exact absurd (Int32.le_trans this y) (by decide)
      simp only [cX11_readBar_, bX11_readBar_0, bX11_readBar_4, bX11_readBar_7, bX11_readBar_10, bX11_readBar_15, tk1_some, tk0_some, tkc_some, tkc_none, ↓reduceIte, tm_up_same, gf_11_4, zf, nx, Sh.1, gf_10_0, f1, if_false, tm_isO, P1, Q1]
    · obtain ⟨p1, P1, A⟩ := a2 d
      refine ⟨p1, A, ?_⟩
      have d1 : ¬ 1 ≤ zC z 0 := d
      have f1 : F.1 ≤ 0 := by rw [r4 (by omega)]; decide
      simp only [cX11_readBar_, bX11_readBar_0, bX11_readBar_4, bX11_readBar_7, bX11_readBar_15, tk1_some, tk0_some, tkc_some, tkc_none, ↓reduceIte, tm_up_same, gf_11_4, zf, nx, Sh.1, gf_10_0, f1, if_true, tm_isO, P1]
  obtain ⟨p1, A1, E1⟩ := M
  rw [fo] at E1
  rw [E1]
  obtain ⟨p2, v1, P2, A2, V2⟩ := m_part C (tu := tu) A1 (k := 7) (m := 28) (by decide) rfl (lo := 1) (hi := 8) 0 0
  obtain ⟨p3, v2, P3, A3, V3⟩ := m_part C (tu := tu) A2 (k := 8) (m := 29) (by decide) rfl (lo := 2) (hi := 5) 0 1
  have E3 : tE mX11_readBar 19 [.ref 70, tm_U, tm_U] [] (tm_up h 70 (mpO Z p1 tu)) = tE mX11_readBar 42 [.ref 70, .int v1, .int v2] [.int p3.2.1] (tm_up h 70 (mpO Z p3 tu)) := by
    simp only [bX11_readBar_19, bX11_readBar_28, bX11_readBar_37, tk1_some, tk0_some, tkc_some, tkc_none, ↓reduceIte, tm_up_same, tm_isO, P2, P3, gf_11_9]
  rw [E3]
  have eq : rAnd (rRoom 0 3 z) (rBar tp n) = rAnd (rAnd (rAnd (rRoom 0 3 z) (rTells tp n 7 1 8 0 0)) (rTells tp n 8 2 5 0 1)) (fun y => (true, rEnds tp n 0 y)) := by
    rw [← rAnd_as, ← rAnd_as]; rfl
  rw [eq]
  cases t : (rAnd (rAnd (rRoom 0 3 z) (rTells tp n 7 1 8 0 0)) (rTells tp n 8 2 5 0 1)).1 with
  | false =>
    have P := A3.2 t
    have e9 : rAnd (rAnd (rAnd (rRoom 0 3 z) (rTells tp n 7 1 8 0 0)) (rTells tp n 8 2 5 0 1)) (fun y => (true, rEnds tp n 0 y)) = (false, (rAnd (rAnd (rRoom 0 3 z) (rTells tp n 7 1 8 0 0)) (rTells tp n 8 2 5 0 1)).2) := by
      generalize rAnd (rAnd (rRoom 0 3 z) (rTells tp n 7 1 8 0 0)) (rTells tp n 8 2 5 0 1) = q at t
      obtain ⟨b', q'⟩ := q
      obtain rfl : b' = false := t
      rfl
    rw [e9]
    refine ⟨tm_up h 70 (mpO Z p3 tu), p3, ?_, tm_up_same, ⟨fun y => (by cases y), fun _ => P⟩, FBk_c (FBk_f S0 rfl) (fun k x y => tm_up_ne (by omega)), FrG_up (Or.inl rfl)⟩
    simp only [bX11_readBar_42, bX11_readBar_46, P.1, not_true, if_false]
  | true =>
    obtain ⟨t1, u1⟩ := rAnd_t t
    obtain ⟨t0, u0⟩ := rAnd_t t1
    obtain ⟨ez, hr⟩ := room_ok t0
    rw [ez] at u0
    rw [u0] at t t1 V2 V3 u1 A3 ⊢
    rw [u1] at t A3 V3 ⊢
    obtain ⟨V1p, i1⟩ := tells_pv t1
    obtain ⟨V2p, i2⟩ := tells_pv t
    have w2 := V2 t1
    have w3 := V3 t
    generalize hz1 : (rTells tp n 7 1 8 0 0 z).2 = z1 at *
    generalize hq3 : rTells tp n 8 2 5 0 1 z1 = q3 at *
    obtain ⟨b3, z3⟩ := q3
    obtain rfl : b3 = true := t
    obtain ⟨G3, n3⟩ := A3.1 rfl
    have hr0 : zC z 0 = 0 := by have : zC z 0 < 1 := hr; omega
    have c1 : zC z1 = zC z := V1p.1.1.1
    have c3 : zC z3 = zC z := V2p.1.1.1.trans c1
    have b30 : zB z3 0 0 = v1 := by
      have x := V2p.1.2.2.2 0 (by decide)
      rw [c1, hr0] at x
      have y := V1p.2.2 hr
      rw [hr0] at y
      rw [w2]; exact x.trans y
    have b31 : zB z3 0 1 = v2 := by
      have y := V2p.2.2 (by rw [c1]; exact hr)
      rw [c1, hr0] at y
      rw [w3]; exact y
    have bm : ∀ m, m ≠ 0 → zB z3 m = zB z m := fun m hm => (V2p.1.1.2.1 m hm).trans (V1p.1.1.2.1 m hm)
    have n5 := PG_5 G3
    have ee : rEnds tp n 0 z3 = rStep tp n (rB z3 (updN (zC z3) 0 (zC z3 0 + 1)) (zB z3)) := by unfold rEnds; rw [rC_eq (by rw [c3]; exact hr)]
    show ∃ h' p', _ ∧ _ ∧ LV tp n (true, rEnds tp n 0 z3) p' ∧ FBk h' b (true, rEnds tp n 0 z3) ∧ _
    refine ⟨tm_up (tm_up h b (mbO b v1 v2 F.2.2.1 F.2.2.2.1 F.2.2.2.2.1 F.2.2.2.2.2.1 F.2.2.2.2.2.2 (zC z 2) (zC z 3) (zC z 4) (zC z 5) (zC z 6) (zN z))) 70 (mpO Z p3 tu), p3, ?_, tm_up_same, ⟨fun _ => ?_, fun y => (by cases y)⟩, ?_, FrG_tr (FrG_up (Or.inr ⟨Nat.le_refl _, by omega⟩)) (FrG_up (Or.inl rfl))⟩
    · simp only [bX11_readBar_42, bX11_readBar_47, bX11_readBar_51, bX11_readBar_55, bX11_readBar_59, bX11_readBar_63, tk1_some, tk0_some, tkc_some, tkc_none, ↓reduceIte, n5, not_false_eq_true, if_true, tm_up_same, gf_11_4, zf, tm_pf_eq, nx, Sh.1, ps_10_0, ps_10_1, Option.map_some, cm, tm_up_up]
    · show PG tp n (zT (rEnds tp n 0 z3)) p3
      rw [ee]; exact G3
    · refine FBk_c (h := tm_up h b (mbO b v1 v2 F.2.2.1 F.2.2.2.1 F.2.2.2.2.1 F.2.2.2.2.2.1 F.2.2.2.2.2.2 (zC z 2) (zC z 3) (zC z 4) (zC z 5) (zC z 6) (zN z))) ?_ (fun k x y => tm_up_ne (by omega))
      refine ⟨(v1, v2, F.2.2), updN (zC z) 0 1, zN z, G, nm, FSh_o Sh (v1, v2, F.2.2) (updN (zC z) 0 1) (zN z), fun l hl => ?_, nb, fun _ => ?_⟩
      · by_cases e : l = 0
        · subst e; rw [updN_s]; decide
        · rw [updN_n e]; exact bd l hl
      · show BR (rEnds tp n 0 z3) _ _ _ _ _
        rw [ee]
        have N3 : zN z3 = zN z := V2p.1.2.1.trans V1p.1.2.1
        have K3 : zK z3 = zK z := V2p.1.2.2.1.trans V1p.1.2.2.1
        have M3 : zM z3 = zM z := V2p.2.1.trans V1p.2.1
        have C3 : updN (zC z3) 0 (zC z3 0 + 1) = updN (zC z) 0 1 := by rw [c3, hr0]
        rw [C3]
        refine ⟨rfl, N3.symm, MRel_s r3 (fun m h1 h2 => updN_n (by omega)) (fun m h1 h2 => bm m (by omega)), fun y => ?_, fun _ => ⟨b30.symm, b31.symm⟩, fun y => r6 ?_, fun y => ?_, fun i hi => ?_, ?_⟩
        · exact absurd (show (1 : Nat) = 0 from y) (by decide)
        · exact y
        · have := r7 y
          show _ = zB z3 1 0 ∧ _ = zB z3 1 1 ∧ _ = zB z3 1 2 ∧ _ = zB z3 1 3 ∧ _ = zB z3 1 4
          rw [bm 1 (by decide)]; exact this
        · show G 13 i = zK z3 i
          rw [K3]; exact r8 i (by have : i < zN z3 := hi; omega)
        · show NmR (zN z3) (zM z3) nm
          rw [N3, M3]; exact r9
end M9
