/-! THE REFERENCE's reading: a name that is told; kinds and reds -/
theorem upd_at (f : Nat → Int32) (k : Nat) (x : Int32) : upd f k x k = x := if_pos rfl
theorem upd_off {f : Nat → Int32} {k j : Nat} {x : Int32} (e : j ≠ k) : upd f k x j = f j := if_neg e
section M11
variable {h : tm_H} {b n : Nat} {tp : Nat → Int32} {Z : MZ} {tu : Int32} {z : RSt} {F : B7} {c : Nat → Nat} {nn : Nat} {G : Nat → Nat → Int32} {nm : Nat → Int64}
theorem si_130 {a N k : Nat} {f : Nat → Int32} {v : Int32} {X : va_E} (ha : h a = aI N f) (hk : k < N) (hN : N < 2 ^ 31) (na : a ≠ 70) : tm_si 0 (tm_up h 70 X) a (nI k) v = some (tm_up (tm_up h a (aI N (upd f k v))) 70 X) := by
  rw [tm_si_eq, tm_up_ne na, ha, tm_sa_in rfl hk hN]
  show some (tm_up (tm_up h 70 X) a (aI N (upd f k v))) = _
  rw [tm_up_comm (Ne.symm na)]
theorem sj_130 {a N k : Nat} {f : Nat → Int64} {v : Int64} {X : va_E} (ha : h a = aJ N f) (hk : k < N) (hN : N < 2 ^ 31) (na : a ≠ 70) : tm_sj (tm_up h 70 X) a (nI k) v = some (tm_up (tm_up h a (aJ N (vp_updL f k v))) 70 X) := by
  rw [tm_sj_eq (f := f) (n := N) (by rw [tm_up_ne na]; exact ha), tm_sjj_in rfl hk hN]
  show some (tm_up (tm_up h 70 X) a (aJ N (vp_updL f k v))) = _
  rw [tm_up_comm (Ne.symm na)]
theorem MRel_G {c : Nat → Nat} {t : Nat → Nat → Int32} {G' : Nat → Nat → Int32} (M : MRel c t G) (e : ∀ i, 1 ≤ i → i ≤ 11 → G' i = G i) : MRel c t G' := by
  unfold MRel at M ⊢
  rw [e 1 (by decide) (by decide), e 2 (by decide) (by decide), e 3 (by decide) (by decide), e 4 (by decide) (by decide), e 5 (by decide) (by decide), e 6 (by decide) (by decide), e 7 (by decide) (by decide), e 8 (by decide) (by decide), e 9 (by decide) (by decide), e 10 (by decide) (by decide), e 11 (by decide) (by decide)]
  exact M
theorem nO25 (zf : Z.2.1.2 = .ref b) (hb : 83 < b) (Sh : FSh h b F c nn G nm) (hn : nn ≤ 22) {p : PR} {k : Int32} {l : Nat} (H : PO k l p) {x1 x2 : Value} : tE mX11_readNamed 25 [.ref 70, x1, x2] [] (tm_up h 70 (mpO Z p tu)) = some (tm_up h 70 (mpO Z p tu), none) := by
  have ne : b ≠ 70 := by omega
  have nx : ∀ (H' : tm_H) (X : va_E), tm_up H' 70 X b = H' b := fun _ _ => tm_up_ne ne
  have Fd := m_find (h := tm_up h 70 (mpO Z p tu)) (FSh_c Sh (fun k x y => tm_up_ne (by omega))) hn (w := p.2.2.2.2.2.2.2)
  by_cases d : ixI (ixG nm p.2.2.2.2.2.2.2 nn 0) = -1
  · simp only [bX11_readNamed_25, bX11_readNamed_29, bX11_readNamed_33, bX11_readNamed_36, bX11_readNamed_45, bX11_readNamed_49, bX11_readNamed_53, tk1_some, tk0_some, tkc_some, tkc_none, ↓reduceIte, tm_up_same, gf_11_4, zf, gf_11_15, nx, Sh.1, tm_isO, Fd, d, if_true, gf_11_9, H.1, not_true, if_false]
  · simp only [bX11_readNamed_25, bX11_readNamed_29, bX11_readNamed_33, bX11_readNamed_36, bX11_readNamed_40, bX11_readNamed_45, bX11_readNamed_49, bX11_readNamed_53, tk1_some, tk0_some, tkc_some, tkc_none, ↓reduceIte, tm_up_same, gf_11_4, zf, gf_11_15, nx, Sh.1, tm_isO, Fd, d, if_false, m_wrO H, gf_11_9, H.1, not_true]
theorem isNm_1 {T : Tok} (h : isNm tp T = true) : T.2.2 = 1 := by
  unfold isNm at h
  by_cases e : T.2.2 = 1
  · exact e
  · rw [if_neg e] at h; cases h
theorem m_named (C : MC h n tp Z) (zf : Z.2.1.2 = .ref b) (hb : 83 < b) {p : PR} (o : h 70 = mpO Z p tu) (H : PG tp n (zT z) p) (e1 : (zT z).2.2 = 1) (S : FBk h b (true, z)) (g : Gd z) {l : Nat} (hl : l = 2 ∨ l = 4 ∨ l = 5 ∨ l = 6) {fl : Int32} (hf : fl = bI (decide (lnM l ≤ zC z l))) (kd : Int32) :
    ∃ h' p', tC mX11_readNamed [.ref 70, .int fl, .int kd] h = some (h', none) ∧ h' 70 = mpO Z p' tu ∧ AV tp n (rAnd (rRoom l 5 z) (rName tp n kd)) p' ∧ FBk h' b (rAnd (rRoom l 5 z) (rName tp n kd)) ∧ FrG b h h' := by
  have S0 := S
  obtain ⟨F, c, nn, G, nm, Sh, bd, nb, R⟩ := S
  obtain ⟨r1, r2, r3, r4, r5, r6, r7, r8, r9⟩ : BR z F c nn G nm := R rfl
  subst r1 r2
  have ne : b ≠ 70 := by omega
  have nx : ∀ (H' : tm_H) (X : va_E), tm_up H' 70 X b = H' b := fun _ _ => tm_up_ne ne
  have cm : ∀ (H' : tm_H) (X Y : va_E), tm_up (tm_up H' 70 X) b Y = tm_up (tm_up H' b Y) 70 X := fun _ _ _ => tm_up_comm (Ne.symm ne)
  have fo : tm_up h 70 (mpO Z p tu) = h := by rw [← o, tm_up_id]
  obtain ⟨a1, a2⟩ := m_head C (tu := tu) H e1 l 5
  by_cases d : lnM l ≤ zC z l
  · obtain ⟨p1, P1, Q1, A⟩ := a1 d
    have er : rRoom l 5 z = (false, rF z 5) := by unfold rRoom; rw [if_pos d]
    rw [er] at A ⊢
    have P := A.2 rfl
    have f1 : (fl = 0) = False := by rw [hf, decide_eq_true d]; decide
    refine ⟨tm_up h 70 (mpO Z p1 tu), p1, ?_, tm_up_same, A, FBk_c (FBk_f S0 rfl) (fun k x y => tm_up_ne (by omega)), FrG_up (Or.inl rfl)⟩
    rw [show tC mX11_readNamed [.ref 70, .int fl, .int kd] h = tC mX11_readNamed [.ref 70, .int fl, .int kd] (tm_up h 70 (mpO Z p tu)) by rw [fo]]
    simp only [cX11_readNamed_, bX11_readNamed_0, bX11_readNamed_4, bX11_readNamed_9, bX11_readNamed_13, bX11_readNamed_17, bX11_readNamed_20, tk1_some, tk0_some, tkc_some, tkc_none, ↓reduceIte, f1, if_false, tm_up_same, tm_isO, P1, Q1, m_isNO P, not_true, m_wrO P, nO25 zf hb Sh nb P]
  · obtain ⟨p1, P1, A⟩ := a2 d
    have er : rRoom l 5 z = (true, z) := by unfold rRoom; rw [if_neg d]
    rw [er] at A ⊢
    obtain ⟨G1, b1⟩ := A.1 rfl
    have f1 : (fl = 0) = True := by rw [hf, decide_eq_false d]; decide
    have E1 : tC mX11_readNamed [.ref 70, .int fl, .int kd] h = tE mX11_readNamed 17 [.ref 70, .int fl, .int kd] [.int (bI (isNm tp (zT (rStep tp n z))))] (tm_up h 70 (mpO Z p1 tu)) := by
      rw [show tC mX11_readNamed [.ref 70, .int fl, .int kd] h = tC mX11_readNamed [.ref 70, .int fl, .int kd] (tm_up h 70 (mpO Z p tu)) by rw [fo]]
      simp only [cX11_readNamed_, bX11_readNamed_0, bX11_readNamed_9, bX11_readNamed_13, tk1_some, tk0_some, tkc_some, tkc_none, ↓reduceIte, f1, if_true, tm_up_same, tm_isO, P1, m_isN G1]
      rfl
    rw [E1]
    show ∃ h' p', _ ∧ _ ∧ AV tp n (rName tp n kd z) p' ∧ FBk h' b (rName tp n kd z) ∧ _
    have G1' : PG tp n (zT (rStep tp n z)) p1 := G1
    unfold rName
    by_cases w : isNm tp (zT (rStep tp n z)) = true
    · rw [if_pos w, w]
      have s1 := isNm_1 w
      obtain ⟨L, hL⟩ := tok_L G1'.1 s1
      have ew := (G1'.2.1.2.2.1 s1).2.2
      have D0 : DgL [] := fun d hd => by cases hd
      have ea : w32G tp ((zT (rStep tp n z)).2.1 - (zT (rStep tp n z)).1) (zT (rStep tp n z)).1 0 = Int64.ofNat (rvW 32 (drW tp ((zT (rStep tp n z)).2.1 - (zT (rStep tp n z)).1) (zT (rStep tp n z)).1 [])) := w32_rv tp _ _ [] L
      have eb : zW tp (rStep tp n z) = Int64.ofNat (rvW 27 (drW tp ((zT (rStep tp n z)).2.1 - (zT (rStep tp n z)).1) (zT (rStep tp n z)).1 [])) := wn_rv tp _ _ [] L
      have dl := DgL_dr tp _ _ _ L D0
      have ll : (drW tp ((zT (rStep tp n z)).2.1 - (zT (rStep tp n z)).1) (zT (rStep tp n z)).1 []).length ≤ 8 := by rw [dr_len]; exact hL
      rw [ea] at ew
      generalize drW tp ((zT (rStep tp n z)).2.1 - (zT (rStep tp n z)).1) (zT (rStep tp n z)).1 [] = LL at ew eb dl ll
      have Fd := m_find (h := tm_up h 70 (mpO Z p1 tu)) (FSh_c Sh (fun k x y => tm_up_ne (by omega))) nb (w := p1.2.2.2.2.2.2.2)
      have ex : ixG nm p1.2.2.2.2.2.2.2 (zN z) 0 = zX tp (rStep tp n z) := by
        unfold zX
        rw [ew, eb, ix_eq r9 dl ll (zN z) 0 (by omega)]
        rfl
      rw [ex] at Fd
      by_cases x : zX tp (rStep tp n z) = none
      · rw [if_pos x]
        rw [x, show ixI none = -1 from rfl] at Fd
        have l0 := bd 2 (by decide)
        have l1 := bd 4 (by decide)
        have l2 := bd 5 (by decide)
        have l3 := bd 6 (by decide)
        have nl : zN z < 22 := by
          have gs := g.2.2.2.2.2
          have m0 : lnM 2 = 5 := rfl
          have m1 : lnM 4 = 6 := rfl
          have m2 : lnM 5 = 6 := rfl
          have m3 : lnM 6 = 5 := rfl
          rcases hl with e | e | e | e <;> subst e <;> omega
        rw [if_pos nl]
        have Fd' := Fd
        rw [ew] at Fd'
        have n5 := PG_5 G1'
        have t0 : (22 : Nat) < 2 ^ 31 := by decide
        have S1 := FSh_n Sh (vp_updL nm (zN z) (Int64.ofNat (rvW 32 LL)))
        have E2 := sj_130 (X := mpO Z p1 tu) (v := Int64.ofNat (rvW 32 LL)) Sh.2.2 nl t0 (show b + 12 ≠ 70 by omega)
        have C1 := MC_up C (a := b + 12) (e := aJ 22 (vp_updL nm (zN z) (Int64.ofNat (rvW 32 LL)))) (by omega)
        have F1 : FrG b h (tm_up h (b + 12) (aJ 22 (vp_updL nm (zN z) (Int64.ofNat (rvW 32 LL))))) := FrG_up (Or.inr ⟨by omega, by omega⟩)
        generalize tm_up h (b + 12) (aJ 22 (vp_updL nm (zN z) (Int64.ofNat (rvW 32 LL)))) = h1 at S1 E2 C1 F1
        have S2 := FSh_a S1 (i := 13) (by decide) (by decide) (by decide) (upd (G 13) (zN z) kd)
        have E3 := si_130 (X := mpO Z p1 tu) (v := kd) (N := 22) (S1.2.1 13 (by decide) (by decide) (by decide)) nl t0 (show b + 13 ≠ 70 by omega)
        have C2 := MC_up C1 (a := b + 13) (e := aI 22 (upd (G 13) (zN z) kd)) (by omega)
        have F2 : FrG b h1 (tm_up h1 (b + 13) (aI 22 (upd (G 13) (zN z) kd))) := FrG_up (Or.inr ⟨by omega, by omega⟩)
        change FSh (tm_up h1 (b + 13) (aI 22 (upd (G 13) (zN z) kd))) _ _ _ _ _ _ at S2
        generalize tm_up h1 (b + 13) (aI 22 (upd (G 13) (zN z) kd)) = h2 at S2 E3 C2 F2
        have S3 := FSh_o S2 F (zC z) (zN z + 1)
        have C3 := MC_up C2 (a := b) (e := mbO b F.1 F.2.1 F.2.2.1 F.2.2.2.1 F.2.2.2.2.1 F.2.2.2.2.2.1 F.2.2.2.2.2.2 (zC z 2) (zC z 3) (zC z 4) (zC z 5) (zC z 6) (zN z + 1)) (by omega)
        have F3 : FrG b h2 (tm_up h2 b (mbO b F.1 F.2.1 F.2.2.1 F.2.2.2.1 F.2.2.2.2.1 F.2.2.2.2.2.1 F.2.2.2.2.2.2 (zC z 2) (zC z 3) (zC z 4) (zC z 5) (zC z 6) (zN z + 1))) := FrG_up (Or.inr ⟨Nat.le_refl _, by omega⟩)
        obtain ⟨p2, P2, G2⟩ := m_go C3 (tu := tu) G1' (by rw [s1]; decide) (by rw [s1]; decide)
        refine ⟨tm_up (tm_up h2 b (mbO b F.1 F.2.1 F.2.2.1 F.2.2.2.1 F.2.2.2.2.1 F.2.2.2.2.2.1 F.2.2.2.2.2.2 (zC z 2) (zC z 3) (zC z 4) (zC z 5) (zC z 6) (zN z + 1))) 70 (mpO Z p2 tu), p2, ?_, tm_up_same, AV_t G2 (tok_n G1'.1).2, ?_, FrG_tr (FrG_tr F1 F2) (FrG_tr F3 (FrG_up (Or.inl rfl)))⟩
        · have o1 : h1 b = mbO b F.1 F.2.1 F.2.2.1 F.2.2.2.1 F.2.2.2.2.1 F.2.2.2.2.2.1 F.2.2.2.2.2.2 (zC z 2) (zC z 3) (zC z 4) (zC z 5) (zC z 6) (zN z) := S1.1
          have o2 : h2 b = mbO b F.1 F.2.1 F.2.2.1 F.2.2.2.1 F.2.2.2.2.1 F.2.2.2.2.2.1 F.2.2.2.2.2.2 (zC z 2) (zC z 3) (zC z 4) (zC z 5) (zC z 6) (zN z) := S2.1
          simp only [bX11_readNamed_17, bX11_readNamed_25, bX11_readNamed_29, bX11_readNamed_33, bX11_readNamed_36, bX11_readNamed_45, bX11_readNamed_49, bX11_readNamed_54, bX11_readNamed_58, bX11_readNamed_61, bX11_readNamed_65, bX11_readNamed_68, bX11_readNamed_72, bX11_readNamed_73, bX11_readNamed_77, bX11_readNamed_80, bX11_readNamed_84, bX11_readNamed_87, bX11_readNamed_89, bX11_readNamed_93, bX11_readNamed_97, bX11_readNamed_102, bX11_readNamed_106, tk1_some, tk0_some, tkc_some, tkc_none, ↓reduceIte, bI_t, show ((1 : Int32) = 0) = False from by decide, not_false_eq_true, if_true, tm_up_same, gf_11_4, zf, gf_11_15, nx, Sh.1, o1, o2, tm_isO, Fd', gf_11_9, n5, gf_10_24, gf_10_12, gf_10_25, ew, E2, E3, tm_pf_eq, ps_10_12, Option.map_some, cm, nI_k1, P2]
        · refine FBk_c ⟨F, zC z, zN z + 1, upA G 13 (upd (G 13) (zN z) kd), vp_updL nm (zN z) (Int64.ofNat (rvW 32 LL)), S3, bd, nl, fun _ => ?_⟩ (fun k x y => tm_up_ne (by omega))
          refine ⟨rfl, rfl, MRel_G r3 (fun i h1 h2 => upA_ne _ _ (by omega)), r4, r5, r6, r7, fun i hi => ?_, ?_⟩
          · show upA G 13 (upd (G 13) (zN z) kd) 13 i = upd (zK z) (zN z) kd i
            rw [upA_same]
            by_cases e : i = zN z
            · subst e; rw [upd_at, upd_at]
            · rw [upd_off e, upd_off e]; exact r8 i (by have : i < zN z + 1 := hi; omega)
          · obtain ⟨N, RN⟩ := r9
            refine ⟨fun i => if i = zN z then LL else N i, fun i hi => ?_⟩
            show DgL (if i = zN z then LL else N i) ∧ (if i = zN z then LL else N i).length ≤ 8 ∧ vp_updL (zM z) (zN z) (zW tp (rStep tp n z)) i = Int64.ofNat (rvW 27 (if i = zN z then LL else N i)) ∧ vp_updL nm (zN z) (Int64.ofNat (rvW 32 LL)) i = Int64.ofNat (rvW 32 (if i = zN z then LL else N i))
            unfold vp_updL
            by_cases e : i = zN z
            · rw [if_pos e, if_pos e, if_pos e]; exact ⟨dl, ll, eb, rfl⟩
            · rw [if_neg e, if_neg e, if_neg e]; exact RN i (by have : i < zN z + 1 := hi; omega)
      · rw [if_neg x]
        have x' : ¬ ixI (zX tp (rStep tp n z)) = -1 := by
          rw [ixI_n (fun j e => by have := ixG_b _ _ _ e; have : zN (rStep tp n z) = zN z := rfl; omega)]; exact x
        obtain ⟨p2, P2, G2⟩ := m_wr (h := h) (Z := Z) (tu := tu) G1' (k := 3)
        refine ⟨tm_up h 70 (mpO Z p2 tu), p2, ?_, tm_up_same, AV_f G2, FBk_c (FBk_f S0 rfl) (fun k x y => tm_up_ne (by omega)), FrG_up (Or.inl rfl)⟩
        simp only [bX11_readNamed_17, bX11_readNamed_25, bX11_readNamed_29, bX11_readNamed_33, bX11_readNamed_36, bX11_readNamed_40, bX11_readNamed_45, bX11_readNamed_49, bX11_readNamed_53, tk1_some, tk0_some, tkc_some, tkc_none, ↓reduceIte, bI_t, show ((1 : Int32) = 0) = False from by decide, not_false_eq_true, if_true, tm_up_same, gf_11_4, zf, gf_11_15, nx, Sh.1, tm_isO, Fd, x', if_false, P2, gf_11_9, G2.1, not_true]
    · rw [if_neg w]
      rw [Bool.not_eq_true] at w
      rw [w]
      obtain ⟨p2, P2, G2⟩ := m_wr (h := h) (Z := Z) (tu := tu) G1' (k := 1)
      refine ⟨tm_up h 70 (mpO Z p2 tu), p2, ?_, tm_up_same, AV_f G2, FBk_c (FBk_f S0 rfl) (fun k x y => tm_up_ne (by omega)), FrG_up (Or.inl rfl)⟩
      simp only [bX11_readNamed_17, bX11_readNamed_20, tk1_some, tk0_some, tkc_some, tkc_none, ↓reduceIte, bI_f, not_true, if_false, tm_up_same, tm_isO, P2, nO25 zf hb Sh nb G2]
end M11
