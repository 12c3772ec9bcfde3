/-! THE REFERENCE: its answers; the bar begins, a tenth passes -/
/-- what is kept of the bar -/
def BOk (cnt : Nat → Nat) (tab : Nat → Nat → Int32) (cuts w : Nat) (s : BSt) : Prop :=
  KN (cnt 2) s.1 s.2.1 ∧ RmA tab (nI w * sqS w w) s.1 ∧ SzI cuts w (tab 1 4) s.1 ∧ (∀ i j, i < cuts → j < w → s.1 1 (i * 5 + j) = opS (tab 1 2) (s.1 0 (i * 5 + j)))
/-- the reference's bar is this one -/
def MR (h : tm_H) (Z : MZ) (fh : Int32) (s : BSt) (cuts w : Nat) : Prop :=
  Z.2.2.2.1 = (fh, nI s.2.2.2.1, s.2.2.1, s.2.2.2.2.1, s.2.2.2.2.2) ∧ ∃ hm km cl tu th om, MA h Z s.2.1 hm km cl tu th om ∧ EqI cuts w hm (s.1 8) ∧ EqI cuts w km (s.1 2) ∧ EqI cuts w tu (s.1 6) ∧ EqI cuts w cl (s.1 0) ∧ (∀ k, k < s.2.1 → om k = ledS (s.1 7 k))
def ZEq (Z Z' : MZ) : Prop := Z'.1 = Z.1 ∧ Z'.2.1 = Z.2.1 ∧ Z'.2.2.1 = Z.2.2.1 ∧ Z'.2.2.2.2 = Z.2.2.2.2
theorem ZEq_tr {X Y Z : MZ} (a : ZEq X Y) (b : ZEq Y Z) : ZEq X Z := ⟨b.1.trans a.1, b.2.1.trans a.2.1, b.2.2.1.trans a.2.2.1, b.2.2.2.trans a.2.2.2⟩
section M22
variable {h : tm_H} {b n : Nat} {cnt : Nat → Nat} {tab G : Nat → Nat → Int32} {nm : Nat → Int64} {w cuts : Nat} {Z : MZ} {lo hi' : Int32}
theorem MA_o {tn : Nat} {hm km cl tu th om : Nat → Int32} (H : MA h Z tn hm km cl tu th om) (Z' : MZ) (tn' : Nat) : MA (tm_up h 70 (moO Z' (nI tn'))) Z' tn' hm km cl tu th om :=
  ⟨tm_up_same, by rw [tm_up_ne (by decide)]; exact H.2.1, by rw [tm_up_ne (by decide)]; exact H.2.2.1, by rw [tm_up_ne (by decide)]; exact H.2.2.2.1, by rw [tm_up_ne (by decide)]; exact H.2.2.2.2.1, by rw [tm_up_ne (by decide)]; exact H.2.2.2.2.2.1, by rw [tm_up_ne (by decide)]; exact H.2.2.2.2.2.2⟩
theorem FrC_o {e : va_E} : FrC h (tm_up h 70 e) := fun k x _ => tm_up_ne x
theorem m_passes (F : BkF lo hi' cnt tab) (h5 : cnt 2 ≤ 5) (zb : Z.2.1.1 = .ref b) (hb : 83 < b) (M : MBk h b cnt tab n G nm) (hcc : cuts ≤ 8) (en : tab 0 0 = nI cuts) (ew : tab 0 1 = nI w) (hw : w ≤ 5) {fh : Int32} {s : BSt} (B : BOk cnt tab cuts w s) (H : MR h Z fh s cuts w) (hk : s.2.2.1 = -1) (ht : s.2.2.2.1 < 1000) :
    ∃ h' Z', tC mX11_passes [.ref 70] h = some (h', none) ∧ MR h' Z' fh (barStep cnt tab cuts w (sqS w w) (tab 1 0) s) cuts w ∧ ZEq Z Z' ∧ FrC h h' := by
  obtain ⟨A, tn, crk, te, lb, gb⟩ := s
  obtain ⟨z1, ⟨z2, z3⟩, z4, z5, z6⟩ := Z
  obtain ⟨ez, hm, km, cl, tu, th, om, HA, e8, e2, e6, e0, O⟩ := H
  obtain ⟨K, RA, SA, OA⟩ := B
  obtain rfl : z5 = (fh, nI te, crk, lb, gb) := ez
  dsimp only at K RA SA OA HA e8 e2 e6 e0 O
  obtain rfl : crk = -1 := hk
  obtain rfl : z2 = .ref b := zb
  have H1 := MA_o HA (z1, (.ref b, z3), z4, (fh, nI (te + 1), -1, lb, gb), z6) tn
  have M1 : MBk (tm_up h 70 (moO (z1, (.ref b, z3), z4, (fh, nI (te + 1), -1, lb, gb), z6) (nI tn))) b cnt tab n G nm := MBk_c (fun k x y => tm_up_ne (by omega)) M
  have F1 : FrC h (tm_up h 70 (moO (z1, (.ref b, z3), z4, (fh, nI (te + 1), -1, lb, gb), z6) (nI tn))) := FrC_o
  have te' : te + 1 < 2 ^ 31 := by have : te < 1000 := ht; omega
  generalize hh1 : tm_up h 70 (moO (z1, (.ref b, z3), z4, (fh, nI (te + 1), -1, lb, gb), z6) (nI tn)) = h1 at H1 M1 F1
  obtain ⟨h2, hm2, km2, tu2, om2, th2, P2, H2, q8, q2, q6, O2, F2⟩ := mcools_bar (water := tab 1 0) (sq := sqS w w) (crk := -1) F rfl hb hcc ew hw te' H1 M1 K e8 e2 e6 (fun i j x y => by rw [e0 i j x y]; exact OA i j x y) O
  have M2 : MBk h2 b cnt tab n G nm := MBk_c (fun k x y => F2 k (by omega) (by omega)) M1
  have ce := crk_eqM (te := te) (tn := tn) (water := tab 1 0) F h5 hw hcc RA q8 q2
  have R2 := RmA_once (sq := sqS w w) (tenth := te) (tn := tn) (crk := -1) (water := tab 1 0) (cuts := cuts) F h5 RA
  have S2 := onceS_sz (cnt := cnt) (tab := tab) (cuts := cuts) (sq := sqS w w) (water := tab 1 0) (tenth := te) (tn := tn) (crk := -1) hw (A := A)
  obtain ⟨s5, s4⟩ := sz_eqM hw hcc q8 q2 S2 R2
  have be := bendS_c s5
  have K2 := KN_once (sq := sqS w w) (water := tab 1 0) (tenth := te) (crk := -1) F h5 hw hcc K
  have c0 := once_0 (cnt := cnt) (tab := tab) (cuts := cuts) (w := w) (sq := sqS w w) (water := tab 1 0) (A := A) (tn := tn) (tenth := te) (crk := -1)
  have Q2 : ∀ i j, i < cuts → j < w → ∃ k, k < cnt 2 ∧ km2 (i * 5 + j) = nI k := fun i j x y => by
    rw [q2 i j x y]; exact K2.1 (i * 5 + j) (by omega)
  unfold barStep
  dsimp only
  generalize onceS cnt tab cuts w (sqS w w) (tab 1 0) te A tn (-1) = t at H2 q8 q2 q6 O2 ce s5 be c0 K2
  obtain ⟨A2, tn2, crk2, st2⟩ := t
  have W2 := MW_of H2.1 rfl M2 hb
  have Pb := mbend W2 H2.2.1 H2.2.2.1 hcc Q2 en ew hw
  rw [be] at Pb
  dsimp only at Pb ce c0 q8 q2 q6 O2 H2 ⊢
  generalize bendS (A2 5) w cuts = e at Pb
  have L : ∃ lb', lb' = (if e < lb then e else lb) := ⟨_, rfl⟩
  obtain ⟨lb', el⟩ := L
  have L : ∃ gb', gb' = (if gb < e then e else gb) := ⟨_, rfl⟩
  obtain ⟨gb', eg⟩ := L
  rw [← el, ← eg]
  have H3 := MA_o H2 (z1, (.ref b, z3), z4, (fh, nI (te + 1), -1, lb', gb'), z6) tn2
  have M3 : MBk (tm_up h2 70 (moO (z1, (.ref b, z3), z4, (fh, nI (te + 1), -1, lb', gb'), z6) (nI tn2))) b cnt tab n G nm := MBk_c (fun k x y => tm_up_ne (by omega)) M2
  have W3 := MW_of H3.1 rfl M3 hb
  have Pc := mcrk W3 H3.2.1 H3.2.2.1 (by decide) (by decide) hcc (fun i j x y => by omega) Q2 ew hw
  rw [ce] at Pc
  have H4 := MA_o H2 (z1, (.ref b, z3), z4, (fh, nI (te + 1), crk2, lb', gb'), z6) tn2
  refine ⟨tm_up h2 70 (moO (z1, (.ref b, z3), z4, (fh, nI (te + 1), crk2, lb', gb'), z6) (nI tn2)), (z1, (.ref b, z3), z4, (fh, nI (te + 1), crk2, lb', gb'), z6), ?_, ⟨rfl, hm2, km2, cl, tu2, th2, om2, H4, q8, q2, q6, fun i j x y => by show cl (i * 5 + j) = A2 0 (i * 5 + j); rw [c0]; exact e0 i j x y, O2⟩, ⟨rfl, rfl, rfl, rfl⟩, FrC_tr F1 (FrC_tr F2 FrC_o)⟩
  have o : h 70 = moO (z1, (.ref b, z3), z4, (fh, nI te, -1, lb, gb), z6) (nI tn) := HA.1
  have o1 : h1 70 = moO (z1, (.ref b, z3), z4, (fh, nI (te + 1), -1, lb, gb), z6) (nI tn) := H1.1
  have o2 : h2 70 = moO (z1, (.ref b, z3), z4, (fh, nI (te + 1), -1, lb, gb), z6) (nI tn2) := H2.1
  have b1 := M1.1
  have b3 := M3.1
  have E1 : tC mX11_passes [.ref 70] h = tE mX11_passes 48 [.ref 70, tm_U] [.int e] h2 := by
    simp only [cX11_passes_, bX11_passes_0, bX11_passes_5, bX11_passes_10, bX11_passes_15, bX11_passes_19, bX11_passes_23, bX11_passes_27, bX11_passes_30, bX11_passes_34, bX11_passes_37, bX11_passes_41, bX11_passes_44, tk1_some, tk0_some, tkc_some, tkc_none, ↓reduceIte, o, gf_11_22, tm_pf_eq, ps_11_22, Option.map_some, nI_k1, hh1, o1, gf_11_16, gf_11_17, gf_11_18, gf_11_3, b1, gf_10_0, gf_10_2, en, tm_isO, P2, o2, Pb]
  have E2 : tE mX11_passes 48 [.ref 70, tm_U] [.int e] h2 = tE mX11_passes 69 [.ref 70, .int e] [] (tm_up h2 70 (moO (z1, (.ref b, z3), z4, (fh, nI (te + 1), -1, lb', gb), z6) (nI tn2))) := by
    by_cases d : e < lb
    · rw [if_pos d] at el
      have d' : ¬ lb ≤ e := Int32.not_le.mpr d
      simp only [bX11_passes_48, bX11_passes_55, bX11_passes_58, bX11_passes_66, tk1_some, tk0_some, tkc_some, tkc_none, ↓reduceIte, o2, gf_11_25, d', if_false, tm_pf_eq, ps_11_25, Option.map_some, el]
    · rw [if_neg d] at el
      have d' : lb ≤ e := Int32.not_lt.mp d
      simp only [bX11_passes_48, bX11_passes_55, bX11_passes_62, bX11_passes_66, tk1_some, tk0_some, tkc_some, tkc_none, ↓reduceIte, o2, gf_11_25, d', if_true, tm_pf_eq, ps_11_25, Option.map_some, el]
  have E3 : tE mX11_passes 69 [.ref 70, .int e] [] (tm_up h2 70 (moO (z1, (.ref b, z3), z4, (fh, nI (te + 1), -1, lb', gb), z6) (nI tn2))) = tE mX11_passes 89 [.ref 70, .int e] [] (tm_up h2 70 (moO (z1, (.ref b, z3), z4, (fh, nI (te + 1), -1, lb', gb'), z6) (nI tn2))) := by
    by_cases d : gb < e
    · rw [if_pos d] at eg
      have d' : ¬ e ≤ gb := Int32.not_le.mpr d
      simp only [bX11_passes_69, bX11_passes_75, bX11_passes_78, bX11_passes_86, tk1_some, tk0_some, tkc_some, tkc_none, ↓reduceIte, tm_up_same, gf_11_26, d', if_false, tm_pf_eq, ps_11_26, Option.map_some, tm_up_up, eg]
    · rw [if_neg d] at eg
      have d' : e ≤ gb := Int32.not_lt.mp d
      simp only [bX11_passes_69, bX11_passes_75, bX11_passes_82, bX11_passes_86, tk1_some, tk0_some, tkc_some, tkc_none, ↓reduceIte, tm_up_same, gf_11_26, d', if_true, tm_pf_eq, ps_11_26, Option.map_some, tm_up_up, eg]
  rw [E1, E2, E3]
  simp only [bX11_passes_89, bX11_passes_95, bX11_passes_99, bX11_passes_103, bX11_passes_106, bX11_passes_109, bX11_passes_112, tk1_some, tk0_some, tkc_some, tkc_none, ↓reduceIte, tm_up_same, gf_11_16, gf_11_17, gf_11_3, b3, gf_10_0, en, tm_isO, Pc, tm_pf_eq, ps_11_23, Option.map_some, tm_up_up]
end M22
