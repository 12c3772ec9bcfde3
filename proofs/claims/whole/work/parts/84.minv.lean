/-! THE REFERENCE: its world of the shared state -/
/-- the bar and the book, where there is a book -/
def MBB (h : tm_H) (Z : MZ) (m : Nat) (S : SS) : Prop :=
  (sBo S = true → ∃ (b nn : Nat) (G : Nat → Nat → Int32) (nm : Nat → Int64), Z.2.1.1 = .ref b ∧ 83 < b ∧ b + 13 ≤ m ∧ MBk h b (sC S) (sB S) nn G nm ∧ MR h Z (sH S) (sR S) (cutS S) (widS S)) ∧ (sBo S = false → Z.2.1.1 = .null)
/-- layers; blades -/
def MLy (h : tm_H) (d : Nat → Int32) (c : Int32) : Prop := ∃ f, h 81 = aI 9 f ∧ (∀ k, k < 8 → f k = d k) ∧ f 8 = c
def MBl (h : tm_H) (mk hw : Nat → Int32) (n : Nat) : Prop := ∃ f, h 83 = aI 80 f ∧ ∀ k, k < n → f (4 * k) = mk (k * 3) ∧ f (4 * k + 1) = mk (k * 3 + 1) ∧ f (4 * k + 2) = mk (k * 3 + 2) ∧ f (4 * k + 3) = hw k
def MTop (Z : MZ) (S : SS) : Prop := Z.1.2 = (sT S, sWhere S) ∧ Z.2.2.1.1.1 = nI (sN S) ∧ Z.2.2.1.2.2.2.1 = sF S ∧ Z.2.2.2.2 = nI (sBl S)
def MInv (h : tm_H) (S : SS) : Prop :=
  ∃ Z m c s, h 0 = tm_bk m c s ∧ 83 ≤ m ∧ MTop Z S ∧ (∃ tn hm km cl tu th om, MA h Z tn hm km cl tu th om) ∧ h 71 = aB 700 (sTp S) ∧ MBB h Z m S ∧ (∃ f, h 78 = aI 5 f) ∧ (∃ f, h 79 = aI 5 f) ∧ (∃ f, h 80 = aI 5 f) ∧ MLy h (sD S) (sCa S) ∧ (∃ f, h 82 = aI 9 f) ∧ MBl h (sMk S) (sHw S) (sBl S)
/-- the class's cells, and the heap's book, stay -/
def FrM (h h' : tm_H) : Prop := ∀ k, k < 70 → h' k = h k
theorem FrM_rf (h : tm_H) : FrM h h := fun _ _ => rfl
theorem FrM_tr {h h1 h2 : tm_H} (a : FrM h h1) (b : FrM h1 h2) : FrM h h2 := fun k hk => (b k hk).trans (a k hk)
theorem FrM_up {h : tm_H} {a : Nat} {e : va_E} (x : 70 ≤ a) : FrM h (tm_up h a e) := fun k hk => tm_up_ne (by omega)
section M25
variable {h : tm_H} {S : SS}
theorem MR_z {Z : MZ} {fh : Int32} {s : BSt} {cuts w : Nat} (H : MR h Z fh s cuts w) {Z' : MZ} (e : Z'.2.2.2.1 = Z.2.2.2.1) : MR (tm_up h 70 (moO Z' (nI s.2.1))) Z' fh s cuts w := by
  obtain ⟨ez, hm, km, cl, tu, th, om, HA, r⟩ := H
  exact ⟨e.trans ez, hm, km, cl, tu, th, om, MA_o HA Z' _, r⟩
/-- the object's own numbers are changed; bar, book and the rest stay -/
theorem MI_o {Z : MZ} {m c s : Nat} (h0 : h 0 = tm_bk m c s) (hm : 83 ≤ m) (A : ∃ tn hm km cl tu th om, MA h Z tn hm km cl tu th om) (tp : h 71 = aB 700 (sTp S)) (B : MBB h Z m S) (t1 : ∃ f, h 78 = aI 5 f) (t2 : ∃ f, h 79 = aI 5 f) (t3 : ∃ f, h 80 = aI 5 f) (ly : MLy h (sD S) (sCa S)) (t4 : ∃ f, h 82 = aI 9 f) (bl : MBl h (sMk S) (sHw S) (sBl S)) {Z' : MZ} {S' : SS} (e1 : Z'.2.1.1 = Z.2.1.1) (e2 : Z'.2.2.2.1 = Z.2.2.2.1) (T : MTop Z' S') (s1 : sTp S' = sTp S) (s2 : S'.2.2 = S.2.2) {tn : Nat} (htn : tm_gf (h 70) 11 24 = some (.int (nI tn))) : MInv (tm_up h 70 (moO Z' (nI tn))) S' := by
  have nx : ∀ k e, k ≠ 70 → tm_up h 70 e k = h k := fun k e x => tm_up_ne x
  obtain ⟨tn0, hm0, km0, cl0, tu0, th0, om0, HA⟩ := A
  have q2 : sBo S' = sBo S := by show S'.2.2.1.1 = S.2.2.1.1; rw [s2]
  refine ⟨Z', m, c, s, by rw [nx 0 _ (by decide)]; exact h0, hm, T, ⟨tn, hm0, km0, cl0, tu0, th0, om0, MA_o HA Z' tn⟩, by rw [nx 71 _ (by decide), s1]; exact tp, ⟨fun bo => ?_, fun bo => ?_⟩, by rw [nx 78 _ (by decide)]; exact t1, by rw [nx 79 _ (by decide)]; exact t2, by rw [nx 80 _ (by decide)]; exact t3, ?_, by rw [nx 82 _ (by decide)]; exact t4, ?_⟩
  · rw [q2] at bo
    obtain ⟨b, nn, G, nm, z1, z2, z3, M, R⟩ := B.1 bo
    have et : nI tn = nI (sR S).2.1 := by
      obtain ⟨_, _, _, _, _, _, _, HR, _⟩ := R
      rw [HR.1, gf_11_24] at htn
      injection htn with htn
      injection htn with htn
      exact htn.symm
    refine ⟨b, nn, G, nm, e1.trans z1, z2, z3, ?_, ?_⟩
    · rw [show sC S' = sC S by show S'.2.2.1.2.1 = S.2.2.1.2.1; rw [s2], show sB S' = sB S by show S'.2.2.1.2.2 = S.2.2.1.2.2; rw [s2]]
      exact MBk_c (fun k x y => nx k _ (by omega)) M
    · rw [show sH S' = sH S by show S'.2.2.2.1.1 = S.2.2.2.1.1; rw [s2], show sR S' = sR S by show S'.2.2.2.1.2 = S.2.2.2.1.2; rw [s2], show cutS S' = cutS S by unfold cutS sBo sB; rw [s2], show widS S' = widS S by unfold widS sBo sB; rw [s2], et]
      exact MR_z R e2
  · rw [q2] at bo
    exact e1.trans (B.2 bo)
  · obtain ⟨f, f1, f2⟩ := ly
    refine ⟨f, by rw [nx 81 _ (by decide)]; exact f1, ?_⟩
    rw [show sD S' = sD S by show S'.2.2.2.2.1.1 = S.2.2.2.2.1.1; rw [s2], show sCa S' = sCa S by show S'.2.2.2.2.1.2 = S.2.2.2.2.1.2; rw [s2]]
    exact f2
  · obtain ⟨f, f1, f2⟩ := bl
    refine ⟨f, by rw [nx 83 _ (by decide)]; exact f1, ?_⟩
    rw [show sMk S' = sMk S by show S'.2.2.2.2.2.1 = S.2.2.2.2.2.1; rw [s2], show sHw S' = sHw S by show S'.2.2.2.2.2.2.1 = S.2.2.2.2.2.2.1; rw [s2], show sBl S' = sBl S by show S'.2.2.2.2.2.2.2 = S.2.2.2.2.2.2.2; rw [s2]]
    exact f2
theorem MI_get (X : MInv h S) : ∃ Z tn, h 70 = moO Z (nI tn) ∧ MTop Z S ∧ (∀ Z' S', Z'.2.1.1 = Z.2.1.1 → Z'.2.2.2.1 = Z.2.2.2.1 → MTop Z' S' → sTp S' = sTp S → S'.2.2 = S.2.2 → MInv (tm_up h 70 (moO Z' (nI tn))) S') := by
  obtain ⟨Z, m, c, s, h0, hm, T, A, tp, B, t1, t2, t3, ly, t4, bl⟩ := X
  have A0 := A
  obtain ⟨tn, hm0, km, cl, tu, th, om, HA⟩ := A
  exact ⟨Z, tn, HA.1, T, fun Z' S' e1 e2 T' s1 s2 => MI_o h0 hm A0 tp B t1 t2 t3 ly t4 bl e1 e2 T' s1 s2 (by rw [HA.1, gf_11_24])⟩
theorem where_ne {t : Int32} (ht : t ≠ 4) : sWhere (sTr S t) = -1 := by unfold sWhere; exact if_neg ht
/-- the trouble is noted -/
theorem m_note (X : MInv h S) {t : Int32} (ht : t ≠ 4) : ∃ h', MInv h' (sTr S t) ∧ FrM h h' ∧ tm_isObj (h 70) 11 = true ∧ tC mX11_refused [.ref 70, .int t] h = some (h', some (.int (-1))) ∧ tC mX11_denied [.ref 70, .int t] h = some (h', some (.int 0)) ∧ tC mX11_lost [.ref 70, .int t] h = some (h', some (.long (-9223372036854775808))) ∧ tC mX11_gone [.ref 70, .int t] h = some (h', some (.int (-2147483648))) ∧ (t = 0 → ∀ v : Int32, tC mX11_done [.ref 70, .int v] h = some (h', some (.int v)) ∧ tC mX11_granted [.ref 70] h = some (h', some (.int 1))) := by
  obtain ⟨Z, tn, o, T, put⟩ := MI_get X
  obtain ⟨⟨z1, z2, z3⟩, z4⟩ := Z
  refine ⟨_, put ((z1, t, -1), z4) (sTr S t) rfl rfl ⟨by show (t, (-1 : Int32)) = (t, sWhere (sTr S t)); rw [where_ne ht], T.2.1, T.2.2.1, T.2.2.2⟩ rfl rfl, FrM_up (by decide), by rw [o]; exact tm_isO, ?_, ?_, ?_, ?_, fun h0 v => ⟨?_, ?_⟩⟩
  · simp only [cX11_refused_, bX11_refused_0, bX11_refused_5, bX11_refused_10, tk1_some, tk0_some, tkc_some, tkc_none, ↓reduceIte, o, tm_pf_eq, ps_11_1, ps_11_2, Option.map_some, tm_up_same, tm_up_up]
  · simp only [cX11_denied_, bX11_denied_0, bX11_denied_5, bX11_denied_10, tk1_some, tk0_some, tkc_some, tkc_none, ↓reduceIte, o, tm_pf_eq, ps_11_1, ps_11_2, Option.map_some, tm_up_same, tm_up_up, tm_rb0]
  · simp only [cX11_lost_, bX11_lost_0, bX11_lost_5, bX11_lost_10, tk1_some, tk0_some, tkc_some, tkc_none, ↓reduceIte, o, tm_pf_eq, ps_11_1, ps_11_2, Option.map_some, tm_up_same, tm_up_up]
  · simp only [cX11_gone_, bX11_gone_0, bX11_gone_5, bX11_gone_10, tk1_some, tk0_some, tkc_some, tkc_none, ↓reduceIte, o, tm_pf_eq, ps_11_1, ps_11_2, Option.map_some, tm_up_same, tm_up_up]
  · subst h0
    simp only [cX11_done_, bX11_done_0, bX11_done_5, bX11_done_10, tk1_some, tk0_some, tkc_some, tkc_none, ↓reduceIte, o, tm_pf_eq, ps_11_1, ps_11_2, Option.map_some, tm_up_same, tm_up_up]
  · subst h0
    simp only [cX11_granted_, bX11_granted_0, bX11_granted_5, bX11_granted_10, tk1_some, tk0_some, tkc_some, tkc_none, ↓reduceIte, o, tm_pf_eq, ps_11_1, ps_11_2, Option.map_some, tm_up_same, tm_up_up, tm_rb1]
/-- every call sets thrown first -/
theorem m_thr (X : MInv h S) {v : Int32} : ∃ h', tm_pf h 70 11 0 (.int v) = some h' ∧ MInv h' S ∧ FrM h h' ∧ tm_gf (h' 70) 11 0 = some (.int v) ∧ tm_isObj (h' 70) 11 = true := by
  obtain ⟨Z, tn, o, T, put⟩ := MI_get X
  obtain ⟨⟨z1, z2, z3⟩, z4⟩ := Z
  refine ⟨_, ?_, put ((v, z2, z3), z4) S rfl rfl T rfl rfl, FrM_up (by decide), by rw [tm_up_same, gf_11_0], by rw [tm_up_same]; exact tm_isO⟩
  rw [tm_pf_eq, o, ps_11_0]; rfl
theorem m_bk (X : MInv h S) : (sBo S = true → ∃ b : Nat, tm_gf (h 70) 11 3 = some (.ref b)) ∧ (sBo S = false → tm_gf (h 70) 11 3 = some .null) := by
  obtain ⟨Z, m, c, s, h0, hm, T, A, tp, B, r⟩ := X
  obtain ⟨tn, hm0, km, cl, tu, th, om, HA⟩ := A
  refine ⟨fun bo => ?_, fun bo => ?_⟩
  · obtain ⟨b, nn, G, nm, z1, _⟩ := B.1 bo
    exact ⟨b, by rw [HA.1, gf_11_3, z1]⟩
  · rw [HA.1, gf_11_3, B.2 bo]
end M25
