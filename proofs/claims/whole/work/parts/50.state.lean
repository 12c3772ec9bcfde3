/-! WHAT THE HOUSE IS: the state that class and reference share, and the class's world of it -/
abbrev SS : Type := ((Nat → Int32) × Nat) × (Int32 × Int32 × Nat) × (Bool × (Nat → Nat) × (Nat → Nat → Int32)) × (Int32 × BSt) × ((Nat → Int32) × Int32) × ((Nat → Int32) × (Nat → Int32) × Nat)
abbrev sTp (S : SS) : Nat → Int32 := S.1.1
abbrev sN (S : SS) : Nat := S.1.2
abbrev sF (S : SS) : Int32 := S.2.1.1
abbrev sT (S : SS) : Int32 := S.2.1.2.1
abbrev sW (S : SS) : Nat := S.2.1.2.2
abbrev sBo (S : SS) : Bool := S.2.2.1.1
abbrev sC (S : SS) : Nat → Nat := S.2.2.1.2.1
abbrev sB (S : SS) : Nat → Nat → Int32 := S.2.2.1.2.2
abbrev sH (S : SS) : Int32 := S.2.2.2.1.1
abbrev sR (S : SS) : BSt := S.2.2.2.1.2
abbrev sD (S : SS) : Nat → Int32 := S.2.2.2.2.1.1
abbrev sCa (S : SS) : Int32 := S.2.2.2.2.1.2
abbrev sMk (S : SS) : Nat → Int32 := S.2.2.2.2.2.1
abbrev sHw (S : SS) : Nat → Int32 := S.2.2.2.2.2.2.1
abbrev sBl (S : SS) : Nat := S.2.2.2.2.2.2.2
def cutS (S : SS) : Nat := if sBo S = true then iN (sB S 0 0) else 0
def widS (S : SS) : Nat := if sBo S = true then iN (sB S 0 1) else 0
abbrev sqW (S : SS) : Int32 := sqS (widS S) (widS S)
def sTr (S : SS) (t : Int32) : SS := (S.1, (sF S, t, sW S), S.2.2)
abbrev xO (told spare : Nat) (b : Bool) (n : Nat) (f t : Int32) : va_E := .inr (9, [.ref 2, .ref 3, .ref 6, .ref told, .ref spare, .ref 40, .ref 45, .ref 57, .int (bI b), .int (nI n), .int f, .int t])
def XRd (h : tm_H) (t : Int32) (W : Nat) : Prop := ∃ b0 nc lw f a0 n0 s e so nm kn, h 40 = rdO b0 nc lw f ∧ h 41 = tkO a0 n0 s e so ∧ h 43 = aJ 22 nm ∧ h 44 = aI 22 kn ∧ (t = 4 → s = W)
def XBks (h : tm_H) (told spare : Nat) (bo : Bool) (cnt : Nat → Nat) (tab : Nat → Nat → Int32) : Prop :=
  (∃ lo hi, BkAt h told lo hi cnt tab ∧ (bo = true → BkF lo hi cnt tab)) ∧ ∃ lo hi c t, BkAt h spare lo hi c t
def XBar (h : tm_H) (told : Nat) (bo : Bool) (cuts w : Nat) (tab : Nat → Nat → Int32) (fh : Int32) (s : BSt) : Prop :=
  ∃ bx wa, BAt h 45 fh s bx cuts w (sqS w w) wa ∧ (bo = true → bx = told ∧ wa = tab 1 0)
def XTri (h : tm_H) (told : Nat) (bo : Bool) (w : Nat) : Prop :=
  ∃ cf, (bo = true → ∃ D, TrAt h 57 cf told w (sqS w w) D) ∧ ∃ b1 b2 A p q cuts w0 sq wa te tn crk, h 57 = tO 57 b1 ∧ h 58 = aI 5 cf ∧ CAt h 59 A p q b2 cuts w0 sq wa te tn crk
def XBil (h : tm_H) (d : Nat → Int32) (c : Int32) : Prop := h 3 = biO 4 5 c ∧ h 4 = aI 8 d ∧ ∃ t, h 5 = aI 8 t
def XBla (h : tm_H) (mk hw : Nat → Int32) (n : Nat) : Prop := h 6 = blO 7 8 9 n ∧ h 7 = aI 60 mk ∧ h 8 = aI 20 hw ∧ ∃ g, h 9 = aI 6 g
def XInv (h : tm_H) (S : SS) : Prop := ∃ told spare, ((told = 10 ∧ spare = 25) ∨ (told = 25 ∧ spare = 10)) ∧ h 1 = xO told spare (sBo S) (sN S) (sF S) (sT S) ∧ h 2 = aB 700 (sTp S) ∧ XRd h (sT S) (sW S) ∧ XBks h told spare (sBo S) (sC S) (sB S) ∧ XBar h told (sBo S) (cutS S) (widS S) (sB S) (sH S) (sR S) ∧ XTri h told (sBo S) (widS S) ∧ XBil h (sD S) (sCa S) ∧ XBla h (sMk S) (sHw S) (sBl S)
def FrX (h h' : tm_H) : Prop := ∀ k, (k = 0 ∨ 69 < k) → h' k = h k
theorem FrX_rf (h : tm_H) : FrX h h := fun _ _ => rfl
theorem FrX_tr {h h1 h2 : tm_H} (a : FrX h h1) (b : FrX h1 h2) : FrX h h2 := fun k hk => (b k hk).trans (a k hk)
theorem FrX_up {a : Nat} {h : tm_H} {e : va_E} (h1 : 1 ≤ a) (h2 : a ≤ 69) : FrX h (tm_up h a e) := fun k hk => tm_up_ne (by omega)
theorem XRd_c {h h' : tm_H} {t : Int32} {W : Nat} (E : ∀ k, (k = 40 ∨ k = 41 ∨ k = 43 ∨ k = 44) → h' k = h k) (X : XRd h t W) : XRd h' t W := by
  obtain ⟨b0, nc, lw, f, a0, n0, s, e, so, nm, kn, a, b, c, d, g⟩ := X
  exact ⟨b0, nc, lw, f, a0, n0, s, e, so, nm, kn, by rw [E 40 (by omega)]; exact a, by rw [E 41 (by omega)]; exact b, by rw [E 43 (by omega)]; exact c, by rw [E 44 (by omega)]; exact d, g⟩
theorem XRd_t {h : tm_H} {t t' : Int32} {W : Nat} (X : XRd h t W) (ht : t' ≠ 4) : XRd h t' W := by
  obtain ⟨b0, nc, lw, f, a0, n0, s, e, so, nm, kn, a, b, c, d, g⟩ := X
  exact ⟨b0, nc, lw, f, a0, n0, s, e, so, nm, kn, a, b, c, d, fun y => absurd y ht⟩
theorem BkAt_c {h h' : tm_H} {b : Nat} {lo hi : Int32} {cnt : Nat → Nat} {tab : Nat → Nat → Int32} (E : ∀ k, b ≤ k → k ≤ b + 14 → h' k = h k) (H : BkAt h b lo hi cnt tab) : BkAt h' b lo hi cnt tab :=
  ⟨by rw [E b (by omega) (by omega)]; exact H.1, fun l hl => ⟨by rw [E _ (by omega) (by omega)]; exact (H.2.1 l hl).1, by rw [E _ (by omega) (by omega)]; exact (H.2.1 l hl).2⟩, H.2.2⟩
theorem XBks_c {h h' : tm_H} {told spare : Nat} {bo : Bool} {cnt : Nat → Nat} {tab : Nat → Nat → Int32} (ts : (told = 10 ∧ spare = 25) ∨ (told = 25 ∧ spare = 10)) (E : ∀ k, 10 ≤ k → k ≤ 39 → h' k = h k) (X : XBks h told spare bo cnt tab) : XBks h' told spare bo cnt tab := by
  obtain ⟨⟨lo, hi, a, b⟩, lo', hi', c, t, d⟩ := X
  exact ⟨⟨lo, hi, BkAt_c (fun k h1 h2 => E k (by omega) (by omega)) a, b⟩, lo', hi', c, t, BkAt_c (fun k h1 h2 => E k (by omega) (by omega)) d⟩
theorem CAt_cg {h h' : tm_H} {c : Nat} {A : Nat → Nat → Int32} {p q bk cuts w : Nat} {sq water : Int32} {tenth turned : Nat} {crk : Int32} (E : ∀ k, c ≤ k → k ≤ c + 10 → h' k = h k) (H : CAt h c A p q bk cuts w sq water tenth turned crk) : CAt h' c A p q bk cuts w sq water tenth turned crk := by
  obtain ⟨h1, h2, h3, h4, h5, h6⟩ := H
  exact ⟨by rw [E c (by omega) (by omega)]; exact h1, fun k hk => by rw [E _ (by omega) (by omega)]; exact h2 k hk, by rw [E p (by omega) (by omega)]; exact h3, by rw [E q (by omega) (by omega)]; exact h4, h5, h6⟩
theorem XBar_c {h h' : tm_H} {told : Nat} {bo : Bool} {cuts w : Nat} {tab : Nat → Nat → Int32} {fh : Int32} {s : BSt} (E : ∀ k, 45 ≤ k → k ≤ 56 → h' k = h k) (X : XBar h told bo cuts w tab fh s) : XBar h' told bo cuts w tab fh s := by
  obtain ⟨bx, wa, ⟨a, ⟨p, q, b⟩, c⟩, d⟩ := X
  exact ⟨bx, wa, ⟨by rw [E 45 (by omega) (by omega)]; exact a, ⟨p, q, CAt_cg (fun k h1 h2 => E k (by omega) (by omega)) b⟩, c⟩, d⟩
theorem XTri_c {h h' : tm_H} {told : Nat} {bo : Bool} {w : Nat} (E : ∀ k, ((57 ≤ k ∧ k ≤ 69) ∨ k = 58) → h' k = h k) (X : XTri h told bo w) : XTri h' told bo w := by
  obtain ⟨cf, a, b1, b2, A, p, q, cuts, w0, sq, wa, te, tn, crk, b, c, d⟩ := X
  refine ⟨cf, fun z => ?_, b1, b2, A, p, q, cuts, w0, sq, wa, te, tn, crk, by rw [E 57 (by omega)]; exact b, by rw [E 58 (by omega)]; exact c, CAt_cg (fun k h1 h2 => E k (by omega)) d⟩
  obtain ⟨D, x0, x1, x2, A', p', q', wa', te', tn', crk', y, z'⟩ := a z
  exact ⟨D, by rw [E 57 (by omega)]; exact x0, by rw [E 58 (by omega)]; exact x1, x2, A', p', q', wa', te', tn', crk', CAt_cg (fun k h1 h2 => E k (by omega)) y, z'⟩
theorem XBil_c {h h' : tm_H} {d : Nat → Int32} {c : Int32} (E : ∀ k, 3 ≤ k → k ≤ 5 → h' k = h k) (X : XBil h d c) : XBil h' d c := by
  obtain ⟨a, b, t, e⟩ := X
  exact ⟨by rw [E 3 (by omega) (by omega)]; exact a, by rw [E 4 (by omega) (by omega)]; exact b, t, by rw [E 5 (by omega) (by omega)]; exact e⟩
theorem XBla_c {h h' : tm_H} {mk hw : Nat → Int32} {n : Nat} (E : ∀ k, 6 ≤ k → k ≤ 9 → h' k = h k) (X : XBla h mk hw n) : XBla h' mk hw n := by
  obtain ⟨a, b, c, g, e⟩ := X
  exact ⟨by rw [E 6 (by omega) (by omega)]; exact a, by rw [E 7 (by omega) (by omega)]; exact b, by rw [E 8 (by omega) (by omega)]; exact c, g, by rw [E 9 (by omega) (by omega)]; exact e⟩
/-- what is told of a book that can be worked by -/
def BkOk (cnt : Nat → Nat) (tab : Nat → Nat → Int32) : Prop :=
  1 ≤ iN (tab 0 0) ∧ iN (tab 0 0) ≤ 8 ∧ 2 ≤ iN (tab 0 1) ∧ iN (tab 0 1) ≤ 5 ∧ tab 0 0 = nI (iN (tab 0 0)) ∧ tab 0 1 = nI (iN (tab 0 1))
/-- what the class needs -/
def PX (S : SS) : Prop :=
  sN S ≤ 700 ∧ sBl S ≤ 20 ∧ (sR S).2.2.2.1 ≤ 400 ∧ (sBo S = true → BkOk (sC S) (sB S)) ∧
  (sBo S = false → (∀ l, l < 7 → sC S l = 0) ∧ (sR S).2.1 = 0 ∧ (sR S).2.2.1 = -1 ∧ (sR S).2.2.2.1 = 0 ∧ sBl S = 0) ∧
  (sBo S = true → KN (sC S 2) (sR S).1 (sR S).2.1)
section PX
variable {h : tm_H} {S : SS}
theorem px_c (P : PX S) : cutS S ≤ 8 := by
  unfold cutS; split
  · rename_i b; exact (P.2.2.2.1 b).2.1
  · exact Nat.zero_le _
theorem px_w (P : PX S) : widS S ≤ 5 := by
  unfold widS; split
  · rename_i b; exact (P.2.2.2.1 b).2.2.2.1
  · exact Nat.zero_le _
/-- the trouble is told -/
theorem x_tr (X : XInv h S) {t : Int32} (ht : t ≠ 4) : ∃ h', (∀ told spare, h 1 = xO told spare (sBo S) (sN S) (sF S) (sT S) → h' = tm_up h 1 (xO told spare (sBo S) (sN S) (sF S) t)) ∧ XInv h' (sTr S t) ∧ FrX h h' := by
  obtain ⟨told, spare, ts, O, T2, R, K, Ba, Tr, Bi, Bl⟩ := X
  refine ⟨tm_up h 1 (xO told spare (sBo S) (sN S) (sF S) t), fun told' spare' O' => ?_, ⟨told, spare, ts, tm_up_same, by rw [tm_up_ne (by decide)]; exact T2, XRd_t (XRd_c (fun k hk => tm_up_ne (by omega)) R) ht, XBks_c ts (fun k h1 h2 => tm_up_ne (by omega)) K, XBar_c (fun k h1 h2 => tm_up_ne (by omega)) Ba, XTri_c (fun k hk => tm_up_ne (by omega)) Tr, XBil_c (fun k h1 h2 => tm_up_ne (by omega)) Bi, XBla_c (fun k h1 h2 => tm_up_ne (by omega)) Bl⟩, FrX_up (by decide) (by decide)⟩
  rw [O] at O'
  injection O' with O'
  injection O' with _ O'
  injection O' with _ O'; injection O' with _ O'; injection O' with _ O'
  injection O' with a O'
  injection O' with b O'
  injection a with a
  injection b with b
  rw [a, b]
end PX
