/-! A TEXT that was read to its end without a fault tells a book that can be worked by -/
theorem rAnd_t {p : Bool × RSt} {g : RSt → Bool × RSt} (h : (rAnd p g).1 = true) : p.1 = true ∧ rAnd p g = g p.2 := by
  obtain ⟨b, z⟩ := p
  cases b with
  | true => exact ⟨rfl, rfl⟩
  | false => cases h
section OK
variable {tp : Nat → Int32} {n : Nat} {z : RSt}
theorem whole_ok {lo hi : Int32} (h : (rWhole tp lo hi z).1 = true) : ∃ v, (rWhole tp lo hi z).2 = rL z v ∧ inB v lo hi = true := by
  unfold rWhole at h ⊢
  split at h
  · rename_i c
    rw [if_pos c]
    split at h
    · rename_i d; rw [if_pos d]; exact ⟨_, rfl, d⟩
    · cases h
  · cases h
theorem wk_ok {lo hi : Int32} {l c : Nat} (h : (rWK tp lo hi l c z).1 = true) : ∃ v, (rWK tp lo hi l c z).2 = rPut l c v (rL z v) ∧ inB v lo hi = true := by
  unfold rWK at h ⊢
  split at h
  · rename_i d
    rw [if_pos d]
    obtain ⟨v, e, i⟩ := whole_ok d
    rw [e]
    exact ⟨v, rfl, i⟩
  · cases h
theorem tells_ok {k l c : Nat} {lo hi : Int32} (h : (rTells tp n k lo hi l c z).1 = true) : ∃ T v, (rTells tp n k lo hi l c z).2 = rPut l c v (T, v, z.2.2) ∧ inB v lo hi = true := by
  unfold rTells at h ⊢
  split at h
  · rename_i d
    rw [if_pos d]
    obtain ⟨v, e, i⟩ := wk_ok h
    exact ⟨_, v, e, i⟩
  · cases h
theorem tellsW_ok {l c : Nat} {lo hi : Int32} (h : (rTellsW tp n lo hi l c z).1 = true) : ∃ T v, (rTellsW tp n lo hi l c z).2 = rPut l c v (T, v, z.2.2) ∧ inB v lo hi = true := by
  unfold rTellsW at h ⊢
  obtain ⟨v, e, i⟩ := wk_ok h
  exact ⟨_, v, e, i⟩
theorem word_ok {k : Nat} (h : (rWord tp n k z).1 = true) : ∃ T, (rWord tp n k z).2 = rT z T := by
  unfold rWord at h ⊢
  split at h
  · rename_i d; rw [if_pos d]; exact ⟨_, rfl⟩
  · cases h
theorem name_ok {kd : Int32} (h : (rName tp n kd z).1 = true) : ∃ T m, (rName tp n kd z).2 = rN (rT z T) (zN z + 1) m (upd (zK z) (zN z) kd) := by
  unfold rName at h ⊢
  split at h
  · rename_i d
    rw [if_pos d]
    split at h
    · rename_i e
      rw [if_pos e]
      split at h
      · rename_i f; rw [if_pos f]; exact ⟨_, _, rfl⟩
      · cases h
    · cases h
  · cases h
theorem to_ok {l : Nat} (h : (rTo tp n l z).1 = true) : ∃ T d, (rTo tp n l z).2 = rPut l 0 d (rT z T) ∧ 0 < d ∧ ∃ j, j < zN z ∧ d = zK z j := by
  unfold rTo at h ⊢
  split at h
  · rename_i e
    rw [if_pos e]
    split at h
    · rename_i f
      rw [if_pos f]
      refine ⟨_, _, rfl, f, ?_⟩
      unfold zD at f ⊢
      split at f
      · rename_i j x
        have := ixG_b _ _ _ x
        exact ⟨j, by show j < zN (rStep tp n z); omega, rfl⟩
      · exact absurd f (by decide)
    · cases h
  · cases h
theorem signs_ok : ∀ r s z, (rSigns tp n r s z).1 = true → ∃ T v s', (rSigns tp n r s z).2 = rClose 5 (rPut 5 1 s' (T, v, z.2.2))
  | 0, s, z, h => ⟨z.1, zL z, s, rfl⟩
  | r + 1, s, z, h => by
    unfold rSigns at h ⊢
    obtain ⟨a, b⟩ := rAnd_t h
    rw [b] at h ⊢
    obtain ⟨v, e, i⟩ := whole_ok a
    rw [e] at h ⊢
    split at h
    · cases h
    · rename_i c
      rw [if_neg c]
      split at h
      · rename_i d
        rw [if_pos d]
        obtain ⟨T, v', s', q⟩ := signs_ok r _ _ h
        exact ⟨T, v', s', q⟩
      · rename_i d
        rw [if_neg d]
        exact ⟨_, _, _, rfl⟩
theorem rPut_c (l c : Nat) (v : Int32) (z : RSt) : ∃ t, rPut l c v z = rB z (zC z) t ∧ (∀ m, m ≠ l → t m = zB z m) ∧ (∀ k, k ≠ zC z l * lnC l + c → t l k = zB z l k) ∧ (zC z l < lnM l → t l (zC z l * lnC l + c) = v) := by
  unfold rPut
  split
  · refine ⟨_, rfl, fun m hm => upA_ne _ _ hm, fun k hk => ?_, fun _ => ?_⟩
    · rw [upA_same]; unfold upd; exact if_neg hk
    · rw [upA_same]; unfold upd; exact if_pos rfl
  · rename_i d
    exact ⟨zB z, rfl, fun _ _ => rfl, fun _ _ => rfl, fun y => absurd y d⟩
/-- rows that are told, and names -/
def Gd (z : RSt) : Prop :=
  (0 < zC z 0 → inB (zB z 0 0) 1 8 = true ∧ inB (zB z 0 1) 2 5 = true) ∧
  (0 < zC z 1 → inB (zB z 1 0) 0 99 = true ∧ inB (zB z 1 1) 1 50 = true ∧ inB (zB z 1 2) 0 60 = true) ∧
  (∀ t, t < zC z 3 → ∃ kd, 1 ≤ kd ∧ kd < zC z 2 ∧ zB z 3 (t * 3) = nI kd) ∧
  (∀ m k, m < zC z 6 → k < 8 → inB (zB z 6 (m * 8 + k)) 1 9 = true) ∧
  (∀ k, k < zN z → zK z k = -1 ∨ ∃ kd, kd < zC z 2 ∧ zK z k = nI kd) ∧
  zN z = zC z 2 + zC z 4 + zC z 5 + zC z 6
theorem rC_eq {l : Nat} (hl : zC z l < lnM l) : rClose l z = rB z (updN (zC z) l (zC z l + 1)) (zB z) := by unfold rClose; rw [if_pos hl]
theorem updN_s {f : Nat → Nat} {k v : Nat} : updN f k v k = v := by unfold updN; exact if_pos rfl
theorem updN_n {f : Nat → Nat} {k v m : Nat} (h : m ≠ k) : updN f k v m = f m := by unfold updN; exact if_neg h
def SameB (l : Nat) (z z' : RSt) : Prop := zC z' = zC z ∧ (∀ m, m ≠ l → zB z' m = zB z m) ∧ (∀ k, k < zC z l * lnC l → zB z' l k = zB z l k)
theorem SameB_tr {l : Nat} {x y z : RSt} (a : SameB l x y) (b : SameB l y z) : SameB l x z :=
  ⟨b.1.trans a.1, fun m hm => (b.2.1 m hm).trans (a.2.1 m hm), fun k hk => (b.2.2 k (by rw [a.1]; exact hk)).trans (a.2.2 k hk)⟩
/-- a put into the row that is being told -/
def Puts (l c : Nat) (z z' : RSt) : Prop := SameB l z z' ∧ zN z' = zN z ∧ zK z' = zK z ∧ ∀ c', c' ≠ c → zB z' l (zC z l * lnC l + c') = zB z l (zC z l * lnC l + c')
theorem put_puts (l c : Nat) (v : Int32) (T : Tok) (lw : Int32) (z : RSt) : Puts l c z (rPut l c v (T, lw, z.2.2)) ∧ (zC z l < lnM l → zB (rPut l c v (T, lw, z.2.2)) l (zC z l * lnC l + c) = v) := by
  obtain ⟨t, q, m, k, s⟩ := rPut_c l c v (T, lw, z.2.2)
  rw [q]
  refine ⟨⟨⟨rfl, fun x hx => m x hx, fun x hx => k x (Nat.ne_of_lt (Nat.lt_of_lt_of_le hx (Nat.le_add_right _ _)))⟩, rfl, rfl, fun c' hc => k _ (fun y => hc (Nat.add_left_cancel y))⟩, fun h => s h⟩
theorem tells_puts {k l c : Nat} {lo hi : Int32} (h : (rTells tp n k lo hi l c z).1 = true) : Puts l c z (rTells tp n k lo hi l c z).2 ∧ (zC z l < lnM l → inB (zB (rTells tp n k lo hi l c z).2 l (zC z l * lnC l + c)) lo hi = true) := by
  obtain ⟨T, v, e, i⟩ := tells_ok h
  rw [e]
  have p := put_puts l c v T v z
  exact ⟨p.1, fun hr => by rw [p.2 hr]; exact i⟩
theorem tellsW_puts {l c : Nat} {lo hi : Int32} (h : (rTellsW tp n lo hi l c z).1 = true) : Puts l c z (rTellsW tp n lo hi l c z).2 ∧ (zC z l < lnM l → inB (zB (rTellsW tp n lo hi l c z).2 l (zC z l * lnC l + c)) lo hi = true) := by
  obtain ⟨T, v, e, i⟩ := tellsW_ok h
  rw [e]
  have p := put_puts l c v T v z
  exact ⟨p.1, fun hr => by rw [p.2 hr]; exact i⟩
def RF (l : Nat) (z z1 : RSt) : Prop :=
  (l = 0 → inB (zB z1 0 (zC z 0 * 2 + 0)) 1 8 = true ∧ inB (zB z1 0 (zC z 0 * 2 + 1)) 2 5 = true) ∧
  (l = 1 → inB (zB z1 1 (zC z 1 * 5 + 0)) 0 99 = true ∧ inB (zB z1 1 (zC z 1 * 5 + 1)) 1 50 = true ∧ inB (zB z1 1 (zC z 1 * 5 + 2)) 0 60 = true) ∧
  (l = 3 → ∃ kd, 1 ≤ kd ∧ kd < zC z 2 ∧ zB z1 3 (zC z 3 * 3 + 0) = nI kd) ∧
  (l = 6 → ∀ k, k < 8 → inB (zB z1 6 (zC z 6 * 8 + k)) 1 9 = true)
def NF (l : Nat) (z z1 : RSt) : Prop :=
  ((l = 0 ∨ l = 1 ∨ l = 3) → zN z1 = zN z ∧ zK z1 = zK z) ∧
  ((l = 2 ∨ l = 4 ∨ l = 5 ∨ l = 6) → zN z1 = zN z + 1 ∧ (∀ k, k < zN z → zK z1 k = zK z k) ∧ (zK z1 (zN z) = -1 ∨ (l = 2 ∧ zK z1 (zN z) = nI (zC z 2))))
theorem Gd_fin {l : Nat} {z1 : RSt} {T : Tok} (G : Gd z) (hl : l < 7) (hr : zC z l < lnM l) (S : SameB l z z1) (N : NF l z z1) (R : RF l z z1) : Gd (rT (rClose l z1) T) := by
  obtain ⟨g0, g1, g3, g6, gk, gn⟩ := G
  rw [rC_eq (by rw [S.1]; exact hr)]
  have hC : ∀ m, zC (rT (rB z1 (updN (zC z1) l (zC z1 l + 1)) (zB z1)) T) m = if m = l then zC z l + 1 else zC z m := fun m => by
    show updN (zC z1) l (zC z1 l + 1) m = _
    rw [S.1]; rfl
  refine ⟨fun h0 => ?_, fun h1 => ?_, fun t ht => ?_, fun m k hm hk => ?_, fun k hk => ?_, ?_⟩
  · rw [hC] at h0
    show inB (zB z1 0 0) 1 8 = true ∧ inB (zB z1 0 1) 2 5 = true
    by_cases e : l = 0
    · subst e
      have c0 : zC z 0 = 0 := by have : lnM 0 = 1 := rfl; omega
      have r := R.1 rfl
      rw [c0] at r
      exact r
    · rw [if_neg (fun y => e y.symm)] at h0
      rw [S.2.1 0 (fun y => e y.symm)]; exact g0 h0
  · rw [hC] at h1
    show inB (zB z1 1 0) 0 99 = true ∧ inB (zB z1 1 1) 1 50 = true ∧ inB (zB z1 1 2) 0 60 = true
    by_cases e : l = 1
    · subst e
      have c0 : zC z 1 = 0 := by have : lnM 1 = 1 := rfl; omega
      have r := R.2.1 rfl
      rw [c0] at r
      exact r
    · rw [if_neg (fun y => e y.symm)] at h1
      rw [S.2.1 1 (fun y => e y.symm)]; exact g1 h1
  · rw [hC] at ht
    have c2 : zC z 2 ≤ zC (rT (rB z1 (updN (zC z1) l (zC z1 l + 1)) (zB z1)) T) 2 := by
      rw [hC]; split
      · rename_i e; rw [← e]; omega
      · exact Nat.le_refl _
    show ∃ kd, 1 ≤ kd ∧ kd < zC (rT (rB z1 (updN (zC z1) l (zC z1 l + 1)) (zB z1)) T) 2 ∧ zB z1 3 (t * 3) = nI kd
    by_cases e : l = 3
    · subst e
      rw [if_pos rfl] at ht
      by_cases e2 : t < zC z 3
      · obtain ⟨kd, a, b, c⟩ := g3 t e2
        exact ⟨kd, a, by omega, by rw [S.2.2 _ (show t * 3 < zC z 3 * 3 by omega)]; exact c⟩
      · obtain ⟨kd, a, b, c⟩ := R.2.2.1 rfl
        exact ⟨kd, a, by omega, by rw [show t = zC z 3 by omega]; exact c⟩
    · rw [if_neg (fun y => e y.symm)] at ht
      obtain ⟨kd, a, b, c⟩ := g3 t ht
      exact ⟨kd, a, by omega, by rw [S.2.1 3 (fun y => e y.symm)]; exact c⟩
  · rw [hC] at hm
    show inB (zB z1 6 (m * 8 + k)) 1 9 = true
    by_cases e : l = 6
    · subst e
      rw [if_pos rfl] at hm
      by_cases e2 : m < zC z 6
      · rw [S.2.2 _ (show m * 8 + k < zC z 6 * 8 by omega)]; exact g6 m k e2 hk
      · rw [show m = zC z 6 by omega]; exact R.2.2.2 rfl k hk
    · rw [if_neg (fun y => e y.symm)] at hm
      rw [S.2.1 6 (fun y => e y.symm)]; exact g6 m k hm hk
  · have c2 : zC z 2 ≤ zC (rT (rB z1 (updN (zC z1) l (zC z1 l + 1)) (zB z1)) T) 2 := by
      rw [hC]; split
      · rename_i e; rw [← e]; omega
      · exact Nat.le_refl _
    show zK z1 k = -1 ∨ ∃ kd, kd < zC (rT (rB z1 (updN (zC z1) l (zC z1 l + 1)) (zB z1)) T) 2 ∧ zK z1 k = nI kd
    replace hk : k < zN z1 := hk
    by_cases e : l = 0 ∨ l = 1 ∨ l = 3
    · obtain ⟨a, b⟩ := N.1 e
      rw [b]
      rcases gk k (by omega) with x | ⟨kd, x, y⟩
      · exact Or.inl x
      · exact Or.inr ⟨kd, by omega, y⟩
    · obtain ⟨a, b, c⟩ := N.2 (by omega)
      by_cases e2 : k < zN z
      · rw [b k e2]
        rcases gk k e2 with x | ⟨kd, x, y⟩
        · exact Or.inl x
        · exact Or.inr ⟨kd, by omega, y⟩
      · rw [show k = zN z by omega]
        rcases c with x | ⟨x, y⟩
        · exact Or.inl x
        · refine Or.inr ⟨zC z 2, ?_, y⟩
          rw [hC, if_pos x.symm, x]; omega
  · show zN z1 = zC (rT (rB z1 (updN (zC z1) l (zC z1 l + 1)) (zB z1)) T) 2 + zC (rT (rB z1 (updN (zC z1) l (zC z1 l + 1)) (zB z1)) T) 4 + zC (rT (rB z1 (updN (zC z1) l (zC z1 l + 1)) (zB z1)) T) 5 + zC (rT (rB z1 (updN (zC z1) l (zC z1 l + 1)) (zB z1)) T) 6
    rw [hC, hC, hC, hC]
    rcases (show l = 0 ∨ l = 1 ∨ l = 2 ∨ l = 3 ∨ l = 4 ∨ l = 5 ∨ l = 6 by omega) with rfl | rfl | rfl | rfl | rfl | rfl | rfl
    · rw [(N.1 (by decide)).1, gn]; simp
    · rw [(N.1 (by decide)).1, gn]; simp
    · rw [(N.2 (by decide)).1, gn]; simp; omega
    · rw [(N.1 (by decide)).1, gn]; simp
    · rw [(N.2 (by decide)).1, gn]; simp; omega
    · rw [(N.2 (by decide)).1, gn]; simp; omega
    · rw [(N.2 (by decide)).1, gn]; simp; omega
theorem Gd_bar (G : Gd z) (hr : zC z 0 < lnM 0) (h : (rBar tp n z).1 = true) : Gd (rBar tp n z).2 := by
  unfold rBar at h ⊢
  obtain ⟨a1, b1⟩ := rAnd_t h
  rw [b1] at h ⊢
  obtain ⟨p1, i1⟩ := tells_puts a1
  generalize (rTells tp n 7 1 8 0 0 z).2 = z1 at h p1 i1
  obtain ⟨a2, b2⟩ := rAnd_t h
  rw [b2]
  obtain ⟨p2, i2⟩ := tells_puts a2
  generalize (rTells tp n 8 2 5 0 1 z1).2 = z2 at p2 i2
  have cc := p1.1.1
  rw [cc] at i2
  have k2 := p2.2.2.2 0 (by decide)
  rw [cc] at k2
  refine Gd_fin (l := 0) (T := tokS tp n (zT (rClose 0 z2)).2.1) G (by decide) hr (SameB_tr p1.1 p2.1) ⟨fun _ => ⟨p2.2.1.trans p1.2.1, p2.2.2.1.trans p1.2.2.1⟩, fun y => absurd y (by decide)⟩ ⟨fun _ => ⟨?_, i2 hr⟩, fun y => absurd y (by decide), fun y => absurd y (by decide), fun y => absurd y (by decide)⟩
  show inB (zB z2 0 (zC z 0 * lnC 0 + 0)) 1 8 = true
  rw [k2]; exact i1 hr
theorem Gd_water (G : Gd z) (hr : zC z 1 < lnM 1) (h : (rWater tp n z).1 = true) : Gd (rWater tp n z).2 := by
  unfold rWater at h ⊢
  obtain ⟨a1, b1⟩ := rAnd_t h
  rw [b1] at h ⊢
  obtain ⟨p1, i1⟩ := tellsW_puts a1
  generalize (rTellsW tp n 0 99 1 0 z).2 = z1 at h p1 i1
  obtain ⟨a2, b2⟩ := rAnd_t h
  rw [b2] at h ⊢
  obtain ⟨p2, i2⟩ := tells_puts a2
  generalize (rTells tp n 9 1 50 1 1 z1).2 = z2 at h p2 i2
  obtain ⟨a3, b3⟩ := rAnd_t h
  rw [b3] at h ⊢
  obtain ⟨p3, i3⟩ := tells_puts a3
  generalize (rTells tp n 10 0 60 1 2 z2).2 = z3 at h p3 i3
  obtain ⟨a4, b4⟩ := rAnd_t h
  rw [b4] at h ⊢
  obtain ⟨p4, i4⟩ := tells_puts a4
  generalize (rTells tp n 11 0 12 1 3 z3).2 = z4 at h p4 i4
  obtain ⟨a5, b5⟩ := rAnd_t h
  rw [b5]
  obtain ⟨p5, i5⟩ := tells_puts a5
  generalize (rTells tp n 12 0 50 1 4 z4).2 = z5 at p5 i5
  have c1 := p1.1.1
  have c2 := p2.1.1.trans c1
  have c3 := p3.1.1.trans c2
  have c4 := p4.1.1.trans c3
  have k2 := p2.2.2.2
  have k3 := p3.2.2.2
  have k4 := p4.2.2.2
  have k5 := p5.2.2.2
  rw [c1] at i2 k2
  rw [c2] at i3 k3
  rw [c3] at k4
  rw [c4] at k5
  refine Gd_fin (l := 1) (T := tokS tp n (zT (rClose 1 z5)).2.1) G (by decide) hr (SameB_tr p1.1 (SameB_tr p2.1 (SameB_tr p3.1 (SameB_tr p4.1 p5.1)))) ⟨fun _ => ⟨p5.2.1.trans (p4.2.1.trans (p3.2.1.trans (p2.2.1.trans p1.2.1))), p5.2.2.1.trans (p4.2.2.1.trans (p3.2.2.1.trans (p2.2.2.1.trans p1.2.2.1)))⟩, fun y => absurd y (by decide)⟩ ⟨fun y => absurd y (by decide), fun _ => ⟨?_, ?_, ?_⟩, fun y => absurd y (by decide), fun y => absurd y (by decide)⟩
  · show inB (zB z5 1 (zC z 1 * lnC 1 + 0)) 0 99 = true
    rw [k5 0 (by decide), k4 0 (by decide), k3 0 (by decide), k2 0 (by decide)]; exact i1 hr
  · show inB (zB z5 1 (zC z 1 * lnC 1 + 1)) 1 50 = true
    rw [k5 1 (by decide), k4 1 (by decide), k3 1 (by decide)]; exact i2 hr
  · show inB (zB z5 1 (zC z 1 * lnC 1 + 2)) 0 60 = true
    rw [k5 2 (by decide), k4 2 (by decide)]; exact i3 hr
theorem name_nf {kd : Int32} (h : (rName tp n kd z).1 = true) : zC (rName tp n kd z).2 = zC z ∧ zB (rName tp n kd z).2 = zB z ∧ zN (rName tp n kd z).2 = zN z + 1 ∧ (∀ k, k < zN z → zK (rName tp n kd z).2 k = zK z k) ∧ zK (rName tp n kd z).2 (zN z) = kd := by
  obtain ⟨T, m, e⟩ := name_ok h
  rw [e]
  refine ⟨rfl, rfl, rfl, fun k hk => ?_, ?_⟩
  · show upd (zK z) (zN z) kd k = zK z k
    unfold upd; exact if_neg (by omega)
  · show upd (zK z) (zN z) kd (zN z) = kd
    unfold upd; exact if_pos rfl
theorem SameB_of {l : Nat} {x y : RSt} (a : zC y = zC x) (b : zB y = zB x) : SameB l x y := ⟨a, fun m _ => by rw [b], fun k _ => by rw [b]⟩
theorem Gd_kind (G : Gd z) (hr : zC z 2 < lnM 2) (h : (rKind tp n z).1 = true) : Gd (rKind tp n z).2 := by
  unfold rKind at h ⊢
  obtain ⟨a0, b0⟩ := rAnd_t h
  rw [b0] at h ⊢
  obtain ⟨e1, e2, e3, e4, e5⟩ := name_nf a0
  generalize (rName tp n (nI (zC z 2)) z).2 = z0 at h e1 e2 e3 e4 e5
  obtain ⟨a1, b1⟩ := rAnd_t h
  rw [b1] at h ⊢
  obtain ⟨p1, i1⟩ := tells_puts a1
  generalize (rTells tp n 13 0 99 2 0 z0).2 = z1 at h p1 i1
  obtain ⟨a2, b2⟩ := rAnd_t h
  rw [b2] at h ⊢
  obtain ⟨p2, i2⟩ := tells_puts a2
  generalize (rTells tp n 14 0 50 2 1 z1).2 = z2 at h p2 i2
  obtain ⟨a3, b3⟩ := rAnd_t h
  rw [b3]
  obtain ⟨p3, i3⟩ := tells_puts a3
  generalize (rTells tp n 15 1 999 2 2 z2).2 = z3 at p3 i3
  have hk : zK z3 = zK z0 := p3.2.2.1.trans (p2.2.2.1.trans p1.2.2.1)
  refine Gd_fin (l := 2) (T := tokS tp n (zT (rClose 2 z3)).2.1) G (by decide) hr (SameB_tr (SameB_of e1 e2) (SameB_tr p1.1 (SameB_tr p2.1 p3.1))) ⟨fun y => absurd y (by decide), fun _ => ⟨p3.2.1.trans (p2.2.1.trans (p1.2.1.trans e3)), fun k hk' => by rw [hk]; exact e4 k hk', Or.inr ⟨rfl, by rw [hk]; exact e5⟩⟩⟩ ⟨fun y => absurd y (by decide), fun y => absurd y (by decide), fun y => absurd y (by decide), fun y => absurd y (by decide)⟩
theorem Gd_turn (G : Gd z) (hr : zC z 3 < lnM 3) (h : (rTurn tp n z).1 = true) : Gd (rTurn tp n z).2 := by
  unfold rTurn at h ⊢
  obtain ⟨a0, b0⟩ := rAnd_t h
  rw [b0] at h ⊢
  obtain ⟨T, d, e, d0, j, hj, dj⟩ := to_ok a0
  have q0 := put_puts 3 0 d T (zL z) z
  rw [show rPut 3 0 d (T, zL z, z.2.2) = (rTo tp n 3 z).2 from e.symm] at q0
  obtain ⟨p0, i0⟩ := q0
  generalize (rTo tp n 3 z).2 = z0 at h p0 i0
  obtain ⟨a1, b1⟩ := rAnd_t h
  rw [b1] at h ⊢
  obtain ⟨p1, i1⟩ := tells_puts a1
  generalize (rTells tp n 16 100 900 3 1 z0).2 = z1 at h p1 i1
  obtain ⟨a2, b2⟩ := rAnd_t h
  rw [b2]
  obtain ⟨p2, i2⟩ := tells_puts a2
  generalize (rTells tp n 17 0 400 3 2 z1).2 = z2 at p2 i2
  have c1 := p0.1.1
  have c2 := p1.1.1.trans c1
  have k1 := p1.2.2.2
  have k2 := p2.2.2.2
  rw [c1] at k1
  rw [c2] at k2
  refine Gd_fin (l := 3) (T := tokS tp n (zT (rClose 3 z2)).2.1) G (by decide) hr (SameB_tr p0.1 (SameB_tr p1.1 p2.1)) ⟨fun _ => ⟨p2.2.1.trans (p1.2.1.trans p0.2.1), p2.2.2.1.trans (p1.2.2.1.trans p0.2.2.1)⟩, fun y => absurd y (by decide)⟩ ⟨fun y => absurd y (by decide), fun y => absurd y (by decide), fun _ => ?_, fun y => absurd y (by decide)⟩
  show ∃ kd, 1 ≤ kd ∧ kd < zC z 2 ∧ zB z2 3 (zC z 3 * lnC 3 + 0) = nI kd
  rw [k2 0 (by decide), k1 0 (by decide), i0 hr, dj]
  rw [dj] at d0
  rcases G.2.2.2.2.1 j hj with x | ⟨kd, x, y⟩
  · rw [x] at d0; exact absurd d0 (by decide)
  · refine ⟨kd, ?_, x, y⟩
    rw [y] at d0
    refine Nat.pos_of_ne_zero (fun w => ?_)
    rw [w] at d0; exact absurd d0 (by decide)
theorem Gd_red (G : Gd z) (hr : zC z 4 < lnM 4) (h : (rRed tp n z).1 = true) : Gd (rRed tp n z).2 := by
  unfold rRed at h ⊢
  obtain ⟨a0, b0⟩ := rAnd_t h
  rw [b0] at h ⊢
  obtain ⟨e1, e2, e3, e4, e5⟩ := name_nf a0
  generalize (rName tp n (-1) z).2 = z0 at h e1 e2 e3 e4 e5
  obtain ⟨a1, b1⟩ := rAnd_t h
  rw [b1] at h ⊢
  obtain ⟨p1, i1⟩ := tellsW_puts a1
  generalize (rTellsW tp n 100 999 4 0 z0).2 = z1 at h p1 i1
  obtain ⟨a2, b2⟩ := rAnd_t h
  rw [b2]
  obtain ⟨p2, i2⟩ := tells_puts a2
  generalize (rTells tp n 18 (zL z1) 999 4 1 z1).2 = z2 at p2 i2
  have hk : zK z2 = zK z0 := p2.2.2.1.trans p1.2.2.1
  refine Gd_fin (l := 4) (T := tokS tp n (zT (rClose 4 z2)).2.1) G (by decide) hr (SameB_tr (SameB_of e1 e2) (SameB_tr p1.1 p2.1)) ⟨fun y => absurd y (by decide), fun _ => ⟨p2.2.1.trans (p1.2.1.trans e3), fun k hk' => by rw [hk]; exact e4 k hk', Or.inl (by rw [hk]; exact e5)⟩⟩ ⟨fun y => absurd y (by decide), fun y => absurd y (by decide), fun y => absurd y (by decide), fun y => absurd y (by decide)⟩
theorem Gd_stone (G : Gd z) (hr : zC z 5 < lnM 5) (h : (rStone tp n z).1 = true) : Gd (rStone tp n z).2 := by
  unfold rStone at h ⊢
  obtain ⟨a0, b0⟩ := rAnd_t h
  rw [b0] at h ⊢
  obtain ⟨e1, e2, e3, e4, e5⟩ := name_nf a0
  generalize (rName tp n (-1) z).2 = z0 at h e1 e2 e3 e4 e5
  obtain ⟨a1, b1⟩ := rAnd_t h
  rw [b1] at h ⊢
  obtain ⟨p1, i1⟩ := tells_puts a1
  generalize (rTells tp n 19 1 20 5 0 z0).2 = z1 at h p1 i1
  obtain ⟨a2, b2⟩ := rAnd_t h
  rw [b2] at h ⊢
  obtain ⟨T2, e⟩ := word_ok a2
  rw [e] at h ⊢
  obtain ⟨T3, v3, s3, e6⟩ := signs_ok _ _ _ h
  rw [e6]
  have p3 := (put_puts 5 1 s3 T3 v3 (rT z1 T2)).1
  generalize rPut 5 1 s3 (T3, v3, (rT z1 T2).2.2) = z3 at p3
  have p3' : Puts 5 1 z1 z3 := p3
  have hk : zK z3 = zK z0 := p3'.2.2.1.trans p1.2.2.1
  have q := Gd_fin (l := 5) (T := zT (rClose 5 z3)) G (by decide) hr (SameB_tr (SameB_of e1 e2) (SameB_tr p1.1 p3'.1)) ⟨fun y => absurd y (by decide), fun _ => ⟨p3'.2.1.trans (p1.2.1.trans e3), fun k hk' => by rw [hk]; exact e4 k hk', Or.inl (by rw [hk]; exact e5)⟩⟩ ⟨fun y => absurd y (by decide), fun y => absurd y (by decide), fun y => absurd y (by decide), fun y => absurd y (by decide)⟩
  exact q
theorem ones_ok (hr : zC z 6 < lnM 6) : ∀ r k, k + r = 8 → SameB 6 z (rOnes r k z) ∧ zN (rOnes r k z) = zN z ∧ zK (rOnes r k z) = zK z ∧ (∀ c, k ≤ c → c < 8 → zB (rOnes r k z) 6 (zC z 6 * 8 + c) = 1) ∧ (∀ c, c < k → zB (rOnes r k z) 6 (zC z 6 * 8 + c) = zB z 6 (zC z 6 * 8 + c)) := by
  intro r
  induction r generalizing z with
  | zero => intro k hk; exact ⟨SameB_of rfl rfl, rfl, rfl, fun c h1 h2 => absurd h2 (by omega), fun c h1 => rfl⟩
  | succ r ih =>
    intro k hk
    have p := put_puts 6 k 1 z.1 (zL z) z
    replace p : Puts 6 k z (rPut 6 k 1 z) ∧ (zC z 6 < lnM 6 → zB (rPut 6 k 1 z) 6 (zC z 6 * 8 + k) = 1) := p
    unfold rOnes
    generalize rPut 6 k 1 z = z1 at p
    have cc := p.1.1.1
    obtain ⟨q1, q2, q3, q4, q5⟩ := ih (z := z1) (by rw [cc]; exact hr) (k + 1) (by omega)
    rw [cc] at q4 q5
    refine ⟨SameB_tr p.1.1 q1, q2.trans p.1.2.1, q3.trans p.1.2.2.1, fun c h1 h2 => ?_, fun c h1 => ?_⟩
    · by_cases e : c = k
      · rw [e, q5 k (by omega)]; exact p.2 hr
      · exact q4 c (by omega) h2
    · rw [q5 c (by omega)]; exact p.1.2.2.2 c (by omega)
theorem smG_ok : ∀ r k z, zC z 6 < lnM 6 → (rSmG tp n r k z).1 = true → (∀ c, c < 8 → inB (zB z 6 (zC z 6 * 8 + c)) 1 9 = true) → ∃ z', (rSmG tp n r k z).2 = rClose 6 z' ∧ SameB 6 z z' ∧ zN z' = zN z ∧ zK z' = zK z ∧ (∀ c, c < 8 → inB (zB z' 6 (zC z 6 * 8 + c)) 1 9 = true)
  | 0, k, z, hr, h, A => ⟨z, rfl, SameB_of rfl rfl, rfl, rfl, A⟩
  | r + 1, k, z, hr, h, A => by
    unfold rSmG at h ⊢
    obtain ⟨a, b⟩ := rAnd_t h
    rw [b] at h ⊢
    obtain ⟨v, e, i⟩ := whole_ok a
    rw [e] at h ⊢
    split at h
    · cases h
    · rename_i c
      rw [if_neg c]
      have p := put_puts 6 k v (zT (rStep tp n z)) v z
      replace p : Puts 6 k z (rPut 6 k v (rL (rStep tp n z) v)) ∧ (zC z 6 < lnM 6 → zB (rPut 6 k v (rL (rStep tp n z) v)) 6 (zC z 6 * 8 + k) = v) := p
      have ev : zL (rL (rStep tp n z) v) = v := rfl
      rw [ev] at h ⊢
      generalize rPut 6 k v (rL (rStep tp n z) v) = z1 at p h
      have cc := p.1.1.1
      have B : ∀ c, c < 8 → inB (zB z1 6 (zC z 6 * 8 + c)) 1 9 = true := fun c hc => by
        by_cases e : c = k
        · rw [e, p.2 hr]; exact i
        · have := p.1.2.2.2 c e
          rw [show zB z1 6 (zC z 6 * 8 + c) = zB z 6 (zC z 6 * 8 + c) from this]; exact A c hc
      split at h
      · rename_i d
        rw [if_pos d]
        obtain ⟨z', x1, x2, x3, x4, x5⟩ := smG_ok r (k + 1) (rStep tp n z1) (by show zC z1 6 < lnM 6; rw [cc]; exact hr) h (by show ∀ c, c < 8 → inB (zB z1 6 (zC z1 6 * 8 + c)) 1 9 = true; rw [cc]; exact B)
        replace x5 : ∀ c, c < 8 → inB (zB z' 6 (zC z1 6 * 8 + c)) 1 9 = true := x5
        rw [cc] at x5
        exact ⟨z', x1, SameB_tr p.1.1 x2, x3.trans p.1.2.1, x4.trans p.1.2.2.1, x5⟩
      · rename_i d
        rw [if_neg d]
        exact ⟨rStep tp n z1, rfl, p.1.1, p.1.2.1, p.1.2.2.1, B⟩
theorem Gd_smith (G : Gd z) (hr : zC z 6 < lnM 6) (h : (rSmith tp n z).1 = true) : Gd (rSmith tp n z).2 := by
  unfold rSmith at h ⊢
  obtain ⟨a0, b0⟩ := rAnd_t h
  rw [b0] at h ⊢
  obtain ⟨e1, e2, e3, e4, e5⟩ := name_nf a0
  generalize (rName tp n (-1) z).2 = z0 at h e1 e2 e3 e4 e5
  have hr0 : zC z0 6 < lnM 6 := by rw [e1]; exact hr
  obtain ⟨o1, o2, o3, o4, o5⟩ := ones_ok hr0 8 0 (by omega)
  generalize rOnes 8 0 z0 = z1 at h o1 o2 o3 o4
  have c1 := o1.1
  obtain ⟨z', x1, x2, x3, x4, x5⟩ := smG_ok 9 0 z1 (by rw [c1]; exact hr0) h (fun c hc => by rw [c1, o4 c (by omega) hc]; decide)
  rw [x1]
  rw [c1, e1] at x5
  have hk : zK z' = zK z0 := x4.trans o3
  exact Gd_fin (l := 6) (T := zT (rClose 6 z')) G (by decide) hr (SameB_tr (SameB_of e1 e2) (SameB_tr o1 x2)) ⟨fun y => absurd y (by decide), fun _ => ⟨x3.trans (o2.trans e3), fun k hk' => by rw [hk]; exact e4 k hk', Or.inl (by rw [hk]; exact e5)⟩⟩ ⟨fun y => absurd y (by decide), fun y => absurd y (by decide), fun y => absurd y (by decide), fun _ => x5⟩
theorem room_ok {l : Nat} {k : Int32} (h : (rRoom l k z).1 = true) : (rRoom l k z).2 = z ∧ zC z l < lnM l := by
  unfold rRoom at h ⊢
  split at h
  · cases h
  · rename_i c; rw [if_neg c]; exact ⟨rfl, by omega⟩
theorem Gd_line (G : Gd z) (h : (rLine tp n z).1 = true) : Gd (rLine tp n z).2 := by
  unfold rLine at h ⊢
  split at h
  · rename_i c; rw [if_pos c]
    obtain ⟨a, b⟩ := rAnd_t h
    rw [b] at h ⊢
    obtain ⟨e, hr⟩ := room_ok a
    rw [e] at h ⊢
    exact Gd_bar G hr h
  · rename_i c; rw [if_neg c]
    split at h
    · rename_i c; rw [if_pos c]
      obtain ⟨a, b⟩ := rAnd_t h
      rw [b] at h ⊢
      obtain ⟨e, hr⟩ := room_ok a
      rw [e] at h ⊢
      exact Gd_water G hr h
    · rename_i c; rw [if_neg c]
      split at h
      · rename_i c; rw [if_pos c]
        obtain ⟨a, b⟩ := rAnd_t h
        rw [b] at h ⊢
        obtain ⟨e, hr⟩ := room_ok a
        rw [e] at h ⊢
        exact Gd_kind G hr h
      · rename_i c; rw [if_neg c]
        split at h
        · rename_i c; rw [if_pos c]
          obtain ⟨a, b⟩ := rAnd_t h
          rw [b] at h ⊢
          obtain ⟨e, hr⟩ := room_ok a
          rw [e] at h ⊢
          exact Gd_turn G hr h
        · rename_i c; rw [if_neg c]
          split at h
          · rename_i c; rw [if_pos c]
            obtain ⟨a, b⟩ := rAnd_t h
            rw [b] at h ⊢
            obtain ⟨e, hr⟩ := room_ok a
            rw [e] at h ⊢
            exact Gd_red G hr h
          · rename_i c; rw [if_neg c]
            split at h
            · rename_i c; rw [if_pos c]
              obtain ⟨a, b⟩ := rAnd_t h
              rw [b] at h ⊢
              obtain ⟨e, hr⟩ := room_ok a
              rw [e] at h ⊢
              exact Gd_stone G hr h
            · rename_i c; rw [if_neg c]
              split at h
              · rename_i c; rw [if_pos c]
                obtain ⟨a, b⟩ := rAnd_t h
                rw [b] at h ⊢
                obtain ⟨e, hr⟩ := room_ok a
                rw [e] at h ⊢
                exact Gd_smith G hr h
              · cases h
theorem Gd_loop : ∀ r (q : Bool × RSt), (q.1 = true → Gd q.2) → (rLoop tp n r q).1 = true → Gd (rLoop tp n r q).2
  | 0, q, G, h => G h
  | r + 1, q, G, h => by
    unfold rLoop at h ⊢
    split at h
    · rename_i c
      rw [if_pos c]
      split at h
      · rename_i d; rw [if_pos d]; exact G c
      · rename_i d
        rw [if_neg d]
        refine Gd_loop r _ (fun y => ?_) h
        obtain ⟨a, b⟩ := rAnd_t y
        rw [b] at y ⊢
        refine Gd_line ?_ y
        unfold rParts at a ⊢
        split at a
        · rename_i e; rw [if_pos e]; exact G c
        · cases a
    · rename_i c; rw [if_neg c]; exact G h
/-- faults are told: a fault's number isn't 0 -/
theorem rF_ne {k : Int32} : zF (rF z k) = k := rfl
theorem Gd_0 {lw : Int32} {nm : Nat → Int64} {kn : Nat → Int32} {tab : Nat → Nat → Int32} : Gd (rSt0 tp n lw nm kn tab) :=
  ⟨fun y => absurd y (Nat.lt_irrefl 0), fun y => absurd y (Nat.lt_irrefl 0), fun t y => absurd y (by show ¬ t < 0; omega), fun m k y => absurd y (by show ¬ m < 0; omega), fun k y => absurd y (by show ¬ k < 0; omega), rfl⟩
end OK
