/-! CELLS: where no heat moves, nothing does -/
theorem EqI_tr {cuts w : Nat} {f g k : Nat → Int32} (a : EqI cuts w f g) (b : EqI cuts w g k) : EqI cuts w f k := fun i j hi hj => (a i j hi hj).trans (b i j hi hj)
theorem EqI_sy {cuts w : Nat} {f g : Nat → Int32} (a : EqI cuts w f g) : EqI cuts w g f := fun i j hi hj => (a i j hi hj).symm
theorem EqR_tr {cuts w i : Nat} {A B C : Nat → Nat → Int32} (a : EqR cuts w i A B) (b : EqR cuts w i B C) : EqR cuts w i A C :=
  ⟨EqI_tr a.1 b.1, EqI_tr a.2.1 b.2.1, EqI_tr a.2.2.1 b.2.2.1, EqI_tr a.2.2.2.1 b.2.2.2.1, EqI_tr a.2.2.2.2.1 b.2.2.2.2.1, EqI_tr a.2.2.2.2.2.1 b.2.2.2.2.2.1, EqI_tr a.2.2.2.2.2.2.1 b.2.2.2.2.2.2.1, EqI_tr a.2.2.2.2.2.2.2 b.2.2.2.2.2.2.2⟩
theorem EqH_tr {cuts w : Nat} {A B C : Nat → Nat → Int32} (a : EqH cuts w A B) (b : EqH cuts w B C) : EqH cuts w A C :=
  ⟨EqI_tr a.1 b.1, EqI_tr a.2.1 b.2.1, EqI_tr a.2.2.1 b.2.2.1, EqI_tr a.2.2.2.1 b.2.2.2.1, EqI_tr a.2.2.2.2.1 b.2.2.2.2.1, EqI_tr a.2.2.2.2.2.1 b.2.2.2.2.2.1, EqI_tr a.2.2.2.2.2.2 b.2.2.2.2.2.2⟩
theorem EqH_sy {cuts w : Nat} {A B : Nat → Nat → Int32} (a : EqH cuts w A B) : EqH cuts w B A :=
  ⟨EqI_sy a.1, EqI_sy a.2.1, EqI_sy a.2.2.1, EqI_sy a.2.2.2.1, EqI_sy a.2.2.2.2.1, EqI_sy a.2.2.2.2.2.1, EqI_sy a.2.2.2.2.2.2⟩
theorem rowT_no {cnt : Nat → Nat} {tab : Nat → Nat → Int32} {wp : Int32} {tenth i w tn : Nat} {A : Nat → Nat → Int32} (e : ∀ j, j < w → A 9 (i * 5 + j) = A 8 (i * 5 + j)) : ∀ r j, j + r = w → rowT cnt tab wp tenth i r j (A, tn) = (A, tn)
  | 0, _, _ => rfl
  | r + 1, j, h => by
    unfold rowT
    have z : kndS cnt tab A (i * 5 + j) = 0 := by
      unfold kndS
      split
      · rw [e j (by omega)]; unfold turnS; rw [if_pos (Int32.le_refl _)]
      · rfl
    rw [show stepT cnt tab wp tenth (i * 5 + j) (A, tn) = (A, tn) from by unfold stepT; exact if_pos z]
    exact rowT_no e r (j + 1) (by omega)
def SzI (cuts w : Nat) (sw : Int32) (A : Nat → Nat → Int32) : Prop := EqI cuts w (A 5) (sizG sw (A 8) (A 3))
def StI (cuts w : Nat) (pulls flow water : Int32) (A : Nat → Nat → Int32) : Prop := ∀ i j, i < cuts → j < w → coolG pulls flow water (A 8) (A 1) cuts w i (i * 5 + j) = A 8 (i * 5 + j)
/-- the crack, cut after cut -/
def crkR (sz mp : Nat → Int32) (w : Nat) (sq : Int32) : Nat → Nat → Int32 → Int32
  | 0, _, crk => crk
  | r + 1, i, crk => crkR sz mp w sq r (i + 1) (crkS sz mp w sq i crk w 0)
theorem crkR_c {cuts w : Nat} {f g a b : Nat → Int32} {sq : Int32} (E : EqI cuts w f g) (M : EqI cuts w a b) : ∀ r i crk, i + r = cuts → crkR f a w sq r i crk = crkR g b w sq r i crk
  | 0, _, _, _ => rfl
  | r + 1, i, crk, h => by
    unfold crkR
    rw [crkS_c (fun j hj => E i j (by omega) hj) (fun j hj => M i j (by omega) hj) w 0 (by omega), crkR_c E M r (i + 1) _ (by omega)]
theorem movS_no {g ha : Nat → Int32} {i w : Nat} (e : ∀ j, j < w → g (i * 5 + j) = ha (i * 5 + j)) : ∀ j, j ≤ w → movS g ha i j = false
  | 0, _ => rfl
  | j + 1, hj => by
    unfold movS
    rw [movS_no e j (by omega), decide_eq_false (not_not_intro (e j (by omega)))]; rfl
theorem movS_fa {g ha : Nat → Int32} {i : Nat} : ∀ w, movS g ha i w = false → ∀ j, j < w → g (i * 5 + j) = ha (i * 5 + j)
  | 0, _, j, hj => absurd hj (by omega)
  | w + 1, h, j, hj => by
    unfold movS at h
    rw [Bool.or_eq_false_iff] at h
    by_cases e : j = w
    · subst e; exact Classical.byContradiction fun y => by rw [decide_eq_true y] at h; exact absurd h.2 (by decide)
    · exact movS_fa w h.1 j (by omega)
section ST
variable {cnt : Nat → Nat} {tab : Nat → Nat → Int32} {cuts w : Nat} {sq water : Int32}
theorem cutT_still (hw : w ≤ 5) {C : Nat → Nat → Int32} (c89 : C 9 = C 8) (S : StI cuts w (tab 1 1) (tab 1 3) water C) (Z : SzI cuts w (tab 1 4) C) {i tenth : Nat} (hi : i < cuts) {z : Nat × Int32 × Bool} : EqR cuts w (i + 1) (cutT cnt tab cuts w sq water tenth i (C, z)).1 C ∧ (cutT cnt tab cuts w sq water tenth i (C, z)).2 = (z.1, crkS (C 5) (C 4) w sq i z.2.1 w 0, z.2.2) := by
  have g1 : ∀ j, j < w → coolG (tab 1 1) (tab 1 3) water (C 9) (C 1) cuts w i (i * 5 + j) = C 9 (i * 5 + j) := fun j hj => by rw [c89]; exact S i j hi hj
  have hh : ∀ i' j', j' < w → rowF (coolG (tab 1 1) (tab 1 3) water (C 9) (C 1) cuts w i) (C 8) i w (i' * 5 + j') = C 8 (i' * 5 + j') := fun i' j' hj => by
    rw [rowF_in hw hj]
    by_cases e : i' = i
    · subst e; rw [if_pos rfl, g1 j' hj, c89]
    · rw [if_neg e]
  have n1 := rowT_no (cnt := cnt) (tab := tab) (wp := nI w * sq) (tenth := tenth) (tn := z.1) (A := upA C 8 (rowF (coolG (tab 1 1) (tab 1 3) water (C 9) (C 1) cuts w i) (C 8) i w)) (i := i) (w := w) (fun j hj => by rw [upA_same, hh i j hj, upA_ne _ _ (by decide), c89]) w 0 (by omega)
  unfold cutT
  simp only [n1, movS_no g1 w (Nat.le_refl w), Bool.or_false]
  have zz : EqI cuts w (rowF (sizG (tab 1 4) (upA C 8 (rowF (coolG (tab 1 1) (tab 1 3) water (C 9) (C 1) cuts w i) (C 8) i w) 8) (upA C 8 (rowF (coolG (tab 1 1) (tab 1 3) water (C 9) (C 1) cuts w i) (C 8) i w) 3)) (upA C 8 (rowF (coolG (tab 1 1) (tab 1 3) water (C 9) (C 1) cuts w i) (C 8) i w) 5) i w) (C 5) := by
    intro i' j' h1 h2
    rw [rowF_in hw h2]
    by_cases e : i' = i
    · subst e
      rw [if_pos rfl, Z i' j' h1 h2]
      unfold sizG
      rw [upA_same, hh i' j' h2, upA_ne _ _ (by decide)]
    · rw [if_neg e, upA_ne _ _ (by decide)]
  refine ⟨⟨EqI_rf _ _ _, EqI_rf _ _ _, EqI_rf _ _ _, EqI_rf _ _ _, zz, EqI_rf _ _ _, fun i' j' h1 h2 => hh i' j' h2, EqI_rf _ _ _⟩, ?_⟩
  exact congrArg (fun x => (z.1, x, z.2.2)) (crkS_c (sq := sq) (crk := z.2.1) (fun j hj => zz i j hi hj) (fun j hj => rfl) w 0 (by omega))
theorem cutsT_still (hw : w ≤ 5) {C : Nat → Nat → Int32} (c89 : C 9 = C 8) (S : StI cuts w (tab 1 1) (tab 1 3) water C) (Z : SzI cuts w (tab 1 4) C) {tenth : Nat} : ∀ r i A (z : Nat × Int32 × Bool), i + r = cuts → EqR cuts w i A C → EqR cuts w cuts (cutsT cnt tab cuts w sq water tenth r i (A, z)).1 C ∧ (cutsT cnt tab cuts w sq water tenth r i (A, z)).2 = (z.1, crkR (C 5) (C 4) w sq r i z.2.1, z.2.2)
  | 0, i, A, z, h, E => by
    obtain rfl : i = cuts := by omega
    exact ⟨E, rfl⟩
  | r + 1, i, A, z, h, E => by
    obtain ⟨a, b⟩ := cutT_c (cnt := cnt) (tab := tab) (sq := sq) (water := water) (tenth := tenth) (z := z) hw (show i < cuts by omega) E
    obtain ⟨a2, b2⟩ := cutT_still (cnt := cnt) (tab := tab) (sq := sq) (water := water) hw c89 S Z (tenth := tenth) (show i < cuts by omega) (z := z)
    rw [b2] at b
    have a3 := EqR_tr a a2
    unfold cutsT
    generalize cutT cnt tab cuts w sq water tenth i (A, z) = s at a b a3
    obtain ⟨s1, s2⟩ := s
    obtain rfl : s2 = (z.1, crkS (C 5) (C 4) w sq i z.2.1 w 0, z.2.2) := b
    exact cutsT_still hw c89 S Z r (i + 1) s1 _ (by omega) a3
theorem onceS_still (hw : w ≤ 5) {A : Nat → Nat → Int32} (S : StI cuts w (tab 1 1) (tab 1 3) water A) (Z : SzI cuts w (tab 1 4) A) {tenth tn : Nat} {crk : Int32} : EqH cuts w (onceS cnt tab cuts w sq water tenth A tn crk).1 A ∧ (onceS cnt tab cuts w sq water tenth A tn crk).2 = (tn, crkR (A 5) (A 4) w sq cuts 0 crk, false) := by
  obtain ⟨⟨r1, r2, r3, r4, r5, r6, r8, r9⟩, b⟩ := cutsT_still (cnt := cnt) (tab := tab) (cuts := cuts) (sq := sq) (water := water) hw (C := upA A 9 (A 8)) rfl S Z (tenth := tenth + 1) cuts 0 (swA A) (tn, crk, false) (by omega) ⟨EqI_rf _ _ _, EqI_rf _ _ _, EqI_rf _ _ _, EqI_rf _ _ _, EqI_rf _ _ _, EqI_rf _ _ _, fun i j h => absurd h (by omega), EqI_rf _ _ _⟩
  exact ⟨⟨r1, r2, r3, r4, r5, r6, r8⟩, b⟩
/-- arrays that a row's turns leave alone -/
theorem rowT_ke {m : Nat} (h2 : m ≠ 2) (h3 : m ≠ 3) (h4 : m ≠ 4) (h6 : m ≠ 6) (h7 : m ≠ 7) {wp : Int32} {tenth i : Nat} : ∀ r j (s : (Nat → Nat → Int32) × Nat), (rowT cnt tab wp tenth i r j s).1 m = s.1 m
  | 0, _, _ => rfl
  | r + 1, j, s => by
    unfold rowT
    rw [rowT_ke h2 h3 h4 h6 h7 r (j + 1)]
    unfold stepT
    split
    · rfl
    · split
      · show turnA _ _ _ _ _ _ _ m = s.1 m
        unfold turnA
        rw [upA_ne _ _ h7, upA_ne _ _ h6, upA_ne _ _ h4, upA_ne _ _ h3, upA_ne _ _ h2]
      · rfl
/-- other rows keep their room -/
theorem rowT_k3 {wp : Int32} {tenth i k : Nat} (hk : k < i * 5 ∨ i * 5 + w ≤ k) : ∀ r j (s : (Nat → Nat → Int32) × Nat), j + r = w → (rowT cnt tab wp tenth i r j s).1 3 k = s.1 3 k
  | 0, _, _, _ => rfl
  | r + 1, j, s, h => by
    unfold rowT
    rw [rowT_k3 hk r (j + 1) _ (by omega)]
    unfold stepT
    split
    · rfl
    · split
      · show upd (s.1 3) (i * 5 + j) _ k = s.1 3 k
        unfold upd
        exact if_neg (by omega)
      · rfl
def SzR (i w : Nat) (sw : Int32) (A : Nat → Nat → Int32) : Prop := EqI i w (A 5) (sizG sw (A 8) (A 3))
theorem cutT_sz (hw : w ≤ 5) {i tenth : Nat} {A : Nat → Nat → Int32} {z : Nat × Int32 × Bool} (R : SzR i w (tab 1 4) A) : SzR (i + 1) w (tab 1 4) (cutT cnt tab cuts w sq water tenth i (A, z)).1 := by
  unfold cutT
  simp only []
  generalize hA : upA A 8 (rowF (coolG (tab 1 1) (tab 1 3) water (A 9) (A 1) cuts w i) (A 8) i w) = A1
  have k3 : ∀ k, (k < i * 5 ∨ i * 5 + w ≤ k) → (rowT cnt tab (nI w * sq) tenth i w 0 (A1, z.1)).1 3 k = A 3 k := fun k hk => by rw [rowT_k3 hk w 0 _ (by omega), ← hA]; rfl
  have k8 : (rowT cnt tab (nI w * sq) tenth i w 0 (A1, z.1)).1 8 = rowF (coolG (tab 1 1) (tab 1 3) water (A 9) (A 1) cuts w i) (A 8) i w := by rw [rowT_ke (by decide) (by decide) (by decide) (by decide) (by decide), ← hA]; rfl
  have k5 : (rowT cnt tab (nI w * sq) tenth i w 0 (A1, z.1)).1 5 = A 5 := by rw [rowT_ke (by decide) (by decide) (by decide) (by decide) (by decide), ← hA]; rfl
  generalize rowT cnt tab (nI w * sq) tenth i w 0 (A1, z.1) = t at k3 k8 k5
  intro i' j' h1 h2
  show rowF (sizG (tab 1 4) (t.1 8) (t.1 3)) (t.1 5) i w (i' * 5 + j') = sizG (tab 1 4) (t.1 8) (t.1 3) (i' * 5 + j')
  rw [rowF_in hw h2]
  by_cases e : i' = i
  · rw [if_pos e]
  · rw [if_neg e, k5, R i' j' (by omega) h2]
    unfold sizG
    rw [k8, k3 _ (by omega), rowF_in hw h2, if_neg e]
theorem cutsT_sz (hw : w ≤ 5) {tenth : Nat} : ∀ r i (A : Nat → Nat → Int32) (z : Nat × Int32 × Bool), i + r = cuts → SzR i w (tab 1 4) A → SzI cuts w (tab 1 4) (cutsT cnt tab cuts w sq water tenth r i (A, z)).1
  | 0, i, A, z, h, R => by
    obtain rfl : i = cuts := by omega
    exact R
  | r + 1, i, A, z, h, R => by
    have a := cutT_sz (cnt := cnt) (cuts := cuts) (sq := sq) (water := water) hw (tenth := tenth) (z := z) R
    unfold cutsT
    generalize cutT cnt tab cuts w sq water tenth i (A, z) = s at a
    obtain ⟨s1, s2⟩ := s
    exact cutsT_sz hw r (i + 1) s1 s2 (by omega) a
theorem onceS_sz (hw : w ≤ 5) {A : Nat → Nat → Int32} {tenth tn : Nat} {crk : Int32} : SzI cuts w (tab 1 4) (onceS cnt tab cuts w sq water tenth A tn crk).1 :=
  cutsT_sz hw cuts 0 _ _ (by omega) (fun i j h => absurd h (by omega))
theorem sizL_sz (hw : w ≤ 5) {sw : Int32} : ∀ r i (A : Nat → Nat → Int32), i + r = cuts → SzR i w sw A → SzI cuts w sw (sizL sw w r i A)
  | 0, i, A, h, R => by
    obtain rfl : i = cuts := by omega
    exact R
  | r + 1, i, A, h, R => by
    unfold sizL
    refine sizL_sz hw r (i + 1) _ (by omega) ?_
    intro i' j' h1 h2
    show rowF (sizG sw (A 8) (A 3)) (A 5) i w (i' * 5 + j') = sizG sw (A 8) (A 3) (i' * 5 + j')
    rw [rowF_in hw h2]
    by_cases e : i' = i
    · rw [if_pos e]
    · rw [if_neg e]; exact R i' j' (by omega) h2
theorem heatS_sz (hw : w ≤ 5) {A : Nat → Nat → Int32} {v : Int32} : SzI cuts w (tab 1 4) (heatS tab cuts w sq v A) :=
  sizL_sz hw cuts 0 _ (by omega) (fun i j h => absurd h (by omega))
/-- no heat moved -/
theorem cutsT_mv {tenth : Nat} : ∀ r i (A : Nat → Nat → Int32) (z : Nat × Int32 × Bool), i + r = cuts → (cutsT cnt tab cuts w sq water tenth r i (A, z)).2.2.2 = false → z.2.2 = false ∧ ∀ i' j', i ≤ i' → i' < cuts → j' < w → coolG (tab 1 1) (tab 1 3) water (A 9) (A 1) cuts w i' (i' * 5 + j') = A 9 (i' * 5 + j')
  | 0, i, A, z, h, R => ⟨R, fun i' j' h1 h2 => absurd h2 (by omega)⟩
  | r + 1, i, A, z, h, R => by
    unfold cutsT at R
    have e9 : (cutT cnt tab cuts w sq water tenth i (A, z)).1 9 = A 9 := by
      unfold cutT; simp only []
      rw [upA_ne _ _ (by decide), rowT_ke (by decide) (by decide) (by decide) (by decide) (by decide)]; rfl
    have e1 : (cutT cnt tab cuts w sq water tenth i (A, z)).1 1 = A 1 := by
      unfold cutT; simp only []
      rw [upA_ne _ _ (by decide), rowT_ke (by decide) (by decide) (by decide) (by decide) (by decide)]; rfl
    have em : (cutT cnt tab cuts w sq water tenth i (A, z)).2.2.2 = (z.2.2 || movS (coolG (tab 1 1) (tab 1 3) water (A 9) (A 1) cuts w i) (A 9) i w) := rfl
    generalize cutT cnt tab cuts w sq water tenth i (A, z) = s at R e9 e1 em
    obtain ⟨s1, s2⟩ := s
    obtain ⟨a, b⟩ := cutsT_mv r (i + 1) s1 s2 (by omega) R
    rw [show s2.2.2 = (z.2.2 || movS (coolG (tab 1 1) (tab 1 3) water (A 9) (A 1) cuts w i) (A 9) i w) from em, Bool.or_eq_false_iff] at a
    refine ⟨a.1, fun i' j' h1 h2 h3 => ?_⟩
    by_cases e : i' = i
    · subst e; exact movS_fa w a.2 j' h3
    · have := b i' j' (by omega) h2 h3
      rwa [show s1 9 = A 9 from e9, show s1 1 = A 1 from e1] at this
theorem onceS_mv {A : Nat → Nat → Int32} {tenth tn : Nat} {crk : Int32} (h : (onceS cnt tab cuts w sq water tenth A tn crk).2.2.2 = false) : StI cuts w (tab 1 1) (tab 1 3) water A :=
  fun i j hi hj => (cutsT_mv (cnt := cnt) (tab := tab) (cuts := cuts) (w := w) (sq := sq) (water := water) cuts 0 (swA A) (tn, crk, false) (by omega) h).2 i j (by omega) hi hj
theorem StI_c {A B : Nat → Nat → Int32} {pulls flow : Int32} (E : EqH cuts w A B) (S : StI cuts w pulls flow water A) : StI cuts w pulls flow water B := fun i j hi hj => by
  rw [← coolG_c E.2.2.2.2.2.2 E.1 hi hj, ← E.2.2.2.2.2.2 i j hi hj]; exact S i j hi hj
theorem SzI_c {A B : Nat → Nat → Int32} {sw : Int32} (E : EqH cuts w A B) (Z : SzI cuts w sw A) : SzI cuts w sw B := fun i j hi hj => by
  have := Z i j hi hj
  unfold sizG at this ⊢
  rw [← E.2.2.2.2.1 i j hi hj, this, E.2.2.2.2.2.2 i j hi hj, E.2.2.1 i j hi hj]
end ST
