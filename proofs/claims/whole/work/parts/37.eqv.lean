/-! CELLS: only what lies in the bar counts -/
def EqI (cuts w : Nat) (f g : Nat → Int32) : Prop := ∀ i j, i < cuts → j < w → f (i * 5 + j) = g (i * 5 + j)
theorem EqI_rf (cuts w : Nat) (f : Nat → Int32) : EqI cuts w f f := fun _ _ _ _ => rfl
theorem gainS4_c {cuts w : Nat} {ha hb : Nat → Int32} (E : EqI cuts w ha hb) {flow : Int32} {i j : Nat} (hi : i < cuts) (hj : j < w) : gainS4 ha cuts w flow i j = gainS4 hb cuts w flow i j := by
  have e0 := E i j hi hj
  have e1 : ¬ i = 0 → ha (i * 5 + j - 5) = hb (i * 5 + j - 5) := fun z => by
    have := E (i - 1) j (by omega) hj
    rwa [show (i - 1) * 5 + j = i * 5 + j - 5 by omega] at this
  have e2 : i + 1 < cuts → ha (i * 5 + j + 5) = hb (i * 5 + j + 5) := fun z => by
    have := E (i + 1) j z hj
    rwa [show (i + 1) * 5 + j = i * 5 + j + 5 by omega] at this
  have e3 : ¬ j = 0 → ha (i * 5 + j - 1) = hb (i * 5 + j - 1) := fun z => by
    have := E i (j - 1) hi (by omega)
    rwa [show i * 5 + (j - 1) = i * 5 + j - 1 by omega] at this
  have e4 : j + 1 < w → ha (i * 5 + j + 1) = hb (i * 5 + j + 1) := fun z => by
    have := E i (j + 1) hi z
    rwa [show i * 5 + (j + 1) = i * 5 + j + 1 by omega] at this
  unfold gainS4 flowS
  by_cases c1 : i = 0
  all_goals by_cases c2 : i + 1 < cuts
  all_goals by_cases c3 : j = 0
  all_goals by_cases c4 : j + 1 < w
  all_goals (try have q1 := e1 c1)
  all_goals (try have q2 := e2 c2)
  all_goals (try have q3 := e3 c3)
  all_goals (try have q4 := e4 c4)
  all_goals clear e1 e2 e3 e4
  all_goals (try replace c1 : (i = 0) = True := eq_true c1)
  all_goals (try replace c3 : (j = 0) = True := eq_true c3)
  all_goals simp only [*, if_true, if_false]
theorem coolG_c {cuts w : Nat} {ha hb oa ob : Nat → Int32} (E : EqI cuts w ha hb) (O : EqI cuts w oa ob) {pulls flow water : Int32} {i j : Nat} (hi : i < cuts) (hj : j < w) : coolG pulls flow water ha oa cuts w i (i * 5 + j) = coolG pulls flow water hb ob cuts w i (i * 5 + j) := by
  unfold coolG
  rw [E i j hi hj, O i j hi hj, show i * 5 + j - i * 5 = j by omega, gainS4_c E hi hj]
theorem movS_c {w i : Nat} {g g' ha hb : Nat → Int32} (E : ∀ j, j < w → ha (i * 5 + j) = hb (i * 5 + j)) (G : ∀ j, j < w → g (i * 5 + j) = g' (i * 5 + j)) : ∀ j, j ≤ w → movS g ha i j = movS g' hb i j
  | 0, _ => rfl
  | j + 1, hj => by
    unfold movS
    rw [movS_c E G j (by omega), E j (by omega), G j (by omega)]
theorem rowF_in {g sz : Nat → Int32} {i w i' j' : Nat} (hw : w ≤ 5) (hj : j' < w) : rowF g sz i w (i' * 5 + j') = if i' = i then g (i' * 5 + j') else sz (i' * 5 + j') := by
  unfold rowF
  by_cases e : i' = i
  · subst e; rw [if_pos (by omega), if_pos rfl]
  · rw [if_neg (by omega), if_neg e]
theorem sm_c {f g : Nat → Int32} : ∀ n, (∀ k, k < n → f k = g k) → sm f n = sm g n
  | 0, _ => rfl
  | n + 1, e => by
    unfold sm
    rw [sm_c n (fun k hk => e k (by omega)), e n (by omega)]
theorem totS_c {w i : Nat} {f g : Nat → Int32} (E : ∀ j, j < w → f (i * 5 + j) = g (i * 5 + j)) : totS f w i = totS g w i := sm_c w fun j hj => E j hj
theorem curS_c {w i : Nat} {f g : Nat → Int32} (E : ∀ j, j < w → f (i * 5 + j) = g (i * 5 + j)) : curS f w i = curS g w i := sm_c w fun j hj => by rw [E j hj]
theorem pullS_c {w i j : Nat} {f g : Nat → Int32} {sq : Int32} (E : ∀ j, j < w → f (i * 5 + j) = g (i * 5 + j)) (hj : j < w) : pullS f w sq i j = pullS g w sq i j := by
  unfold pullS; rw [E j hj, totS_c E, curS_c E]
theorem bendS_c {cuts w : Nat} {f g : Nat → Int32} (E : EqI cuts w f g) : bendS f w cuts = bendS g w cuts := sm_c cuts fun i hi => curS_c fun j hj => E i j hi hj
theorem crkS_c {w i : Nat} {f g a b : Nat → Int32} {sq : Int32} (E : ∀ j, j < w → f (i * 5 + j) = g (i * 5 + j)) (M : ∀ j, j < w → a (i * 5 + j) = b (i * 5 + j)) {crk : Int32} : ∀ r j, j + r = w → crkS f a w sq i crk r j = crkS g b w sq i crk r j
  | 0, _, _ => rfl
  | r + 1, j, h => by
    unfold crkS
    rw [crkS_c E M r (j + 1) (by omega), pullS_c E (show j < w by omega), M j (by omega)]
/-- rows above the i-th of the heats are done -/
def EqR (cuts w i : Nat) (A B : Nat → Nat → Int32) : Prop :=
  EqI cuts w (A 1) (B 1) ∧ EqI cuts w (A 2) (B 2) ∧ EqI cuts w (A 3) (B 3) ∧ EqI cuts w (A 4) (B 4) ∧ EqI cuts w (A 5) (B 5) ∧ EqI cuts w (A 6) (B 6) ∧ EqI i w (A 8) (B 8) ∧ EqI cuts w (A 9) (B 9)
theorem EqI_upd {cuts w k : Nat} {f g : Nat → Int32} {v : Int32} (E : EqI cuts w f g) : EqI cuts w (upd f k v) (upd g k v) := fun i j hi hj => by
  unfold upd
  by_cases e : i * 5 + j = k
  · simp [e]
  · simp [e]; exact E i j hi hj
theorem turnA_c {cuts w i tenth tn k kd : Nat} {t2 : Nat → Int32} {wp : Int32} {A B : Nat → Nat → Int32} (E : EqR cuts w i A B) : EqR cuts w i (turnA t2 wp tenth A tn k kd) (turnA t2 wp tenth B tn k kd) := by
  obtain ⟨e1, e2, e3, e4, e5, e6, e8, e9⟩ := E
  refine ⟨e1, EqI_upd e2, EqI_upd e3, EqI_upd e4, e5, EqI_upd e6, e8, e9⟩
theorem stepT_c {cuts w i j tenth tn : Nat} {cnt : Nat → Nat} {tab : Nat → Nat → Int32} {wp : Int32} {A B : Nat → Nat → Int32} (hi : i < cuts) (hj : j < w) (E : EqR cuts w (i + 1) A B) : EqR cuts w (i + 1) (stepT cnt tab wp tenth (i * 5 + j) (A, tn)).1 (stepT cnt tab wp tenth (i * 5 + j) (B, tn)).1 ∧ (stepT cnt tab wp tenth (i * 5 + j) (A, tn)).2 = (stepT cnt tab wp tenth (i * 5 + j) (B, tn)).2 := by
  have k : kndS cnt tab A (i * 5 + j) = kndS cnt tab B (i * 5 + j) := by
    unfold kndS
    rw [E.2.1 i j hi hj, E.2.2.2.2.2.2.1 i j (by omega) hj, E.2.2.2.2.2.2.2 i j hi hj]
  unfold stepT
  simp only [k]
  split
  · exact ⟨E, rfl⟩
  · split
    · exact ⟨turnA_c E, rfl⟩
    · exact ⟨E, rfl⟩
theorem rowT_c {cuts w i tenth : Nat} {cnt : Nat → Nat} {tab : Nat → Nat → Int32} {wp : Int32} (hi : i < cuts) : ∀ r j (A B : Nat → Nat → Int32) tn, j + r = w → EqR cuts w (i + 1) A B → EqR cuts w (i + 1) (rowT cnt tab wp tenth i r j (A, tn)).1 (rowT cnt tab wp tenth i r j (B, tn)).1 ∧ (rowT cnt tab wp tenth i r j (A, tn)).2 = (rowT cnt tab wp tenth i r j (B, tn)).2
  | 0, j, A, B, tn, _, E => ⟨E, rfl⟩
  | r + 1, j, A, B, tn, h, E => by
    obtain ⟨a, b⟩ := stepT_c (tn := tn) (cnt := cnt) (tab := tab) (wp := wp) (tenth := tenth) hi (show j < w by omega) E
    unfold rowT
    generalize stepT cnt tab wp tenth (i * 5 + j) (A, tn) = s at a b
    generalize stepT cnt tab wp tenth (i * 5 + j) (B, tn) = t at a b
    obtain ⟨s1, s2⟩ := s
    obtain ⟨t1, t2⟩ := t
    obtain rfl : s2 = t2 := b
    exact rowT_c hi r (j + 1) s1 t1 s2 (by omega) a
theorem cutT_c {cuts w i tenth : Nat} {cnt : Nat → Nat} {tab : Nat → Nat → Int32} {sq water : Int32} (hw : w ≤ 5) (hi : i < cuts) {A B : Nat → Nat → Int32} {z : Nat × Int32 × Bool} (E : EqR cuts w i A B) : EqR cuts w (i + 1) (cutT cnt tab cuts w sq water tenth i (A, z)).1 (cutT cnt tab cuts w sq water tenth i (B, z)).1 ∧ (cutT cnt tab cuts w sq water tenth i (A, z)).2 = (cutT cnt tab cuts w sq water tenth i (B, z)).2 := by
  obtain ⟨e1, e2, e3, e4, e5, e6, e8, e9⟩ := E
  have G : ∀ j, j < w → coolG (tab 1 1) (tab 1 3) water (A 9) (A 1) cuts w i (i * 5 + j) = coolG (tab 1 1) (tab 1 3) water (B 9) (B 1) cuts w i (i * 5 + j) := fun j hj => coolG_c e9 e1 hi hj
  have Mv := movS_c (fun j hj => e9 i j hi hj) G w (Nat.le_refl w)
  have E1 : EqR cuts w (i + 1) (upA A 8 (rowF (coolG (tab 1 1) (tab 1 3) water (A 9) (A 1) cuts w i) (A 8) i w)) (upA B 8 (rowF (coolG (tab 1 1) (tab 1 3) water (B 9) (B 1) cuts w i) (B 8) i w)) := by
    refine ⟨e1, e2, e3, e4, e5, e6, ?_, e9⟩
    intro i' j' h1 h2
    rw [upA_same, upA_same, rowF_in hw h2, rowF_in hw h2]
    by_cases e : i' = i
    · subst e; rw [if_pos rfl, if_pos rfl, G j' h2]
    · rw [if_neg e, if_neg e]; exact e8 i' j' (by omega) h2
  obtain ⟨R1, R2⟩ := rowT_c (cnt := cnt) (tab := tab) (wp := nI w * sq) (tenth := tenth) hi w 0 _ _ z.1 (by omega) E1
  unfold cutT
  simp only []
  generalize rowT cnt tab (nI w * sq) tenth i w 0 (upA A 8 (rowF (coolG (tab 1 1) (tab 1 3) water (A 9) (A 1) cuts w i) (A 8) i w), z.1) = s at R1 R2
  generalize rowT cnt tab (nI w * sq) tenth i w 0 (upA B 8 (rowF (coolG (tab 1 1) (tab 1 3) water (B 9) (B 1) cuts w i) (B 8) i w), z.1) = t at R1 R2
  obtain ⟨s1, s2⟩ := s
  obtain ⟨t1, t2⟩ := t
  obtain rfl : s2 = t2 := R2
  obtain ⟨r1, r2, r3, r4, r5, r6, r8, r9⟩ := R1
  have Z : EqI cuts w (rowF (sizG (tab 1 4) (s1 8) (s1 3)) (s1 5) i w) (rowF (sizG (tab 1 4) (t1 8) (t1 3)) (t1 5) i w) := by
    intro i' j' h1 h2
    rw [rowF_in hw h2, rowF_in hw h2]
    by_cases e : i' = i
    · subst e; rw [if_pos rfl, if_pos rfl]; unfold sizG; rw [show s1 8 (i' * 5 + j') = t1 8 (i' * 5 + j') from r8 i' j' (by omega) h2, show s1 3 (i' * 5 + j') = t1 3 (i' * 5 + j') from r3 i' j' h1 h2]
    · rw [if_neg e, if_neg e]; exact r5 i' j' h1 h2
  refine ⟨⟨r1, r2, r3, r4, Z, r6, r8, r9⟩, ?_⟩
  rw [Mv]
  have C := crkS_c (sq := sq) (crk := z.2.1) (f := upA s1 5 (rowF (sizG (tab 1 4) (s1 8) (s1 3)) (s1 5) i w) 5) (g := upA t1 5 (rowF (sizG (tab 1 4) (t1 8) (t1 3)) (t1 5) i w) 5) (a := upA s1 5 (rowF (sizG (tab 1 4) (s1 8) (s1 3)) (s1 5) i w) 4) (b := upA t1 5 (rowF (sizG (tab 1 4) (t1 8) (t1 3)) (t1 5) i w) 4) (fun j hj => Z i j hi hj) (fun j hj => r4 i j hi hj) w 0 (by omega)
  simp only [C]
theorem cutsT_c {cuts w tenth : Nat} {cnt : Nat → Nat} {tab : Nat → Nat → Int32} {sq water : Int32} (hw : w ≤ 5) : ∀ r i (A B : Nat → Nat → Int32) (z : Nat × Int32 × Bool), i + r = cuts → EqR cuts w i A B → EqR cuts w cuts (cutsT cnt tab cuts w sq water tenth r i (A, z)).1 (cutsT cnt tab cuts w sq water tenth r i (B, z)).1 ∧ (cutsT cnt tab cuts w sq water tenth r i (A, z)).2 = (cutsT cnt tab cuts w sq water tenth r i (B, z)).2
  | 0, i, A, B, z, h, E => by
    obtain rfl : i = cuts := by omega
    exact ⟨E, rfl⟩
  | r + 1, i, A, B, z, h, E => by
    obtain ⟨a, b⟩ := cutT_c (cnt := cnt) (tab := tab) (sq := sq) (water := water) (tenth := tenth) (z := z) hw (show i < cuts by omega) E
    unfold cutsT
    generalize cutT cnt tab cuts w sq water tenth i (A, z) = s at a b
    generalize cutT cnt tab cuts w sq water tenth i (B, z) = t at a b
    obtain ⟨s1, s2⟩ := s
    obtain ⟨t1, t2⟩ := t
    obtain rfl : s2 = t2 := b
    exact cutsT_c hw r (i + 1) s1 t1 s2 (by omega) a
/-- what counts between the tenths -/
def EqH (cuts w : Nat) (A B : Nat → Nat → Int32) : Prop :=
  EqI cuts w (A 1) (B 1) ∧ EqI cuts w (A 2) (B 2) ∧ EqI cuts w (A 3) (B 3) ∧ EqI cuts w (A 4) (B 4) ∧ EqI cuts w (A 5) (B 5) ∧ EqI cuts w (A 6) (B 6) ∧ EqI cuts w (A 8) (B 8)
theorem EqH_rf (cuts w : Nat) (A : Nat → Nat → Int32) : EqH cuts w A A := ⟨EqI_rf _ _ _, EqI_rf _ _ _, EqI_rf _ _ _, EqI_rf _ _ _, EqI_rf _ _ _, EqI_rf _ _ _, EqI_rf _ _ _⟩
theorem onceS_c {cuts w tenth tn : Nat} {cnt : Nat → Nat} {tab : Nat → Nat → Int32} {sq water crk : Int32} (hw : w ≤ 5) {A B : Nat → Nat → Int32} (E : EqH cuts w A B) : EqH cuts w (onceS cnt tab cuts w sq water tenth A tn crk).1 (onceS cnt tab cuts w sq water tenth B tn crk).1 ∧ (onceS cnt tab cuts w sq water tenth A tn crk).2 = (onceS cnt tab cuts w sq water tenth B tn crk).2 := by
  obtain ⟨e1, e2, e3, e4, e5, e6, e8⟩ := E
  obtain ⟨⟨r1, r2, r3, r4, r5, r6, r8, r9⟩, b⟩ := cutsT_c (cnt := cnt) (tab := tab) (sq := sq) (water := water) (tenth := tenth + 1) hw cuts 0 (swA A) (swA B) (tn, crk, false) (by omega) ⟨e1, e2, e3, e4, e5, e6, fun i j h => absurd h (by omega), e8⟩
  exact ⟨⟨r1, r2, r3, r4, r5, r6, r8⟩, b⟩
theorem sizL_c {cuts w : Nat} {sw : Int32} (hw : w ≤ 5) : ∀ r i (A B : Nat → Nat → Int32), i + r = cuts → EqI cuts w (A 3) (B 3) → EqI cuts w (A 8) (B 8) → EqI i w (A 5) (B 5) → EqI cuts w (sizL sw w r i A 5) (sizL sw w r i B 5)
  | 0, i, A, B, h, e3, e8, e5 => by
    obtain rfl : i = cuts := by omega
    exact e5
  | r + 1, i, A, B, h, e3, e8, e5 => by
    unfold sizL
    refine sizL_c hw r (i + 1) _ _ (by omega) e3 e8 ?_
    intro i' j' h1 h2
    rw [upA_same, upA_same, rowF_in hw h2, rowF_in hw h2]
    by_cases e : i' = i
    · subst e; rw [if_pos rfl, if_pos rfl]; unfold sizG; rw [e8 i' j' (by omega) h2, e3 i' j' (by omega) h2]
    · rw [if_neg e, if_neg e]; exact e5 i' j' (by omega) h2
theorem sizL_ne {w : Nat} {sw : Int32} {m : Nat} (hm : m ≠ 5) : ∀ r i (A : Nat → Nat → Int32), sizL sw w r i A m = A m
  | 0, _, _ => rfl
  | r + 1, i, A => by
    unfold sizL
    rw [sizL_ne hm r (i + 1), upA_ne _ _ hm]
theorem fillF_in {f : Nat → Int32} {v : Int32} {cuts w i j : Nat} (hc : cuts ≤ 8) (hw : w ≤ 5) (hi : i < cuts) (hj : j < w) : fillF f v 40 (i * 5 + j) = v := by
  unfold fillF; rw [if_pos (by omega)]
theorem heatS_c {cuts w : Nat} {tab : Nat → Nat → Int32} {sq v : Int32} (hc : cuts ≤ 8) (hw : w ≤ 5) {A B : Nat → Nat → Int32} (E : EqI cuts w (A 1) (B 1)) : EqH cuts w (heatS tab cuts w sq v A) (heatS tab cuts w sq v B) := by
  unfold heatS
  have fl : ∀ (f g : Nat → Int32) (x : Int32), EqI cuts w (fillF f x 40) (fillF g x 40) := fun f g x i j hi hj => by rw [fillF_in hc hw hi hj, fillF_in hc hw hi hj]
  refine ⟨?_, ?_, ?_, ?_, ?_, ?_, ?_⟩
  · rw [sizL_ne (by decide), sizL_ne (by decide)]; exact E
  · rw [sizL_ne (by decide), sizL_ne (by decide)]; exact fl _ _ _
  · rw [sizL_ne (by decide), sizL_ne (by decide)]; exact fl _ _ _
  · rw [sizL_ne (by decide), sizL_ne (by decide)]; exact fl _ _ _
  · exact sizL_c hw cuts 0 _ _ (by omega) (fl _ _ _) (fl _ _ _) (fun i j h => absurd h (by omega))
  · rw [sizL_ne (by decide), sizL_ne (by decide)]; exact fl _ _ _
  · rw [sizL_ne (by decide), sizL_ne (by decide)]; exact fl _ _ _
