/-! CELLS: only what lies in the bar counts -/
def EqI (cuts w : Nat) (f g : Nat → Int32) : Prop := ∀ i j, i < cuts → j < w → f (i * 5 + j) = g (i * 5 + j)
theorem EqI_rf (cuts w : Nat) (f : Nat → Int32) : EqI cuts w f f := fun _ _ _ _ => rfl
theorem gainS4_c {cuts w : Nat} {ha hb : Nat → Int32} (E : EqI cuts w ha hb) {flow : Int32} {i j : Nat} (hi : i < cuts) (hj : j < w) : gainS4 ha cuts w flow i j = gainS4 hb cuts w flow i j := by
  have e0 := E i j hi hj
  have e1 : ¬ i = 0 → ha (i * 5 + j - 5) = hb (i * 5 + j - 5) := fun z => by
    have := E (i - 1) j (by omega) hj
    rwa [show (i - 1) * 5 + j = i * 5 + j - 5 by omega] at this
  have e2 : i + 1 < cuts → ha (i * 5 + j + 5) = hb (i * 5 + j + 5) := fun z => by
    have := E (i + 1) j z hj
    rwa [show (i + 1) * 5 + j = i * 5 + j + 5 by omega] at this
  have e3 : ¬ j = 0 → ha (i * 5 + j - 1) = hb (i * 5 + j - 1) := fun z => by
    have := E i (j - 1) hi (by omega)
    rwa [show i * 5 + (j - 1) = i * 5 + j - 1 by omega] at this
  have e4 : j + 1 < w → ha (i * 5 + j + 1) = hb (i * 5 + j + 1) := fun z => by
    have := E i (j + 1) hi z
    rwa [show i * 5 + (j + 1) = i * 5 + j + 1 by omega] at this
  unfold gainS4 flowS
  by_cases c1 : i = 0
  all_goals by_cases c2 : i + 1 < cuts
  all_goals by_cases c3 : j = 0
  all_goals by_cases c4 : j + 1 < w
  all_goals (try have q1 := e1 c1)
  all_goals (try have q2 := e2 c2)
  all_goals (try have q3 := e3 c3)
  all_goals (try have q4 := e4 c4)
  all_goals clear e1 e2 e3 e4
  all_goals (try replace c1 : (i = 0) = True := eq_true c1)
  all_goals (try replace c3 : (j = 0) = True := eq_true c3)
  all_goals simp only [*, if_true, if_false]
theorem coolG_c {cuts w : Nat} {ha hb oa ob : Nat → Int32} (E : EqI cuts w ha hb) (O : EqI cuts w oa ob) {pulls flow water : Int32} {i j : Nat} (hi : i < cuts) (hj : j < w) : coolG pulls flow water ha oa cuts w i (i * 5 + j) = coolG pulls flow water hb ob cuts w i (i * 5 + j) := by
  unfold coolG
  rw [E i j hi hj, O i j hi hj, show i * 5 + j - i * 5 = j by omega, gainS4_c E hi hj]
theorem movS_c {w i : Nat} {g g' ha hb : Nat → Int32} (E : ∀ j, j < w → ha (i * 5 + j) = hb (i * 5 + j)) (G : ∀ j, j < w → g (i * 5 + j) = g' (i * 5 + j)) : ∀ j, j ≤ w → movS g ha i j = movS g' hb i j
  | 0, _ => rfl
  | j + 1, hj => by
    unfold movS
    rw [movS_c E G j (by omega), E j (by omega), G j (by omega)]
theorem rowF_in {g sz : Nat → Int32} {i w i' j' : Nat} (hw : w ≤ 5) (hj : j' < w) : rowF g sz i w (i' * 5 + j') = if i' = i then g (i' * 5 + j') else sz (i' * 5 + j') := by
  unfold rowF
  by_cases e : i' = i
  · subst e; rw [if_pos (by omega), if_pos rfl]
  · rw [if_neg (by omega), if_neg e]
theorem sm_c {f g : Nat → Int32} : ∀ n, (∀ k, k < n → f k = g k) → sm f n = sm g n
  | 0, _ => rfl
  | n + 1, e => by
    unfold sm
    rw [sm_c n (fun k hk => e k (by omega)), e n (by omega)]
theorem totS_c {w i : Nat} {f g : Nat → Int32} (E : ∀ j, j < w → f (i * 5 + j) = g (i * 5 + j)) : totS f w i = totS g w i := sm_c w fun j hj => E j hj
theorem curS_c {w i : Nat} {f g : Nat → Int32} (E : ∀ j, j < w → f (i * 5 + j) = g (i * 5 + j)) : curS f w i = curS g w i := sm_c w fun j hj => by rw [E j hj]
theorem pullS_c {w i j : Nat} {f g : Nat → Int32} {sq : Int32} (E : ∀ j, j < w → f (i * 5 + j) = g (i * 5 + j)) (hj : j < w) : pullS f w sq i j = pullS g w sq i j := by
  unfold pullS; rw [E j hj, totS_c E, curS_c E]
theorem bendS_c {cuts w : Nat} {f g : Nat → Int32} (E : EqI cuts w f g) : bendS f w cuts = bendS g w cuts := sm_c cuts fun i hi => curS_c fun j hj => E i j hi hj
theorem crkS_c {w i : Nat} {f g a b : Nat → Int32} {sq : Int32} (E : ∀ j, j < w → f (i * 5 + j) = g (i * 5 + j)) (M : ∀ j, j < w → a (i * 5 + j) = b (i * 5 + j)) {crk : Int32} : ∀ r j, j + r = w → crkS f a w sq i crk r j = crkS g b w sq i crk r j
  | 0, _, _ => rfl
  | r + 1, j, h => by
    unfold crkS
    rw [crkS_c E M r (j + 1) (by omega), pullS_c E (show j < w by omega), M j (by omega)]
/-- rows above the i-th of the heats are done -/
def EqR (cuts w i : Nat) (A B : Nat → Nat → Int32) : Prop :=
  EqI cuts w (A 1) (B 1) ∧ EqI cuts w (A 2) (B 2) ∧ EqI cuts w (A 3) (B 3) ∧ EqI cuts w (A 4) (B 4) ∧ EqI cuts w (A 5) (B 5) ∧ EqI cuts w (A 6) (B 6) ∧ EqI i w (A 8) (B 8) ∧ EqI cuts w (A 9) (B 9)
theorem EqI_upd {cuts w k : Nat} {f g : Nat → Int32} {v : Int32} (E : EqI cuts w f g) : EqI cuts w (upd f k v) (upd g k v) := fun i j hi hj => by
  unfold upd
  by_cases e : i * 5 + j = k
  · simp [e]
  · simp [e]; exact E i j hi hj
theorem turnA_c {cuts w i tenth tn k kd : Nat} {t2 : Nat → Int32} {wp : Int32} {A B : Nat → Nat → Int32} (E : EqR cuts w i A B) : EqR cuts w i (turnA t2 wp tenth A tn k kd) (turnA t2 wp tenth B tn k kd) := by
  obtain ⟨e1, e2, e3, e4, e5, e6, e8, e9⟩ := E
  refine ⟨e1, EqI_upd e2, EqI_upd e3, EqI_upd e4, e5, EqI_upd e6, e8, e9⟩
theorem stepT_c {cuts w i j tenth tn : Nat} {cnt : Nat → Nat} {tab : Nat → Nat → Int32} {wp : Int32} {A B : Nat → Nat → Int32} (hi : i < cuts) (hj : j < w) (E : EqR cuts w (i + 1) A B) : EqR cuts w (i + 1) (stepT cnt tab wp tenth (i * 5 + j) (A, tn)).1 (stepT cnt tab wp tenth (i * 5 + j) (B, tn)).1 ∧ (stepT cnt tab wp tenth (i * 5 + j) (A, tn)).2 = (stepT cnt tab wp tenth (i * 5 + j) (B, tn)).2 := by
  have k : kndS cnt tab A (i * 5 + j) = kndS cnt tab B (i * 5 + j) := by
    unfold kndS
    rw [E.2.1 i j hi hj, E.2.2.2.2.2.2.1 i j (by omega) hj, E.2.2.2.2.2.2.2 i j hi hj]
  unfold stepT
  simp only [k]
  split
  · exact ⟨E, rfl⟩
  · split
    · exact ⟨turnA_c E, rfl⟩
    · exact ⟨E, rfl⟩
theorem rowT_c {cuts w i tenth : Nat} {cnt : Nat → Nat} {tab : Nat → Nat → Int32} {wp : Int32} (hi : i < cuts) : ∀ r j (A B : Nat → Nat → Int32) tn, j + r = w → EqR cuts w (i + 1) A B → EqR cuts w (i + 1) (rowT cnt tab wp tenth i r j (A, tn)).1 (rowT cnt tab wp tenth i r j (B, tn)).1 ∧ (rowT cnt tab wp tenth i r j (A, tn)).2 = (rowT cnt tab wp tenth i r j (B, tn)).2
  | 0, j, A, B, tn, _, E => ⟨E, rfl⟩
  | r + 1, j, A, B, tn, h, E => by
    obtain ⟨a, b⟩ := stepT_c (tn := tn) (cnt := cnt) (tab := tab) (wp := wp) (tenth := tenth) hi (show j < w by omega) E
    unfold rowT
    generalize stepT cnt tab wp tenth (i * 5 + j) (A, tn) = s at a b
    generalize stepT cnt tab wp tenth (i * 5 + j) (B, tn) = t at a b
    obtain ⟨s1, s2⟩ := s
    obtain ⟨t1, t2⟩ := t
    obtain rfl : s2 = t2 := b
    exact rowT_c hi r (j + 1) s1 t1 s2 (by omega) a
