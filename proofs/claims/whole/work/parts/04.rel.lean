/-! THE SMALL MACHINE AND THE JVM: values, locals, cells -/
def tm_vm (ρ σ : Nat → Nat) : Value → Value
  | .ref a => .ref (ρ a)
  | .retAddr i => .ref (σ i)
  | v => v
def tm_cv (ρ σ τ : Nat → Nat) : va_E → va_E
  | .inl (t, x) => .inl (τ t, x)
  | .inr (c, fs) => .inr (c, fs.map (tm_vm ρ σ))
def tm_ws (ρ σ τ : Nat → Nat) (h : tm_H) : va_W := (List.range (tm_sz h)).map (fun k => (ρ (k + 1), tm_cv ρ σ τ (h (k + 1))))
theorem tm_ws_at (ρ σ τ : Nat → Nat) (h : tm_H) {a : Nat} (h1 : 1 ≤ a) (h2 : a ≤ tm_sz h) : (tm_ws ρ σ τ h)[a - 1]? = some (ρ a, tm_cv ρ σ τ (h a)) := by
  unfold tm_ws
  rw [List.getElem?_map, List.getElem?_range (by omega)]
  show some (ρ (a - 1 + 1), tm_cv ρ σ τ (h (a - 1 + 1))) = _
  rw [show a - 1 + 1 = a from by omega]
theorem tm_ws_len (ρ σ τ : Nat → Nat) (h : tm_H) : (tm_ws ρ σ τ h).length = tm_sz h := by simp [tm_ws]
def tm_wv (n : Nat) (v : Value) : Prop := ∀ a, v = .ref a → 1 ≤ a ∧ a ≤ n
def tm_wf (h : tm_H) : Prop := ∀ k, 1 ≤ k → k ≤ tm_sz h → ∀ c fs, h k = .inr (c, fs) → ∀ v ∈ fs, tm_wv (tm_sz h) v
theorem tm_wv_int (n : Nat) (x : Int32) : tm_wv n (.int x) := fun _ h => by cases h
theorem tm_wv_long (n : Nat) (x : Int64) : tm_wv n (.long x) := fun _ h => by cases h
theorem tm_wv_null (n : Nat) : tm_wv n .null := fun _ h => by cases h
theorem tm_wv_str (n i : Nat) : tm_wv n (.retAddr i) := fun _ h => by cases h
theorem tm_wv_le {n n' : Nat} {v : Value} (h : tm_wv n v) (hn : n ≤ n') : tm_wv n' v := fun a e => ⟨(h a e).1, Nat.le_trans (h a e).2 hn⟩
theorem tm_nl_cat (ρ σ : Nat → Nat) (v : Value) : tm_nl v = true → (tm_vm ρ σ v).category = 1 := by
  cases v <;> simp [tm_nl, tm_vm, Value.category]
/-- what the locals are known to hold -/
def tm_lv (ρ σ : Nat → Nat) (ls : List Value) : List (Nat × Value) := (List.range ls.length).filterMap (fun i => match ls[i]? with | some v => if v = tm_U then none else some (i, tm_vm ρ σ v) | none => none)
theorem tm_lv_mem {ρ σ : Nat → Nat} {ls : List Value} {q : Nat × Value} : q ∈ tm_lv ρ σ ls ↔ ∃ v, ls[q.1]? = some v ∧ v ≠ tm_U ∧ q.2 = tm_vm ρ σ v := by
  unfold tm_lv
  rw [List.mem_filterMap]
  constructor
  · intro ⟨i, hi, h⟩
    cases hv : ls[i]? with
    | none => rw [hv] at h; cases h
    | some v =>
      rw [hv] at h
      dsimp only at h
      split at h
      · cases h
      · rename_i hu
        cases h
        exact ⟨v, hv, hu, rfl⟩
  · intro ⟨v, h1, h2, h3⟩
    refine ⟨q.1, List.mem_range.mpr (List.getElem?_eq_some_iff.mp h1).1, ?_⟩
    rw [h1]
    dsimp only
    rw [if_neg h2, ← h3]
def tm_L (ρ σ : Nat → Nat) (lg : Bool) (ls : List Value) (lc : Array Slot) (mx : Nat) : Prop := lv_has lc mx (tm_lv ρ σ ls) ∧ ls.length = mx ∧ (lg = false → ∀ v ∈ ls, tm_nl v = true)
theorem tm_L_at {ρ σ : Nat → Nat} {lg : Bool} {ls : List Value} {lc : Array Slot} {mx i : Nat} {v : Value} (h : tm_L ρ σ lg ls lc mx) (hi : ls[i]? = some v) (hv : v ≠ tm_U) : lc[i]? = some (.val (tm_vm ρ σ v)) := h.1.2.2 (i, tm_vm ρ σ v) (tm_lv_mem.mpr ⟨v, hi, hv, rfl⟩)
theorem tm_L_set1 {ρ σ : Nat → Nat} {lg : Bool} {ls : List Value} {lc lc' : Array Slot} {mx i : Nat} {v : Value} (h : tm_L ρ σ lg ls lc mx) (hk : tm_ok lg ls i = true) (hnl : tm_nl v = true)
    (h' : lv_has lc' mx ((i, tm_vm ρ σ v) :: (tm_lv ρ σ ls).filter (fun q => !(q.1 == i) && !(q.1 + 1 == i && q.2.category == 2)))) : tm_L ρ σ lg (ls.set i v) lc' mx := by
  refine ⟨⟨h'.1, h'.2.1, fun q hq => h'.2.2 q ?_⟩, by rw [List.length_set]; exact h.2.1, fun hl w hw => ?_⟩
  · obtain ⟨x, h1, h2, h3⟩ := tm_lv_mem.mp hq
    by_cases e : q.1 = i
    · rw [e, List.getElem?_set_self' ] at h1
      cases hx : ls[i]? with
      | none => rw [hx] at h1; cases h1
      | some y =>
        rw [hx] at h1
        cases h1
        exact List.mem_cons.mpr (Or.inl (Prod.ext e h3))
    · rw [List.getElem?_set_ne (Ne.symm e)] at h1
      refine List.mem_cons.mpr (Or.inr (List.mem_filter.mpr ⟨tm_lv_mem.mpr ⟨x, h1, h2, h3⟩, ?_⟩))
      have hc : q.1 + 1 = i → tm_nl x = true := by
        intro e2
        cases lg with
        | false => exact h.2.2 rfl x (List.mem_of_getElem? h1)
        | true =>
          subst e2
          simpa [tm_ok, h1] using hk
      by_cases e2 : q.1 + 1 = i
      · have := tm_nl_cat ρ σ x (hc e2)
        rw [h3, this]
        simp [e]
      · simp [e, e2]
  · rcases List.mem_or_eq_of_mem_set hw with a | a
    · exact h.2.2 hl w a
    · rw [a]; exact hnl
theorem tm_L_set2 {ρ σ : Nat → Nat} {ls : List Value} {lc lc' : Array Slot} {mx i : Nat} {x : Int64} (h : tm_L ρ σ true ls lc mx) (hk : tm_ok true ls i = true)
    (h' : lv_has lc' mx ((i, .long x) :: (tm_lv ρ σ ls).filter (fun q => !(q.1 == i) && (!(q.1 == i + 1) && !(q.1 + 1 == i && q.2.category == 2))))) : tm_L ρ σ true ((ls.set i (.long x)).set (i + 1) tm_U) lc' mx := by
  refine ⟨⟨h'.1, h'.2.1, fun q hq => h'.2.2 q ?_⟩, by rw [List.length_set, List.length_set]; exact h.2.1, fun hl => by cases hl⟩
  obtain ⟨v, h1, h2, h3⟩ := tm_lv_mem.mp hq
  by_cases e1 : q.1 = i + 1
  · rw [e1, List.getElem?_set_self'] at h1
    cases hx : (ls.set i (.long x))[i + 1]? with
    | none => rw [hx] at h1; cases h1
    | some y => rw [hx] at h1; cases h1; exact absurd rfl h2
  · rw [List.getElem?_set_ne (Ne.symm e1)] at h1
    by_cases e : q.1 = i
    · rw [e, List.getElem?_set_self'] at h1
      cases hx : ls[i]? with
      | none => rw [hx] at h1; cases h1
      | some y =>
        rw [hx] at h1
        cases h1
        exact List.mem_cons.mpr (Or.inl (Prod.ext e h3))
    · rw [List.getElem?_set_ne (Ne.symm e)] at h1
      refine List.mem_cons.mpr (Or.inr (List.mem_filter.mpr ⟨tm_lv_mem.mpr ⟨v, h1, h2, h3⟩, ?_⟩))
      by_cases e2 : q.1 + 1 = i
      · have hn : tm_nl v = true := by
          subst e2
          simpa [tm_ok, h1] using hk
        have := tm_nl_cat ρ σ v hn
        rw [h3, this]
        simp [e, e1]
      · simp [e, e1, e2]
/-- at a method's entry -/
theorem tm_lv_args (ρ σ : Nat → Nat) : ∀ (args : List Value) (i j : Nat) (v : Value), (args.flatMap (fun v => if tm_nl v then [v] else [v, tm_U]))[j]? = some v → v ≠ tm_U → (i + j, tm_vm ρ σ v) ∈ lv_args i (args.map (tm_vm ρ σ)) := by
  intro args
  induction args with
  | nil => intro i j v h; simp at h
  | cons a l ih =>
    intro i j v h hv
    rw [List.flatMap_cons] at h
    rw [List.map_cons, lv_args]
    by_cases hn : tm_nl a = true
    · rw [if_pos hn] at h
      rw [if_neg (by rw [tm_nl_cat ρ σ a hn]; decide)]
      cases j with
      | zero => cases h; exact List.mem_cons_self
      | succ j =>
        have := ih (i + 1) j v (by simpa using h) hv
        rw [show i + 1 + j = i + (j + 1) from by omega] at this
        exact List.mem_cons_of_mem _ this
    · rw [if_neg hn] at h
      have hc : (tm_vm ρ σ a).category = 2 := by
        cases a <;> simp_all [tm_nl, tm_vm, Value.category]
      rw [if_pos hc]
      cases j with
      | zero => cases h; exact List.mem_cons_self
      | succ j =>
        cases j with
        | zero => simp at h; exact absurd h.symm hv
        | succ j =>
          have := ih (i + 2) j v (by simpa using h) hv
          rw [show i + 2 + j = i + (j + 1 + 1) from by omega] at this
          exact List.mem_cons_of_mem _ this
theorem tm_sl_len (ρ σ : Nat → Nat) (args : List Value) : (lg_sl (args.map (tm_vm ρ σ))).length = (args.flatMap (fun v => if tm_nl v then [v] else [v, tm_U])).length := by
  induction args with
  | nil => rfl
  | cons a l ih =>
    unfold lg_sl at ih ⊢
    rw [List.map_cons, List.flatMap_cons, List.flatMap_cons, List.length_append, List.length_append, ih]
    congr 1
    cases a <;> rfl
theorem tm_L_entry (ρ σ : Nat → Nat) {lg : Bool} {args : List Value} {mx : Nat} (h1 : lg = true ∨ args.all tm_nl = true) (h2 : (tm_ent 0 args).length ≤ mx) : tm_L ρ σ lg (tm_ent mx args) ((lg_sl (args.map (tm_vm ρ σ)) ++ List.replicate (mx - (lg_sl (args.map (tm_vm ρ σ))).length) Slot.unset).toArray) mx := by
  have hlen : (args.flatMap (fun v => if tm_nl v then [v] else [v, tm_U])).length ≤ mx := by simpa [tm_ent] using h2
  have he := lv_entry (args.map (tm_vm ρ σ)) (n := mx) (by rw [tm_sl_len]; exact hlen)
  refine ⟨⟨he.1, he.2.1, fun q hq => ?_⟩, ?_, ?_⟩
  · obtain ⟨v, a1, a2, a3⟩ := tm_lv_mem.mp hq
    have : (args.flatMap (fun v => if tm_nl v then [v] else [v, tm_U]))[q.1]? = some v := by
      unfold tm_ent at a1
      dsimp only at a1
      by_cases hj : q.1 < (args.flatMap (fun v => if tm_nl v then [v] else [v, tm_U])).length
      · rw [List.getElem?_append_left hj] at a1; exact a1
      · rw [List.getElem?_append_right (by omega)] at a1
        have := List.mem_of_getElem? a1
        rw [List.mem_replicate] at this
        exact absurd this.2 a2
    have := tm_lv_args ρ σ args 0 q.1 v this a2
    rw [Nat.zero_add] at this
    have h3 := he.2.2 _ this
    rw [a3]; exact h3
  · unfold tm_ent
    simp only [List.length_append, List.length_replicate]
    omega
  · intro hl v hv
    rcases h1 with h1 | h1
    · rw [hl] at h1; cases h1
    · unfold tm_ent at hv
      rcases List.mem_append.mp hv with a | a
      · obtain ⟨w, hw, hw2⟩ := List.mem_flatMap.mp a
        have := List.all_eq_true.mp h1 w hw
        rw [if_pos this] at hw2
        rw [List.mem_singleton.mp hw2]; exact this
      · rw [(List.mem_replicate.mp a).2]; rfl
