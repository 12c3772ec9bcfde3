/-! WHAT A STEP OF THE SMALL MACHINE KEEPS -/
def tm_Iv (h : tm_H) (ls st : List Value) : Prop := tm_wf h ∧ (∀ v ∈ ls, tm_wv (tm_sz h) v) ∧ ∀ v ∈ st, tm_wv (tm_sz h) v
/-- from h to h': nothing goes, the books grow; with nothing made they stay -/
def tm_Gr (mc : Nat) (h h' : tm_H) : Prop := tm_sz h ≤ tm_sz h' ∧ tm_kc h ≤ tm_kc h' ∧ tm_ks h ≤ tm_ks h' ∧ (mc = 0 → tm_kc h' = tm_kc h ∧ tm_ks h' = tm_ks h)
theorem tm_Gr_rf (mc : Nat) (h : tm_H) : tm_Gr mc h h := ⟨Nat.le_refl _, Nat.le_refl _, Nat.le_refl _, fun _ => ⟨rfl, rfl⟩⟩
theorem tm_Gr_tr {mc : Nat} {h h1 h2 : tm_H} (a : tm_Gr mc h h1) (b : tm_Gr mc h1 h2) : tm_Gr mc h h2 := ⟨Nat.le_trans a.1 b.1, Nat.le_trans a.2.1 b.2.1, Nat.le_trans a.2.2.1 b.2.2.1, fun z => ⟨(b.2.2.2 z).1.trans (a.2.2.2 z).1, (b.2.2.2 z).2.trans (a.2.2.2 z).2⟩⟩
theorem tm_Gr_up (mc : Nat) (h : tm_H) {a : Nat} (e : va_E) (ha : a ≠ 0) : tm_Gr mc h (tm_up h a e) := by
  refine ⟨?_, ?_, ?_, fun _ => ⟨?_, ?_⟩⟩
  · rw [tm_sz_up ha]; exact Nat.le_refl _
  · rw [tm_kc_up ha]; exact Nat.le_refl _
  · rw [tm_ks_up ha]; exact Nat.le_refl _
  · rw [tm_kc_up ha]
  · rw [tm_ks_up ha]
theorem tm_Gr_new {mc : Nat} (h : tm_H) (e : va_E) (n : Nat) (hm : mc ≠ 0) : tm_Gr mc h (tm_new h e n) := by
  refine ⟨?_, ?_, ?_, fun z => absurd z hm⟩
  · rw [tm_sz_new]; omega
  · rw [tm_kc_new]; omega
  · rw [tm_ks_new]; omega
theorem tm_wv_tl {n : Nat} {v : Value} {l : List Value} (h : ∀ w ∈ v :: l, tm_wv n w) : ∀ w ∈ l, tm_wv n w := fun w hw => h w (List.mem_cons_of_mem _ hw)
theorem tm_wv_cons {n : Nat} {v : Value} {l : List Value} (hv : tm_wv n v) (h : ∀ w ∈ l, tm_wv n w) : ∀ w ∈ v :: l, tm_wv n w := fun w hw => by
  rcases List.mem_cons.mp hw with rfl | hw
  · exact hv
  · exact h w hw
set_option maxHeartbeats 1000000 in
theorem tm_pu_iv {G : tm_PG} {oc k n : Nat} {i : Instr} {ls st st' : List Value} (h : tm_pu G oc i ls st = some (k, st')) (hl : ∀ v ∈ ls, tm_wv n v) (hs : ∀ v ∈ st, tm_wv n v) : ∀ v ∈ st', tm_wv n v := by
  have H1 : ∀ {v : Value} {w : List Value}, tm_wv n v → (∀ x ∈ w, tm_wv n x) → ∀ x ∈ v :: w, tm_wv n x := fun a b => tm_wv_cons a b
  unfold tm_pu at h
  split at h <;> (try split at h) <;> (try split at h) <;> cases h <;> first
    | exact hs
    | exact H1 (tm_wv_int _ _) hs
    | exact H1 (tm_wv_long _ _) hs
    | exact H1 (tm_wv_null _) hs
    | exact H1 (tm_wv_str _ _) hs
    | exact H1 (tm_wv_int _ _) (tm_wv_tl hs)
    | exact H1 (tm_wv_long _ _) (tm_wv_tl hs)
    | exact H1 (tm_wv_int _ _) (tm_wv_tl (tm_wv_tl hs))
    | exact H1 (tm_wv_long _ _) (tm_wv_tl (tm_wv_tl hs))
    | exact tm_wv_tl hs
    | exact H1 (hs _ List.mem_cons_self) hs
    | exact H1 (hs _ List.mem_cons_self) (H1 (hs _ (List.mem_cons_of_mem _ List.mem_cons_self)) hs)
    | exact H1 (hl _ (List.mem_of_getElem? (by assumption))) hs
theorem tm_set_iv {n k : Nat} {v : Value} {ls : List Value} (hv : tm_wv n v) (hl : ∀ v ∈ ls, tm_wv n v) : ∀ w ∈ ls.set k v, tm_wv n w := fun w hw => by
  rcases List.mem_or_eq_of_mem_set hw with q | q
  · exact hl w q
  · rw [q]; exact hv
theorem tm_lo_iv {lg : Bool} {mx k n : Nat} {i : Instr} {ls st ls' st' : List Value} (h : tm_lo' lg mx i ls st = some (k, ls', st')) (hl : ∀ v ∈ ls, tm_wv n v) (hs : ∀ v ∈ st, tm_wv n v) : (∀ v ∈ ls', tm_wv n v) ∧ ∀ v ∈ st', tm_wv n v := by
  have hU : tm_wv n tm_U := fun _ q => by cases q
  unfold tm_lo' at h
  split at h <;> (try split at h) <;> (try split at h) <;> cases h <;> first
    | exact ⟨tm_set_iv (tm_wv_int _ _) hl, tm_wv_tl hs⟩
    | exact ⟨tm_set_iv (tm_wv_int _ _) hl, hs⟩
    | exact ⟨tm_set_iv (hs _ List.mem_cons_self) hl, tm_wv_tl hs⟩
    | exact ⟨tm_set_iv hU (tm_set_iv (tm_wv_long _ _) hl), tm_wv_tl hs⟩
theorem tm_br_iv {i : Instr} {n pc k t : Nat} {st st' : List Value} (h : tm_br i n pc st = some (t, st')) (hs : ∀ v ∈ st, tm_wv k v) : ∀ v ∈ st', tm_wv k v := by
  unfold tm_br at h
  split at h
  · obtain ⟨t0, -, h1⟩ := Option.map_eq_some_iff.mp h; cases h1; exact hs
  · split at h
    · obtain ⟨t0, -, h1⟩ := Option.map_eq_some_iff.mp h; cases h1; exact tm_wv_tl hs
    · cases h
  · split at h
    · obtain ⟨t0, -, h1⟩ := Option.map_eq_some_iff.mp h; cases h1; exact tm_wv_tl (tm_wv_tl hs)
    · cases h
  · split at h
    · obtain ⟨t0, -, h1⟩ := Option.map_eq_some_iff.mp h; cases h1; exact tm_wv_tl hs
    · cases h; exact tm_wv_tl hs
    · cases h
  · split at h
    · obtain ⟨t0, -, h1⟩ := Option.map_eq_some_iff.mp h; cases h1; exact tm_wv_tl hs
    · cases h; exact tm_wv_tl hs
    · cases h
  · split at h
    · split at h
      · obtain ⟨t0, -, h1⟩ := Option.map_eq_some_iff.mp h; cases h1; exact tm_wv_tl hs
      · split at h
        · obtain ⟨t0, -, h1⟩ := Option.map_eq_some_iff.mp h; cases h1; exact tm_wv_tl hs
        · cases h
    · cases h
  · cases h
set_option maxHeartbeats 1000000 in
theorem tm_he_iv {G : tm_PG} (hG : tm_OkF G) {m : tm_M} {i : Instr} {n : Nat} {st st' : List Value} {h h' : tm_H} (e : tm_he G m i st h = some (n, st', h')) (hw : tm_wf h) (hs : ∀ v ∈ st, tm_wv (tm_sz h) v) : tm_wf h' ∧ (∀ v ∈ st', tm_wv (tm_sz h') v) ∧ tm_Gr (tm_mc m) h h' := by
  have H1 : ∀ {k : Nat} {v : Value} {w : List Value}, tm_wv k v → (∀ x ∈ w, tm_wv k x) → ∀ x ∈ v :: w, tm_wv k x := fun a b => tm_wv_cons a b
  unfold tm_he at e
  split at e
  · split at e
    · rename_i k a st0 ci j hf
      split at e
      · rename_i c0 fs ha
        split at e
        · split at e
          · rename_i v hv
            cases e
            obtain ⟨a1, a2⟩ := hs (.ref a) List.mem_cons_self a rfl
            exact ⟨hw, H1 (hw a a1 a2 _ _ ha _ (List.mem_of_getElem? hv)) (tm_wv_tl hs), tm_Gr_rf _ _⟩
          · cases e
        · cases e
      · cases e
    · cases e
  · split at e
    · rename_i v a _ _ _ _
      split at e
      · rename_i c0 fs ha
        split at e
        · cases e
          obtain ⟨a1, a2⟩ := hs (.ref a) (List.mem_cons_of_mem _ List.mem_cons_self) a rfl
          have ha0 : a ≠ 0 := Nat.ne_of_gt a1
          refine ⟨tm_wf_up ha0 hw (fun c9 f9 e9 w hw9 => ?_), by rw [tm_sz_up ha0]; exact tm_wv_tl (tm_wv_tl hs), tm_Gr_up _ _ _ ha0⟩
          cases e9
          exact tm_set_iv (hs v List.mem_cons_self) (hw a a1 a2 _ _ ha) w hw9
        · cases e
      · cases e
    · cases e
  · split at e
    · split at e
      · split at e
        · cases e
        · cases e; exact ⟨hw, H1 (tm_wv_int _ _) (tm_wv_tl (tm_wv_tl hs)), tm_Gr_rf _ _⟩
      · cases e
    · cases e
  · split at e
    · split at e
      · split at e
        · cases e
        · cases e; exact ⟨hw, H1 (tm_wv_int _ _) (tm_wv_tl (tm_wv_tl hs)), tm_Gr_rf _ _⟩
      · cases e
    · cases e
  · split at e
    · split at e
      · split at e
        · cases e
        · cases e; exact ⟨hw, H1 (tm_wv_long _ _) (tm_wv_tl (tm_wv_tl hs)), tm_Gr_rf _ _⟩
      · cases e
    · cases e
  · split at e
    · rename_i a _
      split at e
      · split at e
        · cases e
        · cases e
          have ha0 : a ≠ 0 := Nat.ne_of_gt (hs (.ref a) (List.mem_cons_of_mem _ (List.mem_cons_of_mem _ List.mem_cons_self)) a rfl).1
          exact ⟨tm_wf_up ha0 hw (fun _ _ e9 => by cases e9), by rw [tm_sz_up ha0]; exact tm_wv_tl (tm_wv_tl (tm_wv_tl hs)), tm_Gr_up _ _ _ ha0⟩
      · cases e
    · cases e
  · split at e
    · rename_i a _
      split at e
      · split at e
        · cases e
        · cases e
          have ha0 : a ≠ 0 := Nat.ne_of_gt (hs (.ref a) (List.mem_cons_of_mem _ (List.mem_cons_of_mem _ List.mem_cons_self)) a rfl).1
          exact ⟨tm_wf_up ha0 hw (fun _ _ e9 => by cases e9), by rw [tm_sz_up ha0]; exact tm_wv_tl (tm_wv_tl (tm_wv_tl hs)), tm_Gr_up _ _ _ ha0⟩
      · cases e
    · cases e
  · split at e
    · rename_i a _
      split at e
      · split at e
        · cases e
        · cases e
          have ha0 : a ≠ 0 := Nat.ne_of_gt (hs (.ref a) (List.mem_cons_of_mem _ (List.mem_cons_of_mem _ List.mem_cons_self)) a rfl).1
          exact ⟨tm_wf_up ha0 hw (fun _ _ e9 => by cases e9), by rw [tm_sz_up ha0]; exact tm_wv_tl (tm_wv_tl (tm_wv_tl hs)), tm_Gr_up _ _ _ ha0⟩
      · cases e
    · cases e
  · split at e
    · split at e
      · split at e
        · cases e; exact ⟨hw, H1 (tm_wv_int _ _) (tm_wv_tl hs), tm_Gr_rf _ _⟩
        · cases e
      · cases e
    · cases e
  · split at e
    · rename_i ci hk
      split at e
      · cases e
      · rename_i hm
        cases e
        obtain ⟨C, T, N, h1, -⟩ := hG.2.2 _ _ _ hk
        obtain ⟨-, -, -, -, -, -, -, h11, -⟩ := hG.2.1 _ _ _ _ h1
        refine ⟨tm_wf_new hw (fun c9 f9 e9 w hw9 => ?_), ?_, tm_Gr_new _ _ _ hm⟩
        · cases e9; exact tm_wv_le (h11 w hw9).1 (Nat.zero_le _)
        · rw [tm_sz_new]
          exact H1 (fun a ea => by cases ea; exact ⟨Nat.succ_le_succ (Nat.zero_le _), Nat.le_refl _⟩) (fun w hw => tm_wv_le (hs w hw) (by omega))
    · cases e
  · split at e
    · split at e
      · cases e
      · rename_i hm
        have hm : tm_mc m ≠ 0 := fun q => hm (Or.inl q)
        split at e
        · cases e
          refine ⟨tm_wf_new hw (fun _ _ e9 => by cases e9), ?_, tm_Gr_new _ _ _ hm⟩
          rw [tm_sz_new]
          exact H1 (fun a ea => by cases ea; exact ⟨Nat.succ_le_succ (Nat.zero_le _), Nat.le_refl _⟩) (fun w hw => tm_wv_le (hs w (List.mem_cons_of_mem _ hw)) (by omega))
        · cases e
          refine ⟨tm_wf_new hw (fun _ _ e9 => by cases e9), ?_, tm_Gr_new _ _ _ hm⟩
          rw [tm_sz_new]
          exact H1 (fun a ea => by cases ea; exact ⟨Nat.succ_le_succ (Nat.zero_le _), Nat.le_refl _⟩) (fun w hw => tm_wv_le (hs w (List.mem_cons_of_mem _ hw)) (by omega))
        · cases e
          refine ⟨tm_wf_new hw (fun _ _ e9 => by cases e9), ?_, tm_Gr_new _ _ _ hm⟩
          rw [tm_sz_new]
          exact H1 (fun a ea => by cases ea; exact ⟨Nat.succ_le_succ (Nat.zero_le _), Nat.le_refl _⟩) (fun w hw => tm_wv_le (hs w (List.mem_cons_of_mem _ hw)) (by omega))
        · cases e
    · cases e
  · cases e
