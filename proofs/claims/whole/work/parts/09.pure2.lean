/-! WHAT A RUN OF THE SMALL MACHINE KEEPS -/
theorem tm_wv_take {n k : Nat} {l : List Value} (h : ∀ v ∈ l, tm_wv n v) : ∀ v ∈ (l.take k).reverse, tm_wv n v := fun v hv => h v (List.mem_of_mem_take (List.mem_reverse.mp hv))
theorem tm_wv_drop {n k : Nat} {l : List Value} (h : ∀ v ∈ l, tm_wv n v) : ∀ v ∈ l.drop k, tm_wv n v := fun v hv => h v (List.mem_of_mem_drop hv)
/-- what a call is known to keep -/
def tm_CK (m : tm_M) (h : tm_H) (r : tm_R) : Prop := tm_wf r.1 ∧ (∀ v, r.2 = some v → tm_wv (tm_sz r.1) v) ∧ tm_sz h ≤ tm_sz r.1 ∧ tm_kc r.1 = tm_kc h + tm_mc m ∧ (tm_mc m = 0 → tm_ks r.1 = tm_ks h) ∧ (tm_mc m ≠ 0 → tm_ks r.1 = tm_ks h + tm_ms m)
def tm_CA (cal : tm_M → List Value → tm_H → Option tm_R) : Prop := ∀ (m : tm_M) (as : List Value) (h : tm_H) (r : tm_R), cal m as h = some r → tm_wf h → (∀ v ∈ as, tm_wv (tm_sz h) v) → tm_CK m h r
theorem tm_may_mc {m m2 : tm_M} {rest : List Value} (h : tm_may m m2 rest = true) : (tm_mc m2 = 0 ∧ tm_ms m2 = 0) ∨ (tm_mc m ≠ 0 ∧ tm_mc m2 ≠ 0) := by
  unfold tm_may at h
  simp only [Bool.and_eq_true, Bool.or_eq_true, beq_iff_eq, bne_iff_ne] at h
  exact h.2
theorem tm_CK_Gr {m m2 : tm_M} {rest : List Value} {h : tm_H} {r : tm_R} (hm : tm_may m m2 rest = true) (k : tm_CK m2 h r) : tm_Gr (tm_mc m) h r.1 := by
  obtain ⟨-, -, h3, h4, h5, h6⟩ := k
  rcases tm_may_mc hm with ⟨a, b⟩ | ⟨a, b⟩
  · rw [a] at h4
    exact ⟨h3, by omega, by rw [h5 a]; exact Nat.le_refl _, fun _ => ⟨h4, h5 a⟩⟩
  · exact ⟨h3, by omega, by rw [h6 b]; omega, fun z => absurd z a⟩
theorem tm_go_iv {n pc : Nat} {ls rest : List Value} {r : Option tm_R} {x : tm_N} (h : tm_go n pc ls rest r = some x) : ∃ r', n = 3 ∧ r = some r' ∧ x = .inr (pc + 3, ls, r'.2.toList ++ rest, r'.1) := by
  unfold tm_go at h
  split at h
  · obtain ⟨r', h1, h2⟩ := Option.map_eq_some_iff.mp h
    exact ⟨r', by assumption, h1, h2.symm⟩
  · cases h
theorem tm_wv_app {n : Nat} {o : Option Value} {l : List Value} (ho : ∀ v, o = some v → tm_wv n v) (h : ∀ v ∈ l, tm_wv n v) : ∀ v ∈ o.toList ++ l, tm_wv n v := by
  intro v hv
  rcases List.mem_append.mp hv with q | q
  · exact ho v (Option.mem_toList.mp q)
  · exact h v q
set_option maxHeartbeats 1000000 in
theorem tm_in_iv {G : tm_PG} {cal : tm_M → List Value → tm_H → Option tm_R} (hc : tm_CA cal) {m : tm_M} {i : Instr} {n pc pc' : Nat} {ls st ls' st' : List Value} {h h' : tm_H} (e : tm_in G cal m i n pc ls st h = some (.inr (pc', ls', st', h'))) (hv : tm_Iv h ls st) : tm_Iv h' ls' st' ∧ tm_Gr (tm_mc m) h h' := by
  obtain ⟨hw, hl, hs⟩ := hv
  have key : ∀ {m2 : tm_M} {as rest : List Value} {r : tm_R}, tm_may m m2 rest = true → cal m2 as h = some r → (∀ v ∈ as, tm_wv (tm_sz h) v) → (∀ v ∈ rest, tm_wv (tm_sz h) v) → (.inr (pc', ls', st', h') : tm_N) = .inr (pc + 3, ls, r.2.toList ++ rest, r.1) → tm_Iv h' ls' st' ∧ tm_Gr (tm_mc m) h h' := by
    intro m2 as rest r hm hr ha hrest q
    cases q
    have k := hc _ _ _ _ hr hw ha
    exact ⟨⟨k.1, fun v hv => tm_wv_le (hl v hv) k.2.2.1, tm_wv_app k.2.1 (fun v hv => tm_wv_le (hrest v hv) k.2.2.1)⟩, tm_CK_Gr hm k⟩
  unfold tm_in at e
  split at e
  · split at e
    · split at e
      · rename_i hcnd
        obtain ⟨r, -, hr, q⟩ := tm_go_iv e
        exact key hcnd.2.2 hr (tm_wv_take hs) (tm_wv_drop hs) q
      · cases e
    · split at e
      · rename_i n2 dp a sp a0 rest _
        split at e
        · split at e
          · cases e
          · obtain ⟨r, -, hr, q⟩ := tm_go_iv e
            cases hr
            cases q
            have ha0 : a ≠ 0 := Nat.ne_of_gt (hs (.ref a) (List.mem_cons_of_mem _ (List.mem_cons_of_mem _ List.mem_cons_self)) a rfl).1
            refine ⟨⟨tm_wf_up ha0 hw (fun _ _ e9 => by cases e9), by rw [tm_sz_up ha0]; exact hl, ?_⟩, tm_Gr_up _ _ _ ha0⟩
            rw [tm_sz_up ha0]
            exact tm_wv_tl (tm_wv_tl (tm_wv_tl (tm_wv_tl (tm_wv_tl hs))))
        · cases e
      · split at e
        · cases e
        · obtain ⟨r, -, hr, q⟩ := tm_go_iv e
          cases hr
          cases q
          exact ⟨⟨hw, hl, tm_wv_cons (tm_wv_int _ _) (tm_wv_tl (tm_wv_tl hs))⟩, tm_Gr_rf _ _⟩
      · split at e
        · cases e
        · obtain ⟨r, -, hr, q⟩ := tm_go_iv e
          cases hr
          cases q
          exact ⟨⟨hw, hl, tm_wv_cons (tm_wv_int _ _) (tm_wv_tl (tm_wv_tl hs))⟩, tm_Gr_rf _ _⟩
      · split at e
        · cases e
        · obtain ⟨r, -, hr, q⟩ := tm_go_iv e
          cases hr
          cases q
          exact ⟨⟨hw, hl, tm_wv_cons (tm_wv_int _ _) (tm_wv_tl hs)⟩, tm_Gr_rf _ _⟩
      · cases e
  · split at e
    · rename_i m2 _
      split at e
      · rename_i b rest hd
        split at e
        · rename_i hcnd
          obtain ⟨r, -, hr, q⟩ := tm_go_iv e
          have hd' : ∀ v ∈ (.ref b :: rest : List Value), tm_wv (tm_sz h) v := by rw [← hd]; exact tm_wv_drop hs
          exact key hcnd.2.1 hr (tm_wv_cons (hd' _ List.mem_cons_self) (tm_wv_take hs)) (tm_wv_tl hd') q
        · cases e
      · cases e
    · split at e
      · split at e
        · cases e
        · obtain ⟨r, -, hr, q⟩ := tm_go_iv e
          cases hr
          cases q
          exact ⟨⟨hw, hl, tm_wv_cons (tm_wv_int _ _) (tm_wv_tl hs)⟩, tm_Gr_rf _ _⟩
      · split at e
        · cases e
        · obtain ⟨r, -, hr, q⟩ := tm_go_iv e
          cases hr
          cases q
          exact ⟨⟨hw, hl, tm_wv_cons (tm_wv_int _ _) (tm_wv_tl (tm_wv_tl hs))⟩, tm_Gr_rf _ _⟩
      · cases e
  · split at e
    · rename_i m2 _
      split at e
      · rename_i b rest hd
        split at e
        · rename_i hcnd
          obtain ⟨r, -, hr, q⟩ := tm_go_iv e
          have hd' : ∀ v ∈ (.ref b :: rest : List Value), tm_wv (tm_sz h) v := by rw [← hd]; exact tm_wv_drop hs
          exact key hcnd.2 hr (tm_wv_cons (hd' _ List.mem_cons_self) (tm_wv_take hs)) (tm_wv_tl hd') q
        · cases e
      · cases e
    · split at e
      · split at e
        · cases e
        · obtain ⟨r, -, hr, q⟩ := tm_go_iv e
          cases hr
          cases q
          exact ⟨⟨hw, hl, tm_wv_tl hs⟩, tm_Gr_rf _ _⟩
      · cases e
  · cases e
theorem tm_in_inl {G : tm_PG} {cal : tm_M → List Value → tm_H → Option tm_R} {m : tm_M} {i : Instr} {n pc : Nat} {ls st : List Value} {h : tm_H} {r : tm_R} (e : tm_in G cal m i n pc ls st h = some (.inl r)) : False := by
  have key : ∀ {n pc : Nat} {ls rest : List Value} {r0 : Option tm_R}, tm_go n pc ls rest r0 = some (.inl r) → False := by
    intro n pc ls rest r0 q
    obtain ⟨r', -, -, q⟩ := tm_go_iv q
    cases q
  unfold tm_in at e
  split at e <;> (try split at e) <;> (try split at e) <;> (try split at e) <;> (try split at e) <;> first | exact key e | cases e
theorem tm_en_iv {m : tm_M} {i : Instr} {n k : Nat} {st : List Value} {h : tm_H} {r : tm_R} (e : tm_en m i n st h = some r) (hs : ∀ v ∈ st, tm_wv k v) : r.1 = h ∧ ∀ v, r.2 = some v → tm_wv k v := by
  unfold tm_en at e
  split at e
  · split at e
    · split at e
      · cases e; exact ⟨rfl, fun v q => by cases q; exact tm_wv_int _ _⟩
      · cases e
    · cases e; exact ⟨rfl, fun v q => by cases q; exact tm_wv_long _ _⟩
    · cases e; exact ⟨rfl, fun v q => by cases q; exact hs _ List.mem_cons_self⟩
    · cases e; exact ⟨rfl, fun v q => by cases q⟩
    · cases e
  · cases e
theorem tm_st_iv {G : tm_PG} (hG : tm_OkF G) {cal : tm_M → List Value → tm_H → Option tm_R} (hc : tm_CA cal) {m : tm_M} {pc : Nat} {ls st : List Value} {h : tm_H} {x : tm_N} (e : tm_st G cal m pc ls st h = some x) (hv : tm_Iv h ls st) :
    (∀ r, x = .inl r → r.1 = h ∧ ∀ v, r.2 = some v → tm_wv (tm_sz h) v) ∧ ∀ pc' ls' st' h', x = .inr (pc', ls', st', h') → tm_Iv h' ls' st' ∧ tm_Gr (tm_mc m) h h' := by
  obtain ⟨hw, hl, hs⟩ := id hv
  unfold tm_st at e
  split at e
  · split at e
    · split at e
      · rename_i hq
        split at e
        · cases e
          exact ⟨fun r q => (by cases q), fun _ _ _ _ q => by cases q; exact ⟨⟨hw, hl, tm_pu_iv hq hl hs⟩, tm_Gr_rf _ _⟩⟩
        · cases e
      · cases e
    · split at e
      · rename_i hq
        split at e
        · cases e
          exact ⟨fun r q => (by cases q), fun _ _ _ _ q => by cases q; exact ⟨⟨hw, (tm_lo_iv hq hl hs).1, (tm_lo_iv hq hl hs).2⟩, tm_Gr_rf _ _⟩⟩
        · cases e
      · cases e
    · split at e
      · split at e
        · rename_i hq
          cases e
          exact ⟨fun r q => (by cases q), fun _ _ _ _ q => by cases q; exact ⟨⟨hw, hl, tm_br_iv hq hs⟩, tm_Gr_rf _ _⟩⟩
        · cases e
      · cases e
    · split at e
      · rename_i hq
        split at e
        · cases e
          have k := tm_he_iv hG hq hw hs
          exact ⟨fun r q => (by cases q), fun _ _ _ _ q => by cases q; exact ⟨⟨k.1, fun v hv => tm_wv_le (hl v hv) k.2.2.1, k.2.1⟩, k.2.2⟩⟩
        · cases e
      · cases e
    · exact ⟨fun r q => by subst q; exact (tm_in_inl e).elim, fun _ _ _ _ q => by subst q; exact tm_in_iv hc e hv⟩
    · split at e
      · rename_i hq
        cases e
        exact ⟨fun r q => by cases q; exact tm_en_iv hq hs, fun _ _ _ _ q => by cases q⟩
      · cases e
  · cases e
theorem tm_run_iv {G : tm_PG} (hG : tm_OkF G) {cal : tm_M → List Value → tm_H → Option tm_R} (hc : tm_CA cal) (m : tm_M) : ∀ (f pc : Nat) (ls st : List Value) (h : tm_H) (r : tm_R), tm_run G cal m f pc ls st h = some r → tm_Iv h ls st → tm_wf r.1 ∧ (∀ v, r.2 = some v → tm_wv (tm_sz r.1) v) ∧ tm_Gr (tm_mc m) h r.1 := by
  intro f
  induction f with
  | zero => intro pc ls st h r e; simp [tm_run] at e
  | succ f ih =>
    intro pc ls st h r e hv
    rw [tm_run] at e
    cases hs : tm_st G cal m pc ls st h with
    | none => rw [hs] at e; cases e
    | some x =>
      rw [hs] at e
      have k := tm_st_iv hG hc hs hv
      cases x with
      | inl r' =>
        cases e
        obtain ⟨e1, e2⟩ := k.1 _ rfl
        rw [e1]
        exact ⟨hv.1, e2, tm_Gr_rf _ _⟩
      | inr c =>
        obtain ⟨pc', ls', st', h'⟩ := c
        have k2 := k.2 _ _ _ _ rfl
        have k3 := ih _ _ _ _ _ e k2.1
        exact ⟨k3.1, k3.2.1, tm_Gr_tr k2.2 k3.2.2⟩
theorem tm_ent_iv {n mx : Nat} {as : List Value} (h : ∀ v ∈ as, tm_wv n v) : ∀ v ∈ tm_ent mx as, tm_wv n v := by
  have hU : tm_wv n tm_U := fun _ q => by cases q
  intro v hv
  unfold tm_ent at hv
  rcases List.mem_append.mp hv with a | a
  · obtain ⟨w, hw, hw2⟩ := List.mem_flatMap.mp a
    split at hw2
    · rw [List.mem_singleton.mp hw2]; exact h w hw
    · rcases List.mem_cons.mp hw2 with rfl | q
      · exact h _ hw
      · rw [List.mem_singleton.mp q]; exact hU
  · rw [(List.mem_replicate.mp a).2]; exact hU
theorem tm_sz_bk {h : tm_H} {n k z : Nat} : tm_sz (tm_up h 0 (tm_bk n k z)) = n := by unfold tm_sz tm_up; rw [if_pos rfl]; rfl
theorem tm_kc_bk {h : tm_H} {n k z : Nat} : tm_kc (tm_up h 0 (tm_bk n k z)) = k := by unfold tm_kc tm_up; rw [if_pos rfl]; rfl
theorem tm_ks_bk {h : tm_H} {n k z : Nat} : tm_ks (tm_up h 0 (tm_bk n k z)) = z := by unfold tm_ks tm_up; rw [if_pos rfl]; rfl
theorem tm_fin_ck {m : tm_M} {h : tm_H} {r r' : tm_R} (e : tm_fin m h (some r) = some r') (k : tm_wf r.1 ∧ (∀ v, r.2 = some v → tm_wv (tm_sz r.1) v) ∧ tm_Gr (tm_mc m) h r.1) : tm_CK m h r' := by
  obtain ⟨h1, v⟩ := r
  obtain ⟨k1, k2, k3⟩ := k
  unfold tm_fin at e
  dsimp only at e k1 k2 k3
  split at e
  · rename_i hm
    cases e
    exact ⟨k1, k2, k3.1, by rw [(k3.2.2.2 hm).1, hm]; rfl, fun _ => (k3.2.2.2 hm).2, fun q => absurd hm q⟩
  · rename_i hm
    split at e
    · cases e
      refine ⟨?_, ?_, ?_, tm_kc_bk, fun q => absurd q hm, fun _ => tm_ks_bk⟩
      · intro k q1 q2 c fs q3 w hw
        rw [tm_sz_bk] at q2 ⊢
        unfold tm_up at q3
        dsimp only at q3
        rw [if_neg (by omega)] at q3
        exact k1 k q1 q2 c fs q3 w hw
      · intro w hw
        rw [tm_sz_bk]; exact k2 w hw
      · rw [tm_sz_bk]; exact k3.1
    · cases e
theorem tm_cd_ck {G : tm_PG} (hG : tm_OkF G) : ∀ d : Nat, tm_CA (tm_cd G d) := by
  intro d
  induction d with
  | zero => intro m as h r e; cases e
  | succ d ih =>
    intro m as h r e hw ha
    rw [tm_cd] at e
    split at e
    · exact ih _ _ _ _ e hw ha
    · split at e
      · cases hq : tm_evc G (tm_cd G d) m 0 (tm_ent (tm_mx m) as) [] h with
        | none => rw [hq] at e; cases e
        | some r0 =>
          rw [hq] at e
          obtain ⟨f, hf⟩ := (tm_evc_iff _ _ _ _ _ _ _ _).mp hq
          exact tm_fin_ck e (tm_run_iv hG ih m _ _ _ _ _ _ hf ⟨hw, tm_ent_iv ha, fun v hv => by cases hv⟩)
      · cases e
