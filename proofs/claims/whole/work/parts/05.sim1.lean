/-! STEPS THAT TOUCH NO HEAP -/
section TMS1
variable {p : Program} {l : Launch} {e : Env} {R : Room} {s : State} {m : MethodId} {args : Array Value} {below : List Frame} {meth : Method} {c : Code} {H : Heap} {locs : List Loc} {cells slots : Nat} {Q : State → Prop}
variable {cc : ByteArray} {pc n : Nat} {lc : Array Slot} {ρ σ : Nat → Nat} {lg : Bool} {ls ls' st st' : List Value} {mx : Nat} {i : Instr}
theorem tm_cat_nl {ρ σ : Nat → Nat} {v : Value} (h : tm_nl v = true) : (tm_vm ρ σ v).category = 1 := tm_nl_cat ρ σ v h
theorem tm_ldcwS (hexec : p.tables.exec = Jvm.exec) (hb : c.code = cc) {own tx : String} {index q : Nat} {rest : List Value} (hown : s.vm.findClass own = some m.cls) (hZ : vk_R own index tx q s) (hdg : decode cc pc = .ok (.ldc_w index, 3))
    (k : W p l e R s m args below meth c H locs cells slots Q (F0 m (pc + 3) lc (.ref q :: rest))) : W p l e R s m args below meth c H locs cells slots Q (F0 m pc lc rest) := by
  intro T hT X
  obtain ⟨t, a1, b1⟩ := k T hT X
  exact ⟨t, X.ldcStringW hexec hown (text := tx) (a := q) hZ.1 hZ.2 (g := F0 m pc lc rest) rfl (by rw [hb]; exact hdg) t a1, b1⟩
set_option maxHeartbeats 4000000 in
theorem tm_sim_pu {G : tm_PG} {oc : Nat} {own : String} (hx : p.tables.exec = Jvm.exec) (hb : c.code = cc) (hown : s.vm.findClass own = some m.cls)
    (hcon : ∀ k x, tm_con G oc k = some x → (Jvm.Cond.constant own k x).before args s = true)
    (hcoL : ∀ k x, tm_coL G oc k = some x → (Jvm.Cond.constantLong own k x).before args s = true)
    (hstr : ∀ k x, tm_str G oc k = some x → ∃ tx, vk_R own k tx (σ x) s)
    (hl : tm_L ρ σ lg ls lc mx) (hdg : decode cc pc = .ok (i, n)) (h : tm_pu G oc i ls st = some (n, st'))
    (kk : W p l e R s m args below meth c H locs cells slots Q (F0 m (pc + n) lc (st'.map (tm_vm ρ σ)))) : W p l e R s m args below meth c H locs cells slots Q (F0 m pc lc (st.map (tm_vm ρ σ))) := by
  unfold tm_pu at h
  split at h
  · cases h; exact lv_iconst hx hb hdg rfl kk
  · cases h; exact lv_bipush hx hb hdg rfl kk
  · cases h; exact lv_sipush hx hb hdg rfl kk
  · cases h; exact lv_lconst hx hb hdg rfl kk
  · split at h
    · rename_i hk; cases h; exact lv_iload_n hx hb hdg rfl (tm_L_at hl hk (by intro q; cases q)) kk
    · cases h
  · split at h
    · rename_i hk; cases h; exact lv_iload hx hb hdg (tm_L_at hl hk (by intro q; cases q)) kk
    · cases h
  · split at h
    · rename_i hk; cases h; exact lv_lload_n hx hb hdg rfl (tm_L_at hl hk (by intro q; cases q)) kk
    · cases h
  · split at h
    · rename_i hk; cases h; exact lv_lload hx hb hdg (tm_L_at hl hk (by intro q; cases q)) kk
    · cases h
  · split at h
    · rename_i hk; cases h; exact lv_aload_n hx hb hdg rfl (tm_L_at hl hk (by intro q; cases q)) kk
    · rename_i hk; cases h; exact lv_aload_nN hx hb hdg rfl (tm_L_at hl hk (by intro q; cases q)) kk
    · rename_i hk; cases h; exact lv_aload_n hx hb hdg rfl (tm_L_at hl hk (by intro q; cases q)) kk
    · cases h
  · split at h
    · rename_i hk; cases h; exact lv_aload hx hb hdg (tm_L_at hl hk (by intro q; cases q)) kk
    · rename_i hk; cases h; exact lv_aloadN hx hb hdg (tm_L_at hl hk (by intro q; cases q)) kk
    · rename_i hk; cases h; exact lv_aload hx hb hdg (tm_L_at hl hk (by intro q; cases q)) kk
    · cases h
  · split at h
    · cases h; exact lv_iadd hx hb hdg kk
    · cases h
  · split at h
    · cases h; exact lv_isub hx hb hdg kk
    · cases h
  · split at h
    · cases h; exact lv_imul hx hb hdg kk
    · cases h
  · split at h
    · cases h; exact lv_iand hx hb hdg kk
    · cases h
  · split at h
    · cases h; exact lv_ior hx hb hdg kk
    · cases h
  · split at h
    · cases h; exact lv_ixor hx hb hdg kk
    · cases h
  · split at h
    · split at h
      · cases h
      · rename_i hne; cases h; exact lv_idiv hx hb hdg hne kk
    · cases h
  · split at h
    · split at h
      · cases h
      · rename_i hne; cases h; exact lv_irem hx hb hdg hne kk
    · cases h
  · split at h
    · cases h; exact lv_ishl hx hb hdg kk
    · cases h
  · split at h
    · cases h; exact lv_ishr hx hb hdg kk
    · cases h
  · split at h
    · cases h; exact lv_iushr hx hb hdg rfl kk
    · cases h
  · split at h
    · cases h; exact lv_ineg hx hb hdg kk
    · cases h
  · split at h
    · cases h; exact lv_ladd hx hb hdg kk
    · cases h
  · split at h
    · cases h; exact lv_lmul hx hb hdg kk
    · cases h
  · split at h
    · cases h; exact W.lcmp hx hb hdg kk
    · cases h
  · split at h
    · cases h; exact lv_i2l hx hb hdg rfl kk
    · cases h
  · split at h
    · cases h; exact lv_i2b hx hb hdg rfl kk
    · cases h
  · split at h
    · split at h
      · rename_i hn; cases h; exact lv_dup hx hb hdg (tm_cat_nl hn) kk
      · cases h
    · cases h
  · split at h
    · split at h
      · rename_i hn
        rw [Bool.and_eq_true] at hn
        cases h; exact lv_dup2_11 hx hb hdg (tm_cat_nl hn.1) (tm_cat_nl hn.2) kk
      · cases h
    · cases h
  · split at h
    · split at h
      · rename_i hn; cases h; exact lv_pop hx hb hdg (tm_cat_nl hn) kk
      · cases h
    · cases h
  · split at h
    · rename_i hk; cases h; exact lv_ldc hx hb hown (hcon _ _ hk) hdg kk
    · rename_i hk; cases h
      obtain ⟨tx, hZ⟩ := hstr _ _ hk
      exact va_ldcS hx hb hown hZ hdg kk
    · cases h
  · split at h
    · rename_i hk; cases h
      obtain ⟨tx, hZ⟩ := hstr _ _ hk
      exact tm_ldcwS hx hb hown hZ hdg kk
    · cases h
  · split at h
    · rename_i hk; cases h; exact lv_ldc2 hx hb hown (hcoL _ _ hk) hdg kk
    · cases h
  · cases h
set_option maxHeartbeats 4000000 in
theorem tm_sim_lo (hx : p.tables.exec = Jvm.exec) (hb : c.code = cc)
    (hl : tm_L ρ σ lg ls lc mx) (hdg : decode cc pc = .ok (i, n)) (h : tm_lo' lg mx i ls st = some (n, ls', st'))
    (kk : ∀ lc', tm_L ρ σ lg ls' lc' mx → W p l e R s m args below meth c H locs cells slots Q (F0 m (pc + n) lc' (st'.map (tm_vm ρ σ)))) : W p l e R s m args below meth c H locs cells slots Q (F0 m pc lc (st.map (tm_vm ρ σ))) := by
  unfold tm_lo' at h
  split at h
  · split at h
    · split at h
      · rename_i hc
        rw [Bool.and_eq_true, decide_eq_true_eq] at hc
        cases h; exact lv_istore_n hx hb hdg rfl hl.1 hc.1 rfl (fun lc' h' => kk lc' (tm_L_set1 hl hc.2 rfl h'))
      · cases h
    · cases h
  · split at h
    · split at h
      · rename_i hc
        rw [Bool.and_eq_true, decide_eq_true_eq] at hc
        cases h; exact lv_istore hx hb hdg hl.1 hc.1 rfl (fun lc' h' => kk lc' (tm_L_set1 hl hc.2 rfl h'))
      · cases h
    · cases h
  · split at h
    · split at h
      · rename_i hc
        rw [Bool.and_eq_true, decide_eq_true_eq] at hc
        cases h; exact lv_astore_n hx hb hdg rfl hl.1 hc.1 rfl (fun lc' h' => kk lc' (tm_L_set1 hl hc.2 rfl h'))
      · cases h
    · cases h
  · split at h
    · split at h
      · rename_i hc
        rw [Bool.and_eq_true, decide_eq_true_eq] at hc
        cases h; exact lv_astore hx hb hdg hl.1 hc.1 rfl (fun lc' h' => kk lc' (tm_L_set1 hl hc.2 rfl h'))
      · cases h
    · cases h
  · split at h
    · split at h
      · rename_i hc
        rw [Bool.and_eq_true, Bool.and_eq_true, decide_eq_true_eq] at hc
        obtain ⟨⟨hg, h1⟩, h2⟩ := hc
        subst hg
        cases h; exact lv_lstore_n hx hb hdg rfl hl.1 h1 rfl (fun lc' h' => kk lc' (tm_L_set2 hl h2 h'))
      · cases h
    · cases h
  · split at h
    · split at h
      · rename_i hc
        rw [Bool.and_eq_true, Bool.and_eq_true, decide_eq_true_eq] at hc
        obtain ⟨⟨hg, h1⟩, h2⟩ := hc
        subst hg
        cases h; exact lv_lstore hx hb hdg hl.1 h1 rfl (fun lc' h' => kk lc' (tm_L_set2 hl h2 h'))
      · cases h
    · cases h
  · split at h
    · rename_i hk
      split at h
      · rename_i hc
        rw [Bool.and_eq_true, decide_eq_true_eq] at hc
        cases h
        obtain ⟨j, hj⟩ := List.getElem?_of_mem (tm_lv_mem (ρ := ρ) (σ := σ) (q := (_, _)) |>.mpr ⟨_, hk, (by intro q; cases q), rfl⟩)
        exact lv_iinc hx hb hdg hl.1 hj rfl hc.1 rfl (fun lc' h' => kk lc' (tm_L_set1 hl hc.2 rfl h'))
      · cases h
    · cases h
  · cases h
theorem tm_to_eq {pc t : Nat} {o : Int} (h : tm_to pc o = some t) : (pc : Int) + o = (t : Int) := by
  unfold tm_to at h
  split at h
  · cases h; omega
  · cases h
set_option maxHeartbeats 4000000 in
theorem tm_sim_br (hx : p.tables.exec = Jvm.exec) (hb : c.code = cc) {t : Nat}
    (hdg : decode cc pc = .ok (i, n)) (hlen : tm_blen i n = true) (h : tm_br i n pc st = some (t, st'))
    (kk : W p l e R s m args below meth c H locs cells slots Q (F0 m t lc (st'.map (tm_vm ρ σ)))) : W p l e R s m args below meth c H locs cells slots Q (F0 m pc lc (st.map (tm_vm ρ σ))) := by
  unfold tm_br at h
  split at h
  · obtain ⟨t0, h0, h1⟩ := Option.map_eq_some_iff.mp h
    cases h1
    obtain rfl : n = 3 := by simpa [tm_blen] using hlen
    exact lv_goto hx hb hdg (tm_to_eq h0) kk
  · split at h
    · obtain ⟨t0, h0, h1⟩ := Option.map_eq_some_iff.mp h
      obtain rfl : n = 3 := by simpa [tm_blen] using hlen
      have ht := tm_to_eq h0
      rename_i cnd o a1 a2 a3
      cases h1
      cases cnd
      · exact lv_if_eq hx hb hdg ht (fun q => by rw [if_pos (by simpa using q)] at kk; exact kk) (fun q => by rw [if_neg (by simpa using q)] at kk; exact kk)
      · exact lv_if_ne hx hb hdg ht (fun q => by rw [if_pos (by simpa using q)] at kk; exact kk) (fun q => by rw [if_neg (by simpa using q)] at kk; exact kk)
      · exact lv_if_lt hx hb hdg ht (fun q => by rw [if_pos (by simpa using q)] at kk; exact kk) (fun q => by rw [if_neg (by simpa using q)] at kk; exact kk)
      · exact lv_if_ge hx hb hdg ht (fun q => by rw [if_pos (by simpa using q)] at kk; exact kk) (fun q => by rw [if_neg (by simpa using q)] at kk; exact kk)
      · exact lv_if_gt hx hb hdg ht (fun q => by rw [if_pos (by simpa using q)] at kk; exact kk) (fun q => by rw [if_neg (by simpa using q)] at kk; exact kk)
      · exact lv_if_le hx hb hdg ht (fun q => by rw [if_pos (by simpa using q)] at kk; exact kk) (fun q => by rw [if_neg (by simpa using q)] at kk; exact kk)
    · cases h
  · split at h
    · obtain ⟨t0, h0, h1⟩ := Option.map_eq_some_iff.mp h
      obtain rfl : n = 3 := by simpa [tm_blen] using hlen
      have ht := tm_to_eq h0
      rename_i cnd o a1 a2 a3 a4
      cases h1
      cases cnd
      · exact lv_icmp_eq hx hb hdg ht (fun q => by rw [if_pos (by simpa using q)] at kk; exact kk) (fun q => by rw [if_neg (by simpa using q)] at kk; exact kk)
      · exact lv_icmp_ne hx hb hdg ht (fun q => by rw [if_pos (by simpa using q)] at kk; exact kk) (fun q => by rw [if_neg (by simpa using q)] at kk; exact kk)
      · exact lv_icmp_lt hx hb hdg ht (fun q => by rw [if_pos (by simpa using q)] at kk; exact kk) (fun q => by rw [if_neg (by simpa using q)] at kk; exact kk)
      · exact lv_icmp_ge hx hb hdg ht (fun q => by rw [if_pos (by simpa using q)] at kk; exact kk) (fun q => by rw [if_neg (by simpa using q)] at kk; exact kk)
      · exact lv_icmp_gt hx hb hdg ht (fun q => by rw [if_pos (by simpa using q)] at kk; exact kk) (fun q => by rw [if_neg (by simpa using q)] at kk; exact kk)
      · exact lv_icmp_le hx hb hdg ht (fun q => by rw [if_pos (by simpa using q)] at kk; exact kk) (fun q => by rw [if_neg (by simpa using q)] at kk; exact kk)
    · cases h
  · obtain rfl : n = 3 := by simpa [tm_blen] using hlen
    split at h
    · obtain ⟨t0, h0, h1⟩ := Option.map_eq_some_iff.mp h
      cases h1; exact lv_ifnullN hx hb hdg (tm_to_eq h0) kk
    · cases h; exact lv_ifnull hx hb hdg kk
    · cases h
  · obtain rfl : n = 3 := by simpa [tm_blen] using hlen
    split at h
    · obtain ⟨t0, h0, h1⟩ := Option.map_eq_some_iff.mp h
      cases h1; exact lv_ifnonnull hx hb hdg (tm_to_eq h0) kk
    · cases h; exact lv_ifnonnullN hx hb hdg kk
    · cases h
  · split at h
    · split at h
      · rename_i hc
        obtain ⟨t0, h0, h1⟩ := Option.map_eq_some_iff.mp h
        cases h1; exact lv_tableOut hx hb hdg hc (tm_to_eq h0) kk
      · rename_i hc
        split at h
        · rename_i ho
          obtain ⟨t0, h0, h1⟩ := Option.map_eq_some_iff.mp h
          cases h1; exact lv_tableIn hx hb hdg (fun q => hc (Or.inl q)) (fun q => hc (Or.inr q)) ho (tm_to_eq h0) kk
        · cases h
    · cases h
  · cases h
end TMS1
