/-! STEPS THAT READ OR WRITE THE HEAP: the walk -/
section TMS3
variable {p : Program} {l : Launch} {e : Env} {R : Room} {s : State} {m : MethodId} {args : Array Value} {below : List Frame} {meth : Method} {c : Code} {H : Heap} {locs : List Loc} {cells slots : Nat} {Q : State → Prop}
variable {cc : ByteArray} {pc n : Nat} {lc : Array Slot} {ρ σ τ : Nat → Nat} {st st' : List Value} {h h' : tm_H} {i : Instr} {D : va_G} {A : Nat → Prop}
/-- the world that a frame stands in -/
def tm_Wd (D : va_G) (σ τ : Nat → Nat) (A : Nat → Prop) (s : State) (ρ : Nat → Nat) (h : tm_H) (H : Heap) (locs : List Loc) : Prop :=
  va_P D vwCl (tm_ws ρ σ τ h) H ∧ va_D A (tm_ws ρ σ τ h) ∧ va_S A s.heap H locs ∧ tm_wf h
theorem tm_mem_good {args : Array Value} {s : State} (hg : ∀ w ∈ lw_tbl, goodWord w = true → w.before args s = true) {w : Jvm.Cond} (h : w ∈ lw_tbl) (h2 : goodWord w = true) : w.before args s = true := hg w h h2
theorem tm_good_ws {C : String} {T : u_T} {N : Nat} {args : Array Value} {s : State} (hg : ∀ w ∈ lw_tbl, goodWord w = true → w.before args s = true) (h : ∀ w ∈ u_ws C T N, w ∈ lw_tbl) : ∀ w ∈ u_ws C T N, w.before args s = true := by
  intro w hw
  refine hg w (h w hw) ?_
  unfold u_ws at hw
  obtain ⟨k, -, rfl⟩ := List.mem_map.mp hw
  unfold u_lay
  split <;> rfl
theorem tm_newtail {st0 : List Value} {q sl : Nat} {e0 : va_E} {H1 : Heap} {k : Nat} (hst : ∀ v ∈ st0, tm_wv (tm_sz h) v)
    (kk : (∀ k, 1 ≤ k → k ≤ tm_sz h → (fun k => if k = tm_sz h + 1 then q else ρ k) k = ρ k) → (∀ v ∈ (.ref (tm_sz h + 1) :: st0 : List Value), tm_wv (tm_sz (tm_new h e0 sl)) v) →
      W p l e R s m args below meth c H1 locs (cells + (tm_kc (tm_new h e0 sl) - tm_kc h)) (slots + (tm_ks (tm_new h e0 sl) - tm_ks h)) Q (F0 m k lc ((.ref (tm_sz h + 1) :: st0 : List Value).map (tm_vm (fun k => if k = tm_sz h + 1 then q else ρ k) σ)))) :
    W p l e R s m args below meth c H1 locs (cells + 1) (slots + sl) Q (F0 m k lc (.ref q :: st0.map (tm_vm ρ σ))) := by
  have hρ : ∀ k, 1 ≤ k → k ≤ tm_sz h → (fun k => if k = tm_sz h + 1 then q else ρ k) k = ρ k := fun k _ hk => by
    show (if k = tm_sz h + 1 then q else ρ k) = ρ k
    rw [if_neg (by omega)]
  have := kk hρ (fun w hw => by
    rw [tm_sz_new]
    rcases List.mem_cons.mp hw with rfl | hw
    · intro a ea; cases ea; exact ⟨Nat.succ_le_succ (Nat.zero_le _), Nat.le_refl _⟩
    · exact tm_wv_le (hst w hw) (by omega))
  rw [tm_kc_new, tm_ks_new, show tm_kc h + 1 - tm_kc h = 1 from by omega, show tm_ks h + sl - tm_ks h = sl from by omega, List.map_cons, tm_map_ext hst hρ] at this
  have e5 : tm_vm (fun k => if k = tm_sz h + 1 then q else ρ k) σ (.ref (tm_sz h + 1)) = .ref q := by
    show Value.ref (if tm_sz h + 1 = tm_sz h + 1 then q else _) = _
    rw [if_pos rfl]
  rw [e5] at this
  exact this
set_option maxHeartbeats 4000000 in
theorem tm_sim_he {G : tm_PG} (hG : tm_OkF G) {M : tm_M} (hx : p.tables.exec = Jvm.exec) (hb : c.code = cc) (hown : s.vm.findClass (tm_nm G (tm_oc M)) = some m.cls) (hname : meth.name = (tm_y M).name)
    (hg : ∀ w ∈ lw_tbl, goodWord w = true → w.before args s = true) (hn : ∀ w ∈ lw_tbl, tm_nst w = true → va_Nw w s)
    (hac : ∀ ty : FieldType, ty = .int ∨ ty = .byte ∨ ty = .long → (Jvm.Cond.arrayClass ty).before args s = true)
    (hK : va_K D vwCl (tm_tys τ) s) (hA : ∀ q, s.heap.size ≤ q → A q) (hw : tm_Wd D σ τ A s ρ h H locs) (hst : ∀ v ∈ st, tm_wv (tm_sz h) v)
    (hdg : decode cc pc = .ok (i, n)) (hh : tm_he G M i st h = some (n, st', h'))
    (hc1 : cells + (tm_kc h' - tm_kc h) ≤ R.cells) (hc2 : slots + (tm_ks h' - tm_ks h) ≤ R.slots)
    (kk : ∀ ρ' H' locs', (∀ k, 1 ≤ k → k ≤ tm_sz h → ρ' k = ρ k) → tm_Wd D σ τ A s ρ' h' H' locs' → (∀ v ∈ st', tm_wv (tm_sz h') v) → tm_sz h ≤ tm_sz h' → tm_kc h ≤ tm_kc h' → tm_ks h ≤ tm_ks h' →
      W p l e R s m args below meth c H' locs' (cells + (tm_kc h' - tm_kc h)) (slots + (tm_ks h' - tm_ks h)) Q (F0 m (pc + n) lc (st'.map (tm_vm ρ' σ)))) :
    W p l e R s m args below meth c H locs cells slots Q (F0 m pc lc (st.map (tm_vm ρ σ))) := by
  obtain ⟨hP, hD, hS, hwf⟩ := id hw
  obtain ⟨hF, hC, hN⟩ := hG
  unfold tm_he at hh
  split at hh
  · -- getfield
    split at hh
    · rename_i k a st0 ci j hf
      split at hh
      · rename_i c0 fs ha
        split at hh
        · rename_i e0; subst e0
          split at hh
          · rename_i v hv
            cases hh
            obtain ⟨C, T, N, h1, h2, h3⟩ := hF _ _ _ _ hf
            obtain ⟨h4, h5, h6, -⟩ := hC _ _ _ _ h1
            obtain ⟨ha1, ha2⟩ := hst (.ref a) List.mem_cons_self a rfl
            have he := tm_ws_at ρ σ τ h ha1 ha2
            rw [ha] at he
            have hvm : v ∈ fs := List.mem_of_getElem? hv
            have kk' := kk ρ H locs (fun _ _ _ => rfl) hw (fun w hw => by
              rcases List.mem_cons.mp hw with rfl | hw
              · exact hwf a ha1 ha2 _ _ ha _ hvm
              · exact hst w (List.mem_cons_of_mem _ hw)) (Nat.le_refl _) (Nat.le_refl _) (Nat.le_refl _)
            simp only [Nat.sub_self, Nat.add_zero] at kk'
            have hv' : (fs.map (tm_vm ρ σ))[j]? = some (tm_vm ρ σ v) := by rw [List.getElem?_map, hv]; rfl
            rcases h3 with h3 | ⟨host, h3, hne⟩
            · exact va_get (D := D) hx hb (tm_good_ws hg h4) (fun _ h9 => h9) hown hK hP (a - 1) he h1 j h2 (hg _ h3 rfl) (fun _ h9 => h9) hv' hdg kk'
            · exact va_getN (D := D) hx hb (tm_good_ws hg h4) (fun _ h9 => h9) hown hK hP (a - 1) he h1 j h2 (va_Nw.use rfl (hn _ h3 rfl)) (fun _ h9 => h9) hv' hdg kk'
          · cases hh
        · cases hh
      · cases hh
    · cases hh
  · -- putfield
    split at hh
    · rename_i k v a st0 ci j hf
      split at hh
      · rename_i c0 fs ha
        split at hh
        · rename_i hcond
          obtain ⟨e0, hj, hfit, hwr⟩ := hcond
          subst e0
          cases hh
          obtain ⟨C, T, N, h1, h2, h3⟩ := hF _ _ _ _ hf
          obtain ⟨h4, h5, h6, -, -, -, -, -, h7, h8⟩ := hC _ _ _ _ h1
          obtain ⟨ha1, ha2⟩ := hst (.ref a) (List.mem_cons_of_mem _ List.mem_cons_self) a rfl
          have hvw := hst v List.mem_cons_self
          have he := tm_ws_at ρ σ τ h ha1 ha2
          rw [ha] at he
          have ha0 : a ≠ 0 := Nat.ne_of_gt ha1
          have hws := tm_ws_up ρ σ τ (h := h) (e := .inr (c0, fs.set j v)) ha1 ha2
          have hset : tm_cv ρ σ τ (.inr (c0, fs.set j v)) = .inr (c0, (fs.map (tm_vm ρ σ)).set j (tm_vm ρ σ v)) := by
            show Sum.inr _ = Sum.inr _
            rw [List.map_set]
          rw [hset] at hws
          have hwf' : tm_wf (tm_up h a (.inr (c0, fs.set j v))) := tm_wf_up ha0 hwf (fun c9 f9 e9 w hw9 => by
            cases e9
            rcases List.mem_or_eq_of_mem_set hw9 with q | q
            · exact hwf a ha1 ha2 _ _ ha w q
            · rw [q]; exact hvw)
          have kk' : ∀ (H1 : Heap) (locs1 : List Loc), va_P D vwCl ((tm_ws ρ σ τ h).set (a - 1) (ρ a, .inr (c0, (fs.map (tm_vm ρ σ)).set j (tm_vm ρ σ v)))) H1 → va_D A ((tm_ws ρ σ τ h).set (a - 1) (ρ a, .inr (c0, (fs.map (tm_vm ρ σ)).set j (tm_vm ρ σ v)))) → va_S A s.heap H1 locs1 → W p l e R s m args below meth c H1 locs1 cells slots Q (F0 m (pc + 3) lc (st'.map (tm_vm ρ σ))) := by
            intro H1 locs1 q1 q2 q3
            rw [← hws] at q1 q2
            have := kk ρ H1 locs1 (fun _ _ _ => rfl) ⟨q1, q2, q3, hwf'⟩ (fun w hw => by rw [tm_sz_up ha0]; exact hst w (List.mem_cons_of_mem _ (List.mem_cons_of_mem _ hw))) (by rw [tm_sz_up ha0]; exact Nat.le_refl _) (by rw [tm_kc_up ha0]; exact Nat.le_refl _) (by rw [tm_ks_up ha0]; exact Nat.le_refl _)
            simp only [tm_kc_up ha0, tm_ks_up ha0, Nat.sub_self, Nat.add_zero] at this
            exact this
          have hfit' := tm_fit_vm (ρ := ρ) (σ := σ) hfit
          have hlen : j < (fs.map (tm_vm ρ σ)).length := by rw [List.length_map]; exact hj
          unfold tm_wr at hwr
          rw [h1] at hwr
          dsimp only at hwr
          rw [Bool.or_eq_true] at hwr
          rcases hwr with hwr | hwr
          · have hfin : (T j).2.2.2 = false := by simpa using hwr
            rcases h3 with h3 | ⟨host, h3, hne⟩
            · exact va_put (D := D) (ty := tm_ty G c0 j) hx hb (tm_good_ws hg h4) (fun _ h9 => h9) (tm_ty G c0) h5 h6 hown hK hP hD hS (a - 1) he h1 j h2 (hg _ h3 rfl) (fun _ h9 => h9) hfin (h5 j h2) hfit'.1 hfit'.2 hlen hdg kk'
            · exact va_putN (D := D) (ty := tm_ty G c0 j) hx hb (tm_good_ws hg h4) (fun _ h9 => h9) (tm_ty G c0) h5 h6 hown hK hP hD hS (a - 1) he h1 j h2 (va_Nw.use rfl (hn _ h3 rfl)) (fun _ h9 => h9) hfin (h5 j h2) hfit'.1 hfit'.2 hlen hdg kk'
          · rw [Bool.and_eq_true, beq_iff_eq, beq_iff_eq] at hwr
            by_cases hfin : (T j).2.2.2 = true
            · rcases h3 with h3 | ⟨host, h3, hne⟩
              · exact va_putF (D := D) (ty := tm_ty G c0 j) hx hb (tm_good_ws hg h4) (fun _ h9 => h9) (tm_ty G c0) h5 h6 hown hK hP hD hS (a - 1) he h1 j h2 (hg _ h3 rfl) (fun _ h9 => h9) hfin (hname.trans hwr.1) (by rw [h7 j h2, hwr.2, h8]) (h5 j h2) hfit'.1 hfit'.2 hlen hdg kk'
              · exact absurd hwr.2 hne
            · have hfin : (T j).2.2.2 = false := by simpa using hfin
              rcases h3 with h3 | ⟨host, h3, hne⟩
              · exact va_put (D := D) (ty := tm_ty G c0 j) hx hb (tm_good_ws hg h4) (fun _ h9 => h9) (tm_ty G c0) h5 h6 hown hK hP hD hS (a - 1) he h1 j h2 (hg _ h3 rfl) (fun _ h9 => h9) hfin (h5 j h2) hfit'.1 hfit'.2 hlen hdg kk'
              · exact va_putN (D := D) (ty := tm_ty G c0 j) hx hb (tm_good_ws hg h4) (fun _ h9 => h9) (tm_ty G c0) h5 h6 hown hK hP hD hS (a - 1) he h1 j h2 (va_Nw.use rfl (hn _ h3 rfl)) (fun _ h9 => h9) hfin (h5 j h2) hfit'.1 hfit'.2 hlen hdg kk'
        · cases hh
      · cases hh
    · cases hh
  · -- iaload
    split at hh
    · rename_i j a st0
      split at hh
      · rename_i n0 f ha
        split at hh
        · cases hh
        · rename_i hin
          cases hh
          obtain ⟨ha1, ha2⟩ := hst (.ref a) (List.mem_cons_of_mem _ List.mem_cons_self) a rfl
          have he := tm_ws_at ρ σ τ h ha1 ha2
          rw [ha] at he
          have kk' := kk ρ H locs (fun _ _ _ => rfl) hw (fun w hw => by
              rcases List.mem_cons.mp hw with rfl | hw
              · exact tm_wv_int _ _
              · exact hst w (List.mem_cons_of_mem _ (List.mem_cons_of_mem _ hw))) (Nat.le_refl _) (Nat.le_refl _) (Nat.le_refl _)
          simp only [Nat.sub_self, Nat.add_zero] at kk'
          exact va_iald (D := D) hx hb hK hP (a - 1) 0 he rfl hin hdg kk'
      · cases hh
    · cases hh
  · -- baload
    split at hh
    · rename_i j a st0
      split at hh
      · rename_i n0 f ha
        split at hh
        · cases hh
        · rename_i hin
          cases hh
          obtain ⟨ha1, ha2⟩ := hst (.ref a) (List.mem_cons_of_mem _ List.mem_cons_self) a rfl
          have he := tm_ws_at ρ σ τ h ha1 ha2
          rw [ha] at he
          have kk' := kk ρ H locs (fun _ _ _ => rfl) hw (fun w hw => by
              rcases List.mem_cons.mp hw with rfl | hw
              · exact tm_wv_int _ _
              · exact hst w (List.mem_cons_of_mem _ (List.mem_cons_of_mem _ hw))) (Nat.le_refl _) (Nat.le_refl _) (Nat.le_refl _)
          simp only [Nat.sub_self, Nat.add_zero] at kk'
          exact va_bald (D := D) hx hb hK hP (a - 1) 1 he rfl hin hdg kk'
      · cases hh
    · cases hh
  · -- laload
    split at hh
    · rename_i j a st0
      split at hh
      · rename_i n0 f ha
        split at hh
        · cases hh
        · rename_i hin
          cases hh
          obtain ⟨ha1, ha2⟩ := hst (.ref a) (List.mem_cons_of_mem _ List.mem_cons_self) a rfl
          have he := tm_ws_at ρ σ τ h ha1 ha2
          rw [ha] at he
          have kk' := kk ρ H locs (fun _ _ _ => rfl) hw (fun w hw => by
              rcases List.mem_cons.mp hw with rfl | hw
              · exact tm_wv_long _ _
              · exact hst w (List.mem_cons_of_mem _ (List.mem_cons_of_mem _ hw))) (Nat.le_refl _) (Nat.le_refl _) (Nat.le_refl _)
          simp only [Nat.sub_self, Nat.add_zero] at kk'
          exact va_lald (D := D) hx hb hK hP (a - 1) 2 he rfl hin hdg kk'
      · cases hh
    · cases hh

  · -- iastore
    split at hh
    · rename_i x j a st0
      split at hh
      · rename_i n0 f ha
        split at hh
        · cases hh
        · rename_i hin
          cases hh
          obtain ⟨ha1, ha2⟩ := hst (.ref a) (List.mem_cons_of_mem _ (List.mem_cons_of_mem _ List.mem_cons_self)) a rfl
          have ha0 : a ≠ 0 := Nat.ne_of_gt ha1
          have he := tm_ws_at ρ σ τ h ha1 ha2
          rw [ha] at he
          have hws := tm_ws_up ρ σ τ (h := h) (e := (.inl (0, n0, .inl (upd f j.toNatClampNeg x)))) ha1 ha2
          have hwf' : tm_wf (tm_up h a (.inl (0, n0, .inl (upd f j.toNatClampNeg x)))) := tm_wf_up ha0 hwf (fun c9 f9 e9 => by cases e9)
          refine va_iast (D := D) hx hb hK hP hD hS (a - 1) 0 he rfl hin hdg (fun H1 locs1 q1 q2 q3 => ?_)
          have q1' : va_P D vwCl (tm_ws ρ σ τ (tm_up h a (.inl (0, n0, .inl (upd f j.toNatClampNeg x))))) H1 := by rw [hws]; exact q1
          have q2' : va_D A (tm_ws ρ σ τ (tm_up h a (.inl (0, n0, .inl (upd f j.toNatClampNeg x))))) := by rw [hws]; exact q2
          have := kk ρ H1 locs1 (fun _ _ _ => rfl) ⟨q1', q2', q3, hwf'⟩ (fun w hw => by rw [tm_sz_up ha0]; exact hst w (List.mem_cons_of_mem _ (List.mem_cons_of_mem _ (List.mem_cons_of_mem _ hw)))) (by rw [tm_sz_up ha0]; exact Nat.le_refl _) (by rw [tm_kc_up ha0]; exact Nat.le_refl _) (by rw [tm_ks_up ha0]; exact Nat.le_refl _)
          simp only [tm_kc_up ha0, tm_ks_up ha0, Nat.sub_self, Nat.add_zero] at this
          exact this
      · cases hh
    · cases hh

  · -- bastore
    split at hh
    · rename_i x j a st0
      split at hh
      · rename_i n0 f ha
        split at hh
        · cases hh
        · rename_i hin
          cases hh
          obtain ⟨ha1, ha2⟩ := hst (.ref a) (List.mem_cons_of_mem _ (List.mem_cons_of_mem _ List.mem_cons_self)) a rfl
          have ha0 : a ≠ 0 := Nat.ne_of_gt ha1
          have he := tm_ws_at ρ σ τ h ha1 ha2
          rw [ha] at he
          have hws := tm_ws_up ρ σ τ (h := h) (e := (.inl (1, n0, .inl (upd f j.toNatClampNeg (vp_nar .byte x))))) ha1 ha2
          have hwf' : tm_wf (tm_up h a (.inl (1, n0, .inl (upd f j.toNatClampNeg (vp_nar .byte x))))) := tm_wf_up ha0 hwf (fun c9 f9 e9 => by cases e9)
          refine va_bast (D := D) hx hb hK hP hD hS (a - 1) 1 he rfl hin hdg (fun H1 locs1 q1 q2 q3 => ?_)
          have q1' : va_P D vwCl (tm_ws ρ σ τ (tm_up h a (.inl (1, n0, .inl (upd f j.toNatClampNeg (vp_nar .byte x)))))) H1 := by rw [hws]; exact q1
          have q2' : va_D A (tm_ws ρ σ τ (tm_up h a (.inl (1, n0, .inl (upd f j.toNatClampNeg (vp_nar .byte x)))))) := by rw [hws]; exact q2
          have := kk ρ H1 locs1 (fun _ _ _ => rfl) ⟨q1', q2', q3, hwf'⟩ (fun w hw => by rw [tm_sz_up ha0]; exact hst w (List.mem_cons_of_mem _ (List.mem_cons_of_mem _ (List.mem_cons_of_mem _ hw)))) (by rw [tm_sz_up ha0]; exact Nat.le_refl _) (by rw [tm_kc_up ha0]; exact Nat.le_refl _) (by rw [tm_ks_up ha0]; exact Nat.le_refl _)
          simp only [tm_kc_up ha0, tm_ks_up ha0, Nat.sub_self, Nat.add_zero] at this
          exact this
      · cases hh
    · cases hh

  · -- lastore
    split at hh
    · rename_i x j a st0
      split at hh
      · rename_i n0 f ha
        split at hh
        · cases hh
        · rename_i hin
          cases hh
          obtain ⟨ha1, ha2⟩ := hst (.ref a) (List.mem_cons_of_mem _ (List.mem_cons_of_mem _ List.mem_cons_self)) a rfl
          have ha0 : a ≠ 0 := Nat.ne_of_gt ha1
          have he := tm_ws_at ρ σ τ h ha1 ha2
          rw [ha] at he
          have hws := tm_ws_up ρ σ τ (h := h) (e := (.inl (2, n0, .inr (.inl (vp_updL f j.toNatClampNeg x))))) ha1 ha2
          have hwf' : tm_wf (tm_up h a (.inl (2, n0, .inr (.inl (vp_updL f j.toNatClampNeg x))))) := tm_wf_up ha0 hwf (fun c9 f9 e9 => by cases e9)
          refine va_last (D := D) hx hb hK hP hD hS (a - 1) 2 he rfl hin hdg (fun H1 locs1 q1 q2 q3 => ?_)
          have q1' : va_P D vwCl (tm_ws ρ σ τ (tm_up h a (.inl (2, n0, .inr (.inl (vp_updL f j.toNatClampNeg x)))))) H1 := by rw [hws]; exact q1
          have q2' : va_D A (tm_ws ρ σ τ (tm_up h a (.inl (2, n0, .inr (.inl (vp_updL f j.toNatClampNeg x)))))) := by rw [hws]; exact q2
          have := kk ρ H1 locs1 (fun _ _ _ => rfl) ⟨q1', q2', q3, hwf'⟩ (fun w hw => by rw [tm_sz_up ha0]; exact hst w (List.mem_cons_of_mem _ (List.mem_cons_of_mem _ (List.mem_cons_of_mem _ hw)))) (by rw [tm_sz_up ha0]; exact Nat.le_refl _) (by rw [tm_kc_up ha0]; exact Nat.le_refl _) (by rw [tm_ks_up ha0]; exact Nat.le_refl _)
          simp only [tm_kc_up ha0, tm_ks_up ha0, Nat.sub_self, Nat.add_zero] at this
          exact this
      · cases hh
    · cases hh

  · -- arraylength
    split at hh
    · rename_i a st0
      split at hh
      · rename_i t x ha
        split at hh
        · rename_i ht
          cases hh
          obtain ⟨ha1, ha2⟩ := hst (.ref a) List.mem_cons_self a rfl
          have he := tm_ws_at ρ σ τ h ha1 ha2
          rw [ha] at he
          have kk' := kk ρ H locs (fun _ _ _ => rfl) hw (fun w hw => by
              rcases List.mem_cons.mp hw with rfl | hw
              · exact tm_wv_int _ _
              · exact hst w (List.mem_cons_of_mem _ hw)) (Nat.le_refl _) (Nat.le_refl _) (Nat.le_refl _)
          simp only [Nat.sub_self, Nat.add_zero] at kk'
          match t, ht, he with
          | 0, _, he => exact va_alen (D := D) hx hb hK hP (a - 1) 0 he rfl rfl hdg kk'
          | 1, _, he => exact va_alen (D := D) hx hb hK hP (a - 1) 1 he rfl rfl hdg kk'
          | 2, _, he => exact va_alen (D := D) hx hb hK hP (a - 1) 2 he rfl rfl hdg kk'
        · cases hh
      · cases hh
    · cases hh
  · -- new
    split at hh
    · rename_i k ci hk
      split at hh
      · cases hh
      · cases hh
        obtain ⟨C, T, N, h1, h2⟩ := hN _ _ _ hk
        obtain ⟨h4, h5, h6, h7, h8, h9, h10, h11, -, -⟩ := hC _ _ _ _ h1
        have hdf : ∀ v ∈ tm_df G ci, ∀ n, tm_wv n v := fun v hv n => tm_wv_le (h11 v hv).1 (Nat.zero_le n)
        have hmap : (tm_df G ci).map (tm_vm ρ σ) = tm_df G ci := by
          have : (tm_df G ci).map (tm_vm ρ σ) = (tm_df G ci).map id := List.map_congr_left (fun v hv => (h11 v hv).2 ρ σ)
          rw [this, List.map_id]
        rw [tm_kc_new] at hc1
        rw [tm_ks_new] at hc2
        refine va_new (D := D) (ci := ci) (fs := tm_df G ci) (C := C) (T := T) (N := N) hx hb (tm_good_ws hg h4) (fun _ h9 => h9) (tm_ty G ci) h5 hown (hg _ h2 rfl) (hg _ h7 rfl) (hg _ h8 rfl) hK hP hD hS hA h1 h10 (by omega) (by omega) hdg (fun q H1 q1 q2 q3 => ?_)
        have hws := tm_ws_new ρ σ τ (h := h) (e := .inr (ci, tm_df G ci)) (n := (tm_df G ci).length) (q := q) hwf (fun c9 f9 e9 w hw9 => by cases e9; exact hdf w hw9 _)
        have hcv : tm_cv ρ σ τ (.inr (ci, tm_df G ci)) = .inr (ci, tm_df G ci) := by
          show Sum.inr _ = Sum.inr _
          rw [hmap]
        rw [hcv] at hws
        rw [← hws] at q1 q2
        have hρ : ∀ k, 1 ≤ k → k ≤ tm_sz h → (fun k => if k = tm_sz h + 1 then q else ρ k) k = ρ k := fun k _ hk => by
          show (if k = tm_sz h + 1 then q else ρ k) = ρ k
          rw [if_neg (by omega)]
        have := kk _ H1 locs hρ ⟨q1, q2, q3, tm_wf_new hwf (fun c9 f9 e9 w hw9 => by cases e9; exact hdf w hw9 _)⟩ (fun w hw => by
          rw [tm_sz_new]
          rcases List.mem_cons.mp hw with rfl | hw
          · intro a ea; cases ea; exact ⟨Nat.succ_le_succ (Nat.zero_le _), Nat.le_refl _⟩
          · exact tm_wv_le (hst w hw) (by omega)) (by rw [tm_sz_new]; omega) (by rw [tm_kc_new]; omega) (by rw [tm_ks_new]; omega)
        rw [tm_kc_new, tm_ks_new, show tm_kc h + 1 - tm_kc h = 1 from by omega, show tm_ks h + (tm_df G ci).length - tm_ks h = N from by omega] at this
        rw [List.map_cons, tm_map_ext hst hρ] at this
        have e5 : tm_vm (fun k => if k = tm_sz h + 1 then q else ρ k) σ (.ref (tm_sz h + 1)) = .ref q := by
          show Value.ref (if tm_sz h + 1 = tm_sz h + 1 then q else _) = _
          rw [if_pos rfl]
        rw [e5] at this
        exact this
    · cases hh
  · -- newarray
    split at hh
    · rename_i t n0 st0
      split at hh
      · cases hh
      · rename_i hcond
        have hn0 : ¬ n0 < 0 := fun q => hcond (Or.inr (Or.inl q))
        have hle : n0.toNatClampNeg ≤ 1000 := by
          rcases Nat.lt_or_ge 1000 n0.toNatClampNeg with q | q
          · exact absurd (Or.inr (Or.inr q)) hcond
          · exact q
        have hst : ∀ v ∈ st0, tm_wv (tm_sz h) v := fun w hw => hst w (List.mem_cons_of_mem _ hw)
        split at hh
        · cases hh
          rw [tm_kc_new] at hc1
          rw [tm_ks_new] at hc2
          refine va_newa (D := D) (atype := .int) (a0 := (n0.toNatClampNeg, .inl (fun _ => 0))) hx hb (hac .int (Or.inl rfl)) rfl hK hP hD hS hA (fun cA => rfl) hn0 rfl (by show _ * 4 ≤ _; omega) (by omega) (by omega) hdg (fun q cA H1 hK1 q1 q2 q3 => ?_)
          have hcA : cA = τ 0 := by
            have g1 : s.vm.findClass ("[" ++ FieldType.int.toString) = some cA := (hK1.2 3 (cA, .int) rfl).2
            have g2 : s.vm.findClass ("[" ++ FieldType.int.toString) = some (τ 0) := (hK1.2 0 (τ 0, .int) rfl).2
            exact Option.some.inj (g1.symm.trans g2)
          subst hcA
          have hws := tm_ws_new ρ σ τ (h := h) (e := .inl (0, n0.toNatClampNeg, .inl (fun _ => 0))) (n := n0.toNatClampNeg) (q := q) hwf (fun c9 f9 e9 w hw9 => by cases e9)
          rw [show tm_cv ρ σ τ (.inl (0, n0.toNatClampNeg, .inl (fun _ => 0))) = .inl (τ 0, n0.toNatClampNeg, .inl (fun _ => 0)) from rfl] at hws
          rw [← hws] at q1 q2
          exact tm_newtail hst (fun hρ hst' => kk _ H1 locs hρ ⟨q1, q2, q3, tm_wf_new hwf (fun c9 f9 e9 w hw9 => by cases e9)⟩ hst' (by rw [tm_sz_new]; omega) (by rw [tm_kc_new]; omega) (by rw [tm_ks_new]; omega))
        · cases hh
          rw [tm_kc_new] at hc1
          rw [tm_ks_new] at hc2
          refine va_newa (D := D) (atype := .byte) (a0 := (n0.toNatClampNeg, .inl (fun _ => 0))) hx hb (hac .byte (Or.inr (Or.inl rfl))) rfl hK hP hD hS hA (fun cA => rfl) hn0 rfl (by show _ * 1 ≤ _; omega) (by omega) (by omega) hdg (fun q cA H1 hK1 q1 q2 q3 => ?_)
          have hcA : cA = τ 1 := by
            have g1 : s.vm.findClass ("[" ++ FieldType.byte.toString) = some cA := (hK1.2 3 (cA, .byte) rfl).2
            have g2 : s.vm.findClass ("[" ++ FieldType.byte.toString) = some (τ 1) := (hK1.2 1 (τ 1, .byte) rfl).2
            exact Option.some.inj (g1.symm.trans g2)
          subst hcA
          have hws := tm_ws_new ρ σ τ (h := h) (e := .inl (1, n0.toNatClampNeg, .inl (fun _ => 0))) (n := n0.toNatClampNeg) (q := q) hwf (fun c9 f9 e9 w hw9 => by cases e9)
          rw [show tm_cv ρ σ τ (.inl (1, n0.toNatClampNeg, .inl (fun _ => 0))) = .inl (τ 1, n0.toNatClampNeg, .inl (fun _ => 0)) from rfl] at hws
          rw [← hws] at q1 q2
          exact tm_newtail hst (fun hρ hst' => kk _ H1 locs hρ ⟨q1, q2, q3, tm_wf_new hwf (fun c9 f9 e9 w hw9 => by cases e9)⟩ hst' (by rw [tm_sz_new]; omega) (by rw [tm_kc_new]; omega) (by rw [tm_ks_new]; omega))
        · cases hh
          rw [tm_kc_new] at hc1
          rw [tm_ks_new] at hc2
          refine va_newa (D := D) (atype := .long) (a0 := (n0.toNatClampNeg, .inr (.inl (fun _ => 0)))) hx hb (hac .long (Or.inr (Or.inr rfl))) rfl hK hP hD hS hA (fun cA => rfl) hn0 rfl (by show _ * 8 ≤ _; omega) (by omega) (by omega) hdg (fun q cA H1 hK1 q1 q2 q3 => ?_)
          have hcA : cA = τ 2 := by
            have g1 : s.vm.findClass ("[" ++ FieldType.long.toString) = some cA := (hK1.2 3 (cA, .long) rfl).2
            have g2 : s.vm.findClass ("[" ++ FieldType.long.toString) = some (τ 2) := (hK1.2 2 (τ 2, .long) rfl).2
            exact Option.some.inj (g1.symm.trans g2)
          subst hcA
          have hws := tm_ws_new ρ σ τ (h := h) (e := .inl (2, n0.toNatClampNeg, .inr (.inl (fun _ => 0)))) (n := n0.toNatClampNeg) (q := q) hwf (fun c9 f9 e9 w hw9 => by cases e9)
          rw [show tm_cv ρ σ τ (.inl (2, n0.toNatClampNeg, .inr (.inl (fun _ => 0)))) = .inl (τ 2, n0.toNatClampNeg, .inr (.inl (fun _ => 0))) from rfl] at hws
          rw [← hws] at q1 q2
          exact tm_newtail hst (fun hρ hst' => kk _ H1 locs hρ ⟨q1, q2, q3, tm_wf_new hwf (fun c9 f9 e9 w hw9 => by cases e9)⟩ hst' (by rw [tm_sz_new]; omega) (by rw [tm_kc_new]; omega) (by rw [tm_ks_new]; omega))
        · cases hh
    · cases hh
  · cases hh
end TMS3
