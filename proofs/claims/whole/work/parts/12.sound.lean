/-! THE JVM DOES WHAT THE SMALL MACHINE DOES -/
def tm_nS : Nat := 42
def tm_yLen : MethodName := ⟨"java/lang/String", "length", "()I"⟩
def tm_yChr : MethodName := ⟨"java/lang/String", "charAt", "(I)C"⟩
/-- a method of the tables -/
def tm_OkM (G : tm_PG) (M : tm_M) : Prop :=
  (tm_y M).cls = tm_nm G (tm_oc M) ∧ plainName (tm_y M).cls = true ∧ Jvm.Cond.code (tm_y M) (tm_cc M) (tm_mx M) (tm_rt M) ∈ lw_tbl ∧ Jvm.Cond.initialized (tm_y M).cls ∈ lw_tbl ∧
  ((tm_y M).cls ≠ "java/lang/invoke/MethodHandle" ∧ (tm_y M).cls ≠ "java/lang/invoke/VarHandle") ∧ (parseMethodDescriptor (tm_y M).desc).map (fun d => d.parameters.length) = some (tm_np M) ∧
  (tm_kd M = 0 → Jvm.Cond.static (tm_y M) ∈ lw_tbl) ∧ (tm_kd M = 1 → Jvm.Cond.instanceMethod (tm_y M) ∈ lw_tbl ∧ Jvm.Cond.selects (tm_y M).cls (tm_y M) (tm_y M) ∈ lw_tbl ∧ ∃ T N, vwCl[tm_oc M]? = some ((tm_y M).cls, T, N)) ∧
  (tm_kd M = 2 → (tm_y M).name = "<init>" ∧ Jvm.Cond.instanceMethod (tm_y M) ∈ lw_tbl ∧ tm_rt M = none) ∧ (tm_mc M = 0 → tm_ms M = 0)
/-- the tables -/
def tm_OkG (G : tm_PG) : Prop :=
  tm_OkF G ∧ (∀ oc k M, tm_mth G oc k = some M → tm_OkM G M ∧ tm_Lk (tm_nm G oc) k (tm_y M)) ∧
  (∀ oc k, tm_bin G oc k = some 0 → Jvm.Cond.methodLink (tm_nm G oc) k tm_yLen ∈ lw_tbl) ∧ (∀ oc k, tm_bin G oc k = some 1 → Jvm.Cond.methodLink (tm_nm G oc) k tm_yChr ∈ lw_tbl) ∧
  (∀ oc k, tm_bin G oc k = some 2 → Jvm.Cond.methodLink (tm_nm G oc) k arraycopyName ∈ lw_tbl) ∧ (∀ oc k, tm_bin G oc k = some 3 → Jvm.Cond.methodLink (tm_nm G oc) k objectInit ∈ lw_tbl) ∧ (∀ oc k, (tm_bin G oc k = some 4 → Jvm.Cond.methodLink (tm_nm G oc) k Lib.Math.max.name ∈ lw_tbl) ∧ (tm_bin G oc k = some 5 → Jvm.Cond.methodLink (tm_nm G oc) k Lib.Math.min.name ∈ lw_tbl) ∧ (tm_bin G oc k = some 6 → Jvm.Cond.methodLink (tm_nm G oc) k Lib.Math.abs.name ∈ lw_tbl)) ∧
  (∀ oc k x, tm_con G oc k = some x → Jvm.Cond.constant (tm_nm G oc) k x ∈ lw_tbl) ∧ (∀ oc k x, tm_coL G oc k = some x → Jvm.Cond.constantLong (tm_nm G oc) k x ∈ lw_tbl) ∧
  (∀ i, i < tm_nS → (tm_tx G i).length < 2 ^ 31 ∧ ∀ b ∈ tm_tx G i, ((b &&& 255).toUInt32 % 65536).toInt32 = b ∧ narrow .char (.int b) = .int b) ∧ (∀ i, tm_nS ≤ i → tm_tx G i = [])
def tm_Cx (G : tm_PG) (D : va_G) (σ τ adV : Nat → Nat) (A : Nat → Prop) (U : State) (H : Heap) : Prop :=
  va_K D vwCl (tm_tys τ) U ∧ (∀ w ∈ lw_tbl, tm_nst w = true → va_Nw w U) ∧ tm_Sx tm_nS (tm_tx G) σ adV A U H ∧ (∀ oc k x, tm_str G oc k = some x → x < tm_nS ∧ ∃ tx, vk_R (tm_nm G oc) k tx (σ x) U)
theorem tm_nst_tab {w : Jvm.Cond} (h : tm_nst w = true) : w.onTables = true := by
  cases w <;> first | rfl | cases h
theorem tm_nst_warm {w : Jvm.Cond} (h : tm_nst w = true) {s U : State} (hW : s.WarmedH U.vm) (hn : va_Nw w s) : va_Nw w U := by
  cases w <;> first | exact va_Nw.warmF hW hn | exact va_Nw.warmM hW hn | cases h
theorem tm_Cx.warm {G : tm_PG} {D : va_G} {σ τ adV : Nat → Nat} {A B : Nat → Prop} {s U : State} {H : Heap} (h : tm_Cx G D σ τ adV A s s.heap) (hW : s.WarmedH U.vm) (hU : U.heap = H) (hq : ∀ a : Nat, a < s.heap.size → ¬ A a → H[a]? = s.heap[a]?) (hAB : ∀ q, B q → A q) : tm_Cx G D σ τ adV B U U.heap := by
  obtain ⟨h1, h2, h3, h4⟩ := h
  rw [hU]
  exact ⟨va_K.moved hW.alike h1, fun w hw hn => tm_nst_warm hn hW (h2 w hw hn), ((h3.kept hq).narrow hAB).moved hW.alike, fun oc k x q => ⟨(h4 oc k x q).1, (h4 oc k x q).2.choose, vk_R.warm hW (h4 oc k x q).2.choose_spec⟩⟩
theorem tm_Cx.same {G : tm_PG} {D : va_G} {σ τ adV : Nat → Nat} {A : Nat → Prop} {u U : State} {H : Heap} (h : tm_Cx G D σ τ adV A u H) (hv : u.vm = U.vm) : tm_Cx G D σ τ adV A U H := by
  obtain ⟨h1, h2, h3, h4⟩ := h
  have ha : u.vm.Alike U.vm := by rw [hv]; exact Vm.Alike.refl _
  exact ⟨va_K.moved ha h1, fun w hw hn => va_Nw.same (tm_nst_tab hn) hv (h2 w hw hn), h3.moved ha, fun oc k x q => ⟨(h4 oc k x q).1, (h4 oc k x q).2.choose, vk_R.same hv.symm (h4 oc k x q).2.choose_spec⟩⟩
/-- a contract out of a run of the small machine -/
def tm_Pc (G : tm_PG) (D : va_G) (σ τ adV ρ : Nat → Nat) (h : tm_H) (as : List Value) (sz : Nat) : Array Value → State → Prop :=
  va_Pc (as.map (tm_vm ρ σ)) (fun U => U.heap.size = sz ∧ va_P D vwCl (tm_ws ρ σ τ h) U.heap ∧ va_D (fun _ => True) (tm_ws ρ σ τ h) ∧ tm_Cx G D σ τ adV (va_A (tm_ws ρ σ τ h) sz) U U.heap)
def tm_Qc (D : va_G) (σ τ ρ : Nat → Nat) (h : tm_H) (r : tm_R) (sz : Nat) : Array Value → State → Outcome → State → Prop := fun _ st o t =>
  ∃ ρ' : Nat → Nat, (∀ k, 1 ≤ k → k ≤ tm_sz h → ρ' k = ρ k) ∧ o = .returned (r.2.map (tm_vm ρ' σ)) ∧ va_P D vwCl (tm_ws ρ' σ τ r.1) t.heap ∧ va_D (va_A (tm_ws ρ σ τ h) sz) (tm_ws ρ' σ τ r.1) ∧ va_F (va_A (tm_ws ρ σ τ h) sz) st t
abbrev tm_rm (M : tm_M) : Room := { frames := tm_dp M, cells := tm_mc M, slots := tm_ms M, locals := tm_lo M }
abbrev tm_Met (G : tm_PG) (l : Launch) (D : va_G) (σ τ adV ρ : Nat → Nat) (M : tm_M) (as : List Value) (h : tm_H) (r : tm_R) (sz : Nat) : Prop :=
  Met l (tm_y M) (tm_Ws (tm_y M) (tm_cc M) (tm_mx M) (tm_rt M)) (tm_rm M) (tm_Pc G D σ τ adV ρ h as sz) (tm_Qc D σ τ ρ h r sz) (tm_mc M) (tm_ms M) (va_A (tm_ws ρ σ τ h) sz)
theorem tm_Pc_blind (G : tm_PG) (D : va_G) (σ τ adV ρ : Nat → Nat) (h : tm_H) (as : List Value) (sz : Nat) : FrameBlind (tm_Pc G D σ τ adV ρ h as sz) := fun a U g mk q => ⟨q.1, q.2.1, q.2.2.1, q.2.2.2.1, tm_Cx.same (u := U) (U := U.calling g mk a) q.2.2.2.2 rfl⟩
theorem tm_ws_bk (ρ σ τ : Nat → Nat) (h : tm_H) (k z : Nat) : tm_ws ρ σ τ (tm_up h 0 (tm_bk (tm_sz h) k z)) = tm_ws ρ σ τ h := by
  unfold tm_ws
  rw [tm_sz_bk]
  exact List.map_congr_left (fun a _ => by
    have e : tm_up h 0 (tm_bk (tm_sz h) k z) (a + 1) = h (a + 1) := by unfold tm_up; rw [if_neg (by omega)]
    rw [e])
section TMS4
variable {p : Program} {l : Launch} {e : Env} {R : Room} {s : State} {m : MethodId} {args : Array Value} {below : List Frame} {meth : Method} {c : Code} {H : Heap} {locs : List Loc} {cells slots : Nat} {Q : State → Prop}
variable {cc : ByteArray} {pc n : Nat} {lc : Array Slot} {ρ σ τ adV : Nat → Nat} {ls st : List Value} {h h' : tm_H} {i : Instr} {D : va_G} {A : Nat → Prop} {G : tm_PG}
/-- behind a call -/
theorem tm_sim_call {m2 : tm_M} {as rest : List Value} {r : tm_R} {stk : List Value} (hA : ∀ q, s.heap.size ≤ q → A q) (hw : tm_Wd D σ τ A s ρ h H locs)
    (hr : ∀ _ : True, va_Run p l e R s m args below meth c H locs cells slots (tm_mc m2) (tm_ms m2) (F0 m pc lc stk) (rest.map (tm_vm ρ σ)) (tm_Qc D σ τ ρ h r H.size (as.map (tm_vm ρ σ)).toArray) (va_A (tm_ws ρ σ τ h) H.size))
    (hck : tm_CK m2 h r) (hrest : ∀ v ∈ rest, tm_wv (tm_sz h) v)
    (kk : ∀ ρ' H' locs', (∀ k, 1 ≤ k → k ≤ tm_sz h → ρ' k = ρ k) → tm_Wd D σ τ A s ρ' r.1 H' locs' → W p l e R s m args below meth c H' locs' (cells + tm_mc m2) (slots + tm_ms m2) Q (F0 m (pc + 3) lc ((r.2.toList ++ rest).map (tm_vm ρ' σ)))) :
    W p l e R s m args below meth c H locs cells slots Q (F0 m pc lc stk) := by
  obtain ⟨hP, hD, hS, hwf⟩ := id hw
  have hF : ∀ q, va_A (tm_ws ρ σ τ h) H.size q → A q := by
    intro q hq
    rcases hq with ⟨k, e0, hk⟩ | hq
    · exact hD.2 k _ hk
    · exact hA q (Nat.le_trans hS.1 hq)
  refine tm_callW (hr trivial) (fun v st₀ t H1 L h1 h2 hW hq hL => ?_)
  obtain ⟨ρ', e1, e2, q1, q2, q3⟩ := hq
  obtain rfl : v = r.2.map (tm_vm ρ' σ) := by injection e2
  rw [h2] at q1
  have hS' : va_S A s.heap H1 (locs ++ L) := by
    obtain ⟨z1, z2⟩ := q3
    rw [h1, h2] at z1
    refine ⟨Nat.le_trans hS.1 z1, fun q hq hnA => ?_, fun x hx => ?_⟩
    · have := z2 q (by rw [h1]; exact Nat.lt_of_lt_of_le hq hS.1) (fun z => hnA (hF q z))
      rw [h1, h2] at this
      rw [this]; exact hS.2.1 q hq hnA
    · rcases List.mem_append.mp hx with y | y
      · exact hS.2.2 x y
      · exact hF _ (hL x y)
  have := kk ρ' H1 (locs ++ L) e1 ⟨q1, q2.weaken (fun _ q _ hz => hF q.1 hz), hS', hck.1⟩
  rw [List.map_append, tm_map_ext hrest e1] at this
  have e9 : (r.2.map (tm_vm ρ' σ)).toList = r.2.toList.map (tm_vm ρ' σ) := by cases r.2 <;> rfl
  rw [e9]
  exact this
/-- what a frame of method M has at hand -/
def tm_At (G : tm_PG) (p : Program) (s : State) (m : MethodId) (args : Array Value) (meth : Method) (c : Code) (M : tm_M) : Prop :=
  p.tables.exec = Jvm.exec ∧ c.code = tm_cc M ∧ meth.sig.returnType = tm_rt M ∧ c.maxLocals = tm_mx M ∧ s.vm.findClass (tm_nm G (tm_oc M)) = some m.cls ∧ meth.name = (tm_y M).name ∧ meth.locks = false ∧ (∀ w ∈ tm_Ws (tm_y M) (tm_cc M) (tm_mx M) (tm_rt M), w.before args s = true)
/-- calls of methods -/
theorem tm_sim_inv (hG : tm_OkG G) {M m2 : tm_M} {as rest : List Value} {r : tm_R} {k : Nat} (hAt : tm_At G p s m args meth c M) (hR : R = tm_rm M) (hCx : tm_Cx G D σ τ adV A s s.heap) (hA : ∀ q, s.heap.size ≤ q → A q) (hw : tm_Wd D σ τ A s ρ h H locs)
    (hm2 : tm_mth G (tm_oc M) k = some m2) (hmay : tm_may M m2 rest = true) (hsz : lc.size = tm_mx M)
    (hin : (i = .invokestatic k ∧ tm_kd m2 = 0 ∧ st = as.reverse ++ rest ∧ as.length = tm_np m2) ∨ (i = .invokevirtual k ∧ tm_kd m2 = 1 ∧ ∃ b as', as = .ref b :: as' ∧ st = as'.reverse ++ .ref b :: rest ∧ as'.length = tm_np m2 ∧ tm_isObj (h b) (tm_oc m2) = true) ∨ (i = .invokespecial k ∧ tm_kd m2 = 2 ∧ ∃ b as', as = .ref b :: as' ∧ st = as'.reverse ++ .ref b :: rest ∧ as'.length = tm_np m2))
    (hst : ∀ v ∈ st, tm_wv (tm_sz h) v) (hM : tm_Met G l D σ τ adV ρ m2 as h r H.size) (hdg : decode (tm_cc M) pc = .ok (i, 3)) (hc1 : cells + tm_mc m2 ≤ R.cells) (hc2 : slots + tm_ms m2 ≤ R.slots) :
    va_Run p l e R s m args below meth c H locs cells slots (tm_mc m2) (tm_ms m2) (F0 m pc lc (st.map (tm_vm ρ σ))) (rest.map (tm_vm ρ σ)) (tm_Qc D σ τ ρ h r H.size (as.map (tm_vm ρ σ)).toArray) (va_A (tm_ws ρ σ τ h) H.size) := by
  obtain ⟨hP, hD, hS, hwf⟩ := id hw
  obtain ⟨hx, hb, hr, hml, hown, hname, hlocks, hts⟩ := hAt
  obtain ⟨hokM, hlk⟩ := hG.2.1 _ _ _ hm2
  obtain ⟨o1, o2, o3, o4, o5, o6, o7, o8, o9, o10⟩ := hokM
  have hg := tm_Ws_good hts
  have hn := hCx.2.1
  unfold tm_may at hmay
  simp only [Bool.and_eq_true, decide_eq_true_eq] at hmay
  obtain ⟨⟨⟨hd, hlo⟩, hrl⟩, -⟩ := hmay
  have hF : ∀ q, va_A (tm_ws ρ σ τ h) H.size q → A q := by
    intro q hq
    rcases hq with ⟨k, e0, hk⟩ | hq
    · exact hD.2 k _ hk
    · exact hA q (Nat.le_trans hS.1 hq)
  have hfr : (tm_rm m2).frames + 1 ≤ R.frames := by rw [hR]; exact hd
  have hlr : 8 + (tm_mx m2 + 11) + (tm_rm m2).locals ≤ R.locals := by rw [hR]; show 8 + (tm_mx m2 + 11) + tm_lo m2 ≤ tm_lo M; omega
  have hpc : ∀ U : State, U.heap = H → s.WarmedH U.vm → tm_Pc G D σ τ adV ρ h as H.size (as.map (tm_vm ρ σ)).toArray U := fun U hU hW =>
    ⟨rfl, by rw [hU], by rw [hU]; exact hP, hD.weaken (fun _ _ _ _ => trivial), tm_Cx.warm hCx hW hU hS.2.1 hF⟩
  have hroom : 2 * (F0 m pc lc (st.map (tm_vm ρ σ))).monitorRoom + ((rest.map (tm_vm ρ σ)).map fun v => v.category).sum ≤ 8 := by
    have hsum : ∀ l : List Value, (l.map fun v => v.category).sum ≤ 2 * l.length := by
      intro l
      induction l with
      | nil => exact Nat.le_refl _
      | cons a l ih =>
        rw [List.map_cons, List.sum_cons, List.length_cons]
        rcases lv_cat a with q | q <;> omega
    have := hsum (rest.map (tm_vm ρ σ))
    rw [List.length_map] at this
    exact lv_room (by omega)
  have hdesc := tm_desc o6
  have hcall := tm_CB (R := R) (rm := tm_rm m2) (own := tm_nm G (tm_oc M)) (index := k) (n := tm_np m2) hg o3 o4
  have hlen2 : ∀ l : List Value, (l.map (tm_vm ρ σ)).length = l.length := fun l => List.length_map _
  have hw1 := tm_Ws_warm hg o3
  have hS1 : CallFix p m c (tm_cc M) (tm_mx M) s args (tm_Ws (tm_y M) (tm_cc M) (tm_mx M) (tm_rt M)) (tm_nm G (tm_oc M)) := ⟨hx, hb, hml, hown, hts⟩
  rcases hin with ⟨rfl, hk, hst1, hnp⟩ | ⟨rfl, hk, b, as', rfl, hst1, hnp, hob⟩ | ⟨rfl, hk, b, as', rfl, hst1, hnp⟩
  · have hstk : (F0 m pc lc (st.map (tm_vm ρ σ))).stack = (as.map (tm_vm ρ σ)).reverse ++ rest.map (tm_vm ρ σ) := by
      show st.map _ = _
      rw [hst1, List.map_append, List.map_reverse]
    rcases hlk with hlk | ⟨host, hlk⟩
    · exact va_runS hS1 hM ⟨hcall hlk o5 hdesc hfr hlr, hg _ (o7 hk) rfl⟩ ⟨tm_Pc_blind _ _ _ _ _ _ _ _ _, hpc⟩ rfl ((hlen2 as).trans hnp) hsz hstk hroom hdg ⟨hc1, hc2⟩
    · exact va_runSN hS1 hM ⟨⟨⟨rfl, rfl, hfr, hlr, hw1, List.mem_cons_self⟩, hg _ o3 rfl, hg _ o4 rfl, o5, hdesc, va_Nw.use rfl (hn _ hlk rfl)⟩, hg _ (o7 hk) rfl, trivial⟩ ⟨tm_Pc_blind _ _ _ _ _ _ _ _ _, hpc⟩ rfl ((hlen2 as).trans hnp) hsz hstk hroom hdg ⟨hc1, hc2⟩
  · have hstk : (F0 m pc lc (st.map (tm_vm ρ σ))).stack = (as'.map (tm_vm ρ σ)).reverse ++ .ref (ρ b) :: rest.map (tm_vm ρ σ) := by
      show st.map _ = _
      rw [hst1, List.map_append, List.map_reverse]; rfl
    obtain ⟨o81, o82, T, N, o83⟩ := o8 hk
    have hbw : tm_wv (tm_sz h) (.ref b) := hst _ (by rw [hst1]; exact List.mem_append_right _ List.mem_cons_self)
    obtain ⟨b1, b2⟩ := hbw b rfl
    have hobj : ∃ fs, h b = .inr (tm_oc m2, fs) := by
      unfold tm_isObj at hob
      split at hob
      · rename_i o ho
        rw [beq_iff_eq] at hob
        exact ⟨o.2, by rw [ho, ← hob]⟩
      · cases hob
    obtain ⟨fs, hobj⟩ := hobj
    have he := tm_ws_at ρ σ τ h b1 b2
    rw [hobj] at he
    have hrecv := va_recv hCx.1 hP o83 he
    rcases hlk with hlk | ⟨host, hlk⟩
    · exact va_runV (C := (tm_y m2).cls) hS1 hM ⟨hcall hlk o5 hdesc hfr hlr, hg _ o81 rfl, hg _ o82 rfl⟩ ⟨tm_Pc_blind _ _ _ _ _ _ _ _ _, hrecv, hpc⟩ rfl ((hlen2 as').trans hnp) hsz hstk hroom hdg ⟨hc1, hc2⟩
    · exact va_runVN (C := (tm_y m2).cls) hS1 hM ⟨⟨⟨rfl, rfl, hfr, hlr, hw1, List.mem_cons_self⟩, hg _ o3 rfl, hg _ o4 rfl, o5, hdesc, va_Nw.use rfl (hn _ hlk rfl)⟩, hg _ o81 rfl, hg _ o82 rfl⟩ ⟨tm_Pc_blind _ _ _ _ _ _ _ _ _, hrecv, hpc⟩ rfl ((hlen2 as').trans hnp) hsz hstk hroom hdg ⟨hc1, hc2⟩
  · have hstk : (F0 m pc lc (st.map (tm_vm ρ σ))).stack = (as'.map (tm_vm ρ σ)).reverse ++ .ref (ρ b) :: rest.map (tm_vm ρ σ) := by
      show st.map _ = _
      rw [hst1, List.map_append, List.map_reverse]; rfl
    obtain ⟨o91, o92, o93⟩ := o9 hk
    unfold tm_Met at hM
    rw [o93] at hM hcall hw1 o3
    rcases hlk with hlk | ⟨host, hlk⟩
    · exact va_runI hS1 hM ⟨hcall hlk o5 hdesc hfr hlr, o91, hg _ o92 rfl⟩ ⟨tm_Pc_blind _ _ _ _ _ _ _ _ _, hpc⟩ rfl ((hlen2 as').trans hnp) hsz hstk hroom hdg ⟨hc1, hc2⟩
    · exact va_runIN hS1 hM ⟨⟨⟨rfl, rfl, hfr, hlr, hw1, List.mem_cons_self⟩, hg _ o3 rfl, hg _ o4 rfl, o5, hdesc, va_Nw.use rfl (hn _ hlk rfl)⟩, o91, hg _ o92 rfl⟩ ⟨tm_Pc_blind _ _ _ _ _ _ _ _ _, hpc⟩ rfl ((hlen2 as').trans hnp) hsz hstk hroom hdg ⟨hc1, hc2⟩
end TMS4
