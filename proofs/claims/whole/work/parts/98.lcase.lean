/-! THE LAW, WALKED: what holds at its places, loads of the script, calls of class and reference -/
def R_law : String := "TwoMindsLaw"
def lw_P (b : Addr) (xs : List Int32) (args : Array Value) (s : State) : Prop := args = #[.ref b] ∧ s.IntsAt b xs ∧ xs.length ≤ 3072 ∧ (Jvm.Cond.and given_1 narrow_1).before args s = true
def lw_Q (_ : Array Value) (s : State) (o : Outcome) (t : State) : Prop := o = .returned (some (.int 1)) ∧ Framed s o t [] 601024 7293034
def lw_Z (below : List Frame) (a : Array Value) (s : State) : State → Prop := fun t => ∃ o, t.status = .running ∧ Ended t below o ∧ lw_Q a s o t
/-- the law's own end, with 1 on the stack, nothing written that was there before, its room as the claim has it -/
theorem lw_ret {p : Program} {l : Launch} {e : Env} {s : State} {m : MethodId} {below : List Frame} {meth : Method} {c : Code} {b : Nat} (hx : p.tables.exec = Jvm.exec) (hb : c.code = code) (hr : meth.sig.returnType = ret) (hlocks : meth.locks = false) {pc : Nat} {H : Heap} {ls : Array Slot} (hdg : decode code pc = .ok (.ireturn, 1)) : W p l e room_1 s m #[Value.ref b] below meth c H [] 601024 7293034 (lw_Z below #[Value.ref b] s) (F0 m pc ls [.int 1]) := by
  intro T hT X
  obtain ⟨fs, hret, hrun, hended, hW, hframe⟩ := X.leave (v := some (.int 1)) (hlocks := hlocks) (fun h => by rw [hr] at h; cases h)
  have hmeth' : T.vm.method? m = some meth := X.method'
  refine ⟨T.setFrames fs, ?_, .returned (some (.int 1)), hrun, hended, rfl, ⟨_, rfl⟩, hW, hframe⟩
  jvm_step X.here [X.here.top, hx, hb, hdg, hmeth', hr, ret, narrow_b1]
  (try refine ⟨rfl, ?_⟩); (try refine ⟨rfl, ?_⟩)
  first | (intro acts; rw [hret _ acts rfl rfl rfl]) | rw [hret _ _ rfl rfl rfl]
  exact Steps.refl _
/-- what holds at the law's entry: the machine, the code, the tables' words (any of lw_tbl by 'hts w (by decide +kernel)'), the script of L ints xs at the cell b, what the Statement gives of the start (any of its parts by flat_of_before) -/
def lw_At (p : Program) (s : State) (m : MethodId) (meth : Method) (c : Code) (b L : Nat) (xs : Nat → Int32) : Prop :=
  p.tables.exec = Jvm.exec ∧ c.code = code ∧ meth.sig.returnType = ret ∧ c.maxLocals = 7 ∧ s.vm.findClass R_law = some m.cls ∧ (∀ w ∈ lw_tbl, w.before #[Value.ref b] s = true) ∧ va_X b L xs s s.heap ∧ b < s.heap.size ∧ meth.locks = false ∧ (Jvm.Cond.and given_1 narrow_1).before #[Value.ref b] s = true
/-- what stays through the law -/
def lw_G (p : Program) (l : Launch) (s : State) (m : MethodId) (meth : Method) (c : Code) (b L : Nat) (xs : Nat → Int32) (D : va_G) (σ τ adV : Nat → Nat) (cA : Nat) : Prop :=
  lw_At p s m meth c b L xs ∧ tm_Cx tm_G D σ τ adV (fun q => s.heap.size ≤ q) s s.heap ∧ lx_Cx (fun q => s.heap.size ≤ q) s s.heap ∧ va_K D vwCl [(cA, .long)] s ∧ l.stackTraces = false ∧ L ≤ 3072
/-- the world: class and reference, and the law's own array beside them -/
def lw_V (s : State) (D : va_G) (σ τ : Nat → Nat) (cA qo : Nat) (ρ : Nat → Nat) (h : tm_H) (f : Nat → Int64) (H : Heap) (locs : List Loc) : Prop :=
  tm_Wd D σ τ (fun q => s.heap.size ≤ q) s ρ h H locs ∧ lo_at D cA qo f H ∧ s.heap.size ≤ qo ∧ lo_no ρ σ τ h qo
abbrev lw_D1 (pc j : Nat) : Prop := decode code pc = .ok (.aload_n 0, 1) ∧ decode code (pc + 1) = .ok (.iload 4, 2) ∧ decode code (pc + 3) = .ok (.iconst (j : Int), 1) ∧ decode code (pc + 4) = .ok (.iadd, 1) ∧ decode code (pc + 5) = .ok (.iaload, 1)
def lw_Db (pc n : Nat) : Bool := (List.range n).all (fun j => decide (lw_D1 (pc + 6 * j) (j + 1)))
theorem lw_Dbs {pc n : Nat} (d : lw_Db pc n = true) : ∀ j, j < n → lw_D1 (pc + 6 * j) (j + 1) := fun j hj => of_decide_eq_true (List.all_eq_true.mp d j (List.mem_range.mpr hj))
abbrev lw_D2 (P n kx km : Nat) : Prop := decode code P = .ok (.aload_n 1, 1) ∧ lw_Db (P + 1) n = true ∧ decode code (P + 1 + 6 * n) = .ok (.invokevirtual kx, 3) ∧ decode code (P + 1 + 6 * n + 3) = .ok (.aload_n 2, 1) ∧ lw_Db (P + 1 + 6 * n + 3 + 1) n = true ∧ decode code (P + 1 + 6 * n + 3 + 1 + 6 * n) = .ok (.invokevirtual km, 3)
abbrev lw_D3 (pc : Nat) (off : Int) : Prop := decode code pc = .ok (.if_icmp .eq off, 3) ∧ (pc : Int) + off = (1368 : Nat)
abbrev lw_D4 (pc : Nat) (off : Int) : Prop := decode code pc = .ok (.lcmp, 1) ∧ decode code (pc + 1) = .ok (.ifCond .eq off, 3) ∧ ((pc + 1 : Nat) : Int) + off = (1368 : Nat)
/-- how much a method may use of the law's room -/
abbrev lw_Rm (M : tm_M) : Prop := tm_dp M + 1 ≤ 15 ∧ 8 + (tm_mx M + 11) + tm_lo M ≤ 562
section LWC
variable {p : Program} {l : Launch} {e : Env} {s : State} {m : MethodId} {below : List Frame} {meth : Method} {c : Code} {H : Heap} {locs : List Loc} {cells slots : Nat} {Q : State → Prop} {b L : Nat} {xs : Nat → Int32}
variable {pc : Nat} {lc : Array Slot} {ρ σ τ adV : Nat → Nat} {h h' : tm_H} {D : va_G} {cA qo : Nat} {f : Nat → Int64}
/-- an int of the script -/
theorem lw_ld {i j : Nat} {st : List Value} (G : lw_G p l s m meth c b L xs D σ τ adV cA) (V : lw_V s D σ τ cA qo ρ h f H locs) (hi : i + j < L) (h0 : lc[0]? = some (.val (.ref b))) (h4 : lc[4]? = some (.val (.int (nI i)))) (d : lw_D1 pc j)
    (kk : W p l e room_1 s m #[Value.ref b] below meth c H locs cells slots Q (F0 m (pc + 6) lc (.int (xs (i + j)) :: st))) : W p l e room_1 s m #[Value.ref b] below meth c H locs cells slots Q (F0 m pc lc st) := by
  obtain ⟨⟨hx, hb, hr, hml, hown, hts, hX, hbl, hlocks, hgv⟩, -, -, -, -, hL⟩ := G
  obtain ⟨d0, d1, d3, d4, d5⟩ := d
  have e1 : nI i + nI j = nI (i + j) := nI_add i j
  have e2 : (nI (i + j)).toNatClampNeg = i + j := nI_clamp (by omega)
  refine lv_aload_n hx hb d0 rfl h0 ?_
  refine lv_iload hx hb d1 h4 ?_
  refine lv_iconst (v := nI j) hx hb d3 rfl ?_
  refine lv_iadd hx hb d4 ?_
  rw [e1]
  refine va_sld (A := fun q => s.heap.size ≤ q) hx hb hX hbl (Nat.not_le.mpr hbl) V.1.2.2.1 (vp_in_nI hi (by omega)) d5 ?_
  rw [e2]
  exact kk
/-- the arguments of a call -/
theorem lw_lds {i : Nat} (G : lw_G p l s m meth c b L xs D σ τ adV cA) (V : lw_V s D σ τ cA qo ρ h f H locs) (hi : i + 6 ≤ L) (h0 : lc[0]? = some (.val (.ref b))) (h4 : lc[4]? = some (.val (.int (nI i)))) {st : List Value} :
    ∀ n : Nat, n ≤ 5 → (∀ j, j < n → lw_D1 (pc + 6 * j) (j + 1)) → W p l e room_1 s m #[Value.ref b] below meth c H locs cells slots Q (F0 m (pc + 6 * n) lc (((List.range n).map (fun j => Value.int (xs (i + (j + 1))))).reverse ++ st)) → W p l e room_1 s m #[Value.ref b] below meth c H locs cells slots Q (F0 m pc lc st) := by
  intro n
  induction n with
  | zero => intro _ _ kk; exact kk
  | succ n ih =>
    intro hn d kk
    refine ih (by omega) (fun j hj => d j (by omega)) ?_
    refine lw_ld (i := i) (j := n + 1) G V (by omega) h0 h4 (d n (by omega)) ?_
    rw [List.range_succ, List.map_append, List.reverse_append] at kk
    rw [show pc + 6 * n + 6 = pc + 6 * (n + 1) by omega]
    exact kk
/-- a call of class or reference -/
theorem lw_call {M : tm_M} {k a : Nat} {as' rest : List Value} {v : Value} (G : lw_G p l s m meth c b L xs D σ τ adV cA) (V : lw_V s D σ τ cA qo ρ h f H locs) (hok : tm_OkM tm_G M) (hkd : tm_kd M = 1) (hk : Jvm.Cond.methodLink RL k (tm_y M) ∈ lw_tbl) (hrm : lw_Rm M) (hnp : as'.length = tm_np M)
    (ha1 : 1 ≤ a) (ha2 : a ≤ tm_sz h) (hob : ∃ fs, h a = .inr (tm_oc M, fs)) (hint : ∀ v ∈ as', ∃ x, v = Value.int x) (hc : tC M (.ref a :: as') h = some (h', some v)) (hv : ∀ ρ : Nat → Nat, tm_vm ρ σ v = v)
    (hrest : (rest.map fun v => v.category).sum ≤ 8) (hsz : lc.size = 7) (hdg : decode code pc = .ok (.invokevirtual k, 3)) (hcl : cells + tm_mc M ≤ 601024) (hsl : slots + tm_ms M ≤ 7293034)
    (kk : ∀ (ρ' : Nat → Nat) (H' : Heap) (locs' : List Loc), lx_Ag ρ h ρ' → lw_V s D σ τ cA qo ρ' h' f H' locs' → tm_sz h ≤ tm_sz h' → W p l e room_1 s m #[Value.ref b] below meth c H' locs' (cells + tm_mc M) (slots + tm_ms M) Q (F0 m (pc + 3) lc (v :: rest))) :
    W p l e room_1 s m #[Value.ref b] below meth c H locs cells slots Q (F0 m pc lc (as'.reverse ++ .ref (ρ a) :: rest)) := by
  obtain ⟨⟨hx, hb, hr, hml, hown, hts, hX, hbl, hlocks, hgv⟩, hCx, -, -, -, -⟩ := G
  obtain ⟨⟨hP, hD, hS, hwf⟩, hO, hqo, hno⟩ := V
  obtain ⟨o1, o2, o3, o4, o5, o6, o7, o8, o9, o10⟩ := id hok
  obtain ⟨o81, o82, T, N, o83⟩ := o8 hkd
  have has : ∀ v ∈ (.ref a :: as' : List Value), tm_wv (tm_sz h) v := fun v hv => by
    rcases List.mem_cons.mp hv with rfl | hv
    · intro z hz; injection hz with hz; subst hz; exact ⟨ha1, ha2⟩
    · obtain ⟨x, rfl⟩ := hint v hv; exact tm_wv_int _ _
  have hmap : as'.map (tm_vm ρ σ) = as' := by
    have : as'.map (tm_vm ρ σ) = as'.map id := List.map_congr_left (fun v hv => by obtain ⟨x, rfl⟩ := hint v hv; rfl)
    rw [this, List.map_id]
  have hg : ∀ w ∈ lw_tbl, goodWord w = true → w.before #[Value.ref b] s = true := fun w hw _ => hts w hw
  have hM := tm_sound tm_okG l D σ τ adV (tm_dp M) M hok (Nat.le_refl _) _ h _ hc hwf has ρ H.size
  have hck := tm_cd_ck tm_okG.1 _ _ _ _ _ hc hwf has
  have hF : ∀ q, va_A (tm_ws ρ σ τ h) H.size q → s.heap.size ≤ q := by
    intro q hq
    rcases hq with ⟨k, e0, hk⟩ | hq
    · exact hD.2 k _ hk
    · exact Nat.le_trans hS.1 hq
  obtain ⟨fs, hobj⟩ := hob
  have he := tm_ws_at ρ σ τ h ha1 ha2
  rw [hobj] at he
  have hrecv := va_recv hCx.1 hP o83 he
  have hqA : ¬ va_A (tm_ws ρ σ τ h) H.size qo := fun q => by
    rcases q with ⟨k, e, hk⟩ | q
    · exact hno k e hk
    · exact absurd hO.lt (Nat.not_lt.mpr q)
  refine tm_callW (va_runV (C := (tm_y M).cls) (As := as') (rest := rest) ⟨hx, hb, hml, hown, hts⟩ hM ⟨tm_CB hg o3 o4 hk o5 (tm_desc o6) hrm.1 hrm.2, hg _ o81 rfl, hg _ o82 rfl⟩ ⟨tm_Pc_blind _ _ _ _ _ _ _ _ _, hrecv, fun U hU hW => ⟨by rw [List.map_cons, hmap]; rfl, by rw [hU], by rw [hU]; exact hP, hD.weaken (fun _ _ _ _ => trivial), tm_Cx.warm hCx hW hU hS.2.1 hF⟩⟩ rfl hnp hsz rfl (lv_room hrest) hdg ⟨hcl, hsl⟩) (fun v9 st₀ t H1 Lc h1 h2 hW hq hL => ?_)
  obtain ⟨ρ', e1, e2, q1, q2, q3⟩ := hq
  obtain rfl : v9 = some v := by
    have e3 : v9 = some (tm_vm ρ' σ v) := Outcome.returned.inj e2
    rw [e3, hv ρ']
  rw [h2] at q1
  obtain ⟨z1, z2⟩ := q3
  rw [h1, h2] at z1 z2
  refine kk ρ' H1 (locs ++ Lc) e1 ⟨⟨q1, q2.weaken (fun _ q _ hz => hF q.1 hz), ⟨Nat.le_trans hS.1 z1, fun q hq hnA => ?_, fun x hx => ?_⟩, hck.1⟩, va_at.kept hO (z2 qo hO.lt hqA), hqo, fun k e he => hqA (q2.2 k _ he)⟩ hck.2.2.1
  · rw [z2 q (Nat.lt_of_lt_of_le hq hS.1) (fun z => hnA (hF q z))]
    exact hS.2.1 q hq hnA
  · rcases List.mem_append.mp hx with y | y
    · exact hS.2.2 x y
    · exact hF _ (hL x y)
theorem LI_sz {S : SS} (L : LI h S) : 83 ≤ tm_sz h := by
  obtain ⟨Z, m1, c1, s1, q, h1, _⟩ := L.2.1
  unfold tm_sz
  rw [q]
  exact h1
theorem LI_9 {S : SS} (L : LI h S) : ∃ fs, h 1 = .inr (9, fs) := by
  obtain ⟨told, spare, ts, O, _⟩ := L.1
  exact ⟨_, O⟩
theorem lw_ints {i n : Nat} : ∀ v ∈ (List.range n).map (fun j => Value.int (xs (i + (j + 1)))), ∃ x, v = Value.int x := fun v hv => by
  obtain ⟨j, _, rfl⟩ := List.mem_map.mp hv
  exact ⟨_, rfl⟩
/-- what the locals hold at the head of the loop -/
abbrev lw_lv (b : Nat) (ρ : Nat → Nat) (qo i : Nat) : List (Nat × Value) := [(0, .ref b), (1, .ref (ρ 1)), (2, .ref (ρ 70)), (3, .ref qo), (4, .int (nI i))]
/-- a case of the law: both are called, and answer alike -/
theorem lw_case {P n kx km : Nat} {lng : Bool} {mx mm : tm_M} {i : Nat} {off : Int} {S : SS} (G : lw_G p l s m meth c b L xs D σ τ adV cA) (V : lw_V s D σ τ cA qo ρ h f H locs) (LL : LI h S) (hi : i + 6 ≤ L) (hl : lv_has lc 7 (lw_lv b ρ qo i)) (hn : n ≤ 5) (dc : lw_D2 P n kx km)
    (de : (lng = false → lw_D3 (P + 1 + 6 * n + 3 + 1 + 6 * n + 3) off) ∧ (lng = true → lw_D4 (P + 1 + 6 * n + 3 + 1 + 6 * n + 3) off)) (okx : tm_OkM tm_G mx) (okm : tm_OkM tm_G mm) (fx : tm_kd mx = 1 ∧ tm_oc mx = 9 ∧ tm_np mx = n ∧ lw_Rm mx) (fm : tm_kd mm = 1 ∧ tm_oc mm = 11 ∧ tm_np mm = n ∧ lw_Rm mm)
    (lkx : Jvm.Cond.methodLink RL kx (tm_y mx) ∈ lw_tbl) (lkm : Jvm.Cond.methodLink RL km (tm_y mm) ∈ lw_tbl) (bd : tm_mc mx + tm_mc mm ≤ 20 ∧ tm_ms mx + tm_ms mm ≤ 200) (st : LStep h lng mx mm ((List.range n).map (fun j => Value.int (xs (i + (j + 1)))))) (hcl : cells + 20 ≤ 601024) (hsl : slots + 200 ≤ 7293034)
    (kk : ∀ (ρ' : Nat → Nat) (h' : tm_H) (S' : SS) (f' : Nat → Int64) (H' : Heap) (locs' : List Loc) (lc' : Array Slot), LI h' S' → lw_V s D σ τ cA qo ρ' h' f' H' locs' → lv_has lc' 7 (lw_lv b ρ' qo i) → W p l e room_1 s m #[Value.ref b] below meth c H' locs' (cells + 20) (slots + 200) Q (F0 m 1368 lc' [])) :
    W p l e room_1 s m #[Value.ref b] below meth c H locs cells slots Q (F0 m P lc []) := by
  obtain ⟨hx, hb, hr, hml, hown, hts, hX, hbl, hlocks, hgv⟩ := G.1
  obtain ⟨d0, d1, d2, d3, d4, d5⟩ := dc
  obtain ⟨h1, v, h2, S', ty, hob, c1, c2, LL2⟩ := st
  have hz := LI_sz LL
  have hv : ∀ ρ : Nat → Nat, tm_vm ρ σ v = v := fun ρ => by
    cases lng with
    | true => obtain ⟨x, rfl⟩ := ty; rfl
    | false => obtain ⟨x, rfl⟩ := ty; rfl
  have hcat : v.category ≤ 2 := by rcases lv_cat v with q | q <;> omega
  have hlen : ((List.range n).map (fun j => Value.int (xs (i + (j + 1))))).length = n := by rw [List.length_map, List.length_range]
  refine lv_aload_n hx hb d0 rfl (lv_at hl 1 rfl) ?_
  refine lw_lds (pc := P + 1) G V hi (lv_at hl 0 rfl) (lv_at hl 4 rfl) n hn (lw_Dbs d1) ?_
  refine lw_call G V okx fx.1 lkx fx.2.2.2 (hlen.trans fx.2.2.1.symm) (Nat.le_refl 1) (by omega) (by rw [fx.2.1]; exact LI_9 LL) lw_ints c1 hv (show 0 ≤ 8 by decide) hl.1 d2 (by omega) (by omega) (fun ρ1 H1 locs1 e1 V1 z1 => ?_)
  refine lv_aload_n hx hb d3 rfl (lv_at hl 2 rfl) ?_
  refine lw_lds (pc := P + 1 + 6 * n + 3 + 1) G V1 hi (lv_at hl 0 rfl) (lv_at hl 4 rfl) n hn (lw_Dbs d4) ?_
  rw [← e1 70 (by decide) (by omega)]
  refine lw_call G V1 okm fm.1 lkm fm.2.2.2 (hlen.trans fm.2.2.1.symm) (show 1 ≤ 70 by decide) (by omega) (by rw [fm.2.1]; exact hob) lw_ints c2 hv (show v.category + 0 ≤ 8 by omega) hl.1 d5 (by omega) (by omega) (fun ρ2 H2 locs2 e2 V2 z2 => ?_)
  have hl2 : lv_has lc 7 (lw_lv b ρ2 qo i) := by
    unfold lw_lv
    rw [e2 1 (by decide) (by omega), e2 70 (by decide) (by omega), e1 1 (by decide) (by omega), e1 70 (by decide) (by omega)]
    exact hl
  have k2 := W.widen (cells := cells + tm_mc mx + tm_mc mm) (slots := slots + tm_ms mx + tm_ms mm) (k := cells + 20) (n := slots + 200) (by omega) (by omega) (kk ρ2 h2 S' f H2 locs2 lc LL2 V2 hl2)
  cases lng with
  | false =>
    obtain ⟨x, rfl⟩ := ty
    obtain ⟨q1, q2⟩ := de.1 rfl
    exact lv_icmp_eq (tgt := 1368) hx hb q1 q2 (fun _ => k2) (fun q => absurd rfl q)
  | true =>
    obtain ⟨x, rfl⟩ := ty
    obtain ⟨q1, q2, q3⟩ := de.2 rfl
    refine W.lcmp hx hb q1 ?_
    exact lv_if_eq (tgt := 1368) hx hb q2 q3 (fun _ => k2) (fun q => absurd (by unfold lg_cmp; rw [if_neg (Int64.lt_irrefl), if_pos rfl]) q)
end LWC
