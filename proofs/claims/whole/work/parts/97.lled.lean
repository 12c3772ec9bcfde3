/-! led: the class's method, that may throw; and the law's own, that catches it -/
section LL
variable {p : Program} {l : Launch} {e : Env} {R : Room} {s : State} {m : MethodId} {args : Array Value} {below : List Frame} {meth : Method} {c : Code} {H : Heap} {locs : List Loc} {cells slots : Nat} {Q : State → Prop}
variable {cc : ByteArray} {pc : Nat} {lc : Array Slot} {ρ σ τ adV : Nat → Nat} {h : tm_H} {D : va_G} {A : Nat → Prop}
/-- a field of a cell of the world is read -/
theorem lx_get {oc k a ci j : Nat} {fs : List Value} {v : Value} {rest : List Value} (hx : p.tables.exec = Jvm.exec) (hb : c.code = cc) (hown : s.vm.findClass (tm_nm tm_G oc) = some m.cls) (hg : ∀ w ∈ lw_tbl, goodWord w = true → w.before args s = true) (hn : ∀ w ∈ lw_tbl, tm_nst w = true → va_Nw w s) (hK : va_K D vwCl (tm_tys τ) s) (hP : va_P D vwCl (tm_ws ρ σ τ h) H)
    (hf : tm_fld tm_G oc k = some (ci, j)) (ha1 : 1 ≤ a) (ha2 : a ≤ tm_sz h) (ha : h a = .inr (ci, fs)) (hv : fs[j]? = some v) (hdg : decode cc pc = .ok (.getfield k, 3)) (kk : W p l e R s m args below meth c H locs cells slots Q (F0 m (pc + 3) lc (tm_vm ρ σ v :: rest))) : W p l e R s m args below meth c H locs cells slots Q (F0 m pc lc (.ref (ρ a) :: rest)) := by
  obtain ⟨hF, hC, hN⟩ := tm_okG.1
  obtain ⟨C, T, N, h1, h2, h3⟩ := hF _ _ _ _ hf
  obtain ⟨h4, h5, h6, -⟩ := hC _ _ _ _ h1
  have he := tm_ws_at ρ σ τ h ha1 ha2
  rw [ha] at he
  have hv' : (fs.map (tm_vm ρ σ))[j]? = some (tm_vm ρ σ v) := by rw [List.getElem?_map, hv]; rfl
  rcases h3 with h3 | ⟨host, h3, hne⟩
  · exact va_get (D := D) hx hb (tm_good_ws hg h4) (fun _ h9 => h9) hown hK hP (a - 1) he h1 j h2 (hg _ h3 rfl) (fun _ h9 => h9) hv' hdg kk
  · exact va_getN (D := D) hx hb (tm_good_ws hg h4) (fun _ h9 => h9) hown hK hP (a - 1) he h1 j h2 (va_Nw.use rfl (hn _ h3 rfl)) (fun _ h9 => h9) hv' hdg kk
end LL
/-- led as a method of the small machine, with room for its throw -/
def mLed : tm_M := (9, yX9_led, cX9_led, 2, (some .int), 1, 6, 101, 1, 6, false, 1)
theorem dXl_0 : decode cX9_led 0 = .ok (.iload_n 1, 1) := by decide +kernel
theorem dXl_1 : decode cX9_led 1 = .ok (.iconst 0, 1) := by decide +kernel
theorem dXl_2 : decode cX9_led 2 = .ok (.aload_n 0, 1) := by decide +kernel
theorem dXl_3 : decode cX9_led 3 = .ok (.getfield 49, 3) := by decide +kernel
theorem dXl_6 : decode cX9_led 6 = .ok (.getfield 131, 3) := by decide +kernel
theorem dXl_9 : decode cX9_led 9 = .ok (.invokevirtual 296, 3) := by decide +kernel
theorem dXl_12 : decode cX9_led 12 = .ok (.iconst 1, 1) := by decide +kernel
theorem dXl_13 : decode cX9_led 13 = .ok (.isub, 1) := by decide +kernel
theorem dXl_14 : decode cX9_led 14 = .ok (.invokestatic 68, 3) := by decide +kernel
theorem dXl_17 : decode cX9_led 17 = .ok (.ifCond .ne 11, 3) := by decide +kernel
theorem dXl_20 : decode cX9_led 20 = .ok (.new 299, 3) := by decide +kernel
theorem dXl_23 : decode cX9_led 23 = .ok (.dup, 1) := by decide +kernel
theorem dXl_24 : decode cX9_led 24 = .ok (.invokespecial 301, 3) := by decide +kernel
theorem dXl_27 : decode cX9_led 27 = .ok (.athrow, 1) := by decide +kernel
theorem dXl_28 : decode cX9_led 28 = .ok (.aload_n 0, 1) := by decide +kernel
theorem dXl_29 : decode cX9_led 29 = .ok (.getfield 49, 3) := by decide +kernel
theorem dXl_32 : decode cX9_led 32 = .ok (.getfield 131, 3) := by decide +kernel
theorem dXl_35 : decode cX9_led 35 = .ok (.iload_n 1, 1) := by decide +kernel
theorem dXl_36 : decode cX9_led 36 = .ok (.invokevirtual 302, 3) := by decide +kernel
theorem dXl_39 : decode cX9_led 39 = .ok (.ireturn, 1) := by decide +kernel
/-- where led begins: the world, and what its throw wants -/
def lx_Pc (D : va_G) (σ τ adV ρ : Nat → Nat) (h : tm_H) (i : Int32) (sz : Nat) : Array Value → State → Prop :=
  va_Pc [.ref (ρ 1), .int i] (fun U => U.heap.size = sz ∧ va_P D vwCl (tm_ws ρ σ τ h) U.heap ∧ va_D (fun _ => True) (tm_ws ρ σ τ h) ∧ tm_Cx tm_G D σ τ adV (va_A (tm_ws ρ σ τ h) sz) U U.heap ∧ lx_Cx (va_A (tm_ws ρ σ τ h) sz) U U.heap)
theorem lx_Pc_blind (D : va_G) (σ τ adV ρ : Nat → Nat) (h : tm_H) (i : Int32) (sz : Nat) : FrameBlind (lx_Pc D σ τ adV ρ h i sz) := fun a U g mk q => ⟨q.1, q.2.1, q.2.2.1, q.2.2.2.1, tm_Cx.same (u := U) (U := U.calling g mk a) q.2.2.2.2.1 rfl, lx_Cx.same (u := U) (U := U.calling g mk a) q.2.2.2.2.2 rfl⟩
def lx_B' (D : va_G) (σ τ : Nat → Nat) (h : tm_H) (A : Nat → Prop) (ρ' : Nat → Nat) (t : State) : Prop := va_P D vwCl (tm_ws ρ' σ τ h) t.heap ∧ va_D A (tm_ws ρ' σ τ h)
abbrev lx_Ag (ρ : Nat → Nat) (h : tm_H) (ρ' : Nat → Nat) : Prop := ∀ k, 1 ≤ k → k ≤ tm_sz h → ρ' k = ρ k
set_option maxHeartbeats 4000000 in
theorem lx_led (l : Launch) (hlt : l.stackTraces = false) (D : va_G) (σ τ adV ρ : Nat → Nat) (h : tm_H) (S : SS) (i : Int32) (sz : Nat) (L : LI h S) (hwf : tm_wf h) :
    vx_Met l yX9_led (tm_Ws yX9_led cX9_led 2 (some .int)) (tm_rm mLed) (lx_Pc D σ τ adV ρ h i sz) (va_Qi (fun r ρ' => lx_Ag ρ h ρ' ∧ ledC S i = true ∧ r = ledS ((sR S).1 7 (iN i))) (lx_B' D σ τ h (va_A (tm_ws ρ σ τ h) sz)) (va_A (tm_ws ρ σ τ h) sz))
      (vx_X (fun ρ' => lx_Ag ρ h ρ' ∧ ledC S i = false) (fun E ρ' t => E = "java/util/NoSuchElementException" ∧ lx_B' D σ τ h (va_A (tm_ws ρ σ τ h) sz) ρ' t) (va_A (tm_ws ρ σ τ h) sz)) 1 6 (va_A (tm_ws ρ σ τ h) sz) := by
  refine vx_ofW (cc := cX9_led) (maxL := 2) (ret := (some .int)) (by decide) rfl ?_
  intro p e s m args below meth c s₁ B hml hno hv
  obtain ⟨rfl, hsz, hP, hD0, hCx, hLx⟩ := hv
  subst hsz
  have hx := B.exec
  have hb := B.bytes
  have hr := B.returns
  have hts := atoms_spec (ws := tm_Ws yX9_led cX9_led 2 (some .int)) B.pre
  have hg := tm_Ws_good hts
  have hown : s.vm.findClass RX9 = some m.cls := findClass_of_methodNamed B.named
  have hlocks := B.notSynchronized
  have hAt : tm_At tm_G p s m ([.ref (ρ 1), .int i] : List Value).toArray meth c mLed := ⟨hx, hb, hr, hml, hown, (name_of_methodNamed B.named B.method).1, hlocks, hts⟩
  have hD := hD0.self (sz := s.heap.size)
  generalize hAe : va_A (tm_ws ρ σ τ h) s.heap.size = A at hD hCx hLx ⊢
  have hA : ∀ q : Nat, s.heap.size ≤ q → A q := fun q hq => by rw [← hAe]; exact Or.inr hq
  have hw : tm_Wd D σ τ A s ρ h s.heap [] := ⟨hP, hD, va_S.rf, hwf⟩
  obtain ⟨X, M, P⟩ := L
  have hsz : 83 ≤ tm_sz h := by
    obtain ⟨Z, m1, c1, s1, q, h1, _⟩ := M
    unfold tm_sz
    rw [q]
    exact h1
  obtain ⟨told, spare, ts, O, T2, Rd, K, ⟨bx, wa, ⟨b1, ⟨cp, cq, CA⟩, b3⟩, _⟩, Tr, Bi, Bl⟩ := X
  have hl := lv_entry ([.ref (ρ 1), .int i]) (n := 2) (Nat.le_of_ble_eq_true rfl)
  rw [lg_entry_eq]
  generalize (lg_sl ([.ref (ρ 1), .int i]) ++ List.replicate (2 - (lg_sl ([.ref (ρ 1), .int i])).length) Slot.unset).toArray = ls at hl ⊢
  have hl : lv_has ls 2 [(0, .ref (ρ 1)), (1, .int i)] := hl
  refine lv_iload_n hx hb dXl_0 rfl (lv_at hl 1 rfl) ?_
  refine lv_iconst (v := 0) hx hb dXl_1 (by decide) ?_
  refine lv_aload_n hx hb dXl_2 rfl (lv_at hl 0 rfl) ?_
  refine lx_get (oc := 9) (v := .ref 45) hx hb hown hg hCx.2.1 hCx.1 hP (by decide +kernel : tm_fld tm_G 9 49 = some (9, 6)) (Nat.le_refl 1) (by omega) O rfl dXl_3 ?_
  refine lx_get (oc := 9) (a := 45) (v := .ref 46) hx hb hown hg hCx.2.1 hCx.1 hP (by decide +kernel : tm_fld tm_G 9 131 = some (0, 0)) (by decide) (by omega) b1 rfl dXl_6 ?_
  have c1 := ce_turned CA
  have v24 : ∀ v ∈ ([.ref 46] : List Value), tm_wv (tm_sz h) v := fun v hv => by
    rw [List.mem_singleton.mp hv]; intro a ha; injection ha with ha; subst ha; exact ⟨by decide, show (46 : Nat) ≤ tm_sz h by omega⟩
  have v24' : ∀ v ∈ ([.ref 46, .int 0, .int i] : List Value), tm_wv (tm_sz h) v := fun v hv => by
    rcases List.mem_cons.mp hv with rfl | hv
    · exact v24 _ List.mem_cons_self
    · rcases List.mem_cons.mp hv with rfl | hv
      · exact tm_wv_int _ _
      · rw [List.mem_singleton.mp hv]; exact tm_wv_int _ _
  have vi : ∀ v ∈ ([.int 0, .int i] : List Value), tm_wv (tm_sz h) v := fun v hv => v24' v (List.mem_cons_of_mem _ hv)
  refine tm_sim_call (m2 := mX4_turned) (as := [.ref 46]) (rest := [.int 0, .int i]) hA hw (fun _ => tm_sim_inv (st := [.ref 46, .int 0, .int i]) (i := .invokevirtual 296) (k := 296) tm_okG hAt rfl hCx hA hw rfl rfl hl.1 (Or.inr (Or.inl ⟨rfl, rfl, 46, [], rfl, rfl, rfl, by rw [CA.1]; rfl⟩)) v24' (tm_sound tm_okG l D σ τ adV 1 mX4_turned tz_mX4_turned (by decide) [.ref 46] h _ c1 hwf v24 ρ _) dXl_9 (by decide) (by decide)) (tm_cd_ck tm_okG.1 _ _ _ _ _ c1 hwf v24) vi (fun ρ1 H1 locs1 e1 hw1 => ?_)
  have hw1 : tm_Wd D σ τ A s ρ1 h H1 locs1 := hw1
  have e1 : lx_Ag ρ h ρ1 := e1
  refine lv_iconst (v := 1) hx hb dXl_12 (by decide) ?_
  refine lv_isub hx hb dXl_13 ?_
  have c2 := within_spec (h := h) (v := i) (lo := 0) (hi := nI (sR S).2.1 - 1)
  have v3 : ∀ v ∈ ([.int i, .int 0, .int (nI (sR S).2.1 - 1)] : List Value), tm_wv (tm_sz h) v := fun v hv => by
    rcases List.mem_cons.mp hv with rfl | hv
    · exact tm_wv_int _ _
    · rcases List.mem_cons.mp hv with rfl | hv
      · exact tm_wv_int _ _
      · rw [List.mem_singleton.mp hv]; exact tm_wv_int _ _
  refine tm_sim_call (m2 := mX9_within) (as := [.int i, .int 0, .int (nI (sR S).2.1 - 1)]) (rest := []) hA hw1 (fun _ => tm_sim_inv (st := [.int (nI (sR S).2.1 - 1), .int 0, .int i]) (i := .invokestatic 68) (k := 68) tm_okG hAt rfl hCx hA hw1 rfl rfl hl.1 (Or.inl ⟨rfl, rfl, rfl, rfl⟩) (fun v hv => v3 v ((List.mem_reverse (as := ([.int i, .int 0, .int (nI (sR S).2.1 - 1)] : List Value))).mp hv)) (tm_sound tm_okG l D σ τ adV 1 mX9_within tz_mX9_within (by decide) _ h _ c2 hwf v3 ρ1 _) dXl_14 (by decide) (by decide)) (tm_cd_ck tm_okG.1 _ _ _ _ _ c2 hwf v3) (fun v hv => by cases hv) (fun ρ2 H2 locs2 e2 hw2 => ?_)
  have hw2 : tm_Wd D σ τ A s ρ2 h H2 locs2 := hw2
  have e2 : lx_Ag ρ1 h ρ2 := e2
  have e12 : lx_Ag ρ h ρ2 := fun k k1 k2 => (e2 k k1 k2).trans (e1 k k1 k2)
  have hled : inB i 0 (nI (sR S).2.1 - 1) = ledC S i := led_in P.1
  refine lv_if_ne (tgt := 28) hx hb dXl_17 (by decide) (fun q => ?_) (fun q => ?_)
  · have hc : ledC S i = true := by
      cases hz : ledC S i with
      | true => rfl
      | false => rw [hled, hz] at q; exact absurd rfl q
    have hi : i = nI (iN i) ∧ iN i < (sR S).2.1 := by
      unfold ledC at hc
      rw [Bool.and_eq_true, Bool.and_eq_true, decide_eq_true_eq, decide_eq_true_eq] at hc
      obtain ⟨n, hn, e⟩ := nI_of (Int32.not_lt.mpr hc.1.2)
      have e2 : iN i = n := by rw [e]; exact iN_nI hn
      refine ⟨by rw [e2]; exact e, ?_⟩
      rcases Nat.lt_or_ge (iN i) (sR S).2.1 with q | q
      · exact q
      · rw [e2] at q
        have := nI_le q hn
        rw [← e] at this
        exact absurd hc.2 (Int32.not_lt.mpr this)
    have hl2 : lv_has ls 2 [(0, .ref (ρ2 1)), (1, .int i)] := by rw [e12 1 (by decide) (by omega)]; exact hl
    refine lv_aload_n hx hb dXl_28 rfl (lv_at hl2 0 rfl) ?_
    refine lx_get (oc := 9) (v := .ref 45) hx hb hown hg hCx.2.1 hCx.1 hw2.1 (by decide +kernel : tm_fld tm_G 9 49 = some (9, 6)) (Nat.le_refl 1) (by omega) O rfl dXl_29 ?_
    refine lx_get (oc := 9) (a := 45) (v := .ref 46) hx hb hown hg hCx.2.1 hCx.1 hw2.1 (by decide +kernel : tm_fld tm_G 9 131 = some (0, 0)) (by decide) (by omega) b1 rfl dXl_32 ?_
    refine lv_iload_n hx hb dXl_35 rfl (lv_at hl2 1 rfl) ?_
    have c3 := ce_led CA (k := iN i) hi.2 b3
    rw [← hi.1] at c3
    have v4 : ∀ v ∈ ([.ref 46, .int i] : List Value), tm_wv (tm_sz h) v := fun v hv => by
      rcases List.mem_cons.mp hv with rfl | hv
      · exact v24 _ List.mem_cons_self
      · rw [List.mem_singleton.mp hv]; exact tm_wv_int _ _
    refine tm_sim_call (m2 := mX4_turnedCell) (as := [.ref 46, .int i]) (rest := []) hA hw2 (fun _ => tm_sim_inv (st := [.int i, .ref 46]) (i := .invokevirtual 302) (k := 302) tm_okG hAt rfl hCx hA hw2 rfl rfl hl.1 (Or.inr (Or.inl ⟨rfl, rfl, 46, [.int i], rfl, rfl, rfl, by rw [CA.1]; rfl⟩)) (fun v hv => v4 v ((List.mem_reverse (as := ([.ref 46, .int i] : List Value))).mp hv)) (tm_sound tm_okG l D σ τ adV 1 mX4_turnedCell tz_mX4_turnedCell (by decide) _ h _ c3 hwf v4 ρ2 _) dXl_36 (by decide) (by decide)) (tm_cd_ck tm_okG.1 _ _ _ _ _ c3 hwf v4) (fun v hv => by cases hv) (fun ρ3 H3 locs3 e3 hw3 => ?_)
    have hw3 : tm_Wd D σ τ A s ρ3 h H3 locs3 := hw3
    have e3 : lx_Ag ρ2 h ρ3 := e3
    refine W.widen (k := 1) (n := 6) (by decide) (by decide) ?_
    refine vx_ret ?_
    exact W.iret hx hb hr (fun t ht hW => ⟨⟨_, ρ3, rfl, ⟨fun k k1 k2 => (e3 k k1 k2).trans (e12 k k1 k2), hc, rfl⟩, by rw [ht]; exact hw3.1, hw3.2.1⟩, hw3.2.2.1.F ht⟩) hw3.2.2.1.2.2 dXl_39
  · have hc : ledC S i = false := by
      cases hz : ledC S i with
      | false => rfl
      | true => rw [hled, hz] at q; exact absurd q (by decide)
    refine vx_throw0 (own := RX9) (cls := "java/util/NoSuchElementException") (names := ["java/lang/RuntimeException", "java/lang/Exception"]) (ik := 299) (ic := 301) (A := A) hx hb hlt hown (by decide +kernel) (by decide +kernel) (hg _ (tm_in1 (i := 1148) (by decide +kernel)) rfl) (hg _ (tm_in1 (i := 24) (by decide +kernel)) rfl) (vx_hat (fun w hw => hg w (lx_good w hw) (List.mem_filter.mp hw).2) (fun w hw => hw) (fun w hw => ?_)) lx_ot hLx.1 hLx.2.1 hw2.2.2.1 (hl.1.trans hml.symm) dXl_20 dXl_23 dXl_24 dXl_27 (fun x hx => (hno x hx).elim) (by decide) (show 0 + (13 * 3 + 42) ≤ 101 by decide) (show 0 + 1 ≤ 1 by decide) (show 0 + 6 ≤ 6 by decide) hlocks (fun t hal hz hk => ?_) hw2.2.2.1.2.2 (by decide) (by decide)
    · have hk := (lx_Bk w hw).1
      exact va_Nw.use (by cases w <;> first | rfl | cases hk) (hLx.2.2 w hw)
    · refine ⟨ρ2, ⟨e12, hc⟩, ⟨rfl, hw2.1.kept (fun k q hq => hk q.1 ((hw2.1 k q hq).lt)), hw2.2.1⟩, Nat.le_trans hw2.2.2.1.1 hz, fun q h1 h2 => (hk q (Nat.lt_of_lt_of_le h1 hw2.2.2.1.1)).trans (hw2.2.2.1.2.1 q h1 h2)⟩
theorem dLl_0 : decode cL_led 0 = .ok (.aload_n 2, 1) := by decide +kernel
theorem dLl_1 : decode cL_led 1 = .ok (.iconst 0, 1) := by decide +kernel
theorem dLl_2 : decode cL_led 2 = .ok (.aload_n 0, 1) := by decide +kernel
theorem dLl_3 : decode cL_led 3 = .ok (.iload_n 1, 1) := by decide +kernel
theorem dLl_4 : decode cL_led 4 = .ok (.invokevirtual 7, 3) := by decide +kernel
theorem dLl_7 : decode cL_led 7 = .ok (.i2l, 1) := by decide +kernel
theorem dLl_8 : decode cL_led 8 = .ok (.lastore, 1) := by decide +kernel
theorem dLl_9 : decode cL_led 9 = .ok (.goto 6, 3) := by decide +kernel
theorem dLl_12 : decode cL_led 12 = .ok (.astore_n 3, 1) := by decide +kernel
theorem dLl_13 : decode cL_led 13 = .ok (.iconst 1, 1) := by decide +kernel
theorem dLl_14 : decode cL_led 14 = .ok (.ireturn, 1) := by decide +kernel
theorem dLl_15 : decode cL_led 15 = .ok (.iconst 0, 1) := by decide +kernel
theorem dLl_16 : decode cL_led 16 = .ok (.ireturn, 1) := by decide +kernel
/-- the law's own array, apart from the world -/
abbrev lo_at (D : va_G) (cA qo : Nat) (f : Nat → Int64) (H : Heap) : Prop := va_at D vwCl (qo, .inl (cA, 1, .inr (.inl f))) H
abbrev lo_no (ρ σ τ : Nat → Nat) (h : tm_H) (qo : Nat) : Prop := ∀ (k : Nat) (e : va_E), (tm_ws ρ σ τ h)[k]? ≠ some (qo, e)
def lo_A (ρ σ τ : Nat → Nat) (h : tm_H) (qo sz : Nat) : Nat → Prop := fun q => va_A (tm_ws ρ σ τ h) sz q ∨ q = qo
def lo_Ws : List Jvm.Cond := .codeWith yL_led cL_led 4 (some .int) [(0, 9, 12, 13)] :: tm_GW
abbrev lo_rm : Room := { frames := 7, cells := 1, slots := 6, locals := 122 }
def lo_Pc (D : va_G) (σ τ adV ρ : Nat → Nat) (h : tm_H) (i : Int32) (cA qo : Nat) (f : Nat → Int64) (sz : Nat) : Array Value → State → Prop :=
  va_Pc [.ref (ρ 1), .int i, .ref qo] (fun U => U.heap.size = sz ∧ va_P D vwCl (tm_ws ρ σ τ h) U.heap ∧ va_D (fun _ => True) (tm_ws ρ σ τ h) ∧ tm_Cx tm_G D σ τ adV (lo_A ρ σ τ h qo sz) U U.heap ∧ lx_Cx (lo_A ρ σ τ h qo sz) U U.heap ∧ lo_at D cA qo f U.heap ∧ va_K D vwCl [(cA, .long)] U)
theorem lo_Pc_blind (D : va_G) (σ τ adV ρ : Nat → Nat) (h : tm_H) (i : Int32) (cA qo : Nat) (f : Nat → Int64) (sz : Nat) : FrameBlind (lo_Pc D σ τ adV ρ h i cA qo f sz) := fun a U g mk q => ⟨q.1, q.2.1, q.2.2.1, q.2.2.2.1, tm_Cx.same (u := U) (U := U.calling g mk a) q.2.2.2.2.1 rfl, lx_Cx.same (u := U) (U := U.calling g mk a) q.2.2.2.2.2.1 rfl, q.2.2.2.2.2.2.1, va_K.moved (u := U) (U := U.calling g mk a) (Vm.Alike.refl U.vm) q.2.2.2.2.2.2.2⟩
def lo_post (ρ : Nat → Nat) (h : tm_H) (S : SS) (i : Int32) (k : Int32) (u : (Nat → Nat) × (Nat → Int64)) : Prop := lx_Ag ρ h u.1 ∧ (ledC S i = true → k = 0 ∧ u.2 0 = (ledS ((sR S).1 7 (iN i))).toInt64) ∧ (ledC S i = false → k = 1)
def lo_B (D : va_G) (σ τ ρ : Nat → Nat) (h : tm_H) (cA qo sz : Nat) (u : (Nat → Nat) × (Nat → Int64)) (t : State) : Prop := lx_B' D σ τ h (va_A (tm_ws ρ σ τ h) sz) u.1 t ∧ lo_at D cA qo u.2 t.heap
set_option maxHeartbeats 4000000 in
theorem lo_led (l : Launch) (hlt : l.stackTraces = false) (D : va_G) (σ τ adV ρ : Nat → Nat) (h : tm_H) (S : SS) (i : Int32) (cA qo : Nat) (f : Nat → Int64) (sz : Nat) (L : LI h S) (hwf : tm_wf h) (hno : lo_no ρ σ τ h qo) (hqz : qo < sz) :
    vx_Met l yL_led lo_Ws lo_rm (lo_Pc D σ τ adV ρ h i cA qo f sz) (va_Qi (lo_post ρ h S i) (lo_B D σ τ ρ h cA qo sz) (lo_A ρ σ τ h qo sz))
      (vx_X (fun _ : Unit => False) (fun _ _ _ => True) (lo_A ρ σ τ h qo sz)) 1 6 (lo_A ρ σ τ h qo sz) := by
  refine vx_ofWH (cc := cL_led) (maxL := 4) (ret := (some .int)) (hh := [(0, 9, 12, 13)]) (by decide) rfl ?_
  intro p e s m args below meth c s₁ B hml hv
  obtain ⟨rfl, hsz, hP, hD0, hCx, hLx, hO, hKo⟩ := hv
  subst hsz
  have hx := B.exec
  have hb := B.bytes
  have hr := B.returns
  have hts := atoms_spec (ws := lo_Ws) B.pre
  have hg : ∀ w ∈ lw_tbl, goodWord w = true → w.before ([.ref (ρ 1), .int i, .ref qo] : List Value).toArray s = true := fun w h1 h2 => hts w (List.mem_cons_of_mem _ (List.mem_filter.mpr ⟨h1, h2⟩))
  have hown : s.vm.findClass RL = some m.cls := findClass_of_methodNamed B.named
  have hlocks := B.notSynchronized
  have htab : c.exceptionTable.toList = tableOf [(0, 9, 12, 13)] := vx_table (x := yL_led) B (hts _ List.mem_cons_self)
  have hD := hD0.self (sz := s.heap.size)
  have hsz : 83 ≤ tm_sz h := by
    obtain ⟨Z, m1, c1, s1, q, h1, _⟩ := L.2.1
    unfold tm_sz
    rw [q]
    exact h1
  obtain ⟨fs1, hobj⟩ : ∃ fs, h 1 = .inr (9, fs) := by
    obtain ⟨told, spare, ts, O, _⟩ := L.1
    exact ⟨_, O⟩
  have hqA : ¬ va_A (tm_ws ρ σ τ h) s.heap.size qo := fun q => by
    rcases q with ⟨k, e, hk⟩ | q
    · exact hno k e hk
    · exact absurd hqz (Nat.not_lt.mpr q)
  have hA1 : ∀ q, va_A (tm_ws ρ σ τ h) s.heap.size q → lo_A ρ σ τ h qo s.heap.size q := fun q hq => Or.inl hq
  have hS : va_S (lo_A ρ σ τ h qo s.heap.size) s.heap s.heap [] := va_S.rf
  have he := tm_ws_at ρ σ τ h (Nat.le_refl 1) (show 1 ≤ tm_sz h by omega)
  rw [hobj] at he
  have hrecv := va_recv hCx.1 hP (show vwCl[9]? = some (RX9, TX9, 12) from rfl) he
  have hl := lv_entry ([.ref (ρ 1), .int i, .ref qo]) (n := 4) (Nat.le_of_ble_eq_true rfl)
  rw [lg_entry_eq]
  generalize (lg_sl ([.ref (ρ 1), .int i, .ref qo]) ++ List.replicate (4 - (lg_sl ([.ref (ρ 1), .int i, .ref qo])).length) Slot.unset).toArray = ls at hl ⊢
  have hl : lv_has ls 4 [(0, .ref (ρ 1)), (1, .int i), (2, .ref qo)] := hl
  refine lv_aload_n hx hb dLl_0 rfl (lv_at hl 2 rfl) ?_
  refine lv_iconst (v := 0) hx hb dLl_1 (by decide) ?_
  refine lv_aload_n hx hb dLl_2 rfl (lv_at hl 0 rfl) ?_
  refine lv_iload_n hx hb dLl_3 rfl (lv_at hl 1 rfl) ?_
  refine vx_calli (vx_runV (As := [.int i]) (rest := [.int 0, .ref qo]) ⟨hx, hb, hml, hown, hts⟩ (lx_led l hlt D σ τ adV ρ h S i s.heap.size L hwf) ⟨tm_CB (n := 1) hg (tm_in1 (i := 1147) (by decide +kernel)) (tm_in1 (i := 1) (by decide +kernel)) (tm_in1 (i := 1144) (by decide +kernel)) (by decide) (tm_desc (by decide +kernel)) (Nat.le_of_ble_eq_true rfl) (Nat.le_of_ble_eq_true rfl), hg _ (tm_in1 (i := 1145) (by decide +kernel)) rfl, hg _ (tm_in1 (i := 1146) (by decide +kernel)) rfl⟩ ⟨lx_Pc_blind D σ τ adV ρ h i s.heap.size, hrecv, fun U hU hW => ⟨rfl, by rw [hU], by rw [hU]; exact hP, hD0, tm_Cx.warm hCx hW hU (fun _ _ _ => rfl) hA1, lx_Cx.warm hLx hW hU (fun _ _ _ => rfl) hA1⟩⟩ rfl rfl hl.1 rfl (lv_room (Nat.le_of_ble_eq_true rfl)) dLl_4 ⟨by decide, by decide⟩) hS (fun q _ h => hA1 q h) hA1 (fun q _ h => hA1 q h) (fun E ce q9 ρ1 t H1 locs1 ht hal hpx hBX hz hk hS1 hcell hcv hcl => ?_) (fun r ρ1 t H1 locs1 ht hal hpo hB hz hk hS1 => ?_)
  · obtain ⟨e1, hc⟩ := hpx
    obtain ⟨rfl, hP1, hD1⟩ := hBX
    rw [ht] at hP1
    have hO1 := va_at.kept hO (hk qo hqz hqA)
    refine vx_catch (own := RL) (name := "java/util/NoSuchElementException") hown [] ⟨0, 9, 12, 13⟩ [] (by rw [htab]; rfl) (fun z hz => by cases hz) (by decide) (by decide) (hg _ (tm_in1 (i := 1143) (by decide +kernel)) rfl) (va_Nw.use rfl (hLx.2.2 _ (by decide +kernel))) hcell hcv hcl ?_
    refine lv_astore_n (lv' := [(3, .ref q9), (0, .ref (ρ 1)), (1, .int i), (2, .ref qo)]) hx hb dLl_12 rfl hl (by decide) rfl (fun ls hl => ?_)
    refine lv_iconst (v := 1) hx hb dLl_13 (by decide) ?_
    refine vx_ret ?_
    exact W.iret hx hb hr (fun t ht hW => ⟨⟨1, (ρ1, f), rfl, ⟨e1, fun q => (by rw [hc] at q; cases q), fun _ => rfl⟩, ⟨by rw [ht]; exact hP1, hD1⟩, by rw [ht]; exact hO1⟩, hS1.F ht⟩) hS1.2.2 dLl_14
  · obtain ⟨e1, hc, rfl⟩ := hpo
    obtain ⟨hP1, hD1⟩ := hB
    rw [ht] at hP1
    have hO1 := va_at.kept hO (hk qo hqz hqA)
    have hno1 : lo_no ρ1 σ τ h qo := fun k e he => hqA (hD1.2 k _ he)
    have one : ∀ (k : Nat) (q : Nat × va_E), ([(qo, .inl (cA, 1, .inr (.inl f)))] : va_W)[k]? = some q → k = 0 ∧ q = (qo, .inl (cA, 1, .inr (.inl f))) := fun k q hk => by
      match k, hk with
      | 0, hk => cases hk; exact ⟨rfl, rfl⟩
      | k + 1, hk => simp at hk
    have hPa : va_P D vwCl (tm_ws ρ1 σ τ h ++ [(qo, .inl (cA, 1, .inr (.inl f)))]) H1 := hP1.app (fun k q hk => by rw [(one k q hk).2]; exact hO1)
    have hDa : va_D (lo_A ρ σ τ h qo s.heap.size) (tm_ws ρ1 σ τ h ++ [(qo, .inl (cA, 1, .inr (.inl f)))]) := va_D.app (hD1.weaken (fun _ q _ hq => Or.inl hq)) ⟨fun i j p q hi hj _ => (one i p hi).1.trans (one j q hj).1.symm, fun k q hk => Or.inr (by rw [(one k q hk).2])⟩ (fun i j p q hi hj e2 => by
      rw [(one j q hj).2] at e2
      exact hno1 i p.2 (hi.trans (congrArg some (Prod.ext e2 rfl))))
    refine lv_i2l hx hb dLl_7 rfl ?_
    refine va_last hx hb hKo hPa hDa hS1 (tm_sz h) 0 (by rw [List.getElem?_append_right (by rw [tm_ws_len]; exact Nat.le_refl _), tm_ws_len, Nat.sub_self]; rfl) rfl (show ¬ ((0 : Int32) < 0 ∨ 1 ≤ (0 : Int32).toNatClampNeg) by decide) dLl_8 (fun H2 locs2 hP2 hD2 hS2 => ?_)
    have hP3 : va_P D vwCl (tm_ws ρ1 σ τ h) H2 := fun k q hk => hP2 k q (by
      have hk2 : k < tm_sz h := by
        have := (List.getElem?_eq_some_iff.mp hk).1
        rwa [tm_ws_len] at this
      rw [List.getElem?_set_ne (by omega), List.getElem?_append_left (by rw [tm_ws_len]; exact hk2)]
      exact hk)
    have hO2 := hP2 (tm_sz h) _ (List.getElem?_set_self (by rw [List.length_append, tm_ws_len]; exact Nat.lt_succ_self _))
    refine lv_goto (tgt := 15) hx hb dLl_9 (by decide) ?_
    refine lv_iconst (v := 0) hx hb dLl_15 (by decide) ?_
    refine vx_ret ?_
    exact W.iret hx hb hr (fun t ht hW => ⟨⟨0, (ρ1, _), rfl, ⟨e1, fun _ => ⟨rfl, rfl⟩, fun q => (by rw [hc] at q; cases q)⟩, ⟨by rw [ht]; exact hP3, hD1⟩, by rw [ht]; exact hO2⟩, hS2.F ht⟩) hS2.2.2 dLl_16
