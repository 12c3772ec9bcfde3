/-! THE WALKS of String.length and String.charAt over a constant (written by wip/whole/gen_text.py) -/
theorem tm_in1 {w : Jvm.Cond} {i : Nat} (h : tables_1[i]? = some w) : w ∈ lw_tbl := List.mem_append_right _ (List.mem_of_getElem? h)
theorem dJ0_coder_7d493_0 : decode cJ0_coder_7d493 0 = .ok (.getstatic 38, 3) := by decide +kernel
theorem dJ0_coder_7d493_3 : decode cJ0_coder_7d493 3 = .ok (.ifCond .eq 10, 3) := by decide +kernel
theorem dJ0_coder_7d493_6 : decode cJ0_coder_7d493 6 = .ok (.aload_n 0, 1) := by decide +kernel
theorem dJ0_coder_7d493_7 : decode cJ0_coder_7d493 7 = .ok (.getfield 15, 3) := by decide +kernel
theorem dJ0_coder_7d493_10 : decode cJ0_coder_7d493 10 = .ok (.goto 4, 3) := by decide +kernel
theorem dJ0_coder_7d493_14 : decode cJ0_coder_7d493 14 = .ok (.ireturn, 1) := by decide +kernel
theorem dJ0_isLatin1_aae02_0 : decode cJ0_isLatin1_aae02 0 = .ok (.getstatic 38, 3) := by decide +kernel
theorem dJ0_isLatin1_aae02_3 : decode cJ0_isLatin1_aae02 3 = .ok (.ifCond .eq 14, 3) := by decide +kernel
theorem dJ0_isLatin1_aae02_6 : decode cJ0_isLatin1_aae02 6 = .ok (.aload_n 0, 1) := by decide +kernel
theorem dJ0_isLatin1_aae02_7 : decode cJ0_isLatin1_aae02 7 = .ok (.getfield 15, 3) := by decide +kernel
theorem dJ0_isLatin1_aae02_10 : decode cJ0_isLatin1_aae02 10 = .ok (.ifCond .ne 7, 3) := by decide +kernel
theorem dJ0_isLatin1_aae02_13 : decode cJ0_isLatin1_aae02 13 = .ok (.iconst 1, 1) := by decide +kernel
theorem dJ0_isLatin1_aae02_14 : decode cJ0_isLatin1_aae02 14 = .ok (.goto 4, 3) := by decide +kernel
theorem dJ0_isLatin1_aae02_18 : decode cJ0_isLatin1_aae02 18 = .ok (.ireturn, 1) := by decide +kernel
theorem dJ0_length_8abf5_0 : decode cJ0_length_8abf5 0 = .ok (.aload_n 0, 1) := by decide +kernel
theorem dJ0_length_8abf5_1 : decode cJ0_length_8abf5 1 = .ok (.getfield 9, 3) := by decide +kernel
theorem dJ0_length_8abf5_4 : decode cJ0_length_8abf5 4 = .ok (.arraylength, 1) := by decide +kernel
theorem dJ0_length_8abf5_5 : decode cJ0_length_8abf5 5 = .ok (.aload_n 0, 1) := by decide +kernel
theorem dJ0_length_8abf5_6 : decode cJ0_length_8abf5 6 = .ok (.invokevirtual 335, 3) := by decide +kernel
theorem dJ0_length_8abf5_9 : decode cJ0_length_8abf5 9 = .ok (.ishr, 1) := by decide +kernel
theorem dJ0_length_8abf5_10 : decode cJ0_length_8abf5 10 = .ok (.ireturn, 1) := by decide +kernel
theorem dJ0_charAt_5068e_0 : decode cJ0_charAt_5068e 0 = .ok (.aload_n 0, 1) := by decide +kernel
theorem dJ0_charAt_5068e_1 : decode cJ0_charAt_5068e 1 = .ok (.invokevirtual 492, 3) := by decide +kernel
theorem dJ0_charAt_5068e_4 : decode cJ0_charAt_5068e 4 = .ok (.ifCond .eq 12, 3) := by decide +kernel
theorem dJ0_charAt_5068e_7 : decode cJ0_charAt_5068e 7 = .ok (.aload_n 0, 1) := by decide +kernel
theorem dJ0_charAt_5068e_8 : decode cJ0_charAt_5068e 8 = .ok (.getfield 9, 3) := by decide +kernel
theorem dJ0_charAt_5068e_11 : decode cJ0_charAt_5068e 11 = .ok (.iload_n 1, 1) := by decide +kernel
theorem dJ0_charAt_5068e_12 : decode cJ0_charAt_5068e 12 = .ok (.invokestatic 495, 3) := by decide +kernel
theorem dJ0_charAt_5068e_15 : decode cJ0_charAt_5068e 15 = .ok (.ireturn, 1) := by decide +kernel
theorem dJ0_checkIndex_df160_0 : decode cJ0_checkIndex_df160 0 = .ok (.iload_n 0, 1) := by decide +kernel
theorem dJ0_checkIndex_df160_1 : decode cJ0_checkIndex_df160 1 = .ok (.iload_n 1, 1) := by decide +kernel
theorem dJ0_checkIndex_df160_2 : decode cJ0_checkIndex_df160 2 = .ok (.getstatic 1053, 3) := by decide +kernel
theorem dJ0_checkIndex_df160_5 : decode cJ0_checkIndex_df160 5 = .ok (.invokestatic 1059, 3) := by decide +kernel
theorem dJ0_checkIndex_df160_8 : decode cJ0_checkIndex_df160 8 = .ok (.pop, 1) := by decide +kernel
theorem dJ0_checkIndex_df160_9 : decode cJ0_checkIndex_df160 9 = .ok (.return_, 1) := by decide +kernel
theorem dJ1_charAt_3b067_0 : decode cJ1_charAt_3b067 0 = .ok (.iload_n 1, 1) := by decide +kernel
theorem dJ1_charAt_3b067_1 : decode cJ1_charAt_3b067 1 = .ok (.aload_n 0, 1) := by decide +kernel
theorem dJ1_charAt_3b067_2 : decode cJ1_charAt_3b067 2 = .ok (.arraylength, 1) := by decide +kernel
theorem dJ1_charAt_3b067_3 : decode cJ1_charAt_3b067 3 = .ok (.invokestatic 9, 3) := by decide +kernel
theorem dJ1_charAt_3b067_6 : decode cJ1_charAt_3b067 6 = .ok (.aload_n 0, 1) := by decide +kernel
theorem dJ1_charAt_3b067_7 : decode cJ1_charAt_3b067 7 = .ok (.iload_n 1, 1) := by decide +kernel
theorem dJ1_charAt_3b067_8 : decode cJ1_charAt_3b067 8 = .ok (.baload, 1) := by decide +kernel
theorem dJ1_charAt_3b067_9 : decode cJ1_charAt_3b067 9 = .ok (.sipush 255, 3) := by decide +kernel
theorem dJ1_charAt_3b067_12 : decode cJ1_charAt_3b067 12 = .ok (.iand, 1) := by decide +kernel
theorem dJ1_charAt_3b067_13 : decode cJ1_charAt_3b067 13 = .ok (.i2c, 1) := by decide +kernel
theorem dJ1_charAt_3b067_14 : decode cJ1_charAt_3b067 14 = .ok (.ireturn, 1) := by decide +kernel
theorem dJ3_checkIndex_8e157_0 : decode cJ3_checkIndex_8e157 0 = .ok (.iload_n 0, 1) := by decide +kernel
theorem dJ3_checkIndex_8e157_1 : decode cJ3_checkIndex_8e157 1 = .ok (.ifCond .lt 8, 3) := by decide +kernel
theorem dJ3_checkIndex_8e157_4 : decode cJ3_checkIndex_8e157 4 = .ok (.iload_n 0, 1) := by decide +kernel
theorem dJ3_checkIndex_8e157_5 : decode cJ3_checkIndex_8e157 5 = .ok (.iload_n 1, 1) := by decide +kernel
theorem dJ3_checkIndex_8e157_6 : decode cJ3_checkIndex_8e157 6 = .ok (.if_icmp .lt 10, 3) := by decide +kernel
theorem dJ3_checkIndex_8e157_16 : decode cJ3_checkIndex_8e157 16 = .ok (.iload_n 0, 1) := by decide +kernel
theorem dJ3_checkIndex_8e157_17 : decode cJ3_checkIndex_8e157 17 = .ok (.ireturn, 1) := by decide +kernel
theorem tm_shr0 (x : Int32) : x >>> ((0 : Int32) &&& 31) = x := by
  rw [show ((0 : Int32) &&& 31) = 0 from by decide]
  apply Int32.toBitVec_inj.mp
  simp
set_option maxRecDepth 20000 in
theorem tm_j_coder (l : Launch) {N : Nat} {tx : Nat → List Int32} {σ adV : Nat → Nat} {i : Nat} (hi : i < N) : Met l yJ0_coder_7d493 (tm_Ws yJ0_coder_7d493 cJ0_coder_7d493 1 (some .byte)) ({ frames := 0, cells := 0, slots := 0, locals := 0 }) (tm_Jp N tx σ adV [.ref (σ i)]) (tm_Jq (some (.int 0))) 0 0 (fun _ => False) := by
  refine Met.ofW (cc := cJ0_coder_7d493) (maxL := 1) (ret := (some .byte)) (by decide) rfl ?_
  intro p e s m args below meth c s₁ B hml hv
  obtain ⟨rfl, hSx⟩ := hv
  have hx := B.exec
  have hb := B.bytes
  have hr := B.returns
  have hts := atoms_spec (ws := tm_Ws yJ0_coder_7d493 cJ0_coder_7d493 1 (some .byte)) B.pre
  have hg := tm_Ws_good hts
  have hown : s.vm.findClass RJ0 = some m.cls := findClass_of_methodNamed B.named
  have hlocks := B.notSynchronized
  have hS : va_S (fun _ => False) s.heap s.heap [] := va_S.rf
  have hl := lv_entry ([.ref (σ i)] : List Value) (n := 1) (Nat.le_of_ble_eq_true rfl)
  rw [lg_entry_eq]
  generalize (lg_sl ([.ref (σ i)] : List Value) ++ List.replicate (1 - (lg_sl ([.ref (σ i)] : List Value)).length) Slot.unset).toArray = ls at hl ⊢
  have hl : lv_has ls 1 [(0, .ref (σ i))] := hl
  refine va_gets hx hb hSx.2.1 hS hown (hg _ (tm_in1 (i := 390) (by decide +kernel)) rfl) (fun _ h9 => h9) dJ0_coder_7d493_0 ?_
  refine lv_if_eq (tgt := 13) hx hb dJ0_coder_7d493_3 (by decide) (fun q => absurd q (by decide)) (fun _ => ?_)
  refine lv_aload_n hx hb dJ0_coder_7d493_6 rfl (lv_at hl 0 rfl) ?_
  refine vk_getf hx hb (hSx.1 i hi).2.1 hS hown (hg _ (tm_in1 (i := 1848) (by decide +kernel)) rfl) (fun _ h9 => h9) dJ0_coder_7d493_7 ?_
  refine lv_goto (tgt := 14) hx hb dJ0_coder_7d493_10 (by decide) ?_
  exact W.zret hx hb hr rfl (fun t ht hW => ⟨rfl, ht⟩) hS.2.2 dJ0_coder_7d493_14
set_option maxRecDepth 20000 in
theorem tm_j_latin (l : Launch) {N : Nat} {tx : Nat → List Int32} {σ adV : Nat → Nat} {i : Nat} (hi : i < N) : Met l yJ0_isLatin1_aae02 (tm_Ws yJ0_isLatin1_aae02 cJ0_isLatin1_aae02 1 (some .boolean)) ({ frames := 0, cells := 0, slots := 0, locals := 0 }) (tm_Jp N tx σ adV [.ref (σ i)]) (tm_Jq (some (.int 1))) 0 0 (fun _ => False) := by
  refine Met.ofW (cc := cJ0_isLatin1_aae02) (maxL := 1) (ret := (some .boolean)) (by decide) rfl ?_
  intro p e s m args below meth c s₁ B hml hv
  obtain ⟨rfl, hSx⟩ := hv
  have hx := B.exec
  have hb := B.bytes
  have hr := B.returns
  have hts := atoms_spec (ws := tm_Ws yJ0_isLatin1_aae02 cJ0_isLatin1_aae02 1 (some .boolean)) B.pre
  have hg := tm_Ws_good hts
  have hown : s.vm.findClass RJ0 = some m.cls := findClass_of_methodNamed B.named
  have hlocks := B.notSynchronized
  have hS : va_S (fun _ => False) s.heap s.heap [] := va_S.rf
  have hl := lv_entry ([.ref (σ i)] : List Value) (n := 1) (Nat.le_of_ble_eq_true rfl)
  rw [lg_entry_eq]
  generalize (lg_sl ([.ref (σ i)] : List Value) ++ List.replicate (1 - (lg_sl ([.ref (σ i)] : List Value)).length) Slot.unset).toArray = ls at hl ⊢
  have hl : lv_has ls 1 [(0, .ref (σ i))] := hl
  refine va_gets hx hb hSx.2.1 hS hown (hg _ (tm_in1 (i := 390) (by decide +kernel)) rfl) (fun _ h9 => h9) dJ0_isLatin1_aae02_0 ?_
  refine lv_if_eq (tgt := 17) hx hb dJ0_isLatin1_aae02_3 (by decide) (fun q => absurd q (by decide)) (fun _ => ?_)
  refine lv_aload_n hx hb dJ0_isLatin1_aae02_6 rfl (lv_at hl 0 rfl) ?_
  refine vk_getf hx hb (hSx.1 i hi).2.1 hS hown (hg _ (tm_in1 (i := 1848) (by decide +kernel)) rfl) (fun _ h9 => h9) dJ0_isLatin1_aae02_7 ?_
  refine lv_if_ne (tgt := 17) hx hb dJ0_isLatin1_aae02_10 (by decide) (fun q => absurd rfl q) (fun _ => ?_)
  refine lv_iconst (v := 1) hx hb dJ0_isLatin1_aae02_13 (by decide) ?_
  refine lv_goto (tgt := 18) hx hb dJ0_isLatin1_aae02_14 (by decide) ?_
  exact W.zret hx hb hr rfl (fun t ht hW => ⟨rfl, ht⟩) hS.2.2 dJ0_isLatin1_aae02_18
set_option maxRecDepth 20000 in
theorem tm_j_length (l : Launch) {N : Nat} {tx : Nat → List Int32} {σ adV : Nat → Nat} {i : Nat} (hi : i < N) : Met l yJ0_length_8abf5 (tm_Ws yJ0_length_8abf5 cJ0_length_8abf5 1 (some .int)) ({ frames := 1, cells := 0, slots := 0, locals := 20 }) (tm_Jp N tx σ adV [.ref (σ i)]) (tm_Jq (some (.int (Int32.ofNat (tx i).length)))) 0 0 (fun _ => False) := by
  refine Met.ofW (cc := cJ0_length_8abf5) (maxL := 1) (ret := (some .int)) (by decide) rfl ?_
  intro p e s m args below meth c s₁ B hml hv
  obtain ⟨rfl, hSx⟩ := hv
  have hx := B.exec
  have hb := B.bytes
  have hr := B.returns
  have hts := atoms_spec (ws := tm_Ws yJ0_length_8abf5 cJ0_length_8abf5 1 (some .int)) B.pre
  have hg := tm_Ws_good hts
  have hown : s.vm.findClass RJ0 = some m.cls := findClass_of_methodNamed B.named
  have hlocks := B.notSynchronized
  have hS : va_S (fun _ => False) s.heap s.heap [] := va_S.rf
  have hl := lv_entry ([.ref (σ i)] : List Value) (n := 1) (Nat.le_of_ble_eq_true rfl)
  rw [lg_entry_eq]
  generalize (lg_sl ([.ref (σ i)] : List Value) ++ List.replicate (1 - (lg_sl ([.ref (σ i)] : List Value)).length) Slot.unset).toArray = ls at hl ⊢
  have hl : lv_has ls 1 [(0, .ref (σ i))] := hl
  refine lv_aload_n hx hb dJ0_length_8abf5_0 rfl (lv_at hl 0 rfl) ?_
  refine vk_getf hx hb (hSx.1 i hi).2.2.1 hS hown (hg _ (tm_in1 (i := 1847) (by decide +kernel)) rfl) (fun _ h9 => h9) dJ0_length_8abf5_1 ?_
  refine va_tlen hx hb (hSx.1 i hi).2.2.2 hS rfl dJ0_length_8abf5_4 ?_
  refine lv_aload_n hx hb dJ0_length_8abf5_5 rfl (lv_at hl 0 rfl) ?_
  refine tm_callW (va_runV (As := []) (rest := [.int (Int32.ofNat (tx i).length)]) ⟨hx, hb, hml, hown, hts⟩ (tm_j_coder (N := N) (tx := tx) (σ := σ) (adV := adV) l hi) ⟨(tm_CB (n := 0) hg (tm_in1 (i := 389) (by decide +kernel)) (tm_in1 (i := 12) (by decide +kernel)) (tm_in1 (i := 386) (by decide +kernel)) (by decide) (tm_desc (by decide +kernel)) (Nat.le_of_ble_eq_true rfl) (Nat.le_of_ble_eq_true rfl)), hg _ (tm_in1 (i := 387) (by decide +kernel)) rfl, hg _ (tm_in1 (i := 388) (by decide +kernel)) rfl⟩ ⟨tm_Jblind _ _ _ _ _, ⟨_, (hSx.1 i hi).1.choose_spec.1, (hSx.1 i hi).1.choose_spec.2.1, (hSx.1 i hi).1.choose_spec.2.2.1⟩, fun U hU hW => ⟨rfl, by show tm_Sx _ _ _ _ _ U U.heap; rw [hU]; exact hSx.moved hW.alike⟩⟩ rfl rfl hl.1 rfl (lv_room (Nat.le_of_ble_eq_true rfl)) dJ0_length_8abf5_6 ⟨Nat.le_refl _, Nat.le_refl _⟩) (fun v st₀ t H1 L hh1 hh2 hW hq hL => ?_)
  obtain ⟨hq1, hq2⟩ := hq
  obtain rfl : v = some (.int 0) := by injection hq1
  obtain rfl : L = [] := List.eq_nil_iff_forall_not_mem.mpr (fun q hq => hL q hq)
  have hH : H1 = s.heap := by rw [← hh2, hq2, hh1]
  subst hH
  refine W.eq (g2 := F0 m 9 ls [.int 0, .int (Int32.ofNat (tx i).length)]) rfl ?_

  refine lv_ishr hx hb dJ0_length_8abf5_9 ?_
  rw [show ((Int32.ofNat (tx i).length) >>> ((0 : Int32) &&& 31)) = Int32.ofNat (tx i).length from tm_shr0 _]
  exact W.iret hx hb hr (fun t ht hW => ⟨rfl, ht⟩) hS.2.2 dJ0_length_8abf5_10
set_option maxRecDepth 20000 in
theorem tm_j_chk (l : Launch) {N : Nat} {tx : Nat → List Int32} {σ adV : Nat → Nat} {x n : Int32} {fv : Value} (hfv : fv.category = 1) (h0 : ¬ x < 0) (h1 : x < n) : Met l yJ3_checkIndex_8e157 (tm_Ws yJ3_checkIndex_8e157 cJ3_checkIndex_8e157 3 (some .int)) ({ frames := 0, cells := 0, slots := 0, locals := 0 }) (tm_Jp N tx σ adV [.int x, .int n, fv]) (tm_Jq (some (.int x))) 0 0 (fun _ => False) := by
  refine Met.ofW (cc := cJ3_checkIndex_8e157) (maxL := 3) (ret := (some .int)) (by decide) rfl ?_
  intro p e s m args below meth c s₁ B hml hv
  obtain ⟨rfl, hSx⟩ := hv
  have hx := B.exec
  have hb := B.bytes
  have hr := B.returns
  have hts := atoms_spec (ws := tm_Ws yJ3_checkIndex_8e157 cJ3_checkIndex_8e157 3 (some .int)) B.pre
  have hg := tm_Ws_good hts
  have hown : s.vm.findClass RJ3 = some m.cls := findClass_of_methodNamed B.named
  have hlocks := B.notSynchronized
  have hS : va_S (fun _ => False) s.heap s.heap [] := va_S.rf
  have hl := lv_entry ([.int x, .int n, fv] : List Value) (n := 3) (by have e1 : (Value.int x).category = 1 := rfl; have e2 : (Value.int n).category = 1 := rfl; simp [lg_sl, hfv, e1, e2])
  rw [lg_entry_eq]
  generalize (lg_sl ([.int x, .int n, fv] : List Value) ++ List.replicate (3 - (lg_sl ([.int x, .int n, fv] : List Value)).length) Slot.unset).toArray = ls at hl ⊢
  have hl : lv_has ls 3 [(0, .int x), (1, .int n), (2, fv)] := hl
  refine lv_iload_n hx hb dJ3_checkIndex_8e157_0 rfl (lv_at hl 0 rfl) ?_
  refine lv_if_lt (tgt := 9) hx hb dJ3_checkIndex_8e157_1 (by decide) (fun q => absurd q h0) (fun _ => ?_)
  refine lv_iload_n hx hb dJ3_checkIndex_8e157_4 rfl (lv_at hl 0 rfl) ?_
  refine lv_iload_n hx hb dJ3_checkIndex_8e157_5 rfl (lv_at hl 1 rfl) ?_
  refine lv_icmp_lt (tgt := 16) hx hb dJ3_checkIndex_8e157_6 (by decide) (fun _ => ?_) (fun q => absurd h1 q)
  refine lv_iload_n hx hb dJ3_checkIndex_8e157_16 rfl (lv_at hl 0 rfl) ?_
  exact W.iret hx hb hr (fun t ht hW => ⟨rfl, ht⟩) hS.2.2 dJ3_checkIndex_8e157_17
set_option maxRecDepth 20000 in
theorem tm_j_check (l : Launch) {N : Nat} {tx : Nat → List Int32} {σ adV : Nat → Nat} {x n : Int32} (h0 : ¬ x < 0) (h1 : x < n) : Met l yJ0_checkIndex_df160 (tm_Ws yJ0_checkIndex_df160 cJ0_checkIndex_df160 2 none) ({ frames := 1, cells := 0, slots := 0, locals := 22 }) (tm_Jp N tx σ adV [.int x, .int n]) (tm_Jq none) 0 0 (fun _ => False) := by
  refine Met.ofW (cc := cJ0_checkIndex_df160) (maxL := 2) (ret := none) (by decide) rfl ?_
  intro p e s m args below meth c s₁ B hml hv
  obtain ⟨rfl, hSx⟩ := hv
  have hx := B.exec
  have hb := B.bytes
  have hr := B.returns
  have hts := atoms_spec (ws := tm_Ws yJ0_checkIndex_df160 cJ0_checkIndex_df160 2 none) B.pre
  have hg := tm_Ws_good hts
  have hown : s.vm.findClass RJ0 = some m.cls := findClass_of_methodNamed B.named
  have hlocks := B.notSynchronized
  have hS : va_S (fun _ => False) s.heap s.heap [] := va_S.rf
  have hl := lv_entry ([.int x, .int n] : List Value) (n := 2) (Nat.le_of_ble_eq_true rfl)
  rw [lg_entry_eq]
  generalize (lg_sl ([.int x, .int n] : List Value) ++ List.replicate (2 - (lg_sl ([.int x, .int n] : List Value)).length) Slot.unset).toArray = ls at hl ⊢
  have hl : lv_has ls 2 [(0, .int x), (1, .int n)] := hl
  refine lv_iload_n hx hb dJ0_checkIndex_df160_0 rfl (lv_at hl 0 rfl) ?_
  refine lv_iload_n hx hb dJ0_checkIndex_df160_1 rfl (lv_at hl 1 rfl) ?_
  obtain ⟨fv, hfv, hZ⟩ : ∃ fv : Value, fv.category = 1 ∧ va_Z "jdk/internal/util/Preconditions" "SIOOBE_FORMATTER" "Ljava/util/function/BiFunction;" fv (fun _ => False) s s.heap := by
    rcases hSx.2.2 with q | ⟨t, q⟩
    · exact ⟨.null, rfl, q⟩
    · exact ⟨.ref t, rfl, q⟩
  refine va_gets hx hb hZ hS hown (hg _ (tm_in1 (i := 406) (by decide +kernel)) rfl) (fun _ h9 => h9) dJ0_checkIndex_df160_2 ?_
  refine tm_callW (va_runS (As := [.int x, .int n, fv]) (rest := []) ⟨hx, hb, hml, hown, hts⟩ (tm_j_chk (N := N) (tx := tx) (σ := σ) (adV := adV) l hfv h0 h1) ⟨(tm_CB (n := 3) hg (tm_in1 (i := 410) (by decide +kernel)) (tm_in1 (i := 14) (by decide +kernel)) (tm_in1 (i := 408) (by decide +kernel)) (by decide) (tm_desc (by decide +kernel)) (Nat.le_of_ble_eq_true rfl) (Nat.le_of_ble_eq_true rfl)), hg _ (tm_in1 (i := 409) (by decide +kernel)) rfl⟩ ⟨tm_Jblind _ _ _ _ _, fun U hU hW => ⟨rfl, by show tm_Sx _ _ _ _ _ U U.heap; rw [hU]; exact hSx.moved hW.alike⟩⟩ rfl rfl hl.1 rfl (lv_room (Nat.le_of_ble_eq_true rfl)) dJ0_checkIndex_df160_5 ⟨Nat.le_refl _, Nat.le_refl _⟩) (fun v st₀ t H1 L hh1 hh2 hW hq hL => ?_)
  obtain ⟨hq1, hq2⟩ := hq
  obtain rfl : v = some (.int x) := by injection hq1
  obtain rfl : L = [] := List.eq_nil_iff_forall_not_mem.mpr (fun q hq => hL q hq)
  have hH : H1 = s.heap := by rw [← hh2, hq2, hh1]
  subst hH
  refine W.eq (g2 := F0 m 8 ls [.int x]) rfl ?_

  refine lv_pop hx hb dJ0_checkIndex_df160_8 rfl ?_
  exact W.vret hx hb hr (fun t ht hW => ⟨rfl, ht⟩) hS.2.2 dJ0_checkIndex_df160_9
set_option maxRecDepth 20000 in
theorem tm_j_lat (l : Launch) {N : Nat} {tx : Nat → List Int32} {σ adV : Nat → Nat} {i : Nat} {x : Int32} (hi : i < N) (h0 : ¬ x < 0) (h1 : x < Int32.ofNat (tx i).length) (h2 : x.toNatClampNeg < (tx i).length) (hc : (((tx i).getD x.toNatClampNeg 0 &&& 255).toUInt32 % 65536).toInt32 = (tx i).getD x.toNatClampNeg 0) (hn : narrow .char (.int ((tx i).getD x.toNatClampNeg 0)) = .int ((tx i).getD x.toNatClampNeg 0)) : Met l yJ1_charAt_3b067 (tm_Ws yJ1_charAt_3b067 cJ1_charAt_3b067 2 (some .char)) ({ frames := 2, cells := 0, slots := 0, locals := 50 }) (tm_Jp N tx σ adV [.ref (adV i), .int x]) (tm_Jq (some (.int ((tx i).getD x.toNatClampNeg 0)))) 0 0 (fun _ => False) := by
  refine Met.ofW (cc := cJ1_charAt_3b067) (maxL := 2) (ret := (some .char)) (by decide) rfl ?_
  intro p e s m args below meth c s₁ B hml hv
  obtain ⟨rfl, hSx⟩ := hv
  have hx := B.exec
  have hb := B.bytes
  have hr := B.returns
  have hts := atoms_spec (ws := tm_Ws yJ1_charAt_3b067 cJ1_charAt_3b067 2 (some .char)) B.pre
  have hg := tm_Ws_good hts
  have hown : s.vm.findClass RJ1 = some m.cls := findClass_of_methodNamed B.named
  have hlocks := B.notSynchronized
  have hS : va_S (fun _ => False) s.heap s.heap [] := va_S.rf
  have hl := lv_entry ([.ref (adV i), .int x] : List Value) (n := 2) (Nat.le_of_ble_eq_true rfl)
  rw [lg_entry_eq]
  generalize (lg_sl ([.ref (adV i), .int x] : List Value) ++ List.replicate (2 - (lg_sl ([.ref (adV i), .int x] : List Value)).length) Slot.unset).toArray = ls at hl ⊢
  have hl : lv_has ls 2 [(0, .ref (adV i)), (1, .int x)] := hl
  refine lv_iload_n hx hb dJ1_charAt_3b067_0 rfl (lv_at hl 1 rfl) ?_
  refine lv_aload_n hx hb dJ1_charAt_3b067_1 rfl (lv_at hl 0 rfl) ?_
  refine va_tlen hx hb (hSx.1 i hi).2.2.2 hS rfl dJ1_charAt_3b067_2 ?_
  refine tm_callW (va_runS (As := [.int x, .int (Int32.ofNat (tx i).length)]) (rest := []) ⟨hx, hb, hml, hown, hts⟩ (tm_j_check (N := N) (tx := tx) (σ := σ) (adV := adV) l h0 h1) ⟨(tm_CB (n := 2) hg (tm_in1 (i := 405) (by decide +kernel)) (tm_in1 (i := 12) (by decide +kernel)) (tm_in1 (i := 403) (by decide +kernel)) (by decide) (tm_desc (by decide +kernel)) (Nat.le_of_ble_eq_true rfl) (Nat.le_of_ble_eq_true rfl)), hg _ (tm_in1 (i := 404) (by decide +kernel)) rfl⟩ ⟨tm_Jblind _ _ _ _ _, fun U hU hW => ⟨rfl, by show tm_Sx _ _ _ _ _ U U.heap; rw [hU]; exact hSx.moved hW.alike⟩⟩ rfl rfl hl.1 rfl (lv_room (Nat.le_of_ble_eq_true rfl)) dJ1_charAt_3b067_3 ⟨Nat.le_refl _, Nat.le_refl _⟩) (fun v st₀ t H1 L hh1 hh2 hW hq hL => ?_)
  obtain ⟨hq1, hq2⟩ := hq
  obtain rfl : v = none := by injection hq1
  obtain rfl : L = [] := List.eq_nil_iff_forall_not_mem.mpr (fun q hq => hL q hq)
  have hH : H1 = s.heap := by rw [← hh2, hq2, hh1]
  subst hH
  refine W.eq (g2 := F0 m 6 ls []) rfl ?_

  refine lv_aload_n hx hb dJ1_charAt_3b067_6 rfl (lv_at hl 0 rfl) ?_
  refine lv_iload_n hx hb dJ1_charAt_3b067_7 rfl (lv_at hl 1 rfl) ?_
  refine va_tb hx hb (hSx.1 i hi).2.2.2 hS (fun q => q.elim h0 (fun q => Nat.not_le.mpr h2 q)) rfl dJ1_charAt_3b067_8 ?_
  refine lv_sipush (v := 255) hx hb dJ1_charAt_3b067_9 (by decide) ?_
  refine lv_iand hx hb dJ1_charAt_3b067_12 ?_
  refine lv_i2c hx hb dJ1_charAt_3b067_13 hc ?_
  exact W.zret hx hb hr hn (fun t ht hW => ⟨rfl, ht⟩) hS.2.2 dJ1_charAt_3b067_14
set_option maxRecDepth 20000 in
theorem tm_j_charAt (l : Launch) {N : Nat} {tx : Nat → List Int32} {σ adV : Nat → Nat} {i : Nat} {x : Int32} (hi : i < N) (h0 : ¬ x < 0) (h1 : x < Int32.ofNat (tx i).length) (h2 : x.toNatClampNeg < (tx i).length) (hc : (((tx i).getD x.toNatClampNeg 0 &&& 255).toUInt32 % 65536).toInt32 = (tx i).getD x.toNatClampNeg 0) (hn : narrow .char (.int ((tx i).getD x.toNatClampNeg 0)) = .int ((tx i).getD x.toNatClampNeg 0)) : Met l yJ0_charAt_5068e (tm_Ws yJ0_charAt_5068e cJ0_charAt_5068e 2 (some .char)) ({ frames := 3, cells := 0, slots := 0, locals := 80 }) (tm_Jp N tx σ adV [.ref (σ i), .int x]) (tm_Jq (some (.int ((tx i).getD x.toNatClampNeg 0)))) 0 0 (fun _ => False) := by
  refine Met.ofW (cc := cJ0_charAt_5068e) (maxL := 2) (ret := (some .char)) (by decide) rfl ?_
  intro p e s m args below meth c s₁ B hml hv
  obtain ⟨rfl, hSx⟩ := hv
  have hx := B.exec
  have hb := B.bytes
  have hr := B.returns
  have hts := atoms_spec (ws := tm_Ws yJ0_charAt_5068e cJ0_charAt_5068e 2 (some .char)) B.pre
  have hg := tm_Ws_good hts
  have hown : s.vm.findClass RJ0 = some m.cls := findClass_of_methodNamed B.named
  have hlocks := B.notSynchronized
  have hS : va_S (fun _ => False) s.heap s.heap [] := va_S.rf
  have hl := lv_entry ([.ref (σ i), .int x] : List Value) (n := 2) (Nat.le_of_ble_eq_true rfl)
  rw [lg_entry_eq]
  generalize (lg_sl ([.ref (σ i), .int x] : List Value) ++ List.replicate (2 - (lg_sl ([.ref (σ i), .int x] : List Value)).length) Slot.unset).toArray = ls at hl ⊢
  have hl : lv_has ls 2 [(0, .ref (σ i)), (1, .int x)] := hl
  refine lv_aload_n hx hb dJ0_charAt_5068e_0 rfl (lv_at hl 0 rfl) ?_
  refine tm_callW (va_runV (As := []) (rest := []) ⟨hx, hb, hml, hown, hts⟩ (tm_j_latin (N := N) (tx := tx) (σ := σ) (adV := adV) l hi) ⟨(tm_CB (n := 0) hg (tm_in1 (i := 399) (by decide +kernel)) (tm_in1 (i := 12) (by decide +kernel)) (tm_in1 (i := 396) (by decide +kernel)) (by decide) (tm_desc (by decide +kernel)) (Nat.le_of_ble_eq_true rfl) (Nat.le_of_ble_eq_true rfl)), hg _ (tm_in1 (i := 397) (by decide +kernel)) rfl, hg _ (tm_in1 (i := 398) (by decide +kernel)) rfl⟩ ⟨tm_Jblind _ _ _ _ _, ⟨_, (hSx.1 i hi).1.choose_spec.1, (hSx.1 i hi).1.choose_spec.2.1, (hSx.1 i hi).1.choose_spec.2.2.1⟩, fun U hU hW => ⟨rfl, by show tm_Sx _ _ _ _ _ U U.heap; rw [hU]; exact hSx.moved hW.alike⟩⟩ rfl rfl hl.1 rfl (lv_room (Nat.le_of_ble_eq_true rfl)) dJ0_charAt_5068e_1 ⟨Nat.le_refl _, Nat.le_refl _⟩) (fun v st₀ t H1 L hh1 hh2 hW hq hL => ?_)
  obtain ⟨hq1, hq2⟩ := hq
  obtain rfl : v = some (.int 1) := by injection hq1
  obtain rfl : L = [] := List.eq_nil_iff_forall_not_mem.mpr (fun q hq => hL q hq)
  have hH : H1 = s.heap := by rw [← hh2, hq2, hh1]
  subst hH
  refine W.eq (g2 := F0 m 4 ls [.int 1]) rfl ?_

  refine lv_if_eq (tgt := 16) hx hb dJ0_charAt_5068e_4 (by decide) (fun q => absurd q (by decide)) (fun _ => ?_)
  refine lv_aload_n hx hb dJ0_charAt_5068e_7 rfl (lv_at hl 0 rfl) ?_
  refine vk_getf hx hb (hSx.1 i hi).2.2.1 hS hown (hg _ (tm_in1 (i := 1847) (by decide +kernel)) rfl) (fun _ h9 => h9) dJ0_charAt_5068e_8 ?_
  refine lv_iload_n hx hb dJ0_charAt_5068e_11 rfl (lv_at hl 1 rfl) ?_
  refine tm_callW (va_runS (As := [.ref (adV i), .int x]) (rest := []) ⟨hx, hb, hml, hown, hts⟩ (tm_j_lat (N := N) (tx := tx) (σ := σ) (adV := adV) l hi h0 h1 h2 hc hn) ⟨(tm_CB (n := 2) hg (tm_in1 (i := 402) (by decide +kernel)) (tm_in1 (i := 13) (by decide +kernel)) (tm_in1 (i := 400) (by decide +kernel)) (by decide) (tm_desc (by decide +kernel)) (Nat.le_of_ble_eq_true rfl) (Nat.le_of_ble_eq_true rfl)), hg _ (tm_in1 (i := 401) (by decide +kernel)) rfl⟩ ⟨tm_Jblind _ _ _ _ _, fun U hU hW => ⟨rfl, by show tm_Sx _ _ _ _ _ U U.heap; rw [hU]; exact hSx.moved hW.alike⟩⟩ rfl rfl hl.1 rfl (lv_room (Nat.le_of_ble_eq_true rfl)) dJ0_charAt_5068e_12 ⟨Nat.le_refl _, Nat.le_refl _⟩) (fun v st₀ t H1 L hh1 hh2 hW hq hL => ?_)
  obtain ⟨hq1, hq2⟩ := hq
  obtain rfl : v = some (.int ((tx i).getD x.toNatClampNeg 0)) := by injection hq1
  obtain rfl : L = [] := List.eq_nil_iff_forall_not_mem.mpr (fun q hq => hL q hq)
  have hH : H1 = s.heap := by rw [← hh2, hq2, hh1]
  subst hH
  refine W.eq (g2 := F0 m 15 ls [.int ((tx i).getD x.toNatClampNeg 0)]) rfl ?_

  exact W.zret hx hb hr hn (fun t ht hW => ⟨rfl, ht⟩) hS.2.2 dJ0_charAt_5068e_15
