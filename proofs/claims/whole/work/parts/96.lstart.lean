/-! THE LAW'S START: classes, texts, statics as the statement gives them; a new house of class and reference -/
section LS
variable {args : Array Value} {s : State}
theorem ls_arr {ty : FieldType} (h : (Cond.arrayClass ty).before args s = true) : ∃ cA : ClassId, ArrOfT s cA ty ∧ s.vm.findClass ("[" ++ ty.toString) = some cA := by
  simp only [Cond.before, Cond.holds, Cond.value] at h
  cases e1 : s.vm.findClass ("[" ++ ty.toString) with
  | none => rw [e1] at h; simp at h
  | some cA =>
    rw [e1] at h
    cases e2 : s.vm.classes[cA]? with
    | none => simp [e2] at h
    | some kA =>
      simp only [Option.bind_some, e2, Option.map_some] at h
      cases e3 : kA.kind with
      | array comp ty2 =>
        rw [e3] at h
        have h4 : ty2 = ty := by simpa using h
        subst h4
        exact ⟨cA, fun n z => ⟨fun k h => (by cases h), kA, e2, comp, e3⟩, rfl⟩
      | _ => rw [e3] at h; simp at h
theorem ls_K (hts : ∀ w ∈ lw_tbl, w.before args s = true) : ∃ (D : va_G) (τ : Nat → Nat), va_K D vwCl (tm_tys τ) s := by
  have h0 : ∀ k : Nat, ∃ q : ClassId × (Nat → Nat), ∀ c : vw_C, vwCl[k]? = some c → u_Kn s c.1 c.2.1 c.2.2 q.1 q.2 := by
    intro k
    cases e : vwCl[k]? with
    | none => exact ⟨(0, fun _ => 0), fun c h => by cases h⟩
    | some c =>
      obtain ⟨C, T, N⟩ := c
      obtain ⟨a1, a2, a3, a4, a5, _⟩ := tm_okG.1.2.1 k C T N e
      obtain ⟨cC, iS, hK⟩ := u_known (C := C) (T := T) (N := N) (n := N) hts a1 (hts _ a4)
      exact ⟨(cC, iS), fun c h => by cases h; exact hK⟩
  obtain ⟨ad, had⟩ := Classical.axiomOfChoice h0
  obtain ⟨c0, a0, b0⟩ := ls_arr (hts _ tm_acI)
  obtain ⟨c1, a1, b1⟩ := ls_arr (hts _ tm_acB)
  obtain ⟨c2, a2, b2⟩ := ls_arr (hts _ tm_acJ)
  refine ⟨(fun k => (ad k).1, fun k => (ad k).2), fun k => if k = 0 then c0 else if k = 1 then c1 else c2, fun c q hq => had c q hq, fun k q hk => ?_⟩
  match k, hk with
  | 0, hk => cases hk; exact ⟨a0, b0⟩
  | 1, hk => cases hk; exact ⟨a1, b1⟩
  | 2, hk => cases hk; exact ⟨a2, b2⟩
  | k + 3, hk => simp [tm_tys] at hk
/-- the String constants: class and entry, by their numbers -/
def ls_tm (i : Nat) : Term := match i with
  | 0 => .string "TwoMinds$Reader" 88
  | 1 => .string "TwoMinds$Reader" 102
  | 2 => .string "TwoMinds$Reader" 107
  | 3 => .string "TwoMinds$Reader" 112
  | 4 => .string "TwoMinds$Reader" 120
  | 5 => .string "TwoMinds$Reader" 128
  | 6 => .string "TwoMinds$Reader" 136
  | 7 => .string "TwoMinds$Reader" 144
  | 8 => .string "TwoMinds$Reader" 150
  | 9 => .string "TwoMinds$Reader" 159
  | 10 => .string "TwoMinds$Reader" 161
  | 11 => .string "TwoMinds$Reader" 163
  | 12 => .string "TwoMinds$Reader" 165
  | 13 => .string "TwoMinds$Reader" 170
  | 14 => .string "TwoMinds$Reader" 172
  | 15 => .string "TwoMinds$Reader" 174
  | 16 => .string "TwoMinds$Reader" 179
  | 17 => .string "TwoMinds$Reader" 181
  | 18 => .string "TwoMinds$Reader" 183
  | 19 => .string "TwoMinds$Reader" 191
  | 20 => .string "TwoMinds$Reader" 193
  | 21 => .string "TwoMindsModel" 147
  | 22 => .string "TwoMindsModel" 149
  | 23 => .string "TwoMindsModel" 151
  | 24 => .string "TwoMindsModel" 153
  | 25 => .string "TwoMindsModel" 155
  | 26 => .string "TwoMindsModel" 157
  | 27 => .string "TwoMindsModel" 159
  | 28 => .string "TwoMindsModel" 197
  | 29 => .string "TwoMindsModel" 203
  | 30 => .string "TwoMindsModel" 207
  | 31 => .string "TwoMindsModel" 211
  | 32 => .string "TwoMindsModel" 215
  | 33 => .string "TwoMindsModel" 219
  | 34 => .string "TwoMindsModel" 245
  | 35 => .string "TwoMindsModel" 247
  | 36 => .string "TwoMindsModel" 249
  | 37 => .string "TwoMindsModel" 260
  | 38 => .string "TwoMindsModel" 262
  | 39 => .string "TwoMindsModel" 274
  | 40 => .string "TwoMindsModel" 285
  | 41 => .string "TwoMindsModel" 287
  | _ => .string "" 0
theorem ls_S {N : Nat} {tm : Nat → Term} {tx : Nat → List Int32} {A : Nat → Prop} (hN : ∀ i : Nat, i < N → (tx i).length < 2 ^ 31) (hex : ∀ i : Nat, i < N → (Cond.exactly (tm i) "java/lang/String").before args s = true) (hco : ∀ i : Nat, i < N → (Cond.eq (.field (tm i) "java/lang/String" "coder" "B") (.int 0)).before args s = true)
    (har : ∀ i : Nat, i < N → (Cond.arrayOf (.field (tm i) "java/lang/String" "value" "[B") .byte).before args s = true) (hle : ∀ i : Nat, i < N → (Cond.eq (.length (.field (tm i) "java/lang/String" "value" "[B")) (.int (Int32.ofNat (tx i).length))).before args s = true)
    (hel : ∀ i : Nat, i < N → ∀ j : Nat, j < (tx i).length → (Cond.eq (.elem (.field (tm i) "java/lang/String" "value" "[B") (.int (Int32.ofNat j))) (.int ((tx i).getD j 0))).before args s = true) (hA : ∀ a : Nat, a < s.heap.size → ¬ A a) :
    ∃ σ adV : Nat → Nat, ∀ i : Nat, i < N → (tm i).eval args s none [] s = some (.ref (σ i)) ∧ va_O "java/lang/String" (σ i) A s s.heap ∧ va_OF "java/lang/String" "coder" "B" (.int 0) (σ i) A s s.heap ∧ va_OF "java/lang/String" "value" "[B" (.ref (adV i)) (σ i) A s s.heap ∧ va_T .byte (adV i) (tx i).length (fun j => .int ((tx i).getD j 0)) A s s.heap := by
  have h0 : ∀ i : Nat, ∃ q : Nat × Nat, i < N → (tm i).eval args s none [] s = some (.ref q.1) ∧ va_O "java/lang/String" q.1 A s s.heap ∧ va_OF "java/lang/String" "coder" "B" (.int 0) q.1 A s s.heap ∧ va_OF "java/lang/String" "value" "[B" (.ref q.2) q.1 A s s.heap ∧ va_T .byte q.2 (tx i).length (fun j => .int ((tx i).getD j 0)) A s s.heap := by
    intro i
    by_cases hi : i < N
    · obtain ⟨a, c, cA, kA, q1, q2, q3, q4, q5, q6, -⟩ := Cond.exactly_spec (args := args) (first := s) (o := none) (s := s) (idx := []) (t := tm i) (cls := "java/lang/String") (hex i hi)
      obtain ⟨t, ht, hT⟩ := va_Tof (f := fun j => .int ((tx i).getD j 0)) (A := A) (hN i hi) (har i hi) (va_eqt (hle i hi)) (fun j hj => va_eqt (hel i hi j hj)) hA
      exact ⟨(a, t), fun _ => ⟨q1, ⟨cA, q3, q5, by rw [q6]; exact q2, hA a (Array.getElem?_eq_some_iff.mp q3).1⟩, vk_OFof q1 (va_eqt (hco i hi)) hA, vk_OFof q1 ht hA, hT⟩⟩
    · exact ⟨(0, 0), fun h => absurd h hi⟩
  obtain ⟨ad, had⟩ := Classical.axiomOfChoice h0
  exact ⟨fun i => (ad i).1, fun i => (ad i).2, had⟩
def ls_N : List Jvm.Cond := flatC (Jvm.Cond.and given_1 narrow_1)
def ls_ix : List Nat := [23, 46, 91, 99, 107, 114, 123, 30, 38, 55, 64, 74, 82, 132, 140, 148, 157, 166, 174, 180, 188, 197, 223, 273, 282, 291, 299, 309, 205, 214, 233, 243, 254, 263, 319, 328, 337, 347, 357, 366, 373, 382]
theorem ls_hex0 : ∀ i : Nat, i < tm_nS → ls_N[ls_ix.getD i 0]? = some (Cond.exactly (ls_tm i) "java/lang/String") := by decide +kernel
theorem ls_hco0 : ∀ i : Nat, i < tm_nS → ls_N[ls_ix.getD i 0 + 1]? = some (Cond.eq (.field (ls_tm i) "java/lang/String" "coder" "B") (.int 0)) := by decide +kernel
theorem ls_har0 : ∀ i : Nat, i < tm_nS → ls_N[ls_ix.getD i 0 + 2]? = some (Cond.arrayOf (.field (ls_tm i) "java/lang/String" "value" "[B") .byte) := by decide +kernel
theorem ls_hle0 : ∀ i : Nat, i < tm_nS → ls_N[ls_ix.getD i 0 + 3]? = some (Cond.eq (.length (.field (ls_tm i) "java/lang/String" "value" "[B")) (.int (Int32.ofNat (tm_tx tm_G i).length))) := by decide +kernel
theorem ls_hel0 : ∀ i : Nat, i < tm_nS → ∀ j : Nat, j < (tm_tx tm_G i).length → ls_N[ls_ix.getD i 0 + 4 + j]? = some (Cond.eq (.elem (.field (ls_tm i) "java/lang/String" "value" "[B") (.int (Int32.ofNat j))) (.int ((tm_tx tm_G i).getD j 0))) := by decide +kernel
theorem ls_hN : ∀ i : Nat, i < tm_nS → (tm_tx tm_G i).length < 2 ^ 31 := fun i hi => (tz_T i hi).1
end LS
/-- the entries of the constant pools that are texts -/
def ls_ok (oc : Nat) (q : Nat × Nat) : Prop := q.2 < tm_nS ∧ ∃ tx, Jvm.Cond.stringRef (tm_names oc) q.1 tx ∈ lw_tbl ∧ ls_tm q.2 = .string (tm_names oc) q.1
set_option maxRecDepth 20000 in
theorem ls_ts6 : ∀ q ∈ ts_6, ls_ok 6 q := List.forall_mem_cons.mpr ⟨⟨by decide, "bar", tm_in1 (i := 377) (by decide +kernel), rfl⟩, List.forall_mem_cons.mpr ⟨⟨by decide, "water", tm_in1 (i := 482) (by decide +kernel), rfl⟩, List.forall_mem_cons.mpr ⟨⟨by decide, "kind", tm_in1 (i := 495) (by decide +kernel), rfl⟩, List.forall_mem_cons.mpr ⟨⟨by decide, "turn", tm_in1 (i := 512) (by decide +kernel), rfl⟩, List.forall_mem_cons.mpr ⟨⟨by decide, "red", tm_in1 (i := 513) (by decide +kernel), rfl⟩, List.forall_mem_cons.mpr ⟨⟨by decide, "stone", tm_in1 (i := 514) (by decide +kernel), rfl⟩, List.forall_mem_cons.mpr ⟨⟨by decide, "smith", tm_in1 (i := 515) (by decide +kernel), rfl⟩, List.forall_mem_cons.mpr ⟨⟨by decide, "long", tm_in1 (i := 446) (by decide +kernel), rfl⟩, List.forall_mem_cons.mpr ⟨⟨by decide, "wide", tm_in1 (i := 473) (by decide +kernel), rfl⟩, List.forall_mem_cons.mpr ⟨⟨by decide, "pulls", tm_in1 (i := 491) (by decide +kernel), rfl⟩, List.forall_mem_cons.mpr ⟨⟨by decide, "shield", tm_in1 (i := 492) (by decide +kernel), rfl⟩, List.forall_mem_cons.mpr ⟨⟨by decide, "flow", tm_in1 (i := 493) (by decide +kernel), rfl⟩, List.forall_mem_cons.mpr ⟨⟨by decide, "swell", tm_in1 (i := 494) (by decide +kernel), rfl⟩, List.forall_mem_cons.mpr ⟨⟨by decide, "hard", tm_in1 (i := 525) (by decide +kernel), rfl⟩, List.forall_mem_cons.mpr ⟨⟨by decide, "room", tm_in1 (i := 526) (by decide +kernel), rfl⟩, List.forall_mem_cons.mpr ⟨⟨by decide, "bears", tm_in1 (i := 527) (by decide +kernel), rfl⟩, List.forall_mem_cons.mpr ⟨⟨by decide, "below", tm_in1 (i := 536) (by decide +kernel), rfl⟩, List.forall_mem_cons.mpr ⟨⟨by decide, "drop", tm_in1 (i := 537) (by decide +kernel), rfl⟩, List.forall_mem_cons.mpr ⟨⟨by decide, "to", tm_in1 (i := 542) (by decide +kernel), rfl⟩, List.forall_mem_cons.mpr ⟨⟨by decide, "days", tm_in1 (i := 547) (by decide +kernel), rfl⟩, List.forall_mem_cons.mpr ⟨⟨by decide, "shows", tm_in1 (i := 548) (by decide +kernel), rfl⟩, fun _ h => absurd h List.not_mem_nil⟩⟩⟩⟩⟩⟩⟩⟩⟩⟩⟩⟩⟩⟩⟩⟩⟩⟩⟩⟩⟩
set_option maxRecDepth 20000 in
theorem ls_ts11 : ∀ q ∈ ts_11, ls_ok 11 q := List.forall_mem_cons.mpr ⟨⟨by decide, "bar", tm_in1 (i := 1465) (by decide +kernel), rfl⟩, List.forall_mem_cons.mpr ⟨⟨by decide, "water", tm_in1 (i := 1500) (by decide +kernel), rfl⟩, List.forall_mem_cons.mpr ⟨⟨by decide, "kind", tm_in1 (i := 1509) (by decide +kernel), rfl⟩, List.forall_mem_cons.mpr ⟨⟨by decide, "turn", tm_in1 (i := 1522) (by decide +kernel), rfl⟩, List.forall_mem_cons.mpr ⟨⟨by decide, "red", tm_in1 (i := 1523) (by decide +kernel), rfl⟩, List.forall_mem_cons.mpr ⟨⟨by decide, "stone", tm_in1 (i := 1524) (by decide +kernel), rfl⟩, List.forall_mem_cons.mpr ⟨⟨by decide, "smith", tm_in1 (i := 1525) (by decide +kernel), rfl⟩, List.forall_mem_cons.mpr ⟨⟨by decide, "long", tm_in1 (i := 1487) (by decide +kernel), rfl⟩, List.forall_mem_cons.mpr ⟨⟨by decide, "wide", tm_in1 (i := 1499) (by decide +kernel), rfl⟩, List.forall_mem_cons.mpr ⟨⟨by decide, "pulls", tm_in1 (i := 1505) (by decide +kernel), rfl⟩, List.forall_mem_cons.mpr ⟨⟨by decide, "shield", tm_in1 (i := 1506) (by decide +kernel), rfl⟩, List.forall_mem_cons.mpr ⟨⟨by decide, "flow", tm_in1 (i := 1507) (by decide +kernel), rfl⟩, List.forall_mem_cons.mpr ⟨⟨by decide, "swell", tm_in1 (i := 1508) (by decide +kernel), rfl⟩, List.forall_mem_cons.mpr ⟨⟨by decide, "hard", tm_in1 (i := 1530) (by decide +kernel), rfl⟩, List.forall_mem_cons.mpr ⟨⟨by decide, "room", tm_in1 (i := 1531) (by decide +kernel), rfl⟩, List.forall_mem_cons.mpr ⟨⟨by decide, "bears", tm_in1 (i := 1532) (by decide +kernel), rfl⟩, List.forall_mem_cons.mpr ⟨⟨by decide, "below", tm_in1 (i := 1537) (by decide +kernel), rfl⟩, List.forall_mem_cons.mpr ⟨⟨by decide, "drop", tm_in1 (i := 1538) (by decide +kernel), rfl⟩, List.forall_mem_cons.mpr ⟨⟨by decide, "to", tm_in1 (i := 1543) (by decide +kernel), rfl⟩, List.forall_mem_cons.mpr ⟨⟨by decide, "days", tm_in1 (i := 1548) (by decide +kernel), rfl⟩, List.forall_mem_cons.mpr ⟨⟨by decide, "shows", tm_in1 (i := 1549) (by decide +kernel), rfl⟩, fun _ h => absurd h List.not_mem_nil⟩⟩⟩⟩⟩⟩⟩⟩⟩⟩⟩⟩⟩⟩⟩⟩⟩⟩⟩⟩⟩
theorem ls_no {oc : Nat} : ∀ q ∈ ([] : List (Nat × Nat)), ls_ok oc q := fun _ h => absurd h List.not_mem_nil
theorem ls_ts : ∀ oc, ∀ q ∈ (tm_pools oc).2.2.2.1, ls_ok oc q := tm_pool_cases (P := fun L oc => ∀ q ∈ L.2.2.2.1, ls_ok oc q) (fun _ => ls_no) ls_no ls_no ls_no ls_no ls_no ls_no ls_ts6 ls_no ls_no ls_no ls_no ls_ts11 ls_no ls_no
section LS2
variable {args : Array Value} {s : State}
theorem ls_Cx (hts : ∀ w ∈ lw_tbl, w.before args s = true) (hg : (Jvm.Cond.and given_1 narrow_1).before args s = true) : ∃ (D : va_G) (σ τ adV : Nat → Nat), tm_Cx tm_G D σ τ adV (fun q => s.heap.size ≤ q) s s.heap := by
  obtain ⟨D, τ, hK⟩ := ls_K hts
  have hf := flat_of_before _ hg
  have hA : ∀ a : Nat, a < s.heap.size → ¬ (fun q => s.heap.size ≤ q) a := fun a h => Nat.not_le.mpr h
  have g : ∀ {k : Nat} {w : Jvm.Cond}, ls_N[k]? = some w → w.before args s = true := fun h => hf _ (List.mem_of_getElem? h)
  obtain ⟨σ, adV, hS⟩ := ls_S (A := fun q => s.heap.size ≤ q) ls_hN (fun i hi => g (ls_hex0 i hi)) (fun i hi => g (ls_hco0 i hi)) (fun i hi => g (ls_har0 i hi)) (fun i hi => g (ls_hle0 i hi)) (fun i hi j hj => g (ls_hel0 i hi j hj)) hA
  refine ⟨D, σ, τ, adV, hK, fun w hw hn => va_Nw.of (tm_nst_tab hn) (hts w hw), ⟨fun i hi => (hS i hi).2, ?_, ?_⟩, fun oc k x hx => ?_⟩
  · exact va_Zof (hts _ (tm_in1 (i := 391) (by decide +kernel))) (hts _ (tm_in1 (i := 12) (by decide +kernel))) (va_eqi (g (k := 4) (by decide +kernel))) hA
  · exact va_Zqof (hts _ (tm_in1 (i := 407) (by decide +kernel))) (hts _ (tm_in1 (i := 14) (by decide +kernel))) (g (k := 5) (by decide +kernel)) hA
  · obtain ⟨h1, tx, h2, h3⟩ := ls_ts oc _ (tm_look hx)
    have h4 := (hS x h1).1
    rw [h3] at h4
    exact ⟨h1, tx, vk_R.of (hts _ h2) h4⟩
/-- what a throw of the class wants beside -/
def lx_at : List Jvm.Cond := vx_at0 RX9 301 "java/util/NoSuchElementException" ["java/lang/RuntimeException", "java/lang/Exception"]
def lx_B : List Jvm.Cond := lx_at.filter (fun w => !goodWord w)
def lx_k : Jvm.Cond → Bool
  | .declares _ => true
  | .castable _ _ => true
  | _ => false
theorem lx_Bk : ∀ w ∈ lx_B, lx_k w = true ∧ w ∈ lw_tbl := by decide +kernel
theorem lx_good : ∀ w ∈ lx_at.filter goodWord, w ∈ lw_tbl := by decide +kernel
theorem lx_ot : ∀ w ∈ Cond.classLink RX9 299 "java/util/NoSuchElementException" :: Cond.initialized "java/util/NoSuchElementException" :: lx_at, vx_ot w = true := by decide +kernel
def lx_Cx (A : Nat → Prop) (U : State) (H : Heap) : Prop := vx_Zq Bundle.tN "UNASSIGNED_STACK" Bundle.steD A U H ∧ vx_Zq Bundle.tN "SUPPRESSED_SENTINEL" Bundle.listD A U H ∧ ∀ w ∈ lx_B, va_Nw w U
theorem lx_Cx.same {A : Nat → Prop} {u U : State} {H : Heap} (h : lx_Cx A u H) (hv : u.vm = U.vm) : lx_Cx A U H := by
  have ha : u.vm.Alike U.vm := by rw [hv]; exact Vm.Alike.refl _
  refine ⟨vx_Zq.moved ha h.1, vx_Zq.moved ha h.2.1, fun w hw => ?_⟩
  have hk := (lx_Bk w hw).1
  exact va_Nw.same (by cases w <;> first | rfl | cases hk) hv (h.2.2 w hw)
theorem lx_Cx.warm {A B : Nat → Prop} {s U : State} {H : Heap} (h : lx_Cx A s s.heap) (hW : s.WarmedH U.vm) (hU : U.heap = H) (hq : ∀ a : Nat, a < s.heap.size → ¬ A a → H[a]? = s.heap[a]?) (hAB : ∀ q, B q → A q) : lx_Cx B U U.heap := by
  rw [hU]
  refine ⟨vx_Zq.moved hW.alike ((h.1.kept hq).narrow hAB), vx_Zq.moved hW.alike ((h.2.1.kept hq).narrow hAB), fun w hw => ?_⟩
  have hk := (lx_Bk w hw).1
  have hz := h.2.2 w hw
  cases w <;> first | exact va_Nw.warmD hW hz | exact va_Nw.warmC hW hz | cases hk
theorem ls_lx (hts : ∀ w ∈ lw_tbl, w.before args s = true) (hg : (Jvm.Cond.and given_1 narrow_1).before args s = true) : lx_Cx (fun q => s.heap.size ≤ q) s s.heap := by
  have hf := flat_of_before _ hg
  have hA : ∀ a : Nat, a < s.heap.size → ¬ (fun q => s.heap.size ≤ q) a := fun a h => Nat.not_le.mpr h
  have g : ∀ {k : Nat} {w : Jvm.Cond}, ls_N[k]? = some w → w.before args s = true := fun h => hf _ (List.mem_of_getElem? h)
  refine ⟨vx_Zqof (hts _ (tm_in1 (i := 1175) (by decide +kernel))) (hts _ (tm_in1 (i := 21) (by decide +kernel))) (g (k := 9) (by decide +kernel)) hA, vx_Zqof (hts _ (tm_in1 (i := 1177) (by decide +kernel))) (hts _ (tm_in1 (i := 21) (by decide +kernel))) (g (k := 10) (by decide +kernel)) hA, fun w hw => ?_⟩
  have hk := (lx_Bk w hw).1
  exact va_Nw.of (by cases w <;> first | rfl | cases hk) (hts w (lx_Bk w hw).2)
end LS2
/-! A NEW HOUSE of the reference, beside the class's -/
section LS3
variable {h : tm_H} {c s : Nat}
theorem PI_0 : PI S0 := ⟨PX_0, fun k => ⟨0, rfl⟩, fun k _ => ⟨show (0 : Int32) ≤ 0 by decide, show (0 : Int32) ≤ 9999 by decide⟩, fun k hk => absurd hk (Nat.not_lt_zero k), fun b => by cases b⟩
theorem mn_inv : MInv (mkH h 70 70 13 (obj_11 70) (F_11 70) c s) S0 := by
  have q : ∀ {i : Nat}, 1 ≤ i → i ≤ 13 → mkH h 70 70 13 (obj_11 70) (F_11 70) c s (70 + i) = F_11 70 i := fun hi hK => mk_at (by decide) hi hK
  exact ⟨((0, 0, -1), (.null, .null), ((0, 0, 0, 0, 0), (0, 0, 0, 0, 0)), (0, 0, -1, 0, 0), 0), 83, c, s, mk_0, by decide, ⟨rfl, rfl, rfl, rfl⟩, ⟨0, _, _, _, _, _, _, mk_o (by decide), q (i := 2) (by decide) (by decide), q (i := 3) (by decide) (by decide), q (i := 4) (by decide) (by decide), q (i := 5) (by decide) (by decide), q (i := 6) (by decide) (by decide), q (i := 7) (by decide) (by decide)⟩, q (i := 1) (by decide) (by decide), ⟨fun b => (by cases b), fun _ => rfl⟩, ⟨_, q (i := 8) (by decide) (by decide)⟩, ⟨_, q (i := 9) (by decide) (by decide)⟩, ⟨_, q (i := 10) (by decide) (by decide)⟩, ⟨_, q (i := 11) (by decide) (by decide), fun _ _ => rfl, rfl⟩, ⟨_, q (i := 12) (by decide) (by decide)⟩, ⟨_, q (i := 13) (by decide) (by decide), fun k hk => absurd hk (Nat.not_lt_zero k)⟩⟩
theorem m_init (h0 : h 0 = tm_bk 70 c s) (hO : h 70 = .inr (11, tm_dflt 11)) (X : XInv h S0) : ∃ h', tC mX11_init [.ref 70] h = some (h', none) ∧ LI h' S0 :=
  ⟨_, ctor_11 h0 hO (by decide) (by decide), XI_m X (fun k k1 hk => by unfold mkH; rw [if_neg (by omega), if_neg (by omega), if_neg (by omega)]), mn_inv, PI_0⟩
end LS3
