/-! STRING CONSTANTS: length and charAt, walked; one word list for every method -/
def tm_GW : List Jvm.Cond := lw_tbl.filter goodWord
abbrev tm_Ws (y : MethodName) (cc : ByteArray) (mx : Nat) (rt : Option FieldType) : List Jvm.Cond := .code y cc mx rt :: tm_GW
theorem tm_Ws_good {y : MethodName} {cc : ByteArray} {mx : Nat} {rt : Option FieldType} {args : Array Value} {s : State} (hts : ∀ w ∈ tm_Ws y cc mx rt, w.before args s = true) : ∀ w ∈ lw_tbl, goodWord w = true → w.before args s = true :=
  fun w h1 h2 => hts w (List.mem_cons_of_mem _ (List.mem_filter.mpr ⟨h1, h2⟩))
theorem tm_Ws_warm {y : MethodName} {cc : ByteArray} {mx : Nat} {rt : Option FieldType} {args : Array Value} {s : State} (hg : ∀ w ∈ lw_tbl, goodWord w = true → w.before args s = true) (hc : Jvm.Cond.code y cc mx rt ∈ lw_tbl) :
    ∀ w ∈ tm_Ws y cc mx rt, ∀ (a' : Array Value) (U : State), s.WarmedH U.vm → w.before a' U = true := by
  have key : ∀ w ∈ lw_tbl, goodWord w = true → ∀ (a' : Array Value) (U : State), s.WarmedH U.vm → w.before a' U = true := fun w h1 h2 a' U hW => word_at hW (good_of_word h2) (hg w h1 h2)
  intro w hw
  rcases List.mem_cons.mp hw with rfl | hw
  · exact key _ hc rfl
  · obtain ⟨h1, h2⟩ := List.mem_filter.mp hw
    exact key w h1 h2
/-- the link to a method, plain or of a nest mate -/
def tm_Lk (own : String) (k : Nat) (y : MethodName) : Prop := Jvm.Cond.methodLink own k y ∈ lw_tbl ∨ ∃ host, Jvm.Cond.methodLinkNest own k y host ∈ lw_tbl
theorem tm_CB {R : Room} {s : State} {args : Array Value} {own : String} {index : Nat} {y : MethodName} {bytes : ByteArray} {maxL : Nat} {ret : Option FieldType} {rm : Room} {n : Nat} (hg : ∀ w ∈ lw_tbl, goodWord w = true → w.before args s = true) (hc : Jvm.Cond.code y bytes maxL ret ∈ lw_tbl) (hi : Jvm.Cond.initialized y.cls ∈ lw_tbl) (hl : Jvm.Cond.methodLink own index y ∈ lw_tbl)
    (hy : y.cls ≠ "java/lang/invoke/MethodHandle" ∧ y.cls ≠ "java/lang/invoke/VarHandle") (hn : ∀ sig, parseMethodDescriptor y.desc = some sig → n = sig.parameters.length) (hf : rm.frames + 1 ≤ R.frames) (hlo : 8 + (maxL + 11) + rm.locals ≤ R.locals) :
    CallB R s args own index y bytes maxL ret (tm_Ws y bytes maxL ret) rm rm.cells rm.slots n :=
  ⟨rfl, rfl, hf, hlo, tm_Ws_warm hg hc, List.mem_cons_self, hg _ hc rfl, hg _ hi rfl, hy, hn, hg _ hl rfl⟩
theorem tm_desc {d : String} {n : Nat} (h : (parseMethodDescriptor d).map (fun d => d.parameters.length) = some n) : ∀ sig, parseMethodDescriptor d = some sig → n = sig.parameters.length := by
  intro sig h2
  rw [h2] at h
  exact (Option.some.inj h).symm
section TMC
variable {p : Program} {l : Launch} {e : Env} {R : Room} {s : State} {m : MethodId} {args : Array Value} {below : List Frame} {meth : Method} {c : Code} {H : Heap} {locs : List Loc} {cells slots mc ms : Nat} {Q : State → Prop}
theorem tm_callW {g : JFrame} {rest : List Value} {Qa : State → Outcome → State → Prop} {free : Addr → Prop} (hr : va_Run p l e R s m args below meth c H locs cells slots mc ms g rest Qa free)
    (kk : ∀ (v : Option Value) (st₀ t : State) (H1 : Heap) (L : List Loc), st₀.heap = H → t.heap = H1 → s.WarmedH t.vm → Qa st₀ (.returned v) t → (∀ q ∈ L, free q.base) → W p l e R s m args below meth c H1 (locs ++ L) (cells + mc) (slots + ms) Q { g with pc := g.pc + 3, stack := v.toList ++ rest }) : W p l e R s m args below meth c H locs cells slots Q g := by
  intro T hT X
  obtain ⟨v, st₀, t, T', L, h1, X', hL, e1, e2, hq, go⟩ := hr T hT X
  obtain ⟨u, a1, b1⟩ := kk v st₀ t T'.heap L h1 e1.symm (by rw [← e2]; exact X'.warmed) hq hL T' rfl X'
  exact ⟨u, go u a1, b1⟩
end TMC
/-- the texts and the JDK's statics that their methods read, outside A -/
def tm_Sx (N : Nat) (tx : Nat → List Int32) (σ adV : Nat → Nat) (A : Nat → Prop) (U : State) (H : Heap) : Prop :=
  (∀ i : Nat, i < N → va_O "java/lang/String" (σ i) A U H ∧ va_OF "java/lang/String" "coder" "B" (.int 0) (σ i) A U H ∧ va_OF "java/lang/String" "value" "[B" (.ref (adV i)) (σ i) A U H ∧ va_T .byte (adV i) (tx i).length (fun j => .int ((tx i).getD j 0)) A U H) ∧
  va_Z "java/lang/String" "COMPACT_STRINGS" "Z" (.int 1) A U H ∧ va_Zq "jdk/internal/util/Preconditions" "SIOOBE_FORMATTER" "Ljava/util/function/BiFunction;" A U H
theorem tm_Sx.moved {N : Nat} {tx : Nat → List Int32} {σ adV : Nat → Nat} {A : Nat → Prop} {u U : State} {H : Heap} (hvm : u.vm.Alike U.vm) (h : tm_Sx N tx σ adV A u H) : tm_Sx N tx σ adV A U H :=
  ⟨fun i hi => ⟨va_O.moved hvm (h.1 i hi).1, va_OF.moved hvm (h.1 i hi).2.1, va_OF.moved hvm (h.1 i hi).2.2.1, va_T.moved hvm (h.1 i hi).2.2.2⟩, va_Z.moved hvm h.2.1, va_Zq.moved hvm h.2.2⟩
theorem tm_Sx.kept {N : Nat} {tx : Nat → List Int32} {σ adV : Nat → Nat} {A : Nat → Prop} {U : State} {H H1 : Heap} (h : tm_Sx N tx σ adV A U H) (hq : ∀ a : Nat, a < H.size → ¬ A a → H1[a]? = H[a]?) : tm_Sx N tx σ adV A U H1 :=
  ⟨fun i hi => ⟨(h.1 i hi).1.kept hq, (h.1 i hi).2.1.kept hq, (h.1 i hi).2.2.1.kept hq, (h.1 i hi).2.2.2.kept hq⟩, h.2.1.kept hq, h.2.2.kept hq⟩
theorem tm_Sx.narrow {N : Nat} {tx : Nat → List Int32} {σ adV : Nat → Nat} {A B : Nat → Prop} {U : State} {H : Heap} (h : tm_Sx N tx σ adV A U H) (hAB : ∀ q, B q → A q) : tm_Sx N tx σ adV B U H :=
  ⟨fun i hi => ⟨(h.1 i hi).1.narrow hAB, (h.1 i hi).2.1.narrow hAB, (h.1 i hi).2.2.1.narrow hAB, (h.1 i hi).2.2.2.narrow hAB⟩, h.2.1.narrow hAB, h.2.2.narrow hAB⟩
/-- a JDK method's start: its arguments, the texts, nothing may be written -/
def tm_Jp (N : Nat) (tx : Nat → List Int32) (σ adV : Nat → Nat) (as : List Value) : Array Value → State → Prop := va_Pc as (fun U => tm_Sx N tx σ adV (fun _ => False) U U.heap)
def tm_Jq (v : Option Value) : Array Value → State → Outcome → State → Prop := fun _ st o t => o = .returned v ∧ t.heap = st.heap
theorem tm_Jblind (N : Nat) (tx : Nat → List Int32) (σ adV : Nat → Nat) (as : List Value) : FrameBlind (tm_Jp N tx σ adV as) := fun a U g mk q => ⟨q.1, tm_Sx.moved (u := U) (U := U.calling g mk a) (Vm.Alike.refl U.vm) q.2⟩
theorem tm_S0 {H0 : Heap} : va_S (fun _ => False) H0 H0 [] := va_S.rf
