/-! THE SMALL MACHINE: a program of the class files, run over a heap of abstract cells. Cell 0 keeps the books (how many cells there are, how many cells and slots were made). A reference is a cell's number; a String constant is .retAddr of its number; a local of which nothing is known is .float 0. -/
abbrev tm_H : Type := Nat → va_E
def tm_up (h : tm_H) (a : Nat) (c : va_E) : tm_H := fun k => if k = a then c else h k
abbrev tm_U : Value := .float 0
abbrev tm_R : Type := tm_H × Option Value
abbrev tm_N : Type := tm_R ⊕ (Nat × List Value × List Value × tm_H)
/-- a method: its class's number, name, code, locals, answer, parameters, depth, room for locals, cells, slots, whether it has longs among its locals, its kind (0 static, 1 of an object, 2 a maker) -/
abbrev tm_M : Type := Nat × MethodName × ByteArray × Nat × Option FieldType × Nat × Nat × Nat × Nat × Nat × Bool × Nat
abbrev tm_oc (m : tm_M) : Nat := m.1
abbrev tm_y (m : tm_M) : MethodName := m.2.1
abbrev tm_cc (m : tm_M) : ByteArray := m.2.2.1
abbrev tm_mx (m : tm_M) : Nat := m.2.2.2.1
abbrev tm_rt (m : tm_M) : Option FieldType := m.2.2.2.2.1
abbrev tm_np (m : tm_M) : Nat := m.2.2.2.2.2.1
abbrev tm_dp (m : tm_M) : Nat := m.2.2.2.2.2.2.1
abbrev tm_lo (m : tm_M) : Nat := m.2.2.2.2.2.2.2.1
abbrev tm_mc (m : tm_M) : Nat := m.2.2.2.2.2.2.2.2.1
abbrev tm_ms (m : tm_M) : Nat := m.2.2.2.2.2.2.2.2.2.1
abbrev tm_lg (m : tm_M) : Bool := m.2.2.2.2.2.2.2.2.2.2.1
abbrev tm_kd (m : tm_M) : Nat := m.2.2.2.2.2.2.2.2.2.2.2
/-- the books -/
def tm_sz (h : tm_H) : Nat := match h 0 with | .inr o => o.1 | _ => 0
def tm_kc (h : tm_H) : Nat := match h 0 with | .inr (_, .ref k :: _) => k | _ => 0
def tm_ks (h : tm_H) : Nat := match h 0 with | .inr (_, _ :: .ref k :: _) => k | _ => 0
def tm_bk (n k z : Nat) : va_E := .inr (n, [.ref k, .ref z])
def tm_new (h : tm_H) (e : va_E) (n : Nat) : tm_H := tm_up (tm_up h 0 (tm_bk (tm_sz h + 1) (tm_kc h + 1) (tm_ks h + n))) (tm_sz h + 1) e
def tm_nl : Value → Bool
  | .long _ => false
  | .double _ => false
  | _ => true
/-- may the field be written by this method: not final, or by its own maker -/
def tm_wr (m : tm_M) (ci j : Nat) : Bool := match vwCl[ci]? with
  | some (_, T, _) => !(T j).2.2.2 || ((tm_y m).name == "<init>" && tm_oc m == ci)
  | none => false
/-- what the constant pools say: by the class's number and the index. A field: class number and slot; a method; a class; a String's number; a builtin; numbers -/
abbrev tm_PL : Type := List (Nat × Nat × Nat) × List (Nat × tm_M) × List (Nat × Nat) × List (Nat × Nat) × List (Nat × Nat) × List (Nat × Int32) × List (Nat × Int64)
abbrev tm_PG : Type := (Nat → tm_PL) × (Nat → Nat → FieldType) × (Nat → List Value) × (Nat → List Int32) × (Nat → String)
def tm_fld (G : tm_PG) (oc i : Nat) : Option (Nat × Nat) := (G.1 oc).1.lookup i
def tm_mth (G : tm_PG) (oc i : Nat) : Option tm_M := (G.1 oc).2.1.lookup i
def tm_cls (G : tm_PG) (oc i : Nat) : Option Nat := (G.1 oc).2.2.1.lookup i
def tm_str (G : tm_PG) (oc i : Nat) : Option Nat := (G.1 oc).2.2.2.1.lookup i
def tm_bin (G : tm_PG) (oc i : Nat) : Option Nat := (G.1 oc).2.2.2.2.1.lookup i
def tm_con (G : tm_PG) (oc i : Nat) : Option Int32 := (G.1 oc).2.2.2.2.2.1.lookup i
def tm_coL (G : tm_PG) (oc i : Nat) : Option Int64 := (G.1 oc).2.2.2.2.2.2.lookup i
def tm_ty (G : tm_PG) (ci k : Nat) : FieldType := G.2.1 ci k
def tm_df (G : tm_PG) (ci : Nat) : List Value := G.2.2.1 ci
def tm_tx (G : tm_PG) (i : Nat) : List Int32 := G.2.2.2.1 i
/-- instructions that touch the stack alone: length, stack behind -/
def tm_pu (G : tm_PG) (oc : Nat) (i : Instr) (ls st : List Value) : Option (Nat × List Value) :=
  match i with
  | .iconst n => some (1, .int (Int32.ofInt n) :: st)
  | .bipush n => some (2, .int (Int8.ofInt n).toInt32 :: st)
  | .sipush n => some (3, .int (Int16.ofInt n).toInt32 :: st)
  | .lconst n => some (1, .long (Int64.ofNat (n : Nat)) :: st)
  | .iload_n k => (match ls[(k : Nat)]? with | some (.int x) => some (1, .int x :: st) | _ => none)
  | .iload k => (match ls[k]? with | some (.int x) => some (2, .int x :: st) | _ => none)
  | .lload_n k => (match ls[(k : Nat)]? with | some (.long x) => some (1, .long x :: st) | _ => none)
  | .lload k => (match ls[k]? with | some (.long x) => some (2, .long x :: st) | _ => none)
  | .aload_n k => (match ls[(k : Nat)]? with | some (.ref x) => some (1, .ref x :: st) | some .null => some (1, .null :: st) | some (.retAddr x) => some (1, .retAddr x :: st) | _ => none)
  | .aload k => (match ls[k]? with | some (.ref x) => some (2, .ref x :: st) | some .null => some (2, .null :: st) | some (.retAddr x) => some (2, .retAddr x :: st) | _ => none)
  | .iadd => (match st with | .int y :: .int x :: st => some (1, .int (x + y) :: st) | _ => none)
  | .isub => (match st with | .int y :: .int x :: st => some (1, .int (x - y) :: st) | _ => none)
  | .imul => (match st with | .int y :: .int x :: st => some (1, .int (x * y) :: st) | _ => none)
  | .iand => (match st with | .int y :: .int x :: st => some (1, .int (x &&& y) :: st) | _ => none)
  | .ior => (match st with | .int y :: .int x :: st => some (1, .int (x ||| y) :: st) | _ => none)
  | .ixor => (match st with | .int y :: .int x :: st => some (1, .int (x ^^^ y) :: st) | _ => none)
  | .idiv => (match st with | .int y :: .int x :: st => if y = 0 then none else some (1, .int (x / y) :: st) | _ => none)
  | .irem => (match st with | .int y :: .int x :: st => if y = 0 then none else some (1, .int (x - x / y * y) :: st) | _ => none)
  | .ishl => (match st with | .int y :: .int x :: st => some (1, .int (x <<< (y &&& 31)) :: st) | _ => none)
  | .ishr => (match st with | .int y :: .int x :: st => some (1, .int (x >>> (y &&& 31)) :: st) | _ => none)
  | .iushr => (match st with | .int y :: .int x :: st => some (1, .int (x.toUInt32 >>> (y.toUInt32 &&& Int32.toUInt32 31)).toInt32 :: st) | _ => none)
  | .ineg => (match st with | .int x :: st => some (1, .int (-x) :: st) | _ => none)
  | .ladd => (match st with | .long y :: .long x :: st => some (1, .long (x + y) :: st) | _ => none)
  | .lmul => (match st with | .long y :: .long x :: st => some (1, .long (x * y) :: st) | _ => none)
  | .lcmp => (match st with | .long y :: .long x :: st => some (1, .int (lg_cmp x y) :: st) | _ => none)
  | .i2l => (match st with | .int x :: st => some (1, .long x.toInt64 :: st) | _ => none)
  | .i2b => (match st with | .int x :: st => some (1, .int x.toInt8.toInt32 :: st) | _ => none)
  | .dup => (match st with | v :: st => if tm_nl v then some (1, v :: v :: st) else none | _ => none)
  | .dup2 => (match st with | v :: w :: st => if tm_nl v && tm_nl w then some (1, v :: w :: v :: w :: st) else none | _ => none)
  | .pop => (match st with | v :: st => if tm_nl v then some (1, st) else none | _ => none)
  | .ldc k => (match tm_con G oc k, tm_str G oc k with | some x, _ => some (2, .int x :: st) | none, some x => some (2, .retAddr x :: st) | _, _ => none)
  | .ldc_w k => (match tm_str G oc k with | some x => some (3, .retAddr x :: st) | _ => none)
  | .ldc2_w k => (match tm_coL G oc k with | some x => some (3, .long x :: st) | _ => none)
  | _ => none
/-- a local is written: the neighbour below must be no long -/
def tm_ok (lg : Bool) (ls : List Value) (k : Nat) : Bool := !lg || (match k with | 0 => true | j + 1 => (match ls[j]? with | some v => tm_nl v | none => true))
/-- instructions that write a local: length, locals, stack -/
def tm_lo' (lg : Bool) (mx : Nat) (i : Instr) (ls st : List Value) : Option (Nat × List Value × List Value) :=
  match i with
  | .istore_n k => (match st with | .int x :: st => if (k : Nat) < mx && tm_ok lg ls k then some (1, ls.set k (.int x), st) else none | _ => none)
  | .istore k => (match st with | .int x :: st => if k < mx && tm_ok lg ls k then some (2, ls.set k (.int x), st) else none | _ => none)
  | .astore_n k => (match st with | .ref x :: st => if (k : Nat) < mx && tm_ok lg ls k then some (1, ls.set k (.ref x), st) else none | _ => none)
  | .astore k => (match st with | .ref x :: st => if k < mx && tm_ok lg ls k then some (2, ls.set k (.ref x), st) else none | _ => none)
  | .lstore_n k => (match st with | .long x :: st => if lg && (k : Nat) + 1 < mx && tm_ok lg ls k then some (1, (ls.set k (.long x)).set (k + 1) tm_U, st) else none | _ => none)
  | .lstore k => (match st with | .long x :: st => if lg && k + 1 < mx && tm_ok lg ls k then some (2, (ls.set k (.long x)).set (k + 1) tm_U, st) else none | _ => none)
  | .iinc k n => (match ls[k]? with | some (.int x) => if k < mx && tm_ok lg ls k then some (3, ls.set k (.int (x + Int32.ofInt n)), st) else none | _ => none)
  | _ => none
def tm_to (pc : Nat) (off : Int) : Option Nat := if 0 ≤ (pc : Int) + off then some ((pc : Int) + off).toNat else none
/-- branches: where to, the stack behind -/
def tm_br (i : Instr) (n pc : Nat) (st : List Value) : Option (Nat × List Value) :=
  match i with
  | .goto o => (tm_to pc o).map (fun t => (t, st))
  | .ifCond c o => (match st with
    | .int x :: st => (tm_to pc o).map (fun t => (if (match c with | .eq => decide (x = 0) | .ne => decide (x ≠ 0) | .lt => decide (x < 0) | .ge => decide (x ≥ 0) | .gt => decide (x > 0) | .le => decide (x ≤ 0)) then t else pc + 3, st))
    | _ => none)
  | .if_icmp c o => (match st with
    | .int y :: .int x :: st => (tm_to pc o).map (fun t => (if (match c with | .eq => decide (x = y) | .ne => decide (x ≠ y) | .lt => decide (x < y) | .ge => decide (x ≥ y) | .gt => decide (x > y) | .le => decide (x ≤ y)) then t else pc + 3, st))
    | _ => none)
  | .ifnull o => (match st with | .null :: st => (tm_to pc o).map (fun t => (t, st)) | .ref _ :: st => some (pc + 3, st) | _ => none)
  | .ifnonnull o => (match st with | .ref _ :: st => (tm_to pc o).map (fun t => (t, st)) | .null :: st => some (pc + 3, st) | _ => none)
  | .tableswitch d lo hi offs => (match st with
    | .int x :: st => if x.toInt < lo ∨ hi < x.toInt then (tm_to pc d).map (fun t => (t, st)) else (match offs[(x.toInt - lo).toNat]? with | some o => (tm_to pc o).map (fun t => (t, st)) | none => none)
    | _ => none)
  | _ => none
def tm_blen (i : Instr) (n : Nat) : Bool := match i with | .tableswitch _ _ _ _ => true | _ => n == 3
def tm_fit (ty : FieldType) (v : Value) : Bool := decide (narrow ty v = v) && fits ty v
/-- instructions that read or write the heap: length, stack, heap -/
def tm_he (G : tm_PG) (m : tm_M) (i : Instr) (st : List Value) (h : tm_H) : Option (Nat × List Value × tm_H) :=
  match i with
  | .getfield k => (match st, tm_fld G (tm_oc m) k with
    | .ref a :: st, some (ci, j) => (match h a with | .inr (c, fs) => if c = ci then (match fs[j]? with | some v => some (3, v :: st, h) | none => none) else none | _ => none)
    | _, _ => none)
  | .putfield k => (match st, tm_fld G (tm_oc m) k with
    | v :: .ref a :: st, some (ci, j) => (match h a with | .inr (c, fs) => if c = ci ∧ j < fs.length ∧ tm_fit (tm_ty G ci j) v = true ∧ tm_wr m ci j = true then some (3, st, tm_up h a (.inr (c, fs.set j v))) else none | _ => none)
    | _, _ => none)
  | .iaload => (match st with
    | .int j :: .ref a :: st => (match h a with | .inl (0, n, .inl f) => if j < 0 ∨ n ≤ j.toNatClampNeg then none else some (1, .int (f j.toNatClampNeg) :: st, h) | _ => none)
    | _ => none)
  | .baload => (match st with
    | .int j :: .ref a :: st => (match h a with | .inl (1, n, .inl f) => if j < 0 ∨ n ≤ j.toNatClampNeg then none else some (1, .int (f j.toNatClampNeg) :: st, h) | _ => none)
    | _ => none)
  | .laload => (match st with
    | .int j :: .ref a :: st => (match h a with | .inl (2, n, .inr (.inl f)) => if j < 0 ∨ n ≤ j.toNatClampNeg then none else some (1, .long (f j.toNatClampNeg) :: st, h) | _ => none)
    | _ => none)
  | .iastore => (match st with
    | .int x :: .int j :: .ref a :: st => (match h a with | .inl (0, n, .inl f) => if j < 0 ∨ n ≤ j.toNatClampNeg then none else some (1, st, tm_up h a (.inl (0, n, .inl (upd f j.toNatClampNeg x)))) | _ => none)
    | _ => none)
  | .bastore => (match st with
    | .int x :: .int j :: .ref a :: st => (match h a with | .inl (1, n, .inl f) => if j < 0 ∨ n ≤ j.toNatClampNeg then none else some (1, st, tm_up h a (.inl (1, n, .inl (upd f j.toNatClampNeg (vp_nar .byte x))))) | _ => none)
    | _ => none)
  | .lastore => (match st with
    | .long x :: .int j :: .ref a :: st => (match h a with | .inl (2, n, .inr (.inl f)) => if j < 0 ∨ n ≤ j.toNatClampNeg then none else some (1, st, tm_up h a (.inl (2, n, .inr (.inl (vp_updL f j.toNatClampNeg x))))) | _ => none)
    | _ => none)
  | .arraylength => (match st with
    | .ref a :: st => (match h a with | .inl (t, x) => if t < 3 then some (1, .int (Int32.ofNat x.1) :: st, h) else none | _ => none)
    | _ => none)
  | .new k => (match tm_cls G (tm_oc m) k with
    | some ci => if tm_mc m = 0 then none else some (3, .ref (tm_sz h + 1) :: st, tm_new h (.inr (ci, tm_df G ci)) (tm_df G ci).length)
    | none => none)
  | .newarray t => (match st with
    | .int n :: st => if tm_mc m = 0 ∨ n < 0 ∨ 1000 < n.toNatClampNeg then none else (match t with
      | .int => some (2, .ref (tm_sz h + 1) :: st, tm_new h (.inl (0, n.toNatClampNeg, .inl (fun _ => 0))) n.toNatClampNeg)
      | .byte => some (2, .ref (tm_sz h + 1) :: st, tm_new h (.inl (1, n.toNatClampNeg, .inl (fun _ => 0))) n.toNatClampNeg)
      | .long => some (2, .ref (tm_sz h + 1) :: st, tm_new h (.inl (2, n.toNatClampNeg, .inr (.inl (fun _ => 0)))) n.toNatClampNeg)
      | _ => none)
    | _ => none)
  | _ => none
def tm_isObj (e : va_E) (c : Nat) : Bool := match e with | .inr o => o.1 == c | _ => false
/-- may m call m2 here: depth, room, the stack below, cells -/
def tm_may (m m2 : tm_M) (rest : List Value) : Bool := decide (tm_dp m2 < tm_dp m) && decide (19 + tm_mx m2 + tm_lo m2 ≤ tm_lo m) && decide (rest.length ≤ 4) && ((tm_mc m2 == 0 && tm_ms m2 == 0) || (tm_mc m != 0 && tm_mc m2 != 0))
def tm_go (n pc : Nat) (ls rest : List Value) (r : Option tm_R) : Option tm_N := if n = 3 then r.map (fun r => .inr (pc + 3, ls, r.2.toList ++ rest, r.1)) else none
/-- calls -/
def tm_in (G : tm_PG) (cal : tm_M → List Value → tm_H → Option tm_R) (m : tm_M) (i : Instr) (n pc : Nat) (ls st : List Value) (h : tm_H) : Option tm_N :=
  match i with
  | .invokestatic k => (match tm_mth G (tm_oc m) k with
    | some m2 => if tm_kd m2 = 0 ∧ tm_np m2 ≤ st.length ∧ tm_may m m2 (st.drop (tm_np m2)) = true then tm_go n pc ls (st.drop (tm_np m2)) (cal m2 (st.take (tm_np m2)).reverse h) else none
    | none => (match tm_bin G (tm_oc m) k, st with
      | some 2, .int n2 :: .int dp :: .ref a :: .int sp :: .ref a0 :: rest => (match h a0, h a with
        | .inl (0, n0, .inl f), .inl (0, n1, .inl g) => if sp < 0 ∨ dp < 0 ∨ n2 < 0 ∨ n0 < sp.toNatClampNeg + n2.toNatClampNeg ∨ n1 < dp.toNatClampNeg + n2.toNatClampNeg ∨ 4 < rest.length ∨ tm_dp m < 1 ∨ tm_lo m < 100 then none else tm_go n pc ls rest (some (tm_up h a (.inl (0, n1, .inl (va_cpy f g sp.toNatClampNeg dp.toNatClampNeg n2.toNatClampNeg))), none))
        | _, _ => none)
      | some 4, .int y :: .int x :: rest => if 4 < rest.length ∨ tm_dp m < 1 ∨ tm_lo m < 21 then none else tm_go n pc ls rest (some (h, some (.int (if x < y then y else x))))
      | some 5, .int y :: .int x :: rest => if 4 < rest.length ∨ tm_dp m < 1 ∨ tm_lo m < 21 then none else tm_go n pc ls rest (some (h, some (.int (if x > y then y else x))))
      | some 6, .int x :: rest => if 4 < rest.length ∨ tm_dp m < 1 ∨ tm_lo m < 21 then none else tm_go n pc ls rest (some (h, some (.int (if 0 ≤ x then x else 0 - x))))
      | _, _ => none))
  | .invokevirtual k => (match tm_mth G (tm_oc m) k with
    | some m2 => (match st.drop (tm_np m2) with
      | .ref b :: rest => if tm_kd m2 = 1 ∧ tm_may m m2 rest = true ∧ tm_isObj (h b) (tm_oc m2) = true then tm_go n pc ls rest (cal m2 (.ref b :: (st.take (tm_np m2)).reverse) h) else none
      | _ => none)
    | none => (match tm_bin G (tm_oc m) k, st with
      | some 0, .retAddr j :: rest => if 42 ≤ j ∨ 4 < rest.length ∨ tm_dp m < 2 ∨ tm_lo m < 40 then none else tm_go n pc ls rest (some (h, some (.int (Int32.ofNat (tm_tx G j).length))))
      | some 1, .int x :: .retAddr j :: rest => if 42 ≤ j ∨ 4 < rest.length ∨ tm_dp m < 4 ∨ tm_lo m < 101 ∨ x < 0 ∨ (tm_tx G j).length ≤ x.toNatClampNeg then none else tm_go n pc ls rest (some (h, some (.int ((tm_tx G j).getD x.toNatClampNeg 0))))
      | _, _ => none))
  | .invokespecial k => (match tm_mth G (tm_oc m) k with
    | some m2 => (match st.drop (tm_np m2) with
      | .ref b :: rest => if tm_kd m2 = 2 ∧ tm_may m m2 rest = true then tm_go n pc ls rest (cal m2 (.ref b :: (st.take (tm_np m2)).reverse) h) else none
      | _ => none)
    | none => (match tm_bin G (tm_oc m) k, st with
      | some 3, .ref _ :: rest => if 4 < rest.length ∨ tm_dp m < 1 ∨ tm_lo m < 20 then none else tm_go n pc ls rest (some (h, none))
      | _, _ => none))
  | _ => none
/-- ends -/
def tm_en (m : tm_M) (i : Instr) (n : Nat) (st : List Value) (h : tm_H) : Option tm_R :=
  if n = 1 then (match i, st, tm_rt m with
  | .ireturn, [.int x], some ty => if narrow ty (.int x) = .int x then some (h, some (.int x)) else none
  | .lreturn, [.long x], some .long => some (h, some (.long x))
  | .areturn, [.ref x], some (.object _) => some (h, some (.ref x))
  | .return_, [], none => some (h, none)
  | _, _, _ => none) else none
def tm_kind (i : Instr) : Nat := match i with
  | .istore_n _ | .istore _ | .astore_n _ | .astore _ | .lstore_n _ | .lstore _ | .iinc _ _ => 1
  | .goto _ | .ifCond _ _ | .if_icmp _ _ | .ifnull _ | .ifnonnull _ | .tableswitch _ _ _ _ => 2
  | .getfield _ | .putfield _ | .iaload | .baload | .laload | .iastore | .bastore | .lastore | .arraylength | .new _ | .newarray _ => 3
  | .invokestatic _ | .invokevirtual _ | .invokespecial _ => 4
  | .ireturn | .lreturn | .areturn | .return_ => 5
  | _ => 0
def tm_st (G : tm_PG) (cal : tm_M → List Value → tm_H → Option tm_R) (m : tm_M) (pc : Nat) (ls st : List Value) (h : tm_H) : Option tm_N :=
  match decode (tm_cc m) pc with
  | .ok (i, n) => (match tm_kind i with
    | 0 => (match tm_pu G (tm_oc m) i ls st with | some (k, st') => if k = n then some (.inr (pc + k, ls, st', h)) else none | none => none)
    | 1 => (match tm_lo' (tm_lg m) (tm_mx m) i ls st with | some (k, ls', st') => if k = n then some (.inr (pc + k, ls', st', h)) else none | none => none)
    | 2 => if tm_blen i n then (match tm_br i n pc st with | some (t, st') => some (.inr (t, ls, st', h)) | none => none) else none
    | 3 => (match tm_he G m i st h with | some (k, st', h') => if k = n then some (.inr (pc + k, ls, st', h')) else none | none => none)
    | 4 => tm_in G cal m i n pc ls st h
    | _ => (match tm_en m i n st h with | some r => some (.inl r) | none => none))
  | .error _ => none
/-- some steps of a method -/
def tm_run (G : tm_PG) (cal : tm_M → List Value → tm_H → Option tm_R) (m : tm_M) : Nat → Nat → List Value → List Value → tm_H → Option tm_R
  | 0, _, _, _, _ => none
  | f + 1, pc, ls, st, h => match tm_st G cal m pc ls st h with
    | some (.inl r) => some r
    | some (.inr (pc', ls', st', h')) => tm_run G cal m f pc' ls' st' h'
    | none => none
theorem tm_run_mono (G : tm_PG) (cal : tm_M → List Value → tm_H → Option tm_R) (m : tm_M) : ∀ (f : Nat) (pc : Nat) (ls st : List Value) (h : tm_H) (r : tm_R), tm_run G cal m f pc ls st h = some r → tm_run G cal m (f + 1) pc ls st h = some r := by
  intro f
  induction f with
  | zero => intro pc ls st h r e; simp [tm_run] at e
  | succ f ih =>
    intro pc ls st h r e
    rw [tm_run] at e ⊢
    cases hs : tm_st G cal m pc ls st h with
    | none => rw [hs] at e; cases e
    | some x =>
      rw [hs] at e
      cases x with
      | inl r' => exact e
      | inr c => exact ih _ _ _ _ _ e
theorem tm_run_le (G : tm_PG) (cal : tm_M → List Value → tm_H → Option tm_R) (m : tm_M) {f g : Nat} (hfg : f ≤ g) {pc : Nat} {ls st : List Value} {h : tm_H} {r : tm_R} (e : tm_run G cal m f pc ls st h = some r) : tm_run G cal m g pc ls st h = some r := by
  induction hfg with
  | refl => exact e
  | step _ ih => exact tm_run_mono G cal m _ _ _ _ _ _ ih
/-- what a run comes to, with as many steps as it wants -/
noncomputable def tm_evc (G : tm_PG) (cal : tm_M → List Value → tm_H → Option tm_R) (m : tm_M) (pc : Nat) (ls st : List Value) (h : tm_H) : Option tm_R :=
  (Classical.propDecidable (∃ f r, tm_run G cal m f pc ls st h = some r)).casesOn (fun _ => none) (fun e => some (Classical.choose (Classical.choose_spec e)))
theorem tm_evc_iff (G : tm_PG) (cal : tm_M → List Value → tm_H → Option tm_R) (m : tm_M) (pc : Nat) (ls st : List Value) (h : tm_H) (r : tm_R) : tm_evc G cal m pc ls st h = some r ↔ ∃ f, tm_run G cal m f pc ls st h = some r := by
  unfold tm_evc
  cases Classical.propDecidable (∃ f r, tm_run G cal m f pc ls st h = some r) with
  | isFalse n =>
    constructor
    · intro e; cases e
    · intro ⟨f, e⟩; exact absurd ⟨f, r, e⟩ n
  | isTrue e =>
    have h0 := Classical.choose_spec (Classical.choose_spec e)
    constructor
    · intro q
      have q' := Option.some.inj q
      exact ⟨_, by rw [← q']; exact h0⟩
    · intro ⟨f, q⟩
      have a1 := tm_run_le G cal m (Nat.le_max_left f (Classical.choose e)) q
      have a2 := tm_run_le G cal m (Nat.le_max_right f (Classical.choose e)) h0
      exact congrArg some (Option.some.inj (a2.symm.trans a1))
theorem tm_evc_step (G : tm_PG) (cal : tm_M → List Value → tm_H → Option tm_R) (m : tm_M) (pc : Nat) (ls st : List Value) (h : tm_H) : tm_evc G cal m pc ls st h = (match tm_st G cal m pc ls st h with
    | some (.inl r) => some r
    | some (.inr (pc', ls', st', h')) => tm_evc G cal m pc' ls' st' h'
    | none => none) := by
  apply Option.ext
  intro r
  rw [tm_evc_iff]
  cases hs : tm_st G cal m pc ls st h with
  | none =>
    constructor
    · intro ⟨f, e⟩
      cases f with
      | zero => simp [tm_run] at e
      | succ f => rw [tm_run, hs] at e; cases e
    · intro e; cases e
  | some x =>
    cases x with
    | inl r' =>
      constructor
      · intro ⟨f, e⟩
        cases f with
        | zero => simp [tm_run] at e
        | succ f => rw [tm_run, hs] at e; exact e
      · intro e; exact ⟨1, by rw [tm_run, hs]; exact e⟩
    | inr c =>
      obtain ⟨pc', ls', st', h'⟩ := c
      show _ ↔ tm_evc G cal m pc' ls' st' h' = some r
      rw [tm_evc_iff]
      constructor
      · intro ⟨f, e⟩
        cases f with
        | zero => simp [tm_run] at e
        | succ f => rw [tm_run, hs] at e; exact ⟨f, e⟩
      · intro ⟨f, e⟩; exact ⟨f + 1, by rw [tm_run, hs]; exact e⟩
/-- the locals at a method's entry -/
def tm_ent (mx : Nat) (args : List Value) : List Value :=
  let l := args.flatMap (fun v => if tm_nl v then [v] else [v, tm_U])
  l ++ List.replicate (mx - l.length) tm_U
/-- a method's answer: a maker's books are rounded up to what it may make -/
def tm_fin (m : tm_M) (h : tm_H) (r : Option tm_R) : Option tm_R := match r with
  | none => none
  | some (h', v) => if tm_mc m = 0 then some (h', v) else if tm_kc h' ≤ tm_kc h + tm_mc m ∧ tm_ks h' ≤ tm_ks h + tm_ms m then some (tm_up h' 0 (tm_bk (tm_sz h') (tm_kc h + tm_mc m) (tm_ks h + tm_ms m)), v) else none
def tm_args (m : tm_M) (args : List Value) : Bool := (tm_lg m || args.all tm_nl) && decide ((tm_ent 0 args).length ≤ tm_mx m)
noncomputable def tm_cd (G : tm_PG) : Nat → tm_M → List Value → tm_H → Option tm_R
  | 0, _, _, _ => none
  | d + 1, m, args, h => if tm_dp m ≤ d then tm_cd G d m args h else if tm_dp m = d + 1 ∧ tm_args m args = true then tm_fin m h (tm_evc G (tm_cd G d) m 0 (tm_ent (tm_mx m) args) [] h) else none
theorem tm_cd_none (G : tm_PG) : ∀ (d : Nat) (m : tm_M) (args : List Value) (h : tm_H), d < tm_dp m → tm_cd G d m args h = none := by
  intro d
  induction d with
  | zero => intro m args h _; rfl
  | succ d ih =>
    intro m args h hd
    rw [tm_cd, if_neg (by omega), if_neg (by omega)]
theorem tm_cd_eq (G : tm_PG) : ∀ (d : Nat) (m : tm_M) (args : List Value) (h : tm_H), tm_dp m ≤ d → tm_cd G d m args h = tm_cd G (tm_dp m) m args h := by
  intro d
  induction d with
  | zero => intro m args h hd; rw [Nat.le_zero.mp hd]
  | succ d ih =>
    intro m args h hd
    by_cases e : tm_dp m = d + 1
    · rw [e]
    · rw [tm_cd, if_pos (by omega)]; exact ih m args h (by omega)
/-- a call of a method -/
noncomputable def tm_call (G : tm_PG) (m : tm_M) (args : List Value) (h : tm_H) : Option tm_R := tm_cd G (tm_dp m) m args h
/-- a method's run from a place on -/
noncomputable def tm_ev (G : tm_PG) (m : tm_M) (pc : Nat) (ls st : List Value) (h : tm_H) : Option tm_R := tm_evc G (tm_cd G (tm_dp m - 1)) m pc ls st h
theorem tm_call_eq (G : tm_PG) {m : tm_M} {args : List Value} {h : tm_H} (hd : 0 < tm_dp m) (ha : tm_args m args = true) : tm_call G m args h = tm_fin m h (tm_ev G m 0 (tm_ent (tm_mx m) args) [] h) := by
  unfold tm_call tm_ev
  obtain ⟨d, e⟩ : ∃ d, tm_dp m = d + 1 := ⟨tm_dp m - 1, by omega⟩
  rw [e, tm_cd, if_neg (by omega), if_pos ⟨e, ha⟩]
  rfl
