/-! STEPS OF METHODS, as equations -/
noncomputable def tE (m : tm_M) (pc : Nat) (ls st : List Value) (h : tm_H) : Option tm_R := tm_ev tm_G m pc ls st h
noncomputable def tC (m : tm_M) (as : List Value) (h : tm_H) : Option tm_R := tm_call tm_G m as h
/-- going on with what a read answers, a write leaves, a call comes back with -/
noncomputable def tk1 (m : tm_M) (pc : Nat) (ls st : List Value) (h : tm_H) (o : Option Value) : Option tm_R := match o with | some v => tE m pc ls (v :: st) h | none => none
noncomputable def tk0 (m : tm_M) (pc : Nat) (ls st : List Value) (o : Option tm_H) : Option tm_R := match o with | some h => tE m pc ls st h | none => none
noncomputable def tkc (m : tm_M) (pc : Nat) (ls st : List Value) (b : Bool) (o : Option tm_R) : Option tm_R := match b, o with | true, some r => tE m pc ls (r.2.toList ++ st) r.1 | _, _ => none
theorem tk1_some {m : tm_M} {pc : Nat} {ls st : List Value} {h : tm_H} {v : Value} : tk1 m pc ls st h (some v) = tE m pc ls (v :: st) h := rfl
theorem tk0_some {m : tm_M} {pc : Nat} {ls st : List Value} {h : tm_H} : tk0 m pc ls st (some h) = tE m pc ls st h := rfl
theorem tkc_some {m : tm_M} {pc : Nat} {ls st : List Value} {h : tm_H} {v : Value} : tkc m pc ls st true (some (h, some v)) = tE m pc ls (v :: st) h := rfl
theorem tkc_none {m : tm_M} {pc : Nat} {ls st : List Value} {h : tm_H} : tkc m pc ls st true (some (h, none)) = tE m pc ls st h := rfl
def tm_gf (e : va_E) (ci j : Nat) : Option Value := match e with | .inr (c, fs) => if c = ci then fs[j]? else none | _ => none
def tm_pf (h : tm_H) (a ci j : Nat) (v : Value) : Option tm_H := match h a with | .inr (c, fs) => if c = ci ∧ j < fs.length then some (tm_up h a (.inr (c, fs.set j v))) else none | _ => none
def tm_ai (t : Nat) (e : va_E) (i : Int32) : Option Value := match e with | .inl (t', n, .inl f) => if t' = t then (if i < 0 ∨ n ≤ i.toNatClampNeg then none else some (.int (f i.toNatClampNeg))) else none | _ => none
def tm_aj (e : va_E) (i : Int32) : Option Value := match e with | .inl (2, n, .inr (.inl f)) => if i < 0 ∨ n ≤ i.toNatClampNeg then none else some (.long (f i.toNatClampNeg)) | _ => none
def tm_al (e : va_E) : Option Value := match e with | .inl (t, x) => if t < 3 then some (.int (Int32.ofNat x.1)) else none | _ => none
def tm_si (t : Nat) (h : tm_H) (a : Nat) (i x : Int32) : Option tm_H := match h a with | .inl (t', n, .inl f) => if t' = t then (if i < 0 ∨ n ≤ i.toNatClampNeg then none else some (tm_up h a (.inl (t, n, .inl (upd f i.toNatClampNeg x))))) else none | _ => none
def tm_sj (h : tm_H) (a : Nat) (i : Int32) (x : Int64) : Option tm_H := match h a with | .inl (2, n, .inr (.inl f)) => if i < 0 ∨ n ≤ i.toNatClampNeg then none else some (tm_up h a (.inl (2, n, .inr (.inl (vp_updL f i.toNatClampNeg x))))) | _ => none
section EV
variable {m : tm_M} {pc n : Nat} {ls ls' st st' : List Value} {h : tm_H} {i : Instr}
theorem tE_st : tE m pc ls st h = (match tm_st tm_G (tm_cd tm_G (tm_dp m - 1)) m pc ls st h with
    | some (.inl r) => some r
    | some (.inr (pc', ls', st', h')) => tE m pc' ls' st' h'
    | none => none) := tm_evc_step tm_G _ m pc ls st h
theorem ev_pu (hd : decode (tm_cc m) pc = .ok (i, n)) (hk : tm_kind i = 0) (hp : tm_pu tm_G (tm_oc m) i ls st = some (n, st')) : tE m pc ls st h = tE m (pc + n) ls st' h := by
  rw [tE_st]; unfold tm_st; simp only [hd, hk, hp, ↓reduceIte]
theorem ev_lo (hd : decode (tm_cc m) pc = .ok (i, n)) (hk : tm_kind i = 1) (hp : tm_lo' (tm_lg m) (tm_mx m) i ls st = some (n, ls', st')) : tE m pc ls st h = tE m (pc + n) ls' st' h := by
  rw [tE_st]; unfold tm_st; simp only [hd, hk, hp, ↓reduceIte]
theorem ev_br {t : Nat} (hd : decode (tm_cc m) pc = .ok (i, n)) (hk : tm_kind i = 2) (hb : tm_blen i n = true) (hp : tm_br i n pc st = some (t, st')) : tE m pc ls st h = tE m t ls st' h := by
  rw [tE_st]; unfold tm_st; simp only [hd, hk, hb, hp, ↓reduceIte]
theorem ev_he {h' : tm_H} (hd : decode (tm_cc m) pc = .ok (i, n)) (hk : tm_kind i = 3) (hp : tm_he tm_G m i st h = some (n, st', h')) : tE m pc ls st h = tE m (pc + n) ls st' h' := by
  rw [tE_st]; unfold tm_st; simp only [hd, hk, hp, ↓reduceIte]
theorem ev_heN (hd : decode (tm_cc m) pc = .ok (i, n)) (hk : tm_kind i = 3) (hp : tm_he tm_G m i st h = none) : tE m pc ls st h = none := by
  rw [tE_st]; unfold tm_st; simp only [hd, hk, hp]
noncomputable def tm_nx (m : tm_M) (x : Option tm_N) : Option tm_R := match x with
    | some (.inl r) => some r
    | some (.inr (pc', ls', st', h')) => tE m pc' ls' st' h'
    | none => none
theorem ev_in {x : Option tm_N} (hd : decode (tm_cc m) pc = .ok (i, n)) (hk : tm_kind i = 4) (hp : tm_in tm_G (tm_cd tm_G (tm_dp m - 1)) m i n pc ls st h = x) : tE m pc ls st h = tm_nx m x := by
  rw [tE_st]; unfold tm_st tm_nx; simp only [hd, hk, hp]
theorem ev_en {r : tm_R} (hd : decode (tm_cc m) pc = .ok (i, n)) (hk : tm_kind i = 5) (hp : tm_en m i n st h = some r) : tE m pc ls st h = some r := by
  rw [tE_st]; unfold tm_st; simp only [hd, hk, hp]
def tm_c1 (c : ClassFile.Cond) (x : Int32) : Bool := match c with | .eq => decide (x = 0) | .ne => decide (x ≠ 0) | .lt => decide (x < 0) | .ge => decide (x ≥ 0) | .gt => decide (x > 0) | .le => decide (x ≤ 0)
def tm_c2 (c : ClassFile.Cond) (x y : Int32) : Bool := match c with | .eq => decide (x = y) | .ne => decide (x ≠ y) | .lt => decide (x < y) | .ge => decide (x ≥ y) | .gt => decide (x > y) | .le => decide (x ≤ y)
theorem ev_if {P : Prop} [Decidable P] {c : ClassFile.Cond} {o : Int} {t : Nat} {x : Int32} (hd : decode (tm_cc m) pc = .ok (.ifCond c o, 3)) (ht : tm_to pc o = some t) (hP : tm_c1 c x = decide P) : tE m pc ls (.int x :: st) h = if P then tE m t ls st h else tE m (pc + 3) ls st h := by
  have q : tm_br (.ifCond c o) 3 pc (.int x :: st) = some (if P then t else pc + 3, st) := by
    have e0 : tm_br (.ifCond c o) 3 pc (.int x :: st) = (tm_to pc o).map (fun t => (if tm_c1 c x then t else pc + 3, st)) := by cases c <;> rfl
    rw [e0, ht, hP]
    show some _ = some _
    by_cases q : P <;> simp [q]
  rw [ev_br hd rfl rfl q]
  split <;> rfl
theorem ev_ic {P : Prop} [Decidable P] {c : ClassFile.Cond} {o : Int} {t : Nat} {x y : Int32} (hd : decode (tm_cc m) pc = .ok (.if_icmp c o, 3)) (ht : tm_to pc o = some t) (hP : tm_c2 c x y = decide P) : tE m pc ls (.int y :: .int x :: st) h = if P then tE m t ls st h else tE m (pc + 3) ls st h := by
  have q : tm_br (.if_icmp c o) 3 pc (.int y :: .int x :: st) = some (if P then t else pc + 3, st) := by
    have e0 : tm_br (.if_icmp c o) 3 pc (.int y :: .int x :: st) = (tm_to pc o).map (fun t => (if tm_c2 c x y then t else pc + 3, st)) := by cases c <;> rfl
    rw [e0, ht, hP]
    show some _ = some _
    by_cases q : P <;> simp [q]
  rw [ev_br hd rfl rfl q]
  split <;> rfl
theorem ev_gf {k ci j a : Nat} (hd : decode (tm_cc m) pc = .ok (.getfield k, 3)) (hf : tm_fld tm_G (tm_oc m) k = some (ci, j)) : tE m pc ls (.ref a :: st) h = tk1 m (pc + 3) ls st h (tm_gf (h a) ci j) := by
  have q : tm_he tm_G m (.getfield k) (.ref a :: st) h = (tm_gf (h a) ci j).map (fun v => (3, v :: st, h)) := by
    simp only [tm_he, tm_gf, hf]
    cases h a with
    | inl x => rfl
    | inr x =>
      obtain ⟨c, fs⟩ := x
      by_cases hc : c = ci
      · simp only [hc, if_true, ↓reduceIte]
        cases fs[j]? <;> rfl
      · simp only [hc, if_false, ↓reduceIte]; rfl
  cases hg : tm_gf (h a) ci j with
  | none => rw [hg] at q; exact ev_heN hd rfl q
  | some v => rw [hg] at q; exact ev_he hd rfl q
theorem ev_pf {k ci j a : Nat} {v : Value} (hd : decode (tm_cc m) pc = .ok (.putfield k, 3)) (hf : tm_fld tm_G (tm_oc m) k = some (ci, j)) (hfit : tm_fit (tm_ty tm_G ci j) v = true) (hwr : tm_wr m ci j = true) : tE m pc ls (v :: .ref a :: st) h = tk0 m (pc + 3) ls st (tm_pf h a ci j v) := by
  have q : tm_he tm_G m (.putfield k) (v :: .ref a :: st) h = (tm_pf h a ci j v).map (fun h' => (3, st, h')) := by
    simp only [tm_he, tm_pf, hf]
    cases h a with
    | inl x => rfl
    | inr x =>
      obtain ⟨c, fs⟩ := x
      by_cases hc : c = ci ∧ j < fs.length
      · have e1 : (c = ci ∧ j < fs.length ∧ tm_fit (tm_ty tm_G ci j) v = true ∧ tm_wr m ci j = true) := ⟨hc.1, hc.2, hfit, hwr⟩
        simp only [if_pos hc, if_pos e1]; rfl
      · have e1 : ¬ (c = ci ∧ j < fs.length ∧ tm_fit (tm_ty tm_G ci j) v = true ∧ tm_wr m ci j = true) := fun z => hc ⟨z.1, z.2.1⟩
        simp only [if_neg hc, if_neg e1]; rfl
  cases hg : tm_pf h a ci j v with
  | none => rw [hg] at q; exact ev_heN hd rfl q
  | some v => rw [hg] at q; exact ev_he hd rfl q
theorem ev_ia {a : Nat} {j : Int32} (hd : decode (tm_cc m) pc = .ok (.iaload, 1)) : tE m pc ls (.int j :: .ref a :: st) h = tk1 m (pc + 1) ls st h (tm_ai 0 (h a) j) := by
  have q : tm_he tm_G m .iaload (.int j :: .ref a :: st) h = (tm_ai 0 (h a) j).map (fun v => (1, v :: st, h)) := by
    simp only [tm_he, tm_ai]
    cases h a with
    | inr x => rfl
    | inl x =>
      obtain ⟨t, n, f⟩ := x
      cases f with
      | inr g => cases t <;> rfl
      | inl f =>
        cases t with
        | zero => simp only [↓reduceIte]; split <;> rfl
        | succ t => simp only [Nat.succ_ne_zero, ↓reduceIte]; rfl
  cases hg : tm_ai 0 (h a) j with
  | none => rw [hg] at q; exact ev_heN hd rfl q
  | some v => rw [hg] at q; exact ev_he hd rfl q
theorem ev_ba {a : Nat} {j : Int32} (hd : decode (tm_cc m) pc = .ok (.baload, 1)) : tE m pc ls (.int j :: .ref a :: st) h = tk1 m (pc + 1) ls st h (tm_ai 1 (h a) j) := by
  have q : tm_he tm_G m .baload (.int j :: .ref a :: st) h = (tm_ai 1 (h a) j).map (fun v => (1, v :: st, h)) := by
    simp only [tm_he, tm_ai]
    cases h a with
    | inr x => rfl
    | inl x =>
      obtain ⟨t, n, f⟩ := x
      cases f with
      | inr g => rcases t with _ | _ | t <;> rfl
      | inl f =>
        rcases t with _ | _ | t
        · rfl
        · simp only [Nat.zero_add, ↓reduceIte]; split <;> rfl
        · show (none : Option (Nat × List Value × tm_H)) = Option.map (fun v => (1, v :: st, h)) (if t + 1 + 1 = 1 then _ else none)
          rw [if_neg (by omega)]; rfl
  cases hg : tm_ai 1 (h a) j with
  | none => rw [hg] at q; exact ev_heN hd rfl q
  | some v => rw [hg] at q; exact ev_he hd rfl q
theorem ev_la {a : Nat} {j : Int32} (hd : decode (tm_cc m) pc = .ok (.laload, 1)) : tE m pc ls (.int j :: .ref a :: st) h = tk1 m (pc + 1) ls st h (tm_aj (h a) j) := by
  have q : tm_he tm_G m .laload (.int j :: .ref a :: st) h = (tm_aj (h a) j).map (fun v => (1, v :: st, h)) := by
    simp only [tm_he, tm_aj]
    cases h a with
    | inr x => rfl
    | inl x =>
      obtain ⟨t, n, f⟩ := x
      rcases t with _ | _ | _ | t <;> rcases f with f | f | f <;> first
        | rfl
        | (show (if j < 0 ∨ n ≤ j.toNatClampNeg then none else some (1, .long (f j.toNatClampNeg) :: st, h)) = Option.map (fun v => (1, v :: st, h)) (if j < 0 ∨ n ≤ j.toNatClampNeg then none else some (.long (f j.toNatClampNeg)))
           split <;> rfl)
  cases hg : tm_aj (h a) j with
  | none => rw [hg] at q; exact ev_heN hd rfl q
  | some v => rw [hg] at q; exact ev_he hd rfl q
theorem ev_is {a : Nat} {j x : Int32} (hd : decode (tm_cc m) pc = .ok (.iastore, 1)) : tE m pc ls (.int x :: .int j :: .ref a :: st) h = tk0 m (pc + 1) ls st (tm_si 0 h a j x) := by
  have q : tm_he tm_G m .iastore (.int x :: .int j :: .ref a :: st) h = (tm_si 0 h a j x).map (fun h' => (1, st, h')) := by
    simp only [tm_he, tm_si]
    cases h a with
    | inr x => rfl
    | inl x =>
      obtain ⟨t, n, f⟩ := x
      cases f with
      | inr g => cases t <;> rfl
      | inl f =>
        cases t with
        | zero => simp only [↓reduceIte]; split <;> rfl
        | succ t => simp only [Nat.succ_ne_zero, ↓reduceIte]; rfl
  cases hg : tm_si 0 h a j x with
  | none => rw [hg] at q; exact ev_heN hd rfl q
  | some v => rw [hg] at q; exact ev_he hd rfl q
theorem ev_bs {a : Nat} {j x : Int32} (hd : decode (tm_cc m) pc = .ok (.bastore, 1)) : tE m pc ls (.int x :: .int j :: .ref a :: st) h = tk0 m (pc + 1) ls st (tm_si 1 h a j (vp_nar .byte x)) := by
  have q : tm_he tm_G m .bastore (.int x :: .int j :: .ref a :: st) h = (tm_si 1 h a j (vp_nar .byte x)).map (fun h' => (1, st, h')) := by
    simp only [tm_he, tm_si]
    cases h a with
    | inr x => rfl
    | inl x =>
      obtain ⟨t, n, f⟩ := x
      cases f with
      | inr g => rcases t with _ | _ | t <;> rfl
      | inl f =>
        rcases t with _ | _ | t
        · rfl
        · simp only [Nat.zero_add, ↓reduceIte]; split <;> rfl
        · show (none : Option (Nat × List Value × tm_H)) = Option.map (fun h' => (1, st, h')) (if t + 1 + 1 = 1 then _ else none)
          rw [if_neg (by omega)]; rfl
  cases hg : tm_si 1 h a j (vp_nar .byte x) with
  | none => rw [hg] at q; exact ev_heN hd rfl q
  | some v => rw [hg] at q; exact ev_he hd rfl q
theorem ev_ls {a : Nat} {j : Int32} {x : Int64} (hd : decode (tm_cc m) pc = .ok (.lastore, 1)) : tE m pc ls (.long x :: .int j :: .ref a :: st) h = tk0 m (pc + 1) ls st (tm_sj h a j x) := by
  have q : tm_he tm_G m .lastore (.long x :: .int j :: .ref a :: st) h = (tm_sj h a j x).map (fun h' => (1, st, h')) := by
    simp only [tm_he, tm_sj]
    cases h a with
    | inr x => rfl
    | inl x =>
      obtain ⟨t, n, f⟩ := x
      rcases t with _ | _ | _ | t <;> rcases f with f | f | f <;> first
        | rfl
        | (show (if j < 0 ∨ n ≤ j.toNatClampNeg then none else some (1, st, tm_up h a (.inl (2, n, .inr (.inl (vp_updL f j.toNatClampNeg x)))))) = Option.map (fun h' => (1, st, h')) (if j < 0 ∨ n ≤ j.toNatClampNeg then none else some (tm_up h a (.inl (2, n, .inr (.inl (vp_updL f j.toNatClampNeg x))))))
           split <;> rfl)
  cases hg : tm_sj h a j x with
  | none => rw [hg] at q; exact ev_heN hd rfl q
  | some v => rw [hg] at q; exact ev_he hd rfl q
theorem ev_al {a : Nat} (hd : decode (tm_cc m) pc = .ok (.arraylength, 1)) : tE m pc ls (.ref a :: st) h = tk1 m (pc + 1) ls st h (tm_al (h a)) := by
  have q : tm_he tm_G m .arraylength (.ref a :: st) h = (tm_al (h a)).map (fun v => (1, v :: st, h)) := by
    simp only [tm_he, tm_al]
    cases h a with
    | inr x => rfl
    | inl x =>
      obtain ⟨t, x⟩ := x
      by_cases ht : t < 3
      · simp only [if_pos ht]; rfl
      · simp only [if_neg ht]; rfl
  cases hg : tm_al (h a) with
  | none => rw [hg] at q; exact ev_heN hd rfl q
  | some v => rw [hg] at q; exact ev_he hd rfl q
theorem ev_cal {m2 : tm_M} {as rest : List Value} (hm : tm_may m m2 rest = true) : tm_cd tm_G (tm_dp m - 1) m2 as h = tC m2 as h := by
  unfold tm_may at hm
  simp only [Bool.and_eq_true, decide_eq_true_eq] at hm
  exact tm_cd_eq tm_G _ m2 as h (by omega)
theorem ev_go3 {o : Option tm_R} : tm_nx m (tm_go 3 pc ls st o) = tkc m (pc + 3) ls st true o := by
  unfold tm_go tkc
  rw [if_pos rfl]
  cases o <;> rfl
theorem ev_sta {k : Nat} {m2 : tm_M} (hd : decode (tm_cc m) pc = .ok (.invokestatic k, 3)) (hm2 : tm_mth tm_G (tm_oc m) k = some m2) (hk : tm_kd m2 = 0) (hn : tm_np m2 ≤ st.length) (hm : tm_may m m2 (st.drop (tm_np m2)) = true) : tE m pc ls st h = tkc m (pc + 3) ls (st.drop (tm_np m2)) true (tC m2 (st.take (tm_np m2)).reverse h) := by
  have e1 : tm_in tm_G (tm_cd tm_G (tm_dp m - 1)) m (.invokestatic k) 3 pc ls st h = tm_go 3 pc ls (st.drop (tm_np m2)) (tm_cd tm_G (tm_dp m - 1) m2 (st.take (tm_np m2)).reverse h) := by
    simp only [tm_in, hm2]
    rw [if_pos ⟨hk, hn, hm⟩]
  rw [ev_in hd rfl e1, ev_cal hm, ev_go3]
theorem ev_vir {k b : Nat} {m2 : tm_M} {rest : List Value} (hd : decode (tm_cc m) pc = .ok (.invokevirtual k, 3)) (hm2 : tm_mth tm_G (tm_oc m) k = some m2) (hk : tm_kd m2 = 1) (hs : st.drop (tm_np m2) = .ref b :: rest) (hm : tm_may m m2 rest = true) : tE m pc ls st h = tkc m (pc + 3) ls rest (tm_isObj (h b) (tm_oc m2)) (tC m2 (.ref b :: (st.take (tm_np m2)).reverse) h) := by
  cases ho : tm_isObj (h b) (tm_oc m2) with
  | true =>
    have e1 : tm_in tm_G (tm_cd tm_G (tm_dp m - 1)) m (.invokevirtual k) 3 pc ls st h = tm_go 3 pc ls rest (tm_cd tm_G (tm_dp m - 1) m2 (.ref b :: (st.take (tm_np m2)).reverse) h) := by
      simp only [tm_in, hm2, hs]
      rw [if_pos ⟨hk, hm, ho⟩]
    rw [ev_in hd rfl e1, ev_cal hm, ev_go3]
  | false =>
    have e1 : tm_in tm_G (tm_cd tm_G (tm_dp m - 1)) m (.invokevirtual k) 3 pc ls st h = none := by
      simp only [tm_in, hm2, hs]
      rw [if_neg (fun z => by rw [ho] at z; cases z.2.2)]
    rw [ev_in hd rfl e1]; rfl
theorem ev_spe {k b : Nat} {m2 : tm_M} {rest : List Value} (hd : decode (tm_cc m) pc = .ok (.invokespecial k, 3)) (hm2 : tm_mth tm_G (tm_oc m) k = some m2) (hk : tm_kd m2 = 2) (hs : st.drop (tm_np m2) = .ref b :: rest) (hm : tm_may m m2 rest = true) : tE m pc ls st h = tkc m (pc + 3) ls rest true (tC m2 (.ref b :: (st.take (tm_np m2)).reverse) h) := by
  have e1 : tm_in tm_G (tm_cd tm_G (tm_dp m - 1)) m (.invokespecial k) 3 pc ls st h = tm_go 3 pc ls rest (tm_cd tm_G (tm_dp m - 1) m2 (.ref b :: (st.take (tm_np m2)).reverse) h) := by
    simp only [tm_in, hm2, hs]
    rw [if_pos ⟨hk, hm⟩]
  rw [ev_in hd rfl e1, ev_cal hm, ev_go3]
theorem ev_bin {r : tm_R} {rest : List Value} (hd : decode (tm_cc m) pc = .ok (i, 3)) (hk : tm_kind i = 4) (hp : tm_in tm_G (tm_cd tm_G (tm_dp m - 1)) m i 3 pc ls st h = tm_go 3 pc ls rest (some r)) : tE m pc ls st h = tE m (pc + 3) ls (r.2.toList ++ rest) r.1 := by
  rw [ev_in hd hk hp, ev_go3]; rfl
theorem tC_eq {as : List Value} (hd : 0 < tm_dp m) (ha : tm_args m as = true) (hm : tm_mc m = 0) : tC m as h = tE m 0 (tm_ent (tm_mx m) as) [] h := by
  unfold tC tE
  rw [tm_call_eq tm_G hd ha]
  unfold tm_fin
  split
  · rename_i e; exact e.symm
  · rename_i e; rw [if_pos hm]; exact e.symm
theorem tC_eqM {as : List Value} (hd : 0 < tm_dp m) (ha : tm_args m as = true) : tC m as h = tm_fin m h (tE m 0 (tm_ent (tm_mx m) as) [] h) := by
  unfold tC tE
  rw [tm_call_eq tm_G hd ha]
end EV
