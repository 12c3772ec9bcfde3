/-! STEPS OF METHODS, as equations: ends, builtins, makings -/
/-- a boolean as the JVM has it -/
def bI (b : Bool) : Int32 := if b then 1 else 0
def tm_rb (x : Int32) (h : tm_H) : Option tm_R := if narrow .boolean (.int x) = .int x then some (h, some (.int x)) else none
theorem tm_rb0 (h : tm_H) : tm_rb 0 h = some (h, some (.int 0)) := rfl
theorem tm_rb1 (h : tm_H) : tm_rb 1 h = some (h, some (.int 1)) := rfl
theorem tm_rbb (b : Bool) (h : tm_H) : tm_rb (bI b) h = some (h, some (.int (bI b))) := by cases b <;> rfl
def tm_cp (h : tm_H) (a0 a : Nat) (sp dp n2 : Int32) : Option tm_H := match h a0, h a with
  | .inl (0, n0, .inl f), .inl (0, n1, .inl g) => if sp < 0 ∨ dp < 0 ∨ n2 < 0 ∨ n0 < sp.toNatClampNeg + n2.toNatClampNeg ∨ n1 < dp.toNatClampNeg + n2.toNatClampNeg then none else some (tm_up h a (.inl (0, n1, .inl (va_cpy f g sp.toNatClampNeg dp.toNatClampNeg n2.toNatClampNeg))))
  | _, _ => none
theorem tm_fit_int (x : Int32) : tm_fit .int (.int x) = true := by simp [tm_fit, narrow, fits]
theorem tm_fit_long (x : Int64) : tm_fit .long (.long x) = true := by simp [tm_fit, narrow, fits]
theorem tm_fit_b1 : tm_fit .boolean (.int 1) = true := by decide
theorem tm_fit_or (c : String) (a : Nat) : tm_fit (.object c) (.ref a) = true := by simp [tm_fit, narrow, fits]
theorem tm_fit_on (c : String) : tm_fit (.object c) .null = true := by simp [tm_fit, narrow, fits]
theorem tm_fit_ar (c : FieldType) (a : Nat) : tm_fit (.array c) (.ref a) = true := by simp [tm_fit, narrow, fits]
section EV2
variable {m : tm_M} {pc n : Nat} {ls ls' st st' : List Value} {h : tm_H} {i : Instr}
theorem ev_ri {x : Int32} (hd : decode (tm_cc m) pc = .ok (.ireturn, 1)) (hr : tm_rt m = some .int) : tE m pc ls [.int x] h = some (h, some (.int x)) := ev_en hd rfl (by
  unfold tm_en; rw [hr]; simp [narrow])
theorem ev_rb {x : Int32} (hd : decode (tm_cc m) pc = .ok (.ireturn, 1)) (hr : tm_rt m = some .boolean) : tE m pc ls [.int x] h = tm_rb x h := by
  rw [tE_st]; unfold tm_st; simp only [hd, tm_kind, tm_en, hr, ↓reduceIte, tm_rb]
  split <;> rename_i e <;> split at e <;> first | (cases e; done) | skip
  all_goals simp_all
theorem ev_rl {x : Int64} (hd : decode (tm_cc m) pc = .ok (.lreturn, 1)) (hr : tm_rt m = some .long) : tE m pc ls [.long x] h = some (h, some (.long x)) := ev_en hd rfl (by
  unfold tm_en; rw [hr]; simp)
theorem ev_ra {x : Nat} {c : String} (hd : decode (tm_cc m) pc = .ok (.areturn, 1)) (hr : tm_rt m = some (.object c)) : tE m pc ls [.ref x] h = some (h, some (.ref x)) := ev_en hd rfl (by
  unfold tm_en; rw [hr]; simp)
theorem ev_rv (hd : decode (tm_cc m) pc = .ok (.return_, 1)) (hr : tm_rt m = none) : tE m pc ls [] h = some (h, none) := ev_en hd rfl (by
  unfold tm_en; rw [hr]; simp)
theorem ev_obj {k a : Nat} (hd : decode (tm_cc m) pc = .ok (.invokespecial k, 3)) (hm2 : tm_mth tm_G (tm_oc m) k = none) (hb : tm_bin tm_G (tm_oc m) k = some 3) (h1 : st.length ≤ 4) (h2 : 1 ≤ tm_dp m) (h3 : 20 ≤ tm_lo m) : tE m pc ls (.ref a :: st) h = tE m (pc + 3) ls st h :=
  ev_bin (r := (h, none)) (rest := st) hd rfl (by simp only [tm_in, hm2, hb]; rw [if_neg (by omega)])
theorem ev_len {k j : Nat} (hj : j < 42) (hd : decode (tm_cc m) pc = .ok (.invokevirtual k, 3)) (hm2 : tm_mth tm_G (tm_oc m) k = none) (hb : tm_bin tm_G (tm_oc m) k = some 0) (h1 : st.length ≤ 4) (h2 : 2 ≤ tm_dp m) (h3 : 40 ≤ tm_lo m) : tE m pc ls (.retAddr j :: st) h = tE m (pc + 3) ls (.int (Int32.ofNat (tm_text j).length) :: st) h :=
  ev_bin (r := (h, some (.int (Int32.ofNat (tm_text j).length)))) (rest := st) hd rfl (by simp only [tm_in, hm2, hb]; rw [if_neg (by omega)]; rfl)
theorem ev_chr {k j : Nat} {x : Int32} (hj : j < 42) (hx : ¬ x < 0) (hy : x.toNatClampNeg < (tm_text j).length) (hd : decode (tm_cc m) pc = .ok (.invokevirtual k, 3)) (hm2 : tm_mth tm_G (tm_oc m) k = none) (hb : tm_bin tm_G (tm_oc m) k = some 1) (h1 : st.length ≤ 4) (h2 : 4 ≤ tm_dp m) (h3 : 101 ≤ tm_lo m) : tE m pc ls (.int x :: .retAddr j :: st) h = tE m (pc + 3) ls (.int ((tm_text j).getD x.toNatClampNeg 0) :: st) h :=
  ev_bin (r := (h, some (.int ((tm_text j).getD x.toNatClampNeg 0)))) (rest := st) hd rfl (by
    simp only [tm_in, hm2, hb]
    rw [if_neg (by
      intro z
      have e : tm_tx tm_G j = tm_text j := rfl
      rw [e] at z
      rcases z with z | z | z | z | z | z
      · omega
      · omega
      · omega
      · omega
      · exact hx z
      · omega)]
    rfl)
theorem ev_max {k : Nat} {x y : Int32} (hd : decode (tm_cc m) pc = .ok (.invokestatic k, 3)) (hm2 : tm_mth tm_G (tm_oc m) k = none) (hb : tm_bin tm_G (tm_oc m) k = some 4) (h1 : st.length ≤ 4) (h2 : 1 ≤ tm_dp m) (h3 : 21 ≤ tm_lo m) : tE m pc ls (.int y :: .int x :: st) h = tE m (pc + 3) ls (.int (if x < y then y else x) :: st) h :=
  ev_bin (r := (h, some (.int (if x < y then y else x)))) (rest := st) hd rfl (by simp only [tm_in, hm2, hb]; rw [if_neg (by omega)])
theorem ev_min {k : Nat} {x y : Int32} (hd : decode (tm_cc m) pc = .ok (.invokestatic k, 3)) (hm2 : tm_mth tm_G (tm_oc m) k = none) (hb : tm_bin tm_G (tm_oc m) k = some 5) (h1 : st.length ≤ 4) (h2 : 1 ≤ tm_dp m) (h3 : 21 ≤ tm_lo m) : tE m pc ls (.int y :: .int x :: st) h = tE m (pc + 3) ls (.int (if y < x then y else x) :: st) h :=
  ev_bin (r := (h, some (.int (if y < x then y else x)))) (rest := st) hd rfl (by simp only [tm_in, hm2, hb]; rw [if_neg (by omega)])
theorem ev_abs {k : Nat} {x : Int32} (hd : decode (tm_cc m) pc = .ok (.invokestatic k, 3)) (hm2 : tm_mth tm_G (tm_oc m) k = none) (hb : tm_bin tm_G (tm_oc m) k = some 6) (h1 : st.length ≤ 4) (h2 : 1 ≤ tm_dp m) (h3 : 21 ≤ tm_lo m) : tE m pc ls (.int x :: st) h = tE m (pc + 3) ls (.int (if 0 ≤ x then x else 0 - x) :: st) h :=
  ev_bin (r := (h, some (.int (if 0 ≤ x then x else 0 - x)))) (rest := st) hd rfl (by simp only [tm_in, hm2, hb]; rw [if_neg (by omega)])
theorem ev_acp {k a a0 : Nat} {n2 dp sp : Int32} (hd : decode (tm_cc m) pc = .ok (.invokestatic k, 3)) (hm2 : tm_mth tm_G (tm_oc m) k = none) (hb : tm_bin tm_G (tm_oc m) k = some 2) (h1 : st.length ≤ 4) (h2 : 1 ≤ tm_dp m) (h3 : 100 ≤ tm_lo m) : tE m pc ls (.int n2 :: .int dp :: .ref a :: .int sp :: .ref a0 :: st) h = tk0 m (pc + 3) ls st (tm_cp h a0 a sp dp n2) := by
  have e : tm_in tm_G (tm_cd tm_G (tm_dp m - 1)) m (.invokestatic k) 3 pc ls (.int n2 :: .int dp :: .ref a :: .int sp :: .ref a0 :: st) h = (match tm_cp h a0 a sp dp n2 with | some h' => tm_go 3 pc ls st (some (h', none)) | none => none) := by
    simp only [tm_in, hm2, hb, tm_cp]
    cases h a0 with
    | inr x => rfl
    | inl x =>
      cases h a with
      | inr y => obtain ⟨t, n, f⟩ := x; rcases t with _ | t <;> rcases f with f | f <;> rfl
      | inl y =>
        obtain ⟨t, n, f⟩ := x
        obtain ⟨t2, n2', g⟩ := y
        rcases t with _ | t <;> rcases f with f | f <;> rcases t2 with _ | t2 <;> rcases g with g | g <;> first | rfl | skip
        show (if sp < 0 ∨ dp < 0 ∨ n2 < 0 ∨ n < sp.toNatClampNeg + n2.toNatClampNeg ∨ n2' < dp.toNatClampNeg + n2.toNatClampNeg ∨ 4 < st.length ∨ tm_dp m < 1 ∨ tm_lo m < 100 then none else tm_go 3 pc ls st (some (tm_up h a (.inl (0, n2', .inl (va_cpy f g sp.toNatClampNeg dp.toNatClampNeg n2.toNatClampNeg))), none))) = (match (if sp < 0 ∨ dp < 0 ∨ n2 < 0 ∨ n < sp.toNatClampNeg + n2.toNatClampNeg ∨ n2' < dp.toNatClampNeg + n2.toNatClampNeg then none else some (tm_up h a (.inl (0, n2', .inl (va_cpy f g sp.toNatClampNeg dp.toNatClampNeg n2.toNatClampNeg))))) with | some h' => tm_go 3 pc ls st (some (h', none)) | none => none)
        by_cases hc : sp < 0 ∨ dp < 0 ∨ n2 < 0 ∨ n < sp.toNatClampNeg + n2.toNatClampNeg ∨ n2' < dp.toNatClampNeg + n2.toNatClampNeg
        · rw [if_pos hc, if_pos (by rcases hc with z | z | z | z | z <;> simp [z])]
        · rw [if_neg hc, if_neg (by
            intro z
            rcases z with z | z | z | z | z | z | z | z
            · exact hc (Or.inl z)
            · exact hc (Or.inr (Or.inl z))
            · exact hc (Or.inr (Or.inr (Or.inl z)))
            · exact hc (Or.inr (Or.inr (Or.inr (Or.inl z))))
            · exact hc (Or.inr (Or.inr (Or.inr (Or.inr z))))
            · omega
            · omega
            · omega)]
  rw [ev_in hd rfl e]
  cases tm_cp h a0 a sp dp n2 with
  | none => rfl
  | some h' => rfl
theorem ev_new {k ci : Nat} (hd : decode (tm_cc m) pc = .ok (.new k, 3)) (hc : tm_cls tm_G (tm_oc m) k = some ci) (hm : tm_mc m ≠ 0) : tE m pc ls st h = tE m (pc + 3) ls (.ref (tm_sz h + 1) :: st) (tm_new h (.inr (ci, tm_dflt ci)) (tm_dflt ci).length) :=
  ev_he hd rfl (by simp only [tm_he, hc]; rw [if_neg hm]; rfl)
theorem ev_nai {x : Int32} (hd : decode (tm_cc m) pc = .ok (.newarray .int, 2)) (hm : tm_mc m ≠ 0) (h0 : ¬ x < 0) (h1 : x.toNatClampNeg ≤ 1000) : tE m pc ls (.int x :: st) h = tE m (pc + 2) ls (.ref (tm_sz h + 1) :: st) (tm_new h (.inl (0, x.toNatClampNeg, .inl (fun _ => 0))) x.toNatClampNeg) :=
  ev_he hd rfl (by simp only [tm_he]; rw [if_neg (by intro z; rcases z with z | z | z; exact hm z; exact h0 z; omega)])
theorem ev_nab {x : Int32} (hd : decode (tm_cc m) pc = .ok (.newarray .byte, 2)) (hm : tm_mc m ≠ 0) (h0 : ¬ x < 0) (h1 : x.toNatClampNeg ≤ 1000) : tE m pc ls (.int x :: st) h = tE m (pc + 2) ls (.ref (tm_sz h + 1) :: st) (tm_new h (.inl (1, x.toNatClampNeg, .inl (fun _ => 0))) x.toNatClampNeg) :=
  ev_he hd rfl (by simp only [tm_he]; rw [if_neg (by intro z; rcases z with z | z | z; exact hm z; exact h0 z; omega)])
theorem ev_naj {x : Int32} (hd : decode (tm_cc m) pc = .ok (.newarray .long, 2)) (hm : tm_mc m ≠ 0) (h0 : ¬ x < 0) (h1 : x.toNatClampNeg ≤ 1000) : tE m pc ls (.int x :: st) h = tE m (pc + 2) ls (.ref (tm_sz h + 1) :: st) (tm_new h (.inl (2, x.toNatClampNeg, .inr (.inl (fun _ => 0)))) x.toNatClampNeg) :=
  ev_he hd rfl (by simp only [tm_he]; rw [if_neg (by intro z; rcases z with z | z | z; exact hm z; exact h0 z; omega)])
end EV2
