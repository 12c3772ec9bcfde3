/-! MAKERS: what a new object is made of -/
def mkH (h : tm_H) (m o K : Nat) (obj : va_E) (F : Nat → va_E) (c s : Nat) : tm_H := fun k => if k = 0 then tm_bk (m + K) c s else if k = o then obj else if m < k ∧ k ≤ m + K then F (k - m) else h k
def updF (F : Nat → va_E) (j : Nat) (e : va_E) : Nat → va_E := fun i => if i = j then e else F i
def joinF (F : Nat → va_E) (j : Nat) (e : va_E) (G : Nat → va_E) : Nat → va_E := fun i => if i = j then e else if j < i then G (i - j) else F i
def nilF : Nat → va_E := fun _ => .inl (0, 0, .inl (fun _ => 0))
section MK
variable {h : tm_H} {m o K c s : Nat} {obj : va_E} {F : Nat → va_E}
theorem mk_0 : mkH h m o K obj F c s 0 = tm_bk (m + K) c s := by unfold mkH; rw [if_pos rfl]
theorem mk_sz : tm_sz (mkH h m o K obj F c s) = m + K := by unfold tm_sz; rw [mk_0]; rfl
theorem mk_sz1 : tm_sz (mkH h m o K obj F c s) + 1 = m + (K + 1) := by rw [mk_sz]; rfl
theorem mk_o (h1 : o ≠ 0) : mkH h m o K obj F c s o = obj := by unfold mkH; rw [if_neg h1, if_pos rfl]
theorem mk_kc : tm_kc (mkH h m o K obj F c s) = c := by unfold tm_kc; rw [mk_0]; rfl
theorem mk_ks : tm_ks (mkH h m o K obj F c s) = s := by unfold tm_ks; rw [mk_0]; rfl
theorem mk_new (h2 : o ≤ m) {e : va_E} {n : Nat} : tm_new (mkH h m o K obj F c s) e n = mkH h m o (K + 1) obj (updF F (K + 1) e) (c + 1) (s + n) := by
  unfold tm_new
  rw [mk_sz, mk_kc, mk_ks]
  funext k
  unfold tm_up mkH updF
  by_cases a : k = m + K + 1
  · subst a
    rw [if_pos rfl, if_neg (by omega), if_neg (by omega), if_pos (by omega), if_pos (by omega)]
  · rw [if_neg a]
    by_cases b : k = 0
    · subst b; rw [if_pos rfl, if_pos rfl]; rfl
    · rw [if_neg b, if_neg b, if_neg b]
      by_cases d : k = o
      · rw [if_pos d, if_pos d]
      · rw [if_neg d, if_neg d]
        by_cases e : m < k ∧ k ≤ m + K
        · rw [if_pos e, if_pos (by omega), if_neg (by omega)]
        · rw [if_neg e, if_neg (by omega)]
theorem mk_pf (h1 : o ≠ 0) {ci j : Nat} {v : Value} {obj' : va_E} (e : tm_ps obj ci j v = some obj') : tm_pf (mkH h m o K obj F c s) o ci j v = some (mkH h m o K obj' F c s) := by
  rw [tm_pf_eq, mk_o h1, e, Option.map_some]
  congr 1
  funext k
  unfold tm_up mkH
  by_cases d : k = o
  · rw [if_pos d, if_neg (by omega), if_pos d]
  · rw [if_neg d, if_neg d, if_neg d]
theorem mk_start (h0 : h 0 = tm_bk m c s) (hO : h o = obj) : h = mkH h m o 0 obj nilF c s := by
  funext k
  unfold mkH
  by_cases a : k = 0
  · rw [if_pos a, a]; exact h0
  · rw [if_neg a]
    by_cases b : k = o
    · rw [if_pos b, b]; exact hO
    · rw [if_neg b, if_neg (by omega)]
theorem mk_at (h2 : o ≤ m) {i : Nat} (hi : 1 ≤ i) (hK : i ≤ K) : mkH h m o K obj F c s (m + i) = F i := by
  unfold mkH
  rw [if_neg (by omega), if_neg (by omega), if_pos (by omega), show m + i - m = i by omega]
theorem mk_join (h1 : o ≠ 0) (h2 : o ≤ m) {K' c' s' : Nat} {obj' : va_E} {G : Nat → va_E} : mkH (mkH h m o (K + 1) obj F c s) (m + (K + 1)) (m + (K + 1)) K' obj' G c' s' = mkH h m o (K + 1 + K') obj (joinF F (K + 1) obj' G) c' s' := by
  funext k
  unfold mkH joinF
  by_cases a : k = 0
  · rw [if_pos a, if_pos a, Nat.add_assoc]
  · rw [if_neg a, if_neg a, if_neg a]
    by_cases b : k = m + (K + 1)
    · rw [if_pos b, if_neg (by omega), if_pos (by omega), if_pos (by omega)]
    · rw [if_neg b]
      by_cases d : k = o
      · rw [if_neg (by omega), if_pos d, if_pos d]
      · rw [if_neg d, if_neg d]
        by_cases e : m + (K + 1) < k ∧ k ≤ m + (K + 1) + K'
        · rw [if_pos e, if_pos (by omega), if_neg (by omega), if_pos (by omega), show k - m - (K + 1) = k - (m + (K + 1)) by omega]
        · rw [if_neg e]
          by_cases f : m < k ∧ k ≤ m + (K + 1)
          · rw [if_pos f, if_pos (by omega), if_neg (by omega), if_neg (by omega)]
          · rw [if_neg f, if_neg (by omega)]
theorem mk_fin {M : tm_M} {v : Option Value} {c0 s0 : Nat} (h0 : h 0 = tm_bk m c0 s0) (hm : tm_mc M ≠ 0) (hc : c ≤ c0 + tm_mc M) (hs : s ≤ s0 + tm_ms M) : tm_fin M h (some (mkH h m o K obj F c s, v)) = some (mkH h m o K obj F (c0 + tm_mc M) (s0 + tm_ms M), v) := by
  unfold tm_fin
  have e1 : tm_kc h = c0 := by unfold tm_kc; rw [h0]; rfl
  have e2 : tm_ks h = s0 := by unfold tm_ks; rw [h0]; rfl
  show (if tm_mc M = 0 then _ else if tm_kc (mkH h m o K obj F c s) ≤ tm_kc h + tm_mc M ∧ tm_ks (mkH h m o K obj F c s) ≤ tm_ks h + tm_ms M then _ else none) = _
  rw [if_neg hm, mk_kc, mk_ks, mk_sz, e1, e2, if_pos ⟨hc, hs⟩]
  congr 2
  funext k
  unfold tm_up mkH
  by_cases a : k = 0
  · rw [if_pos a, if_pos a]
  · rw [if_neg a, if_neg a, if_neg a]
theorem ctor_5 {h : tm_H} {m o c s : Nat} {a b : Int32} {p q : Nat} (ha : a = nI p) (hb : b = nI q) (hpq : p * q ≤ 40) (h0 : h 0 = tm_bk m c s) (hO : h o = .inr (5, tm_dflt 5)) (h1 : o ≠ 0) (h2 : o ≤ m) : tC mX5_init [.ref o, .int a, .int b] h = some (mkH h m o 1 (.inr (5, [.int a, .int b, .ref (m + 1), .int 0])) (updF nilF 1 (aI (p * q) (fun _ => 0))) (c + 1) (s + 40), none) := by
  have e : a * b = nI (p * q) := by rw [ha, hb, nI_mul]
  have e1 : ¬ a * b < 0 := by rw [e]; exact nI_pos (by omega)
  have e2 : (a * b).toNatClampNeg = p * q := by rw [e]; exact nI_clamp (by omega)
  have E : tE mX5_init 0 [.ref o, .int a, .int b] [] (mkH h m o 0 (.inr (5, tm_dflt 5)) nilF c s) = some (mkH h m o 1 (.inr (5, [.int a, .int b, .ref (m + 1), .int 0])) (updF nilF 1 (aI (p * q) (fun _ => 0))) (c + 1) (s + p * q), none) := by
    rw [bX5_init_0, mk_pf h1 (obj' := .inr (5, [.int a, .int 0, .null, .int 0])) rfl, tk0_some, bX5_init_9, mk_pf h1 (obj' := .inr (5, [.int a, .int b, .null, .int 0])) rfl, tk0_some, bX5_init_14 e1 (by rw [e2]; omega), mk_sz1, e2, mk_new h2]
    simp only [Nat.reduceAdd]
    rw [bX5_init_20, mk_pf h1 (obj' := .inr (5, [.int a, .int b, .ref (m + 1), .int 0])) rfl, tk0_some, bX5_init_23]
  rw [← mk_start h0 hO] at E
  rw [cX5_init_, E, mk_fin h0 (by decide) (by show c + 1 ≤ c + 1; omega) (by show s + p * q ≤ s + 40; omega)]
end MK
abbrev obj_7 (m : Nat) : va_E := .inr (7, [.ref (m + 1), .int 0, .int 0, .int 0, .int 0])
def F_7 (m : Nat) : Nat → va_E := (updF nilF 1 (.inl (1, 0, .inl (fun _ => 0))))
theorem ctor_7 {h : tm_H} {m o c s : Nat} (h0 : h 0 = tm_bk m c s) (hO : h o = .inr (7, tm_dflt 7)) (h1 : o ≠ 0) (h2 : o ≤ m) : tC mX7_init [.ref o] h = some (mkH h m o 1 (obj_7 m) (F_7 m) (c + 1) (s + 0), none) := by
  have E : tE mX7_init 0 [.ref o] [] (mkH h m o 0 (.inr (7, tm_dflt 7)) nilF c s) = some (mkH h m o 1 (obj_7 m) (F_7 m) (c + 1) (s + 0), none) := by
    rw [bX7_init_0, mk_sz1, mk_new h2]
    simp only [Nat.reduceAdd]
    rw [bX7_init_8, mk_pf h1 (obj' := .inr (7, [.ref (m + 1), .int 0, .int 0, .int 0, .int 0])) rfl, tk0_some, bX7_init_11]
    rfl
  rw [← mk_start h0 hO] at E
  rw [cX7_init_, E, mk_fin h0 (by decide) (by show c + 1 ≤ c + 1; omega) (by show s + 0 ≤ s + 0; omega)]
abbrev obj_3 (m : Nat) : va_E := .inr (3, [.ref (m + 1), .ref (m + 3), .ref (m + 5), .ref (m + 7), .ref (m + 9), .ref (m + 11), .ref (m + 13), .int 0, .int 0])
def F_3 (m : Nat) : Nat → va_E := (joinF (updF (joinF (updF (joinF (updF (joinF (updF (joinF (updF (joinF (updF (joinF (updF nilF 1 (.inr (5, tm_dflt 5))) 1 (.inr (5, [.int 1, .int 2, .ref (m + 1 + 1), .int 0])) (updF nilF 1 (aI (1 * 2) (fun _ => 0)))) 3 (.inr (5, tm_dflt 5))) 3 (.inr (5, [.int 1, .int 5, .ref (m + 3 + 1), .int 0])) (updF nilF 1 (aI (1 * 5) (fun _ => 0)))) 5 (.inr (5, tm_dflt 5))) 5 (.inr (5, [.int 5, .int 3, .ref (m + 5 + 1), .int 0])) (updF nilF 1 (aI (5 * 3) (fun _ => 0)))) 7 (.inr (5, tm_dflt 5))) 7 (.inr (5, [.int 6, .int 3, .ref (m + 7 + 1), .int 0])) (updF nilF 1 (aI (6 * 3) (fun _ => 0)))) 9 (.inr (5, tm_dflt 5))) 9 (.inr (5, [.int 6, .int 2, .ref (m + 9 + 1), .int 0])) (updF nilF 1 (aI (6 * 2) (fun _ => 0)))) 11 (.inr (5, tm_dflt 5))) 11 (.inr (5, [.int 6, .int 2, .ref (m + 11 + 1), .int 0])) (updF nilF 1 (aI (6 * 2) (fun _ => 0)))) 13 (.inr (5, tm_dflt 5))) 13 (.inr (5, [.int 5, .int 8, .ref (m + 13 + 1), .int 0])) (updF nilF 1 (aI (5 * 8) (fun _ => 0))))
theorem ctor_3 {h : tm_H} {m o c s : Nat} (h0 : h 0 = tm_bk m c s) (hO : h o = .inr (3, tm_dflt 3)) (h1 : o ≠ 0) (h2 : o ≤ m) : tC mX3_init [.ref o] h = some (mkH h m o 14 (obj_3 m) (F_3 m) (c + 14) (s + 308), none) := by
  have E : tE mX3_init 0 [.ref o] [] (mkH h m o 0 (.inr (3, tm_dflt 3)) nilF c s) = some (mkH h m o 14 (obj_3 m) (F_3 m) (c + 1 + 1 + 1 + 1 + 1 + 1 + 1 + 1 + 1 + 1 + 1 + 1 + 1 + 1) (s + 4 + 40 + 4 + 40 + 4 + 40 + 4 + 40 + 4 + 40 + 4 + 40 + 4 + 40), none) := by
    rw [bX3_init_0, mk_sz1, mk_new h2]
    simp only [Nat.reduceAdd]
    rw [bX3_init_8, ctor_5 (a := 1) (b := 2) (p := 1) (q := 2) rfl rfl (by decide) mk_0 (mk_at h2 (by decide) (by decide)) (by omega) (Nat.le_refl _), tkc_none]
    rw [mk_join (K := 0) h1 h2]
    simp only [Nat.reduceAdd]
    rw [bX3_init_14, mk_pf h1 (obj' := .inr (3, [.ref (m + 1), .null, .null, .null, .null, .null, .null, .int 0, .int 0])) rfl, tk0_some, bX3_init_17, mk_sz1, mk_new h2]
    simp only [Nat.reduceAdd]
    rw [bX3_init_21, ctor_5 (a := 1) (b := 5) (p := 1) (q := 5) rfl rfl (by decide) mk_0 (mk_at h2 (by decide) (by decide)) (by omega) (Nat.le_refl _), tkc_none]
    rw [mk_join (K := 2) h1 h2]
    simp only [Nat.reduceAdd]
    rw [bX3_init_27, mk_pf h1 (obj' := .inr (3, [.ref (m + 1), .ref (m + 3), .null, .null, .null, .null, .null, .int 0, .int 0])) rfl, tk0_some, bX3_init_30, mk_sz1, mk_new h2]
    simp only [Nat.reduceAdd]
    rw [bX3_init_34, ctor_5 (a := 5) (b := 3) (p := 5) (q := 3) rfl rfl (by decide) mk_0 (mk_at h2 (by decide) (by decide)) (by omega) (Nat.le_refl _), tkc_none]
    rw [mk_join (K := 4) h1 h2]
    simp only [Nat.reduceAdd]
    rw [bX3_init_40, mk_pf h1 (obj' := .inr (3, [.ref (m + 1), .ref (m + 3), .ref (m + 5), .null, .null, .null, .null, .int 0, .int 0])) rfl, tk0_some, bX3_init_43, mk_sz1, mk_new h2]
    simp only [Nat.reduceAdd]
    rw [bX3_init_47, ctor_5 (a := 6) (b := 3) (p := 6) (q := 3) rfl rfl (by decide) mk_0 (mk_at h2 (by decide) (by decide)) (by omega) (Nat.le_refl _), tkc_none]
    rw [mk_join (K := 6) h1 h2]
    simp only [Nat.reduceAdd]
    rw [bX3_init_54, mk_pf h1 (obj' := .inr (3, [.ref (m + 1), .ref (m + 3), .ref (m + 5), .ref (m + 7), .null, .null, .null, .int 0, .int 0])) rfl, tk0_some, bX3_init_57, mk_sz1, mk_new h2]
    simp only [Nat.reduceAdd]
    rw [bX3_init_61, ctor_5 (a := 6) (b := 2) (p := 6) (q := 2) rfl rfl (by decide) mk_0 (mk_at h2 (by decide) (by decide)) (by omega) (Nat.le_refl _), tkc_none]
    rw [mk_join (K := 8) h1 h2]
    simp only [Nat.reduceAdd]
    rw [bX3_init_68, mk_pf h1 (obj' := .inr (3, [.ref (m + 1), .ref (m + 3), .ref (m + 5), .ref (m + 7), .ref (m + 9), .null, .null, .int 0, .int 0])) rfl, tk0_some, bX3_init_71, mk_sz1, mk_new h2]
    simp only [Nat.reduceAdd]
    rw [bX3_init_75, ctor_5 (a := 6) (b := 2) (p := 6) (q := 2) rfl rfl (by decide) mk_0 (mk_at h2 (by decide) (by decide)) (by omega) (Nat.le_refl _), tkc_none]
    rw [mk_join (K := 10) h1 h2]
    simp only [Nat.reduceAdd]
    rw [bX3_init_82, mk_pf h1 (obj' := .inr (3, [.ref (m + 1), .ref (m + 3), .ref (m + 5), .ref (m + 7), .ref (m + 9), .ref (m + 11), .null, .int 0, .int 0])) rfl, tk0_some, bX3_init_85, mk_sz1, mk_new h2]
    simp only [Nat.reduceAdd]
    rw [bX3_init_89, ctor_5 (a := 5) (b := 8) (p := 5) (q := 8) rfl rfl (by decide) mk_0 (mk_at h2 (by decide) (by decide)) (by omega) (Nat.le_refl _), tkc_none]
    rw [mk_join (K := 12) h1 h2]
    simp only [Nat.reduceAdd]
    rw [bX3_init_96, mk_pf h1 (obj' := .inr (3, [.ref (m + 1), .ref (m + 3), .ref (m + 5), .ref (m + 7), .ref (m + 9), .ref (m + 11), .ref (m + 13), .int 0, .int 0])) rfl, tk0_some, bX3_init_99]
    rfl
  rw [← mk_start h0 hO] at E
  rw [cX3_init_, E, mk_fin h0 (by decide) (by show c + 1 + 1 + 1 + 1 + 1 + 1 + 1 + 1 + 1 + 1 + 1 + 1 + 1 + 1 ≤ c + 14; omega) (by show s + 4 + 40 + 4 + 40 + 4 + 40 + 4 + 40 + 4 + 40 + 4 + 40 + 4 + 40 ≤ s + 308; omega)]
abbrev obj_4 (m q : Nat) : va_E := .inr (4, [.ref (m + 1), .ref (m + 2), .ref (m + 3), .ref (m + 4), .ref (m + 5), .ref (m + 6), .ref (m + 7), .ref (m + 8), .ref (m + 9), .ref (m + 10), .ref q, .int 0, .int 0, .int 0, .int 0, .int 0, .int 0, .int (-1)])
def F_4 (m q : Nat) : Nat → va_E := (updF (updF (updF (updF (updF (updF (updF (updF (updF (updF nilF 1 (.inl (0, 40, .inl (fun _ => 0)))) 2 (.inl (0, 40, .inl (fun _ => 0)))) 3 (.inl (0, 40, .inl (fun _ => 0)))) 4 (.inl (0, 40, .inl (fun _ => 0)))) 5 (.inl (0, 40, .inl (fun _ => 0)))) 6 (.inl (0, 40, .inl (fun _ => 0)))) 7 (.inl (0, 40, .inl (fun _ => 0)))) 8 (.inl (0, 40, .inl (fun _ => 0)))) 9 (.inl (0, 40, .inl (fun _ => 0)))) 10 (.inl (0, 40, .inl (fun _ => 0))))
theorem ctor_4 {h : tm_H} {m o c s q : Nat} (h0 : h 0 = tm_bk m c s) (hO : h o = .inr (4, tm_dflt 4)) (h1 : o ≠ 0) (h2 : o ≤ m) : tC mX4_init [.ref o, .ref q] h = some (mkH h m o 10 (obj_4 m q) (F_4 m q) (c + 10) (s + 400), none) := by
  have E : tE mX4_init 0 [.ref o, .ref q] [] (mkH h m o 0 (.inr (4, tm_dflt 4)) nilF c s) = some (mkH h m o 10 (obj_4 m q) (F_4 m q) (c + 1 + 1 + 1 + 1 + 1 + 1 + 1 + 1 + 1 + 1) (s + 40 + 40 + 40 + 40 + 40 + 40 + 40 + 40 + 40 + 40), none) := by
    rw [bX4_init_0, mk_sz1, mk_new h2]
    simp only [Nat.reduceAdd]
    rw [bX4_init_9, mk_pf h1 (obj' := .inr (4, [.ref (m + 1), .null, .null, .null, .null, .null, .null, .null, .null, .null, .null, .int 0, .int 0, .int 0, .int 0, .int 0, .int 0, .int 0])) rfl, tk0_some, bX4_init_12, mk_sz1, mk_new h2]
    simp only [Nat.reduceAdd]
    rw [bX4_init_17, mk_pf h1 (obj' := .inr (4, [.ref (m + 1), .ref (m + 2), .null, .null, .null, .null, .null, .null, .null, .null, .null, .int 0, .int 0, .int 0, .int 0, .int 0, .int 0, .int 0])) rfl, tk0_some, bX4_init_20, mk_sz1, mk_new h2]
    simp only [Nat.reduceAdd]
    rw [bX4_init_25, mk_pf h1 (obj' := .inr (4, [.ref (m + 1), .ref (m + 2), .ref (m + 3), .null, .null, .null, .null, .null, .null, .null, .null, .int 0, .int 0, .int 0, .int 0, .int 0, .int 0, .int 0])) rfl, tk0_some, bX4_init_28, mk_sz1, mk_new h2]
    simp only [Nat.reduceAdd]
    rw [bX4_init_33, mk_pf h1 (obj' := .inr (4, [.ref (m + 1), .ref (m + 2), .ref (m + 3), .ref (m + 4), .null, .null, .null, .null, .null, .null, .null, .int 0, .int 0, .int 0, .int 0, .int 0, .int 0, .int 0])) rfl, tk0_some, bX4_init_36, mk_sz1, mk_new h2]
    simp only [Nat.reduceAdd]
    rw [bX4_init_41, mk_pf h1 (obj' := .inr (4, [.ref (m + 1), .ref (m + 2), .ref (m + 3), .ref (m + 4), .ref (m + 5), .null, .null, .null, .null, .null, .null, .int 0, .int 0, .int 0, .int 0, .int 0, .int 0, .int 0])) rfl, tk0_some, bX4_init_44, mk_sz1, mk_new h2]
    simp only [Nat.reduceAdd]
    rw [bX4_init_49, mk_pf h1 (obj' := .inr (4, [.ref (m + 1), .ref (m + 2), .ref (m + 3), .ref (m + 4), .ref (m + 5), .ref (m + 6), .null, .null, .null, .null, .null, .int 0, .int 0, .int 0, .int 0, .int 0, .int 0, .int 0])) rfl, tk0_some, bX4_init_52, mk_sz1, mk_new h2]
    simp only [Nat.reduceAdd]
    rw [bX4_init_57, mk_pf h1 (obj' := .inr (4, [.ref (m + 1), .ref (m + 2), .ref (m + 3), .ref (m + 4), .ref (m + 5), .ref (m + 6), .ref (m + 7), .null, .null, .null, .null, .int 0, .int 0, .int 0, .int 0, .int 0, .int 0, .int 0])) rfl, tk0_some, bX4_init_60, mk_sz1, mk_new h2]
    simp only [Nat.reduceAdd]
    rw [bX4_init_65, mk_pf h1 (obj' := .inr (4, [.ref (m + 1), .ref (m + 2), .ref (m + 3), .ref (m + 4), .ref (m + 5), .ref (m + 6), .ref (m + 7), .ref (m + 8), .null, .null, .null, .int 0, .int 0, .int 0, .int 0, .int 0, .int 0, .int 0])) rfl, tk0_some, bX4_init_68, mk_sz1, mk_new h2]
    simp only [Nat.reduceAdd]
    rw [bX4_init_73, mk_pf h1 (obj' := .inr (4, [.ref (m + 1), .ref (m + 2), .ref (m + 3), .ref (m + 4), .ref (m + 5), .ref (m + 6), .ref (m + 7), .ref (m + 8), .ref (m + 9), .null, .null, .int 0, .int 0, .int 0, .int 0, .int 0, .int 0, .int 0])) rfl, tk0_some, bX4_init_76, mk_sz1, mk_new h2]
    simp only [Nat.reduceAdd]
    rw [bX4_init_81, mk_pf h1 (obj' := .inr (4, [.ref (m + 1), .ref (m + 2), .ref (m + 3), .ref (m + 4), .ref (m + 5), .ref (m + 6), .ref (m + 7), .ref (m + 8), .ref (m + 9), .ref (m + 10), .null, .int 0, .int 0, .int 0, .int 0, .int 0, .int 0, .int 0])) rfl, tk0_some, bX4_init_84, mk_pf h1 (obj' := .inr (4, [.ref (m + 1), .ref (m + 2), .ref (m + 3), .ref (m + 4), .ref (m + 5), .ref (m + 6), .ref (m + 7), .ref (m + 8), .ref (m + 9), .ref (m + 10), .null, .int 0, .int 0, .int 0, .int 0, .int 0, .int 0, .int (-1)])) rfl, tk0_some, bX4_init_89, mk_pf h1 (obj' := .inr (4, [.ref (m + 1), .ref (m + 2), .ref (m + 3), .ref (m + 4), .ref (m + 5), .ref (m + 6), .ref (m + 7), .ref (m + 8), .ref (m + 9), .ref (m + 10), .ref q, .int 0, .int 0, .int 0, .int 0, .int 0, .int 0, .int (-1)])) rfl, tk0_some, bX4_init_94]
    rfl
  rw [← mk_start h0 hO] at E
  rw [cX4_init_, E, mk_fin h0 (by decide) (by show c + 1 + 1 + 1 + 1 + 1 + 1 + 1 + 1 + 1 + 1 ≤ c + 10; omega) (by show s + 40 + 40 + 40 + 40 + 40 + 40 + 40 + 40 + 40 + 40 ≤ s + 400; omega)]
abbrev obj_6 (m q : Nat) : va_E := .inr (6, [.ref (m + 1), .ref (m + 3), .ref (m + 4), .int 0, .ref q, .int 0, .int 0])
def F_6 (m q : Nat) : Nat → va_E := (updF (updF (joinF (updF nilF 1 (.inr (7, tm_dflt 7))) 1 (obj_7 (m + 1)) (F_7 (m + 1))) 3 (.inl (2, 22, .inr (.inl (fun _ => 0))))) 4 (.inl (0, 22, .inl (fun _ => 0))))
theorem ctor_6 {h : tm_H} {m o c s q : Nat} (h0 : h 0 = tm_bk m c s) (hO : h o = .inr (6, tm_dflt 6)) (h1 : o ≠ 0) (h2 : o ≤ m) : tC mX6_init [.ref o, .ref q] h = some (mkH h m o 4 (obj_6 m q) (F_6 m q) (c + 4) (s + 49), none) := by
  have E : tE mX6_init 0 [.ref o, .ref q] [] (mkH h m o 0 (.inr (6, tm_dflt 6)) nilF c s) = some (mkH h m o 4 (obj_6 m q) (F_6 m q) (c + 1 + 1 + 1 + 1) (s + 5 + 0 + 22 + 22), none) := by
    rw [bX6_init_0, mk_sz1, mk_new h2]
    simp only [Nat.reduceAdd]
    rw [bX6_init_8, ctor_7 mk_0 (mk_at h2 (by decide) (by decide)) (by omega) (Nat.le_refl _), tkc_none]
    rw [mk_join (K := 0) h1 h2]
    simp only [Nat.reduceAdd]
    rw [bX6_init_12, mk_pf h1 (obj' := .inr (6, [.ref (m + 1), .null, .null, .int 0, .null, .int 0, .int 0])) rfl, tk0_some, bX6_init_15, mk_sz1, mk_new h2]
    simp only [Nat.reduceAdd]
    rw [bX6_init_20, mk_pf h1 (obj' := .inr (6, [.ref (m + 1), .ref (m + 3), .null, .int 0, .null, .int 0, .int 0])) rfl, tk0_some, bX6_init_23, mk_sz1, mk_new h2]
    simp only [Nat.reduceAdd]
    rw [bX6_init_28, mk_pf h1 (obj' := .inr (6, [.ref (m + 1), .ref (m + 3), .ref (m + 4), .int 0, .null, .int 0, .int 0])) rfl, tk0_some, bX6_init_31, mk_pf h1 (obj' := .inr (6, [.ref (m + 1), .ref (m + 3), .ref (m + 4), .int 0, .ref q, .int 0, .int 0])) rfl, tk0_some, bX6_init_36]
    rfl
  rw [← mk_start h0 hO] at E
  rw [cX6_init_, E, mk_fin h0 (by decide) (by show c + 1 + 1 + 1 + 1 ≤ c + 4; omega) (by show s + 5 + 0 + 22 + 22 ≤ s + 49; omega)]
abbrev obj_0 (m q : Nat) : va_E := .inr (0, [.ref (m + 1), .int 0, .int 0, .int 0])
def F_0 (m q : Nat) : Nat → va_E := (joinF (updF nilF 1 (.inr (4, tm_dflt 4))) 1 (obj_4 (m + 1) q) (F_4 (m + 1) q))
theorem ctor_0 {h : tm_H} {m o c s q : Nat} (h0 : h 0 = tm_bk m c s) (hO : h o = .inr (0, tm_dflt 0)) (h1 : o ≠ 0) (h2 : o ≤ m) : tC mX0_init [.ref o, .ref q] h = some (mkH h m o 11 (obj_0 m q) (F_0 m q) (c + 11) (s + 418), none) := by
  have E : tE mX0_init 0 [.ref o, .ref q] [] (mkH h m o 0 (.inr (0, tm_dflt 0)) nilF c s) = some (mkH h m o 11 (obj_0 m q) (F_0 m q) (c + 1 + 10) (s + 18 + 400), none) := by
    rw [bX0_init_0, mk_sz1, mk_new h2]
    simp only [Nat.reduceAdd]
    rw [bX0_init_8, ctor_4 mk_0 (mk_at h2 (by decide) (by decide)) (by omega) (Nat.le_refl _), tkc_none]
    rw [mk_join (K := 0) h1 h2]
    simp only [Nat.reduceAdd]
    rw [bX0_init_13, mk_pf h1 (obj' := .inr (0, [.ref (m + 1), .int 0, .int 0, .int 0])) rfl, tk0_some, bX0_init_16]
    rfl
  rw [← mk_start h0 hO] at E
  rw [cX0_init_, E, mk_fin h0 (by decide) (by show c + 1 + 10 ≤ c + 11; omega) (by show s + 18 + 400 ≤ s + 418; omega)]
abbrev obj_8 (m q : Nat) : va_E := .inr (8, [.ref (m + 2), .ref (m + 1), .ref q])
def F_8 (m q : Nat) : Nat → va_E := (joinF (updF (updF nilF 1 (.inl (0, 5, .inl (fun _ => 0)))) 2 (.inr (4, tm_dflt 4))) 2 (obj_4 (m + 2) q) (F_4 (m + 2) q))
theorem ctor_8 {h : tm_H} {m o c s q : Nat} (h0 : h 0 = tm_bk m c s) (hO : h o = .inr (8, tm_dflt 8)) (h1 : o ≠ 0) (h2 : o ≤ m) : tC mX8_init [.ref o, .ref q] h = some (mkH h m o 12 (obj_8 m q) (F_8 m q) (c + 12) (s + 423), none) := by
  have E : tE mX8_init 0 [.ref o, .ref q] [] (mkH h m o 0 (.inr (8, tm_dflt 8)) nilF c s) = some (mkH h m o 12 (obj_8 m q) (F_8 m q) (c + 1 + 1 + 10) (s + 5 + 18 + 400), none) := by
    rw [bX8_init_0, mk_sz1, mk_new h2]
    simp only [Nat.reduceAdd]
    rw [bX8_init_8, mk_pf h1 (obj' := .inr (8, [.null, .ref (m + 1), .null])) rfl, tk0_some, bX8_init_11, mk_sz1, mk_new h2]
    simp only [Nat.reduceAdd]
    rw [bX8_init_15, ctor_4 mk_0 (mk_at h2 (by decide) (by decide)) (by omega) (Nat.le_refl _), tkc_none]
    rw [mk_join (K := 1) h1 h2]
    simp only [Nat.reduceAdd]
    rw [bX8_init_20, mk_pf h1 (obj' := .inr (8, [.ref (m + 2), .ref (m + 1), .null])) rfl, tk0_some, bX8_init_23, mk_pf h1 (obj' := .inr (8, [.ref (m + 2), .ref (m + 1), .ref q])) rfl, tk0_some, bX8_init_28]
    rfl
  rw [← mk_start h0 hO] at E
  rw [cX8_init_, E, mk_fin h0 (by decide) (by show c + 1 + 1 + 10 ≤ c + 12; omega) (by show s + 5 + 18 + 400 ≤ s + 423; omega)]
abbrev obj_1 (m : Nat) : va_E := .inr (1, [.ref (m + 1), .ref (m + 2), .int 0])
def F_1 (m : Nat) : Nat → va_E := (updF (updF nilF 1 (.inl (0, 8, .inl (fun _ => 0)))) 2 (.inl (0, 8, .inl (fun _ => 0))))
theorem ctor_1 {h : tm_H} {m o c s : Nat} (h0 : h 0 = tm_bk m c s) (hO : h o = .inr (1, tm_dflt 1)) (h1 : o ≠ 0) (h2 : o ≤ m) : tC mX1_init [.ref o] h = some (mkH h m o 2 (obj_1 m) (F_1 m) (c + 2) (s + 16), none) := by
  have E : tE mX1_init 0 [.ref o] [] (mkH h m o 0 (.inr (1, tm_dflt 1)) nilF c s) = some (mkH h m o 2 (obj_1 m) (F_1 m) (c + 1 + 1) (s + 8 + 8), none) := by
    rw [bX1_init_0, mk_sz1, mk_new h2]
    simp only [Nat.reduceAdd]
    rw [bX1_init_9, mk_pf h1 (obj' := .inr (1, [.ref (m + 1), .null, .int 0])) rfl, tk0_some, bX1_init_12, mk_sz1, mk_new h2]
    simp only [Nat.reduceAdd]
    rw [bX1_init_17, mk_pf h1 (obj' := .inr (1, [.ref (m + 1), .ref (m + 2), .int 0])) rfl, tk0_some, bX1_init_20]
    rfl
  rw [← mk_start h0 hO] at E
  rw [cX1_init_, E, mk_fin h0 (by decide) (by show c + 1 + 1 ≤ c + 2; omega) (by show s + 8 + 8 ≤ s + 16; omega)]
abbrev obj_2 (m : Nat) : va_E := .inr (2, [.ref (m + 1), .ref (m + 2), .ref (m + 3), .int 0])
def F_2 (m : Nat) : Nat → va_E := (updF (updF (updF nilF 1 (.inl (0, 60, .inl (fun _ => 0)))) 2 (.inl (0, 20, .inl (fun _ => 0)))) 3 (.inl (0, 6, .inl (fun _ => 0))))
theorem ctor_2 {h : tm_H} {m o c s : Nat} (h0 : h 0 = tm_bk m c s) (hO : h o = .inr (2, tm_dflt 2)) (h1 : o ≠ 0) (h2 : o ≤ m) : tC mX2_init [.ref o] h = some (mkH h m o 3 (obj_2 m) (F_2 m) (c + 3) (s + 86), none) := by
  have E : tE mX2_init 0 [.ref o] [] (mkH h m o 0 (.inr (2, tm_dflt 2)) nilF c s) = some (mkH h m o 3 (obj_2 m) (F_2 m) (c + 1 + 1 + 1) (s + 60 + 20 + 6), none) := by
    rw [bX2_init_0, mk_sz1, mk_new h2]
    simp only [Nat.reduceAdd]
    rw [bX2_init_9, mk_pf h1 (obj' := .inr (2, [.ref (m + 1), .null, .null, .int 0])) rfl, tk0_some, bX2_init_12, mk_sz1, mk_new h2]
    simp only [Nat.reduceAdd]
    rw [bX2_init_17, mk_pf h1 (obj' := .inr (2, [.ref (m + 1), .ref (m + 2), .null, .int 0])) rfl, tk0_some, bX2_init_20, mk_sz1, mk_new h2]
    simp only [Nat.reduceAdd]
    rw [bX2_init_25, mk_pf h1 (obj' := .inr (2, [.ref (m + 1), .ref (m + 2), .ref (m + 3), .int 0])) rfl, tk0_some, bX2_init_28]
    rfl
  rw [← mk_start h0 hO] at E
  rw [cX2_init_, E, mk_fin h0 (by decide) (by show c + 1 + 1 + 1 ≤ c + 3; omega) (by show s + 60 + 20 + 6 ≤ s + 86; omega)]
abbrev obj_9 (m : Nat) : va_E := .inr (9, [.ref (m + 1), .ref (m + 2), .ref (m + 5), .ref (m + 9), .ref (m + 24), .ref (m + 39), .ref (m + 44), .ref (m + 56), .int 0, .int 0, .int 0, .int 0])
def F_9 (m : Nat) : Nat → va_E := (joinF (updF (joinF (updF (joinF (updF (joinF (updF (joinF (updF (joinF (updF (joinF (updF (updF nilF 1 (.inl (1, 700, .inl (fun _ => 0)))) 2 (.inr (1, tm_dflt 1))) 2 (obj_1 (m + 2)) (F_1 (m + 2))) 5 (.inr (2, tm_dflt 2))) 5 (obj_2 (m + 5)) (F_2 (m + 5))) 9 (.inr (3, tm_dflt 3))) 9 (obj_3 (m + 9)) (F_3 (m + 9))) 24 (.inr (3, tm_dflt 3))) 24 (obj_3 (m + 24)) (F_3 (m + 24))) 39 (.inr (6, tm_dflt 6))) 39 (obj_6 (m + 39) (m + 24)) (F_6 (m + 39) (m + 24))) 44 (.inr (0, tm_dflt 0))) 44 (obj_0 (m + 44) (m + 9)) (F_0 (m + 44) (m + 9))) 56 (.inr (8, tm_dflt 8))) 56 (obj_8 (m + 56) (m + 9)) (F_8 (m + 56) (m + 9)))
theorem ctor_9 {h : tm_H} {m o c s : Nat} (h0 : h 0 = tm_bk m c s) (hO : h o = .inr (9, tm_dflt 9)) (h1 : o ≠ 0) (h2 : o ≤ m) : tC mX9_init [.ref o] h = some (mkH h m o 68 (obj_9 m) (F_9 m) (c + 68) (s + 2347), none) := by
  have E : tE mX9_init 0 [.ref o] [] (mkH h m o 0 (.inr (9, tm_dflt 9)) nilF c s) = some (mkH h m o 68 (obj_9 m) (F_9 m) (c + 1 + 1 + 2 + 1 + 3 + 1 + 14 + 1 + 14 + 1 + 4 + 1 + 11 + 1 + 12) (s + 700 + 3 + 16 + 4 + 86 + 9 + 308 + 9 + 308 + 7 + 49 + 4 + 418 + 3 + 423), none) := by
    rw [bX9_init_0, mk_sz1, mk_new h2]
    simp only [Nat.reduceAdd]
    rw [bX9_init_10, mk_pf h1 (obj' := .inr (9, [.ref (m + 1), .null, .null, .null, .null, .null, .null, .null, .int 0, .int 0, .int 0, .int 0])) rfl, tk0_some, bX9_init_13, mk_sz1, mk_new h2]
    simp only [Nat.reduceAdd]
    rw [bX9_init_17, ctor_1 mk_0 (mk_at h2 (by decide) (by decide)) (by omega) (Nat.le_refl _), tkc_none]
    rw [mk_join (K := 1) h1 h2]
    simp only [Nat.reduceAdd]
    rw [bX9_init_21, mk_pf h1 (obj' := .inr (9, [.ref (m + 1), .ref (m + 2), .null, .null, .null, .null, .null, .null, .int 0, .int 0, .int 0, .int 0])) rfl, tk0_some, bX9_init_24, mk_sz1, mk_new h2]
    simp only [Nat.reduceAdd]
    rw [bX9_init_28, ctor_2 mk_0 (mk_at h2 (by decide) (by decide)) (by omega) (Nat.le_refl _), tkc_none]
    rw [mk_join (K := 4) h1 h2]
    simp only [Nat.reduceAdd]
    rw [bX9_init_32, mk_pf h1 (obj' := .inr (9, [.ref (m + 1), .ref (m + 2), .ref (m + 5), .null, .null, .null, .null, .null, .int 0, .int 0, .int 0, .int 0])) rfl, tk0_some, bX9_init_35, mk_sz1, mk_new h2]
    simp only [Nat.reduceAdd]
    rw [bX9_init_39, ctor_3 mk_0 (mk_at h2 (by decide) (by decide)) (by omega) (Nat.le_refl _), tkc_none]
    rw [mk_join (K := 8) h1 h2]
    simp only [Nat.reduceAdd]
    rw [bX9_init_43, mk_pf h1 (obj' := .inr (9, [.ref (m + 1), .ref (m + 2), .ref (m + 5), .ref (m + 9), .null, .null, .null, .null, .int 0, .int 0, .int 0, .int 0])) rfl, tk0_some, bX9_init_46, mk_sz1, mk_new h2]
    simp only [Nat.reduceAdd]
    rw [bX9_init_50, ctor_3 mk_0 (mk_at h2 (by decide) (by decide)) (by omega) (Nat.le_refl _), tkc_none]
    rw [mk_join (K := 23) h1 h2]
    simp only [Nat.reduceAdd]
    rw [bX9_init_54, mk_pf h1 (obj' := .inr (9, [.ref (m + 1), .ref (m + 2), .ref (m + 5), .ref (m + 9), .ref (m + 24), .null, .null, .null, .int 0, .int 0, .int 0, .int 0])) rfl, tk0_some, bX9_init_57, mk_sz1, mk_new h2]
    simp only [Nat.reduceAdd]
    rw [bX9_init_61, mk_o h1, gf_9_4, tk1_some, bX9_init_66, ctor_6 mk_0 (mk_at h2 (by decide) (by decide)) (by omega) (Nat.le_refl _), tkc_none]
    rw [mk_join (K := 38) h1 h2]
    simp only [Nat.reduceAdd]
    rw [bX9_init_69, mk_pf h1 (obj' := .inr (9, [.ref (m + 1), .ref (m + 2), .ref (m + 5), .ref (m + 9), .ref (m + 24), .ref (m + 39), .null, .null, .int 0, .int 0, .int 0, .int 0])) rfl, tk0_some, bX9_init_72, mk_sz1, mk_new h2]
    simp only [Nat.reduceAdd]
    rw [bX9_init_76, mk_o h1, gf_9_3, tk1_some, bX9_init_81, ctor_0 mk_0 (mk_at h2 (by decide) (by decide)) (by omega) (Nat.le_refl _), tkc_none]
    rw [mk_join (K := 43) h1 h2]
    simp only [Nat.reduceAdd]
    rw [bX9_init_84, mk_pf h1 (obj' := .inr (9, [.ref (m + 1), .ref (m + 2), .ref (m + 5), .ref (m + 9), .ref (m + 24), .ref (m + 39), .ref (m + 44), .null, .int 0, .int 0, .int 0, .int 0])) rfl, tk0_some, bX9_init_87, mk_sz1, mk_new h2]
    simp only [Nat.reduceAdd]
    rw [bX9_init_91, mk_o h1, gf_9_3, tk1_some, bX9_init_96, ctor_8 mk_0 (mk_at h2 (by decide) (by decide)) (by omega) (Nat.le_refl _), tkc_none]
    rw [mk_join (K := 55) h1 h2]
    simp only [Nat.reduceAdd]
    rw [bX9_init_99, mk_pf h1 (obj' := .inr (9, [.ref (m + 1), .ref (m + 2), .ref (m + 5), .ref (m + 9), .ref (m + 24), .ref (m + 39), .ref (m + 44), .ref (m + 56), .int 0, .int 0, .int 0, .int 0])) rfl, tk0_some, bX9_init_102]
    rfl
  rw [← mk_start h0 hO] at E
  rw [cX9_init_, E, mk_fin h0 (by decide) (by show c + 1 + 1 + 2 + 1 + 3 + 1 + 14 + 1 + 14 + 1 + 4 + 1 + 11 + 1 + 12 ≤ c + 68; omega) (by show s + 700 + 3 + 16 + 4 + 86 + 9 + 308 + 9 + 308 + 7 + 49 + 4 + 418 + 3 + 423 ≤ s + 2347; omega)]
abbrev obj_10 (m : Nat) : va_E := .inr (10, [.int 0, .int 0, .int (-1), .int 0, .int 0, .int 0, .int 0, .int 0, .int 0, .int 0, .int 0, .int 0, .int 0, .ref (m + 1), .ref (m + 2), .ref (m + 3), .ref (m + 4), .ref (m + 5), .ref (m + 6), .ref (m + 7), .ref (m + 8), .ref (m + 9), .ref (m + 10), .ref (m + 11), .ref (m + 12), .ref (m + 13)])
def F_10 (m : Nat) : Nat → va_E := (updF (updF (updF (updF (updF (updF (updF (updF (updF (updF (updF (updF (updF nilF 1 (.inl (0, 5, .inl (fun _ => 0)))) 2 (.inl (0, 5, .inl (fun _ => 0)))) 3 (.inl (0, 5, .inl (fun _ => 0)))) 4 (.inl (0, 6, .inl (fun _ => 0)))) 5 (.inl (0, 6, .inl (fun _ => 0)))) 6 (.inl (0, 6, .inl (fun _ => 0)))) 7 (.inl (0, 6, .inl (fun _ => 0)))) 8 (.inl (0, 6, .inl (fun _ => 0)))) 9 (.inl (0, 6, .inl (fun _ => 0)))) 10 (.inl (0, 6, .inl (fun _ => 0)))) 11 (.inl (0, 40, .inl (fun _ => 0)))) 12 (.inl (2, 22, .inr (.inl (fun _ => 0))))) 13 (.inl (0, 22, .inl (fun _ => 0))))
theorem ctor_10 {h : tm_H} {m o c s : Nat} (h0 : h 0 = tm_bk m c s) (hO : h o = .inr (10, tm_dflt 10)) (h1 : o ≠ 0) (h2 : o ≤ m) : tC mX10_init [.ref o] h = some (mkH h m o 13 (obj_10 m) (F_10 m) (c + 13) (s + 141), none) := by
  have E : tE mX10_init 0 [.ref o] [] (mkH h m o 0 (.inr (10, tm_dflt 10)) nilF c s) = some (mkH h m o 13 (obj_10 m) (F_10 m) (c + 1 + 1 + 1 + 1 + 1 + 1 + 1 + 1 + 1 + 1 + 1 + 1 + 1) (s + 5 + 5 + 5 + 6 + 6 + 6 + 6 + 6 + 6 + 6 + 40 + 22 + 22), none) := by
    rw [bX10_init_0, mk_pf h1 (obj' := .inr (10, [.int 0, .int 0, .int (-1), .int 0, .int 0, .int 0, .int 0, .int 0, .int 0, .int 0, .int 0, .int 0, .int 0, .null, .null, .null, .null, .null, .null, .null, .null, .null, .null, .null, .null, .null])) rfl, tk0_some, bX10_init_9, mk_sz1, mk_new h2]
    simp only [Nat.reduceAdd]
    rw [bX10_init_13, mk_pf h1 (obj' := .inr (10, [.int 0, .int 0, .int (-1), .int 0, .int 0, .int 0, .int 0, .int 0, .int 0, .int 0, .int 0, .int 0, .int 0, .ref (m + 1), .null, .null, .null, .null, .null, .null, .null, .null, .null, .null, .null, .null])) rfl, tk0_some, bX10_init_16, mk_sz1, mk_new h2]
    simp only [Nat.reduceAdd]
    rw [bX10_init_20, mk_pf h1 (obj' := .inr (10, [.int 0, .int 0, .int (-1), .int 0, .int 0, .int 0, .int 0, .int 0, .int 0, .int 0, .int 0, .int 0, .int 0, .ref (m + 1), .ref (m + 2), .null, .null, .null, .null, .null, .null, .null, .null, .null, .null, .null])) rfl, tk0_some, bX10_init_23, mk_sz1, mk_new h2]
    simp only [Nat.reduceAdd]
    rw [bX10_init_27, mk_pf h1 (obj' := .inr (10, [.int 0, .int 0, .int (-1), .int 0, .int 0, .int 0, .int 0, .int 0, .int 0, .int 0, .int 0, .int 0, .int 0, .ref (m + 1), .ref (m + 2), .ref (m + 3), .null, .null, .null, .null, .null, .null, .null, .null, .null, .null])) rfl, tk0_some, bX10_init_30, mk_sz1, mk_new h2]
    simp only [Nat.reduceAdd]
    rw [bX10_init_35, mk_pf h1 (obj' := .inr (10, [.int 0, .int 0, .int (-1), .int 0, .int 0, .int 0, .int 0, .int 0, .int 0, .int 0, .int 0, .int 0, .int 0, .ref (m + 1), .ref (m + 2), .ref (m + 3), .ref (m + 4), .null, .null, .null, .null, .null, .null, .null, .null, .null])) rfl, tk0_some, bX10_init_38, mk_sz1, mk_new h2]
    simp only [Nat.reduceAdd]
    rw [bX10_init_43, mk_pf h1 (obj' := .inr (10, [.int 0, .int 0, .int (-1), .int 0, .int 0, .int 0, .int 0, .int 0, .int 0, .int 0, .int 0, .int 0, .int 0, .ref (m + 1), .ref (m + 2), .ref (m + 3), .ref (m + 4), .ref (m + 5), .null, .null, .null, .null, .null, .null, .null, .null])) rfl, tk0_some, bX10_init_46, mk_sz1, mk_new h2]
    simp only [Nat.reduceAdd]
    rw [bX10_init_51, mk_pf h1 (obj' := .inr (10, [.int 0, .int 0, .int (-1), .int 0, .int 0, .int 0, .int 0, .int 0, .int 0, .int 0, .int 0, .int 0, .int 0, .ref (m + 1), .ref (m + 2), .ref (m + 3), .ref (m + 4), .ref (m + 5), .ref (m + 6), .null, .null, .null, .null, .null, .null, .null])) rfl, tk0_some, bX10_init_54, mk_sz1, mk_new h2]
    simp only [Nat.reduceAdd]
    rw [bX10_init_59, mk_pf h1 (obj' := .inr (10, [.int 0, .int 0, .int (-1), .int 0, .int 0, .int 0, .int 0, .int 0, .int 0, .int 0, .int 0, .int 0, .int 0, .ref (m + 1), .ref (m + 2), .ref (m + 3), .ref (m + 4), .ref (m + 5), .ref (m + 6), .ref (m + 7), .null, .null, .null, .null, .null, .null])) rfl, tk0_some, bX10_init_62, mk_sz1, mk_new h2]
    simp only [Nat.reduceAdd]
    rw [bX10_init_67, mk_pf h1 (obj' := .inr (10, [.int 0, .int 0, .int (-1), .int 0, .int 0, .int 0, .int 0, .int 0, .int 0, .int 0, .int 0, .int 0, .int 0, .ref (m + 1), .ref (m + 2), .ref (m + 3), .ref (m + 4), .ref (m + 5), .ref (m + 6), .ref (m + 7), .ref (m + 8), .null, .null, .null, .null, .null])) rfl, tk0_some, bX10_init_70, mk_sz1, mk_new h2]
    simp only [Nat.reduceAdd]
    rw [bX10_init_75, mk_pf h1 (obj' := .inr (10, [.int 0, .int 0, .int (-1), .int 0, .int 0, .int 0, .int 0, .int 0, .int 0, .int 0, .int 0, .int 0, .int 0, .ref (m + 1), .ref (m + 2), .ref (m + 3), .ref (m + 4), .ref (m + 5), .ref (m + 6), .ref (m + 7), .ref (m + 8), .ref (m + 9), .null, .null, .null, .null])) rfl, tk0_some, bX10_init_78, mk_sz1, mk_new h2]
    simp only [Nat.reduceAdd]
    rw [bX10_init_83, mk_pf h1 (obj' := .inr (10, [.int 0, .int 0, .int (-1), .int 0, .int 0, .int 0, .int 0, .int 0, .int 0, .int 0, .int 0, .int 0, .int 0, .ref (m + 1), .ref (m + 2), .ref (m + 3), .ref (m + 4), .ref (m + 5), .ref (m + 6), .ref (m + 7), .ref (m + 8), .ref (m + 9), .ref (m + 10), .null, .null, .null])) rfl, tk0_some, bX10_init_86, mk_sz1, mk_new h2]
    simp only [Nat.reduceAdd]
    rw [bX10_init_91, mk_pf h1 (obj' := .inr (10, [.int 0, .int 0, .int (-1), .int 0, .int 0, .int 0, .int 0, .int 0, .int 0, .int 0, .int 0, .int 0, .int 0, .ref (m + 1), .ref (m + 2), .ref (m + 3), .ref (m + 4), .ref (m + 5), .ref (m + 6), .ref (m + 7), .ref (m + 8), .ref (m + 9), .ref (m + 10), .ref (m + 11), .null, .null])) rfl, tk0_some, bX10_init_94, mk_sz1, mk_new h2]
    simp only [Nat.reduceAdd]
    rw [bX10_init_99, mk_pf h1 (obj' := .inr (10, [.int 0, .int 0, .int (-1), .int 0, .int 0, .int 0, .int 0, .int 0, .int 0, .int 0, .int 0, .int 0, .int 0, .ref (m + 1), .ref (m + 2), .ref (m + 3), .ref (m + 4), .ref (m + 5), .ref (m + 6), .ref (m + 7), .ref (m + 8), .ref (m + 9), .ref (m + 10), .ref (m + 11), .ref (m + 12), .null])) rfl, tk0_some, bX10_init_102, mk_sz1, mk_new h2]
    simp only [Nat.reduceAdd]
    rw [bX10_init_107, mk_pf h1 (obj' := .inr (10, [.int 0, .int 0, .int (-1), .int 0, .int 0, .int 0, .int 0, .int 0, .int 0, .int 0, .int 0, .int 0, .int 0, .ref (m + 1), .ref (m + 2), .ref (m + 3), .ref (m + 4), .ref (m + 5), .ref (m + 6), .ref (m + 7), .ref (m + 8), .ref (m + 9), .ref (m + 10), .ref (m + 11), .ref (m + 12), .ref (m + 13)])) rfl, tk0_some, bX10_init_110]
    rfl
  rw [← mk_start h0 hO] at E
  rw [cX10_init_, E, mk_fin h0 (by decide) (by show c + 1 + 1 + 1 + 1 + 1 + 1 + 1 + 1 + 1 + 1 + 1 + 1 + 1 ≤ c + 13; omega) (by show s + 5 + 5 + 5 + 6 + 6 + 6 + 6 + 6 + 6 + 6 + 40 + 22 + 22 ≤ s + 141; omega)]
abbrev obj_11 (m : Nat) : va_E := .inr (11, [.int 0, .int 0, .int (-1), .null, .null, .ref (m + 1), .int 0, .int 0, .int 0, .int 0, .int 0, .int 0, .int 0, .int 0, .int 0, .long 0, .ref (m + 2), .ref (m + 3), .ref (m + 4), .ref (m + 5), .ref (m + 6), .int 0, .int 0, .int (-1), .int 0, .int 0, .int 0, .ref (m + 7), .ref (m + 8), .ref (m + 9), .ref (m + 10), .ref (m + 11), .ref (m + 12), .int 0, .ref (m + 13)])
def F_11 (m : Nat) : Nat → va_E := (updF (updF (updF (updF (updF (updF (updF (updF (updF (updF (updF (updF (updF nilF 1 (.inl (1, 700, .inl (fun _ => 0)))) 2 (.inl (0, 40, .inl (fun _ => 0)))) 3 (.inl (0, 40, .inl (fun _ => 0)))) 4 (.inl (0, 40, .inl (fun _ => 0)))) 5 (.inl (0, 40, .inl (fun _ => 0)))) 6 (.inl (0, 40, .inl (fun _ => 0)))) 7 (.inl (0, 40, .inl (fun _ => 0)))) 8 (.inl (0, 5, .inl (fun _ => 0)))) 9 (.inl (0, 5, .inl (fun _ => 0)))) 10 (.inl (0, 5, .inl (fun _ => 0)))) 11 (.inl (0, 9, .inl (fun _ => 0)))) 12 (.inl (0, 9, .inl (fun _ => 0)))) 13 (.inl (0, 80, .inl (fun _ => 0))))
theorem ctor_11 {h : tm_H} {m o c s : Nat} (h0 : h 0 = tm_bk m c s) (hO : h o = .inr (11, tm_dflt 11)) (h1 : o ≠ 0) (h2 : o ≤ m) : tC mX11_init [.ref o] h = some (mkH h m o 13 (obj_11 m) (F_11 m) (c + 13) (s + 1053), none) := by
  have E : tE mX11_init 0 [.ref o] [] (mkH h m o 0 (.inr (11, tm_dflt 11)) nilF c s) = some (mkH h m o 13 (obj_11 m) (F_11 m) (c + 1 + 1 + 1 + 1 + 1 + 1 + 1 + 1 + 1 + 1 + 1 + 1 + 1) (s + 700 + 40 + 40 + 40 + 40 + 40 + 40 + 5 + 5 + 5 + 9 + 9 + 80), none) := by
    rw [bX11_init_0, mk_pf h1 (obj' := .inr (11, [.int 0, .int 0, .int (-1), .null, .null, .null, .int 0, .int 0, .int 0, .int 0, .int 0, .int 0, .int 0, .int 0, .int 0, .long 0, .null, .null, .null, .null, .null, .int 0, .int 0, .int 0, .int 0, .int 0, .int 0, .null, .null, .null, .null, .null, .null, .int 0, .null])) rfl, tk0_some, bX11_init_9, mk_sz1, mk_new h2]
    simp only [Nat.reduceAdd]
    rw [bX11_init_15, mk_pf h1 (obj' := .inr (11, [.int 0, .int 0, .int (-1), .null, .null, .ref (m + 1), .int 0, .int 0, .int 0, .int 0, .int 0, .int 0, .int 0, .int 0, .int 0, .long 0, .null, .null, .null, .null, .null, .int 0, .int 0, .int 0, .int 0, .int 0, .int 0, .null, .null, .null, .null, .null, .null, .int 0, .null])) rfl, tk0_some, bX11_init_18, mk_sz1, mk_new h2]
    simp only [Nat.reduceAdd]
    rw [bX11_init_23, mk_pf h1 (obj' := .inr (11, [.int 0, .int 0, .int (-1), .null, .null, .ref (m + 1), .int 0, .int 0, .int 0, .int 0, .int 0, .int 0, .int 0, .int 0, .int 0, .long 0, .ref (m + 2), .null, .null, .null, .null, .int 0, .int 0, .int 0, .int 0, .int 0, .int 0, .null, .null, .null, .null, .null, .null, .int 0, .null])) rfl, tk0_some, bX11_init_26, mk_sz1, mk_new h2]
    simp only [Nat.reduceAdd]
    rw [bX11_init_31, mk_pf h1 (obj' := .inr (11, [.int 0, .int 0, .int (-1), .null, .null, .ref (m + 1), .int 0, .int 0, .int 0, .int 0, .int 0, .int 0, .int 0, .int 0, .int 0, .long 0, .ref (m + 2), .ref (m + 3), .null, .null, .null, .int 0, .int 0, .int 0, .int 0, .int 0, .int 0, .null, .null, .null, .null, .null, .null, .int 0, .null])) rfl, tk0_some, bX11_init_34, mk_sz1, mk_new h2]
    simp only [Nat.reduceAdd]
    rw [bX11_init_39, mk_pf h1 (obj' := .inr (11, [.int 0, .int 0, .int (-1), .null, .null, .ref (m + 1), .int 0, .int 0, .int 0, .int 0, .int 0, .int 0, .int 0, .int 0, .int 0, .long 0, .ref (m + 2), .ref (m + 3), .ref (m + 4), .null, .null, .int 0, .int 0, .int 0, .int 0, .int 0, .int 0, .null, .null, .null, .null, .null, .null, .int 0, .null])) rfl, tk0_some, bX11_init_42, mk_sz1, mk_new h2]
    simp only [Nat.reduceAdd]
    rw [bX11_init_47, mk_pf h1 (obj' := .inr (11, [.int 0, .int 0, .int (-1), .null, .null, .ref (m + 1), .int 0, .int 0, .int 0, .int 0, .int 0, .int 0, .int 0, .int 0, .int 0, .long 0, .ref (m + 2), .ref (m + 3), .ref (m + 4), .ref (m + 5), .null, .int 0, .int 0, .int 0, .int 0, .int 0, .int 0, .null, .null, .null, .null, .null, .null, .int 0, .null])) rfl, tk0_some, bX11_init_50, mk_sz1, mk_new h2]
    simp only [Nat.reduceAdd]
    rw [bX11_init_55, mk_pf h1 (obj' := .inr (11, [.int 0, .int 0, .int (-1), .null, .null, .ref (m + 1), .int 0, .int 0, .int 0, .int 0, .int 0, .int 0, .int 0, .int 0, .int 0, .long 0, .ref (m + 2), .ref (m + 3), .ref (m + 4), .ref (m + 5), .ref (m + 6), .int 0, .int 0, .int 0, .int 0, .int 0, .int 0, .null, .null, .null, .null, .null, .null, .int 0, .null])) rfl, tk0_some, bX11_init_58, mk_pf h1 (obj' := .inr (11, [.int 0, .int 0, .int (-1), .null, .null, .ref (m + 1), .int 0, .int 0, .int 0, .int 0, .int 0, .int 0, .int 0, .int 0, .int 0, .long 0, .ref (m + 2), .ref (m + 3), .ref (m + 4), .ref (m + 5), .ref (m + 6), .int 0, .int 0, .int (-1), .int 0, .int 0, .int 0, .null, .null, .null, .null, .null, .null, .int 0, .null])) rfl, tk0_some, bX11_init_63, mk_sz1, mk_new h2]
    simp only [Nat.reduceAdd]
    rw [bX11_init_68, mk_pf h1 (obj' := .inr (11, [.int 0, .int 0, .int (-1), .null, .null, .ref (m + 1), .int 0, .int 0, .int 0, .int 0, .int 0, .int 0, .int 0, .int 0, .int 0, .long 0, .ref (m + 2), .ref (m + 3), .ref (m + 4), .ref (m + 5), .ref (m + 6), .int 0, .int 0, .int (-1), .int 0, .int 0, .int 0, .ref (m + 7), .null, .null, .null, .null, .null, .int 0, .null])) rfl, tk0_some, bX11_init_71, mk_sz1, mk_new h2]
    simp only [Nat.reduceAdd]
    rw [bX11_init_75, mk_pf h1 (obj' := .inr (11, [.int 0, .int 0, .int (-1), .null, .null, .ref (m + 1), .int 0, .int 0, .int 0, .int 0, .int 0, .int 0, .int 0, .int 0, .int 0, .long 0, .ref (m + 2), .ref (m + 3), .ref (m + 4), .ref (m + 5), .ref (m + 6), .int 0, .int 0, .int (-1), .int 0, .int 0, .int 0, .ref (m + 7), .ref (m + 8), .null, .null, .null, .null, .int 0, .null])) rfl, tk0_some, bX11_init_78, mk_sz1, mk_new h2]
    simp only [Nat.reduceAdd]
    rw [bX11_init_82, mk_pf h1 (obj' := .inr (11, [.int 0, .int 0, .int (-1), .null, .null, .ref (m + 1), .int 0, .int 0, .int 0, .int 0, .int 0, .int 0, .int 0, .int 0, .int 0, .long 0, .ref (m + 2), .ref (m + 3), .ref (m + 4), .ref (m + 5), .ref (m + 6), .int 0, .int 0, .int (-1), .int 0, .int 0, .int 0, .ref (m + 7), .ref (m + 8), .ref (m + 9), .null, .null, .null, .int 0, .null])) rfl, tk0_some, bX11_init_85, mk_sz1, mk_new h2]
    simp only [Nat.reduceAdd]
    rw [bX11_init_89, mk_pf h1 (obj' := .inr (11, [.int 0, .int 0, .int (-1), .null, .null, .ref (m + 1), .int 0, .int 0, .int 0, .int 0, .int 0, .int 0, .int 0, .int 0, .int 0, .long 0, .ref (m + 2), .ref (m + 3), .ref (m + 4), .ref (m + 5), .ref (m + 6), .int 0, .int 0, .int (-1), .int 0, .int 0, .int 0, .ref (m + 7), .ref (m + 8), .ref (m + 9), .ref (m + 10), .null, .null, .int 0, .null])) rfl, tk0_some, bX11_init_92, mk_sz1, mk_new h2]
    simp only [Nat.reduceAdd]
    rw [bX11_init_97, mk_pf h1 (obj' := .inr (11, [.int 0, .int 0, .int (-1), .null, .null, .ref (m + 1), .int 0, .int 0, .int 0, .int 0, .int 0, .int 0, .int 0, .int 0, .int 0, .long 0, .ref (m + 2), .ref (m + 3), .ref (m + 4), .ref (m + 5), .ref (m + 6), .int 0, .int 0, .int (-1), .int 0, .int 0, .int 0, .ref (m + 7), .ref (m + 8), .ref (m + 9), .ref (m + 10), .ref (m + 11), .null, .int 0, .null])) rfl, tk0_some, bX11_init_100, mk_sz1, mk_new h2]
    simp only [Nat.reduceAdd]
    rw [bX11_init_105, mk_pf h1 (obj' := .inr (11, [.int 0, .int 0, .int (-1), .null, .null, .ref (m + 1), .int 0, .int 0, .int 0, .int 0, .int 0, .int 0, .int 0, .int 0, .int 0, .long 0, .ref (m + 2), .ref (m + 3), .ref (m + 4), .ref (m + 5), .ref (m + 6), .int 0, .int 0, .int (-1), .int 0, .int 0, .int 0, .ref (m + 7), .ref (m + 8), .ref (m + 9), .ref (m + 10), .ref (m + 11), .ref (m + 12), .int 0, .null])) rfl, tk0_some, bX11_init_108, mk_sz1, mk_new h2]
    simp only [Nat.reduceAdd]
    rw [bX11_init_113, mk_pf h1 (obj' := .inr (11, [.int 0, .int 0, .int (-1), .null, .null, .ref (m + 1), .int 0, .int 0, .int 0, .int 0, .int 0, .int 0, .int 0, .int 0, .int 0, .long 0, .ref (m + 2), .ref (m + 3), .ref (m + 4), .ref (m + 5), .ref (m + 6), .int 0, .int 0, .int (-1), .int 0, .int 0, .int 0, .ref (m + 7), .ref (m + 8), .ref (m + 9), .ref (m + 10), .ref (m + 11), .ref (m + 12), .int 0, .ref (m + 13)])) rfl, tk0_some, bX11_init_116]
    rfl
  rw [← mk_start h0 hO] at E
  rw [cX11_init_, E, mk_fin h0 (by decide) (by show c + 1 + 1 + 1 + 1 + 1 + 1 + 1 + 1 + 1 + 1 + 1 + 1 + 1 ≤ c + 13; omega) (by show s + 700 + 40 + 40 + 40 + 40 + 40 + 40 + 5 + 5 + 5 + 9 + 9 + 80 ≤ s + 1053; omega)]
