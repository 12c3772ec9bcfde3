/-! CELLS of the class: heats that flow and fall, sizes, cracks -/
def upA (A : Nat → Nat → Int32) (n : Nat) (f : Nat → Int32) : Nat → Nat → Int32 := fun m => if m = n then f else A m
def Fr (c : Nat) (h h' : tm_H) : Prop := ∀ k, (k < c ∨ c + 10 < k) → h' k = h k
theorem Fr_rf (c : Nat) (h : tm_H) : Fr c h h := fun _ _ => rfl
theorem Fr_tr {c : Nat} {h h1 h2 : tm_H} (a : Fr c h h1) (b : Fr c h1 h2) : Fr c h h2 := fun k hk => (b k hk).trans (a k hk)
theorem Fr_up {c a : Nat} {h : tm_H} {e : va_E} (h1 : c ≤ a) (h2 : a ≤ c + 10) : Fr c h (tm_up h a e) := fun k hk => tm_up_ne (by omega)
theorem BkAt_fr {h h' : tm_H} {b c : Nat} {lo hi : Int32} {cnt : Nat → Nat} {tab : Nat → Nat → Int32} (H : BkAt h b lo hi cnt tab) (F : Fr c h h') (hd : b + 14 < c ∨ c + 10 < b) : BkAt h' b lo hi cnt tab :=
  ⟨by rw [F b (by omega)]; exact H.1, fun l hl => ⟨by rw [F _ (by omega)]; exact (H.2.1 l hl).1, by rw [F _ (by omega)]; exact (H.2.1 l hl).2⟩, H.2.2⟩
section CE4
variable {h : tm_H} {c : Nat} {A : Nat → Nat → Int32} {p q bk cuts w : Nat} {sq water : Int32} {tenth turned : Nat} {crk : Int32}
theorem CAt_arr (H : CAt h c A p q bk cuts w sq water tenth turned crk) {i : Nat} (hi : i < 8) (f : Nat → Int32) : CAt (tm_up h (c + 1 + i) (aI 40 f)) c (upA A i f) p q bk cuts w sq water tenth turned crk := by
  obtain ⟨h1, h2, h3, h4, h5, h6⟩ := H
  refine ⟨by rw [tm_up_ne (by omega)]; exact h1, fun k hk => ?_, ?_, ?_, h5, h6⟩
  · unfold upA
    by_cases e : k = i
    · subst e; rw [if_pos rfl, tm_up_same]
    · rw [if_neg e, tm_up_ne (by omega)]; exact h2 k hk
  · rw [tm_up_ne (by omega), h3, show upA A i f 8 = A 8 from by unfold upA; rw [if_neg (by omega)]]
  · rw [tm_up_ne (by omega), h4, show upA A i f 9 = A 9 from by unfold upA; rw [if_neg (by omega)]]
theorem CAt_p (H : CAt h c A p q bk cuts w sq water tenth turned crk) (f : Nat → Int32) : CAt (tm_up h p (aI 40 f)) c (upA A 8 f) p q bk cuts w sq water tenth turned crk := by
  obtain ⟨h1, h2, h3, h4, h5, h6⟩ := H
  refine ⟨by rw [tm_up_ne (by omega)]; exact h1, fun k hk => ?_, ?_, ?_, h5, h6⟩
  · rw [tm_up_ne (by omega), h2 k hk, show upA A 8 f k = A k from by unfold upA; rw [if_neg (by omega)]]
  · rw [tm_up_same]; rfl
  · rw [tm_up_ne (by omega), h4]; rfl
theorem CAt_o (H : CAt h c A p q bk cuts w sq water tenth turned crk) (water' : Int32) (tenth' turned' : Nat) (crk' : Int32) : CAt (tm_up h c (cO c p q bk cuts w sq water' tenth' turned' crk')) c A p q bk cuts w sq water' tenth' turned' crk' := by
  obtain ⟨h1, h2, h3, h4, h5, h6⟩ := H
  exact ⟨tm_up_same, fun k hk => by rw [tm_up_ne (by omega)]; exact h2 k hk, by rw [tm_up_ne (by omega)]; exact h3, by rw [tm_up_ne (by omega)]; exact h4, h5, h6⟩
theorem upA_same (A : Nat → Nat → Int32) (n : Nat) (f : Nat → Int32) : upA A n f n = f := by unfold upA; rw [if_pos rfl]
theorem upA_ne (A : Nat → Nat → Int32) {n m : Nat} (f : Nat → Int32) (hm : m ≠ n) : upA A n f m = A m := by unfold upA; rw [if_neg hm]
theorem upA_up (A : Nat → Nat → Int32) (n : Nat) (f g : Nat → Int32) : upA (upA A n f) n g = upA A n g := by
  funext m; unfold upA; split <;> rfl
theorem upA_id (A : Nat → Nat → Int32) (n : Nat) : upA A n (A n) = A := by
  funext m; unfold upA; split
  · rename_i e; rw [e]
  · rfl
end CE4
def flowS (ha : Nat → Int32) (flow : Int32) (x y : Nat) : Int32 := flow * (ha y - ha x) / 100
def gainS4 (ha : Nat → Int32) (cuts w : Nat) (flow : Int32) (i j : Nat) : Int32 :=
  let x := i * 5 + j
  let s1 := if i = 0 then (0 : Int32) else 0 + flowS ha flow x (x - 5)
  let s2 := if i + 1 < cuts then s1 + flowS ha flow x (x + 5) else s1
  let s3 := if j = 0 then s2 else s2 + flowS ha flow x (x - 1)
  if j + 1 < w then s3 + flowS ha flow x (x + 1) else s3
theorem nI_sub {a b : Nat} (h : b ≤ a) : nI a - nI b = nI (a - b) := by
  have : nI (a - b) + nI b = nI a := by rw [nI_add, Nat.sub_add_cancel h]
  rw [← this]; exact Int32.add_sub_cancel _ _
theorem nI_sub5 {a : Nat} (h : 5 ≤ a) : nI a - 5 = nI (a - 5) := nI_sub h
theorem nI_sub1 {a : Nat} (h : 1 ≤ a) : nI a - 1 = nI (a - 1) := nI_sub h
theorem nI_ad5 (a : Nat) : nI a + 5 = nI (a + 5) := nI_add a 5
theorem nI_le0 {n : Nat} (h : n < 2 ^ 31) : (nI n ≤ 0) = (n = 0) := by
  apply propext
  constructor
  · intro z
    rcases Nat.eq_zero_or_pos n with e | e
    · exact e
    · exact absurd z (nI_nle e h)
  · intro z; subst z; decide
section CE5
variable {h : tm_H} {c : Nat} {A : Nat → Nat → Int32} {p q bk cuts w : Nat} {sq water : Int32} {tenth turned : Nat} {crk : Int32}
theorem gained_spec (H : CAt h c A p q bk cuts w sq water tenth turned crk) {i j : Nat} (hi : i < cuts) (hj : j < w) {flow : Int32} : tC mX4_gained [.ref c, .int (nI i), .int (nI j), .int flow] h = some (h, some (.int (gainS4 (A 9) cuts w flow i j))) := by
  have hc := ca_c H
  have hw := ca_w H
  have t0 : 40 < 2 ^ 31 := by decide
  have l1 : (nI cuts ≤ nI (i + 1)) = (¬ i + 1 < cuts) := by rw [propext (nI_leI (show cuts < 2 ^ 31 by omega) (show i + 1 < 2 ^ 31 by omega)), Nat.not_lt]
  have l2 : (nI w ≤ nI (j + 1)) = (¬ j + 1 < w) := by rw [propext (nI_leI (show w < 2 ^ 31 by omega) (show j + 1 < 2 ^ 31 by omega)), Nat.not_lt]
  have a0 : tm_ai 0 (aI 40 (A 9)) (nI (i * 5 + j)) = some (.int (A 9 (i * 5 + j))) := tm_ai_in rfl (by omega) t0
  have b1 : ¬ i = 0 → nI (i * 5 + j) - 5 = nI (i * 5 + j - 5) := fun z => nI_sub5 (by omega)
  have b1' : ¬ i = 0 → tm_ai 0 (aI 40 (A 9)) (nI (i * 5 + j - 5)) = some (.int (A 9 (i * 5 + j - 5))) := fun z => tm_ai_in rfl (by omega) t0
  have b2 : i + 1 < cuts → tm_ai 0 (aI 40 (A 9)) (nI (i * 5 + j + 5)) = some (.int (A 9 (i * 5 + j + 5))) := fun z => tm_ai_in rfl (by omega) t0
  have b3 : ¬ j = 0 → nI (i * 5 + j) - 1 = nI (i * 5 + j - 1) := fun z => nI_sub1 (by omega)
  have b3' : ¬ j = 0 → tm_ai 0 (aI 40 (A 9)) (nI (i * 5 + j - 1)) = some (.int (A 9 (i * 5 + j - 1))) := fun z => tm_ai_in rfl (by omega) t0
  have b4 : j + 1 < w → tm_ai 0 (aI 40 (A 9)) (nI (i * 5 + j + 1)) = some (.int (A 9 (i * 5 + j + 1))) := fun z => tm_ai_in rfl (by omega) t0
  have m1 := nI_le0 (show i < 2 ^ 31 by omega)
  have m2 := nI_le0 (show j < 2 ^ 31 by omega)
  unfold gainS4 flowS
  by_cases c1 : i = 0
  all_goals by_cases c2 : i + 1 < cuts
  all_goals by_cases c3 : j = 0
  all_goals by_cases c4 : j + 1 < w
  all_goals (try have q1 := b1 c1)
  all_goals (try have q1' := b1' c1)
  all_goals (try have q2 := b2 c2)
  all_goals (try have q3 := b3 c3)
  all_goals (try have q3' := b3' c3)
  all_goals (try have q4 := b4 c4)
  all_goals clear b1 b1' b2 b3 b3' b4
  all_goals (try replace c1 : (i = 0) = True := eq_true c1)
  all_goals (try replace c3 : (j = 0) = True := eq_true c3)
  all_goals simp only [cX4_gained_, bX4_gained_0, bX4_gained_11, bX4_gained_14, bX4_gained_23, bX4_gained_30, bX4_gained_35, bX4_gained_45, bX4_gained_52, bX4_gained_55, bX4_gained_62, bX4_gained_67, bX4_gained_77, bX4_gained_81, bX4_gained_88, bX4_gained_93, bX4_gained_103, bX4_gained_110, bX4_gained_113, bX4_gained_120, bX4_gained_125, bX4_gained_135, tk1_some, tk0_some, tkc_some, tkc_none, ↓reduceIte, ca_o H, gf_4_9, gf_4_11, gf_4_12, ca_q H, i5j, a0, m1, m2, nI_k1, nI_ad5, l1, l2, if_true, if_false, not_true, not_false_eq_true, *]
end CE5
