/-! A NEW HOUSE of the class -/
def S0 : SS := ((fun _ => 0, 0), (0, 0, 0), (false, fun _ => 0, fun _ _ => 0), (0, (fun _ _ => 0, 0, -1, 0, 0, 0)), (fun _ => 0, 0), (fun _ => 0, fun _ => 0, 0))
theorem PX_0 : PX S0 := ⟨by decide, by decide, by decide, fun h => (by cases h), fun _ => ⟨fun _ _ => rfl, rfl, rfl, rfl, rfl⟩, fun h => by cases h⟩
section XN
variable {h : tm_H} {c s : Nat}
theorem xn_at {i : Nat} (hi : 1 ≤ i) (hK : i ≤ 68) : mkH h 1 1 68 (obj_9 1) (F_9 1) c s (1 + i) = F_9 1 i := mk_at (by decide) hi hK
theorem xn_bk {b : Nat} (E : ∀ i, i < 15 → mkH h 1 1 68 (obj_9 1) (F_9 1) c s (b + i) = if i = 0 then obj_3 b else F_3 b i) : BkAt (mkH h 1 1 68 (obj_9 1) (F_9 1) c s) b 0 0 (fun _ => 0) (fun _ _ => 0) := by
  refine ⟨E 0 (by decide), fun l hl => ?_, fun l hl => Nat.zero_le _⟩
  rcases (show l = 0 ∨ l = 1 ∨ l = 2 ∨ l = 3 ∨ l = 4 ∨ l = 5 ∨ l = 6 by omega) with rfl | rfl | rfl | rfl | rfl | rfl | rfl
  · exact ⟨E 1 (by decide), E 2 (by decide)⟩
  · exact ⟨E 3 (by decide), E 4 (by decide)⟩
  · exact ⟨E 5 (by decide), E 6 (by decide)⟩
  · exact ⟨E 7 (by decide), E 8 (by decide)⟩
  · exact ⟨E 9 (by decide), E 10 (by decide)⟩
  · exact ⟨E 11 (by decide), E 12 (by decide)⟩
  · exact ⟨E 13 (by decide), E 14 (by decide)⟩
theorem xn_ca {c0 q : Nat} (E : ∀ i, i < 11 → mkH h 1 1 68 (obj_9 1) (F_9 1) c s (c0 + i) = if i = 0 then obj_4 c0 q else F_4 c0 q i) : CAt (mkH h 1 1 68 (obj_9 1) (F_9 1) c s) c0 (fun _ _ => 0) (c0 + 9) (c0 + 10) q 0 0 0 0 0 0 (-1) := by
  refine ⟨E 0 (by decide), fun i hi => ?_, E 9 (by decide), E 10 (by decide), Or.inl ⟨rfl, rfl⟩, by decide, by decide⟩
  rcases (show i = 0 ∨ i = 1 ∨ i = 2 ∨ i = 3 ∨ i = 4 ∨ i = 5 ∨ i = 6 ∨ i = 7 by omega) with rfl | rfl | rfl | rfl | rfl | rfl | rfl | rfl
  · exact E 1 (by decide)
  · exact E 2 (by decide)
  · exact E 3 (by decide)
  · exact E 4 (by decide)
  · exact E 5 (by decide)
  · exact E 6 (by decide)
  · exact E 7 (by decide)
  · exact E 8 (by decide)
theorem xn_inv : XInv (mkH h 1 1 68 (obj_9 1) (F_9 1) c s) S0 := by
  refine ⟨10, 25, Or.inl ⟨rfl, rfl⟩, mk_o (by decide), xn_at (i := 1) (by decide) (by decide), ⟨25, 0, 0, 0, 42, 0, 0, 0, 0, fun _ => 0, fun _ => 0, xn_at (i := 39) (by decide) (by decide), xn_at (i := 40) (by decide) (by decide), xn_at (i := 42) (by decide) (by decide), xn_at (i := 43) (by decide) (by decide), fun y => absurd y (by decide)⟩, ⟨⟨0, 0, xn_bk (fun i hi => ?_), fun y => (by cases y)⟩, 0, 0, _, _, xn_bk (fun i hi => ?_)⟩, ⟨10, 0, ⟨xn_at (i := 44) (by decide) (by decide), ⟨55, 56, xn_ca (c0 := 46) (q := 10) (fun i hi => ?_)⟩, by decide⟩, fun y => (by cases y)⟩, ⟨fun _ => 0, fun y => (by cases y), 10, 10, fun _ _ => 0, 68, 69, 0, 0, 0, 0, 0, 0, -1, xn_at (i := 56) (by decide) (by decide), xn_at (i := 57) (by decide) (by decide), xn_ca (c0 := 59) (q := 10) (fun i hi => ?_)⟩, ⟨xn_at (i := 2) (by decide) (by decide), xn_at (i := 3) (by decide) (by decide), fun _ => 0, xn_at (i := 4) (by decide) (by decide)⟩, ⟨xn_at (i := 5) (by decide) (by decide), xn_at (i := 6) (by decide) (by decide), xn_at (i := 7) (by decide) (by decide), fun _ => 0, xn_at (i := 8) (by decide) (by decide)⟩⟩
  · rw [show 10 + i = 1 + (9 + i) by omega, xn_at (by omega) (by omega)]
    rcases (show i = 0 ∨ i = 1 ∨ i = 2 ∨ i = 3 ∨ i = 4 ∨ i = 5 ∨ i = 6 ∨ i = 7 ∨ i = 8 ∨ i = 9 ∨ i = 10 ∨ i = 11 ∨ i = 12 ∨ i = 13 ∨ i = 14 by omega) with rfl | rfl | rfl | rfl | rfl | rfl | rfl | rfl | rfl | rfl | rfl | rfl | rfl | rfl | rfl <;> rfl
  · rw [show 25 + i = 1 + (24 + i) by omega, xn_at (by omega) (by omega)]
    rcases (show i = 0 ∨ i = 1 ∨ i = 2 ∨ i = 3 ∨ i = 4 ∨ i = 5 ∨ i = 6 ∨ i = 7 ∨ i = 8 ∨ i = 9 ∨ i = 10 ∨ i = 11 ∨ i = 12 ∨ i = 13 ∨ i = 14 by omega) with rfl | rfl | rfl | rfl | rfl | rfl | rfl | rfl | rfl | rfl | rfl | rfl | rfl | rfl | rfl <;> rfl
  · rw [show 46 + i = 1 + (45 + i) by omega, xn_at (by omega) (by omega)]
    rcases (show i = 0 ∨ i = 1 ∨ i = 2 ∨ i = 3 ∨ i = 4 ∨ i = 5 ∨ i = 6 ∨ i = 7 ∨ i = 8 ∨ i = 9 ∨ i = 10 by omega) with rfl | rfl | rfl | rfl | rfl | rfl | rfl | rfl | rfl | rfl | rfl <;> rfl
  · rw [show 59 + i = 1 + (58 + i) by omega, xn_at (by omega) (by omega)]
    rcases (show i = 0 ∨ i = 1 ∨ i = 2 ∨ i = 3 ∨ i = 4 ∨ i = 5 ∨ i = 6 ∨ i = 7 ∨ i = 8 ∨ i = 9 ∨ i = 10 by omega) with rfl | rfl | rfl | rfl | rfl | rfl | rfl | rfl | rfl | rfl | rfl <;> rfl
theorem x_init (h0 : h 0 = tm_bk 1 c s) (hO : h 1 = .inr (9, tm_dflt 9)) : ∃ h', tC mX9_init [.ref 1] h = some (h', none) ∧ XInv h' S0 ∧ h' 0 = tm_bk 69 (c + 68) (s + 2347) ∧ ∀ k, 69 < k → h' k = h k :=
  ⟨_, ctor_9 h0 hO (by decide) (by decide), xn_inv, mk_0, fun k hk => by unfold mkH; rw [if_neg (by omega), if_neg (by omega), if_neg (by omega)]⟩
end XN
