/-! A NEW HOUSE of the class -/
def S0 : SS := ((fun _ => 0, 0), (0, 0, 0), (false, fun _ => 0, fun _ _ => 0), (0, (fun _ _ => 0, 0, -1, 0, 0, 0)), (fun _ => 0, 0), (fun _ => 0, fun _ => 0, 0))
theorem PX_0 : PX S0 := ⟨by decide, by decide, by decide, fun h => (by cases h), fun _ => ⟨fun _ _ => rfl, rfl, rfl, rfl, rfl⟩, fun h => by cases h⟩
section XN
variable {h : tm_H} {c s : Nat}
theorem xn_at {i : Nat} (hi : 1 ≤ i) (hK : i ≤ 128) : mkH h 1 1 128 (obj_9 1) (F_9 1) c s (1 + i) = F_9 1 i := mk_at (by decide) hi hK
theorem xn_bk {b : Nat} (E : ∀ i, i < 15 → mkH h 1 1 128 (obj_9 1) (F_9 1) c s (b + i) = if i = 0 then obj_3 b else F_3 b i) : BkAt (mkH h 1 1 128 (obj_9 1) (F_9 1) c s) b 0 0 (fun _ => 0) (fun _ _ => 0) := by
  refine ⟨E 0 (by decide), fun l hl => ?_, fun l hl => Nat.zero_le _⟩
  rcases (show l = 0 ∨ l = 1 ∨ l = 2 ∨ l = 3 ∨ l = 4 ∨ l = 5 ∨ l = 6 by omega) with rfl | rfl | rfl | rfl | rfl | rfl | rfl
  · exact ⟨E 1 (by decide), E 2 (by decide)⟩
  · exact ⟨E 3 (by decide), E 4 (by decide)⟩
  · exact ⟨E 5 (by decide), E 6 (by decide)⟩
  · exact ⟨E 7 (by decide), E 8 (by decide)⟩
  · exact ⟨E 9 (by decide), E 10 (by decide)⟩
  · exact ⟨E 11 (by decide), E 12 (by decide)⟩
  · exact ⟨E 13 (by decide), E 14 (by decide)⟩
theorem xn_ca {c0 : Nat} (E : ∀ i, i < 11 → mkH h 1 1 128 (obj_9 1) (F_9 1) c s (c0 + i) = if i = 0 then obj_4 c0 else F_4 c0 i) : CAt (mkH h 1 1 128 (obj_9 1) (F_9 1) c s) c0 (fun _ _ => 0) (c0 + 9) (c0 + 10) (c0 + 11) 0 0 0 0 0 0 (-1) := by
  refine ⟨E 0 (by decide), fun i hi => ?_, E 9 (by decide), E 10 (by decide), Or.inl ⟨rfl, rfl⟩, by decide, by decide⟩
  rcases (show i = 0 ∨ i = 1 ∨ i = 2 ∨ i = 3 ∨ i = 4 ∨ i = 5 ∨ i = 6 ∨ i = 7 by omega) with rfl | rfl | rfl | rfl | rfl | rfl | rfl | rfl
  · exact E 1 (by decide)
  · exact E 2 (by decide)
  · exact E 3 (by decide)
  · exact E 4 (by decide)
  · exact E 5 (by decide)
  · exact E 6 (by decide)
  · exact E 7 (by decide)
  · exact E 8 (by decide)
theorem xn_inv : XInv (mkH h 1 1 128 (obj_9 1) (F_9 1) c s) S0 := by
  refine ⟨100, 115, Or.inl ⟨rfl, rfl⟩, mk_o (by decide), xn_at (i := 1) (by decide) (by decide), ⟨8, 0, 0, 0, 5, 0, 0, 0, 0, fun _ => 0, fun _ => 0, xn_at (i := 2) (by decide) (by decide), xn_at (i := 3) (by decide) (by decide), xn_at (i := 5) (by decide) (by decide), xn_at (i := 6) (by decide) (by decide), fun y => absurd y (by decide)⟩, ⟨⟨0, 0, xn_bk (fun i hi => ?_), fun y => (by cases y)⟩, 0, 0, _, _, xn_bk (fun i hi => ?_)⟩, ⟨35, 0, ⟨xn_at (i := 22) (by decide) (by decide), ⟨33, 34, xn_ca (c0 := 24) (fun i hi => ?_)⟩, by decide⟩, fun y => (by cases y)⟩, ⟨fun _ => 0, fun y => (by cases y), 78, 62, fun _ _ => 0, 60, 61, 0, 0, 0, 0, 0, 0, -1, xn_at (i := 49) (by decide) (by decide), xn_at (i := 76) (by decide) (by decide), xn_ca (c0 := 51) (fun i hi => ?_)⟩, ⟨xn_at (i := 92) (by decide) (by decide), xn_at (i := 93) (by decide) (by decide), fun _ => 0, xn_at (i := 94) (by decide) (by decide)⟩, ⟨xn_at (i := 95) (by decide) (by decide), xn_at (i := 96) (by decide) (by decide), xn_at (i := 97) (by decide) (by decide), fun _ => 0, xn_at (i := 98) (by decide) (by decide)⟩⟩
  · rw [show 100 + i = 1 + (99 + i) by omega, xn_at (by omega) (by omega)]
    rcases (show i = 0 ∨ i = 1 ∨ i = 2 ∨ i = 3 ∨ i = 4 ∨ i = 5 ∨ i = 6 ∨ i = 7 ∨ i = 8 ∨ i = 9 ∨ i = 10 ∨ i = 11 ∨ i = 12 ∨ i = 13 ∨ i = 14 by omega) with rfl | rfl | rfl | rfl | rfl | rfl | rfl | rfl | rfl | rfl | rfl | rfl | rfl | rfl | rfl <;> rfl
  · rw [show 115 + i = 1 + (114 + i) by omega, xn_at (by omega) (by omega)]
    rcases (show i = 0 ∨ i = 1 ∨ i = 2 ∨ i = 3 ∨ i = 4 ∨ i = 5 ∨ i = 6 ∨ i = 7 ∨ i = 8 ∨ i = 9 ∨ i = 10 ∨ i = 11 ∨ i = 12 ∨ i = 13 ∨ i = 14 by omega) with rfl | rfl | rfl | rfl | rfl | rfl | rfl | rfl | rfl | rfl | rfl | rfl | rfl | rfl | rfl <;> rfl
  · rw [show 24 + i = 1 + (23 + i) by omega, xn_at (by omega) (by omega)]
    rcases (show i = 0 ∨ i = 1 ∨ i = 2 ∨ i = 3 ∨ i = 4 ∨ i = 5 ∨ i = 6 ∨ i = 7 ∨ i = 8 ∨ i = 9 ∨ i = 10 by omega) with rfl | rfl | rfl | rfl | rfl | rfl | rfl | rfl | rfl | rfl | rfl <;> rfl
  · rw [show 51 + i = 1 + (50 + i) by omega, xn_at (by omega) (by omega)]
    rcases (show i = 0 ∨ i = 1 ∨ i = 2 ∨ i = 3 ∨ i = 4 ∨ i = 5 ∨ i = 6 ∨ i = 7 ∨ i = 8 ∨ i = 9 ∨ i = 10 by omega) with rfl | rfl | rfl | rfl | rfl | rfl | rfl | rfl | rfl | rfl | rfl <;> rfl
theorem x_init (h0 : h 0 = tm_bk 1 c s) (hO : h 1 = .inr (9, tm_dflt 9)) : ∃ h', tC mX9_init [.ref 1] h = some (h', none) ∧ XInv h' S0 ∧ h' 0 = tm_bk 129 (c + 128) (s + 3615) ∧ ∀ k, 129 < k → h' k = h k :=
  ⟨_, ctor_9 h0 hO (by decide) (by decide), xn_inv, mk_0, fun k hk => by unfold mkH; rw [if_neg (by omega), if_neg (by omega), if_neg (by omega)]⟩
end XN
