/-! THE REFERENCE's calls: a blade is learned -/
section M34
variable {h : tm_H} {S : SS}
theorem MI_143 (X : MInv h S) : ∃ Z tn f, h 130 = moO Z (nI tn) ∧ h 143 = aI 80 f ∧ Z.2.2.2.2 = nI (sBl S) ∧ (∀ k, k < sBl S → f (4 * k) = sMk S (k * 3) ∧ f (4 * k + 1) = sMk S (k * 3 + 1) ∧ f (4 * k + 2) = sMk S (k * 3 + 2) ∧ f (4 * k + 3) = sHw S k) ∧ ∀ f' mk' hw' n', (∀ k, k < n' → f' (4 * k) = mk' (k * 3) ∧ f' (4 * k + 1) = mk' (k * 3 + 1) ∧ f' (4 * k + 2) = mk' (k * 3 + 2) ∧ f' (4 * k + 3) = hw' k) → MInv (tm_up (tm_up h 143 (aI 80 f')) 130 (moO (Z.1, Z.2.1, Z.2.2.1, Z.2.2.2.1, nI n') (nI tn))) (sBla S mk' hw' n') := by
  obtain ⟨Z, m, c, s, h0, hm, T, ⟨tn, hm0, km, cl, tu, th, om, HA⟩, tp, B, ⟨f1, t1⟩, ⟨f2, t2⟩, ⟨f3, t3⟩, ⟨f4, l1, l2⟩, ⟨f5, t4⟩, ⟨f, b1, b2⟩⟩ := X
  refine ⟨Z, tn, f, HA.1, b1, T.2.2.2, b2, fun f' mk' hw' n' q => ?_⟩
  have n1 : ∀ k, k ≠ 143 → tm_up h 143 (aI 80 f') k = h k := fun k x => tm_up_ne x
  have HA1 : MA (tm_up h 143 (aI 80 f')) Z tn hm0 km cl tu th om := MA_c (fun k x => n1 k (by omega)) HA
  have B1 : MBB (tm_up h 143 (aI 80 f')) Z m S := MBB_c (fun k x => n1 k (by omega)) B
  have e143 : tm_up h 143 (aI 80 f') 143 = aI 80 f' := tm_up_same
  generalize tm_up h 143 (aI 80 f') = h1 at n1 HA1 B1 e143
  have nx : ∀ k e, k ≠ 130 → tm_up h1 130 e k = h1 k := fun k e x => tm_up_ne x
  refine ⟨(Z.1, Z.2.1, Z.2.2.1, Z.2.2.2.1, nI n'), m, c, s, by rw [nx 0 _ (by decide), n1 0 (by decide)]; exact h0, hm, ⟨T.1, T.2.1, T.2.2.1, rfl⟩, ⟨tn, hm0, km, cl, tu, th, om, MA_o HA1 _ tn⟩, by rw [nx 131 _ (by decide), n1 131 (by decide)]; exact tp, ⟨fun bo => ?_, B1.2⟩, ⟨f1, by rw [nx 138 _ (by decide), n1 138 (by decide)]; exact t1⟩, ⟨f2, by rw [nx 139 _ (by decide), n1 139 (by decide)]; exact t2⟩, ⟨f3, by rw [nx 140 _ (by decide), n1 140 (by decide)]; exact t3⟩, ⟨f4, by rw [nx 141 _ (by decide), n1 141 (by decide)]; exact l1, l2⟩, ⟨f5, by rw [nx 142 _ (by decide), n1 142 (by decide)]; exact t4⟩, ⟨f', by rw [nx 143 _ (by decide)]; exact e143, q⟩⟩
  obtain ⟨b, nn, G, nm, z1, z2, z3, M, R⟩ := B1.1 bo
  have et : nI tn = nI (sR S).2.1 := by
    obtain ⟨_, _, _, _, _, _, _, HR, _⟩ := R
    have := HA1.1
    rw [HR.1] at this
    have := congrArg (fun e => tm_gf e 11 24) this
    simp only [gf_11_24, Option.some.injEq, Value.int.injEq] at this
    exact this.symm
  refine ⟨b, nn, G, nm, z1, z2, z3, MBk_c (fun k x y => nx k _ (by omega)) M, ?_⟩
  rw [et]
  exact MR_z R rfl
end M34
