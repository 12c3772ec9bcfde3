/-! THE JVM DOES WHAT THE SMALL MACHINE DOES: a contract out of every call -/
theorem tm_sound {G : tm_PG} (hG : tm_OkG G) (l : Launch) (D : va_G) (σ τ adV : Nat → Nat) : ∀ (d : Nat) (M : tm_M), tm_OkM G M → tm_dp M ≤ d → ∀ (as : List Value) (h : tm_H) (r : tm_R), tm_call G M as h = some r → tm_wf h → (∀ v ∈ as, tm_wv (tm_sz h) v) → ∀ (ρ : Nat → Nat) (sz : Nat), tm_Met G l D σ τ adV ρ M as h r sz := by
  intro d
  induction d with
  | zero =>
    intro M _ hd as h r hc
    unfold tm_call at hc
    rw [Nat.le_zero.mp hd] at hc
    cases hc
  | succ d ih =>
    intro M hM hd as h r hc hwf has ρ sz
    by_cases hd2 : tm_dp M ≤ d
    · exact ih M hM hd2 as h r hc hwf has ρ sz
    · have hdp : tm_dp M = d + 1 := by omega
      unfold tm_call at hc
      rw [hdp, tm_cd, if_neg (by omega)] at hc
      split at hc
      · rename_i hcnd
        obtain ⟨-, ha⟩ := hcnd
        cases hq : tm_evc G (tm_cd G d) M 0 (tm_ent (tm_mx M) as) [] h with
        | none => rw [hq] at hc; cases hc
        | some r0 =>
          rw [hq] at hc
          obtain ⟨f, hf⟩ := (tm_evc_iff _ _ _ _ _ _ _ _).mp hq
          unfold tm_args at ha
          rw [Bool.and_eq_true, Bool.or_eq_true, decide_eq_true_eq] at ha
          obtain ⟨ha1, ha2⟩ := ha
          obtain ⟨o1, o2, o3, o4, o5, o6, o7, o8, o9, o10⟩ := id hM
          unfold tm_Met
          refine Met.ofW (cc := tm_cc M) (maxL := tm_mx M) (ret := tm_rt M) o2 rfl ?_
          intro p e s m args below meth c s₁ B hml hv
          obtain ⟨rfl, hsz, hP, hD0, hCx⟩ := hv
          subst hsz
          have hAt : tm_At G p s m (as.map (tm_vm ρ σ)).toArray meth c M := ⟨B.exec, B.bytes, B.returns, hml, by rw [← o1]; exact findClass_of_methodNamed B.named, (name_of_methodNamed B.named B.method).1, B.notSynchronized, atoms_spec (ws := tm_Ws (tm_y M) (tm_cc M) (tm_mx M) (tm_rt M)) B.pre⟩
          have hD := hD0.self (sz := s.heap.size)
          have hA : ∀ q : Nat, s.heap.size ≤ q → va_A (tm_ws ρ σ τ h) s.heap.size q := fun q hq => Or.inr hq
          rw [lg_entry_eq]
          have hl := tm_L_entry ρ σ ha1 ha2
          have z := tm_sim_run (p := p) (e0 := e) (m := m) (args := (as.map (tm_vm ρ σ)).toArray) (below := below) (meth := meth) (c := c) hG o10 hdp (fun m2 hm2 hd2 as h r hc hwf has ρ sz => ih m2 hm2 hd2 as h r hc hwf has ρ sz) hAt hCx hA hc rfl f 0 (tm_ent (tm_mx M) as) [] h hf ⟨hwf, tm_ent_iv has, fun v hv => by cases hv⟩ ρ _ s.heap [] (fun _ _ _ => rfl) (tm_Gr_rf _ _) ⟨hP, hD, va_S.rf, hwf⟩ hl
          rw [Nat.sub_self, Nat.sub_self] at z
          exact z
      · cases hc
