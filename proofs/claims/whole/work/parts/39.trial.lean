/-! TRIALS of the class: one trial -/
section TR
variable {cnt : Nat → Nat} {tab : Nat → Nat → Int32} {cuts w : Nat} {sq water : Int32}
def trC (cnt : Nat → Nat) (tab : Nat → Nat → Int32) (cuts w : Nat) (sq water : Int32) : Nat → Nat → (Nat → Nat → Int32) × Nat × Int32 → (Nat → Nat → Int32) × Nat × Int32
  | 0, _, s => s
  | r + 1, n, s => if s.2.2 = -1 then trC cnt tab cuts w sq water r (n + 1) ((onceS cnt tab cuts w sq water n s.1 s.2.1 s.2.2).1, (onceS cnt tab cuts w sq water n s.1 s.2.1 s.2.2).2.1, (onceS cnt tab cuts w sq water n s.1 s.2.1 s.2.2).2.2.1) else s
def trE (cnt : Nat → Nat) (tab : Nat → Nat → Int32) (cuts w : Nat) (sq water : Int32) : Nat → Nat → CSt → CSt
  | 0, _, s => s
  | r + 1, n, s => if s.2.2.2 = true ∧ s.2.2.1 = -1 then trE cnt tab cuts w sq water r (n + 1) (onceS cnt tab cuts w sq water n s.1 s.2.1 s.2.2.1) else s
theorem trC_still (hw : w ≤ 5) : ∀ r n (A : Nat → Nat → Int32) tn, StI cuts w (tab 1 1) (tab 1 3) water A → SzI cuts w (tab 1 4) A → crkR (A 5) (A 4) w sq cuts 0 (-1) = -1 → EqH cuts w (trC cnt tab cuts w sq water r n (A, tn, -1)).1 A ∧ (trC cnt tab cuts w sq water r n (A, tn, -1)).2 = (tn, -1)
  | 0, n, A, tn, S, Z, K => ⟨EqH_rf _ _ _, rfl⟩
  | r + 1, n, A, tn, S, Z, K => by
    obtain ⟨a, b⟩ := onceS_still (cnt := cnt) (sq := sq) hw S Z (tenth := n) (tn := tn) (crk := -1)
    unfold trC
    rw [if_pos rfl]
    generalize onceS cnt tab cuts w sq water n A tn (-1) = t at a b
    obtain ⟨t1, t2⟩ := t
    obtain rfl : t2 = (tn, crkR (A 5) (A 4) w sq cuts 0 (-1), false) := b
    rw [K]
    have sy := EqH_sy a
    obtain ⟨c, d⟩ := trC_still hw r (n + 1) t1 tn (StI_c sy S) (SzI_c sy Z) (by rw [crkR_c a.2.2.2.2.1 a.2.2.2.1 cuts 0 (-1) (by omega)]; exact K)
    exact ⟨EqH_tr c a, d⟩
theorem trC_c (hw : w ≤ 5) : ∀ r n (A B : Nat → Nat → Int32) z, EqH cuts w A B → EqH cuts w (trC cnt tab cuts w sq water r n (A, z)).1 (trC cnt tab cuts w sq water r n (B, z)).1 ∧ (trC cnt tab cuts w sq water r n (A, z)).2 = (trC cnt tab cuts w sq water r n (B, z)).2
  | 0, n, A, B, z, E => ⟨E, rfl⟩
  | r + 1, n, A, B, z, E => by
    unfold trC
    by_cases c : z.2 = -1
    · rw [if_pos c, if_pos c]
      obtain ⟨a, b⟩ := onceS_c (cnt := cnt) (tab := tab) (sq := sq) (water := water) (tenth := n) (tn := z.1) (crk := z.2) hw E
      simp only []
      rw [b]
      exact trC_c hw r (n + 1) _ _ _ a
    · rw [if_neg c, if_neg c]; exact ⟨E, rfl⟩
theorem trE_trC (hw : w ≤ 5) : ∀ r n (A : Nat → Nat → Int32) tn crk mv, SzI cuts w (tab 1 4) A → (mv = false → crk = -1 → StI cuts w (tab 1 1) (tab 1 3) water A ∧ crkR (A 5) (A 4) w sq cuts 0 (-1) = -1) → EqH cuts w (trE cnt tab cuts w sq water r n (A, tn, crk, mv)).1 (trC cnt tab cuts w sq water r n (A, tn, crk)).1 ∧ (trE cnt tab cuts w sq water r n (A, tn, crk, mv)).2.2.1 = (trC cnt tab cuts w sq water r n (A, tn, crk)).2.2
  | 0, n, A, tn, crk, mv, Z, S => ⟨EqH_rf _ _ _, rfl⟩
  | r + 1, n, A, tn, crk, mv, Z, S => by
    by_cases c : crk = -1
    · by_cases m : mv = true
      · unfold trE trC
        rw [if_pos ⟨m, c⟩, if_pos c]
        simp only []
        have Z2 := onceS_sz (cnt := cnt) (tab := tab) (cuts := cuts) (sq := sq) (water := water) hw (A := A) (tenth := n) (tn := tn) (crk := crk)
        have S2 : (onceS cnt tab cuts w sq water n A tn crk).2.2.2 = false → (onceS cnt tab cuts w sq water n A tn crk).2.2.1 = -1 → StI cuts w (tab 1 1) (tab 1 3) water (onceS cnt tab cuts w sq water n A tn crk).1 ∧ crkR ((onceS cnt tab cuts w sq water n A tn crk).1 5) ((onceS cnt tab cuts w sq water n A tn crk).1 4) w sq cuts 0 (-1) = -1 := by
          intro q1 q2
          have S1 := onceS_mv q1
          obtain ⟨a, b⟩ := onceS_still (cnt := cnt) (sq := sq) hw S1 Z (tenth := n) (tn := tn) (crk := crk)
          refine ⟨StI_c (EqH_sy a) S1, ?_⟩
          rw [crkR_c a.2.2.2.2.1 a.2.2.2.1 cuts 0 (-1) (by omega)]
          rw [b, c] at q2
          exact q2
        exact trE_trC hw r (n + 1) (onceS cnt tab cuts w sq water n A tn crk).1 (onceS cnt tab cuts w sq water n A tn crk).2.1 (onceS cnt tab cuts w sq water n A tn crk).2.2.1 (onceS cnt tab cuts w sq water n A tn crk).2.2.2 Z2 S2
      · have m' : mv = false := by cases mv <;> simp_all
        obtain ⟨S1, K⟩ := S m' c
        subst c
        obtain ⟨a, b⟩ := trC_still (cnt := cnt) (sq := sq) hw (r + 1) n A tn S1 Z K
        rw [show trE cnt tab cuts w sq water (r + 1) n (A, tn, -1, mv) = (A, tn, -1, mv) from by rw [trE]; exact if_neg (fun y => m y.1)]
        exact ⟨EqH_sy a, by rw [b]⟩
    · rw [show trE cnt tab cuts w sq water (r + 1) n (A, tn, crk, mv) = (A, tn, crk, mv) from by rw [trE]; exact if_neg (fun y => c y.2), show trC cnt tab cuts w sq water (r + 1) n (A, tn, crk) = (A, tn, crk) from by rw [trC]; exact if_neg c]
      exact ⟨EqH_rf _ _ _, rfl⟩
theorem onceS_1 {A : Nat → Nat → Int32} {tenth tn : Nat} {crk : Int32} : (onceS cnt tab cuts w sq water tenth A tn crk).1 1 = A 1 := by
  have L : ∀ r i (s : CSt), (cutsT cnt tab cuts w sq water (tenth + 1) r i s).1 1 = s.1 1 := by
    intro r
    induction r with
    | zero => intro i s; rfl
    | succ r ih =>
      intro i s
      unfold cutsT
      rw [ih]
      unfold cutT; simp only []
      rw [upA_ne _ _ (by decide), rowT_ke (by decide) (by decide) (by decide) (by decide) (by decide)]; rfl
  exact L cuts 0 _
theorem trC_1 : ∀ r n s, (trC cnt tab cuts w sq water r n s).1 1 = s.1 1
  | 0, _, _ => rfl
  | r + 1, n, s => by
    unfold trC
    split
    · rw [trC_1 r (n + 1)]; exact onceS_1
    · rfl
/-- a trial of one cut, by its openness -/
def trK (cnt : Nat → Nat) (tab : Nat → Nat → Int32) (w : Nat) (sq : Int32) (opn : Nat → Int32) (heat water : Int32) : (Nat → Nat → Int32) × Nat × Int32 :=
  trC cnt tab 1 w sq water 60 0 (heatS tab 1 w sq heat (fun _ => opn), 0, -1)
theorem trK_1 {opn : Nat → Int32} {heat : Int32} : (trK cnt tab w sq opn heat water).1 1 = opn := by
  unfold trK
  rw [trC_1]
  unfold heatS
  show sizL _ _ _ _ _ 1 = opn
  rw [sizL_ne (by decide)]; rfl
end TR
