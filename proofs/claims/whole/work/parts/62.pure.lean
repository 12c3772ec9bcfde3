/-! CELLS: rooms and what is borne go by the kinds; the crack is found behind the tenth; what a tenth leaves -/
def RmA (tab : Nat → Nat → Int32) (wp : Int32) (A : Nat → Nat → Int32) : Prop := ∀ k, k < 40 → A 3 k = tab 2 ((A 2 k).toNatClampNeg * 3 + 1) ∧ A 4 k = tab 2 ((A 2 k).toNatClampNeg * 3 + 2) * wp
section RM
variable {cnt : Nat → Nat} {tab : Nat → Nat → Int32} {cuts w : Nat} {sq water lo hi' : Int32}
theorem RmA_turn {wp : Int32} {A : Nat → Nat → Int32} {tn k kd tenth : Nat} (R : RmA tab wp A) (hkd : kd < 2 ^ 31) : RmA tab wp (turnA (tab 2) wp tenth A tn k kd) := by
  intro k' hk'
  show upd (A 3) k (tab 2 (kd * 3 + 1)) k' = tab 2 ((upd (A 2) k (nI kd) k').toNatClampNeg * 3 + 1) ∧ upd (A 4) k (tab 2 (kd * 3 + 2) * wp) k' = tab 2 ((upd (A 2) k (nI kd) k').toNatClampNeg * 3 + 2) * wp
  unfold upd
  by_cases e : k' = k
  · rw [if_pos e, if_pos e, if_pos e, nI_clamp hkd]; exact ⟨rfl, rfl⟩
  · rw [if_neg e, if_neg e, if_neg e]; exact R k' hk'
theorem RmA_step (B : BkF lo hi' cnt tab) (h5 : cnt 2 ≤ 5) {A : Nat → Nat → Int32} {tn k tenth : Nat} {wp : Int32} (R : RmA tab wp A) : RmA tab wp (stepT cnt tab wp tenth k (A, tn)).1 := by
  unfold stepT
  split
  · exact R
  · rename_i z
    obtain ⟨a0, kd, hkd, e⟩ := knd_kd B z
    split
    · rw [show kndS cnt tab (A, tn).1 k = nI kd from e, iN_nI (by omega)]
      exact RmA_turn R (by omega)
    · exact R
theorem RmA_row (B : BkF lo hi' cnt tab) (h5 : cnt 2 ≤ 5) {wp : Int32} {tenth i : Nat} : ∀ r j (s : (Nat → Nat → Int32) × Nat), RmA tab wp s.1 → RmA tab wp (rowT cnt tab wp tenth i r j s).1
  | 0, _, _, R => R
  | r + 1, j, s, R => by
    unfold rowT
    exact RmA_row B h5 r (j + 1) _ (RmA_step B h5 (A := s.1) (tn := s.2) R)
theorem RmA_cuts (B : BkF lo hi' cnt tab) (h5 : cnt 2 ≤ 5) {tenth : Nat} : ∀ r i (s : CSt), RmA tab (nI w * sq) s.1 → RmA tab (nI w * sq) (cutsT cnt tab cuts w sq water tenth r i s).1
  | 0, _, _, R => R
  | r + 1, i, s, R => by
    unfold cutsT
    exact RmA_cuts B h5 r (i + 1) _ (RmA_row B h5 (wp := nI w * sq) (tenth := tenth) (i := i) w 0 (_, s.2.1) R)
theorem RmA_once (B : BkF lo hi' cnt tab) (h5 : cnt 2 ≤ 5) {A : Nat → Nat → Int32} {tn tenth : Nat} {crk : Int32} (R : RmA tab (nI w * sq) A) : RmA tab (nI w * sq) (onceS cnt tab cuts w sq water tenth A tn crk).1 :=
  RmA_cuts B h5 cuts 0 _ R
theorem RmA_heat {A : Nat → Nat → Int32} {v : Int32} : RmA tab (nI w * sq) (heatS tab cuts w sq v A) := by
  intro k hk
  unfold heatS
  rw [sizL_ne (by decide), sizL_ne (by decide), sizL_ne (by decide)]
  show fillF (A 3) (tab 2 1) 40 k = tab 2 ((fillF (A 2) 0 40 k).toNatClampNeg * 3 + 1) ∧ fillF (A 4) (tab 2 2 * (nI w * sq)) 40 k = tab 2 ((fillF (A 2) 0 40 k).toNatClampNeg * 3 + 2) * (nI w * sq)
  unfold fillF
  rw [if_pos hk, if_pos hk, if_pos hk]
  exact ⟨rfl, rfl⟩
/-- rows that are done stay as they are -/
theorem rowT_low {m : Nat} (h7 : m ≠ 7) {wp : Int32} {tenth i x : Nat} (hx : x < i * 5) : ∀ r j (s : (Nat → Nat → Int32) × Nat), (rowT cnt tab wp tenth i r j s).1 m x = s.1 m x
  | 0, _, _ => rfl
  | r + 1, j, s => by
    unfold rowT
    rw [rowT_low h7 hx r (j + 1)]
    unfold stepT
    split
    · rfl
    · split
      · show turnA _ _ _ _ _ _ _ m x = s.1 m x
        unfold turnA
        rw [upA_ne _ _ h7]
        have u : ∀ (f : Nat → Int32) (v : Int32), upd f (i * 5 + j) v x = f x := fun f v => by unfold upd; exact if_neg (by omega)
        by_cases e6 : m = 6
        · subst e6; rw [upA_same]; exact u _ _
        · rw [upA_ne _ _ e6]
          by_cases e4 : m = 4
          · subst e4; rw [upA_same]; exact u _ _
          · rw [upA_ne _ _ e4]
            by_cases e3 : m = 3
            · subst e3; rw [upA_same]; exact u _ _
            · rw [upA_ne _ _ e3]
              by_cases e2 : m = 2
              · subst e2; rw [upA_same]; exact u _ _
              · rw [upA_ne _ _ e2]
      · rfl
theorem rowF_low {g f : Nat → Int32} {i x : Nat} (hx : x < i * 5) : rowF g f i w x = f x := by unfold rowF; exact if_neg (by omega)
theorem cutT_low {m : Nat} (h7 : m ≠ 7) {tenth i x : Nat} (hx : x < i * 5) (s : CSt) : (cutT cnt tab cuts w sq water tenth i s).1 m x = s.1 m x := by
  unfold cutT
  simp only []
  by_cases e5 : m = 5
  · subst e5
    rw [upA_same, rowF_low hx, rowT_low h7 hx]
    rfl
  · rw [upA_ne _ _ e5, rowT_low h7 hx]
    show upA s.1 8 _ m x = _
    by_cases e8 : m = 8
    · subst e8; rw [upA_same, rowF_low hx]
    · rw [upA_ne _ _ e8]
theorem cutsT_low {m : Nat} (h7 : m ≠ 7) {tenth : Nat} : ∀ r i (s : CSt) x, x < i * 5 → (cutsT cnt tab cuts w sq water tenth r i s).1 m x = s.1 m x
  | 0, _, _, _, _ => rfl
  | r + 1, i, s, x, hx => by
    unfold cutsT
    rw [cutsT_low h7 r (i + 1) _ x (by omega), cutT_low h7 hx]
theorem cutsT_crk (hw : w ≤ 5) {tenth : Nat} : ∀ r i (s : CSt), (cutsT cnt tab cuts w sq water tenth r i s).2.2.1 = crkR ((cutsT cnt tab cuts w sq water tenth r i s).1 5) ((cutsT cnt tab cuts w sq water tenth r i s).1 4) w sq r i s.2.2.1
  | 0, _, _ => rfl
  | r + 1, i, s => by
    have a := cutsT_crk hw (tenth := tenth) r (i + 1) (cutT cnt tab cuts w sq water tenth i s)
    have k5 := fun j (hj : j < w) => cutsT_low (cnt := cnt) (tab := tab) (cuts := cuts) (w := w) (sq := sq) (water := water) (m := 5) (by decide) (tenth := tenth) r (i + 1) (cutT cnt tab cuts w sq water tenth i s) (i * 5 + j) (by omega)
    have k4 := fun j (hj : j < w) => cutsT_low (cnt := cnt) (tab := tab) (cuts := cuts) (w := w) (sq := sq) (water := water) (m := 4) (by decide) (tenth := tenth) r (i + 1) (cutT cnt tab cuts w sq water tenth i s) (i * 5 + j) (by omega)
    have e : (cutT cnt tab cuts w sq water tenth i s).2.2.1 = crkS ((cutT cnt tab cuts w sq water tenth i s).1 5) ((cutT cnt tab cuts w sq water tenth i s).1 4) w sq i s.2.2.1 w 0 := rfl
    unfold cutsT crkR
    rw [a, e, crkS_c k5 k4 w 0 (by omega)]
theorem once_crk (hw : w ≤ 5) {A : Nat → Nat → Int32} {tn tenth : Nat} {crk : Int32} : (onceS cnt tab cuts w sq water tenth A tn crk).2.2.1 = crkR ((onceS cnt tab cuts w sq water tenth A tn crk).1 5) ((onceS cnt tab cuts w sq water tenth A tn crk).1 4) w sq cuts 0 crk :=
  cutsT_crk hw cuts 0 _
theorem cutT_ke {m : Nat} (h2 : m ≠ 2) (h3 : m ≠ 3) (h4 : m ≠ 4) (h5 : m ≠ 5) (h6 : m ≠ 6) (h7 : m ≠ 7) (h8 : m ≠ 8) {tenth i : Nat} (s : CSt) : (cutT cnt tab cuts w sq water tenth i s).1 m = s.1 m := by
  unfold cutT
  simp only []
  rw [upA_ne _ _ h5, rowT_ke h2 h3 h4 h6 h7]
  show upA s.1 8 _ m = _
  rw [upA_ne _ _ h8]
theorem cutsT_ke {m : Nat} (h2 : m ≠ 2) (h3 : m ≠ 3) (h4 : m ≠ 4) (h5 : m ≠ 5) (h6 : m ≠ 6) (h7 : m ≠ 7) (h8 : m ≠ 8) {tenth : Nat} : ∀ r i (s : CSt), (cutsT cnt tab cuts w sq water tenth r i s).1 m = s.1 m
  | 0, _, _ => rfl
  | r + 1, i, s => by unfold cutsT; rw [cutsT_ke h2 h3 h4 h5 h6 h7 h8 r (i + 1), cutT_ke h2 h3 h4 h5 h6 h7 h8]
theorem once_0 {A : Nat → Nat → Int32} {tn tenth : Nat} {crk : Int32} : (onceS cnt tab cuts w sq water tenth A tn crk).1 0 = A 0 :=
  cutsT_ke (by decide) (by decide) (by decide) (by decide) (by decide) (by decide) (by decide) cuts 0 _
end RM
theorem led_nI {i j : Nat} (hj : j < 5) (hi : i < 8) : 10 * (nI (i * 5 + j) / 5) + (nI (i * 5 + j) - nI (i * 5 + j) / 5 * 5) = 10 * nI i + nI j := by
  have : ∀ i, i < 8 → ∀ j, j < 5 → 10 * (nI (i * 5 + j) / 5) + (nI (i * 5 + j) - nI (i * 5 + j) / 5 * 5) = 10 * nI i + nI j := by decide
  exact this i hi j hj
/-- the number that is told of a turned cell -/
def ledS (x : Int32) : Int32 := 10 * (x / 5) + (x - x / 5 * 5)
