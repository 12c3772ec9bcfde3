/-! CELLS: their kinds are kinds of the book, and as many turned as are not of the first -/
def nzc (f : Nat → Int32) : Nat → Nat
  | 0 => 0
  | m + 1 => nzc f m + (if f m = 0 then 0 else 1)
theorem nzc_le (f : Nat → Int32) : ∀ m, nzc f m ≤ m
  | 0 => Nat.le_refl _
  | m + 1 => by
    have := nzc_le f m
    unfold nzc; split <;> omega
theorem nzc_lt {f : Nat → Int32} {k : Nat} (hk : f k = 0) : ∀ m, k < m → nzc f m < m
  | 0, h => absurd h (by omega)
  | m + 1, h => by
    unfold nzc
    by_cases e : k = m
    · subst e; rw [if_pos hk]; have := nzc_le f k; omega
    · have := nzc_lt hk m (by omega)
      split <;> omega
theorem nzc_ge {f : Nat → Int32} {k : Nat} {v : Int32} : ∀ m, m ≤ k → nzc (upd f k v) m = nzc f m
  | 0, _ => rfl
  | m + 1, h => by
    unfold nzc
    rw [nzc_ge m (by omega), show upd f k v m = f m from by unfold upd; exact if_neg (by omega)]
theorem nzc_upd {f : Nat → Int32} {k : Nat} {v : Int32} (hk : f k = 0) (hv : v ≠ 0) : ∀ m, k < m → nzc (upd f k v) m = nzc f m + 1
  | 0, h => absurd h (by omega)
  | m + 1, h => by
    unfold nzc
    by_cases e : k = m
    · subst e
      rw [nzc_ge k (Nat.le_refl _), show upd f k v k = v from by unfold upd; exact if_pos rfl, if_neg hv, if_pos hk]
    · rw [nzc_upd hk hv m (by omega), show upd f k v m = f m from by unfold upd; exact if_neg (by omega)]
      omega
theorem nzc_0 {f : Nat → Int32} : ∀ m, (∀ k, k < m → f k = 0) → nzc f m = 0
  | 0, _ => rfl
  | m + 1, h => by
    unfold nzc; rw [nzc_0 m (fun k hk => h k (by omega)), if_pos (h m (by omega))]
def KN (n : Nat) (A : Nat → Nat → Int32) (tn : Nat) : Prop := (∀ k, k < 40 → ∃ kd, kd < n ∧ A 2 k = nI kd) ∧ tn = nzc (A 2) 40
section KN
variable {cnt : Nat → Nat} {tab : Nat → Nat → Int32} {cuts w : Nat} {sq water lo hi' : Int32}
theorem knd_kd (B : BkF lo hi' cnt tab) {A : Nat → Nat → Int32} {k : Nat} (z : ¬ kndS cnt tab A k = 0) : A 2 k = 0 ∧ ∃ kd, kd < cnt 2 ∧ kndS cnt tab A k = nI kd := by
  have a0 : A 2 k = 0 := by
    refine Classical.byContradiction fun y => z ?_
    unfold kndS; exact if_neg y
  obtain ⟨kd, hkd, e⟩ := turnS_kd B.2.2.1 B.2.2.2.1 (a := A 9 k) (b := A 8 k)
  exact ⟨a0, kd, hkd, by unfold kndS; rw [if_pos a0]; exact e⟩
theorem KN_lt {A : Nat → Nat → Int32} {tn n k : Nat} (K : KN n A tn) (a0 : A 2 k = 0) (hk : k < 40) : tn < 40 := by
  rw [K.2]; exact nzc_lt a0 40 hk
theorem KN_turn {A : Nat → Nat → Int32} {tn k kd tenth : Nat} {wp : Int32} {t2 : Nat → Int32} (K : KN (cnt 2) A tn) (a0 : A 2 k = 0) (hk : k < 40) (hkd : kd < cnt 2) (z : ¬ nI kd = 0) : KN (cnt 2) (turnA t2 wp tenth A tn k kd) (tn + 1) := by
  have e : turnA t2 wp tenth A tn k kd 2 = upd (A 2) k (nI kd) := rfl
  refine ⟨fun k' hk' => ?_, ?_⟩
  · rw [e]; unfold upd
    by_cases q : k' = k
    · rw [if_pos q]; exact ⟨kd, hkd, rfl⟩
    · rw [if_neg q]; exact K.1 k' hk'
  · rw [e, nzc_upd a0 z 40 hk, ← K.2]
theorem KN_step (B : BkF lo hi' cnt tab) (h5 : cnt 2 ≤ 5) {A : Nat → Nat → Int32} {tn k tenth : Nat} {wp : Int32} (K : KN (cnt 2) A tn) (hk : k < 40) : KN (cnt 2) (stepT cnt tab wp tenth k (A, tn)).1 (stepT cnt tab wp tenth k (A, tn)).2 := by
  unfold stepT
  split
  · exact K
  · rename_i z
    obtain ⟨a0, kd, hkd, e⟩ := knd_kd B z
    rw [if_pos (KN_lt K a0 hk)]
    rw [show kndS cnt tab (A, tn).1 k = nI kd from e, iN_nI (by omega)]
    exact KN_turn K a0 hk hkd (by rw [← e]; exact z)
theorem KN_row (B : BkF lo hi' cnt tab) (h5 : cnt 2 ≤ 5) {wp : Int32} {tenth i : Nat} (hw : w ≤ 5) (hi : i < 8) : ∀ r j (A : Nat → Nat → Int32) tn, j + r = w → KN (cnt 2) A tn → KN (cnt 2) (rowT cnt tab wp tenth i r j (A, tn)).1 (rowT cnt tab wp tenth i r j (A, tn)).2
  | 0, _, _, _, _, K => K
  | r + 1, j, A, tn, h, K => by
    unfold rowT
    have K2 := KN_step B h5 (wp := wp) (tenth := tenth) K (show i * 5 + j < 40 by omega)
    generalize stepT cnt tab wp tenth (i * 5 + j) (A, tn) = s at K2
    obtain ⟨s1, s2⟩ := s
    exact KN_row B h5 hw hi r (j + 1) s1 s2 (by omega) K2
theorem KN_cuts (B : BkF lo hi' cnt tab) (h5 : cnt 2 ≤ 5) {tenth : Nat} (hw : w ≤ 5) (hc : cuts ≤ 8) : ∀ r i (s : CSt), i + r = cuts → KN (cnt 2) s.1 s.2.1 → KN (cnt 2) (cutsT cnt tab cuts w sq water tenth r i s).1 (cutsT cnt tab cuts w sq water tenth r i s).2.1
  | 0, _, _, _, K => K
  | r + 1, i, s, h, K => by
    unfold cutsT
    refine KN_cuts B h5 hw hc r (i + 1) _ (by omega) ?_
    exact KN_row B h5 (wp := nI w * sq) (tenth := tenth) hw (show i < 8 by omega) w 0 _ s.2.1 (by omega) K
theorem KN_once (B : BkF lo hi' cnt tab) (h5 : cnt 2 ≤ 5) (hw : w ≤ 5) (hc : cuts ≤ 8) {A : Nat → Nat → Int32} {tn tenth : Nat} {crk : Int32} (K : KN (cnt 2) A tn) : KN (cnt 2) (onceS cnt tab cuts w sq water tenth A tn crk).1 (onceS cnt tab cuts w sq water tenth A tn crk).2.1 :=
  KN_cuts B h5 hw hc cuts 0 _ (by omega) K
theorem heatS_2 {v : Int32} {A : Nat → Nat → Int32} : heatS tab cuts w sq v A 2 = fillF (A 2) 0 40 := by
  unfold heatS; rw [sizL_ne (by decide)]; rfl
theorem KN_heat (B : BkF lo hi' cnt tab) {A : Nat → Nat → Int32} {v : Int32} : KN (cnt 2) (heatS tab cuts w sq v A) 0 := by
  have e : ∀ k, k < 40 → heatS tab cuts w sq v A 2 k = 0 := fun k hk => by rw [heatS_2]; unfold fillF; rw [if_pos hk]
  exact ⟨fun k hk => ⟨0, B.2.2.1, e k hk⟩, (nzc_0 40 e).symm⟩
theorem KN_trC (B : BkF lo hi' cnt tab) (h5 : cnt 2 ≤ 5) (hw : w ≤ 5) (hc : cuts ≤ 8) : ∀ r n s, KN (cnt 2) s.1 s.2.1 → KN (cnt 2) (trC cnt tab cuts w sq water r n s).1 (trC cnt tab cuts w sq water r n s).2.1
  | 0, _, _, K => K
  | r + 1, n, s, K => by
    unfold trC
    split
    · exact KN_trC B h5 hw hc r (n + 1) _ (KN_once B h5 hw hc K)
    · exact K
theorem KN_ok {A : Nat → Nat → Int32} {tn n : Nat} (K : KN n A tn) (hw : w ≤ 5) (hc : cuts ≤ 8) : KOk A cuts w n := fun i j hi hj => K.1 _ (by omega)
theorem KOk_trK (B : BkF lo hi' cnt tab) (h5 : cnt 2 ≤ 5) (hw : w ≤ 5) {opn : Nat → Int32} {heat : Int32} : KOk (trK cnt tab w sq opn heat water).1 1 w (cnt 2) :=
  KN_ok (KN_trC B h5 hw (by decide) 60 0 _ (KN_heat B)) hw (by decide)
end KN
theorem cloudG_c {kt kf kg : Nat → Int32} {hard : Int32} {i w : Nat} (E : ∀ j, j < w → kf (i * 5 + j) = kg (i * 5 + j)) : ∀ r j, j + r = w → cloudG kt kf hard i r j = cloudG kt kg hard i r j
  | 0, _, _ => rfl
  | r + 1, j, h => by
    unfold cloudG hardS
    rw [E j (by omega), cloudG_c E r (j + 1) (by omega)]
theorem behindG_c {kt kf kg : Nat → Int32} {hard : Int32} {i w : Nat} (E : ∀ j, j < w → kf (i * 5 + j) = kg (i * 5 + j)) : ∀ r j, j + r = w → behindG kt kf hard i r j = behindG kt kg hard i r j
  | 0, _, _ => rfl
  | r + 1, j, h => by
    unfold behindG hardS
    rw [E j (by omega), behindG_c E r (j + 1) (by omega)]
theorem KOk_c {A D : Nat → Nat → Int32} {cuts w n : Nat} (E : EqI cuts w (A 2) (D 2)) (K : KOk D cuts w n) : KOk A cuts w n := fun i j hi hj => by
  obtain ⟨k, a, b⟩ := K i j hi hj
  exact ⟨k, a, (E i j hi hj).trans b⟩
