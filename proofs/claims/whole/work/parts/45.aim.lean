/-! TRIALS of the class: the least clay, clouded by eye, fitted -/
section T4
variable {t bk w : Nat} {cf : Nat → Int32} {sq lo hi' : Int32} {cnt : Nat → Nat} {tab : Nat → Nat → Int32}
theorem tr_cloud {h : tm_H} {D : Nat → Nat → Int32} (H : TrAt h t cf bk w sq D) (K : BkAt h bk lo hi' cnt tab) (Q : KOk D 1 w (cnt 2)) {hard : Int32} : tC mX4_cloudOf [.ref (t + 2), .int 0, .int hard] h = some (h, some (.int (nI (cloudG (tab 2) (D 2) hard 0 w 0)))) := by
  obtain ⟨_, _, hw, A, p, q, wa, te, tn, crk, H1, ht, ea, eb⟩ := H
  have P := cloud_spec H1 K (KOk_c eb Q) (show 0 < 1 by decide) (hard := hard)
  rw [cloudG_c (kg := D 2) (fun j hj => eb 0 j (by decide) hj) w 0 (by omega), nI_0] at P
  exact P
theorem tr_behind {h : tm_H} {D : Nat → Nat → Int32} (H : TrAt h t cf bk w sq D) (K : BkAt h bk lo hi' cnt tab) (Q : KOk D 1 w (cnt 2)) {hard : Int32} {j : Nat} (hj : j ≤ w) : tC mX4_isHardBehind [.ref (t + 2), .int 0, .int (nI j), .int hard] h = some (h, some (.int (bI (behindG (tab 2) (D 2) hard 0 (w - j) j)))) := by
  obtain ⟨_, _, hw, A, p, q, wa, te, tn, crk, H1, ht, ea, eb⟩ := H
  have P := behind_spec H1 K (KOk_c eb Q) (show 0 < 1 by decide) (hard := hard) hj
  rw [behindG_c (kg := D 2) (fun j hj => eb 0 j (by decide) hj) (w - j) j (by omega), nI_0] at P
  exact P
theorem tr_clay1 {h : tm_H} {D : Nat → Nat → Int32} (H : TrAt h t cf bk w sq D) (K : BkAt h bk lo hi' cnt tab) (k1 : 0 < cnt 1) (hd : bk + 14 < t ∨ t + 12 < bk) {j : Nat} (hj : j < w) {v : Int32} : ∃ h', tC mX4_setClay [.ref (t + 2), .int 0, .int (nI j), .int v] h = some (h', none) ∧ TrAt h' t cf bk w sq (upA D 1 (upd (D 1) j (opS (tab 1 2) v))) ∧ Fr (t + 2) h h' := by
  obtain ⟨h0, hcf, hw, A, p, q, wa, te, tn, crk, H1, ht, ea, eb⟩ := H
  obtain ⟨h', P, H2, F⟩ := clay_in H1 K k1 (by omega) (show 0 < 1 by decide) hj (t := v)
  rw [nI_0] at P
  refine ⟨h', P, ⟨by rw [F t (by omega)]; exact h0, by rw [F (t + 1) (by omega)]; exact hcf, hw, _, p, q, wa, te, tn, crk, H2, ht, ?_, eb⟩, F⟩
  intro i j' hi hj'
  rw [upA_same]
  show upd (A 1) (0 * 5 + j) _ (i * 5 + j') = _
  have e := ea i j' hi hj'
  obtain rfl : i = 0 := by omega
  unfold upd
  rw [show 0 * 5 + j = j by omega, show 0 * 5 + j' = j' by omega] at *
  split
  · rfl
  · exact e
theorem TrAt_c {h : tm_H} {D E : Nat → Nat → Int32} (H : TrAt h t cf bk w sq D) (e1 : EqI 1 w (D 1) (E 1)) (e2 : EqI 1 w (D 2) (E 2)) : TrAt h t cf bk w sq E := by
  obtain ⟨h0, hcf, hw, A, p, q, wa, te, tn, crk, H1, ht, ea, eb⟩ := H
  exact ⟨h0, hcf, hw, A, p, q, wa, te, tn, crk, H1, ht, EqI_tr ea e1, EqI_tr eb e2⟩
/-- the clay of a way is useful, from the j-th on, r left -/
def aimU (w : Nat) (u way : Int32) : Nat → Nat → Bool
  | 0, _ => true
  | r + 1, j => if dgS w way (nI j) ≤ u then aimU w u way r (j + 1) else false
def aimO (sh : Int32) (w : Nat) (way : Int32) : Nat → Int32 := fun j => opS sh (dgS w way (nI j))
/-- a trial with this openness comes out as it is wanted -/
def aimQ (cnt : Nat → Nat) (tab : Nat → Nat → Int32) (w : Nat) (sq : Int32) (opn : Nat → Int32) (heat : Int32) (wd : Nat) (hard : Int32) : Bool :=
  if crkW cnt tab w sq opn heat (tab 1 0) = true then false else if nI (cloudG (tab 2) ((trK cnt tab w sq opn heat (tab 1 0)).1 2) hard 0 w 0) = nI wd then !behindG (tab 2) ((trK cnt tab w sq opn heat (tab 1 0)).1 2) hard 0 (w - wd) wd else false
def aimS (cnt : Nat → Nat) (tab : Nat → Nat → Int32) (w : Nat) (sq : Int32) (heat : Int32) (wd : Nat) (hard way : Int32) : Bool :=
  aimU w (nI (useG (tab 1 2) 3 0)) way w 0 && aimQ cnt tab w sq (aimO (tab 1 2) w way) heat wd hard
theorem aim_loop (B : BkF lo hi' cnt tab) (hd : bk + 14 < t ∨ t + 12 < bk) {way heat hard u : Int32} {wd : Nat} (hwd : wd ≤ w) : ∀ r j h D x7, TrAt h t cf bk w sq D → BkAt h bk lo hi' cnt tab → j + r = w → (∀ j', j' < j → D 1 j' = aimO (tab 1 2) w way j') → ∃ h' D', tE mX8_isAimed 9 [.ref t, .int way, .int heat, .int (nI wd), .int hard, .int u, .int (nI j), x7] [] h = some (h', some (.int (bI (aimU w u way r j && aimQ cnt tab w sq (aimO (tab 1 2) w way) heat wd hard)))) ∧ TrAt h' t cf bk w sq D' ∧ Fr (t + 2) h h' := by
  intro r
  induction r with
  | zero =>
    intro j h D x7 H K hj G
    obtain rfl : j = w := by omega
    have h0 := H.1
    have hw := H.2.2.1
    have H1 : TrAt h t cf bk j sq (upA D 1 (aimO (tab 1 2) j way)) := TrAt_c H (fun i j' hi hj' => by
      obtain rfl : i = 0 := by omega
      rw [upA_same, show 0 * 5 + j' = j' by omega]; exact G j' hj') (EqI_rf _ _ _)
    obtain ⟨h2, P2, H2, F2⟩ := tr_cracks H1 K B hd (heat := heat) (water := tab 1 0)
    have K2 := BkAt_fr K F2 (by omega)
    rw [upA_same] at P2 H2
    have z2 := H2.1
    have Q := KOk_trK B (bk_c2 K) hw (sq := sq) (water := tab 1 0) (opn := aimO (tab 1 2) j way) (heat := heat)
    refine ⟨h2, _, ?_, H2, F2⟩
    have C2 := tr_isC H2
    rw [bX8_isAimed_9]
    unfold aimU aimQ
    rw [Bool.true_and]
    by_cases c : crkW cnt tab j sq (aimO (tab 1 2) j way) heat (tab 1 0) = true
    · rw [if_pos c]
      rw [show decide ((trK cnt tab j sq (aimO (tab 1 2) j way) heat (tab 1 0)).2.2 ≠ -1) = true from c, bI_t] at P2
      simp only [bX8_isAimed_4, bX8_isAimed_15, bX8_isAimed_18, bX8_isAimed_21, bX8_isAimed_28, bX8_isAimed_37, bX8_isAimed_39, bX8_isAimed_43, bX8_isAimed_51, bX8_isAimed_57, bX8_isAimed_63, bX8_isAimed_66, bX8_isAimed_69, bX8_isAimed_73, bX8_isAimed_79, bX8_isAimed_83, bX8_isAimed_87, bX8_isAimed_94, bX8_isAimed_97, bX8_isAimed_102, bX8_isAimed_101, tk1_some, tk0_some, tkc_some, tkc_none, ↓reduceIte, h0, gf_8_0, tr_isC H, tr_width H, Int32.le_refl, if_true, tm_isO, tr_water H K B.2.1, P2, show ((1 : Int32) = 0) = False from by decide, not_false_eq_true, tm_rb0, bI_f]
    · rw [if_neg c]
      rw [Bool.not_eq_true] at c
      rw [show decide ((trK cnt tab j sq (aimO (tab 1 2) j way) heat (tab 1 0)).2.2 ≠ -1) = false from c, bI_f] at P2
      by_cases d : nI (cloudG (tab 2) ((trK cnt tab j sq (aimO (tab 1 2) j way) heat (tab 1 0)).1 2) hard 0 j 0) = nI wd
      · rw [if_pos d]
        have Bh := tr_behind H2 K2 Q (hard := hard) hwd
        have Cl := tr_cloud H2 K2 Q (hard := hard)
        rw [d] at Cl
        cases e : behindG (tab 2) ((trK cnt tab j sq (aimO (tab 1 2) j way) heat (tab 1 0)).1 2) hard 0 (j - wd) wd with
        | true =>
          rw [e, bI_t] at Bh
          simp only [bX8_isAimed_4, bX8_isAimed_15, bX8_isAimed_18, bX8_isAimed_21, bX8_isAimed_28, bX8_isAimed_37, bX8_isAimed_39, bX8_isAimed_43, bX8_isAimed_51, bX8_isAimed_57, bX8_isAimed_63, bX8_isAimed_66, bX8_isAimed_69, bX8_isAimed_73, bX8_isAimed_79, bX8_isAimed_83, bX8_isAimed_87, bX8_isAimed_94, bX8_isAimed_97, bX8_isAimed_102, bX8_isAimed_101, tk1_some, tk0_some, tkc_some, tkc_none, ↓reduceIte, h0, gf_8_0, tr_isC H, tr_width H, Int32.le_refl, if_true, tm_isO, tr_water H K B.2.1, P2, not_true, if_false, z2, C2, Cl, Bh, show ((1 : Int32) = 0) = False from by decide, not_false_eq_true, tm_rb0, Bool.not_true, bI_f]
        | false =>
          rw [e, bI_f] at Bh
          simp only [bX8_isAimed_4, bX8_isAimed_15, bX8_isAimed_18, bX8_isAimed_21, bX8_isAimed_28, bX8_isAimed_37, bX8_isAimed_39, bX8_isAimed_43, bX8_isAimed_51, bX8_isAimed_57, bX8_isAimed_63, bX8_isAimed_66, bX8_isAimed_69, bX8_isAimed_73, bX8_isAimed_79, bX8_isAimed_83, bX8_isAimed_87, bX8_isAimed_94, bX8_isAimed_97, bX8_isAimed_102, bX8_isAimed_101, tk1_some, tk0_some, tkc_some, tkc_none, ↓reduceIte, h0, gf_8_0, tr_isC H, tr_width H, Int32.le_refl, if_true, tm_isO, tr_water H K B.2.1, P2, not_true, if_false, z2, C2, Cl, Bh, tm_rb1, Bool.not_false, bI_t]
      · rw [if_neg d]
        simp only [bX8_isAimed_4, bX8_isAimed_15, bX8_isAimed_18, bX8_isAimed_21, bX8_isAimed_28, bX8_isAimed_37, bX8_isAimed_39, bX8_isAimed_43, bX8_isAimed_51, bX8_isAimed_57, bX8_isAimed_63, bX8_isAimed_66, bX8_isAimed_69, bX8_isAimed_73, bX8_isAimed_79, bX8_isAimed_83, bX8_isAimed_87, bX8_isAimed_94, bX8_isAimed_97, bX8_isAimed_102, bX8_isAimed_101, tk1_some, tk0_some, tkc_some, tkc_none, ↓reduceIte, h0, gf_8_0, tr_isC H, tr_width H, Int32.le_refl, if_true, tm_isO, tr_water H K B.2.1, P2, not_true, if_false, z2, C2, tr_cloud H2 K2 Q, d, not_false_eq_true, tm_rb0, bI_f]
  | succ r ih =>
    intro j h D x7 H K hj G
    have h0 := H.1
    have hw := H.2.2.1
    have e1 : ¬ nI w ≤ nI j := nI_ge (by omega) (by omega)
    rw [bX8_isAimed_9]
    unfold aimU
    by_cases c : dgS w way (nI j) ≤ u
    · rw [if_pos c]
      obtain ⟨h2, P2, H2, F2⟩ := tr_clay1 H K B.2.1 hd (show j < w by omega) (v := dgS w way (nI j))
      obtain ⟨h3, D3, P3, H3, F3⟩ := ih (j + 1) h2 _ (.int (dgS w way (nI j))) H2 (BkAt_fr K F2 (by omega)) (by omega) (fun j' hj' => by
        rw [upA_same]; unfold upd
        by_cases e : j' = j
        · rw [if_pos e, e]; rfl
        · rw [if_neg e]; exact G j' (by omega))
      refine ⟨h3, D3, ?_, H3, Fr_tr F2 F3⟩
      simp only [bX8_isAimed_4, bX8_isAimed_15, bX8_isAimed_18, bX8_isAimed_21, bX8_isAimed_28, bX8_isAimed_37, bX8_isAimed_39, bX8_isAimed_43, bX8_isAimed_51, tk1_some, tk0_some, tkc_some, tkc_none, ↓reduceIte, h0, gf_8_0, tr_isC H, tr_width H, e1, if_false, tm_isO, dg_spec H, c, if_true, P2, nI_k1, P3]
    · rw [if_neg c, Bool.false_and]
      refine ⟨h, D, ?_, H, Fr_rf _ h⟩
      simp only [bX8_isAimed_4, bX8_isAimed_15, bX8_isAimed_18, bX8_isAimed_21, bX8_isAimed_28, bX8_isAimed_37, bX8_isAimed_39, bX8_isAimed_43, bX8_isAimed_51, tk1_some, tk0_some, tkc_some, tkc_none, ↓reduceIte, h0, gf_8_0, tr_isC H, tr_width H, e1, if_false, tm_isO, dg_spec H, c, tm_rb0, bI_f]
theorem aim_spec {h : tm_H} {D : Nat → Nat → Int32} (H : TrAt h t cf bk w sq D) (K : BkAt h bk lo hi' cnt tab) (B : BkF lo hi' cnt tab) (hd : bk + 14 < t ∨ t + 12 < bk) {way heat hard : Int32} {wd : Nat} (hwd : wd ≤ w) : ∃ h' D', tC mX8_isAimed [.ref t, .int way, .int heat, .int (nI wd), .int hard] h = some (h', some (.int (bI (aimS cnt tab w sq heat wd hard way)))) ∧ TrAt h' t cf bk w sq D' ∧ Fr (t + 2) h h' := by
  obtain ⟨h', D', P, H2, F⟩ := aim_loop B hd (way := way) (heat := heat) (hard := hard) (u := nI (useG (tab 1 2) 3 0)) hwd w 0 h D tm_U H K (by omega) (fun j' hj' => absurd hj' (by omega))
  refine ⟨h', D', ?_, H2, F⟩
  rw [nI_0] at P
  have h0 := H.1
  simp only [cX8_isAimed_, bX8_isAimed_0, bX8_isAimed_4, tk1_some, tk0_some, tkc_some, tkc_none, ↓reduceIte, h0, tm_isO, use_spec H K B.2.1, P]
  rfl
/-- the first that does, from the k-th on, r left -/
def lcI (P : Int32 → Bool) : Nat → Nat → Option Nat
  | 0, _ => none
  | r + 1, k => if P (nI k) = true then some k else lcI P r (k + 1)
def lcO (P : Int32 → Int32 → Bool) (N : Nat) : Nat → Nat → Option Nat
  | 0, _ => none
  | r + 1, t => match lcI (P (nI t)) N 0 with | some k => some k | none => lcO P N r (t + 1)
def lcP (w : Nat) (a : Int32 → Bool) (tot way : Int32) : Bool := decide (totW w way w = tot) && a way
def lcR (w : Nat) : Option Nat → Int32
  | some k => tenW w (nI k) w 0
  | none => -1
theorem lc_in (B : BkF lo hi' cnt tab) (hd : bk + 14 < t ∨ t + 12 < bk) {heat hard tot : Int32} {wd N : Nat} (hwd : wd ≤ w) (hN : N < 2 ^ 31) {x5 : Value} : ∀ r k h D, TrAt h t cf bk w sq D → BkAt h bk lo hi' cnt tab → k + r = N → ∃ h' D', TrAt h' t cf bk w sq D' ∧ Fr (t + 2) h h' ∧ tE mX8_leastClay 37 [.ref t, .int heat, .int (nI wd), .int hard, .int (nI N), x5, .int tot, .int (nI k)] [] h = (match lcI (lcP w (aimS cnt tab w sq heat wd hard) tot) r k with
    | some k => some (h', some (.int (tenW w (nI k) w 0)))
    | none => tE mX8_leastClay 80 [.ref t, .int heat, .int (nI wd), .int hard, .int (nI N), x5, .int tot, .int (nI N)] [] h') := by
  intro r
  induction r with
  | zero =>
    intro k h D H K hk
    obtain rfl : k = N := by omega
    refine ⟨h, D, H, Fr_rf _ h, ?_⟩
    rw [bX8_leastClay_37, if_pos (Int32.le_refl _)]; rfl
  | succ r ih =>
    intro k h D H K hk
    have h0 := H.1
    have e1 : ¬ nI N ≤ nI k := nI_ge (by omega) hN
    rw [bX8_leastClay_37]
    unfold lcI lcP
    by_cases c : totW w (nI k) w = tot
    · obtain ⟨h2, D2, P2, H2, F2⟩ := aim_spec H K B hd (way := nI k) (heat := heat) (hard := hard) hwd
      have z2 := H2.1
      rw [decide_eq_true c, Bool.true_and]
      cases e : aimS cnt tab w sq heat wd hard (nI k) with
      | true =>
        refine ⟨h2, D2, H2, F2, ?_⟩
        rw [e, bI_t] at P2
        simp only [bX8_leastClay_44, bX8_leastClay_50, bX8_leastClay_55, bX8_leastClay_64, bX8_leastClay_67, bX8_leastClay_73, tk1_some, tk0_some, tkc_some, tkc_none, ↓reduceIte, h0, z2, tm_isO, e1, if_false, totW_spec H, c, not_true, P2, show ((1 : Int32) = 0) = False from by decide, tenW_spec H2]
      | false =>
        obtain ⟨h3, D3, H3, F3, P3⟩ := ih (k + 1) h2 D2 H2 (BkAt_fr K F2 (by omega)) (by omega)
        refine ⟨h3, D3, H3, Fr_tr F2 F3, ?_⟩
        rw [e, bI_f] at P2
        simp only [bX8_leastClay_44, bX8_leastClay_50, bX8_leastClay_55, bX8_leastClay_64, bX8_leastClay_74, tk1_some, tk0_some, tkc_some, tkc_none, ↓reduceIte, h0, tm_isO, e1, if_false, totW_spec H, c, not_true, P2, if_true, nI_k1, Bool.false_eq_true]
        exact P3
    · obtain ⟨h3, D3, H3, F3, P3⟩ := ih (k + 1) h D H K (by omega)
      refine ⟨h3, D3, H3, F3, ?_⟩
      rw [decide_eq_false c, Bool.false_and]
      simp only [bX8_leastClay_44, bX8_leastClay_50, bX8_leastClay_74, tk1_some, tk0_some, tkc_some, tkc_none, ↓reduceIte, h0, tm_isO, e1, if_false, totW_spec H, c, not_false_eq_true, if_true, nI_k1, Bool.false_eq_true]
      exact P3
theorem lc_out (B : BkF lo hi' cnt tab) (hd : bk + 14 < t ∨ t + 12 < bk) {heat hard : Int32} {wd N M : Nat} (hwd : wd ≤ w) (hN : N < 2 ^ 31) (hM : M < 1000) : ∀ r k h D x7, TrAt h t cf bk w sq D → BkAt h bk lo hi' cnt tab → k + r = M + 1 → ∃ h' D', TrAt h' t cf bk w sq D' ∧ Fr (t + 2) h h' ∧ tE mX8_leastClay 27 [.ref t, .int heat, .int (nI wd), .int hard, .int (nI N), .int (nI M), .int (nI k), x7] [] h = some (h', some (.int (lcR w (lcO (lcP w (aimS cnt tab w sq heat wd hard)) N r k)))) := by
  intro r
  induction r with
  | zero =>
    intro k h D x7 H K hk
    obtain rfl : k = M + 1 := by omega
    refine ⟨h, D, H, Fr_rf _ h, ?_⟩
    rw [bX8_leastClay_27, if_pos (nI_lt (show M < M + 1 by omega) (by omega)), bX8_leastClay_86]; rfl
  | succ r ih =>
    intro k h D x7 H K hk
    have e1 : ¬ nI M < nI k := nI_nlt (by omega) (by omega)
    obtain ⟨h2, D2, H2, F2, P2⟩ := lc_in B hd (heat := heat) (hard := hard) (tot := nI k) hwd hN (x5 := .int (nI M)) N 0 h D H K (by omega)
    rw [bX8_leastClay_27, if_neg e1, bX8_leastClay_34]
    rw [nI_0] at P2
    unfold lcO
    cases e : lcI (lcP w (aimS cnt tab w sq heat wd hard) (nI k)) N 0 with
    | some k' =>
      rw [e] at P2
      exact ⟨h2, D2, H2, F2, P2⟩
    | none =>
      rw [e] at P2
      obtain ⟨h3, D3, H3, F3, P3⟩ := ih (k + 1) h2 D2 (.int (nI N)) H2 (BkAt_fr K F2 (by omega)) (by omega)
      refine ⟨h3, D3, H3, Fr_tr F2 F3, ?_⟩
      rw [P2]
      simp only []
      rw [bX8_leastClay_80, nI_k1, P3]
def leastS (cnt : Nat → Nat) (tab : Nat → Nat → Int32) (w : Nat) (sq heat : Int32) (wd : Nat) (hard : Int32) : Int32 :=
  lcR w (lcO (lcP w (aimS cnt tab w sq heat wd hard)) (4 ^ w) (3 * w + 1) 0)
theorem shl2 : ∀ w, w < 6 → (1 : Int32) <<< ((2 * nI w) &&& 31) = nI (4 ^ w) := by decide
theorem lc_spec {h : tm_H} {D : Nat → Nat → Int32} (H : TrAt h t cf bk w sq D) (K : BkAt h bk lo hi' cnt tab) (B : BkF lo hi' cnt tab) (hd : bk + 14 < t ∨ t + 12 < bk) {heat hard : Int32} {wd : Nat} (hwd : wd ≤ w) : ∃ h' D', tC mX8_leastClay [.ref t, .int heat, .int (nI wd), .int hard] h = some (h', some (.int (leastS cnt tab w sq heat wd hard))) ∧ TrAt h' t cf bk w sq D' ∧ Fr (t + 2) h h' := by
  have hw := H.2.2.1
  have h4 : 4 ^ w ≤ 4 ^ 5 := Nat.pow_le_pow_right (by decide) hw
  have h0 := H.1
  obtain ⟨h', D', H2, F, P⟩ := lc_out B hd (heat := heat) (hard := hard) (N := 4 ^ w) (M := 3 * w) hwd (by omega) (by omega) (3 * w + 1) 0 h D tm_U H K (by omega)
  refine ⟨h', D', ?_, H2, F⟩
  rw [nI_0] at P
  have e3 : 3 * nI w = nI (3 * w) := nI_mul 3 w
  simp only [cX8_leastClay_, bX8_leastClay_0, bX8_leastClay_6, bX8_leastClay_9, bX8_leastClay_18, bX8_leastClay_21, tk1_some, tk0_some, tkc_some, tkc_none, ↓reduceIte, h0, gf_8_0, tr_isC H, tr_width H, shl2 w (by omega), e3, P]
  rfl
def clouF (cnt : Nat → Nat) (tab : Nat → Nat → Int32) (w : Nat) (sq : Int32) (opn : Nat → Int32) (red light water wanted hard : Int32) (v : Int32) : Bool :=
  if redS (tab 4) (cnt 4) v light = red then (if crkW cnt tab w sq opn v water = true then false else decide (nI (cloudG (tab 2) ((trK cnt tab w sq opn v water).1 2) hard 0 w 0) = wanted)) else false
theorem clou_loop (B : BkF lo hi' cnt tab) (hd : bk + 14 < t ∨ t + 12 < bk) {red light water wanted hard : Int32} {opn : Nat → Int32} : ∀ r k c h D, TrAt h t cf bk w sq D → D 1 = opn → BkAt h bk lo hi' cnt tab → k + r = 1000 → ∃ h' D', tE mX8_cloudedByEye 17 [.ref t, .int red, .int light, .int wanted, .int hard, .int water, .int c, .int (nI k)] [] h = some (h', some (.int (cnF (clouF cnt tab w sq opn red light water wanted hard) r k c))) ∧ TrAt h' t cf bk w sq D' ∧ Fr (t + 2) h h' := by
  intro r
  induction r with
  | zero =>
    intro k c h D H e K hk
    obtain rfl : k = 1000 := by omega
    refine ⟨h, D, ?_, H, Fr_rf _ h⟩
    rw [bX8_cloudedByEye_17]
    simp only [bX8_cloudedByEye_73, show (999 : Int32) < nI 1000 from by decide, if_true, cnF]
  | succ r ih =>
    intro k c h D H e K hk
    have h0 := H.1
    rw [bX8_cloudedByEye_17]
    unfold cnF
    by_cases z : redS (tab 4) (cnt 4) (nI k) light = red
    · obtain ⟨h2, P2, H2, F2⟩ := tr_cracks H K B hd (heat := nI k) (water := water)
      have K2 := BkAt_fr K F2 (by omega)
      rw [e] at P2 H2
      have z2 := H2.1
      have C2 := tr_isC H2
      have Q := KOk_trK B (bk_c2 K) H.2.2.1 (sq := sq) (water := water) (opn := opn) (heat := nI k)
      have e2 := trK_1 (cnt := cnt) (tab := tab) (w := w) (sq := sq) (opn := opn) (heat := nI k) (water := water)
      have ey : clouF cnt tab w sq opn red light water wanted hard (nI k) = if crkW cnt tab w sq opn (nI k) water = true then false else decide (nI (cloudG (tab 2) ((trK cnt tab w sq opn (nI k) water).1 2) hard 0 w 0) = wanted) := by unfold clouF; rw [if_pos z]
      rw [ey]
      by_cases y : crkW cnt tab w sq opn (nI k) water = true
      · obtain ⟨h3, D3, P3, H3, F3⟩ := ih (k + 1) c h2 _ H2 e2 K2 (by omega)
        refine ⟨h3, D3, ?_, H3, Fr_tr F2 F3⟩
        rw [show decide ((trK cnt tab w sq opn (nI k) water).2.2 ≠ -1) = true from y, bI_t] at P2
        simp only [bX8_cloudedByEye_25, bX8_cloudedByEye_29, bX8_cloudedByEye_35, bX8_cloudedByEye_39, bX8_cloudedByEye_47, bX8_cloudedByEye_67, tk1_some, tk0_some, tkc_some, tkc_none, ↓reduceIte, lt999 (show k < 1000 by omega), if_false, h0, gf_8_2, bk_o K, tm_isO, red_spec K, z, not_true, P2, show ((1 : Int32) = 0) = False from by decide, not_false_eq_true, if_true, nI_k1, P3, y, Bool.false_eq_true]
      · rw [Bool.not_eq_true] at y
        rw [show decide ((trK cnt tab w sq opn (nI k) water).2.2 ≠ -1) = false from y, bI_f] at P2
        by_cases d : nI (cloudG (tab 2) ((trK cnt tab w sq opn (nI k) water).1 2) hard 0 w 0) = wanted
        · obtain ⟨h3, D3, P3, H3, F3⟩ := ih (k + 1) (c + 1) h2 _ H2 e2 K2 (by omega)
          refine ⟨h3, D3, ?_, H3, Fr_tr F2 F3⟩
          simp only [bX8_cloudedByEye_25, bX8_cloudedByEye_29, bX8_cloudedByEye_35, bX8_cloudedByEye_39, bX8_cloudedByEye_47, bX8_cloudedByEye_50, bX8_cloudedByEye_54, bX8_cloudedByEye_60, bX8_cloudedByEye_64, bX8_cloudedByEye_67, tk1_some, tk0_some, tkc_some, tkc_none, ↓reduceIte, lt999 (show k < 1000 by omega), if_false, h0, z2, C2, gf_8_2, gf_8_0, bk_o K, tm_isO, red_spec K, z, not_true, P2, tr_cloud H2 K2 Q, d, nI_k1, P3, y, if_true, Bool.false_eq_true, decide_true]
        · obtain ⟨h3, D3, P3, H3, F3⟩ := ih (k + 1) c h2 _ H2 e2 K2 (by omega)
          refine ⟨h3, D3, ?_, H3, Fr_tr F2 F3⟩
          simp only [bX8_cloudedByEye_25, bX8_cloudedByEye_29, bX8_cloudedByEye_35, bX8_cloudedByEye_39, bX8_cloudedByEye_47, bX8_cloudedByEye_50, bX8_cloudedByEye_54, bX8_cloudedByEye_60, bX8_cloudedByEye_67, tk1_some, tk0_some, tkc_some, tkc_none, ↓reduceIte, lt999 (show k < 1000 by omega), if_false, h0, z2, C2, gf_8_2, gf_8_0, bk_o K, tm_isO, red_spec K, z, not_true, P2, tr_cloud H2 K2 Q, d, nI_k1, P3, y, if_true, Bool.false_eq_true, not_false_eq_true, decide_false]
    · obtain ⟨h3, D3, P3, H3, F3⟩ := ih (k + 1) c h D H e K (by omega)
      refine ⟨h3, D3, ?_, H3, F3⟩
      have ey : clouF cnt tab w sq opn red light water wanted hard (nI k) = false := by unfold clouF; rw [if_neg z]
      simp only [bX8_cloudedByEye_25, bX8_cloudedByEye_29, bX8_cloudedByEye_35, bX8_cloudedByEye_67, tk1_some, tk0_some, tkc_some, tkc_none, ↓reduceIte, lt999 (show k < 1000 by omega), if_false, h0, gf_8_2, bk_o K, tm_isO, red_spec K, z, not_false_eq_true, if_true, nI_k1, P3, ey, Bool.false_eq_true]
theorem clou_spec {h : tm_H} {D : Nat → Nat → Int32} (H : TrAt h t cf bk w sq D) (K : BkAt h bk lo hi' cnt tab) (B : BkF lo hi' cnt tab) (hd : bk + 14 < t ∨ t + 12 < bk) {red light wanted hard : Int32} : ∃ h' D', tC mX8_cloudedByEye [.ref t, .int red, .int light, .int wanted, .int hard] h = some (h', some (.int (cnF (clouF cnt tab w sq (opnS (tab 1 2) cf (-1)) red light (tab 1 0) wanted hard) 1000 0 0))) ∧ TrAt h' t cf bk w sq D' ∧ Fr (t + 2) h h' := by
  obtain ⟨h2, P2, H2, F2⟩ := tr_clayW H K B.2.1 hd (ch := -1)
  have K2 := BkAt_fr K F2 (by omega)
  obtain ⟨h3, D3, P3, H3, F3⟩ := clou_loop B hd (red := red) (light := light) (water := tab 1 0) (wanted := wanted) (hard := hard) 1000 0 0 h2 _ H2 (upA_same _ _ _) K2 (by omega)
  refine ⟨h3, D3, ?_, H3, Fr_tr F2 F3⟩
  have h0 := H.1
  have z2 := H2.1
  rw [nI_0] at P3
  simp only [cX8_cloudedByEye_, bX8_cloudedByEye_0, bX8_cloudedByEye_5, bX8_cloudedByEye_9, tk1_some, tk0_some, tkc_some, tkc_none, ↓reduceIte, h0, tm_isO, P2, z2, tr_water H2 K2 B.2.1, P3]
theorem CAt_obx {h : tm_H} {b c : Nat} {A : Nat → Nat → Int32} {p q bk cuts w : Nat} {sq water : Int32} {tenth turned : Nat} {crk : Int32} (H : CAt h c A p q bk cuts w sq water tenth turned crk) (e : va_E) (hb : b < c ∨ c + 10 < b) : CAt (tm_up h b e) c A p q bk cuts w sq water tenth turned crk := by
  obtain ⟨h1, h2, h3, h4, h5, h6⟩ := H
  exact ⟨by rw [tm_up_ne (by omega)]; exact h1, fun k hk => by rw [tm_up_ne (by omega)]; exact h2 k hk, by rw [tm_up_ne (by omega)]; exact h3, by rw [tm_up_ne (by omega)]; exact h4, h5, h6⟩
theorem tr_fit {h : tm_H} {A : Nat → Nat → Int32} {p q b1 b2 b cuts w0 : Nat} {sq0 water : Int32} {tenth turned : Nat} {crk : Int32} (h0 : h t = tO t b1) (h27 : h (t + 1) = aI 5 cf) (H : CAt h (t + 2) A p q b2 cuts w0 sq0 water tenth turned crk) (K : BkAt h b lo hi' cnt tab) (B : BkF lo hi' cnt tab) (hd : b + 14 < t ∨ t + 12 < b) (hw : w ≤ 5) (ew : tab 0 1 = nI w) : ∃ h', tC mX8_fit [.ref t, .ref b] h = some (h', none) ∧ TrAt h' t cf b w (sqS w w) (fitA tab 1 w A) ∧ (∀ k, (k < t ∨ t + 12 < k) → h' k = h k) := by
  have H1 := CAt_obx (b := t) H (tO t b) (by omega)
  have K1 : BkAt (tm_up h t (tO t b)) b lo hi' cnt tab := ⟨by rw [tm_up_ne (by omega)]; exact K.1, fun l hl => ⟨by rw [tm_up_ne (by omega)]; exact (K.2.1 l hl).1, by rw [tm_up_ne (by omega)]; exact (K.2.1 l hl).2⟩, K.2.2⟩
  obtain ⟨h', P, H2, F⟩ := fit_spec (n := 1) H1 K1 B.1 B.2.1 B.2.2.1 (by omega) (by decide) hw ew
  have F2 : ∀ k, k ≠ t → (k < t + 2 ∨ t + 12 < k) → h' k = h k := fun k x y => by rw [F k (by omega), tm_up_ne x]
  refine ⟨h', ?_, ⟨by rw [F t (by omega)]; exact tm_up_same, by rw [F2 _ (by omega) (by omega)]; exact h27, hw, _, p, q, _, 0, 0, -1, H2, Nat.zero_le _, EqI_rf _ _ _, EqI_rf _ _ _⟩, fun k hk => F2 k (by omega) (by omega)⟩
  have e1 : nI 1 = 1 := rfl
  rw [e1] at P
  have eo := ca_o H1
  simp only [cX8_fit_, bX8_fit_0, bX8_fit_5, bX8_fit_9, bX8_fit_14, tk1_some, tk0_some, tkc_some, tkc_none, ↓reduceIte, h0, tm_pf_eq, ps_8_2, Option.map_some, tm_up_same, gf_8_0, eo, tm_isO, P]
end T4
