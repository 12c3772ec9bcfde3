/-! TRIALS of the class: changes, and trials about an aim -/
def heatW (ch heat : Int32) : Int32 := if ch = 0 then keptS (heat - 20) 0 999 else heat
def waterW (wa ch : Int32) : Int32 := if ch = 1 then keptS (wa + 20) 0 999 else wa
def crkW (cnt : Nat → Nat) (tab : Nat → Nat → Int32) (w : Nat) (sq : Int32) (opn : Nat → Int32) (heat water : Int32) : Bool := decide ((trK cnt tab w sq opn heat water).2.2 ≠ -1)
def savS (f : Int32 → Bool) : Nat → Nat → Int32 → Int32
  | 0, _, bits => bits
  | r + 1, k, bits => savS f r (k + 1) (if f (nI k) = true then bits else bits ||| (1 <<< (nI k &&& 31)))
def cI (k : Nat) : Int32 := nI k - 1
theorem cI_s (k : Nat) : cI k + 1 = cI (k + 1) := by
  unfold cI; rw [← nI_k1, Int32.sub_add_cancel, Int32.add_sub_cancel]
def cnI (f : Int32 → Bool) : Nat → Nat → Int32 → Int32
  | 0, _, c => c
  | r + 1, k, c => cnI f r (k + 1) (if f (cI k) = true then c + 1 else c)
def cnO (g : Int32 → Int32 → Int32) : Nat → Nat → Int32 → Int32
  | 0, _, c => c
  | r + 1, k, c => cnO g r (k + 1) (g (cI k) c)
theorem heatW_spec {h : tm_H} {ch heat : Int32} : tC mX8_heatWith [.int ch, .int heat] h = some (h, some (.int (heatW ch heat))) := by
  unfold heatW
  by_cases c : ch = 0
  · rw [if_pos c]
    simp only [cX8_heatWith_, bX8_heatWith_0, bX8_heatWith_4, bX8_heatWith_15, bX8_heatWith_19, bX8_heatWith_18, tk1_some, tk0_some, tkc_some, tkc_none, ↓reduceIte, show (ch = 0) = True from eq_true c, not_true, if_false, kept_spec]
  · rw [if_neg c]
    simp only [cX8_heatWith_, bX8_heatWith_0, bX8_heatWith_4, bX8_heatWith_15, bX8_heatWith_19, bX8_heatWith_18, tk1_some, tk0_some, tkc_some, tkc_none, ↓reduceIte, c, not_false_eq_true, if_true]
section T2
variable {t bk w : Nat} {cf : Nat → Int32} {sq lo hi' : Int32} {cnt : Nat → Nat} {tab : Nat → Nat → Int32}
theorem waterW_spec {h : tm_H} {D : Nat → Nat → Int32} (H : TrAt h t cf bk w sq D) (K : BkAt h bk lo hi' cnt tab) (k1 : 0 < cnt 1) {ch : Int32} : tC mX8_waterWith [.ref t, .int ch] h = some (h, some (.int (waterW (tab 1 0) ch))) := by
  have h0 := H.1
  unfold waterW
  by_cases c : ch = 1
  · rw [if_pos c]
    simp only [cX8_waterWith_, bX8_waterWith_0, bX8_waterWith_4, bX8_waterWith_10, bX8_waterWith_21, bX8_waterWith_25, bX8_waterWith_24, tk1_some, tk0_some, tkc_some, tkc_none, ↓reduceIte, h0, tm_isO, tr_water H K k1, show (ch = 1) = True from eq_true c, not_true, if_false, kept_spec]
  · rw [if_neg c]
    simp only [cX8_waterWith_, bX8_waterWith_0, bX8_waterWith_4, bX8_waterWith_10, bX8_waterWith_21, bX8_waterWith_25, bX8_waterWith_24, tk1_some, tk0_some, tkc_some, tkc_none, ↓reduceIte, h0, tm_isO, tr_water H K k1, c, not_false_eq_true, if_true]
theorem crkW_spec {h : tm_H} {D : Nat → Nat → Int32} (H : TrAt h t cf bk w sq D) (K : BkAt h bk lo hi' cnt tab) (B : BkF lo hi' cnt tab) (hd : bk + 14 < t ∨ t + 12 < bk) {ch heat : Int32} : ∃ h' D', tC mX8_cracksWith [.ref t, .int ch, .int heat] h = some (h', some (.int (bI (crkW cnt tab w sq (opnS (tab 1 2) cf ch) (heatW ch heat) (waterW (tab 1 0) ch))))) ∧ TrAt h' t cf bk w sq D' ∧ Fr (t + 2) h h' := by
  obtain ⟨h2, P2, H2, F2⟩ := tr_clayW H K B.2.1 hd (ch := ch)
  have K2 := BkAt_fr K F2 (by omega)
  obtain ⟨h3, P3, H3, F3⟩ := tr_cracks H2 K2 B hd (heat := heatW ch heat) (water := waterW (tab 1 0) ch)
  refine ⟨h3, _, ?_, H3, Fr_tr F2 F3⟩
  rw [upA_same] at P3
  have h0 := H.1
  have z2 := H2.1
  unfold crkW
  simp only [cX8_cracksWith_, bX8_cracksWith_0, bX8_cracksWith_5, bX8_cracksWith_11, bX8_cracksWith_16, bX8_cracksWith_19, tk1_some, tk0_some, tkc_some, tkc_none, ↓reduceIte, h0, tm_isO, P2, heatW_spec, z2, waterW_spec H2 K2 B.2.1, P3, tm_rbb]
theorem sav_loop (B : BkF lo hi' cnt tab) (hd : bk + 14 < t ∨ t + 12 < bk) {heat : Int32} : ∀ r k bits h D, TrAt h t cf bk w sq D → BkAt h bk lo hi' cnt tab → k + r = 4 → ∃ h' D', tE mX8_savingChanges 4 [.ref t, .int heat, .int bits, .int (nI k)] [] h = some (h', some (.int (savS (fun ch => crkW cnt tab w sq (opnS (tab 1 2) cf ch) (heatW ch heat) (waterW (tab 1 0) ch)) r k bits))) ∧ TrAt h' t cf bk w sq D' ∧ Fr (t + 2) h h' := by
  intro r
  induction r with
  | zero =>
    intro k bits h D H K hk
    obtain rfl : k = 4 := by omega
    refine ⟨h, D, ?_, H, Fr_rf _ h⟩
    rw [bX8_savingChanges_4]
    simp only [bX8_savingChanges_30, show (4 : Int32) ≤ nI 4 from by decide, if_true, savS]
  | succ r ih =>
    intro k bits h D H K hk
    have h0 := H.1
    have e1 : ¬ (4 : Int32) ≤ nI k := fun y => (nI_ge (show k < 4 by omega) (show 4 < 2 ^ 31 by decide)) y
    obtain ⟨h2, D2, P2, H2, F2⟩ := crkW_spec H K B hd (ch := nI k) (heat := heat)
    have K2 := BkAt_fr K F2 (by omega)
    rw [bX8_savingChanges_4]
    unfold savS
    by_cases c : crkW cnt tab w sq (opnS (tab 1 2) cf (nI k)) (heatW (nI k) heat) (waterW (tab 1 0) (nI k)) = true
    · obtain ⟨h3, D3, P3, H3, F3⟩ := ih (k + 1) bits h2 D2 H2 K2 (by omega)
      refine ⟨h3, D3, ?_, H3, Fr_tr F2 F3⟩
      rw [c, bI_t] at P2
      simp only [bX8_savingChanges_9, bX8_savingChanges_15, bX8_savingChanges_24, tk1_some, tk0_some, tkc_some, tkc_none, ↓reduceIte, e1, if_false, h0, tm_isO, P2, show ((1 : Int32) = 0) = False from by decide, not_false_eq_true, if_true, nI_k1, P3, c]
    · obtain ⟨h3, D3, P3, H3, F3⟩ := ih (k + 1) (bits ||| (1 <<< (nI k &&& 31))) h2 D2 H2 K2 (by omega)
      refine ⟨h3, D3, ?_, H3, Fr_tr F2 F3⟩
      rw [Bool.not_eq_true] at c
      rw [c, bI_f] at P2
      simp only [bX8_savingChanges_9, bX8_savingChanges_15, bX8_savingChanges_18, bX8_savingChanges_24, tk1_some, tk0_some, tkc_some, tkc_none, ↓reduceIte, e1, if_false, h0, tm_isO, P2, not_true, nI_k1, P3, c, Bool.false_eq_true]
theorem sav_spec {h : tm_H} {D : Nat → Nat → Int32} (H : TrAt h t cf bk w sq D) (K : BkAt h bk lo hi' cnt tab) (B : BkF lo hi' cnt tab) (hd : bk + 14 < t ∨ t + 12 < bk) {heat : Int32} : ∃ h' D', tC mX8_savingChanges [.ref t, .int heat] h = some (h', some (.int (savS (fun ch => crkW cnt tab w sq (opnS (tab 1 2) cf ch) (heatW ch heat) (waterW (tab 1 0) ch)) 4 0 0))) ∧ TrAt h' t cf bk w sq D' ∧ Fr (t + 2) h h' := by
  obtain ⟨h', D', P, H2, F⟩ := sav_loop B hd (heat := heat) 4 0 0 h D H K (by omega)
  refine ⟨h', D', ?_, H2, F⟩
  rw [nI_0] at P
  simp only [cX8_savingChanges_, bX8_savingChanges_0, P]
theorem nin_loop (B : BkF lo hi' cnt tab) (hd : bk + 14 < t ∨ t + 12 < bk) {x1 x2 x3 x5 x8 : Value} {byW abW hOff : Int32} {opn : Nat → Int32} : ∀ r k c h D x11, TrAt h t cf bk w sq D → D 1 = opn → BkAt h bk lo hi' cnt tab → k + r = 3 → ∃ h' D' y11, tE mX8_cracksOfNine 50 [.ref t, x1, x2, x3, .int byW, x5, .int abW, .int c, x8, .int hOff, .int (cI k), x11] [] h = tE mX8_cracksOfNine 93 [.ref t, x1, x2, x3, .int byW, x5, .int abW, .int (cnI (fun v => crkW cnt tab w sq opn hOff (keptS (abW + v * byW) 0 999)) r k c), x8, .int hOff, .int (cI 3), y11] [] h' ∧ TrAt h' t cf bk w sq D' ∧ D' 1 = opn ∧ Fr (t + 2) h h' := by
  intro r
  induction r with
  | zero =>
    intro k c h D x11 H e K hk
    obtain rfl : k = 3 := by omega
    refine ⟨h, D, x11, ?_, H, e, Fr_rf _ h⟩
    rw [bX8_cracksOfNine_50]
    simp only [show (1 : Int32) < cI 3 from by decide, if_true, cnI]
  | succ r ih =>
    intro k c h D x11 H e K hk
    have h0 := H.1
    have e1 : ¬ (1 : Int32) < cI k := by
      have : k = 0 ∨ k = 1 ∨ k = 2 := by omega
      rcases this with rfl | rfl | rfl <;> decide
    obtain ⟨h2, P2, H2, F2⟩ := tr_cracks H K B hd (heat := hOff) (water := keptS (abW + cI k * byW) 0 999)
    have K2 := BkAt_fr K F2 (by omega)
    rw [e] at P2 H2
    have e2 := trK_1 (cnt := cnt) (tab := tab) (w := w) (sq := sq) (opn := opn) (heat := hOff) (water := keptS (abW + cI k * byW) 0 999)
    rw [bX8_cracksOfNine_50]
    unfold cnI
    by_cases z : crkW cnt tab w sq opn hOff (keptS (abW + cI k * byW) 0 999) = true
    · obtain ⟨h3, D3, y11, P3, H3, e3, F3⟩ := ih (k + 1) (c + 1) h2 _ (.int (keptS (abW + cI k * byW) 0 999)) H2 e2 K2 (by omega)
      refine ⟨h3, D3, y11, ?_, H3, e3, Fr_tr F2 F3⟩
      rw [show decide ((trK cnt tab w sq opn hOff (keptS (abW + cI k * byW) 0 999)).2.2 ≠ -1) = true from z, bI_t] at P2
      simp only [bX8_cracksOfNine_56, bX8_cracksOfNine_71, bX8_cracksOfNine_81, bX8_cracksOfNine_84, bX8_cracksOfNine_87, tk1_some, tk0_some, tkc_some, tkc_none, ↓reduceIte, e1, if_false, kept_spec, h0, tm_isO, P2, show ((1 : Int32) = 0) = False from by decide, cI_s, P3, z, if_true]
    · obtain ⟨h3, D3, y11, P3, H3, e3, F3⟩ := ih (k + 1) c h2 _ (.int (keptS (abW + cI k * byW) 0 999)) H2 e2 K2 (by omega)
      refine ⟨h3, D3, y11, ?_, H3, e3, Fr_tr F2 F3⟩
      rw [Bool.not_eq_true] at z
      rw [show decide ((trK cnt tab w sq opn hOff (keptS (abW + cI k * byW) 0 999)).2.2 ≠ -1) = false from z, bI_f] at P2
      simp only [bX8_cracksOfNine_56, bX8_cracksOfNine_71, bX8_cracksOfNine_81, bX8_cracksOfNine_87, tk1_some, tk0_some, tkc_some, tkc_none, ↓reduceIte, e1, if_false, kept_spec, h0, tm_isO, P2, if_true, cI_s, P3, z, Bool.false_eq_true]
def ninG (cnt : Nat → Nat) (tab : Nat → Nat → Int32) (w : Nat) (sq : Int32) (opn : Nat → Int32) (abH byH abW byW : Int32) (u c : Int32) : Int32 :=
  cnI (fun v => crkW cnt tab w sq opn (keptS (abH + u * byH) 0 999) (keptS (abW + v * byW) 0 999)) 3 0 c
theorem out_loop (B : BkF lo hi' cnt tab) (hd : bk + 14 < t ∨ t + 12 < bk) {x1 x2 : Value} {byH byW abH abW : Int32} {opn : Nat → Int32} : ∀ r k c h D x9 x10 x11, TrAt h t cf bk w sq D → D 1 = opn → BkAt h bk lo hi' cnt tab → k + r = 3 → ∃ h' D', tE mX8_cracksOfNine 25 [.ref t, x1, x2, .int byH, .int byW, .int abH, .int abW, .int c, .int (cI k), x9, x10, x11] [] h = some (h', some (.int (cnO (ninG cnt tab w sq opn abH byH abW byW) r k c))) ∧ TrAt h' t cf bk w sq D' ∧ D' 1 = opn ∧ Fr (t + 2) h h' := by
  intro r
  induction r with
  | zero =>
    intro k c h D x9 x10 x11 H e K hk
    obtain rfl : k = 3 := by omega
    refine ⟨h, D, ?_, H, e, Fr_rf _ h⟩
    rw [bX8_cracksOfNine_25]
    simp only [bX8_cracksOfNine_99, show (1 : Int32) < cI 3 from by decide, if_true, cnO]
  | succ r ih =>
    intro k c h D x9 x10 x11 H e K hk
    have e1 : ¬ (1 : Int32) < cI k := by
      have : k = 0 ∨ k = 1 ∨ k = 2 := by omega
      rcases this with rfl | rfl | rfl <;> decide
    obtain ⟨h2, D2, y11, P2, H2, e2, F2⟩ := nin_loop B hd (x1 := x1) (x2 := x2) (x3 := .int byH) (x5 := .int abH) (x8 := .int (cI k)) (byW := byW) (abW := abW) (hOff := keptS (abH + cI k * byH) 0 999) 3 0 c h D x11 H e K (by omega)
    have K2 := BkAt_fr K F2 (by omega)
    obtain ⟨h3, D3, P3, H3, e3, F3⟩ := ih (k + 1) (ninG cnt tab w sq opn abH byH abW byW (cI k) c) h2 D2 (.int (keptS (abH + cI k * byH) 0 999)) (.int (cI 3)) y11 H2 e2 K2 (by omega)
    refine ⟨h3, D3, ?_, H3, e3, Fr_tr F2 F3⟩
    rw [show cI 0 = -1 from by decide] at P2
    rw [bX8_cracksOfNine_25]
    unfold cnO
    rw [← P3]
    simp only [bX8_cracksOfNine_31, bX8_cracksOfNine_45, tk1_some, tk0_some, tkc_some, tkc_none, ↓reduceIte, e1, if_false, kept_spec, P2, bX8_cracksOfNine_93, cI_s]
    rfl
def ninS (cnt : Nat → Nat) (tab : Nat → Nat → Int32) (w : Nat) (sq : Int32) (cf : Nat → Int32) (ch heat byH byW : Int32) : Int32 :=
  cnO (ninG cnt tab w sq (opnS (tab 1 2) cf ch) (heatW ch heat) byH (waterW (tab 1 0) ch) byW) 3 0 0
theorem nin_spec {h : tm_H} {D : Nat → Nat → Int32} (H : TrAt h t cf bk w sq D) (K : BkAt h bk lo hi' cnt tab) (B : BkF lo hi' cnt tab) (hd : bk + 14 < t ∨ t + 12 < bk) {ch heat byH byW : Int32} : ∃ h' D', tC mX8_cracksOfNine [.ref t, .int ch, .int heat, .int byH, .int byW] h = some (h', some (.int (ninS cnt tab w sq cf ch heat byH byW))) ∧ TrAt h' t cf bk w sq D' ∧ Fr (t + 2) h h' := by
  obtain ⟨h2, P2, H2, F2⟩ := tr_clayW H K B.2.1 hd (ch := ch)
  have K2 := BkAt_fr K F2 (by omega)
  obtain ⟨h3, D3, P3, H3, e3, F3⟩ := out_loop B hd (x1 := .int ch) (x2 := .int heat) (byH := byH) (byW := byW) (abH := heatW ch heat) (abW := waterW (tab 1 0) ch) 3 0 0 h2 _ tm_U tm_U tm_U H2 (upA_same _ _ _) K2 (by omega)
  refine ⟨h3, D3, ?_, H3, Fr_tr F2 F3⟩
  have h0 := H.1
  have z2 := H2.1
  rw [show cI 0 = -1 from by decide] at P3
  simp only [cX8_cracksOfNine_, bX8_cracksOfNine_0, bX8_cracksOfNine_5, bX8_cracksOfNine_10, bX8_cracksOfNine_17, tk1_some, tk0_some, tkc_some, tkc_none, ↓reduceIte, h0, tm_isO, P2, heatW_spec, z2, waterW_spec H2 K2 B.2.1, P3]
  rfl
def bstS (f : Int32 → Int32) : Nat → Nat → Int32 → Int32 → Int32
  | 0, _, _, best => best
  | r + 1, k, least, best => if least ≤ f (nI k) then bstS f r (k + 1) least best else bstS f r (k + 1) (f (nI k)) (nI k)
theorem bst_loop (B : BkF lo hi' cnt tab) (hd : bk + 14 < t ∨ t + 12 < bk) {heat byH byW : Int32} : ∀ r k least best h D x7, TrAt h t cf bk w sq D → BkAt h bk lo hi' cnt tab → k + r = 4 → ∃ h' D', tE mX8_bestChange 17 [.ref t, .int heat, .int byH, .int byW, .int least, .int best, .int (nI k), x7] [] h = some (h', some (.int (bstS (fun ch => ninS cnt tab w sq cf ch heat byH byW) r k least best))) ∧ TrAt h' t cf bk w sq D' ∧ Fr (t + 2) h h' := by
  intro r
  induction r with
  | zero =>
    intro k least best h D x7 H K hk
    obtain rfl : k = 4 := by omega
    refine ⟨h, D, ?_, H, Fr_rf _ h⟩
    rw [bX8_bestChange_17]
    simp only [bX8_bestChange_55, show (4 : Int32) ≤ nI 4 from by decide, if_true, bstS]
  | succ r ih =>
    intro k least best h D x7 H K hk
    have h0 := H.1
    have e1 : ¬ (4 : Int32) ≤ nI k := fun y => (nI_ge (show k < 4 by omega) (show 4 < 2 ^ 31 by decide)) y
    obtain ⟨h2, D2, P2, H2, F2⟩ := nin_spec H K B hd (ch := nI k) (heat := heat) (byH := byH) (byW := byW)
    have K2 := BkAt_fr K F2 (by omega)
    rw [bX8_bestChange_17]
    unfold bstS
    by_cases c : least ≤ ninS cnt tab w sq cf (nI k) heat byH byW
    · obtain ⟨h3, D3, P3, H3, F3⟩ := ih (k + 1) least best h2 D2 (.int (ninS cnt tab w sq cf (nI k) heat byH byW)) H2 K2 (by omega)
      refine ⟨h3, D3, ?_, H3, Fr_tr F2 F3⟩
      simp only [bX8_bestChange_23, bX8_bestChange_32, bX8_bestChange_49, tk1_some, tk0_some, tkc_some, tkc_none, ↓reduceIte, e1, if_false, h0, tm_isO, P2, c, if_true, nI_k1, P3]
    · obtain ⟨h3, D3, P3, H3, F3⟩ := ih (k + 1) (ninS cnt tab w sq cf (nI k) heat byH byW) (nI k) h2 D2 (.int (ninS cnt tab w sq cf (nI k) heat byH byW)) H2 K2 (by omega)
      refine ⟨h3, D3, ?_, H3, Fr_tr F2 F3⟩
      simp only [bX8_bestChange_23, bX8_bestChange_32, bX8_bestChange_41, bX8_bestChange_49, tk1_some, tk0_some, tkc_some, tkc_none, ↓reduceIte, e1, if_false, h0, tm_isO, P2, c, nI_k1, P3]
theorem bst_spec {h : tm_H} {D : Nat → Nat → Int32} (H : TrAt h t cf bk w sq D) (K : BkAt h bk lo hi' cnt tab) (B : BkF lo hi' cnt tab) (hd : bk + 14 < t ∨ t + 12 < bk) {heat byH byW : Int32} : ∃ h' D', tC mX8_bestChange [.ref t, .int heat, .int byH, .int byW] h = some (h', some (.int (bstS (fun ch => ninS cnt tab w sq cf ch heat byH byW) 4 0 (ninS cnt tab w sq cf (-1) heat byH byW) (-2)))) ∧ TrAt h' t cf bk w sq D' ∧ Fr (t + 2) h h' := by
  obtain ⟨h2, D2, P2, H2, F2⟩ := nin_spec H K B hd (ch := -1) (heat := heat) (byH := byH) (byW := byW)
  have K2 := BkAt_fr K F2 (by omega)
  obtain ⟨h', D', P, H3, F⟩ := bst_loop B hd (heat := heat) (byH := byH) (byW := byW) 4 0 (ninS cnt tab w sq cf (-1) heat byH byW) (-2) h2 D2 tm_U H2 K2 (by omega)
  refine ⟨h', D', ?_, H3, Fr_tr F2 F⟩
  rw [nI_0] at P
  have h0 := H.1
  simp only [cX8_bestChange_, bX8_bestChange_0, bX8_bestChange_8, tk1_some, tk0_some, tkc_some, tkc_none, ↓reduceIte, h0, tm_isO, P2, P]
end T2
