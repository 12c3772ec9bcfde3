/-! THE CLASS'S CALLS: the bar -/
theorem nI_iN {i : Int32} (h : 0 ≤ i) : nI (iN i) = i := by
  apply Int32.toInt_inj.mp
  have h0 : 0 ≤ i.toInt := by
    have := Int32.le_iff_toInt_le.mp h
    simpa using this
  have h1 : i.toInt < 2 ^ 31 := Int32.toInt_lt i
  unfold nI iN
  rw [Int32.toInt_ofNat_of_lt (by omega)]
  omega
theorem iN_lt {i : Int32} (h : 0 ≤ i) {c : Nat} (hc : c < 2 ^ 31) (h2 : i < nI c) : iN i < c := by
  rw [← nI_iN h] at h2
  have h1 : i.toInt < 2 ^ 31 := Int32.toInt_lt i
  exact (nI_ltI (by unfold iN; omega) hc).mp h2
theorem iN_le {i : Int32} (h : 0 ≤ i) {c : Nat} (hc : c < 2 ^ 31) (h2 : i ≤ nI c) : iN i ≤ c := by
  rw [← nI_iN h] at h2
  have h1 : i.toInt < 2 ^ 31 := Int32.toInt_lt i
  exact (nI_leI (by unfold iN; omega) hc).mp h2
theorem inB_t {v lo hi : Int32} (h : inB v lo hi = true) : lo ≤ v ∧ v ≤ hi := by
  unfold inB at h
  split at h
  · cases h
  · rename_i a
    split at h
    · cases h
    · rename_i b; exact ⟨Int32.not_lt.mp a, Int32.not_lt.mp b⟩
theorem inB_nat {v : Int32} {a b : Nat} (hb : b < 2 ^ 31) (ha : a ≤ b) (h : inB v (nI a) (nI b) = true) : v = nI (iN v) ∧ a ≤ iN v ∧ iN v ≤ b := by
  obtain ⟨h1, h2⟩ := inB_t h
  have h0 : 0 ≤ v := Int32.le_trans (nI_pos' (show a < 2 ^ 31 by omega)) h1
  have h3 := iN_le h0 hb h2
  refine ⟨(nI_iN h0).symm, ?_, h3⟩
  rw [← nI_iN h0] at h1
  exact (nI_leI (by omega) (by omega)).mp h1
def sBr (S : SS) (fh : Int32) (s : BSt) : SS := (S.1, S.2.1, S.2.2.1, (fh, s), S.2.2.2.2)
def sDen (S : SS) (t : Int32) : SS × Value := (sTr S t, .int 0)
def sRef (S : SS) (t : Int32) : SS × Value := (sTr S t, .int (-1))
def sAns (S : SS) (v : Int32) : SS × Value := (sTr S 0, .int v)
section XO
variable {h : tm_H} {S : SS}
theorem x_is (X : XInv h S) : tm_isObj (h 1) 9 = true := by obtain ⟨told, spare, ts, O, _⟩ := X; rw [O]; exact tm_isO
theorem x_g0 (X : XInv h S) : tm_gf (h 1) 9 0 = some (.ref 2) := by obtain ⟨told, spare, ts, O, _⟩ := X; rw [O]; rfl
theorem x_g1 (X : XInv h S) : tm_gf (h 1) 9 5 = some (.ref 40) := by obtain ⟨told, spare, ts, O, _⟩ := X; rw [O]; rfl
theorem x_g2 (X : XInv h S) : tm_gf (h 1) 9 6 = some (.ref 45) := by obtain ⟨told, spare, ts, O, _⟩ := X; rw [O]; rfl
theorem x_g3 (X : XInv h S) : tm_gf (h 1) 9 7 = some (.ref 57) := by obtain ⟨told, spare, ts, O, _⟩ := X; rw [O]; rfl
theorem x_g4 (X : XInv h S) : tm_gf (h 1) 9 1 = some (.ref 3) := by obtain ⟨told, spare, ts, O, _⟩ := X; rw [O]; rfl
theorem x_g5 (X : XInv h S) : tm_gf (h 1) 9 2 = some (.ref 6) := by obtain ⟨told, spare, ts, O, _⟩ := X; rw [O]; rfl
theorem x_g8 (X : XInv h S) : tm_gf (h 1) 9 8 = some (.int (bI (sBo S))) := by obtain ⟨told, spare, ts, O, _⟩ := X; rw [O]; rfl
theorem x_g9 (X : XInv h S) : tm_gf (h 1) 9 9 = some (.int (nI (sN S))) := by obtain ⟨told, spare, ts, O, _⟩ := X; rw [O]; rfl
theorem x_g10 (X : XInv h S) : tm_gf (h 1) 9 10 = some (.int (sF S)) := by obtain ⟨told, spare, ts, O, _⟩ := X; rw [O]; rfl
theorem x_g11 (X : XInv h S) : tm_gf (h 1) 9 11 = some (.int (sT S)) := by obtain ⟨told, spare, ts, O, _⟩ := X; rw [O]; rfl
theorem x_pf (X : XInv h S) {t : Int32} (ht : t ≠ 4) : ∃ h', tm_pf h 1 9 11 (.int t) = some h' ∧ XInv h' (sTr S t) ∧ FrX h h' := by
  obtain ⟨h', a, b, c⟩ := x_tr X ht
  obtain ⟨told, spare, ts, O, _⟩ := X
  refine ⟨h', ?_, b, c⟩
  rw [tm_pf_eq, O, ps_9_11, Option.map_some, a told spare O]
theorem x_refuse (X : XInv h S) {t : Int32} (ht : t ≠ 4) : ∃ h', tC mX9_refuse [.ref 1, .int t] h = some (h', some (.int (-1))) ∧ XInv h' (sTr S t) ∧ FrX h h' := by
  obtain ⟨h', a, b, c⟩ := x_pf X ht
  exact ⟨h', by simp only [cX9_refuse_, bX9_refuse_0, bX9_refuse_5, tk1_some, tk0_some, tkc_some, tkc_none, ↓reduceIte, a], b, c⟩
theorem x_refuses (X : XInv h S) {t : Int32} (ht : t ≠ 4) : ∃ h', tC mX9_refuses [.ref 1, .int t] h = some (h', some (.int 0)) ∧ XInv h' (sTr S t) ∧ FrX h h' := by
  obtain ⟨h', a, b, c⟩ := x_pf X ht
  exact ⟨h', by simp only [cX9_refuses_, bX9_refuses_0, bX9_refuses_5, tk1_some, tk0_some, tkc_some, tkc_none, ↓reduceIte, a, tm_rb0], b, c⟩
theorem x_answer (X : XInv h S) {v : Int32} : ∃ h', tC mX9_answer [.ref 1, .int v] h = some (h', some (.int v)) ∧ XInv h' (sTr S 0) ∧ FrX h h' := by
  obtain ⟨h', a, b, c⟩ := x_pf X (t := 0) (by decide)
  exact ⟨h', by simp only [cX9_answer_, bX9_answer_0, bX9_answer_5, tk1_some, tk0_some, tkc_some, tkc_none, ↓reduceIte, a], b, c⟩
theorem x_agrees (X : XInv h S) : ∃ h', tC mX9_agrees [.ref 1] h = some (h', some (.int 1)) ∧ XInv h' (sTr S 0) ∧ FrX h h' := by
  obtain ⟨h', a, b, c⟩ := x_pf X (t := 0) (by decide)
  exact ⟨h', by simp only [cX9_agrees_, bX9_agrees_0, bX9_agrees_5, tk1_some, tk0_some, tkc_some, tkc_none, ↓reduceIte, a, tm_rb1], b, c⟩
theorem x_bar (X : XInv h S) : ∃ bx wa, BAt h 45 (sH S) (sR S) bx (cutS S) (widS S) (sqW S) wa ∧ (sBo S = true → wa = sB S 1 0 ∧ bx < 26 ∧ ∃ lo hi, BkAt h bx lo hi (sC S) (sB S) ∧ BkF lo hi (sC S) (sB S)) ∧ (∀ h' fh s, BAt h' 45 fh s bx (cutS S) (widS S) (sqW S) wa → FrB 45 h h' → XInv h' (sBr S fh s) ∧ FrX h h') := by
  obtain ⟨told, spare, ts, O, T2, R, K, ⟨bx, wa, b, bb⟩, Tr, Bi, Bl⟩ := X
  refine ⟨bx, wa, b, fun z => ?_, fun h' fh s b' F => ⟨⟨told, spare, ts, by rw [F 1 (by omega)]; exact O, by rw [F 2 (by omega)]; exact T2, XRd_c (fun k hk => F k (by omega)) R, XBks_c ts (fun k h1 h2 => F k (by omega)) K, ⟨bx, wa, b', bb⟩, XTri_c (fun k hk => F k (by omega)) Tr, XBil_c (fun k h1 h2 => F k (by omega)) Bi, XBla_c (fun k h1 h2 => F k (by omega)) Bl⟩, fun k hk => F k (by omega)⟩⟩
  obtain ⟨e1, e2⟩ := bb z
  obtain ⟨⟨lo, hi, k1, k2⟩, _⟩ := K
  exact ⟨e2, by omega, lo, hi, by rw [e1]; exact k1, k2 z⟩
theorem x_g23 (X : XInv h S) : tm_gf (h 45) 0 0 = some (.ref 46) := by
  obtain ⟨bx, wa, b, _⟩ := x_bar X
  rw [b.1]; rfl
theorem x_i23 (X : XInv h S) : tm_isObj (h 45) 0 = true := by
  obtain ⟨bx, wa, b, _⟩ := x_bar X
  rw [b.1]; exact tm_isO
theorem x_ce (X : XInv h S) : ∃ p q bx wa, CAt h 46 (sR S).1 p q bx (cutS S) (widS S) (sqW S) wa (sR S).2.2.2.1 (sR S).2.1 (sR S).2.2.1 ∧ (sBo S = true → ∃ lo hi, BkAt h bx lo hi (sC S) (sB S) ∧ BkF lo hi (sC S) (sB S)) ∧ (sR S).2.1 ≤ 40 := by
  obtain ⟨bx, wa, ⟨_, ⟨p, q, c⟩, t⟩, bb, _⟩ := x_bar X
  exact ⟨p, q, bx, wa, c, fun z => (bb z).2.2, t⟩
theorem x_i24 (X : XInv h S) : tm_isObj (h 46) 4 = true := by
  obtain ⟨p, q, bx, wa, c, _⟩ := x_ce X
  rw [ca_o c]; exact tm_isO
def hasS (S : SS) (i j : Int32) : Bool := decide (0 ≤ i) && decide (i < nI (cutS S)) && decide (0 ≤ j) && decide (j < nI (widS S))
theorem x_has (X : XInv h S) {i j : Int32} : tC mX4_has [.ref 46, .int i, .int j] h = some (h, some (.int (bI (hasS S i j)))) := by
  obtain ⟨p, q, bx, wa, c, _⟩ := x_ce X
  exact ce_has c
theorem has_nat (P : PX S) {i j : Int32} (H : hasS S i j = true) : i = nI (iN i) ∧ iN i < cutS S ∧ j = nI (iN j) ∧ iN j < widS S ∧ sBo S = true := by
  unfold hasS at H
  simp only [Bool.and_eq_true, decide_eq_true_eq] at H
  obtain ⟨⟨⟨a, b⟩, c⟩, d⟩ := H
  have hc := px_c P
  have hw := px_w P
  have e := iN_lt a (show cutS S < 2 ^ 31 by omega) b
  refine ⟨(nI_iN a).symm, e, (nI_iN c).symm, iN_lt c (by omega) d, ?_⟩
  unfold cutS at e
  split at e
  · assumption
  · omega
theorem ih_spec {h : tm_H} {v : Int32} : tC mX9_isHeat [.int v] h = some (h, some (.int (bI (inB v 0 999)))) := by
  simp only [cX9_isHeat_, bX9_isHeat_0, bX9_isHeat_8, tk1_some, tk0_some, tkc_some, tkc_none, ↓reduceIte, within_spec, tm_rbb]
theorem ihd_spec {h : tm_H} {v : Int32} : tC mX9_isHardness [.int v] h = some (h, some (.int (bI (inB v 0 99)))) := by
  simp only [cX9_isHardness_, bX9_isHardness_0, bX9_isHardness_7, tk1_some, tk0_some, tkc_some, tkc_none, ↓reduceIte, within_spec, tm_rbb]
theorem isg_spec {h : tm_H} {v : Int32} : tC mX9_isSigns [.int v] h = some (h, some (.int (bI (inB v 0 255)))) := by
  simp only [cX9_isSigns_, bX9_isSigns_0, bX9_isSigns_8, tk1_some, tk0_some, tkc_some, tkc_none, ↓reduceIte, within_spec, tm_rbb]
def sHeat (S : SS) (v : Int32) : SS × Value :=
  if sBo S = true then (if inB v 0 999 = true then (sTr (sBr S v (heatS (sB S) (cutS S) (widS S) (sqW S) v (sR S).1, 0, -1, 0, 0, 0)) 0, .int 1) else sDen S 2) else sDen S 1
theorem x_heat (X : XInv h S) {v : Int32} : ∃ h', tC mX9_heat [.ref 1, .int v] h = some (h', some (sHeat S v).2) ∧ XInv h' (sHeat S v).1 ∧ FrX h h' := by
  unfold sHeat
  cases bo : sBo S with
  | false =>
    obtain ⟨h', a, b, c⟩ := x_refuses X (t := 1) (by decide)
    refine ⟨h', ?_, b, c⟩
    simp only [cX9_heat_, bX9_heat_0, bX9_heat_4, bX9_heat_7, bX9_heat_12, bX9_heat_13, bX9_heat_17, bX9_heat_20, bX9_heat_25, bX9_heat_26, bX9_heat_30, bX9_heat_34, bX9_heat_38, tk1_some, tk0_some, tkc_some, tkc_none, ↓reduceIte, x_g8 X, x_is X, bo, bI_f, not_true, if_false, a, tm_rb0, Bool.false_eq_true, sDen]
  | true =>
    cases iv : inB v 0 999 with
    | false =>
      obtain ⟨h', a, b, c⟩ := x_refuses X (t := 2) (by decide)
      refine ⟨h', ?_, b, c⟩
      simp only [cX9_heat_, bX9_heat_0, bX9_heat_4, bX9_heat_7, bX9_heat_12, bX9_heat_13, bX9_heat_17, bX9_heat_20, bX9_heat_25, bX9_heat_26, bX9_heat_30, bX9_heat_34, bX9_heat_38, tk1_some, tk0_some, tkc_some, tkc_none, ↓reduceIte, x_g8 X, x_is X, bo, ih_spec, iv, bI_t, bI_f, show ((1 : Int32) = 0) = False from by decide, not_false_eq_true, not_true, if_false, if_true, a, tm_rb0, Bool.false_eq_true, sDen]
    | true =>
      obtain ⟨bx, wa, B, bb, put⟩ := x_bar X
      obtain ⟨e1, e2, lo, hi, K, F⟩ := bb bo
      obtain ⟨h1, P1, B1, F1⟩ := bar_heat B K F (by omega) (v := v)
      obtain ⟨X1, FX1⟩ := put h1 _ _ B1 F1
      obtain ⟨h2, P2, X2, F2⟩ := x_agrees X1
      refine ⟨h2, ?_, X2, FrX_tr FX1 F2⟩
      simp only [cX9_heat_, bX9_heat_0, bX9_heat_4, bX9_heat_7, bX9_heat_12, bX9_heat_13, bX9_heat_17, bX9_heat_20, bX9_heat_25, bX9_heat_26, bX9_heat_30, bX9_heat_34, bX9_heat_38, tk1_some, tk0_some, tkc_some, tkc_none, ↓reduceIte, x_g8 X, x_g2 X, x_i23 X, x_is X1, bo, ih_spec, iv, bI_t, show ((1 : Int32) = 0) = False from by decide, not_false_eq_true, if_true, P1, P2, tm_rb1]
def sClay (S : SS) (i j t : Int32) : SS × Value :=
  if hasS S i j = true then (if inB t 0 3 = true then (if nI (sR S).2.2.2.1 = 0 then (sTr (sBr S (sH S) (clayA (sB S 1 2) (iN i * 5 + iN j) t (sR S).1, (sR S).2)) 0, .int 1) else sDen S 5) else sDen S 2) else sDen S 1
theorem x_clay (X : XInv h S) (P : PX S) {i j t : Int32} : ∃ h', tC mX9_clay [.ref 1, .int i, .int j, .int t] h = some (h', some (sClay S i j t).2) ∧ XInv h' (sClay S i j t).1 ∧ FrX h h' := by
  obtain ⟨p, q, bx, wa, C, _, _⟩ := x_ce X
  unfold sClay
  cases hs : hasS S i j with
  | false =>
    obtain ⟨h', a, b, c⟩ := x_refuses X (t := 1) (by decide)
    refine ⟨h', ?_, b, c⟩
    simp only [cX9_clay_, bX9_clay_0, bX9_clay_4, bX9_clay_7, bX9_clay_12, bX9_clay_15, bX9_clay_20, bX9_clay_21, bX9_clay_27, bX9_clay_30, bX9_clay_35, bX9_clay_36, bX9_clay_40, bX9_clay_43, bX9_clay_46, bX9_clay_49, bX9_clay_54, bX9_clay_55, bX9_clay_59, bX9_clay_62, bX9_clay_68, bX9_clay_72, tk1_some, tk0_some, tkc_some, tkc_none, ↓reduceIte, x_g2 X, x_g23 X, x_i24 X, x_is X, x_has X, hs, bI_f, not_true, if_false, a, tm_rb0, Bool.false_eq_true, sDen]
  | true =>
    cases iv : inB t 0 3 with
    | false =>
      obtain ⟨h', a, b, c⟩ := x_refuses X (t := 2) (by decide)
      refine ⟨h', ?_, b, c⟩
      simp only [cX9_clay_, bX9_clay_0, bX9_clay_4, bX9_clay_7, bX9_clay_12, bX9_clay_15, bX9_clay_20, bX9_clay_21, bX9_clay_27, bX9_clay_30, bX9_clay_35, bX9_clay_36, bX9_clay_40, bX9_clay_43, bX9_clay_46, bX9_clay_49, bX9_clay_54, bX9_clay_55, bX9_clay_59, bX9_clay_62, bX9_clay_68, bX9_clay_72, tk1_some, tk0_some, tkc_some, tkc_none, ↓reduceIte, x_g2 X, x_g23 X, x_i24 X, x_is X, x_has X, hs, within_spec, iv, bI_t, bI_f, show ((1 : Int32) = 0) = False from by decide, not_false_eq_true, not_true, if_false, if_true, a, tm_rb0, Bool.false_eq_true, sDen]
    | true =>
      by_cases tz : nI (sR S).2.2.2.1 = 0
      · obtain ⟨ei, hi, ej, hj, bo⟩ := has_nat P hs
        obtain ⟨bx, wa, B, bb, put⟩ := x_bar X
        obtain ⟨e1, e2, lo, hi', K, F⟩ := bb bo
        obtain ⟨h0, ⟨p, q, C'⟩, t4⟩ := B
        obtain ⟨h1, P1, C1, F1⟩ := clay_in C' K F.2.1 (by omega) hi hj (t := t)
        obtain ⟨X1, FX1⟩ := put h1 (sH S) (clayA (sB S 1 2) (iN i * 5 + iN j) t (sR S).1, (sR S).2) ⟨by rw [F1 45 (by omega)]; exact h0, ⟨p, q, C1⟩, t4⟩ (FrB_c F1)
        obtain ⟨h2, P2, X2, F2⟩ := x_agrees X1
        rw [← ei, ← ej] at P1
        replace P1 : tC mX4_setClay [.ref 46, .int i, .int j, .int t] h = some (h1, none) := P1
        rw [if_pos rfl, if_pos rfl, if_pos tz]
        refine ⟨h2, ?_, X2, FrX_tr FX1 F2⟩
        simp only [cX9_clay_, bX9_clay_0, bX9_clay_4, bX9_clay_7, bX9_clay_12, bX9_clay_15, bX9_clay_20, bX9_clay_21, bX9_clay_27, bX9_clay_30, bX9_clay_35, bX9_clay_36, bX9_clay_40, bX9_clay_43, bX9_clay_46, bX9_clay_49, bX9_clay_54, bX9_clay_55, bX9_clay_59, bX9_clay_62, bX9_clay_68, bX9_clay_72, tk1_some, tk0_some, tkc_some, tkc_none, ↓reduceIte, x_g2 X, x_g23 X, x_i24 X, x_is X, x_is X1, x_has X, hs, within_spec, iv, ce_tenth C, tz, bI_t, show ((1 : Int32) = 0) = False from by decide, not_false_eq_true, if_true, P1, P2, tm_rb1]
      · obtain ⟨h', a, b, c⟩ := x_refuses X (t := 5) (by decide)
        rw [if_pos rfl, if_pos rfl, if_neg tz]
        refine ⟨h', ?_, b, c⟩
        simp only [cX9_clay_, bX9_clay_0, bX9_clay_4, bX9_clay_7, bX9_clay_12, bX9_clay_15, bX9_clay_20, bX9_clay_21, bX9_clay_27, bX9_clay_30, bX9_clay_35, bX9_clay_36, bX9_clay_40, bX9_clay_43, bX9_clay_46, bX9_clay_49, bX9_clay_54, bX9_clay_55, bX9_clay_59, bX9_clay_62, bX9_clay_68, bX9_clay_72, tk1_some, tk0_some, tkc_some, tkc_none, ↓reduceIte, x_g2 X, x_g23 X, x_i24 X, x_is X, x_has X, hs, within_spec, iv, ce_tenth C, tz, bI_t, show ((1 : Int32) = 0) = False from by decide, not_false_eq_true, if_true, if_false, a, tm_rb0, sDen]
def goS (S : SS) (n : Int32) : BSt := barS (sC S) (sB S) (cutS S) (widS S) (sqW S) (sB S 1 0) (iN n) (sR S)
def sGo (S : SS) (n : Int32) : SS × Value :=
  if sBo S = true then (if inB n 1 60 = true then (if nI (sR S).2.2.2.1 + n ≤ 400 then (if (sR S).2.2.1 = -1 then (sTr (sBr S (sH S) (goS S n)) 0, .int (nI ((goS S n).2.2.2.1 - (sR S).2.2.2.1))) else sRef S 5) else sRef S 3) else sRef S 2) else sRef S 1
theorem x_go (X : XInv h S) {n : Int32} : ∃ h', tC mX9_go [.ref 1, .int n] h = some (h', some (sGo S n).2) ∧ XInv h' (sGo S n).1 ∧ FrX h h' := by
  obtain ⟨p, q, bx, wa, C, _, _⟩ := x_ce X
  unfold sGo
  cases bo : sBo S with
  | false =>
    obtain ⟨h', a, b, c⟩ := x_refuse X (t := 1) (by decide)
    refine ⟨h', ?_, b, c⟩
    simp only [cX9_go_, bX9_go_0, bX9_go_4, bX9_go_7, bX9_go_12, bX9_go_13, bX9_go_20, bX9_go_23, bX9_go_28, bX9_go_29, bX9_go_33, bX9_go_36, bX9_go_39, bX9_go_47, bX9_go_52, bX9_go_53, bX9_go_57, bX9_go_60, bX9_go_63, bX9_go_66, bX9_go_71, bX9_go_72, bX9_go_77, bX9_go_81, bX9_go_84, tk1_some, tk0_some, tkc_some, tkc_none, ↓reduceIte, x_g8 X, x_is X, bo, bI_f, not_true, if_false, a, Bool.false_eq_true, sRef]
  | true =>
    cases iv : inB n 1 60 with
    | false =>
      obtain ⟨h', a, b, c⟩ := x_refuse X (t := 2) (by decide)
      refine ⟨h', ?_, b, c⟩
      simp only [cX9_go_, bX9_go_0, bX9_go_4, bX9_go_7, bX9_go_12, bX9_go_13, bX9_go_20, bX9_go_23, bX9_go_28, bX9_go_29, bX9_go_33, bX9_go_36, bX9_go_39, bX9_go_47, bX9_go_52, bX9_go_53, bX9_go_57, bX9_go_60, bX9_go_63, bX9_go_66, bX9_go_71, bX9_go_72, bX9_go_77, bX9_go_81, bX9_go_84, tk1_some, tk0_some, tkc_some, tkc_none, ↓reduceIte, x_g8 X, x_is X, bo, within_spec, iv, bI_t, bI_f, show ((1 : Int32) = 0) = False from by decide, not_false_eq_true, not_true, if_false, if_true, a, Bool.false_eq_true, sRef]
    | true =>
      by_cases l : nI (sR S).2.2.2.1 + n ≤ 400
      · by_cases cr : (sR S).2.2.1 = -1
        · obtain ⟨bx, wa, B, bb, put⟩ := x_bar X
          obtain ⟨e1, e2, lo, hi, K, F⟩ := bb bo
          obtain ⟨en, h1n, h60⟩ := inB_nat (a := 1) (b := 60) (by decide) (by decide) iv
          obtain ⟨h1, P1, B1, F1⟩ := bar_cool B K F (by omega) (N := iN n) (by omega)
          obtain ⟨X1, FX1⟩ := put h1 _ _ B1 F1
          rw [e1] at X1 P1
          obtain ⟨h2, P2, X2, F2⟩ := x_answer X1 (v := nI ((goS S n).2.2.2.1 - (sR S).2.2.2.1))
          rw [← en] at P1
          replace P1 : tC mX0_coolFor [.ref 45, .int n] h = some (h1, some (.int (nI ((goS S n).2.2.2.1 - (sR S).2.2.2.1)))) := P1
          rw [if_pos rfl, if_pos rfl, if_pos l, if_pos cr]
          refine ⟨h2, ?_, X2, FrX_tr FX1 F2⟩
          simp only [cX9_go_, bX9_go_0, bX9_go_4, bX9_go_7, bX9_go_12, bX9_go_13, bX9_go_20, bX9_go_23, bX9_go_28, bX9_go_29, bX9_go_33, bX9_go_36, bX9_go_39, bX9_go_47, bX9_go_52, bX9_go_53, bX9_go_57, bX9_go_60, bX9_go_63, bX9_go_66, bX9_go_71, bX9_go_72, bX9_go_77, bX9_go_81, bX9_go_84, tk1_some, tk0_some, tkc_some, tkc_none, ↓reduceIte, x_g8 X, x_g2 X, x_g23 X, x_i23 X, x_i24 X, x_is X1, bo, within_spec, iv, ce_tenth C, ce_isCr C, l, cr, show bI (decide ((-1 : Int32) ≠ -1)) = 0 from by decide, bI_t, show ((1 : Int32) = 0) = False from by decide, not_false_eq_true, if_true, P1, P2]
        · obtain ⟨h', a, b, c⟩ := x_refuse X (t := 5) (by decide)
          rw [if_pos rfl, if_pos rfl, if_pos l, if_neg cr]
          refine ⟨h', ?_, b, c⟩
          have ed : bI (decide ((sR S).2.2.1 ≠ -1)) = 1 := by rw [decide_eq_true cr]; rfl
          simp only [cX9_go_, bX9_go_0, bX9_go_4, bX9_go_7, bX9_go_12, bX9_go_13, bX9_go_20, bX9_go_23, bX9_go_28, bX9_go_29, bX9_go_33, bX9_go_36, bX9_go_39, bX9_go_47, bX9_go_52, bX9_go_53, bX9_go_57, bX9_go_60, bX9_go_63, bX9_go_66, bX9_go_71, bX9_go_72, bX9_go_77, bX9_go_81, bX9_go_84, tk1_some, tk0_some, tkc_some, tkc_none, ↓reduceIte, x_g8 X, x_g2 X, x_g23 X, x_i24 X, x_is X, bo, within_spec, iv, ce_tenth C, ce_isCr C, l, ed, bI_t, show ((1 : Int32) = 0) = False from by decide, not_false_eq_true, if_true, if_false, a, sRef]
      · obtain ⟨h', a, b, c⟩ := x_refuse X (t := 3) (by decide)
        rw [if_pos rfl, if_pos rfl, if_neg l]
        refine ⟨h', ?_, b, c⟩
        simp only [cX9_go_, bX9_go_0, bX9_go_4, bX9_go_7, bX9_go_12, bX9_go_13, bX9_go_20, bX9_go_23, bX9_go_28, bX9_go_29, bX9_go_33, bX9_go_36, bX9_go_39, bX9_go_47, bX9_go_52, bX9_go_53, bX9_go_57, bX9_go_60, bX9_go_63, bX9_go_66, bX9_go_71, bX9_go_72, bX9_go_77, bX9_go_81, bX9_go_84, tk1_some, tk0_some, tkc_some, tkc_none, ↓reduceIte, x_g8 X, x_g2 X, x_g23 X, x_i24 X, x_is X, bo, within_spec, iv, ce_tenth C, l, bI_t, show ((1 : Int32) = 0) = False from by decide, not_false_eq_true, if_true, if_false, a, sRef]
def backS (S : SS) (n : Int32) : BSt := if n = nI (sR S).2.2.2.1 then sR S else barS (sC S) (sB S) (cutS S) (widS S) (sqW S) (sB S 1 0) (iN n) (heatS (sB S) (cutS S) (widS S) (sqW S) (sH S) (sR S).1, 0, -1, 0, 0, 0)
def sAgain (S : SS) (n : Int32) : SS × Value :=
  if sBo S = true then (if inB n 0 (nI (sR S).2.2.2.1) = true then (sTr (sBr S (sH S) (backS S n)) 0, .int 1) else sDen S 2) else sDen S 1
theorem x_again (X : XInv h S) (P : PX S) {n : Int32} : ∃ h', tC mX9_again [.ref 1, .int n] h = some (h', some (sAgain S n).2) ∧ XInv h' (sAgain S n).1 ∧ FrX h h' := by
  obtain ⟨p, q, bx, wa, C, _, _⟩ := x_ce X
  have t4 := P.2.2.1
  unfold sAgain
  cases bo : sBo S with
  | false =>
    obtain ⟨h', a, b, c⟩ := x_refuses X (t := 1) (by decide)
    refine ⟨h', ?_, b, c⟩
    simp only [cX9_again_, bX9_again_0, bX9_again_4, bX9_again_7, bX9_again_12, bX9_again_13, bX9_again_19, bX9_again_22, bX9_again_25, bX9_again_28, bX9_again_31, bX9_again_36, bX9_again_37, bX9_again_41, bX9_again_45, bX9_again_49, tk1_some, tk0_some, tkc_some, tkc_none, ↓reduceIte, x_g8 X, x_is X, bo, bI_f, not_true, if_false, a, tm_rb0, Bool.false_eq_true, sDen]
  | true =>
    cases iv : inB n 0 (nI (sR S).2.2.2.1) with
    | false =>
      obtain ⟨h', a, b, c⟩ := x_refuses X (t := 2) (by decide)
      refine ⟨h', ?_, b, c⟩
      simp only [cX9_again_, bX9_again_0, bX9_again_4, bX9_again_7, bX9_again_12, bX9_again_13, bX9_again_19, bX9_again_22, bX9_again_25, bX9_again_28, bX9_again_31, bX9_again_36, bX9_again_37, bX9_again_41, bX9_again_45, bX9_again_49, tk1_some, tk0_some, tkc_some, tkc_none, ↓reduceIte, x_g8 X, x_g2 X, x_g23 X, x_i24 X, ce_tenth C, x_is X, bo, within_spec, iv, bI_t, bI_f, show ((1 : Int32) = 0) = False from by decide, not_false_eq_true, not_true, if_false, if_true, a, tm_rb0, Bool.false_eq_true, sDen]
    | true =>
      obtain ⟨bx, wa, B, bb, put⟩ := x_bar X
      obtain ⟨e1, e2, lo, hi, K, F⟩ := bb bo
      obtain ⟨en, h1n, h60⟩ := inB_nat (a := 0) (b := (sR S).2.2.2.1) (by omega) (by omega) iv
      obtain ⟨h1, P1, B1, F1⟩ := bar_back B K F (by omega) (N := iN n) (by omega)
      obtain ⟨X1, FX1⟩ := put h1 _ _ B1 F1
      rw [← en, e1] at X1
      rw [← en] at P1
      obtain ⟨h2, P2, X2, F2⟩ := x_agrees X1
      refine ⟨h2, ?_, X2, FrX_tr FX1 F2⟩
      simp only [cX9_again_, bX9_again_0, bX9_again_4, bX9_again_7, bX9_again_12, bX9_again_13, bX9_again_19, bX9_again_22, bX9_again_25, bX9_again_28, bX9_again_31, bX9_again_36, bX9_again_37, bX9_again_41, bX9_again_45, bX9_again_49, tk1_some, tk0_some, tkc_some, tkc_none, ↓reduceIte, x_g8 X, x_g2 X, x_g23 X, x_i23 X, x_i24 X, ce_tenth C, x_is X1, bo, within_spec, iv, bI_t, show ((1 : Int32) = 0) = False from by decide, not_false_eq_true, if_true, P1, P2, tm_rb1]
end XO
