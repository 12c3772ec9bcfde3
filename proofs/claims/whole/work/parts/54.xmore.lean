/-! THE CLASS'S CALLS: folds, colours, stones, smiths, learning -/
def sBil (S : SS) (d : Nat → Int32) (c : Int32) : SS := (S.1, S.2.1, S.2.2.1, S.2.2.2.1, (d, c), S.2.2.2.2.2)
def sBla (S : SS) (mk hw : Nat → Int32) (n : Nat) : SS := (S.1, S.2.1, S.2.2.1, S.2.2.2.1, S.2.2.2.2.1, (mk, hw, n))
section XM
variable {h : tm_H} {S : SS}
theorem x_told (X : XInv h S) : ∃ told lo hi, tm_gf (h 1) 9 3 = some (.ref told) ∧ BkAt h told lo hi (sC S) (sB S) ∧ (sBo S = true → BkF lo hi (sC S) (sB S)) := by
  obtain ⟨told, spare, ts, O, T2, R, ⟨⟨lo, hi, a, b⟩, _⟩, _⟩ := X
  exact ⟨told, lo, hi, by rw [O]; rfl, a, b⟩
theorem x_bil (X : XInv h S) : h 3 = biO 4 5 (sCa S) ∧ h 4 = aI 8 (sD S) ∧ (∃ t, h 5 = aI 8 t) ∧ (∀ h' d c, XBil h' d c → (∀ k, (k < 3 ∨ 5 < k) → h' k = h k) → XInv h' (sBil S d c) ∧ FrX h h') := by
  obtain ⟨told, spare, ts, O, T2, R, K, Ba, Tr, ⟨a, b, c⟩, Bl⟩ := X
  refine ⟨a, b, c, fun h' d c' bi F => ⟨⟨told, spare, ts, by rw [F 1 (by omega)]; exact O, by rw [F 2 (by omega)]; exact T2, XRd_c (fun k hk => F k (by omega)) R, XBks_c ts (fun k h1 h2 => F k (by omega)) K, XBar_c (fun k h1 h2 => F k (by omega)) Ba, XTri_c (fun k hk => F k (by omega)) Tr, bi, XBla_c (fun k h1 h2 => F k (by omega)) Bl⟩, fun k hk => F k (by omega)⟩⟩
theorem x_bla (X : XInv h S) : h 6 = blO 7 8 9 (sBl S) ∧ h 7 = aI 60 (sMk S) ∧ h 8 = aI 20 (sHw S) ∧ (∃ t, h 9 = aI 6 t) ∧ (∀ h' mk hw n, XBla h' mk hw n → (∀ k, (k < 6 ∨ 9 < k) → h' k = h k) → XInv h' (sBla S mk hw n) ∧ FrX h h') := by
  obtain ⟨told, spare, ts, O, T2, R, K, Ba, Tr, Bi, ⟨a, b, c, d⟩⟩ := X
  refine ⟨a, b, c, d, fun h' mk hw n bl F => ⟨⟨told, spare, ts, by rw [F 1 (by omega)]; exact O, by rw [F 2 (by omega)]; exact T2, XRd_c (fun k hk => F k (by omega)) R, XBks_c ts (fun k h1 h2 => F k (by omega)) K, XBar_c (fun k h1 h2 => F k (by omega)) Ba, XTri_c (fun k hk => F k (by omega)) Tr, XBil_c (fun k h1 h2 => F k (by omega)) Bi, bl⟩, fun k hk => F k (by omega)⟩⟩
theorem bi_has {o : Nat} {v : Int32} : tC mX1_has [.ref o, .int v] h = some (h, some (.int (bI (inB v 0 8)))) := by
  unfold inB
  by_cases a : v < 0
  · simp only [cX1_has_, bX1_has_0, bX1_has_4, bX1_has_10, bX1_has_15, bX1_has_14, tk1_some, tk0_some, tkc_some, tkc_none, ↓reduceIte, a, bI_t, bI_f, show ((1 : Int32) = 0) = False from by decide, not_false_eq_true, not_true, if_true, if_false, Bool.false_eq_true, tm_rb0, tm_rb1]
  · by_cases b : 8 < v
    · simp only [cX1_has_, bX1_has_0, bX1_has_4, bX1_has_10, bX1_has_15, bX1_has_14, tk1_some, tk0_some, tkc_some, tkc_none, ↓reduceIte, a, b, bI_t, bI_f, show ((1 : Int32) = 0) = False from by decide, not_false_eq_true, not_true, if_true, if_false, Bool.false_eq_true, tm_rb0, tm_rb1]
    · simp only [cX1_has_, bX1_has_0, bX1_has_4, bX1_has_10, bX1_has_15, bX1_has_14, tk1_some, tk0_some, tkc_some, tkc_none, ↓reduceIte, a, b, bI_t, bI_f, show ((1 : Int32) = 0) = False from by decide, not_false_eq_true, not_true, if_true, if_false, Bool.false_eq_true, tm_rb0, tm_rb1]
theorem x_i93 (X : XInv h S) : tm_isObj (h 3) 1 = true := by rw [(x_bil X).1]; exact tm_isO
theorem x_i96 (X : XInv h S) : tm_isObj (h 6) 2 = true := by rw [(x_bla X).1]; exact tm_isO
def layS (S : SS) (l : Int32) : Int32 := if l = 8 then sCa S else sD S (iN l)
def sLayer (S : SS) (l : Int32) : Int32 := if sBo S = true then (if inB l 0 8 = true then layS S l else -1) else -1
theorem x_layer (X : XInv h S) {l : Int32} : tC mX9_layer [.ref 1, .int l] h = some (h, some (.int (sLayer S l))) := by
  unfold sLayer
  obtain ⟨a, b, c, _⟩ := x_bil X
  cases bo : sBo S with
  | false => simp only [cX9_layer_, bX9_layer_0, bX9_layer_4, bX9_layer_7, bX9_layer_11, bX9_layer_15, bX9_layer_18, bX9_layer_22, bX9_layer_26, bX9_layer_30, bX9_layer_29, tk1_some, tk0_some, tkc_some, tkc_none, ↓reduceIte, x_g8 X, bo, bI_t, bI_f, show ((1 : Int32) = 0) = False from by decide, not_false_eq_true, not_true, if_true, if_false, Bool.false_eq_true, tm_rb0, tm_rb1]
  | true =>
    cases iv : inB l 0 8 with
    | false => simp only [cX9_layer_, bX9_layer_0, bX9_layer_4, bX9_layer_7, bX9_layer_11, bX9_layer_15, bX9_layer_18, bX9_layer_22, bX9_layer_26, bX9_layer_30, bX9_layer_29, tk1_some, tk0_some, tkc_some, tkc_none, ↓reduceIte, x_g8 X, x_g4 X, x_i93 X, bo, bi_has, iv, bI_t, bI_f, show ((1 : Int32) = 0) = False from by decide, not_false_eq_true, not_true, if_true, if_false, Bool.false_eq_true, tm_rb0, tm_rb1]
    | true =>
      have at8 : tC mX1_at [.ref 3, .int l] h = some (h, some (.int (layS S l))) := by
        unfold layS
        by_cases e : l = 8
        · rw [if_pos e]
          have e' : (l = 8) = True := eq_true e
          simp only [cX1_at_, bX1_at_0, bX1_at_5, bX1_at_8, bX1_at_10, bX1_at_16, bX1_at_20, bX1_at_29, bX1_at_23, bX1_at_27, tk1_some, tk0_some, tkc_some, tkc_none, ↓reduceIte, tm_isO, bi_has, iv, a, gf_1_2, e', bI_t, bI_f, show ((1 : Int32) = 0) = False from by decide, not_false_eq_true, not_true, if_true, if_false, Bool.false_eq_true, tm_rb0, tm_rb1]
        · rw [if_neg e]
          obtain ⟨en, _, h8⟩ := inB_nat (a := 0) (b := 8) (by decide) (by decide) iv
          have n8 : iN l < 8 := by
            refine Nat.lt_of_le_of_ne h8 (fun y => e ?_)
            rw [en, y]; rfl
          have r : tm_ai 0 (h 4) l = some (.int (sD S (iN l))) := by rw [b]; exact tm_ai_in en n8 (by decide)
          simp only [cX1_at_, bX1_at_0, bX1_at_5, bX1_at_8, bX1_at_10, bX1_at_16, bX1_at_20, bX1_at_29, bX1_at_23, bX1_at_27, tk1_some, tk0_some, tkc_some, tkc_none, ↓reduceIte, tm_isO, bi_has, iv, a, gf_1_0, e, r, bI_t, bI_f, show ((1 : Int32) = 0) = False from by decide, not_false_eq_true, not_true, if_true, if_false, Bool.false_eq_true, tm_rb0, tm_rb1]
      simp only [cX9_layer_, bX9_layer_0, bX9_layer_4, bX9_layer_7, bX9_layer_11, bX9_layer_15, bX9_layer_18, bX9_layer_22, bX9_layer_26, bX9_layer_30, bX9_layer_29, tk1_some, tk0_some, tkc_some, tkc_none, ↓reduceIte, x_g8 X, x_g4 X, x_i93 X, bo, bi_has, iv, at8, bI_t, bI_f, show ((1 : Int32) = 0) = False from by decide, not_false_eq_true, not_true, if_true, if_false, Bool.false_eq_true, tm_rb0, tm_rb1]
def sLay (S : SS) (l v : Int32) : SS × Value :=
  if sBo S = true then (if inB l 0 8 = true then (if inB v 0 9999 = true then (if l = 8 then (sTr (sBil S (sD S) v) 0, .int 1) else (sTr (sBil S (upd (sD S) (iN l) v) (sCa S)) 0, .int 1)) else sDen S 2) else sDen S 1) else sDen S 1
theorem x_lay (X : XInv h S) {l v : Int32} : ∃ h', tC mX9_lay [.ref 1, .int l, .int v] h = some (h', some (sLay S l v).2) ∧ XInv h' (sLay S l v).1 ∧ FrX h h' := by
  unfold sLay
  obtain ⟨a, b, ⟨t, c⟩, put⟩ := x_bil X
  cases bo : sBo S with
  | false =>
    obtain ⟨h', p, q, r⟩ := x_refuses X (t := 1) (by decide)
    exact ⟨h', by simp only [cX9_lay_, bX9_lay_0, bX9_lay_4, bX9_lay_7, bX9_lay_11, bX9_lay_15, bX9_lay_18, bX9_lay_23, bX9_lay_24, bX9_lay_32, bX9_lay_35, bX9_lay_40, bX9_lay_41, bX9_lay_45, bX9_lay_50, bX9_lay_54, tk1_some, tk0_some, tkc_some, tkc_none, ↓reduceIte, x_g8 X, x_is X, bo, p, sDen, bI_t, bI_f, show ((1 : Int32) = 0) = False from by decide, not_false_eq_true, not_true, if_true, if_false, Bool.false_eq_true, tm_rb0, tm_rb1], q, r⟩
  | true =>
    cases iv : inB l 0 8 with
    | false =>
      obtain ⟨h', p, q, r⟩ := x_refuses X (t := 1) (by decide)
      exact ⟨h', by simp only [cX9_lay_, bX9_lay_0, bX9_lay_4, bX9_lay_7, bX9_lay_11, bX9_lay_15, bX9_lay_18, bX9_lay_23, bX9_lay_24, bX9_lay_32, bX9_lay_35, bX9_lay_40, bX9_lay_41, bX9_lay_45, bX9_lay_50, bX9_lay_54, tk1_some, tk0_some, tkc_some, tkc_none, ↓reduceIte, x_g8 X, x_g4 X, x_i93 X, x_is X, bo, bi_has, iv, p, sDen, bI_t, bI_f, show ((1 : Int32) = 0) = False from by decide, not_false_eq_true, not_true, if_true, if_false, Bool.false_eq_true, tm_rb0, tm_rb1], q, r⟩
    | true =>
      cases iw : inB v 0 9999 with
      | false =>
        obtain ⟨h', p, q, r⟩ := x_refuses X (t := 2) (by decide)
        exact ⟨h', by simp only [cX9_lay_, bX9_lay_0, bX9_lay_4, bX9_lay_7, bX9_lay_11, bX9_lay_15, bX9_lay_18, bX9_lay_23, bX9_lay_24, bX9_lay_32, bX9_lay_35, bX9_lay_40, bX9_lay_41, bX9_lay_45, bX9_lay_50, bX9_lay_54, tk1_some, tk0_some, tkc_some, tkc_none, ↓reduceIte, x_g8 X, x_g4 X, x_i93 X, x_is X, bo, bi_has, iv, within_spec, iw, p, sDen, bI_t, bI_f, show ((1 : Int32) = 0) = False from by decide, not_false_eq_true, not_true, if_true, if_false, Bool.false_eq_true, tm_rb0, tm_rb1], q, r⟩
      | true =>
        rw [if_pos rfl, if_pos rfl, if_pos rfl]
        by_cases e : l = 8
        · rw [if_pos e]
          have P1 : tC mX1_put [.ref 3, .int l, .int v] h = some (tm_up h 3 (biO 4 5 v), none) := by
            replace e : (l = 8) = True := eq_true e
            simp only [cX1_put_, bX1_put_0, bX1_put_6, bX1_put_11, bX1_put_29, bX1_put_14, bX1_put_19, bX1_put_22, bX1_put_26, tk1_some, tk0_some, tkc_some, tkc_none, ↓reduceIte, e, a, tm_pf_eq, ps_1_2, Option.map_some, bI_t, bI_f, show ((1 : Int32) = 0) = False from by decide, not_false_eq_true, not_true, if_true, if_false, Bool.false_eq_true, tm_rb0, tm_rb1]
          obtain ⟨X1, FX1⟩ := put (tm_up h 3 (biO 4 5 v)) (sD S) v ⟨tm_up_same, by rw [tm_up_ne (by decide)]; exact b, t, by rw [tm_up_ne (by decide)]; exact c⟩ (fun k hk => tm_up_ne (by omega))
          obtain ⟨h2, P2, X2, F2⟩ := x_agrees X1
          exact ⟨h2, by simp only [cX9_lay_, bX9_lay_0, bX9_lay_4, bX9_lay_7, bX9_lay_11, bX9_lay_15, bX9_lay_18, bX9_lay_23, bX9_lay_24, bX9_lay_32, bX9_lay_35, bX9_lay_40, bX9_lay_41, bX9_lay_45, bX9_lay_50, bX9_lay_54, tk1_some, tk0_some, tkc_some, tkc_none, ↓reduceIte, x_g8 X, x_g4 X, x_i93 X, x_is X1, bo, bi_has, iv, within_spec, iw, P1, P2, bI_t, bI_f, show ((1 : Int32) = 0) = False from by decide, not_false_eq_true, not_true, if_true, if_false, Bool.false_eq_true, tm_rb0, tm_rb1], X2, FrX_tr FX1 F2⟩
        · rw [if_neg e]
          obtain ⟨en, _, h8⟩ := inB_nat (a := 0) (b := 8) (by decide) (by decide) iv
          have n8 : iN l < 8 := by
            refine Nat.lt_of_le_of_ne h8 (fun y => e ?_)
            rw [en, y]; rfl
          have st : tm_si 0 h 4 l v = some (tm_up h 4 (aI 8 (upd (sD S) (iN l) v))) := by
            rw [tm_si_eq, b, tm_sa_in en n8 (by decide), Option.map_some]
          have P1 : tC mX1_put [.ref 3, .int l, .int v] h = some (tm_up h 4 (aI 8 (upd (sD S) (iN l) v)), none) := by
            simp only [cX1_put_, bX1_put_0, bX1_put_6, bX1_put_11, bX1_put_29, bX1_put_14, bX1_put_19, bX1_put_22, bX1_put_26, tk1_some, tk0_some, tkc_some, tkc_none, ↓reduceIte, e, tm_isO, bi_has, iv, a, gf_1_0, st, bI_t, bI_f, show ((1 : Int32) = 0) = False from by decide, not_false_eq_true, not_true, if_true, if_false, Bool.false_eq_true, tm_rb0, tm_rb1]
          obtain ⟨X1, FX1⟩ := put (tm_up h 4 (aI 8 (upd (sD S) (iN l) v))) (upd (sD S) (iN l) v) (sCa S) ⟨by rw [tm_up_ne (by decide)]; exact a, tm_up_same, t, by rw [tm_up_ne (by decide)]; exact c⟩ (fun k hk => tm_up_ne (by omega))
          obtain ⟨h2, P2, X2, F2⟩ := x_agrees X1
          exact ⟨h2, by simp only [cX9_lay_, bX9_lay_0, bX9_lay_4, bX9_lay_7, bX9_lay_11, bX9_lay_15, bX9_lay_18, bX9_lay_23, bX9_lay_24, bX9_lay_32, bX9_lay_35, bX9_lay_40, bX9_lay_41, bX9_lay_45, bX9_lay_50, bX9_lay_54, tk1_some, tk0_some, tkc_some, tkc_none, ↓reduceIte, x_g8 X, x_g4 X, x_i93 X, x_is X1, bo, bi_has, iv, within_spec, iw, P1, P2, bI_t, bI_f, show ((1 : Int32) = 0) = False from by decide, not_false_eq_true, not_true, if_true, if_false, Bool.false_eq_true, tm_rb0, tm_rb1], X2, FrX_tr FX1 F2⟩
def sFold (S : SS) (n : Int32) : SS × Value :=
  if sBo S = true then (if inB n 1 20 = true then (sTr (sBil S (foldN (sD S) (iN n)) (carb (sCa S) (iN n))) 0, .int (carb (sCa S) (iN n))) else sRef S 2) else sRef S 1
theorem x_fold (X : XInv h S) {n : Int32} : ∃ h', tC mX9_fold [.ref 1, .int n] h = some (h', some (sFold S n).2) ∧ XInv h' (sFold S n).1 ∧ FrX h h' := by
  unfold sFold
  obtain ⟨a, b, ⟨t, c⟩, put⟩ := x_bil X
  cases bo : sBo S with
  | false =>
    obtain ⟨h', p, q, r⟩ := x_refuse X (t := 1) (by decide)
    exact ⟨h', by simp only [cX9_fold_, bX9_fold_0, bX9_fold_4, bX9_fold_7, bX9_fold_12, bX9_fold_13, bX9_fold_20, bX9_fold_23, bX9_fold_28, bX9_fold_29, bX9_fold_34, bX9_fold_38, bX9_fold_41, tk1_some, tk0_some, tkc_some, tkc_none, ↓reduceIte, x_g8 X, x_is X, bo, p, sRef, bI_t, bI_f, show ((1 : Int32) = 0) = False from by decide, not_false_eq_true, not_true, if_true, if_false, Bool.false_eq_true, tm_rb0, tm_rb1], q, r⟩
  | true =>
    cases iv : inB n 1 20 with
    | false =>
      obtain ⟨h', p, q, r⟩ := x_refuse X (t := 2) (by decide)
      exact ⟨h', by simp only [cX9_fold_, bX9_fold_0, bX9_fold_4, bX9_fold_7, bX9_fold_12, bX9_fold_13, bX9_fold_20, bX9_fold_23, bX9_fold_28, bX9_fold_29, bX9_fold_34, bX9_fold_38, bX9_fold_41, tk1_some, tk0_some, tkc_some, tkc_none, ↓reduceIte, x_g8 X, x_is X, bo, within_spec, iv, p, sRef, bI_t, bI_f, show ((1 : Int32) = 0) = False from by decide, not_false_eq_true, not_true, if_true, if_false, Bool.false_eq_true, tm_rb0, tm_rb1], q, r⟩
    | true =>
      obtain ⟨en, _, h20⟩ := inB_nat (a := 1) (b := 20) (by decide) (by decide) iv
      have P1 := bi_ft a b (by decide) (n := iN n) (by omega)
      rw [← en] at P1
      obtain ⟨X1, FX1⟩ := put (tm_up (tm_up h 4 (aI 8 (foldN (sD S) (iN n)))) 3 (biO 4 5 (carb (sCa S) (iN n)))) (foldN (sD S) (iN n)) (carb (sCa S) (iN n)) ⟨tm_up_same, by rw [tm_up_ne (by decide), tm_up_same], t, by rw [tm_up_ne (by decide), tm_up_ne (by decide)]; exact c⟩ (fun k hk => by rw [tm_up_ne (by omega), tm_up_ne (by omega)])
      obtain ⟨h2, P2, X2, F2⟩ := x_answer X1 (v := carb (sCa S) (iN n))
      exact ⟨h2, by simp only [cX9_fold_, bX9_fold_0, bX9_fold_4, bX9_fold_7, bX9_fold_12, bX9_fold_13, bX9_fold_20, bX9_fold_23, bX9_fold_28, bX9_fold_29, bX9_fold_34, bX9_fold_38, bX9_fold_41, tk1_some, tk0_some, tkc_some, tkc_none, ↓reduceIte, x_g8 X, x_g4 X, x_i93 X, x_is X1, bo, within_spec, iv, P1, P2, bI_t, bI_f, show ((1 : Int32) = 0) = False from by decide, not_false_eq_true, not_true, if_true, if_false, Bool.false_eq_true, tm_rb0, tm_rb1], X2, FrX_tr FX1 F2⟩
def sEven (S : SS) (t : Int32) : SS × Value :=
  if sBo S = true then (if inB t 0 9999 = true then (if evenN (sD S) t 21 0 = -1 then sRef S 6 else sAns S (evenN (sD S) t 21 0)) else sRef S 2) else sRef S 1
theorem x_even (X : XInv h S) {t : Int32} : ∃ h', tC mX9_even [.ref 1, .int t] h = some (h', some (sEven S t).2) ∧ XInv h' (sEven S t).1 ∧ FrX h h' := by
  unfold sEven
  obtain ⟨a, b, ⟨t', c⟩, put⟩ := x_bil X
  cases bo : sBo S with
  | false =>
    obtain ⟨h', p, q, r⟩ := x_refuse X (t := 1) (by decide)
    exact ⟨h', by simp only [cX9_even_, bX9_even_0, bX9_even_4, bX9_even_7, bX9_even_12, bX9_even_13, bX9_even_21, bX9_even_24, bX9_even_29, bX9_even_30, bX9_even_34, bX9_even_38, bX9_even_44, bX9_even_50, bX9_even_58, bX9_even_53, tk1_some, tk0_some, tkc_some, tkc_none, ↓reduceIte, x_g8 X, x_is X, bo, p, sRef, bI_t, bI_f, show ((1 : Int32) = 0) = False from by decide, not_false_eq_true, not_true, if_true, if_false, Bool.false_eq_true, tm_rb0, tm_rb1], q, r⟩
  | true =>
    cases iv : inB t 0 9999 with
    | false =>
      obtain ⟨h', p, q, r⟩ := x_refuse X (t := 2) (by decide)
      exact ⟨h', by simp only [cX9_even_, bX9_even_0, bX9_even_4, bX9_even_7, bX9_even_12, bX9_even_13, bX9_even_21, bX9_even_24, bX9_even_29, bX9_even_30, bX9_even_34, bX9_even_38, bX9_even_44, bX9_even_50, bX9_even_58, bX9_even_53, tk1_some, tk0_some, tkc_some, tkc_none, ↓reduceIte, x_g8 X, x_is X, bo, within_spec, iv, p, sRef, bI_t, bI_f, show ((1 : Int32) = 0) = False from by decide, not_false_eq_true, not_true, if_true, if_false, Bool.false_eq_true, tm_rb0, tm_rb1], q, r⟩
    | true =>
      rw [if_pos rfl, if_pos rfl]
      obtain ⟨g', P1⟩ := bi_ev a b c (by decide) (x := t)
      obtain ⟨X1, FX1⟩ := put (tm_up h 5 (aI 8 g')) (sD S) (sCa S) ⟨by rw [tm_up_ne (by decide)]; exact a, by rw [tm_up_ne (by decide)]; exact b, g', tm_up_same⟩ (fun k hk => tm_up_ne (by omega))
      replace X1 : XInv (tm_up h 5 (aI 8 g')) S := X1
      by_cases e : evenN (sD S) t 21 0 = -1
      · rw [if_pos e]
        obtain ⟨h2, P2, X2, F2⟩ := x_refuse X1 (t := 6) (by decide)
        rw [e] at P1
        exact ⟨h2, by simp only [cX9_even_, bX9_even_0, bX9_even_4, bX9_even_7, bX9_even_12, bX9_even_13, bX9_even_21, bX9_even_24, bX9_even_29, bX9_even_30, bX9_even_34, bX9_even_38, bX9_even_44, bX9_even_50, bX9_even_58, bX9_even_53, tk1_some, tk0_some, tkc_some, tkc_none, ↓reduceIte, x_g8 X, x_g4 X, x_i93 X, x_is X1, bo, within_spec, iv, P1, P2, sRef, bI_t, bI_f, show ((1 : Int32) = 0) = False from by decide, not_false_eq_true, not_true, if_true, if_false, Bool.false_eq_true, tm_rb0, tm_rb1], X2, FrX_tr FX1 F2⟩
      · rw [if_neg e]
        obtain ⟨h2, P2, X2, F2⟩ := x_answer X1 (v := evenN (sD S) t 21 0)
        exact ⟨h2, by simp only [cX9_even_, bX9_even_0, bX9_even_4, bX9_even_7, bX9_even_12, bX9_even_13, bX9_even_21, bX9_even_24, bX9_even_29, bX9_even_30, bX9_even_34, bX9_even_38, bX9_even_44, bX9_even_50, bX9_even_58, bX9_even_53, tk1_some, tk0_some, tkc_some, tkc_none, ↓reduceIte, x_g8 X, x_g4 X, x_i93 X, x_is X1, bo, within_spec, iv, P1, P2, e, sAns, bI_t, bI_f, show ((1 : Int32) = 0) = False from by decide, not_false_eq_true, not_true, if_true, if_false, Bool.false_eq_true, tm_rb0, tm_rb1], X2, FrX_tr FX1 F2⟩
def colC (heat light : Int32) : Bool := if inB heat 0 999 = true then inB light 0 3 else false
def sCol (S : SS) (heat light : Int32) : SS × Value :=
  if sBo S = true then (if colC heat light = true then sAns S (redS (sB S 4) (sC S 4) heat light) else sRef S 2) else sRef S 1
theorem x_colour (X : XInv h S) {heat light : Int32} : ∃ h', tC mX9_colour [.ref 1, .int heat, .int light] h = some (h', some (sCol S heat light).2) ∧ XInv h' (sCol S heat light).1 ∧ FrX h h' := by
  unfold sCol colC
  obtain ⟨told, lo, hi, G, K, _⟩ := x_told X
  cases bo : sBo S with
  | false =>
    obtain ⟨h', p, q, r⟩ := x_refuse X (t := 1) (by decide)
    exact ⟨h', by simp only [cX9_colour_, bX9_colour_0, bX9_colour_4, bX9_colour_7, bX9_colour_12, bX9_colour_13, bX9_colour_17, bX9_colour_20, bX9_colour_26, bX9_colour_29, bX9_colour_34, bX9_colour_35, bX9_colour_40, bX9_colour_45, bX9_colour_48, tk1_some, tk0_some, tkc_some, tkc_none, ↓reduceIte, x_g8 X, x_is X, bo, p, sRef, bI_t, bI_f, show ((1 : Int32) = 0) = False from by decide, not_false_eq_true, not_true, if_true, if_false, Bool.false_eq_true, tm_rb0, tm_rb1], q, r⟩
  | true =>
    cases iv : inB heat 0 999 with
    | false =>
      obtain ⟨h', p, q, r⟩ := x_refuse X (t := 2) (by decide)
      exact ⟨h', by simp only [cX9_colour_, bX9_colour_0, bX9_colour_4, bX9_colour_7, bX9_colour_12, bX9_colour_13, bX9_colour_17, bX9_colour_20, bX9_colour_26, bX9_colour_29, bX9_colour_34, bX9_colour_35, bX9_colour_40, bX9_colour_45, bX9_colour_48, tk1_some, tk0_some, tkc_some, tkc_none, ↓reduceIte, x_g8 X, x_is X, bo, ih_spec, iv, p, sRef, bI_t, bI_f, show ((1 : Int32) = 0) = False from by decide, not_false_eq_true, not_true, if_true, if_false, Bool.false_eq_true, tm_rb0, tm_rb1], q, r⟩
    | true =>
      cases iw : inB light 0 3 with
      | false =>
        obtain ⟨h', p, q, r⟩ := x_refuse X (t := 2) (by decide)
        exact ⟨h', by simp only [cX9_colour_, bX9_colour_0, bX9_colour_4, bX9_colour_7, bX9_colour_12, bX9_colour_13, bX9_colour_17, bX9_colour_20, bX9_colour_26, bX9_colour_29, bX9_colour_34, bX9_colour_35, bX9_colour_40, bX9_colour_45, bX9_colour_48, tk1_some, tk0_some, tkc_some, tkc_none, ↓reduceIte, x_g8 X, x_is X, bo, ih_spec, iv, within_spec, iw, p, sRef, bI_t, bI_f, show ((1 : Int32) = 0) = False from by decide, not_false_eq_true, not_true, if_true, if_false, Bool.false_eq_true, tm_rb0, tm_rb1], q, r⟩
      | true =>
        obtain ⟨h', p, q, r⟩ := x_answer X (v := redS (sB S 4) (sC S 4) heat light)
        exact ⟨h', by simp only [cX9_colour_, bX9_colour_0, bX9_colour_4, bX9_colour_7, bX9_colour_12, bX9_colour_13, bX9_colour_17, bX9_colour_20, bX9_colour_26, bX9_colour_29, bX9_colour_34, bX9_colour_35, bX9_colour_40, bX9_colour_45, bX9_colour_48, tk1_some, tk0_some, tkc_some, tkc_none, ↓reduceIte, x_g8 X, x_is X, bo, ih_spec, iv, within_spec, iw, G, bk_o K, tm_isO, red_spec K, p, sAns, bI_t, bI_f, show ((1 : Int32) = 0) = False from by decide, not_false_eq_true, not_true, if_true, if_false, Bool.false_eq_true, tm_rb0, tm_rb1], q, r⟩
def sShown (S : SS) (signs : Int32) (d : Bool) : SS × Value :=
  if sBo S = true then (if inB signs 0 255 = true then (if stS (sB S 5) (sC S 5) signs = -1 then sRef S 6 else sAns S (if d = true then daysS (sB S 5) (sC S 5) (stS (sB S 5) (sC S 5) signs) else stS (sB S 5) (sC S 5) signs)) else sRef S 2) else sRef S 1
theorem x_shown (X : XInv h S) {signs : Int32} {d : Bool} : ∃ h', tC mX9_shown [.ref 1, .int signs, .int (bI d)] h = some (h', some (sShown S signs d).2) ∧ XInv h' (sShown S signs d).1 ∧ FrX h h' := by
  unfold sShown
  obtain ⟨told, lo, hi, G, K, _⟩ := x_told X
  cases bo : sBo S with
  | false =>
    obtain ⟨h', p, q, r⟩ := x_refuse X (t := 1) (by decide)
    exact ⟨h', by simp only [cX9_shown_, bX9_shown_0, bX9_shown_4, bX9_shown_7, bX9_shown_12, bX9_shown_13, bX9_shown_17, bX9_shown_20, bX9_shown_25, bX9_shown_26, bX9_shown_30, bX9_shown_34, bX9_shown_40, bX9_shown_46, bX9_shown_47, bX9_shown_52, bX9_shown_56, bX9_shown_60, bX9_shown_64, bX9_shown_67, bX9_shown_63, tk1_some, tk0_some, tkc_some, tkc_none, ↓reduceIte, x_g8 X, x_is X, bo, p, sRef, bI_t, bI_f, show ((1 : Int32) = 0) = False from by decide, not_false_eq_true, not_true, if_true, if_false, Bool.false_eq_true, tm_rb0, tm_rb1], q, r⟩
  | true =>
    cases iv : inB signs 0 255 with
    | false =>
      obtain ⟨h', p, q, r⟩ := x_refuse X (t := 2) (by decide)
      exact ⟨h', by simp only [cX9_shown_, bX9_shown_0, bX9_shown_4, bX9_shown_7, bX9_shown_12, bX9_shown_13, bX9_shown_17, bX9_shown_20, bX9_shown_25, bX9_shown_26, bX9_shown_30, bX9_shown_34, bX9_shown_40, bX9_shown_46, bX9_shown_47, bX9_shown_52, bX9_shown_56, bX9_shown_60, bX9_shown_64, bX9_shown_67, bX9_shown_63, tk1_some, tk0_some, tkc_some, tkc_none, ↓reduceIte, x_g8 X, x_is X, bo, isg_spec, iv, p, sRef, bI_t, bI_f, show ((1 : Int32) = 0) = False from by decide, not_false_eq_true, not_true, if_true, if_false, Bool.false_eq_true, tm_rb0, tm_rb1], q, r⟩
    | true =>
      rw [if_pos rfl, if_pos rfl]
      have P1 := st_spec K (signs := signs)
      by_cases e : stS (sB S 5) (sC S 5) signs = -1
      · rw [if_pos e]
        obtain ⟨h', p, q, r⟩ := x_refuse X (t := 6) (by decide)
        rw [e] at P1
        exact ⟨h', by simp only [cX9_shown_, bX9_shown_0, bX9_shown_4, bX9_shown_7, bX9_shown_12, bX9_shown_13, bX9_shown_17, bX9_shown_20, bX9_shown_25, bX9_shown_26, bX9_shown_30, bX9_shown_34, bX9_shown_40, bX9_shown_46, bX9_shown_47, bX9_shown_52, bX9_shown_56, bX9_shown_60, bX9_shown_64, bX9_shown_67, bX9_shown_63, tk1_some, tk0_some, tkc_some, tkc_none, ↓reduceIte, x_g8 X, x_is X, bo, isg_spec, iv, G, bk_o K, tm_isO, P1, p, sRef, bI_t, bI_f, show ((1 : Int32) = 0) = False from by decide, not_false_eq_true, not_true, if_true, if_false, Bool.false_eq_true, tm_rb0, tm_rb1], q, r⟩
      · rw [if_neg e]
        cases d with
        | true =>
          obtain ⟨h', p, q, r⟩ := x_answer X (v := daysS (sB S 5) (sC S 5) (stS (sB S 5) (sC S 5) signs))
          exact ⟨h', by simp only [cX9_shown_, bX9_shown_0, bX9_shown_4, bX9_shown_7, bX9_shown_12, bX9_shown_13, bX9_shown_17, bX9_shown_20, bX9_shown_25, bX9_shown_26, bX9_shown_30, bX9_shown_34, bX9_shown_40, bX9_shown_46, bX9_shown_47, bX9_shown_52, bX9_shown_56, bX9_shown_60, bX9_shown_64, bX9_shown_67, bX9_shown_63, tk1_some, tk0_some, tkc_some, tkc_none, ↓reduceIte, x_g8 X, x_is X, bo, isg_spec, iv, G, bk_o K, tm_isO, P1, e, days_spec K, p, sAns, bI_t, bI_f, show ((1 : Int32) = 0) = False from by decide, not_false_eq_true, not_true, if_true, if_false, Bool.false_eq_true, tm_rb0, tm_rb1], q, r⟩
        | false =>
          obtain ⟨h', p, q, r⟩ := x_answer X (v := stS (sB S 5) (sC S 5) signs)
          exact ⟨h', by simp only [cX9_shown_, bX9_shown_0, bX9_shown_4, bX9_shown_7, bX9_shown_12, bX9_shown_13, bX9_shown_17, bX9_shown_20, bX9_shown_25, bX9_shown_26, bX9_shown_30, bX9_shown_34, bX9_shown_40, bX9_shown_46, bX9_shown_47, bX9_shown_52, bX9_shown_56, bX9_shown_60, bX9_shown_64, bX9_shown_67, bX9_shown_63, tk1_some, tk0_some, tkc_some, tkc_none, ↓reduceIte, x_g8 X, x_is X, bo, isg_spec, iv, G, bk_o K, tm_isO, P1, e, p, sAns, bI_t, bI_f, show ((1 : Int32) = 0) = False from by decide, not_false_eq_true, not_true, if_true, if_false, Bool.false_eq_true, tm_rb0, tm_rb1], q, r⟩
theorem x_polish (X : XInv h S) {signs : Int32} : ∃ h', tC mX9_polish [.ref 1, .int signs] h = some (h', some (sShown S signs true).2) ∧ XInv h' (sShown S signs true).1 ∧ FrX h h' := by
  obtain ⟨h', p, q, r⟩ := x_shown X (signs := signs) (d := true)
  obtain ⟨v, hv⟩ : ∃ v, (sShown S signs true).2 = .int v := by
    unfold sShown
    split
    · split
      · split
        · exact ⟨_, rfl⟩
        · exact ⟨_, rfl⟩
      · exact ⟨_, rfl⟩
    · exact ⟨_, rfl⟩
  rw [hv] at p
  rw [bI_t] at p
  refine ⟨h', ?_, q, r⟩
  rw [hv]
  simp only [cX9_polish_, bX9_polish_0, bX9_polish_6, tk1_some, tk0_some, tkc_some, tkc_none, ↓reduceIte, x_is X, p]
theorem x_stones (X : XInv h S) {signs : Int32} : ∃ h', tC mX9_stones [.ref 1, .int signs] h = some (h', some (sShown S signs false).2) ∧ XInv h' (sShown S signs false).1 ∧ FrX h h' := by
  obtain ⟨h', p, q, r⟩ := x_shown X (signs := signs) (d := false)
  obtain ⟨v, hv⟩ : ∃ v, (sShown S signs false).2 = .int v := by
    unfold sShown
    split
    · split
      · split
        · exact ⟨_, rfl⟩
        · exact ⟨_, rfl⟩
      · exact ⟨_, rfl⟩
    · exact ⟨_, rfl⟩
  rw [hv] at p
  rw [bI_f] at p
  refine ⟨h', ?_, q, r⟩
  rw [hv]
  simp only [cX9_stones_, bX9_stones_0, bX9_stones_6, tk1_some, tk0_some, tkc_some, tkc_none, ↓reduceIte, x_is X, p]
def sWhose (S : SS) (signs : Int32) : SS × Value :=
  if sBo S = true then (if sC S 6 = 0 then sRef S 1 else if inB signs 0 255 = true then sAns S (likeG (sB S 6) signs (sC S 6) 0 (-1) 0) else sRef S 2) else sRef S 1
theorem x_whose (X : XInv h S) {signs : Int32} : ∃ h', tC mX9_whose [.ref 1, .int signs] h = some (h', some (sWhose S signs).2) ∧ XInv h' (sWhose S signs).1 ∧ FrX h h' := by
  unfold sWhose
  obtain ⟨told, lo, hi, G, K, _⟩ := x_told X
  have c6 := bk_c6 K
  have z : (nI (sC S 6) = 0) = (sC S 6 = 0) := propext (nI_eq (b := 0) (by omega) (by decide))
  cases bo : sBo S with
  | false =>
    obtain ⟨h', p, q, r⟩ := x_refuse X (t := 1) (by decide)
    exact ⟨h', by simp only [cX9_whose_, bX9_whose_0, bX9_whose_4, bX9_whose_7, bX9_whose_11, bX9_whose_14, bX9_whose_17, bX9_whose_20, bX9_whose_25, bX9_whose_26, bX9_whose_30, bX9_whose_33, bX9_whose_38, bX9_whose_39, bX9_whose_44, bX9_whose_48, bX9_whose_51, tk1_some, tk0_some, tkc_some, tkc_none, ↓reduceIte, x_g8 X, x_is X, bo, p, sRef, bI_t, bI_f, show ((1 : Int32) = 0) = False from by decide, not_false_eq_true, not_true, if_true, if_false, Bool.false_eq_true, tm_rb0, tm_rb1], q, r⟩
  | true =>
    rw [if_pos rfl]
    by_cases e : sC S 6 = 0
    · rw [if_pos e]
      obtain ⟨h', p, q, r⟩ := x_refuse X (t := 1) (by decide)
      have z' : (nI (sC S 6) = 0) = True := by rw [z]; exact eq_true e
      exact ⟨h', by simp only [cX9_whose_, bX9_whose_0, bX9_whose_4, bX9_whose_7, bX9_whose_11, bX9_whose_14, bX9_whose_17, bX9_whose_20, bX9_whose_25, bX9_whose_26, bX9_whose_30, bX9_whose_33, bX9_whose_38, bX9_whose_39, bX9_whose_44, bX9_whose_48, bX9_whose_51, tk1_some, tk0_some, tkc_some, tkc_none, ↓reduceIte, x_g8 X, x_is X, bo, G, bk_o K, gf_3_6, bk_l6 K, tm_isO, ln_count (bk_l6 K), z', p, sRef, bI_t, bI_f, show ((1 : Int32) = 0) = False from by decide, not_false_eq_true, not_true, if_true, if_false, Bool.false_eq_true, tm_rb0, tm_rb1], q, r⟩
    · rw [if_neg e]
      have z' : (nI (sC S 6) = 0) = False := by rw [z]; exact eq_false e
      cases iv : inB signs 0 255 with
      | false =>
        obtain ⟨h', p, q, r⟩ := x_refuse X (t := 2) (by decide)
        exact ⟨h', by simp only [cX9_whose_, bX9_whose_0, bX9_whose_4, bX9_whose_7, bX9_whose_11, bX9_whose_14, bX9_whose_17, bX9_whose_20, bX9_whose_25, bX9_whose_26, bX9_whose_30, bX9_whose_33, bX9_whose_38, bX9_whose_39, bX9_whose_44, bX9_whose_48, bX9_whose_51, tk1_some, tk0_some, tkc_some, tkc_none, ↓reduceIte, x_g8 X, x_is X, bo, G, bk_o K, gf_3_6, bk_l6 K, tm_isO, ln_count (bk_l6 K), z', isg_spec, iv, p, sRef, bI_t, bI_f, show ((1 : Int32) = 0) = False from by decide, not_false_eq_true, not_true, if_true, if_false, Bool.false_eq_true, tm_rb0, tm_rb1], q, r⟩
      | true =>
        obtain ⟨h', p, q, r⟩ := x_answer X (v := likeG (sB S 6) signs (sC S 6) 0 (-1) 0)
        exact ⟨h', by simp only [cX9_whose_, bX9_whose_0, bX9_whose_4, bX9_whose_7, bX9_whose_11, bX9_whose_14, bX9_whose_17, bX9_whose_20, bX9_whose_25, bX9_whose_26, bX9_whose_30, bX9_whose_33, bX9_whose_38, bX9_whose_39, bX9_whose_44, bX9_whose_48, bX9_whose_51, tk1_some, tk0_some, tkc_some, tkc_none, ↓reduceIte, x_g8 X, x_is X, bo, G, bk_o K, gf_3_6, bk_l6 K, tm_isO, ln_count (bk_l6 K), z', isg_spec, iv, like_spec K, p, sAns, bI_t, bI_f, show ((1 : Int32) = 0) = False from by decide, not_false_eq_true, not_true, if_true, if_false, Bool.false_eq_true, tm_rb0, tm_rb1], q, r⟩
def sOdds (S : SS) (smith signs : Int32) : SS × Value :=
  if sBo S = true then (if inB smith (-1) (nI (sC S 6) - 1) = true then (if inB signs 0 255 = true then (sTr S 0, .long (if smith = -1 then allG (sB S 6) signs (sC S 6) 0 0 else prodS (sB S 6) (iN smith) signs)) else (sTr S 2, .long (-9223372036854775808))) else (sTr S 1, .long (-9223372036854775808))) else (sTr S 1, .long (-9223372036854775808))
theorem smith_nat {c : Nat} {v : Int32} (hc : c ≤ 5) (iv : inB v (-1) (nI c - 1) = true) (e : ¬ v = -1) : v = nI (iN v) ∧ iN v < c := by
  obtain ⟨a, b⟩ := inB_t iv
  have h0 : 0 ≤ v := by
    rw [Int32.le_iff_toInt_le] at a ⊢
    have ne : v.toInt ≠ (-1 : Int32).toInt := fun y => e (Int32.toInt_inj.mp y)
    have e1 : (-1 : Int32).toInt = -1 := by decide
    have e0 : (0 : Int32).toInt = 0 := by decide
    omega
  refine ⟨(nI_iN h0).symm, ?_⟩
  rcases (show c = 0 ∨ c = 1 ∨ c = 2 ∨ c = 3 ∨ c = 4 ∨ c = 5 by omega) with rfl | rfl | rfl | rfl | rfl | rfl
  · exact absurd (Int32.le_trans h0 b) (by decide)
  all_goals exact Nat.lt_succ_of_le (iN_le h0 (by decide) b)
theorem x_odds (X : XInv h S) {smith signs : Int32} : ∃ h', tC mX9_odds [.ref 1, .int smith, .int signs] h = some (h', some (sOdds S smith signs).2) ∧ XInv h' (sOdds S smith signs).1 ∧ FrX h h' := by
  unfold sOdds
  obtain ⟨told, lo, hi, G, K, _⟩ := x_told X
  have c6 := bk_c6 K
  cases bo : sBo S with
  | false =>
    obtain ⟨h', p, q, r⟩ := x_refuse X (t := 1) (by decide)
    exact ⟨h', by simp only [cX9_odds_, bX9_odds_0, bX9_odds_4, bX9_odds_7, bX9_odds_13, bX9_odds_16, bX9_odds_19, bX9_odds_24, bX9_odds_27, bX9_odds_32, bX9_odds_37, bX9_odds_41, bX9_odds_44, bX9_odds_49, bX9_odds_54, bX9_odds_59, bX9_odds_64, bX9_odds_68, bX9_odds_72, bX9_odds_84, bX9_odds_75, bX9_odds_79, tk1_some, tk0_some, tkc_some, tkc_none, ↓reduceIte, x_g8 X, x_is X, bo, p, bI_t, bI_f, show ((1 : Int32) = 0) = False from by decide, not_false_eq_true, not_true, if_true, if_false, Bool.false_eq_true, tm_rb0, tm_rb1], q, r⟩
  | true =>
    rw [if_pos rfl]
    cases iw : inB smith (-1) (nI (sC S 6) - 1) with
    | false =>
      obtain ⟨h', p, q, r⟩ := x_refuse X (t := 1) (by decide)
      exact ⟨h', by simp only [cX9_odds_, bX9_odds_0, bX9_odds_4, bX9_odds_7, bX9_odds_13, bX9_odds_16, bX9_odds_19, bX9_odds_24, bX9_odds_27, bX9_odds_32, bX9_odds_37, bX9_odds_41, bX9_odds_44, bX9_odds_49, bX9_odds_54, bX9_odds_59, bX9_odds_64, bX9_odds_68, bX9_odds_72, bX9_odds_84, bX9_odds_75, bX9_odds_79, tk1_some, tk0_some, tkc_some, tkc_none, ↓reduceIte, x_g8 X, x_is X, bo, G, bk_o K, gf_3_6, bk_l6 K, tm_isO, ln_count (bk_l6 K), within_spec, iw, p, bI_t, bI_f, show ((1 : Int32) = 0) = False from by decide, not_false_eq_true, not_true, if_true, if_false, Bool.false_eq_true, tm_rb0, tm_rb1], q, r⟩
    | true =>
      cases iv : inB signs 0 255 with
      | false =>
        obtain ⟨h', p, q, r⟩ := x_refuse X (t := 2) (by decide)
        exact ⟨h', by simp only [cX9_odds_, bX9_odds_0, bX9_odds_4, bX9_odds_7, bX9_odds_13, bX9_odds_16, bX9_odds_19, bX9_odds_24, bX9_odds_27, bX9_odds_32, bX9_odds_37, bX9_odds_41, bX9_odds_44, bX9_odds_49, bX9_odds_54, bX9_odds_59, bX9_odds_64, bX9_odds_68, bX9_odds_72, bX9_odds_84, bX9_odds_75, bX9_odds_79, tk1_some, tk0_some, tkc_some, tkc_none, ↓reduceIte, x_g8 X, x_is X, bo, G, bk_o K, gf_3_6, bk_l6 K, tm_isO, ln_count (bk_l6 K), within_spec, iw, isg_spec, iv, p, bI_t, bI_f, show ((1 : Int32) = 0) = False from by decide, not_false_eq_true, not_true, if_true, if_false, Bool.false_eq_true, tm_rb0, tm_rb1], q, r⟩
      | true =>
        obtain ⟨h', p, q, r⟩ := x_pf X (t := 0) (by decide)
        obtain ⟨told', lo', hi', G', K', _⟩ := x_told q
        by_cases e : smith = -1
        · have P1 : tC mX3_productOfAll [.ref told', .int signs] h' = some (h', some (.long (allG (sB S 6) signs (sC S 6) 0 0))) := all_spec K'
          have e' : (smith = -1) = True := eq_true e
          exact ⟨h', by simp only [cX9_odds_, bX9_odds_0, bX9_odds_4, bX9_odds_7, bX9_odds_13, bX9_odds_16, bX9_odds_19, bX9_odds_24, bX9_odds_27, bX9_odds_32, bX9_odds_37, bX9_odds_41, bX9_odds_44, bX9_odds_49, bX9_odds_54, bX9_odds_59, bX9_odds_64, bX9_odds_68, bX9_odds_72, bX9_odds_84, bX9_odds_75, bX9_odds_79, tk1_some, tk0_some, tkc_some, tkc_none, ↓reduceIte, x_g8 X, x_is X, bo, G, bk_o K, gf_3_6, bk_l6 K, tm_isO, ln_count (bk_l6 K), within_spec, iw, isg_spec, iv, p, e', G', bk_o K', P1, bI_t, bI_f, show ((1 : Int32) = 0) = False from by decide, not_false_eq_true, not_true, if_true, if_false, Bool.false_eq_true, tm_rb0, tm_rb1], q, r⟩
        · obtain ⟨en, hs⟩ := smith_nat c6 iw e
          have P1 : tC mX3_productOf [.ref told', .int (nI (iN smith)), .int signs] h' = some (h', some (.long (prodS (sB S 6) (iN smith) signs))) := prod_spec K' hs
          rw [← en] at P1
          exact ⟨h', by simp only [cX9_odds_, bX9_odds_0, bX9_odds_4, bX9_odds_7, bX9_odds_13, bX9_odds_16, bX9_odds_19, bX9_odds_24, bX9_odds_27, bX9_odds_32, bX9_odds_37, bX9_odds_41, bX9_odds_44, bX9_odds_49, bX9_odds_54, bX9_odds_59, bX9_odds_64, bX9_odds_68, bX9_odds_72, bX9_odds_84, bX9_odds_75, bX9_odds_79, tk1_some, tk0_some, tkc_some, tkc_none, ↓reduceIte, x_g8 X, x_is X, bo, G, bk_o K, gf_3_6, bk_l6 K, tm_isO, ln_count (bk_l6 K), within_spec, iw, isg_spec, iv, p, e, G', bk_o K', P1, bI_t, bI_f, show ((1 : Int32) = 0) = False from by decide, not_false_eq_true, not_true, if_true, if_false, Bool.false_eq_true, tm_rb0, tm_rb1], q, r⟩
def learnC (heat water clay how : Int32) : Bool := if inB heat 0 999 = true then (if inB water 0 999 = true then (if inB clay 0 3 = true then inB how 0 2 else false) else false) else false
def mkA (S : SS) (a b c : Int32) : Nat → Int32 := upd (upd (upd (sMk S) (sBl S * 3) a) (sBl S * 3 + 1) b) (sBl S * 3 + 2) c
def sLearn (S : SS) (heat water clay how : Int32) : SS × Value :=
  if sBo S = true then (if learnC heat water clay how = true then (if 20 ≤ sBl S then sRef S 3 else (sTr (sBla S (mkA S heat water clay) (upd (sHw S) (sBl S) how) (sBl S + 1)) 0, .int (nI (sBl S + 1)))) else sRef S 2) else sRef S 1
theorem x_learn (X : XInv h S) (P : PX S) {heat water clay how : Int32} : ∃ h', tC mX9_learn [.ref 1, .int heat, .int water, .int clay, .int how] h = some (h', some (sLearn S heat water clay how).2) ∧ XInv h' (sLearn S heat water clay how).1 ∧ FrX h h' := by
  unfold sLearn learnC
  have hn := P.2.1
  obtain ⟨a, b, c, ⟨g, d⟩, put⟩ := x_bla X
  cases bo : sBo S with
  | false =>
    obtain ⟨h', p, q, r⟩ := x_refuse X (t := 1) (by decide)
    exact ⟨h', by simp only [cX9_learn_, bX9_learn_0, bX9_learn_4, bX9_learn_7, bX9_learn_12, bX9_learn_13, bX9_learn_17, bX9_learn_20, bX9_learn_24, bX9_learn_27, bX9_learn_33, bX9_learn_36, bX9_learn_43, bX9_learn_46, bX9_learn_51, bX9_learn_52, bX9_learn_56, bX9_learn_59, bX9_learn_62, bX9_learn_67, bX9_learn_68, bX9_learn_73, bX9_learn_81, bX9_learn_84, tk1_some, tk0_some, tkc_some, tkc_none, ↓reduceIte, x_g8 X, x_is X, bo, p, sRef, bI_t, bI_f, show ((1 : Int32) = 0) = False from by decide, not_false_eq_true, not_true, if_true, if_false, Bool.false_eq_true, tm_rb0, tm_rb1], q, r⟩
  | true =>
    cases i1 : inB heat 0 999 with
    | false =>
      obtain ⟨h', p, q, r⟩ := x_refuse X (t := 2) (by decide)
      exact ⟨h', by simp only [cX9_learn_, bX9_learn_0, bX9_learn_4, bX9_learn_7, bX9_learn_12, bX9_learn_13, bX9_learn_17, bX9_learn_20, bX9_learn_24, bX9_learn_27, bX9_learn_33, bX9_learn_36, bX9_learn_43, bX9_learn_46, bX9_learn_51, bX9_learn_52, bX9_learn_56, bX9_learn_59, bX9_learn_62, bX9_learn_67, bX9_learn_68, bX9_learn_73, bX9_learn_81, bX9_learn_84, tk1_some, tk0_some, tkc_some, tkc_none, ↓reduceIte, x_g8 X, x_is X, bo, ih_spec, i1, p, sRef, bI_t, bI_f, show ((1 : Int32) = 0) = False from by decide, not_false_eq_true, not_true, if_true, if_false, Bool.false_eq_true, tm_rb0, tm_rb1], q, r⟩
    | true =>
      cases i2 : inB water 0 999 with
      | false =>
        obtain ⟨h', p, q, r⟩ := x_refuse X (t := 2) (by decide)
        exact ⟨h', by simp only [cX9_learn_, bX9_learn_0, bX9_learn_4, bX9_learn_7, bX9_learn_12, bX9_learn_13, bX9_learn_17, bX9_learn_20, bX9_learn_24, bX9_learn_27, bX9_learn_33, bX9_learn_36, bX9_learn_43, bX9_learn_46, bX9_learn_51, bX9_learn_52, bX9_learn_56, bX9_learn_59, bX9_learn_62, bX9_learn_67, bX9_learn_68, bX9_learn_73, bX9_learn_81, bX9_learn_84, tk1_some, tk0_some, tkc_some, tkc_none, ↓reduceIte, x_g8 X, x_is X, bo, ih_spec, i1, i2, p, sRef, bI_t, bI_f, show ((1 : Int32) = 0) = False from by decide, not_false_eq_true, not_true, if_true, if_false, Bool.false_eq_true, tm_rb0, tm_rb1], q, r⟩
      | true =>
        cases i3 : inB clay 0 3 with
        | false =>
          obtain ⟨h', p, q, r⟩ := x_refuse X (t := 2) (by decide)
          exact ⟨h', by simp only [cX9_learn_, bX9_learn_0, bX9_learn_4, bX9_learn_7, bX9_learn_12, bX9_learn_13, bX9_learn_17, bX9_learn_20, bX9_learn_24, bX9_learn_27, bX9_learn_33, bX9_learn_36, bX9_learn_43, bX9_learn_46, bX9_learn_51, bX9_learn_52, bX9_learn_56, bX9_learn_59, bX9_learn_62, bX9_learn_67, bX9_learn_68, bX9_learn_73, bX9_learn_81, bX9_learn_84, tk1_some, tk0_some, tkc_some, tkc_none, ↓reduceIte, x_g8 X, x_is X, bo, ih_spec, i1, i2, within_spec, i3, p, sRef, bI_t, bI_f, show ((1 : Int32) = 0) = False from by decide, not_false_eq_true, not_true, if_true, if_false, Bool.false_eq_true, tm_rb0, tm_rb1], q, r⟩
        | true =>
          cases i4 : inB how 0 2 with
          | false =>
            obtain ⟨h', p, q, r⟩ := x_refuse X (t := 2) (by decide)
            exact ⟨h', by simp only [cX9_learn_, bX9_learn_0, bX9_learn_4, bX9_learn_7, bX9_learn_12, bX9_learn_13, bX9_learn_17, bX9_learn_20, bX9_learn_24, bX9_learn_27, bX9_learn_33, bX9_learn_36, bX9_learn_43, bX9_learn_46, bX9_learn_51, bX9_learn_52, bX9_learn_56, bX9_learn_59, bX9_learn_62, bX9_learn_67, bX9_learn_68, bX9_learn_73, bX9_learn_81, bX9_learn_84, tk1_some, tk0_some, tkc_some, tkc_none, ↓reduceIte, x_g8 X, x_is X, bo, ih_spec, i1, i2, within_spec, i3, i4, p, sRef, bI_t, bI_f, show ((1 : Int32) = 0) = False from by decide, not_false_eq_true, not_true, if_true, if_false, Bool.false_eq_true, tm_rb0, tm_rb1], q, r⟩
          | true =>
            rw [if_pos rfl, if_pos rfl, if_pos rfl, if_pos rfl, if_pos rfl]
            have fu := bl_isFull a (by omega)
            by_cases e : 20 ≤ sBl S
            · rw [if_pos e]
              rw [decide_eq_true e, bI_t] at fu
              obtain ⟨h', p, q, r⟩ := x_refuse X (t := 3) (by decide)
              exact ⟨h', by simp only [cX9_learn_, bX9_learn_0, bX9_learn_4, bX9_learn_7, bX9_learn_12, bX9_learn_13, bX9_learn_17, bX9_learn_20, bX9_learn_24, bX9_learn_27, bX9_learn_33, bX9_learn_36, bX9_learn_43, bX9_learn_46, bX9_learn_51, bX9_learn_52, bX9_learn_56, bX9_learn_59, bX9_learn_62, bX9_learn_67, bX9_learn_68, bX9_learn_73, bX9_learn_81, bX9_learn_84, tk1_some, tk0_some, tkc_some, tkc_none, ↓reduceIte, x_g8 X, x_g5 X, x_i96 X, x_is X, bo, ih_spec, i1, i2, within_spec, i3, i4, fu, p, sRef, bI_t, bI_f, show ((1 : Int32) = 0) = False from by decide, not_false_eq_true, not_true, if_true, if_false, Bool.false_eq_true, tm_rb0, tm_rb1], q, r⟩
            · rw [if_neg e]
              rw [decide_eq_false e, bI_f] at fu
              have P1 : tC mX2_add [.ref 6, .int heat, .int water, .int clay, .int how] h = some (tm_up (tm_up (tm_up h 7 (aI 60 (mkA S heat water clay))) 8 (aI 20 (upd (sHw S) (sBl S) how))) 6 (blO 7 8 9 (sBl S + 1)), some (.int (nI (sBl S + 1)))) := bl_add a b c (x0 := heat) (x1 := water) (x2 := clay) (x3 := how) (by omega) (by decide) (by decide) (by decide)
              obtain ⟨X1, FX1⟩ := put (tm_up (tm_up (tm_up h 7 (aI 60 (mkA S heat water clay))) 8 (aI 20 (upd (sHw S) (sBl S) how))) 6 (blO 7 8 9 (sBl S + 1))) (mkA S heat water clay) (upd (sHw S) (sBl S) how) (sBl S + 1) ⟨tm_up_same, by rw [tm_up_ne (by decide), tm_up_ne (by decide), tm_up_same], by rw [tm_up_ne (by decide), tm_up_same], g, by rw [tm_up_ne (by decide), tm_up_ne (by decide), tm_up_ne (by decide)]; exact d⟩ (fun k hk => by rw [tm_up_ne (by omega), tm_up_ne (by omega), tm_up_ne (by omega)])
              obtain ⟨h2, P2, X2, F2⟩ := x_answer X1 (v := nI (sBl S + 1))
              exact ⟨h2, by simp only [cX9_learn_, bX9_learn_0, bX9_learn_4, bX9_learn_7, bX9_learn_12, bX9_learn_13, bX9_learn_17, bX9_learn_20, bX9_learn_24, bX9_learn_27, bX9_learn_33, bX9_learn_36, bX9_learn_43, bX9_learn_46, bX9_learn_51, bX9_learn_52, bX9_learn_56, bX9_learn_59, bX9_learn_62, bX9_learn_67, bX9_learn_68, bX9_learn_73, bX9_learn_81, bX9_learn_84, tk1_some, tk0_some, tkc_some, tkc_none, ↓reduceIte, x_g8 X, x_g5 X, x_i96 X, x_is X1, bo, ih_spec, i1, i2, within_spec, i3, i4, fu, P1, P2, bI_t, bI_f, show ((1 : Int32) = 0) = False from by decide, not_false_eq_true, not_true, if_true, if_false, Bool.false_eq_true, tm_rb0, tm_rb1], X2, FrX_tr FX1 F2⟩
def sNext (S : SS) : SS × Value := if sBo S = true then sAns S (bestF (gainS (sMk S) (sHw S) (sBl S)) 6 0 (-2) 0) else sRef S 1
theorem x_next (X : XInv h S) (P : PX S) : ∃ h', tC mX9_next [.ref 1] h = some (h', some (sNext S).2) ∧ XInv h' (sNext S).1 ∧ FrX h h' := by
  unfold sNext
  have hn := P.2.1
  obtain ⟨a, b, c, ⟨g, d⟩, put⟩ := x_bla X
  cases bo : sBo S with
  | false =>
    obtain ⟨h', p, q, r⟩ := x_refuse X (t := 1) (by decide)
    exact ⟨h', by simp only [cX9_next_, bX9_next_0, bX9_next_4, bX9_next_7, bX9_next_12, bX9_next_13, bX9_next_18, bX9_next_21, bX9_next_24, tk1_some, tk0_some, tkc_some, tkc_none, ↓reduceIte, x_g8 X, x_is X, bo, p, sRef, bI_t, bI_f, show ((1 : Int32) = 0) = False from by decide, not_false_eq_true, not_true, if_true, if_false, Bool.false_eq_true, tm_rb0, tm_rb1], q, r⟩
  | true =>
    obtain ⟨g', P1⟩ := bl_best a b c d hn (by decide) (by decide) (by decide)
    obtain ⟨X1, FX1⟩ := put (tm_up h 9 (aI 6 g')) (sMk S) (sHw S) (sBl S) ⟨by rw [tm_up_ne (by decide)]; exact a, by rw [tm_up_ne (by decide)]; exact b, by rw [tm_up_ne (by decide)]; exact c, g', tm_up_same⟩ (fun k hk => tm_up_ne (by omega))
    replace X1 : XInv (tm_up h 9 (aI 6 g')) S := X1
    obtain ⟨h2, P2, X2, F2⟩ := x_answer X1 (v := bestF (gainS (sMk S) (sHw S) (sBl S)) 6 0 (-2) 0)
    exact ⟨h2, by simp only [cX9_next_, bX9_next_0, bX9_next_4, bX9_next_7, bX9_next_12, bX9_next_13, bX9_next_18, bX9_next_21, bX9_next_24, tk1_some, tk0_some, tkc_some, tkc_none, ↓reduceIte, x_g8 X, x_g5 X, x_i96 X, x_is X1, bo, P1, P2, sAns, bI_t, bI_f, show ((1 : Int32) = 0) = False from by decide, not_false_eq_true, not_true, if_true, if_false, Bool.false_eq_true, tm_rb0, tm_rb1], X2, FrX_tr FX1 F2⟩
theorem x_fault (X : XInv h S) : tC mX9_fault [.ref 1] h = some (h, some (.int (sF S))) := by simp only [cX9_fault_, bX9_fault_0, bX9_fault_4, tk1_some, tk0_some, tkc_some, tkc_none, ↓reduceIte, x_g10 X]
theorem x_trouble (X : XInv h S) : tC mX9_trouble [.ref 1] h = some (h, some (.int (sT S))) := by simp only [cX9_trouble_, bX9_trouble_0, bX9_trouble_4, tk1_some, tk0_some, tkc_some, tkc_none, ↓reduceIte, x_g11 X]
def sWhere (S : SS) : Int32 := if sT S = 4 then nI (sW S) else -1
theorem x_where (X : XInv h S) : tC mX9_where [.ref 1] h = some (h, some (.int (sWhere S))) := by
  unfold sWhere
  obtain ⟨told, spare, ts, O, T2, ⟨b0, nc, lw, f, a0, n0, s, e, so, nm, kn, a, b, c, d, g⟩, _⟩ := id X
  by_cases t : sT S = 4
  · rw [if_pos t]
    have P1 : tC mX6_place [.ref 40] h = some (h, some (.int (nI (sW S)))) := by
      rw [← g t]
      simp only [cX6_place_, bX6_place_0, bX6_place_4, bX6_place_7, tk1_some, tk0_some, tkc_some, tkc_none, ↓reduceIte, a, gf_6_0, b, tm_isO, tk_place b]
    simp only [cX9_where_, bX9_where_0, bX9_where_4, bX9_where_8, bX9_where_12, bX9_where_15, bX9_where_19, bX9_where_18, tk1_some, tk0_some, tkc_some, tkc_none, ↓reduceIte, x_g11 X, x_g1 X, a, tm_isO, t, P1, bI_t, bI_f, show ((1 : Int32) = 0) = False from by decide, not_false_eq_true, not_true, if_true, if_false, Bool.false_eq_true, tm_rb0, tm_rb1]
  · rw [if_neg t]
    simp only [cX9_where_, bX9_where_0, bX9_where_4, bX9_where_8, bX9_where_12, bX9_where_15, bX9_where_19, bX9_where_18, tk1_some, tk0_some, tkc_some, tkc_none, ↓reduceIte, x_g11 X, t, bI_t, bI_f, show ((1 : Int32) = 0) = False from by decide, not_false_eq_true, not_true, if_true, if_false, Bool.false_eq_true, tm_rb0, tm_rb1]
end XM
