/-! WHAT IS KEPT by every call -/
def PI (S : SS) : Prop := PX S ∧ ByOk (sTp S) ∧ Ly (sD S) ∧ (∀ k, k < sBl S → 0 ≤ sHw S k ∧ sHw S k ≤ 2) ∧ (sBo S = true → PB S ∧ HisS S ∧ (0 < widS S ∧ widS S ≤ 5) ∧ (0 ≤ sB S 1 0 ∧ sB S 1 0 ≤ 99) ∧ (0 ≤ sB S 1 2 ∧ sB S 1 2 ≤ 60) ∧ SgR S)
section PIv
variable {S : SS}
theorem PI_tr (P : PI S) (t : Int32) : PI (sTr S t) := P
theorem PI_bil (P : PI S) {d : Nat → Int32} {c : Int32} (L : Ly d) : PI (sBil S d c) := ⟨P.1, P.2.1, L, P.2.2.2⟩
theorem PI_bla (P : PI S) {mk hw : Nat → Int32} {n : Nat} (bo : sBo S = true) (hn : n ≤ 20) (R : ∀ k, k < n → 0 ≤ hw k ∧ hw k ≤ 2) : PI (sBla S mk hw n) := by
  obtain ⟨⟨p1, p2, p3, p4, p5, p6⟩, q, L, r, b⟩ := P
  refine ⟨⟨p1, hn, p3, p4, fun y => ?_, p6⟩, q, L, R, b⟩
  rw [show sBo (sBla S mk hw n) = sBo S from rfl, bo] at y; cases y
theorem PI_tape (P : PI S) {tp : Nat → Int32} {n : Nat} (hn : n ≤ 700) (B : ByOk tp) : PI (sTape S tp n) := by
  obtain ⟨⟨p1, p2⟩, q, r⟩ := P
  exact ⟨⟨hn, p2⟩, B, r⟩
theorem PI_bar (P : PI S) (bo : sBo S = true) {v : Int32} {s : BSt} (t4 : s.2.2.2.1 ≤ 400) (BO : BOk (sC S) (sB S) (cutS S) (widS S) s) (HI : HisS (sBr S v s)) : PI (sBr S v s) := by
  obtain ⟨⟨p1, p2, p3, p4, p5, p6⟩, q, L, r, b⟩ := P
  obtain ⟨⟨b1, b2, b3, b4, b5⟩, b6, b7⟩ := b bo
  refine ⟨⟨p1, p2, t4, p4, fun y => ?_, fun _ => BO.1⟩, q, L, r, fun _ => ⟨⟨b1, b2, b3, b4, BO⟩, HI, b7⟩⟩
  rw [show sBo (sBr S v s) = sBo S from rfl, bo] at y; cases y
/-- heated anew -/
theorem His_hot {cnt : Nat → Nat} {tab : Nat → Nat → Int32} {cuts w : Nat} (hc : cuts ≤ 8) (hw : w ≤ 5) {v : Int32} {A : Nat → Nat → Int32} : EqB cuts w (hot0 tab cuts w v (hot0 tab cuts w v A).1) (hot0 tab cuts w v A) := by
  refine hot0_e hc hw ?_
  show EqI cuts w (heatS tab cuts w (sqS w w) v A 1) (A 1)
  rw [heatS_k.2.2.2.2]; exact EqI_rf _ _ _
theorem PI_heat (P : PI S) {v : Int32} : PI (sHeat S v).1 := by
  unfold sHeat
  split
  · rename_i bo
    split
    · refine PI_tr (PI_bar P bo (Nat.zero_le _) ?_ ?_) 0
      · obtain ⟨⟨lo, hi, F⟩, _, _, _, BO⟩ := (P.2.2.2.2 bo).1
        exact BOk_hot F (px_w P.1) BO.2.2.2
      · exact His_hot (cnt := sC S) (px_c P.1) (px_w P.1)
    · exact PI_tr P 2
  · exact PI_tr P 1
theorem clayA_k {sh : Int32} {k : Nat} {t : Int32} {A : Nat → Nat → Int32} {m : Nat} (h0 : m ≠ 0) (h1 : m ≠ 1) : clayA sh k t A m = A m := by
  unfold clayA; rw [upA_ne _ _ h1, upA_ne _ _ h0]
theorem PI_clay (P : PI S) {i j t : Int32} : PI (sClay S i j t).1 := by
  unfold sClay
  split
  · rename_i hs
    split
    · split
      · rename_i tz
        obtain ⟨ei, li, ej, lj, bo⟩ := has_nat P.1 hs
        have w5 := px_w P.1
        have c8 := px_c P.1
        have t4 : (sR S).2.2.2.1 ≤ 400 := P.1.2.2.1
        have te0 : (sR S).2.2.2.1 = 0 := by
          have := congrArg iN tz
          rw [iN_nI (by omega)] at this; exact this
        obtain ⟨⟨⟨lo, hi, F⟩, _, _, _, K, RM, SZ, OA⟩, HI, _⟩ := P.2.2.2.2 bo
        refine PI_tr (PI_bar (s := (clayA (sB S 1 2) (iN i * 5 + iN j) t (sR S).1, (sR S).2)) P bo t4 ⟨?_, ?_, ?_, ?_⟩ ?_) 0
        · show KN (sC S 2) (clayA _ _ _ _) _
          unfold KN; rw [clayA_k (by decide) (by decide)]; exact K
        · show RmA _ _ (clayA _ _ _ _)
          unfold RmA; rw [clayA_k (by decide) (by decide), clayA_k (by decide) (by decide), clayA_k (by decide) (by decide)]; exact RM
        · show SzI _ _ _ (clayA _ _ _ _)
          unfold SzI; rw [clayA_k (by decide) (by decide), clayA_k (by decide) (by decide), clayA_k (by decide) (by decide)]; exact SZ
        · intro a c x y
          show upd ((sR S).1 1) _ _ _ = opS _ (upd ((sR S).1 0) _ _ _)
          by_cases q : a * 5 + c = iN i * 5 + iN j
          · rw [q, upd_at, upd_at]; rfl
          · rw [upd_off q, upd_off q]; exact OA a c x y
        · unfold HisS at HI ⊢
          rw [te0] at HI
          show EqB (cutS S) (widS S) (barS (sC S) (sB S) (cutS S) (widS S) (sqW S) (sB S 1 0) (sR S).2.2.2.1 (hot0 (sB S) (cutS S) (widS S) (sH S) (clayA (sB S 1 2) (iN i * 5 + iN j) t (sR S).1))) (clayA (sB S 1 2) (iN i * 5 + iN j) t (sR S).1, (sR S).2)
          rw [te0]
          obtain ⟨⟨e1, e2, e3, e4, e5, e6, e8⟩, _, q⟩ := HI
          have fl : ∀ (f g : Nat → Int32) (x : Int32), EqI (cutS S) (widS S) (fillF f x 40) (fillF g x 40) := fun f g x i j hi hj => by rw [fillF_in c8 w5 hi hj, fillF_in c8 w5 hi hj]
          have H := heatS_c (tab := sB S) (sq := sqS (widS S) (widS S)) (v := sH S) c8 w5 (A := clayA (sB S 1 2) (iN i * 5 + iN j) t (sR S).1) (B := upA (sR S).1 1 (clayA (sB S 1 2) (iN i * 5 + iN j) t (sR S).1 1)) (by rw [upA_same]; exact EqI_rf _ _ _)
          have z2 : EqI (cutS S) (widS S) (heatS (sB S) (cutS S) (widS S) (sqS (widS S) (widS S)) (sH S) (clayA (sB S 1 2) (iN i * 5 + iN j) t (sR S).1) 2) (heatS (sB S) (cutS S) (widS S) (sqS (widS S) (widS S)) (sH S) (sR S).1 2) := by
            rw [heatS_k.2.1, heatS_k.2.1]; exact fl _ _ _
          have z6 : EqI (cutS S) (widS S) (heatS (sB S) (cutS S) (widS S) (sqS (widS S) (widS S)) (sH S) (clayA (sB S 1 2) (iN i * 5 + iN j) t (sR S).1) 6) (heatS (sB S) (cutS S) (widS S) (sqS (widS S) (widS S)) (sH S) (sR S).1 6) := by
            rw [heatS_k.2.2.1, heatS_k.2.2.1]; exact fl _ _ _
          have z8 : EqI (cutS S) (widS S) (heatS (sB S) (cutS S) (widS S) (sqS (widS S) (widS S)) (sH S) (clayA (sB S 1 2) (iN i * 5 + iN j) t (sR S).1) 8) (heatS (sB S) (cutS S) (widS S) (sqS (widS S) (widS S)) (sH S) (sR S).1 8) := by
            rw [heatS_k.1, heatS_k.1]; exact fl _ _ _
          have z3 : EqI (cutS S) (widS S) (heatS (sB S) (cutS S) (widS S) (sqS (widS S) (widS S)) (sH S) (clayA (sB S 1 2) (iN i * 5 + iN j) t (sR S).1) 3) (heatS (sB S) (cutS S) (widS S) (sqS (widS S) (widS S)) (sH S) (sR S).1 3) := by
            unfold heatS; rw [sizL_k (by decide), sizL_k (by decide)]; exact fl _ _ _
          have z4 : EqI (cutS S) (widS S) (heatS (sB S) (cutS S) (widS S) (sqS (widS S) (widS S)) (sH S) (clayA (sB S 1 2) (iN i * 5 + iN j) t (sR S).1) 4) (heatS (sB S) (cutS S) (widS S) (sqS (widS S) (widS S)) (sH S) (sR S).1 4) := by
            unfold heatS; rw [sizL_k (by decide), sizL_k (by decide)]; exact fl _ _ _
          have z5 : EqI (cutS S) (widS S) (heatS (sB S) (cutS S) (widS S) (sqS (widS S) (widS S)) (sH S) (clayA (sB S 1 2) (iN i * 5 + iN j) t (sR S).1) 5) (heatS (sB S) (cutS S) (widS S) (sqS (widS S) (widS S)) (sH S) (sR S).1 5) := fun a c x y => by
            rw [heatS_sz (sq := sqS (widS S) (widS S)) (v := sH S) w5 a c x y, heatS_sz (sq := sqS (widS S) (widS S)) (v := sH S) w5 a c x y]
            unfold sizG
            rw [z8 a c x y, z3 a c x y]
          refine ⟨⟨?_, ?_, ?_, ?_, ?_, ?_, ?_⟩, fun k hk => absurd hk (Nat.not_lt_zero _), q⟩
          · show EqI _ _ (heatS _ _ _ _ _ _ 1) _
            rw [heatS_k.2.2.2.2]; exact EqI_rf _ _ _
          · exact EqI_tr z2 e2
          · exact EqI_tr z3 e3
          · exact EqI_tr z4 e4
          · exact EqI_tr z5 e5
          · exact EqI_tr z6 e6
          · exact EqI_tr z8 e8
      · exact PI_tr P 5
    · exact PI_tr P 2
  · exact PI_tr P 1
/-- a run further is one run -/
theorem His_run {cnt : Nat → Nat} {tab : Nat → Nat → Int32} {cuts w : Nat} {sq water v : Int32} (esq : sq = sqS w w) (hc : cuts ≤ 8) (hw : w ≤ 5) {s : BSt} (HI : EqB cuts w (barS cnt tab cuts w sq water s.2.2.2.1 (hot0 tab cuts w v s.1)) s) (n : Nat) : EqB cuts w (barS cnt tab cuts w sq water (barS cnt tab cuts w sq water n s).2.2.2.1 (hot0 tab cuts w v (barS cnt tab cuts w sq water n s).1)) (barS cnt tab cuts w sq water n s) := by
  have g := barS_mono cnt tab cuts w sq water n s
  obtain ⟨k, ek⟩ : ∃ k, (barS cnt tab cuts w sq water n s).2.2.2.1 = s.2.2.2.1 + k := ⟨(barS cnt tab cuts w sq water n s).2.2.2.1 - s.2.2.2.1, by omega⟩
  have e1 := barS_cut n s k ek
  rw [e1] at ek ⊢
  rw [ek]
  refine EqB_tr (barS_e hw _ _ _ (hot0_e (B := s.1) hc hw ?_)) ?_
  · rw [(barS_01 k s).2]; exact EqI_rf _ _ _
  · rw [barS_add]; exact barS_e hw _ _ _ HI
theorem PI_go (P : PI S) {n : Int32} : PI (sGo S n).1 := by
  unfold sGo
  split
  · rename_i bo
    split
    · rename_i iv
      split
      · rename_i d
        split
        · have t4 : (sR S).2.2.2.1 ≤ 400 := P.1.2.2.1
          obtain ⟨⟨⟨lo, hi, F⟩, h5, _, _, BO⟩, HI, _⟩ := P.2.2.2.2 bo
          obtain ⟨en, _, h60⟩ := inB_nat (a := 1) (b := 60) (by decide) (by decide) iv
          refine PI_tr (PI_bar P bo ?_ (BOk_bar F h5 (px_w P.1) (px_c P.1) _ _ BO) ?_) 0
          · have := barS_te (cnt := sC S) (tab := sB S) (cuts := cutS S) (w := widS S) (sq := sqW S) (water := sB S 1 0) (iN n) (sR S)
            rw [en, nI_add] at d
            have d' := (nI_leI (b := 400) (by omega) (by decide)).mp d
            show (barS (sC S) (sB S) (cutS S) (widS S) (sqW S) (sB S 1 0) (iN n) (sR S)).2.2.2.1 ≤ 400
            omega
          · exact His_run rfl (px_c P.1) (px_w P.1) HI (iN n)
        · exact PI_tr P 5
      · exact PI_tr P 3
    · exact PI_tr P 2
  · exact PI_tr P 1
theorem PI_again (P : PI S) {n : Int32} : PI (sAgain S n).1 := by
  unfold sAgain
  split
  · rename_i bo
    split
    · rename_i iv
      have t4 : (sR S).2.2.2.1 ≤ 400 := P.1.2.2.1
      obtain ⟨⟨⟨lo, hi, F⟩, h5, _, _, BO⟩, HI, _⟩ := P.2.2.2.2 bo
      obtain ⟨en, _, hn⟩ := inB_nat (a := 0) (b := (sR S).2.2.2.1) (by omega) (by omega) iv
      unfold backS
      split
      · refine PI_tr (PI_bar P bo t4 BO HI) 0
      · have hH : EqB (cutS S) (widS S) (barS (sC S) (sB S) (cutS S) (widS S) (sqW S) (sB S 1 0) (hot0 (sB S) (cutS S) (widS S) (sH S) (sR S).1).2.2.2.1 (hot0 (sB S) (cutS S) (widS S) (sH S) (hot0 (sB S) (cutS S) (widS S) (sH S) (sR S).1).1)) (hot0 (sB S) (cutS S) (widS S) (sH S) (sR S).1) := His_hot (cnt := sC S) (px_c P.1) (px_w P.1)
        have te := barS_te (cnt := sC S) (tab := sB S) (cuts := cutS S) (w := widS S) (sq := sqW S) (water := sB S 1 0) (iN n) (hot0 (sB S) (cutS S) (widS S) (sH S) (sR S).1)
        have z0 : (hot0 (sB S) (cutS S) (widS S) (sH S) (sR S).1).2.2.2.1 = 0 := rfl
        refine PI_tr (PI_bar P bo ?_ (BOk_bar F h5 (px_w P.1) (px_c P.1) _ _ (BOk_hot F (px_w P.1) BO.2.2.2)) ?_) 0
        · show (barS (sC S) (sB S) (cutS S) (widS S) (sqW S) (sB S 1 0) (iN n) (hot0 (sB S) (cutS S) (widS S) (sH S) (sR S).1)).2.2.2.1 ≤ 400
          omega
        · exact His_run rfl (px_c P.1) (px_w P.1) hH (iN n)
    · exact PI_tr P 2
  · exact PI_tr P 1
theorem PI_lay (P : PI S) {l v : Int32} : PI (sLay S l v).1 := by
  unfold sLay
  split
  · split
    · rename_i iv
      split
      · rename_i jv
        split
        · exact PI_tr (PI_bil P P.2.2.1) 0
        · refine PI_tr (PI_bil P (fun k hk => ?_)) 0
          by_cases e : k = iN l
          · rw [e, upd_at]; exact inB_t jv
          · rw [upd_off e]; exact P.2.2.1 k hk
      · exact PI_tr P 2
    · exact PI_tr P 1
  · exact PI_tr P 1
theorem PI_fold (P : PI S) {n : Int32} : PI (sFold S n).1 := by
  unfold sFold
  split
  · split
    · exact PI_tr (PI_bil P (Ly_foldN P.2.2.1 _)) 0
    · exact PI_tr P 2
  · exact PI_tr P 1
theorem PI_learn (P : PI S) {heat water clay how : Int32} : PI (sLearn S heat water clay how).1 := by
  unfold sLearn
  split
  · rename_i bo
    split
    · rename_i lc
      split
      · exact PI_tr P 3
      · rename_i d
        refine PI_tr (PI_bla P bo (by omega) (fun k hk => ?_)) 0
        have r4 : inB how 0 2 = true := by
          unfold learnC at lc
          split at lc
          · split at lc
            · split at lc
              · exact lc
              · cases lc
            · cases lc
          · cases lc
        by_cases e : k = sBl S
        · rw [e, upd_at]; exact inB_t r4
        · rw [upd_off e]; exact P.2.2.2.1 k (by omega)
    · exact PI_tr P 2
  · exact PI_tr P 1
theorem ByOk_nar (x : Int8) : ∃ y : BitVec 8, vp_nar .byte x.toInt32 = (Int8.ofBitVec y).toInt32 := ⟨x.toInt32.toInt8.toBitVec, rfl⟩
theorem PI_put1 (P : PI S) {v sh : Int32} (hn : sN S < 700) : PI (sPut1 S v sh) := by
  unfold sPut1
  refine PI_tape P (by omega) (fun k => ?_)
  by_cases e : k = sN S
  · rw [e, upd_at]
    unfold byS
    exact ByOk_nar _
  · rw [upd_off e]; exact P.2.1 k
theorem PI_put4 (P : PI S) {v : Int32} (hn : sN S + 4 ≤ 700) : PI (sPut4 S v) :=
  PI_put1 (PI_put1 (PI_put1 (PI_put1 P (by omega)) (by show sN S + 1 < 700; omega)) (by show sN S + 1 + 1 < 700; omega)) (by show sN S + 1 + 1 + 1 < 700; omega)
theorem PI_feed (P : PI S) {a b c d e : Int32} : PI (sFeed S a b c d e).1 := by
  unfold sFeed
  split
  · rename_i l
    exact PI_put4 (PI_put4 (PI_put4 (PI_put4 (PI_put4 P (by omega)) (by show sN S + 4 + 4 ≤ 700; omega)) (by show sN S + 8 + 4 ≤ 700; omega)) (by show sN S + 12 + 4 ≤ 700; omega)) (by show sN S + 16 + 4 ≤ 700; omega)
  · exact P
theorem PI_book (P : PI S) {n : Int32} {S' : SS} {r : Int32} (R : BookRel S n S' r) : PI S' := by
  unfold BookRel at R
  split at R
  · obtain ⟨z, ⟨lw, nm, kn, tab, ez⟩, ⟨zf, rfl, _, lM⟩ | ⟨zf, rfl, _⟩⟩ := R
    · have good := read_good (tp := sTp S) (n := iN n) (lw := lw) (nm := nm) (kn := kn) (tab := tab)
      rw [← ez] at good
      obtain ⟨Gg, g0, g1, g2⟩ := good zf
      have ok := good_ok Gg g0
      have F := good_F Gg g0 g1 g2
      have BO : BOk (zC z) (zB z) (iN (zB z 0 0)) (iN (zB z 0 1)) (hot0 (zB z) (iN (zB z 0 0)) (iN (zB z 0 1)) 0 (fitA (zB z) (iN (zB z 0 0)) (iN (zB z 0 1)) (sR S).1)) := by
        refine BOk_hot F ok.2.2.2.1 (fun i j x y => ?_)
        unfold fitA
        rw [heatS_k.2.2.2.2, heatS_k.2.2.2.1, upA_same, upA_ne _ _ (by decide), upA_same, fillF_in ok.2.1 ok.2.2.2.1 x y, fillF_in ok.2.1 ok.2.2.2.1 x y]
        unfold opS
        rw [Int32.mul_zero, if_pos (by decide)]; rfl
      refine ⟨⟨Nat.zero_le _, Nat.zero_le _, Nat.zero_le _, fun _ => ok, fun y => (by cases y), fun _ => BO.1⟩, P.2.1, fun k hk => ?_, fun k hk => absurd hk (Nat.not_lt_zero _), fun _ => ⟨⟨⟨_, _, F⟩, lM 2 (by decide), ok.2.2.2.2.1, ok.2.2.2.2.2, BO⟩, His_hot (cnt := zC z) ok.2.1 ok.2.2.2.1, ⟨?_, ok.2.2.2.1⟩, inB_t (Gg.2.1 (by omega)).1, inB_t (Gg.2.1 (by omega)).2.2, fun m k hm hk => ?_⟩⟩
      · show 0 ≤ fillF (sD S) 0 8 k ∧ fillF (sD S) 0 8 k ≤ 9999
        unfold fillF; rw [if_pos hk]; decide
      · have := ok.2.2.1
        show 0 < iN (zB z 0 1)
        omega
      · obtain ⟨a, b⟩ := inB_t (Gg.2.2.2.1 m k hm hk)
        rw [Int32.le_iff_toInt_le] at a b
        exact ⟨a, b⟩
    · exact PI_tape P (Nat.zero_le _) P.2.1
  · obtain ⟨rfl, _⟩ := R
    exact PI_tr P 2
end PIv
