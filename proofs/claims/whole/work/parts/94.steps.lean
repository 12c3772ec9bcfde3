/-! A CALL: class and reference answer alike, and the world goes on -/
def LI (h : tm_H) (S : SS) : Prop := XInv h S ∧ MInv h S ∧ PI S
def LTy (lng : Bool) (v : Value) : Prop := match lng with
  | true => ∃ x, v = .long x
  | false => ∃ x, v = .int x
def LStep (h : tm_H) (lng : Bool) (mx mm : tm_M) (as : List Value) : Prop := ∃ h1 v h2 S', LTy lng v ∧ (∃ fs, h1 70 = .inr (11, fs)) ∧ tC mx (.ref 1 :: as) h = some (h1, some v) ∧ tC mm (.ref 70 :: as) h1 = some (h2, some v) ∧ LI h2 S'
section ST
variable {h h' : tm_H} {S : SS}
theorem MI_x (X : MInv h S) (F : FrX h h') : MInv h' S := by
  obtain ⟨Z, m1, c1, s1, h1, hm, T, ⟨tn, hm0, km, cl, tu, th, om, HA⟩, tp, B, ⟨f1, t1⟩, ⟨f2, t2⟩, ⟨f3, t3⟩, ⟨f4, l1, l2⟩, ⟨f5, t4⟩, ⟨f, b1, b2⟩⟩ := X
  have nx : ∀ k, 69 < k → h' k = h k := fun k x => F k (.inr x)
  exact ⟨Z, m1, c1, s1, by rw [F 0 (.inl rfl)]; exact h1, hm, T, ⟨tn, hm0, km, cl, tu, th, om, MA_c (fun k x => nx k (by omega)) HA⟩, by rw [nx 71 (by decide)]; exact tp, MBB_c (fun k x => nx k (by omega)) B, ⟨f1, by rw [nx 78 (by decide)]; exact t1⟩, ⟨f2, by rw [nx 79 (by decide)]; exact t2⟩, ⟨f3, by rw [nx 80 (by decide)]; exact t3⟩, ⟨f4, by rw [nx 81 (by decide)]; exact l1, l2⟩, ⟨f5, by rw [nx 82 (by decide)]; exact t4⟩, ⟨f, by rw [nx 83 (by decide)]; exact b1, b2⟩⟩
theorem XI_m (X : XInv h S) (E : ∀ k, 1 ≤ k → k < 70 → h' k = h k) : XInv h' S := by
  obtain ⟨told, spare, ts, O, T2, R, K, Ba, Tr, Bi, Bl⟩ := X
  exact ⟨told, spare, ts, by rw [E 1 (by decide) (by decide)]; exact O, by rw [E 2 (by decide) (by decide)]; exact T2, XRd_c (fun k hk => E k (by omega) (by omega)) R, XBks_c ts (fun k h1 h2 => E k (by omega) (by omega)) K, XBar_c (fun k h1 h2 => E k (by omega) (by omega)) Ba, XTri_c (fun k hk => E k (by omega) (by omega)) Tr, XBil_c (fun k h1 h2 => E k (by omega) (by omega)) Bi, XBla_c (fun k h1 h2 => E k (by omega) (by omega)) Bl⟩
theorem MI_11 (M : MInv h S) : ∃ fs, h 70 = .inr (11, fs) := by
  obtain ⟨Z, m1, c1, s1, q, h1, T, ⟨tn, hm, km, cl, tu, th, om, HA⟩, _⟩ := M
  exact ⟨_, HA.1⟩
theorem st_mk {S' : SS} {mx mm : tm_M} {as : List Value} {v : Value} {lng : Bool} (L : LI h S) (hx : ∃ h1, tC mx (.ref 1 :: as) h = some (h1, some v) ∧ XInv h1 S' ∧ FrX h h1) (hm : ∀ h1, MInv h1 S → ∃ h2, tC mm (.ref 70 :: as) h1 = some (h2, some v) ∧ MInv h2 S' ∧ FrM h1 h2) (p : PI S') (ty : LTy lng v) : LStep h lng mx mm as := by
  obtain ⟨X, M, _⟩ := L
  obtain ⟨h1, e1, X1, F1⟩ := hx
  obtain ⟨h2, e2, M2, F2⟩ := hm h1 (MI_x M F1)
  exact ⟨h1, v, h2, S', ty, MI_11 (MI_x M F1), e1, e2, XI_m X1 (fun k _ hk => F2 k hk), M2, p⟩
theorem st_feed (L : LI h S) {a b c d e : Int32} : LStep h false mX9_feed mX11_feed [.int a, .int b, .int c, .int d, .int e] := by
  have P := L.2.2
  exact st_mk L (x_feed L.1 P.1) (fun h1 M => m_feed M P.1) (PI_feed P) (show LTy false (sFeed S a b c d e).2 from by
    unfold sFeed
    (repeat' split) <;> exact ⟨_, rfl⟩)
theorem st_heat (L : LI h S) {v : Int32} : LStep h false mX9_heat mX11_heat [.int v] := by
  have P := L.2.2
  exact st_mk L (x_heat L.1) (fun h1 M => m_heat M P.1) (PI_heat P) (show LTy false (sHeat S v).2 from by
    unfold sHeat
    (repeat' split) <;> exact ⟨_, rfl⟩)
theorem st_clay (L : LI h S) {i j t : Int32} : LStep h false mX9_clay mX11_clay [.int i, .int j, .int t] := by
  have P := L.2.2
  have Q : sBo S = true → PB S := fun b => (P.2.2.2.2 b).1
  exact st_mk L (x_clay L.1 P.1) (fun h1 M => m_clay M P.1 Q) (PI_clay P) (show LTy false (sClay S i j t).2 from by
    unfold sClay
    (repeat' split) <;> exact ⟨_, rfl⟩)
theorem st_go (L : LI h S) {n : Int32} : LStep h false mX9_go mX11_go [.int n] := by
  have P := L.2.2
  have Q : sBo S = true → PB S := fun b => (P.2.2.2.2 b).1
  exact st_mk L (x_go L.1) (fun h1 M => m_go_ M P.1 Q) (PI_go P) (show LTy false (sGo S n).2 from by
    unfold sGo
    (repeat' split) <;> exact ⟨_, rfl⟩)
theorem st_again (L : LI h S) {n : Int32} : LStep h false mX9_again mX11_again [.int n] := by
  have P := L.2.2
  have Q : sBo S = true → PB S := fun b => (P.2.2.2.2 b).1
  exact st_mk L (x_again L.1 P.1) (fun h1 M => m_again M P.1 Q (fun b => (P.2.2.2.2 b).2.1)) (PI_again P) (show LTy false (sAgain S n).2 from by
    unfold sAgain
    (repeat' split) <;> exact ⟨_, rfl⟩)
theorem st_pull (L : LI h S) {i j : Int32} : LStep h true mX9_pull mX11_pull [.int i, .int j] := by
  have P := L.2.2
  have Q : sBo S = true → PB S := fun b => (P.2.2.2.2 b).1
  exact st_mk L (x_pull L.1 P.1) (fun h1 M => m_pull M P.1 Q) (show PI (sPull S i j).1 from by
    unfold sPull
    (repeat' split) <;> exact P) (show LTy true (sPull S i j).2 from by
    unfold sPull
    (repeat' split) <;> exact ⟨_, rfl⟩)
theorem st_curve (L : LI h S) {i : Int32} : LStep h false mX9_curve mX11_curve [.int i] := by
  have P := L.2.2
  have Q : sBo S = true → PB S := fun b => (P.2.2.2.2 b).1
  have w0 : sBo S = true → 0 < widS S ∧ widS S ≤ 5 := fun b => (P.2.2.2.2 b).2.2.1
  exact st_mk L (x_curve L.1 P.1) (fun h1 M => m_curve M P.1 Q w0) (show PI (sCurve S i).1 from by
    unfold sCurve
    (repeat' split) <;> exact P) (show LTy false (sCurve S i).2 from by
    unfold sCurve
    (repeat' split) <;> exact ⟨_, rfl⟩)
theorem st_bend (L : LI h S) {what : Int32} : LStep h false mX9_bend mX11_bend [.int what] := by
  have P := L.2.2
  have Q : sBo S = true → PB S := fun b => (P.2.2.2.2 b).1
  exact st_mk L (x_bend L.1) (fun h1 M => m_bend_ M P.1 Q) (show PI (sBend S what).1 from by
    unfold sBend
    (repeat' split) <;> exact P) (show LTy false (sBend S what).2 from by
    unfold sBend
    (repeat' split) <;> exact ⟨_, rfl⟩)
theorem st_crack (L : LI h S) {what : Int32} : LStep h false mX9_crack mX11_crack [.int what] := by
  have P := L.2.2
  exact st_mk L (x_crack L.1) (fun h1 M => m_crack_ M) (show PI (sCrack S what).1 from by
    unfold sCrack
    (repeat' split) <;> exact P) (show LTy false (sCrack S what).2 from by
    unfold sCrack
    (repeat' split) <;> exact ⟨_, rfl⟩)
theorem st_cold (L : LI h S) : LStep h false mX9_cold mX11_cold [] := by
  have P := L.2.2
  have Q : sBo S = true → PB S := fun b => (P.2.2.2.2 b).1
  exact st_mk L (x_cold L.1) (fun h1 M => m_cold M P.1 Q) (show PI (sCold S).1 from by
    unfold sCold
    (repeat' split) <;> exact P) (show LTy false (sCold S).2 from by
    unfold sCold
    (repeat' split) <;> exact ⟨_, rfl⟩)
theorem st_cloud (L : LI h S) {i hard : Int32} : LStep h false mX9_cloud mX11_cloud [.int i, .int hard] := by
  have P := L.2.2
  have Q : sBo S = true → PB S := fun b => (P.2.2.2.2 b).1
  have w0 : sBo S = true → 0 < widS S ∧ widS S ≤ 5 := fun b => (P.2.2.2.2 b).2.2.1
  exact st_mk L (x_cloud L.1 P.1) (fun h1 M => m_cloud M P.1 Q w0) (show PI (sCloud S i hard).1 from by
    unfold sCloud
    (repeat' split) <;> exact P) (show LTy false (sCloud S i hard).2 from by
    unfold sCloud
    (repeat' split) <;> exact ⟨_, rfl⟩)
theorem st_chip (L : LI h S) {i hard : Int32} : LStep h false mX9_chip mX11_chip [.int i, .int hard] := by
  have P := L.2.2
  have Q : sBo S = true → PB S := fun b => (P.2.2.2.2 b).1
  have w0 : sBo S = true → 0 < widS S ∧ widS S ≤ 5 := fun b => (P.2.2.2.2 b).2.2.1
  exact st_mk L (x_chip L.1 P.1) (fun h1 M => m_chip M P.1 Q w0) (show PI (sChip S i hard).1 from by
    unfold sChip
    (repeat' split) <;> exact P) (show LTy false (sChip S i hard).2 from by
    unfold sChip
    (repeat' split) <;> exact ⟨_, rfl⟩)
theorem st_aim (L : LI h S) {heat width hard : Int32} : LStep h false mX9_aim mX11_aim [.int heat, .int width, .int hard] := by
  have P := L.2.2
  have Q : sBo S = true → PB S := fun b => (P.2.2.2.2 b).1
  exact st_mk L (x_aim L.1 P.1) (fun h1 M => m_aim M P.1 Q (fun b => (P.2.2.2.2 b).2.2.2.2.1)) (show PI (sAim S heat width hard).1 from by
    unfold sAim
    (repeat' split) <;> exact P) (show LTy false (sAim S heat width hard).2 from by
    unfold sAim
    (repeat' split) <;> exact ⟨_, rfl⟩)
theorem st_scatter (L : LI h S) {heat byH byW : Int32} : LStep h false mX9_scatter mX11_scatter [.int heat, .int byH, .int byW] := by
  have P := L.2.2
  have Q : sBo S = true → PB S := fun b => (P.2.2.2.2 b).1
  exact st_mk L (x_scatter L.1 P.1) (fun h1 M => m_scatter M P.1 Q) (show PI (sScat S heat byH byW).1 from by
    unfold sScat
    (repeat' split) <;> exact P) (show LTy false (sScat S heat byH byW).2 from by
    unfold sScat
    (repeat' split) <;> exact ⟨_, rfl⟩)
theorem st_lowers (L : LI h S) {heat byH byW : Int32} : LStep h false mX9_lowers mX11_lowers [.int heat, .int byH, .int byW] := by
  have P := L.2.2
  have Q : sBo S = true → PB S := fun b => (P.2.2.2.2 b).1
  exact st_mk L (x_lowers L.1 P.1) (fun h1 M => m_lowers M P.1 Q (fun b => (P.2.2.2.2 b).2.2.2.1)) (show PI (sLow S heat byH byW).1 from by
    unfold sLow
    (repeat' split) <;> exact P) (show LTy false (sLow S heat byH byW).2 from by
    unfold sLow
    (repeat' split) <;> exact ⟨_, rfl⟩)
theorem st_why (L : LI h S) {heat : Int32} : LStep h false mX9_why mX11_why [.int heat] := by
  have P := L.2.2
  have Q : sBo S = true → PB S := fun b => (P.2.2.2.2 b).1
  exact st_mk L (x_why L.1 P.1) (fun h1 M => m_why M P.1 Q (fun b => (P.2.2.2.2 b).2.2.2.1)) (show PI (sWhy S heat).1 from by
    unfold sWhy
    (repeat' split) <;> exact P) (show LTy false (sWhy S heat).2 from by
    unfold sWhy
    (repeat' split) <;> exact ⟨_, rfl⟩)
theorem st_lay (L : LI h S) {l v : Int32} : LStep h false mX9_lay mX11_lay [.int l, .int v] := by
  have P := L.2.2
  exact st_mk L (x_lay L.1) (fun h1 M => m_lay M) (PI_lay P) (show LTy false (sLay S l v).2 from by
    unfold sLay
    (repeat' split) <;> exact ⟨_, rfl⟩)
theorem st_fold (L : LI h S) {n : Int32} : LStep h false mX9_fold mX11_fold [.int n] := by
  have P := L.2.2
  exact st_mk L (x_fold L.1) (fun h1 M => m_fold M) (PI_fold P) (show LTy false (sFold S n).2 from by
    unfold sFold
    (repeat' split) <;> exact ⟨_, rfl⟩)
theorem st_even (L : LI h S) {t : Int32} : LStep h false mX9_even mX11_even [.int t] := by
  have P := L.2.2
  exact st_mk L (x_even L.1) (fun h1 M => m_even M P.2.2.1) (show PI (sEven S t).1 from by
    unfold sEven
    (repeat' split) <;> exact P) (show LTy false (sEven S t).2 from by
    unfold sEven
    (repeat' split) <;> exact ⟨_, rfl⟩)
theorem st_colour (L : LI h S) {heat light : Int32} : LStep h false mX9_colour mX11_colour [.int heat, .int light] := by
  have P := L.2.2
  have Q : sBo S = true → PB S := fun b => (P.2.2.2.2 b).1
  exact st_mk L (x_colour L.1) (fun h1 M => m_colour M P.1 Q) (show PI (sCol S heat light).1 from by
    unfold sCol
    (repeat' split) <;> exact P) (show LTy false (sCol S heat light).2 from by
    unfold sCol
    (repeat' split) <;> exact ⟨_, rfl⟩)
theorem st_eye (L : LI h S) {colour light what width hard : Int32} : LStep h false mX9_eye mX11_eye [.int colour, .int light, .int what, .int width, .int hard] := by
  have P := L.2.2
  have Q : sBo S = true → PB S := fun b => (P.2.2.2.2 b).1
  exact st_mk L (x_eye L.1 P.1) (fun h1 M => m_eye M P.1 Q) (show PI (sEye S colour light what width hard).1 from by
    unfold sEye
    (repeat' split) <;> exact P) (show LTy false (sEye S colour light what width hard).2 from by
    unfold sEye
    (repeat' split) <;> exact ⟨_, rfl⟩)
theorem st_polish (L : LI h S) {signs : Int32} : LStep h false mX9_polish mX11_polish [.int signs] := by
  have P := L.2.2
  have Q : sBo S = true → PB S := fun b => (P.2.2.2.2 b).1
  exact st_mk L (x_polish L.1) (fun h1 M => m_polish M P.1 Q) (show PI (sShown S signs true).1 from by
    unfold sShown
    (repeat' split) <;> exact P) (show LTy false (sShown S signs true).2 from by
    unfold sShown
    (repeat' split) <;> exact ⟨_, rfl⟩)
theorem st_stones (L : LI h S) {signs : Int32} : LStep h false mX9_stones mX11_stones [.int signs] := by
  have P := L.2.2
  have Q : sBo S = true → PB S := fun b => (P.2.2.2.2 b).1
  exact st_mk L (x_stones L.1) (fun h1 M => m_stones M P.1 Q) (show PI (sShown S signs false).1 from by
    unfold sShown
    (repeat' split) <;> exact P) (show LTy false (sShown S signs false).2 from by
    unfold sShown
    (repeat' split) <;> exact ⟨_, rfl⟩)
theorem st_whose (L : LI h S) {signs : Int32} : LStep h false mX9_whose mX11_whose [.int signs] := by
  have P := L.2.2
  have Q : sBo S = true → PB S := fun b => (P.2.2.2.2 b).1
  exact st_mk L (x_whose L.1) (fun h1 M => m_whose M P.1 Q (fun b => (P.2.2.2.2 b).2.2.2.2.2)) (show PI (sWhose S signs).1 from by
    unfold sWhose
    (repeat' split) <;> exact P) (show LTy false (sWhose S signs).2 from by
    unfold sWhose
    (repeat' split) <;> exact ⟨_, rfl⟩)
theorem st_odds (L : LI h S) {smith signs : Int32} : LStep h true mX9_odds mX11_odds [.int smith, .int signs] := by
  have P := L.2.2
  have Q : sBo S = true → PB S := fun b => (P.2.2.2.2 b).1
  exact st_mk L (x_odds L.1) (fun h1 M => m_odds M P.1 Q) (show PI (sOdds S smith signs).1 from by
    unfold sOdds
    (repeat' split) <;> exact P) (show LTy true (sOdds S smith signs).2 from by
    unfold sOdds
    (repeat' split) <;> exact ⟨_, rfl⟩)
theorem st_learn (L : LI h S) {heat water clay how : Int32} : LStep h false mX9_learn mX11_learn [.int heat, .int water, .int clay, .int how] := by
  have P := L.2.2
  exact st_mk L (x_learn L.1 P.1) (fun h1 M => m_learn M P.1) (PI_learn P) (show LTy false (sLearn S heat water clay how).2 from by
    unfold sLearn
    (repeat' split) <;> exact ⟨_, rfl⟩)
theorem st_next (L : LI h S) : LStep h false mX9_next mX11_next [] := by
  have P := L.2.2
  exact st_mk L (x_next L.1 P.1) (fun h1 M => m_next M P.1 P.2.2.2.1) (show PI (sNext S).1 from by
    unfold sNext
    (repeat' split) <;> exact P) (show LTy false (sNext S).2 from by
    unfold sNext
    (repeat' split) <;> exact ⟨_, rfl⟩)
theorem st_fault (L : LI h S) : LStep h false mX9_fault mX11_fault [] := by
  have P := L.2.2
  exact st_mk L ⟨h, x_fault L.1, L.1, FrX_rf h⟩ (fun h1 M => m_fault M) P ⟨_, rfl⟩
theorem st_where (L : LI h S) : LStep h false mX9_where mX11_where [] := by
  have P := L.2.2
  exact st_mk L ⟨h, x_where L.1, L.1, FrX_rf h⟩ (fun h1 M => m_where M) P ⟨_, rfl⟩
theorem st_cell (L : LI h S) {i j what : Int32} : LStep h false mX9_cell mX11_cell [.int i, .int j, .int what] := by
  have P := L.2.2
  have Q : sBo S = true → PB S := fun b => (P.2.2.2.2 b).1
  exact st_mk L ⟨h, x_cell L.1 P.1, L.1, FrX_rf h⟩ (fun h1 M => m_cel M P.1 Q) P ⟨_, rfl⟩
theorem st_layer (L : LI h S) {l : Int32} : LStep h false mX9_layer mX11_layer [.int l] := by
  have P := L.2.2
  exact st_mk L ⟨h, x_layer L.1, L.1, FrX_rf h⟩ (fun h1 M => m_layer M) P ⟨_, rfl⟩
theorem st_size (L : LI h S) {what : Int32} : LStep h false mX9_size mX11_size [.int what] := by
  have P := L.2.2
  have Q : sBo S = true → PB S := fun b => (P.2.2.2.2 b).1
  exact st_mk L ⟨h, x_size L.1, L.1, FrX_rf h⟩ (fun h1 M => m_size M P.1 Q) P ⟨_, rfl⟩
theorem st_trouble (L : LI h S) : LStep h false mX9_trouble mX11_trouble [] := by
  have P := L.2.2
  exact st_mk L ⟨h, x_trouble L.1, L.1, FrX_rf h⟩ (fun h1 M => m_trouble M) P ⟨_, rfl⟩
theorem st_book (L : LI h S) {n : Int32} : LStep h false mX9_book mX11_book [.int n] := by
  obtain ⟨X, M, P⟩ := L
  obtain ⟨h1, S', r, e1, X1, F1, R⟩ := x_book X P.1 (n := n)
  have M1 := MI_x M F1
  obtain ⟨m, c, s, h0⟩ : ∃ m c s, h1 0 = tm_bk m c s := by
    obtain ⟨Z, m1, c1, s1, q, _⟩ := M1
    exact ⟨m1, c1, s1, q⟩
  obtain ⟨h2, m', e2, M2, _, _, F2⟩ := m_book M1 P.1 P.2.1 R h0
  exact ⟨h1, .int r, h2, S', ⟨_, rfl⟩, MI_11 M1, e1, e2, XI_m X1 (fun k k1 hk => F2 k (by omega) hk), M2, PI_book P R⟩
theorem led_in (P : PX S) {i : Int32} : inB i 0 (nI (sR S).2.1 - 1) = ledC S i := by
  have t40 : (sR S).2.1 ≤ 40 := by
    cases bo : sBo S with
    | true => rw [(P.2.2.2.2.2 bo).2]; exact nzc_le _ _
    | false => rw [(P.2.2.2.2.1 bo).2.1]; decide
  have lt : (nI (sR S).2.1 - 1 < i) ↔ ¬ i < nI (sR S).2.1 := by
    rw [Int32.lt_iff_toInt_lt, Int32.lt_iff_toInt_lt]
    have e : (nI (sR S).2.1).toInt = (sR S).2.1 := Int32.toInt_ofNat_of_lt (by omega)
    have e2 : (nI (sR S).2.1 - 1).toInt = (sR S).2.1 - 1 := by
      rw [Int32.toInt_sub, e]
      show Int.bmod (((sR S).2.1 : Int) - 1) _ = _
      apply Int.bmod_eq_of_le <;> omega
    rw [e, e2]; omega
  unfold inB ledC
  by_cases a : i < 0
  · rw [if_pos a, decide_eq_false (Int32.not_le.mpr a), Bool.and_false, Bool.false_and]
  · rw [if_neg a, decide_eq_true (Int32.not_lt.mp a), Bool.and_true]
    by_cases c : i < nI (sR S).2.1
    · rw [if_neg (fun y => (lt.mp y) c), decide_eq_true c, Bool.and_true]
      cases bo : sBo S with
      | true => rfl
      | false =>
        rw [(P.2.2.2.2.1 bo).2.1] at c
        exact absurd c a
    · rw [if_pos (lt.mpr c), decide_eq_false c, Bool.and_false]
theorem m_thrown {v : Int32} (g : tm_gf (h 70) 11 0 = some (.int v)) : tC mX11_thrown [.ref 70] h = some (h, some (.int v)) := by
  simp only [cX11_thrown_, bX11_thrown_0, bX11_thrown_4, tk1_some, tk0_some, tkc_some, tkc_none, ↓reduceIte, g]
end ST
