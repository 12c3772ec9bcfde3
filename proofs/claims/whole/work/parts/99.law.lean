/-! THE LAW: its loop, its start, the claim -/
theorem dLw_0 : decode code 0 = .ok (.new 8, 3) := by decide +kernel
theorem dLw_3 : decode code 3 = .ok (.dup, 1) := by decide +kernel
theorem dLw_4 : decode code 4 = .ok (.invokespecial 15, 3) := by decide +kernel
theorem dLw_7 : decode code 7 = .ok (.astore_n 1, 1) := by decide +kernel
theorem dLw_8 : decode code 8 = .ok (.new 16, 3) := by decide +kernel
theorem dLw_11 : decode code 11 = .ok (.dup, 1) := by decide +kernel
theorem dLw_12 : decode code 12 = .ok (.invokespecial 18, 3) := by decide +kernel
theorem dLw_15 : decode code 15 = .ok (.astore_n 2, 1) := by decide +kernel
theorem dLw_16 : decode code 16 = .ok (.iconst 1, 1) := by decide +kernel
theorem dLw_17 : decode code 17 = .ok (.newarray .long, 2) := by decide +kernel
theorem dLw_19 : decode code 19 = .ok (.astore_n 3, 1) := by decide +kernel
theorem dLw_20 : decode code 20 = .ok (.iconst 0, 1) := by decide +kernel
theorem dLw_21 : decode code 21 = .ok (.istore 4, 2) := by decide +kernel
theorem dLw_23 : decode code 23 = .ok (.iload 4, 2) := by decide +kernel
theorem dLw_25 : decode code 25 = .ok (.aload_n 0, 1) := by decide +kernel
theorem dLw_26 : decode code 26 = .ok (.arraylength, 1) := by decide +kernel
theorem dLw_27 : decode code 27 = .ok (.bipush 6, 2) := by decide +kernel
theorem dLw_29 : decode code 29 = .ok (.isub, 1) := by decide +kernel
theorem dLw_30 : decode code 30 = .ok (.if_icmp .gt 1344, 3) := by decide +kernel
theorem dLw_33 : decode code 33 = .ok (.aload_n 0, 1) := by decide +kernel
theorem dLw_34 : decode code 34 = .ok (.iload 4, 2) := by decide +kernel
theorem dLw_36 : decode code 36 = .ok (.iaload, 1) := by decide +kernel
theorem dLw_37 : decode code 37 = .ok (.bipush 63, 2) := by decide +kernel
theorem dLw_39 : decode code 39 = .ok (.iand, 1) := by decide +kernel
theorem dLw_40 : decode code 40 = .ok (.tableswitch 1328 0 34 #[156, 229, 254, 267, 280, 305, 354, 379, 404, 453, 491, 516, 541, 566, 579, 616, 653, 702, 751, 800, 825, 862, 887, 912, 937, 974, 1047, 1072, 1097, 1122, 1160, 1221, 1234, 1290, 1315], 156) := by decide +kernel
theorem dLw_1274 : decode code 1274 = .ok (.aload_n 1, 1) := by decide +kernel
theorem dLw_1281 : decode code 1281 = .ok (.aload_n 3, 1) := by decide +kernel
theorem dLw_1282 : decode code 1282 = .ok (.invokestatic 156, 3) := by decide +kernel
theorem dLw_1285 : decode code 1285 = .ok (.istore 5, 2) := by decide +kernel
theorem dLw_1287 : decode code 1287 = .ok (.aload_n 2, 1) := by decide +kernel
theorem dLw_1294 : decode code 1294 = .ok (.invokevirtual 161, 3) := by decide +kernel
theorem dLw_1297 : decode code 1297 = .ok (.istore 6, 2) := by decide +kernel
theorem dLw_1299 : decode code 1299 = .ok (.aload_n 2, 1) := by decide +kernel
theorem dLw_1300 : decode code 1300 = .ok (.invokevirtual 162, 3) := by decide +kernel
theorem dLw_1303 : decode code 1303 = .ok (.iload 5, 2) := by decide +kernel
theorem dLw_1305 : decode code 1305 = .ok (.if_icmp .eq 5, 3) := by decide +kernel
theorem dLw_1310 : decode code 1310 = .ok (.iload 5, 2) := by decide +kernel
theorem dLw_1312 : decode code 1312 = .ok (.ifCond .ne 15, 3) := by decide +kernel
theorem dLw_1315 : decode code 1315 = .ok (.aload_n 3, 1) := by decide +kernel
theorem dLw_1316 : decode code 1316 = .ok (.iconst 0, 1) := by decide +kernel
theorem dLw_1317 : decode code 1317 = .ok (.laload, 1) := by decide +kernel
theorem dLw_1318 : decode code 1318 = .ok (.iload 6, 2) := by decide +kernel
theorem dLw_1320 : decode code 1320 = .ok (.i2l, 1) := by decide +kernel
theorem dLw_1321 : decode code 1321 = .ok (.lcmp, 1) := by decide +kernel
theorem dLw_1322 : decode code 1322 = .ok (.ifCond .eq 5, 3) := by decide +kernel
theorem dLw_1327 : decode code 1327 = .ok (.goto 41, 3) := by decide +kernel
theorem dLw_1368 : decode code 1368 = .ok (.iinc 4 6, 3) := by decide +kernel
theorem dLw_1371 : decode code 1371 = .ok (.goto (-1348), 3) := by decide +kernel
theorem dLw_1374 : decode code 1374 = .ok (.iconst 1, 1) := by decide +kernel
theorem dLw_1375 : decode code 1375 = .ok (.ireturn, 1) := by decide +kernel
theorem dLw_a : lw_D1 1275 1 := by decide +kernel
theorem dLw_b : lw_D1 1288 1 := by decide +kernel
section LWL
variable {p : Program} {l : Launch} {e : Env} {s : State} {m : MethodId} {below : List Frame} {meth : Method} {c : Code} {H : Heap} {locs : List Loc} {cells slots : Nat} {Q : State → Prop} {b L : Nat} {xs : Nat → Int32}
variable {pc : Nat} {lc : Array Slot} {ρ σ τ adV : Nat → Nat} {h h' : tm_H} {D : va_G} {cA qo : Nat} {f : Nat → Int64}
/-- a maker is called -/
theorem lw_callI {M : tm_M} {k a : Nat} (C0 : lw_At p s m meth c b L xs) (hCx : tm_Cx tm_G D σ τ adV (fun q => s.heap.size ≤ q) s s.heap) (hw : tm_Wd D σ τ (fun q => s.heap.size ≤ q) s ρ h H locs) (hok : tm_OkM tm_G M) (hkd : tm_kd M = 2) (hk : Jvm.Cond.methodLink RL k (tm_y M) ∈ lw_tbl) (hrm : lw_Rm M) (hnp : tm_np M = 0)
    (ha1 : 1 ≤ a) (ha2 : a ≤ tm_sz h) (hc : tC M [.ref a] h = some (h', none)) (hsz : lc.size = 7) (hdg : decode code pc = .ok (.invokespecial k, 3)) (hcl : cells + tm_mc M ≤ 601024) (hsl : slots + tm_ms M ≤ 7293034)
    (kk : ∀ (ρ' : Nat → Nat) (H' : Heap) (locs' : List Loc), lx_Ag ρ h ρ' → tm_Wd D σ τ (fun q => s.heap.size ≤ q) s ρ' h' H' locs' → W p l e room_1 s m #[Value.ref b] below meth c H' locs' (cells + tm_mc M) (slots + tm_ms M) Q (F0 m (pc + 3) lc [.ref (ρ a)])) :
    W p l e room_1 s m #[Value.ref b] below meth c H locs cells slots Q (F0 m pc lc [.ref (ρ a), .ref (ρ a)]) := by
  obtain ⟨hx, hb, hr, hml, hown, hts, hX, hbl, hlocks, hgv⟩ := C0
  obtain ⟨hP, hD, hS, hwf⟩ := hw
  obtain ⟨o1, o2, o3, o4, o5, o6, o7, o8, o9, o10⟩ := id hok
  obtain ⟨o91, o92, o93⟩ := o9 hkd
  have has : ∀ v ∈ ([.ref a] : List Value), tm_wv (tm_sz h) v := fun v hv => by
    rw [List.mem_singleton.mp hv]
    intro z hz; injection hz with hz; subst hz; exact ⟨ha1, ha2⟩
  have hg : ∀ w ∈ lw_tbl, goodWord w = true → w.before #[Value.ref b] s = true := fun w hw _ => hts w hw
  have hM := tm_sound tm_okG l D σ τ adV (tm_dp M) M hok (Nat.le_refl _) _ h _ hc hwf has ρ H.size
  have hck := tm_cd_ck tm_okG.1 _ _ _ _ _ hc hwf has
  have hF : ∀ q, va_A (tm_ws ρ σ τ h) H.size q → s.heap.size ≤ q := by
    intro q hq
    rcases hq with ⟨k, e0, hk⟩ | hq
    · exact hD.2 k _ hk
    · exact Nat.le_trans hS.1 hq
  have hcall := tm_CB (R := room_1) (rm := tm_rm M) (own := RL) (index := k) (n := tm_np M) hg o3 o4 hk o5 (tm_desc o6) hrm.1 hrm.2
  unfold tm_Met at hM
  rw [o93] at hM hcall
  refine tm_callW (va_runI (As := []) (rest := [.ref (ρ a)]) ⟨hx, hb, hml, hown, hts⟩ hM ⟨hcall, o91, hg _ o92 rfl⟩ ⟨tm_Pc_blind _ _ _ _ _ _ _ _ _, fun U hU hW => ⟨rfl, by rw [hU], by rw [hU]; exact hP, hD.weaken (fun _ _ _ _ => trivial), tm_Cx.warm hCx hW hU hS.2.1 hF⟩⟩ rfl hnp.symm hsz rfl (lv_room (Nat.le_of_ble_eq_true rfl)) hdg ⟨hcl, hsl⟩) (fun v9 st₀ t H1 Lc h1 h2 hW hq hL => ?_)
  obtain ⟨ρ', e1, e2, q1, q2, q3⟩ := hq
  obtain rfl : v9 = none := Outcome.returned.inj e2
  rw [h2] at q1
  obtain ⟨z1, z2⟩ := q3
  rw [h1, h2] at z1 z2
  refine kk ρ' H1 (locs ++ Lc) e1 ⟨q1, q2.weaken (fun _ q _ hz => hF q.1 hz), ⟨Nat.le_trans hS.1 z1, fun q hq hnA => ?_, fun x hx => ?_⟩, hck.1⟩
  · rw [z2 q (Nat.lt_of_lt_of_le hq hS.1) (fun z => hnA (hF q z))]
    exact hS.2.1 q hq hnA
  · rcases List.mem_append.mp hx with y | y
    · exact hS.2.2 x y
    · exact hF _ (hL x y)
set_option maxHeartbeats 4000000 in
/-- the case of led -/
theorem lw_ledc {i : Nat} {S : SS} (G : lw_G p l s m meth c b L xs D σ τ adV cA) (V : lw_V s D σ τ cA qo ρ h f H locs) (LL : LI h S) (hi : i + 6 ≤ L) (hl : lv_has lc 7 (lw_lv b ρ qo i)) (hcl : cells + 20 ≤ 601024) (hsl : slots + 200 ≤ 7293034)
    (kk : ∀ (ρ' : Nat → Nat) (h' : tm_H) (S' : SS) (f' : Nat → Int64) (H' : Heap) (locs' : List Loc) (lc' : Array Slot), LI h' S' → lw_V s D σ τ cA qo ρ' h' f' H' locs' → lv_has lc' 7 (lw_lv b ρ' qo i) → W p l e room_1 s m #[Value.ref b] below meth c H' locs' (cells + 20) (slots + 200) Q (F0 m 1368 lc' [])) :
    W p l e room_1 s m #[Value.ref b] below meth c H locs cells slots Q (F0 m 1274 lc []) := by
  obtain ⟨⟨hx, hb, hr, hml, hown, hts, hX, hbl, hlocks, hgv⟩, hCx, hLx, hKo, hlt, hL⟩ := id G
  obtain ⟨⟨hP, hD, hS, hwf⟩, hO, hqo, hno⟩ := id V
  have hz := LI_sz LL
  have hFo : ∀ q, lo_A ρ σ τ h qo H.size q → s.heap.size ≤ q := by
    intro q hq
    rcases hq with (⟨k, e0, hk⟩ | hq) | rfl
    · exact hD.2 k _ hk
    · exact Nat.le_trans hS.1 hq
    · exact hqo
  have hqA : ¬ va_A (tm_ws ρ σ τ h) H.size qo := fun q => by
    rcases q with ⟨k, e, hk⟩ | q
    · exact hno k e hk
    · exact absurd hO.lt (Nat.not_lt.mpr q)
  have hwarm : ∀ w ∈ lo_Ws, ∀ (a' : Array Value) (U : State), s.WarmedH U.vm → w.before a' U = true := fun w hw a' U hW => by
    rcases List.mem_cons.mp hw with rfl | hw
    · exact word_at hW (good_of_word rfl) (hts _ (tm_in1 (i := 1142) (by decide +kernel)))
    · obtain ⟨q1, q2⟩ := List.mem_filter.mp hw
      exact word_at hW (good_of_word q2) (hts w q1)
  refine lv_aload_n hx hb dLw_1274 rfl (lv_at hl 1 rfl) ?_
  refine lw_ld (i := i) (j := 1) G V (by omega) (lv_at hl 0 rfl) (lv_at hl 4 rfl) dLw_a ?_
  refine lv_aload_n hx hb dLw_1281 rfl (lv_at hl 3 rfl) ?_
  refine vx_calli (vx_runSX (As := [.ref (ρ 1), .int (xs (i + 1)), .ref qo]) (rest := []) (own := RL) ⟨hx, hb, hml, hown, hts⟩ (lo_led l hlt D σ τ adV ρ h S (xs (i + 1)) cA qo f H.size LL hwf hno hO.lt) (show vx_CSW room_1 s #[Value.ref b] RL 156 yL_led cL_led 4 (some .int) [(0, 9, 12, 13)] lo_Ws lo_rm 1 6 3 from ⟨⟨rfl, rfl, by decide, by decide, hwarm, List.mem_cons_self⟩, hts _ (tm_in1 (i := 1142) (by decide +kernel)), hts _ (tm_in1 (i := 0) (by decide +kernel)), ⟨by decide, by decide⟩, tm_desc (by decide +kernel), hts _ (tm_in1 (i := 1140) (by decide +kernel)), hts _ (tm_in1 (i := 1141) (by decide +kernel))⟩) ⟨lo_Pc_blind D σ τ adV ρ h (xs (i + 1)) cA qo f H.size, fun U hU hW => ⟨rfl, by rw [hU], by rw [hU]; exact hP, hD.weaken (fun _ _ _ _ => trivial), tm_Cx.warm hCx hW hU hS.2.1 hFo, lx_Cx.warm hLx hW hU hS.2.1 hFo, by rw [hU]; exact hO, va_K.moved hW.alike hKo⟩⟩ rfl rfl hl.1 rfl (lv_room (Nat.le_of_ble_eq_true rfl)) dLw_1282 ⟨by show cells + 1 ≤ 601024; omega, by show slots + 6 ≤ 7293034; omega⟩) hS (fun q _ h => hFo q h) hFo (fun q _ h => hFo q h) (fun E ce q9 u t H1 locs1 ht hal hpx _ _ _ _ _ _ _ => hpx.elim) (fun r u t H1 locs1 ht hal hpo hB hz1 hk1 hS1 => ?_)
  obtain ⟨ρ1, f1⟩ := u
  obtain ⟨e1, p1, p2⟩ := hpo
  obtain ⟨⟨hP1, hD1⟩, hO1⟩ := hB
  rw [ht] at hP1 hO1
  dsimp only at e1 p1 hP1 hD1 hO1
  have V1 : lw_V s D σ τ cA qo ρ1 h f1 H1 locs1 := ⟨⟨hP1, hD1.weaken (fun _ q _ hz => hFo _ (Or.inl hz)), hS1, hwf⟩, hO1, hqo, fun k e he => hqA (hD1.2 k _ he)⟩
  refine lv_istore (lv' := (5, .int r) :: lw_lv b ρ qo i) hx hb dLw_1285 hl (by decide) rfl (fun lc1 hl1 => ?_)
  refine lv_aload_n hx hb dLw_1287 rfl (lv_at hl1 3 rfl) ?_
  refine lw_ld (i := i) (j := 1) G V1 (by omega) (lv_at hl1 1 rfl) (lv_at hl1 5 rfl) dLw_b ?_
  obtain ⟨h2, c2, M2, F2, g2⟩ := m_led LL.2.1 LL.2.2.1 (i := xs (i + 1))
  rw [← e1 70 (by decide) (by omega)]
  refine lw_call (M := mX11_led) (a := 70) (as' := [.int (xs (i + 1))]) (rest := []) G V1 tz_mX11_led rfl (tm_in1 (i := 1819) (by decide +kernel)) ⟨by decide, by decide⟩ rfl (by decide) (by omega) (MI_11 LL.2.1) (fun v hv => ⟨_, List.mem_singleton.mp hv⟩) c2 (fun _ => rfl) (show 0 ≤ 8 by decide) hl1.1 dLw_1294 (by show cells + 1 + 0 ≤ 601024; omega) (by show slots + 6 + 0 ≤ 7293034; omega) (fun ρ2 H2 locs2 e2 V2 z2 => ?_)
  refine lv_istore (lv' := (6, .int (if ledC S (xs (i + 1)) = true then ledS ((sR S).1 7 (iN (xs (i + 1)))) else 0)) :: (5, .int r) :: lw_lv b ρ qo i) hx hb dLw_1297 hl1 (by decide) rfl (fun lc2 hl2 => ?_)
  refine lv_aload_n hx hb dLw_1299 rfl (lv_at hl2 4 rfl) ?_
  have e12 : ∀ k, 1 ≤ k → k ≤ tm_sz h → ρ2 k = ρ k := fun k k1 k2 => (e2 k k1 k2).trans (e1 k k1 k2)
  rw [← e12 70 (by decide) (by omega)]
  refine lw_call (M := mX11_thrown) (a := 70) (as' := []) (rest := []) G V2 tz_mX11_thrown rfl (tm_in1 (i := 1325) (by decide +kernel)) ⟨by decide, by decide⟩ rfl (by decide) (by omega) (MI_11 M2) (fun v hv => by cases hv) (m_thrown g2) (fun _ => rfl) (show 0 ≤ 8 by decide) hl2.1 dLw_1300 (by show cells + 1 + 0 + 0 ≤ 601024; omega) (by show slots + 6 + 0 + 0 ≤ 7293034; omega) (fun ρ3 H3 locs3 e3 V3 z3 => ?_)
  have L3 : LI h2 S := ⟨XI_m LL.1 (fun k _ hk => F2 k hk), M2, LL.2.2⟩
  have hl3 : lv_has lc2 7 (lw_lv b ρ3 qo i) := by
    unfold lw_lv
    rw [e3 1 (by decide) (by omega), e3 70 (by decide) (by omega), e12 1 (by decide) (by omega), e12 70 (by decide) (by omega)]
    exact lv_sub hl2 [2, 3, 4, 5, 6] rfl
  have k3 := W.widen (cells := cells + 1 + 0 + 0) (slots := slots + 6 + 0 + 0) (k := cells + 20) (n := slots + 200) (by omega) (by omega) (kk ρ3 h2 S f1 H3 locs3 lc2 L3 V3 hl3)
  have k4 := lv_goto (tgt := 1368) hx hb dLw_1327 (by decide) k3
  refine lv_iload hx hb dLw_1303 (lv_at hl2 1 rfl) ?_
  have hr3 : (if ledC S (xs (i + 1)) = true then (0 : Int32) else 1) = r := by
    cases hc : ledC S (xs (i + 1)) with
    | true => rw [if_pos rfl, (p1 hc).1]
    | false => rw [if_neg (by decide), p2 hc]
  refine lv_icmp_eq (tgt := 1310) hx hb dLw_1305 (by decide) (fun _ => ?_) (fun q => absurd hr3 q)
  refine lv_iload hx hb dLw_1310 (lv_at hl2 1 rfl) ?_
  refine lv_if_ne (tgt := 1327) hx hb dLw_1312 (by decide) (fun _ => k4) (fun q => ?_)
  have hc : ledC S (xs (i + 1)) = true := by
    cases hc : ledC S (xs (i + 1)) with
    | true => rfl
    | false => rw [p2 hc] at q; exact absurd q (by decide)
  refine lv_aload_n hx hb dLw_1315 rfl (lv_at hl2 5 rfl) ?_
  refine lv_iconst (v := 0) hx hb dLw_1316 (by decide) ?_
  refine va_lald (ws := [(qo, .inl (cA, 1, .inr (.inl f1)))]) hx hb hKo (fun k q hk => by
    match k, hk with
    | 0, hk => cases hk; exact V3.2.1
    | k + 1, hk => simp at hk) 0 0 rfl rfl (show ¬ ((0 : Int32) < 0 ∨ 1 ≤ (0 : Int32).toNatClampNeg) by decide) dLw_1317 ?_
  refine lv_iload hx hb dLw_1318 (lv_at hl2 0 rfl) ?_
  refine lv_i2l hx hb dLw_1320 rfl ?_
  refine W.lcmp hx hb dLw_1321 ?_
  refine lv_if_eq (tgt := 1327) hx hb dLw_1322 (by decide) (fun _ => k4) (fun q => absurd ?_ q)
  rw [if_pos hc]
  show lg_cmp (f1 0) _ = 0
  rw [(p1 hc).2]
  unfold lg_cmp
  rw [if_neg (Int64.lt_irrefl), if_pos rfl]
theorem lw_and (x : Int32) : ∃ k : Nat, k < 64 ∧ x &&& 63 = nI k := by
  refine ⟨(x &&& 63).toBitVec.toNat, ?_, ?_⟩
  · show (x.toBitVec &&& 63#32).toNat < 64
    rw [BitVec.toNat_and]
    exact Nat.lt_succ_of_le Nat.and_le_right
  · apply Int32.toBitVec_inj.mp
    show _ = BitVec.ofNat 32 _
    simp
theorem lw_gt {L i : Nat} (hL : L ≤ 3072) (hi : i ≤ 3072) : nI L - 6 < nI i ↔ L < i + 6 := by
  rw [Int32.lt_iff_toInt_lt, Int32.toInt_sub]
  have e1 : (nI L).toInt = L := Int32.toInt_ofNat_of_lt (by omega)
  have e2 : (nI i).toInt = i := Int32.toInt_ofNat_of_lt (by omega)
  have e3 : Int.bmod ((L : Int) - 6) (2 ^ 32) = L - 6 := by apply Int.bmod_eq_of_le <;> omega
  rw [e1, e2, show (6 : Int32).toInt = 6 from by decide, e3]
  omega
end LWL
theorem dLc_0 : lw_D2 196 5 19 23 := by decide +kernel
theorem dLe_0 : lw_D3 264 1104 := by decide +kernel
theorem dLc_1 : lw_D2 269 1 24 27 := by decide +kernel
theorem dLe_1 : lw_D3 289 1079 := by decide +kernel
theorem dLc_2 : lw_D2 294 0 28 32 := by decide +kernel
theorem dLe_2 : lw_D3 302 1066 := by decide +kernel
theorem dLc_3 : lw_D2 307 0 33 36 := by decide +kernel
theorem dLe_3 : lw_D3 315 1053 := by decide +kernel
theorem dLc_4 : lw_D2 320 1 37 41 := by decide +kernel
theorem dLe_4 : lw_D3 340 1028 := by decide +kernel
theorem dLc_5 : lw_D2 345 3 42 46 := by decide +kernel
theorem dLe_5 : lw_D3 389 979 := by decide +kernel
theorem dLc_6 : lw_D2 394 1 47 50 := by decide +kernel
theorem dLe_6 : lw_D3 414 954 := by decide +kernel
theorem dLc_7 : lw_D2 419 1 51 54 := by decide +kernel
theorem dLe_7 : lw_D3 439 929 := by decide +kernel
theorem dLc_8 : lw_D2 444 3 55 59 := by decide +kernel
theorem dLe_8 : lw_D3 488 880 := by decide +kernel
theorem dLc_9 : lw_D2 493 2 60 64 := by decide +kernel
theorem dLe_9 : lw_D4 525 842 := by decide +kernel
theorem dLc_10 : lw_D2 531 1 65 68 := by decide +kernel
theorem dLe_10 : lw_D3 551 817 := by decide +kernel
theorem dLc_11 : lw_D2 556 1 69 72 := by decide +kernel
theorem dLe_11 : lw_D3 576 792 := by decide +kernel
theorem dLc_12 : lw_D2 581 1 73 76 := by decide +kernel
theorem dLe_12 : lw_D3 601 767 := by decide +kernel
theorem dLc_13 : lw_D2 606 0 77 80 := by decide +kernel
theorem dLe_13 : lw_D3 614 754 := by decide +kernel
theorem dLc_14 : lw_D2 619 2 81 85 := by decide +kernel
theorem dLe_14 : lw_D3 651 717 := by decide +kernel
theorem dLc_15 : lw_D2 656 2 86 89 := by decide +kernel
theorem dLe_15 : lw_D3 688 680 := by decide +kernel
theorem dLc_16 : lw_D2 693 3 90 93 := by decide +kernel
theorem dLe_16 : lw_D3 737 631 := by decide +kernel
theorem dLc_17 : lw_D2 742 3 94 97 := by decide +kernel
theorem dLe_17 : lw_D3 786 582 := by decide +kernel
theorem dLc_18 : lw_D2 791 3 98 101 := by decide +kernel
theorem dLe_18 : lw_D3 835 533 := by decide +kernel
theorem dLc_19 : lw_D2 840 1 102 105 := by decide +kernel
theorem dLe_19 : lw_D3 860 508 := by decide +kernel
theorem dLc_20 : lw_D2 865 2 106 110 := by decide +kernel
theorem dLe_20 : lw_D3 897 471 := by decide +kernel
theorem dLc_21 : lw_D2 902 1 111 114 := by decide +kernel
theorem dLe_21 : lw_D3 922 446 := by decide +kernel
theorem dLc_22 : lw_D2 927 1 115 118 := by decide +kernel
theorem dLe_22 : lw_D3 947 421 := by decide +kernel
theorem dLc_23 : lw_D2 952 1 119 122 := by decide +kernel
theorem dLe_23 : lw_D3 972 396 := by decide +kernel
theorem dLc_24 : lw_D2 977 2 123 126 := by decide +kernel
theorem dLe_24 : lw_D3 1009 359 := by decide +kernel
theorem dLc_25 : lw_D2 1014 5 127 130 := by decide +kernel
theorem dLe_25 : lw_D3 1082 286 := by decide +kernel
theorem dLc_26 : lw_D2 1087 1 131 134 := by decide +kernel
theorem dLe_26 : lw_D3 1107 261 := by decide +kernel
theorem dLc_27 : lw_D2 1112 1 135 138 := by decide +kernel
theorem dLe_27 : lw_D3 1132 236 := by decide +kernel
theorem dLc_28 : lw_D2 1137 1 139 142 := by decide +kernel
theorem dLe_28 : lw_D3 1157 211 := by decide +kernel
theorem dLc_29 : lw_D2 1162 2 143 146 := by decide +kernel
theorem dLe_29 : lw_D4 1194 173 := by decide +kernel
theorem dLc_30 : lw_D2 1200 4 147 151 := by decide +kernel
theorem dLe_30 : lw_D3 1256 112 := by decide +kernel
theorem dLc_31 : lw_D2 1261 0 152 155 := by decide +kernel
theorem dLe_31 : lw_D3 1269 99 := by decide +kernel
theorem dLc_33 : lw_D2 1330 1 165 168 := by decide +kernel
theorem dLe_33 : lw_D3 1350 18 := by decide +kernel
theorem dLc_34 : lw_D2 1355 0 169 172 := by decide +kernel
theorem dLe_34 : lw_D3 1363 5 := by decide +kernel
set_option maxHeartbeats 4000000 in
set_option maxRecDepth 100000 in
/-- THE LAW'S LOOP -/
theorem lw_loop {p : Program} {l : Launch} {e : Env} {s : State} {m : MethodId} {below : List Frame} {meth : Method} {c : Code} {b L : Nat} {xs : Nat → Int32} {σ τ adV : Nat → Nat} {D : va_G} {cA qo : Nat} (G : lw_G p l s m meth c b L xs D σ τ adV cA) :
    ∀ (n i : Nat), L < i + 6 * n + 6 → i ≤ 3072 → ∀ (ρ : Nat → Nat) (h : tm_H) (S : SS) (f : Nat → Int64) (H : Heap) (locs : List Loc) (lc : Array Slot) (cells slots : Nat), LI h S → lw_V s D σ τ cA qo ρ h f H locs → lv_has lc 7 (lw_lv b ρ qo i) → cells + 20 * n ≤ 601024 → slots + 200 * n ≤ 7293034 →
      W p l e room_1 s m #[Value.ref b] below meth c H locs cells slots (lw_Z below #[Value.ref b] s) (F0 m 23 lc []) := by
  obtain ⟨⟨hx, hb, hr, hml, hown, hts, hX, hbl, hlocks, hgv⟩, hCx, hLx, hKo, hlt, hL⟩ := id G
  have hbA : ¬ (fun q : Nat => s.heap.size ≤ q) b := Nat.not_le.mpr hbl
  intro n
  induction n with
  | zero =>
    intro i hn hi3 ρ h S f H locs lc cells slots LL V hl hcl hsl
    refine lv_iload hx hb dLw_23 (lv_at hl 4 rfl) ?_
    refine lv_aload_n hx hb dLw_25 rfl (lv_at hl 0 rfl) ?_
    refine va_slen (A := fun q => s.heap.size ≤ q) hx hb hX hbl hbA V.1.2.2.1 dLw_26 ?_
    refine lv_bipush (v := 6) hx hb dLw_27 (by decide) ?_
    refine lv_isub hx hb dLw_29 ?_
    refine lv_icmp_gt (tgt := 1374) hx hb dLw_30 (by decide) (fun _ => ?_) (fun q => absurd ((lw_gt hL hi3).mpr (by omega)) q)
    refine lv_iconst (v := 1) hx hb dLw_1374 (by decide) ?_
    refine va_forget (fun q hq => V.1.2.2.1.2.2 q hq) ?_
    refine W.widen (k := 601024) (n := 7293034) (by omega) (by omega) ?_
    exact lw_ret hx hb hr hlocks dLw_1375
  | succ n ih =>
    intro i hn hi3 ρ h S f H locs lc cells slots LL V hl hcl hsl
    refine lv_iload hx hb dLw_23 (lv_at hl 4 rfl) ?_
    refine lv_aload_n hx hb dLw_25 rfl (lv_at hl 0 rfl) ?_
    refine va_slen (A := fun q => s.heap.size ≤ q) hx hb hX hbl hbA V.1.2.2.1 dLw_26 ?_
    refine lv_bipush (v := 6) hx hb dLw_27 (by decide) ?_
    refine lv_isub hx hb dLw_29 ?_
    refine lv_icmp_gt (tgt := 1374) hx hb dLw_30 (by decide) (fun _ => ?_) (fun q => ?_)
    · refine lv_iconst (v := 1) hx hb dLw_1374 (by decide) ?_
      refine va_forget (fun q hq => V.1.2.2.1.2.2 q hq) ?_
      refine W.widen (k := 601024) (n := 7293034) (by omega) (by omega) ?_
      exact lw_ret hx hb hr hlocks dLw_1375
    · have hi : i + 6 ≤ L := by
        rcases Nat.lt_or_ge L (i + 6) with z | z
        · exact absurd ((lw_gt hL hi3).mpr z) q
        · exact z
      have next : ∀ (ρ' : Nat → Nat) (h' : tm_H) (S' : SS) (f' : Nat → Int64) (H' : Heap) (locs' : List Loc) (lc' : Array Slot), LI h' S' → lw_V s D σ τ cA qo ρ' h' f' H' locs' → lv_has lc' 7 (lw_lv b ρ' qo i) → W p l e room_1 s m #[Value.ref b] below meth c H' locs' (cells + 20) (slots + 200) (lw_Z below #[Value.ref b] s) (F0 m 1368 lc' []) := by
        intro ρ' h' S' f' H' locs' lc' LL' V' hl'
        refine lv_iinc (v := nI (i + 6)) (lv' := [(4, .int (nI (i + 6))), (0, .ref b), (1, .ref (ρ' 1)), (2, .ref (ρ' 70)), (3, .ref qo)]) hx hb dLw_1368 hl' (k := 4) rfl (nI_add i 6) (by decide) rfl (fun lc2 hl2 => ?_)
        refine lv_goto (tgt := 23) hx hb dLw_1371 (by decide) ?_
        exact ih (i + 6) (by omega) (by omega) ρ' h' S' f' H' locs' lc2 _ _ LL' V' (lv_sub hl2 [1, 2, 3, 4, 0] rfl) (by omega) (by omega)
      refine lv_aload_n hx hb dLw_33 rfl (lv_at hl 0 rfl) ?_
      refine lv_iload hx hb dLw_34 (lv_at hl 4 rfl) ?_
      refine va_sld (A := fun q => s.heap.size ≤ q) hx hb hX hbl hbA V.1.2.2.1 (vp_in_nI (show i < L by omega) (by omega)) dLw_36 ?_
      refine lv_bipush (v := 63) hx hb dLw_37 (by decide) ?_
      refine lv_iand hx hb dLw_39 ?_
      obtain ⟨k, hk, ek⟩ := lw_and (xs (nI i).toNatClampNeg)
      rw [ek]
      by_cases h35 : k < 35
      · clear ek hk
        rcases (show k = 0 ∨ k = 1 ∨ k = 2 ∨ k = 3 ∨ k = 4 ∨ k = 5 ∨ k = 6 ∨ k = 7 ∨ k = 8 ∨ k = 9 ∨ k = 10 ∨ k = 11 ∨ k = 12 ∨ k = 13 ∨ k = 14 ∨ k = 15 ∨ k = 16 ∨ k = 17 ∨ k = 18 ∨ k = 19 ∨ k = 20 ∨ k = 21 ∨ k = 22 ∨ k = 23 ∨ k = 24 ∨ k = 25 ∨ k = 26 ∨ k = 27 ∨ k = 28 ∨ k = 29 ∨ k = 30 ∨ k = 31 ∨ k = 32 ∨ k = 33 ∨ k = 34 by omega) with rfl | rfl | rfl | rfl | rfl | rfl | rfl | rfl | rfl | rfl | rfl | rfl | rfl | rfl | rfl | rfl | rfl | rfl | rfl | rfl | rfl | rfl | rfl | rfl | rfl | rfl | rfl | rfl | rfl | rfl | rfl | rfl | rfl | rfl | rfl
        · refine lv_tableIn (off := 156) (tgt := 196) hx hb dLw_40 (by decide) (by decide) (by decide +kernel) (by decide) ?_
          exact lw_case (n := 5) (lng := false) G V LL hi hl (by decide) dLc_0 ⟨fun _ => dLe_0, fun q => (by cases q)⟩ tz_mX9_feed tz_mX11_feed ⟨rfl, rfl, rfl, by decide, by decide⟩ ⟨rfl, rfl, rfl, by decide, by decide⟩ (tm_in1 (i := 327) (by decide +kernel)) (tm_in1 (i := 1329) (by decide +kernel)) ⟨by decide, by decide⟩ (st_feed LL) (by omega) (by omega) next
        · refine lv_tableIn (off := 229) (tgt := 269) hx hb dLw_40 (by decide) (by decide) (by decide +kernel) (by decide) ?_
          exact lw_case (n := 1) (lng := false) G V LL hi hl (by decide) dLc_1 ⟨fun _ => dLe_1, fun q => (by cases q)⟩ tz_mX9_book tz_mX11_book ⟨rfl, rfl, rfl, by decide, by decide⟩ ⟨rfl, rfl, rfl, by decide, by decide⟩ (tm_in1 (i := 335) (by decide +kernel)) (tm_in1 (i := 1333) (by decide +kernel)) ⟨by decide, by decide⟩ (st_book LL) (by omega) (by omega) next
        · refine lv_tableIn (off := 254) (tgt := 294) hx hb dLw_40 (by decide) (by decide) (by decide +kernel) (by decide) ?_
          exact lw_case (n := 0) (lng := false) G V LL hi hl (by decide) dLc_2 ⟨fun _ => dLe_2, fun q => (by cases q)⟩ tz_mX9_fault tz_mX11_fault ⟨rfl, rfl, rfl, by decide, by decide⟩ ⟨rfl, rfl, rfl, by decide, by decide⟩ (tm_in1 (i := 634) (by decide +kernel)) (tm_in1 (i := 1570) (by decide +kernel)) ⟨by decide, by decide⟩ (st_fault LL) (by omega) (by omega) next
        · refine lv_tableIn (off := 267) (tgt := 307) hx hb dLw_40 (by decide) (by decide) (by decide +kernel) (by decide) ?_
          exact lw_case (n := 0) (lng := false) G V LL hi hl (by decide) dLc_3 ⟨fun _ => dLe_3, fun q => (by cases q)⟩ tz_mX9_where tz_mX11_where ⟨rfl, rfl, rfl, by decide, by decide⟩ ⟨rfl, rfl, rfl, by decide, by decide⟩ (tm_in1 (i := 638) (by decide +kernel)) (tm_in1 (i := 1574) (by decide +kernel)) ⟨by decide, by decide⟩ (st_where LL) (by omega) (by omega) next
        · refine lv_tableIn (off := 280) (tgt := 320) hx hb dLw_40 (by decide) (by decide) (by decide +kernel) (by decide) ?_
          exact lw_case (n := 1) (lng := false) G V LL hi hl (by decide) dLc_4 ⟨fun _ => dLe_4, fun q => (by cases q)⟩ tz_mX9_heat tz_mX11_heat ⟨rfl, rfl, rfl, by decide, by decide⟩ ⟨rfl, rfl, rfl, by decide, by decide⟩ (tm_in1 (i := 650) (by decide +kernel)) (tm_in1 (i := 1578) (by decide +kernel)) ⟨by decide, by decide⟩ (st_heat LL) (by omega) (by omega) next
        · refine lv_tableIn (off := 305) (tgt := 345) hx hb dLw_40 (by decide) (by decide) (by decide +kernel) (by decide) ?_
          exact lw_case (n := 3) (lng := false) G V LL hi hl (by decide) dLc_5 ⟨fun _ => dLe_5, fun q => (by cases q)⟩ tz_mX9_clay tz_mX11_clay ⟨rfl, rfl, rfl, by decide, by decide⟩ ⟨rfl, rfl, rfl, by decide, by decide⟩ (tm_in1 (i := 666) (by decide +kernel)) (tm_in1 (i := 1590) (by decide +kernel)) ⟨by decide, by decide⟩ (st_clay LL) (by omega) (by omega) next
        · refine lv_tableIn (off := 354) (tgt := 394) hx hb dLw_40 (by decide) (by decide) (by decide +kernel) (by decide) ?_
          exact lw_case (n := 1) (lng := false) G V LL hi hl (by decide) dLc_6 ⟨fun _ => dLe_6, fun q => (by cases q)⟩ tz_mX9_go tz_mX11_go ⟨rfl, rfl, rfl, by decide, by decide⟩ ⟨rfl, rfl, rfl, by decide, by decide⟩ (tm_in1 (i := 684) (by decide +kernel)) (tm_in1 (i := 1598) (by decide +kernel)) ⟨by decide, by decide⟩ (st_go LL) (by omega) (by omega) next
        · refine lv_tableIn (off := 379) (tgt := 419) hx hb dLw_40 (by decide) (by decide) (by decide +kernel) (by decide) ?_
          exact lw_case (n := 1) (lng := false) G V LL hi hl (by decide) dLc_7 ⟨fun _ => dLe_7, fun q => (by cases q)⟩ tz_mX9_again tz_mX11_again ⟨rfl, rfl, rfl, by decide, by decide⟩ ⟨rfl, rfl, rfl, by decide, by decide⟩ (tm_in1 (i := 742) (by decide +kernel)) (tm_in1 (i := 1656) (by decide +kernel)) ⟨by decide, by decide⟩ (st_again LL) (by omega) (by omega) next
        · refine lv_tableIn (off := 404) (tgt := 444) hx hb dLw_40 (by decide) (by decide) (by decide +kernel) (by decide) ?_
          exact lw_case (n := 3) (lng := false) G V LL hi hl (by decide) dLc_8 ⟨fun _ => dLe_8, fun q => (by cases q)⟩ tz_mX9_cell tz_mX11_cell ⟨rfl, rfl, rfl, by decide, by decide⟩ ⟨rfl, rfl, rfl, by decide, by decide⟩ (tm_in1 (i := 752) (by decide +kernel)) (tm_in1 (i := 1660) (by decide +kernel)) ⟨by decide, by decide⟩ (st_cell LL) (by omega) (by omega) next
        · refine lv_tableIn (off := 453) (tgt := 493) hx hb dLw_40 (by decide) (by decide) (by decide +kernel) (by decide) ?_
          exact lw_case (n := 2) (lng := true) G V LL hi hl (by decide) dLc_9 ⟨fun q => (by cases q), fun _ => dLe_9⟩ tz_mX9_pull tz_mX11_pull ⟨rfl, rfl, rfl, by decide, by decide⟩ ⟨rfl, rfl, rfl, by decide, by decide⟩ (tm_in1 (i := 776) (by decide +kernel)) (tm_in1 (i := 1664) (by decide +kernel)) ⟨by decide, by decide⟩ (st_pull LL) (by omega) (by omega) next
        · refine lv_tableIn (off := 491) (tgt := 531) hx hb dLw_40 (by decide) (by decide) (by decide +kernel) (by decide) ?_
          exact lw_case (n := 1) (lng := false) G V LL hi hl (by decide) dLc_10 ⟨fun _ => dLe_10, fun q => (by cases q)⟩ tz_mX9_curve tz_mX11_curve ⟨rfl, rfl, rfl, by decide, by decide⟩ ⟨rfl, rfl, rfl, by decide, by decide⟩ (tm_in1 (i := 785) (by decide +kernel)) (tm_in1 (i := 1673) (by decide +kernel)) ⟨by decide, by decide⟩ (st_curve LL) (by omega) (by omega) next
        · refine lv_tableIn (off := 516) (tgt := 556) hx hb dLw_40 (by decide) (by decide) (by decide +kernel) (by decide) ?_
          exact lw_case (n := 1) (lng := false) G V LL hi hl (by decide) dLc_11 ⟨fun _ => dLe_11, fun q => (by cases q)⟩ tz_mX9_bend tz_mX11_bend ⟨rfl, rfl, rfl, by decide, by decide⟩ ⟨rfl, rfl, rfl, by decide, by decide⟩ (tm_in1 (i := 791) (by decide +kernel)) (tm_in1 (i := 1686) (by decide +kernel)) ⟨by decide, by decide⟩ (st_bend LL) (by omega) (by omega) next
        · refine lv_tableIn (off := 541) (tgt := 581) hx hb dLw_40 (by decide) (by decide) (by decide +kernel) (by decide) ?_
          exact lw_case (n := 1) (lng := false) G V LL hi hl (by decide) dLc_12 ⟨fun _ => dLe_12, fun q => (by cases q)⟩ tz_mX9_crack tz_mX11_crack ⟨rfl, rfl, rfl, by decide, by decide⟩ ⟨rfl, rfl, rfl, by decide, by decide⟩ (tm_in1 (i := 804) (by decide +kernel)) (tm_in1 (i := 1690) (by decide +kernel)) ⟨by decide, by decide⟩ (st_crack LL) (by omega) (by omega) next
        · refine lv_tableIn (off := 566) (tgt := 606) hx hb dLw_40 (by decide) (by decide) (by decide +kernel) (by decide) ?_
          exact lw_case (n := 0) (lng := false) G V LL hi hl (by decide) dLc_13 ⟨fun _ => dLe_13, fun q => (by cases q)⟩ tz_mX9_cold tz_mX11_cold ⟨rfl, rfl, rfl, by decide, by decide⟩ ⟨rfl, rfl, rfl, by decide, by decide⟩ (tm_in1 (i := 816) (by decide +kernel)) (tm_in1 (i := 1694) (by decide +kernel)) ⟨by decide, by decide⟩ (st_cold LL) (by omega) (by omega) next
        · refine lv_tableIn (off := 579) (tgt := 619) hx hb dLw_40 (by decide) (by decide) (by decide +kernel) (by decide) ?_
          exact lw_case (n := 2) (lng := false) G V LL hi hl (by decide) dLc_14 ⟨fun _ => dLe_14, fun q => (by cases q)⟩ tz_mX9_cloud tz_mX11_cloud ⟨rfl, rfl, rfl, by decide, by decide⟩ ⟨rfl, rfl, rfl, by decide, by decide⟩ (tm_in1 (i := 824) (by decide +kernel)) (tm_in1 (i := 1698) (by decide +kernel)) ⟨by decide, by decide⟩ (st_cloud LL) (by omega) (by omega) next
        · refine lv_tableIn (off := 616) (tgt := 656) hx hb dLw_40 (by decide) (by decide) (by decide +kernel) (by decide) ?_
          exact lw_case (n := 2) (lng := false) G V LL hi hl (by decide) dLc_15 ⟨fun _ => dLe_15, fun q => (by cases q)⟩ tz_mX9_chip tz_mX11_chip ⟨rfl, rfl, rfl, by decide, by decide⟩ ⟨rfl, rfl, rfl, by decide, by decide⟩ (tm_in1 (i := 840) (by decide +kernel)) (tm_in1 (i := 1706) (by decide +kernel)) ⟨by decide, by decide⟩ (st_chip LL) (by omega) (by omega) next
        · refine lv_tableIn (off := 653) (tgt := 693) hx hb dLw_40 (by decide) (by decide) (by decide +kernel) (by decide) ?_
          exact lw_case (n := 3) (lng := false) G V LL hi hl (by decide) dLc_16 ⟨fun _ => dLe_16, fun q => (by cases q)⟩ tz_mX9_aim tz_mX11_aim ⟨rfl, rfl, rfl, by decide, by decide⟩ ⟨rfl, rfl, rfl, by decide, by decide⟩ (tm_in1 (i := 848) (by decide +kernel)) (tm_in1 (i := 1710) (by decide +kernel)) ⟨by decide, by decide⟩ (st_aim LL) (by omega) (by omega) next
        · refine lv_tableIn (off := 702) (tgt := 742) hx hb dLw_40 (by decide) (by decide) (by decide +kernel) (by decide) ?_
          exact lw_case (n := 3) (lng := false) G V LL hi hl (by decide) dLc_17 ⟨fun _ => dLe_17, fun q => (by cases q)⟩ tz_mX9_scatter tz_mX11_scatter ⟨rfl, rfl, rfl, by decide, by decide⟩ ⟨rfl, rfl, rfl, by decide, by decide⟩ (tm_in1 (i := 907) (by decide +kernel)) (tm_in1 (i := 1718) (by decide +kernel)) ⟨by decide, by decide⟩ (st_scatter LL) (by omega) (by omega) next
        · refine lv_tableIn (off := 751) (tgt := 791) hx hb dLw_40 (by decide) (by decide) (by decide +kernel) (by decide) ?_
          exact lw_case (n := 3) (lng := false) G V LL hi hl (by decide) dLc_18 ⟨fun _ => dLe_18, fun q => (by cases q)⟩ tz_mX9_lowers tz_mX11_lowers ⟨rfl, rfl, rfl, by decide, by decide⟩ ⟨rfl, rfl, rfl, by decide, by decide⟩ (tm_in1 (i := 938) (by decide +kernel)) (tm_in1 (i := 1737) (by decide +kernel)) ⟨by decide, by decide⟩ (st_lowers LL) (by omega) (by omega) next
        · refine lv_tableIn (off := 800) (tgt := 840) hx hb dLw_40 (by decide) (by decide) (by decide +kernel) (by decide) ?_
          exact lw_case (n := 1) (lng := false) G V LL hi hl (by decide) dLc_19 ⟨fun _ => dLe_19, fun q => (by cases q)⟩ tz_mX9_why tz_mX11_why ⟨rfl, rfl, rfl, by decide, by decide⟩ ⟨rfl, rfl, rfl, by decide, by decide⟩ (tm_in1 (i := 947) (by decide +kernel)) (tm_in1 (i := 1741) (by decide +kernel)) ⟨by decide, by decide⟩ (st_why LL) (by omega) (by omega) next
        · refine lv_tableIn (off := 825) (tgt := 865) hx hb dLw_40 (by decide) (by decide) (by decide +kernel) (by decide) ?_
          exact lw_case (n := 2) (lng := false) G V LL hi hl (by decide) dLc_20 ⟨fun _ => dLe_20, fun q => (by cases q)⟩ tz_mX9_lay tz_mX11_lay ⟨rfl, rfl, rfl, by decide, by decide⟩ ⟨rfl, rfl, rfl, by decide, by decide⟩ (tm_in1 (i := 960) (by decide +kernel)) (tm_in1 (i := 1745) (by decide +kernel)) ⟨by decide, by decide⟩ (st_lay LL) (by omega) (by omega) next
        · refine lv_tableIn (off := 862) (tgt := 902) hx hb dLw_40 (by decide) (by decide) (by decide +kernel) (by decide) ?_
          exact lw_case (n := 1) (lng := false) G V LL hi hl (by decide) dLc_21 ⟨fun _ => dLe_21, fun q => (by cases q)⟩ tz_mX9_fold tz_mX11_fold ⟨rfl, rfl, rfl, by decide, by decide⟩ ⟨rfl, rfl, rfl, by decide, by decide⟩ (tm_in1 (i := 973) (by decide +kernel)) (tm_in1 (i := 1749) (by decide +kernel)) ⟨by decide, by decide⟩ (st_fold LL) (by omega) (by omega) next
        · refine lv_tableIn (off := 887) (tgt := 927) hx hb dLw_40 (by decide) (by decide) (by decide +kernel) (by decide) ?_
          exact lw_case (n := 1) (lng := false) G V LL hi hl (by decide) dLc_22 ⟨fun _ => dLe_22, fun q => (by cases q)⟩ tz_mX9_layer tz_mX11_layer ⟨rfl, rfl, rfl, by decide, by decide⟩ ⟨rfl, rfl, rfl, by decide, by decide⟩ (tm_in1 (i := 984) (by decide +kernel)) (tm_in1 (i := 1756) (by decide +kernel)) ⟨by decide, by decide⟩ (st_layer LL) (by omega) (by omega) next
        · refine lv_tableIn (off := 912) (tgt := 952) hx hb dLw_40 (by decide) (by decide) (by decide +kernel) (by decide) ?_
          exact lw_case (n := 1) (lng := false) G V LL hi hl (by decide) dLc_23 ⟨fun _ => dLe_23, fun q => (by cases q)⟩ tz_mX9_even tz_mX11_even ⟨rfl, rfl, rfl, by decide, by decide⟩ ⟨rfl, rfl, rfl, by decide, by decide⟩ (tm_in1 (i := 992) (by decide +kernel)) (tm_in1 (i := 1760) (by decide +kernel)) ⟨by decide, by decide⟩ (st_even LL) (by omega) (by omega) next
        · refine lv_tableIn (off := 937) (tgt := 977) hx hb dLw_40 (by decide) (by decide) (by decide +kernel) (by decide) ?_
          exact lw_case (n := 2) (lng := false) G V LL hi hl (by decide) dLc_24 ⟨fun _ => dLe_24, fun q => (by cases q)⟩ tz_mX9_colour tz_mX11_colour ⟨rfl, rfl, rfl, by decide, by decide⟩ ⟨rfl, rfl, rfl, by decide, by decide⟩ (tm_in1 (i := 1008) (by decide +kernel)) (tm_in1 (i := 1767) (by decide +kernel)) ⟨by decide, by decide⟩ (st_colour LL) (by omega) (by omega) next
        · refine lv_tableIn (off := 974) (tgt := 1014) hx hb dLw_40 (by decide) (by decide) (by decide +kernel) (by decide) ?_
          exact lw_case (n := 5) (lng := false) G V LL hi hl (by decide) dLc_25 ⟨fun _ => dLe_25, fun q => (by cases q)⟩ tz_mX9_eye tz_mX11_eye ⟨rfl, rfl, rfl, by decide, by decide⟩ ⟨rfl, rfl, rfl, by decide, by decide⟩ (tm_in1 (i := 1016) (by decide +kernel)) (tm_in1 (i := 1775) (by decide +kernel)) ⟨by decide, by decide⟩ (st_eye LL) (by omega) (by omega) next
        · refine lv_tableIn (off := 1047) (tgt := 1087) hx hb dLw_40 (by decide) (by decide) (by decide +kernel) (by decide) ?_
          exact lw_case (n := 1) (lng := false) G V LL hi hl (by decide) dLc_26 ⟨fun _ => dLe_26, fun q => (by cases q)⟩ tz_mX9_polish tz_mX11_polish ⟨rfl, rfl, rfl, by decide, by decide⟩ ⟨rfl, rfl, rfl, by decide, by decide⟩ (tm_in1 (i := 1033) (by decide +kernel)) (tm_in1 (i := 1779) (by decide +kernel)) ⟨by decide, by decide⟩ (st_polish LL) (by omega) (by omega) next
        · refine lv_tableIn (off := 1072) (tgt := 1112) hx hb dLw_40 (by decide) (by decide) (by decide +kernel) (by decide) ?_
          exact lw_case (n := 1) (lng := false) G V LL hi hl (by decide) dLc_27 ⟨fun _ => dLe_27, fun q => (by cases q)⟩ tz_mX9_stones tz_mX11_stones ⟨rfl, rfl, rfl, by decide, by decide⟩ ⟨rfl, rfl, rfl, by decide, by decide⟩ (tm_in1 (i := 1057) (by decide +kernel)) (tm_in1 (i := 1791) (by decide +kernel)) ⟨by decide, by decide⟩ (st_stones LL) (by omega) (by omega) next
        · refine lv_tableIn (off := 1097) (tgt := 1137) hx hb dLw_40 (by decide) (by decide) (by decide +kernel) (by decide) ?_
          exact lw_case (n := 1) (lng := false) G V LL hi hl (by decide) dLc_28 ⟨fun _ => dLe_28, fun q => (by cases q)⟩ tz_mX9_whose tz_mX11_whose ⟨rfl, rfl, rfl, by decide, by decide⟩ ⟨rfl, rfl, rfl, by decide, by decide⟩ (tm_in1 (i := 1061) (by decide +kernel)) (tm_in1 (i := 1795) (by decide +kernel)) ⟨by decide, by decide⟩ (st_whose LL) (by omega) (by omega) next
        · refine lv_tableIn (off := 1122) (tgt := 1162) hx hb dLw_40 (by decide) (by decide) (by decide +kernel) (by decide) ?_
          exact lw_case (n := 2) (lng := true) G V LL hi hl (by decide) dLc_29 ⟨fun q => (by cases q), fun _ => dLe_29⟩ tz_mX9_odds tz_mX11_odds ⟨rfl, rfl, rfl, by decide, by decide⟩ ⟨rfl, rfl, rfl, by decide, by decide⟩ (tm_in1 (i := 1073) (by decide +kernel)) (tm_in1 (i := 1803) (by decide +kernel)) ⟨by decide, by decide⟩ (st_odds LL) (by omega) (by omega) next
        · refine lv_tableIn (off := 1160) (tgt := 1200) hx hb dLw_40 (by decide) (by decide) (by decide +kernel) (by decide) ?_
          exact lw_case (n := 4) (lng := false) G V LL hi hl (by decide) dLc_30 ⟨fun _ => dLe_30, fun q => (by cases q)⟩ tz_mX9_learn tz_mX11_learn ⟨rfl, rfl, rfl, by decide, by decide⟩ ⟨rfl, rfl, rfl, by decide, by decide⟩ (tm_in1 (i := 1082) (by decide +kernel)) (tm_in1 (i := 1807) (by decide +kernel)) ⟨by decide, by decide⟩ (st_learn LL) (by omega) (by omega) next
        · refine lv_tableIn (off := 1221) (tgt := 1261) hx hb dLw_40 (by decide) (by decide) (by decide +kernel) (by decide) ?_
          exact lw_case (n := 0) (lng := false) G V LL hi hl (by decide) dLc_31 ⟨fun _ => dLe_31, fun q => (by cases q)⟩ tz_mX9_next tz_mX11_next ⟨rfl, rfl, rfl, by decide, by decide⟩ ⟨rfl, rfl, rfl, by decide, by decide⟩ (tm_in1 (i := 1095) (by decide +kernel)) (tm_in1 (i := 1811) (by decide +kernel)) ⟨by decide, by decide⟩ (st_next LL) (by omega) (by omega) next
        · refine lv_tableIn (off := 1234) (tgt := 1274) hx hb dLw_40 (by decide) (by decide) (by decide +kernel) (by decide) ?_
          exact lw_ledc G V LL hi hl (by omega) (by omega) next
        · refine lv_tableIn (off := 1290) (tgt := 1330) hx hb dLw_40 (by decide) (by decide) (by decide +kernel) (by decide) ?_
          exact lw_case (n := 1) (lng := false) G V LL hi hl (by decide) dLc_33 ⟨fun _ => dLe_33, fun q => (by cases q)⟩ tz_mX9_size tz_mX11_size ⟨rfl, rfl, rfl, by decide, by decide⟩ ⟨rfl, rfl, rfl, by decide, by decide⟩ (tm_in1 (i := 1115) (by decide +kernel)) (tm_in1 (i := 1823) (by decide +kernel)) ⟨by decide, by decide⟩ (st_size LL) (by omega) (by omega) next
        · refine lv_tableIn (off := 1315) (tgt := 1355) hx hb dLw_40 (by decide) (by decide) (by decide +kernel) (by decide) ?_
          exact lw_case (n := 0) (lng := false) G V LL hi hl (by decide) dLc_34 ⟨fun _ => dLe_34, fun q => (by cases q)⟩ tz_mX9_trouble tz_mX11_trouble ⟨rfl, rfl, rfl, by decide, by decide⟩ ⟨rfl, rfl, rfl, by decide, by decide⟩ (tm_in1 (i := 1136) (by decide +kernel)) (tm_in1 (i := 1827) (by decide +kernel)) ⟨by decide, by decide⟩ (st_trouble LL) (by omega) (by omega) next
      · refine lv_tableOut (tgt := 1368) hx hb dLw_40 (Or.inr ?_) (by decide) ?_
        · rw [show (nI k).toInt = k from Int32.toInt_ofNat_of_lt (by omega)]; omega
        · exact W.widen (k := cells + 20) (n := slots + 200) (by omega) (by omega) (next ρ h S f H locs lc LL V hl)
set_option maxHeartbeats 4000000 in
set_option maxRecDepth 100000 in
/-- THE LAW, from its entry -/
theorem whole_start {p : Program} {e : Env} {s : State} {m : MethodId} {below : List Frame} {meth : Method} {c : Code} (l : Launch) (hflags : l.flags = flags0) {b L : Nat} {xs : Nat → Int32} (hL : L ≤ 3072) (C0 : lw_At p s m meth c b L xs) : W p l e room_1 s m #[Value.ref b] below meth c s.heap [] 0 0 (lw_Z below #[Value.ref b] s) (entryFrame m ([Value.ref b] : List Value).toArray 7) := by
  obtain ⟨hx, hb, hr, hml, hown, hts, hX, hbl, hlocks, hgv⟩ := id C0
  obtain ⟨D, σ, τ, adV, hCx⟩ := ls_Cx hts hgv
  have hLx := ls_lx hts hgv
  have hlt : l.stackTraces = false := by unfold Launch.stackTraces; rw [hflags]; decide +kernel
  have hA : ∀ q : Nat, s.heap.size ≤ q → (fun q : Nat => s.heap.size ≤ q) q := fun _ h => h
  obtain ⟨h0, eh0⟩ : ∃ h0 : tm_H, h0 = fun _ => tm_bk 0 0 0 := ⟨_, rfl⟩
  have hz0 : tm_sz h0 = 0 := by rw [eh0]; rfl
  have hw0 : tm_Wd D σ τ (fun q : Nat => s.heap.size ≤ q) s (fun _ => 0) h0 s.heap [] := by
    have e0 : tm_ws (fun _ => 0) σ τ h0 = [] := by unfold tm_ws; rw [hz0]; rfl
    refine ⟨by rw [e0]; exact fun k q h => (by simp at h), by rw [e0]; exact ⟨fun i j p q h => (by simp at h), fun k q h => (by simp at h)⟩, va_S.rf, fun k k1 k2 => by omega⟩
  have hl := lv_entry ([.ref b]) (n := 7) (Nat.le_of_ble_eq_true rfl)
  rw [lg_entry_eq]
  generalize (lg_sl ([.ref b]) ++ List.replicate (7 - (lg_sl ([.ref b])).length) Slot.unset).toArray = ls at hl ⊢
  have hl : lv_has ls 7 [(0, .ref b)] := hl
  obtain ⟨k1, k2, k3, k4, k5, k6, k7, k8, -⟩ := tm_okG.1.2.1 9 RX9 TX9 12 rfl
  refine va_new (D := D) (ci := 9) (fs := tm_df tm_G 9) (C := RX9) (T := TX9) (N := 12) hx hb hts k1 (tm_ty tm_G 9) k2 hown (hts _ (tm_in1 (i := 25) (by decide +kernel))) (hts _ k4) (hts _ k5) hCx.1 hw0.1 hw0.2.1 hw0.2.2.1 hA rfl k7 (by decide) (by decide) dLw_0 (fun q0 H1 P1 D1 S1 => ?_)
  have he1 : ∀ c fs, (.inr (9, tm_df tm_G 9) : va_E) = .inr (c, fs) → ∀ v ∈ fs, tm_wv (tm_sz h0) v := fun c fs q v hv => by
    cases q
    exact tm_wv_le (k8 v hv).1 (Nat.zero_le _)
  have w1 := tm_ws_new (fun _ => 0) σ τ (h := h0) (e := .inr (9, tm_df tm_G 9)) (n := 12) (q := q0) hw0.2.2.2 he1
  rw [show tm_cv (fun _ => 0) σ τ (.inr (9, tm_df tm_G 9)) = .inr (9, tm_df tm_G 9) from rfl] at w1
  rw [← w1] at P1 D1
  have hwf1 := tm_wf_new (n := 12) hw0.2.2.2 he1
  have z1 : tm_sz (tm_new h0 (.inr (9, tm_df tm_G 9)) 12) = 1 := by rw [tm_sz_new, hz0]
  obtain ⟨h1, eh1⟩ : ∃ h1 : tm_H, h1 = tm_new h0 (.inr (9, tm_df tm_G 9)) 12 := ⟨_, rfl⟩
  obtain ⟨ρ1, eρ1⟩ : ∃ ρ1 : Nat → Nat, ρ1 = fun k => if k = tm_sz h0 + 1 then q0 else 0 := ⟨_, rfl⟩
  rw [← eh1, ← eρ1] at P1 D1
  rw [← eh1] at hwf1 z1
  have r1 : ρ1 1 = q0 := by rw [eρ1, hz0]; rfl
  have a1 : h1 0 = tm_bk 1 1 12 := by rw [eh1, eh0]; rfl
  have b1 : h1 1 = .inr (9, tm_dflt 9) := by rw [eh1, eh0]; rfl
  have hw1 : tm_Wd D σ τ (fun q : Nat => s.heap.size ≤ q) s ρ1 h1 H1 [] := ⟨P1, D1, S1, hwf1⟩
  refine lv_dup hx hb dLw_3 rfl ?_
  obtain ⟨h2, c2, X2, a2, -⟩ := x_init a1 b1
  rw [← r1]
  refine lw_callI (M := mX9_init) C0 hCx hw1 tz_mX9_init rfl (tm_in1 (i := 27) (by decide +kernel)) ⟨by decide, by decide⟩ rfl (Nat.le_refl 1) (by omega) c2 hl.1 dLw_4 (by decide) (by decide) (fun ρ2 H2 locs2 e2 hw2 => ?_)
  rw [← e2 1 (Nat.le_refl 1) (by omega)]
  refine lv_astore_n (lv' := [(1, .ref (ρ2 1)), (0, .ref b)]) hx hb dLw_7 rfl hl (by decide) rfl (fun ls hl => ?_)
  have z2 : tm_sz h2 = 69 := by unfold tm_sz; rw [a2]; rfl
  obtain ⟨m1, m2, m3, m4, m5, m6, m7, m8, -⟩ := tm_okG.1.2.1 11 RX11 TX11 35 rfl
  refine va_new (D := D) (ci := 11) (fs := tm_df tm_G 11) (C := RX11) (T := TX11) (N := 35) hx hb hts m1 (tm_ty tm_G 11) m2 hown (hts _ (tm_in1 (i := 1213) (by decide +kernel))) (hts _ m4) (hts _ m5) hCx.1 hw2.1 hw2.2.1 hw2.2.2.1 hA rfl m7 (by decide) (by decide) dLw_8 (fun q1 H3 P3 D3 S3 => ?_)
  have he3 : ∀ c fs, (.inr (11, tm_df tm_G 11) : va_E) = .inr (c, fs) → ∀ v ∈ fs, tm_wv (tm_sz h2) v := fun c fs q v hv => by
    cases q
    exact tm_wv_le (m8 v hv).1 (Nat.zero_le _)
  have w3 := tm_ws_new ρ2 σ τ (h := h2) (e := .inr (11, tm_df tm_G 11)) (n := 35) (q := q1) hw2.2.2.2 he3
  rw [show tm_cv ρ2 σ τ (.inr (11, tm_df tm_G 11)) = .inr (11, tm_df tm_G 11) from rfl] at w3
  rw [← w3] at P3 D3
  have hwf3 := tm_wf_new (n := 35) hw2.2.2.2 he3
  have z3 : tm_sz (tm_new h2 (.inr (11, tm_df tm_G 11)) 35) = 70 := by rw [tm_sz_new, z2]
  have X3 : XInv (tm_new h2 (.inr (11, tm_df tm_G 11)) 35) S0 := XI_m X2 (fun k h1 h2 => by unfold tm_new; rw [tm_up_ne (by omega), tm_up_ne (by omega)])
  have b3 : tm_new h2 (.inr (11, tm_df tm_G 11)) 35 70 = .inr (11, tm_dflt 11) := by unfold tm_new tm_up; rw [z2, if_pos rfl]; rfl
  have a3 : tm_new h2 (.inr (11, tm_df tm_G 11)) 35 0 = tm_bk 70 (tm_kc h2 + 1) (tm_ks h2 + 35) := by unfold tm_new tm_up; rw [z2, if_neg (by decide), if_pos rfl]
  obtain ⟨h3, eh3⟩ : ∃ h3 : tm_H, h3 = tm_new h2 (.inr (11, tm_df tm_G 11)) 35 := ⟨_, rfl⟩
  obtain ⟨ρ3, eρ3⟩ : ∃ ρ3 : Nat → Nat, ρ3 = fun k => if k = tm_sz h2 + 1 then q1 else ρ2 k := ⟨_, rfl⟩
  rw [← eh3, ← eρ3] at P3 D3
  rw [← eh3] at hwf3 z3 X3 a3 b3
  have r3 : ρ3 70 = q1 := by rw [eρ3, z2]; rfl
  have s3 : ρ3 1 = ρ2 1 := by rw [eρ3, z2]; rfl
  have hw3 : tm_Wd D σ τ (fun q : Nat => s.heap.size ≤ q) s ρ3 h3 H3 locs2 := ⟨P3, D3, S3, hwf3⟩
  refine lv_dup hx hb dLw_11 rfl ?_
  obtain ⟨h4, c4, L4⟩ := m_init a3 b3 X3
  rw [← r3]
  refine lw_callI (M := mX11_init) C0 hCx hw3 tz_mX11_init rfl (tm_in1 (i := 1215) (by decide +kernel)) ⟨by decide, by decide⟩ rfl (show 1 ≤ 70 by decide) (by omega) c4 hl.1 dLw_12 (by decide) (by decide) (fun ρ4 H4 locs4 e4 hw4 => ?_)
  rw [← e4 70 (by decide) (by omega)]
  refine lv_astore_n (lv' := [(2, .ref (ρ4 70)), (1, .ref (ρ2 1)), (0, .ref b)]) hx hb dLw_15 rfl hl (by decide) rfl (fun ls hl => ?_)
  refine lv_iconst (v := 1) hx hb dLw_16 (by decide) ?_
  refine va_newa (D := D) (atype := .long) (a0 := (1, .inr (.inl (fun _ => 0)))) hx hb (hts _ tm_acJ) rfl hCx.1 hw4.1 hw4.2.1 hw4.2.2.1 hA (fun cA => rfl) (by decide) (by decide) (by decide) (by decide) (by decide) dLw_17 (fun qo cA H5 K5 P5 D5 S5 => ?_)
  have t5 : (tm_ws ρ4 σ τ h4 ++ [(qo, .inl (cA, 1, .inr (.inl (fun _ => 0))))])[tm_sz h4]? = some (qo, .inl (cA, 1, .inr (.inl (fun _ => 0)))) := by
    rw [List.getElem?_append_right (by rw [tm_ws_len]; exact Nat.le_refl _), tm_ws_len, Nat.sub_self]; rfl
  have lt5 : ∀ (k : Nat) (q : Nat × va_E), (tm_ws ρ4 σ τ h4)[k]? = some q → k < tm_sz h4 ∧ (tm_ws ρ4 σ τ h4 ++ [(qo, .inl (cA, 1, .inr (.inl (fun _ => 0))))])[k]? = some q := fun k q hk => by
    have hk2 := (List.getElem?_eq_some_iff.mp hk).1
    refine ⟨by rwa [tm_ws_len] at hk2, ?_⟩
    rw [List.getElem?_append_left hk2]
    exact hk
  have V5 : lw_V s D σ τ cA qo ρ4 h4 (fun _ => 0) H5 locs4 := ⟨⟨fun k q hk => P5 k q (lt5 k q hk).2, ⟨fun i j p q hi hj e => D5.1 i j p q (lt5 i p hi).2 (lt5 j q hj).2 e, fun k q hk => D5.2 k q (lt5 k q hk).2⟩, S5, hw4.2.2.2⟩, P5 _ _ t5, D5.2 _ _ t5, fun k e hk => by
    have := D5.1 k (tm_sz h4) _ _ (lt5 k _ hk).2 t5 rfl
    exact absurd (lt5 k _ hk).1 (by omega)⟩
  have G5 : lw_G p l s m meth c b L xs D σ τ adV cA := ⟨C0, hCx, hLx, K5.sub [3] rfl, hlt, hL⟩
  refine lv_astore_n (lv' := [(3, .ref qo), (2, .ref (ρ4 70)), (1, .ref (ρ2 1)), (0, .ref b)]) hx hb dLw_19 rfl hl (by decide) rfl (fun ls hl => ?_)
  refine lv_iconst (v := 0) hx hb dLw_20 (by decide) ?_
  refine lv_istore (lv' := [(4, .int 0), (3, .ref qo), (2, .ref (ρ4 70)), (1, .ref (ρ2 1)), (0, .ref b)]) hx hb dLw_21 hl (by decide) rfl (fun ls hl => ?_)
  refine W.widen (k := 200) (n := 6000) (by decide) (by decide) ?_
  exact lw_loop G5 512 0 (by omega) (by decide) ρ4 h4 S0 _ H5 locs4 ls 200 6000 L4 V5 (by
    unfold lw_lv
    rw [e4 1 (by decide) (by omega), s3]
    exact lv_sub hl [4, 3, 2, 1, 0] rfl) (by decide) (by decide)
set_option maxHeartbeats 4000000 in
theorem lw_walk (l : Launch) (hflags : l.flags = flags0) (b : Addr) (xs : List Int32) : MetFree l x (headSpec (Jvm.Cond.code x code maxLocals ret :: tables_1) room_1) (lw_P b xs) (fun _ _ _ _ _ => True) lw_Q := by
  refine MetFree.of_bodyS (code := code) (maxLocals := maxLocals) (ret := ret) (by decide) ?_ ?_
  · intro args s m h hn
    obtain ⟨meth, c, h1, h2, h3, h4, h5, h6, -, -⟩ := Cond.code_spec hn (atoms_spec (ws := Jvm.Cond.code x code maxLocals ret :: tables_1) h _ List.mem_cons_self)
    exact ⟨meth, c, h1, h2, h3, h4, h5, h6⟩
  · intro p e s m args below meth c s₁ B hml0 hP _
    obtain ⟨rfl, hx, hbd, hgv⟩ := hP
    obtain ⟨scr, harrAt, hlist, hof, hsmall⟩ := hx
    obtain ⟨hcb, hkn, -, -⟩ := State.arrayAt?_spec harrAt
    have hown : s.vm.findClass R_law = some m.cls := findClass_of_methodNamed B.named
    have hts0 : ∀ c ∈ (Jvm.Cond.code x code maxLocals ret :: tables_1), c.before #[Value.ref b] s = true := atoms_spec (ws := Jvm.Cond.code x code maxLocals ret :: tables_1) B.pre
    have hts : ∀ w ∈ lw_tbl, w.before #[Value.ref b] s = true := k2_hts_sels lw_privs (fun w hw => hts0 w (List.mem_cons_of_mem _ hw)) lw_privs_ok
    have hml : c.maxLocals = 7 := B.maxLocals_eq (hts0 _ List.mem_cons_self)
    have X₀ : Stand p l e room_1 s m #[Value.ref b] below meth c s₁ [] 0 0 := Stand.of_body B
    have hh0 : s₁.heap = s.heap := by rw [B.state]; rfl
    have hsz : scr.slots.size = xs.length := by rw [← Array.length_toList, hlist, List.length_map]
    have hval : ∀ j : Nat, j < xs.length → scr.slots[j]? = some (.int (xs.getD j 0)) := fun j hj => by
      rw [← Array.getElem?_toList, hlist]
      simp [hj]
    have hbl : b < s.heap.size := (Array.getElem?_eq_some_iff.mp hcb).1
    have hX : va_X b xs.length (fun j => xs.getD j 0) s s.heap := ⟨scr, hcb, hof, hkn, hsz, hval⟩
    have K : W p l e room_1 s m #[Value.ref b] below meth c s₁.heap [] 0 0 (lw_Z below #[Value.ref b] s) (entryFrame m ([Value.ref b] : List Value).toArray 7) := by
      rw [hh0]
      exact whole_start l hflags hbd ⟨B.exec, B.bytes, B.returns, hml, hown, hts, hX, hbl, B.notSynchronized, hgv⟩
    obtain ⟨t, a1, o, b1, b2, b3⟩ := K s₁ rfl X₀
    exact ⟨t, o, a1, b1, b2, b3⟩
theorem lw_pre_spec {args : Array Value} {s : State} (h : (Jvm.Cond.and given_1 narrow_1).before args s = true) (hr : rest_1_c.before args s = true) : ∃ (b : Addr) (xs : List Int32), lw_P b xs args s := by
  have hs := flat_of_before _ h
  have hq := flat_of_before _ hr
  have hc : (Cond.count 1).before args s = true := hs _ (by decide +kernel)
  have harr : (Cond.arrayOf (.arg 0) .int).before args s = true := hs _ (by decide +kernel)
  have hle : (Cond.le (.length (.arg 0)) (.int 3072)).before args s = true := hs _ (by decide +kernel)
  have hlen : (Cond.isInt (.length (.arg 0))).before args s = true := hq _ (by decide +kernel)
  have hall : (Cond.all (.arg 0) (.isInt (.elem (.arg 0) (.index 0)))).before args s = true := hq _ (by decide +kernel)
  obtain ⟨b, xs, hb, hx⟩ := State.ints_of_pre rfl harr hlen hall
  have hsm : xs.length < 2 ^ 31 := hx.choose_spec.2.2.2
  have hev : (Term.length (.arg 0)).eval args s none [] s = some (.int xs.length.toInt32) := hx.length_eval hb
  have hv := Cond.le_ints hev (show (Term.int 3072).eval args s none [] s = some (.int 3072) from rfl)
  have hd : xs.length.toInt32 ≤ 3072 := by
    simpa [Cond.before, Cond.holds, hv] using hle
  have hN : xs.length ≤ 3072 := (Int32.ofNat_le_ofNat hsm (by decide)).mp (show Int32.ofNat xs.length ≤ Int32.ofNat 3072 from hd)
  exact ⟨b, xs, Cond.one_arg hc (show args[0]? = some (.ref b) from hb), hx, hN, h⟩
theorem lw_comes (l : Launch) (hflags : l.flags = flags0) : Comes l x (Jvm.Cond.code x code maxLocals ret :: tables_1) room_1 (fun tb e args s => Calls_1 tb e args s ∧ rest_1 tb e args s ∧ Pre_1 tb e args s)
    (fun _ _ args s o t => lw_Q args s o t) := by
  intro p e ha hc hk s m args below hf hfit hheap happ hpre
  obtain ⟨b, xs, hP⟩ := lw_pre_spec hpre.2.2 hpre.2.1
  obtain ⟨k, o, h1, h2, h3, hQ⟩ := lw_walk l hflags b xs p e ha hc hk s m args below hf ((Spec.applies_iff_loose hf).mp happ).1 hP trivial
  exact ⟨k, o, h1, h2, h3, hQ⟩
theorem lw_frame {s t : State} {o : Outcome} {args : Array Value} (h : Framed s o t [] 601024 7293034) :
    Framed s o t (fieldLocs frame_1_writes args s ++ arrayLocs frame_1_arrays args s ++ staticLocs frame_1_statics s) 601024 7293034 := h
theorem lw_limb (L : Cond) (hL : ∀ (args : Array Value) (s t : State), L.after args s (.returned (some (.int 1))) t = true) :
    ArmFor flags0 classFile x code maxLocals ret World_1 tables_1 room_1 Calls_1 rest_1 Pre_1
      (fun tb e a s o t => postC L tb e a s o t ∧ Framed s o t (fieldLocs frame_1_writes a s ++ arrayLocs frame_1_arrays a s ++ staticLocs frame_1_statics s) 601024 7293034) := by
  intro l hflags _ _ p e ha hc hk s m args below hf hfit hheap happ hpre
  obtain ⟨k, o, h1, h2, h3, rfl, hF⟩ := lw_comes l hflags p e ha hc hk s m args below hf hfit hheap happ hpre
  exact ⟨k, _, h1, h2, h3, hL args s _, lw_frame hF⟩
theorem i_vc : Claimed_1_1 ∧ Claimed_1_2 := ⟨lw_limb limb_1_1 (fun args s t => by simp [limb_1_1, Cond.after, Cond.holds, Cond.value]), lw_limb limb_1_2 (fun args s t => Cond.after_iff.mpr (by
  first | (rw [show limb_1_2 = Cond.eq .result (.int 1) from rfl, Cond.eq_ints (x := 1) (y := 1) rfl rfl]; simp; done) | (simp [limb_1_2, Cond.value, Term.eval]; done)))⟩
