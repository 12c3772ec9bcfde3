/-! THE JVM DOES WHAT THE SMALL MACHINE DOES: the theorem -/
theorem tm_fin_bd {M : tm_M} {h0 h : tm_H} {r r0 : tm_R} (hms : tm_mc M = 0 → tm_ms M = 0) (hfin : tm_fin M h0 (some r0) = some r) (g1 : tm_Gr (tm_mc M) h0 h) (g2 : tm_Gr (tm_mc M) h r0.1) : tm_kc h - tm_kc h0 ≤ tm_mc M ∧ tm_ks h - tm_ks h0 ≤ tm_ms M := by
  by_cases hm : tm_mc M = 0
  · rw [(g1.2.2.2 hm).1, (g1.2.2.2 hm).2]; omega
  · obtain ⟨h1, v⟩ := r0
    unfold tm_fin at hfin
    dsimp only at hfin g2
    rw [if_neg hm] at hfin
    split at hfin
    · rename_i hb
      have := g2.2.1
      have := g2.2.2.1
      omega
    · cases hfin
theorem tm_fin_r {M : tm_M} {h0 : tm_H} {r r0 : tm_R} (hfin : tm_fin M h0 (some r0) = some r) (ρ σ τ : Nat → Nat) : r.2 = r0.2 ∧ tm_ws ρ σ τ r.1 = tm_ws ρ σ τ r0.1 := by
  obtain ⟨h1, v⟩ := r0
  unfold tm_fin at hfin
  dsimp only at hfin
  split at hfin
  · cases hfin; exact ⟨rfl, rfl⟩
  · split at hfin
    · cases hfin; exact ⟨rfl, tm_ws_bk ρ σ τ h1 _ _⟩
    · cases hfin
theorem tm_acI : Jvm.Cond.arrayClass .int ∈ lw_tbl := tm_in1 (i := 50) (by decide +kernel)
theorem tm_acB : Jvm.Cond.arrayClass .byte ∈ lw_tbl := tm_in1 (i := 49) (by decide +kernel)
theorem tm_acJ : Jvm.Cond.arrayClass .long ∈ lw_tbl := tm_in1 (i := 190) (by decide +kernel)
theorem tm_wdArr : Jvm.Cond.static arraycopyName ∈ lw_tbl ∧ Jvm.Cond.native arraycopyName ∈ lw_tbl ∧ Jvm.Cond.initialized "java/lang/System" ∈ lw_tbl := ⟨tm_in1 (i := 1001) (by decide +kernel), tm_in1 (i := 1002) (by decide +kernel), tm_in1 (i := 19) (by decide +kernel)⟩
theorem tm_wdObj : Jvm.Cond.instanceMethod objectInit ∈ lw_tbl ∧ Jvm.Cond.code objectInit ⟨#[0xb1]⟩ 1 none ∈ lw_tbl := ⟨tm_in1 (i := 31) (by decide +kernel), tm_in1 (i := 32) (by decide +kernel)⟩
theorem tm_wdMath : Jvm.Cond.initialized "java/lang/Math" ∈ lw_tbl := tm_in1 (i := 16) (by decide +kernel)
theorem tm_wdMax : Jvm.Cond.static Lib.Math.max.name ∈ lw_tbl ∧ Jvm.Cond.code Lib.Math.max.name Lib.Math.max.code 2 (some .int) ∈ lw_tbl := ⟨tm_in1 (i := 582) (by decide +kernel), tm_in1 (i := 583) (by decide +kernel)⟩
theorem tm_wdMin : Jvm.Cond.static Lib.Math.min.name ∈ lw_tbl ∧ Jvm.Cond.code Lib.Math.min.name Lib.Math.min.code 2 (some .int) ∈ lw_tbl := ⟨tm_in1 (i := 579) (by decide +kernel), tm_in1 (i := 580) (by decide +kernel)⟩
theorem tm_wdAbs : Jvm.Cond.static Lib.Math.abs.name ∈ lw_tbl ∧ Jvm.Cond.code Lib.Math.abs.name Lib.Math.abs.code 1 (some .int) ∈ lw_tbl := ⟨tm_in1 (i := 734) (by decide +kernel), tm_in1 (i := 735) (by decide +kernel)⟩
theorem tm_ar {a b c d e : Nat} (h1 : b ≤ a) (h2 : c = a + d) (h3 : c - b ≤ e) : a - b + d ≤ e ∧ a - b + d = c - b := by omega
section TMS5
variable {p : Program} {l : Launch} {e0 : Env} {R : Room} {s : State} {m : MethodId} {args : Array Value} {below : List Frame} {meth : Method} {c : Code}
variable {σ τ adV : Nat → Nat} {D : va_G} {A : Nat → Prop} {G : tm_PG}
theorem tm_rest_room {m : MethodId} {pc : Nat} {lc : Array Slot} {stk rest : List Value} (ρ σ : Nat → Nat) (h : rest.length ≤ 4) : 2 * (F0 m pc lc stk).monitorRoom + ((rest.map (tm_vm ρ σ)).map fun v => v.category).sum ≤ 8 := by
  have hsum : ∀ l : List Value, (l.map fun v => v.category).sum ≤ 2 * l.length := by
    intro l
    induction l with
    | nil => exact Nat.le_refl _
    | cons a l ih =>
      rw [List.map_cons, List.sum_cons, List.length_cons]
      rcases lv_cat a with q | q <;> omega
  have := hsum (rest.map (tm_vm ρ σ))
  rw [List.length_map] at this
  exact lv_room (by omega)
theorem tm_rest_sum {rest : List Value} (ρ σ : Nat → Nat) (h : rest.length ≤ 4) : ((rest.map (tm_vm ρ σ)).map fun v => v.category).sum ≤ 8 := by
  have hsum : ∀ l : List Value, (l.map fun v => v.category).sum ≤ 2 * l.length := by
    intro l
    induction l with
    | nil => exact Nat.le_refl _
    | cons a l ih =>
      rw [List.map_cons, List.sum_cons, List.length_cons]
      rcases lv_cat a with q | q <;> omega
  have := hsum (rest.map (tm_vm ρ σ))
  rw [List.length_map] at this
  omega
set_option maxHeartbeats 4000000 in
theorem tm_sim_run (hG : tm_OkG G) {M : tm_M} (hms : tm_mc M = 0 → tm_ms M = 0) {d : Nat} (hd : tm_dp M = d + 1)
    (IH : ∀ m2, tm_OkM G m2 → tm_dp m2 ≤ d → ∀ as h r, tm_call G m2 as h = some r → tm_wf h → (∀ v ∈ as, tm_wv (tm_sz h) v) → ∀ ρ sz, tm_Met G l D σ τ adV ρ m2 as h r sz)
    (hAt : tm_At G p s m args meth c M) (hCx : tm_Cx G D σ τ adV A s s.heap) (hA : ∀ q, s.heap.size ≤ q → A q) {h0 : tm_H} {ρ0 : Nat → Nat} {r r0 : tm_R} (hfin : tm_fin M h0 (some r0) = some r) (hAe : A = va_A (tm_ws ρ0 σ τ h0) s.heap.size) :
    ∀ (f pc : Nat) (ls st : List Value) (h : tm_H), tm_run G (tm_cd G d) M f pc ls st h = some r0 → tm_Iv h ls st → ∀ (ρ : Nat → Nat) (lc : Array Slot) (H : Heap) (locs : List Loc), (∀ k, 1 ≤ k → k ≤ tm_sz h0 → ρ k = ρ0 k) → tm_Gr (tm_mc M) h0 h → tm_Wd D σ τ A s ρ h H locs → tm_L ρ σ (tm_lg M) ls lc (tm_mx M) →
      W p l e0 (tm_rm M) s m args below meth c H locs (tm_kc h - tm_kc h0) (tm_ks h - tm_ks h0) (MQ below (tm_Qc D σ τ ρ0 h0 r s.heap.size) args s (tm_mc M) (tm_ms M) A) (F0 m pc lc (st.map (tm_vm ρ σ))) := by
  have hCA := tm_cd_ck hG.1 d
  obtain ⟨hx, hb, hr, hml, hown, hname, hlocks, hts⟩ := id hAt
  have hg := tm_Ws_good hts
  obtain ⟨hGF, hGI, hG0, hG1, hG2, hG3, hGm, hG4, hG5, hG6, hG7⟩ := id hG
  intro f
  induction f with
  | zero => intro pc ls st h e; simp [tm_run] at e
  | succ f ih =>
    intro pc ls st h e hv ρ lc H locs hρ hgr hw hl
    have hall := tm_run_iv hGF hCA M _ _ _ _ _ _ e hv
    have hbd := tm_fin_bd hms hfin hgr hall.2.2
    rw [tm_run] at e
    cases hs : tm_st G (tm_cd G d) M pc ls st h with
    | none => rw [hs] at e; cases e
    | some x =>
      rw [hs] at e
      have hiv := tm_st_iv hGF hCA hs hv
      unfold tm_st at hs
      split at hs
      · rename_i i n hdg
        split at hs
        · -- the stack alone
          split at hs
          · rename_i hq
            split at hs
            · rename_i hn
              subst hn
              cases hs
              have k2 := hiv.2 _ _ _ _ rfl
              exact tm_sim_pu hx hb hown (fun k x q => hg _ (hG4 _ k x q) rfl) (fun k x q => hg _ (hG5 _ k x q) rfl) (fun k x q => (hCx.2.2.2 _ k x q).2) hl hdg hq (ih _ _ _ _ e k2.1 ρ lc H locs hρ hgr hw hl)
            · cases hs
          · cases hs
        · -- a local
          split at hs
          · rename_i hq
            split at hs
            · rename_i hn
              subst hn
              cases hs
              have k2 := hiv.2 _ _ _ _ rfl
              exact tm_sim_lo hx hb hl hdg hq (fun lc' hl' => ih _ _ _ _ e k2.1 ρ lc' H locs hρ hgr hw hl')
            · cases hs
          · cases hs
        · -- a branch
          split at hs
          · rename_i hbl
            split at hs
            · rename_i hq
              cases hs
              have k2 := hiv.2 _ _ _ _ rfl
              exact tm_sim_br hx hb hdg hbl hq (ih _ _ _ _ e k2.1 ρ lc H locs hρ hgr hw hl)
            · cases hs
          · cases hs
        · -- the heap
          split at hs
          · rename_i k1 st1 h1 hq
            split at hs
            · rename_i hn
              subst hn
              cases hs
              have k2 := hiv.2 _ _ _ _ rfl
              have hall2 := tm_run_iv hGF hCA M _ _ _ _ _ _ e k2.1
              have hbd2 := tm_fin_bd hms hfin (tm_Gr_tr hgr k2.2) hall2.2.2
              refine tm_sim_he hGF hx hb hown hname hg hCx.2.1 (fun ty hty => ?_) hCx.1 hA hw hv.2.2 hdg hq ?_ ?_ (fun ρ' H' locs' q1 q2 q3 q4 q5 q6 => ?_)
              · rcases hty with rfl | rfl | rfl
                · exact hg _ tm_acI rfl
                · exact hg _ tm_acB rfl
                · exact hg _ tm_acJ rfl
              · have := k2.2.2.1; have := hgr.2.1; show _ ≤ tm_mc M; omega
              · have := k2.2.2.2.1; have := hgr.2.2.1; show _ ≤ tm_ms M; omega
              · have z := ih _ _ _ _ e k2.1 ρ' lc H' locs' (fun k a1 a2 => (q1 k a1 (Nat.le_trans a2 hgr.1)).trans (hρ k a1 a2)) (tm_Gr_tr hgr k2.2) q2 (tm_L_ext hl hv.2.1 q1)
                rw [show tm_kc h - tm_kc h0 + (tm_kc h1 - tm_kc h) = tm_kc h1 - tm_kc h0 from by have := hgr.2.1; omega, show tm_ks h - tm_ks h0 + (tm_ks h1 - tm_ks h) = tm_ks h1 - tm_ks h0 from by have := hgr.2.2.1; omega]
                exact z
            · cases hs
          · cases hs
        · -- a call
          have hsz : lc.size = tm_mx M := hl.1.1
          have key : ∀ {k : Nat} {m2 : tm_M} {as rest : List Value} {r2 : tm_R}, tm_mth G (tm_oc M) k = some m2 → tm_may M m2 rest = true → tm_cd G d m2 as h = some r2 → (∀ v ∈ as, tm_wv (tm_sz h) v) → (∀ v ∈ rest, tm_wv (tm_sz h) v) →
              ((i = .invokestatic k ∧ tm_kd m2 = 0 ∧ st = as.reverse ++ rest ∧ as.length = tm_np m2) ∨ (i = .invokevirtual k ∧ tm_kd m2 = 1 ∧ ∃ b as', as = .ref b :: as' ∧ st = as'.reverse ++ .ref b :: rest ∧ as'.length = tm_np m2 ∧ tm_isObj (h b) (tm_oc m2) = true) ∨ (i = .invokespecial k ∧ tm_kd m2 = 2 ∧ ∃ b as', as = .ref b :: as' ∧ st = as'.reverse ++ .ref b :: rest ∧ as'.length = tm_np m2)) →
              x = .inr (pc + 3, ls, r2.2.toList ++ rest, r2.1) → n = 3 →
              W p l e0 (tm_rm M) s m args below meth c H locs (tm_kc h - tm_kc h0) (tm_ks h - tm_ks h0) (MQ below (tm_Qc D σ τ ρ0 h0 r s.heap.size) args s (tm_mc M) (tm_ms M) A) (F0 m pc lc (st.map (tm_vm ρ σ))) := by
            intro k m2 as rest r2 hm2 hmay hcd has hrest hin hxe hn3
            subst hn3
            subst hxe
            have k2 := hiv.2 _ _ _ _ rfl
            have hall2 := tm_run_iv hGF hCA M _ _ _ _ _ _ e k2.1
            have hbd2 := tm_fin_bd hms hfin (tm_Gr_tr hgr k2.2) hall2.2.2
            have hdp : tm_dp m2 ≤ d := by
              have q := hmay
              unfold tm_may at q
              simp only [Bool.and_eq_true, decide_eq_true_eq] at q
              omega
            have hcall : tm_call G m2 as h = some r2 := by
              unfold tm_call; rw [← tm_cd_eq G d m2 as h hdp]; exact hcd
            have hok2 := (hGI _ _ _ hm2).1
            have hM := IH m2 hok2 hdp as h r2 hcall hv.1 has ρ H.size
            have ck := hCA m2 as h r2 hcd hv.1 has
            obtain ⟨c1, c2, c3, c4, c5, c6⟩ := id ck
            have hks : tm_ks r2.1 = tm_ks h + tm_ms m2 := by
              by_cases z : tm_mc m2 = 0
              · have zz : tm_ms m2 = 0 := hok2.2.2.2.2.2.2.2.2.2 z
                rw [c5 z, zz]; rfl
              · exact c6 z
            have hk1 := hgr.2.1
            have hk2 := hgr.2.2.1
            refine tm_sim_call (m2 := m2) (as := as) (r := r2) hA hw (fun _ => tm_sim_inv hG hAt rfl hCx hA hw hm2 hmay hsz hin hv.2.2 hM hdg (tm_ar hk1 c4 hbd2.1).1 (tm_ar hk2 hks hbd2.2).1) ck hrest (fun ρ' H' locs' q1 q2 => ?_)
            have z := ih _ _ _ _ e k2.1 ρ' lc H' locs' (fun k a1 a2 => (q1 k a1 (Nat.le_trans a2 hgr.1)).trans (hρ k a1 a2)) (tm_Gr_tr hgr k2.2) q2 (tm_L_ext hl hv.2.1 q1)
            rw [(tm_ar hk1 c4 hbd2.1).2, (tm_ar hk2 hks hbd2.2).2]
            exact z
          unfold tm_in at hs
          split at hs
          · -- invokestatic
            split at hs
            · rename_i m2 hm2
              split at hs
              · rename_i hcnd
                obtain ⟨r2, hn3, hr2, hxe⟩ := tm_go_iv hs
                refine key hm2 hcnd.2.2 hr2 (tm_wv_take hv.2.2) (tm_wv_drop hv.2.2) (Or.inl ⟨rfl, hcnd.1, ?_, ?_⟩) hxe hn3
                · rw [List.reverse_reverse, List.take_append_drop]
                · rw [List.length_reverse, List.length_take]; exact Nat.min_eq_left hcnd.2.1
              · cases hs
            · split at hs
              · rename_i hm2 x1 x2 n2 dp a sp a0 rest hbin
                split at hs
                · rename_i x3 x4 n0 f0 n1 g0 ha0 ha
                  split at hs
                  · cases hs
                  · rename_i hcnd
                    obtain ⟨r2, hn3, hr2, hxe⟩ := tm_go_iv hs
                    subst hn3
                    cases hr2
                    subst hxe
                    have k2 := hiv.2 _ _ _ _ rfl
                    obtain ⟨b1, b2⟩ := hv.2.2 (.ref a) (List.mem_cons_of_mem _ (List.mem_cons_of_mem _ List.mem_cons_self)) a rfl
                    obtain ⟨b3, b4⟩ := hv.2.2 (.ref a0) (List.mem_cons_of_mem _ (List.mem_cons_of_mem _ (List.mem_cons_of_mem _ (List.mem_cons_of_mem _ List.mem_cons_self)))) a0 rfl
                    have hne : a ≠ 0 := Nat.ne_of_gt b1
                    have he := tm_ws_at ρ σ τ h b1 b2
                    have he0 := tm_ws_at ρ σ τ h b3 b4
                    rw [ha] at he
                    rw [ha0] at he0
                    have hws := tm_ws_up ρ σ τ (h := h) (e := .inl (0, n1, .inl (va_cpy f0 g0 sp.toNatClampNeg dp.toNatClampNeg n2.toNatClampNeg))) b1 b2
                    have c1 : ¬ sp < 0 := fun q => hcnd (Or.inl q)
                    have c2 : ¬ dp < 0 := fun q => hcnd (Or.inr (Or.inl q))
                    have c3 : ¬ n2 < 0 := fun q => hcnd (Or.inr (Or.inr (Or.inl q)))
                    have c4 : sp.toNatClampNeg + n2.toNatClampNeg ≤ n0 := Nat.le_of_not_lt fun q => hcnd (Or.inr (Or.inr (Or.inr (Or.inl q))))
                    have c5 : dp.toNatClampNeg + n2.toNatClampNeg ≤ n1 := Nat.le_of_not_lt fun q => hcnd (Or.inr (Or.inr (Or.inr (Or.inr (Or.inl q)))))
                    have c6 : rest.length ≤ 4 := Nat.le_of_not_lt fun q => hcnd (Or.inr (Or.inr (Or.inr (Or.inr (Or.inr (Or.inl q))))))
                    have c7 : 1 ≤ tm_dp M := Nat.le_of_not_lt fun q => hcnd (Or.inr (Or.inr (Or.inr (Or.inr (Or.inr (Or.inr (Or.inl q)))))))
                    have c8 : 100 ≤ tm_lo M := Nat.le_of_not_lt fun q => hcnd (Or.inr (Or.inr (Or.inr (Or.inr (Or.inr (Or.inr (Or.inr q)))))))
                    have hsum := tm_rest_sum (rest := rest) ρ σ c6
                    refine va_copyi (D := D) hx hb (hml.trans hsz.symm) hown (hg _ (hG2 _ _ hbin) rfl) (hg _ tm_wdArr.2.1 rfl) (hg _ tm_wdArr.1 rfl) (hg _ tm_wdArr.2.2 rfl) hCx.1 hw.1 hw.2.1 hw.2.2.1 (a0 - 1) (a - 1) 0 0 he0 he rfl rfl rfl c1 c2 c3 c4 c5 (fun _ _ => rfl) c7 (Nat.le_trans (Nat.add_le_add_right hsum _) (Nat.le_trans (Nat.le_of_ble_eq_true rfl) c8)) hdg (fun H1 locs1 q1 q2 q3 => ?_)
                    have q1' : va_P D vwCl (tm_ws ρ σ τ (tm_up h a (.inl (0, n1, .inl (va_cpy f0 g0 sp.toNatClampNeg dp.toNatClampNeg n2.toNatClampNeg))))) H1 := by rw [hws]; exact q1
                    have q2' : va_D A (tm_ws ρ σ τ (tm_up h a (.inl (0, n1, .inl (va_cpy f0 g0 sp.toNatClampNeg dp.toNatClampNeg n2.toNatClampNeg))))) := by rw [hws]; exact q2
                    have z := ih _ _ _ _ e k2.1 ρ lc H1 locs1 hρ (tm_Gr_tr hgr k2.2) ⟨q1', q2', q3, k2.1.1⟩ hl
                    rw [tm_kc_up hne, tm_ks_up hne] at z
                    exact z
                · cases hs
              · rename_i hm2 x1 x2 y0 x0 rest hbin
                split at hs
                · cases hs
                · rename_i hcnd
                  obtain ⟨r2, hn3, hr2, hxe⟩ := tm_go_iv hs
                  subst hn3
                  cases hr2
                  subst hxe
                  have k2 := hiv.2 _ _ _ _ rfl
                  have c6 : rest.length ≤ 4 := Nat.le_of_not_lt fun q => hcnd (Or.inl q)
                  have c7 : 1 ≤ tm_dp M := Nat.le_of_not_lt fun q => hcnd (Or.inr (Or.inl q))
                  have c8 : 21 ≤ tm_lo M := Nat.le_of_not_lt fun q => hcnd (Or.inr (Or.inr q))
                  have hsum := tm_rest_sum (rest := rest) ρ σ c6
                  exact va_mmax hx hb (hml.trans hsz.symm) hown (hg _ ((hGm _ _).1 hbin) rfl) (hg _ tm_wdMax.1 rfl) (hg _ tm_wdMath rfl) (hg _ tm_wdMax.2 rfl) c7 (Nat.le_trans (Nat.add_le_add_right hsum _) (Nat.le_trans (Nat.le_of_ble_eq_true rfl) c8)) hbd.1 hbd.2 hdg (ih _ _ _ _ e k2.1 ρ lc H locs hρ hgr hw hl)
              · rename_i hm2 x1 x2 y0 x0 rest hbin
                split at hs
                · cases hs
                · rename_i hcnd
                  obtain ⟨r2, hn3, hr2, hxe⟩ := tm_go_iv hs
                  subst hn3
                  cases hr2
                  subst hxe
                  have k2 := hiv.2 _ _ _ _ rfl
                  have c6 : rest.length ≤ 4 := Nat.le_of_not_lt fun q => hcnd (Or.inl q)
                  have c7 : 1 ≤ tm_dp M := Nat.le_of_not_lt fun q => hcnd (Or.inr (Or.inl q))
                  have c8 : 21 ≤ tm_lo M := Nat.le_of_not_lt fun q => hcnd (Or.inr (Or.inr q))
                  have hsum := tm_rest_sum (rest := rest) ρ σ c6
                  exact va_mmin hx hb (hml.trans hsz.symm) hown (hg _ ((hGm _ _).2.1 hbin) rfl) (hg _ tm_wdMin.1 rfl) (hg _ tm_wdMath rfl) (hg _ tm_wdMin.2 rfl) c7 (Nat.le_trans (Nat.add_le_add_right hsum _) (Nat.le_trans (Nat.le_of_ble_eq_true rfl) c8)) hbd.1 hbd.2 hdg (ih _ _ _ _ e k2.1 ρ lc H locs hρ hgr hw hl)
              · rename_i hm2 x1 x2 x0 rest hbin
                split at hs
                · cases hs
                · rename_i hcnd
                  obtain ⟨r2, hn3, hr2, hxe⟩ := tm_go_iv hs
                  subst hn3
                  cases hr2
                  subst hxe
                  have k2 := hiv.2 _ _ _ _ rfl
                  have c6 : rest.length ≤ 4 := Nat.le_of_not_lt fun q => hcnd (Or.inl q)
                  have c7 : 1 ≤ tm_dp M := Nat.le_of_not_lt fun q => hcnd (Or.inr (Or.inl q))
                  have c8 : 21 ≤ tm_lo M := Nat.le_of_not_lt fun q => hcnd (Or.inr (Or.inr q))
                  have hsum := tm_rest_sum (rest := rest) ρ σ c6
                  exact va_mabs hx hb (hml.trans hsz.symm) hown (hg _ ((hGm _ _).2.2 hbin) rfl) (hg _ tm_wdAbs.1 rfl) (hg _ tm_wdMath rfl) (hg _ tm_wdAbs.2 rfl) c7 (Nat.le_trans (Nat.add_le_add_right hsum _) (Nat.le_trans (Nat.le_of_ble_eq_true rfl) c8)) hbd.1 hbd.2 hdg (ih _ _ _ _ e k2.1 ρ lc H locs hρ hgr hw hl)
              · cases hs
          · -- invokevirtual
            split at hs
            · rename_i m2 hm2
              split at hs
              · rename_i b rest hdrop
                split at hs
                · rename_i hcnd
                  obtain ⟨r2, hn3, hr2, hxe⟩ := tm_go_iv hs
                  have hd' : ∀ v ∈ (.ref b :: rest : List Value), tm_wv (tm_sz h) v := by rw [← hdrop]; exact tm_wv_drop hv.2.2
                  refine key hm2 hcnd.2.1 hr2 (tm_wv_cons (hd' _ List.mem_cons_self) (tm_wv_take hv.2.2)) (tm_wv_tl hd') (Or.inr (Or.inl ⟨rfl, hcnd.1, b, _, rfl, ?_, ?_, hcnd.2.2⟩)) hxe hn3
                  · rw [List.reverse_reverse, ← hdrop, List.take_append_drop]
                  · rw [List.length_reverse, List.length_take]
                    refine Nat.min_eq_left ?_
                    have : (st.drop (tm_np m2)).length = rest.length + 1 := by rw [hdrop]; rfl
                    rw [List.length_drop] at this
                    omega
                · cases hs
              · cases hs
            · split at hs
              · rename_i hm2 x1 x2 j rest hbin
                split at hs
                · cases hs
                · rename_i hcnd
                  obtain ⟨r2, hn3, hr2, hxe⟩ := tm_go_iv hs
                  subst hn3
                  cases hr2
                  subst hxe
                  have k2 := hiv.2 _ _ _ _ rfl
                  have c5 : j < tm_nS := Nat.lt_of_not_le fun q => hcnd (Or.inl q)
                  have c6 : rest.length ≤ 4 := Nat.le_of_not_lt fun q => hcnd (Or.inr (Or.inl q))
                  have c7 : 2 ≤ tm_dp M := Nat.le_of_not_lt fun q => hcnd (Or.inr (Or.inr (Or.inl q)))
                  have c8 : 40 ≤ tm_lo M := Nat.le_of_not_lt fun q => hcnd (Or.inr (Or.inr (Or.inr q)))
                  have hSx : tm_Sx tm_nS (tm_tx G) σ adV (fun _ => False) s H := (hCx.2.2.1.kept hw.2.2.1.2.1).narrow (fun _ q => q.elim)
                  obtain ⟨cell0, g1, g2, g3, -⟩ := (hSx.1 j c5).1
                  refine tm_callW (va_runV (As := []) (rest := rest.map (tm_vm ρ σ)) ⟨hx, hb, hml, hown, hts⟩ (tm_j_length (N := tm_nS) (tx := tm_tx G) (σ := σ) (adV := adV) l c5) ⟨tm_CB (n := 0) hg (tm_in1 (i := 385) (by decide +kernel)) (tm_in1 (i := 12) (by decide +kernel)) (hG0 _ _ hbin) (by decide) (tm_desc (by decide +kernel)) c7 (Nat.le_trans (Nat.le_of_ble_eq_true rfl) c8), hg _ (tm_in1 (i := 383) (by decide +kernel)) rfl, hg _ (tm_in1 (i := 384) (by decide +kernel)) rfl⟩ ⟨tm_Jblind _ _ _ _ _, ⟨cell0, g1, g2, g3⟩, fun U hU hW => ⟨rfl, by show tm_Sx _ _ _ _ _ U U.heap; rw [hU]; exact hSx.moved hW.alike⟩⟩ rfl rfl hsz rfl (tm_rest_room ρ σ c6) hdg ⟨Nat.le_trans (Nat.le_of_eq (Nat.add_zero _)) hbd.1, Nat.le_trans (Nat.le_of_eq (Nat.add_zero _)) hbd.2⟩) (fun v st₀ t H1 L hh1 hh2 hW hq hL => ?_)
                  obtain ⟨hq1, hq2⟩ := hq
                  obtain rfl : v = some (.int (Int32.ofNat (tm_tx G j).length)) := by injection hq1
                  obtain rfl : L = [] := List.eq_nil_iff_forall_not_mem.mpr (fun q hq => hL q hq)
                  have hH : H1 = H := by rw [← hh2, hq2, hh1]
                  subst hH
                  rw [List.append_nil]
                  exact ih _ _ _ _ e k2.1 ρ lc _ locs hρ hgr hw hl
              · rename_i hm2 x1 x2 x0 j rest hbin
                split at hs
                · cases hs
                · rename_i hcnd
                  obtain ⟨r2, hn3, hr2, hxe⟩ := tm_go_iv hs
                  subst hn3
                  cases hr2
                  subst hxe
                  have k2 := hiv.2 _ _ _ _ rfl
                  have c5 : j < tm_nS := Nat.lt_of_not_le fun q => hcnd (Or.inl q)
                  have c6 : rest.length ≤ 4 := Nat.le_of_not_lt fun q => hcnd (Or.inr (Or.inl q))
                  have c7 : 4 ≤ tm_dp M := Nat.le_of_not_lt fun q => hcnd (Or.inr (Or.inr (Or.inl q)))
                  have c8 : 101 ≤ tm_lo M := Nat.le_of_not_lt fun q => hcnd (Or.inr (Or.inr (Or.inr (Or.inl q))))
                  have hSx : tm_Sx tm_nS (tm_tx G) σ adV (fun _ => False) s H := (hCx.2.2.1.kept hw.2.2.1.2.1).narrow (fun _ q => q.elim)
                  obtain ⟨cell0, g1, g2, g3, -⟩ := (hSx.1 j c5).1
                  have c9 : ¬ x0 < 0 := fun q => hcnd (Or.inr (Or.inr (Or.inr (Or.inr (Or.inl q)))))
                  have c10 : x0.toNatClampNeg < (tm_tx G j).length := Nat.lt_of_not_le fun q => hcnd (Or.inr (Or.inr (Or.inr (Or.inr (Or.inr q)))))
                  obtain ⟨t1, t2⟩ := hG6 j c5
                  have c11 : x0 < Int32.ofNat (tm_tx G j).length := by
                    obtain ⟨y, hy, rfl⟩ := nI_of c9
                    rw [nI_clamp hy] at c10
                    exact nI_lt c10 t1
                  have hmem : (tm_tx G j).getD x0.toNatClampNeg 0 ∈ tm_tx G j := by
                    rw [List.getD_eq_getElem?_getD, List.getElem?_eq_getElem c10]
                    exact List.getElem_mem c10
                  obtain ⟨t3, t4⟩ := t2 _ hmem
                  refine tm_callW (va_runV (As := [.int x0]) (rest := rest.map (tm_vm ρ σ)) ⟨hx, hb, hml, hown, hts⟩ (tm_j_charAt (N := tm_nS) (tx := tm_tx G) (σ := σ) (adV := adV) l c5 c9 c11 c10 t3 t4) ⟨tm_CB (n := 1) hg (tm_in1 (i := 395) (by decide +kernel)) (tm_in1 (i := 12) (by decide +kernel)) (hG1 _ _ hbin) (by decide) (tm_desc (by decide +kernel)) c7 (Nat.le_trans (Nat.le_of_ble_eq_true rfl) c8), hg _ (tm_in1 (i := 393) (by decide +kernel)) rfl, hg _ (tm_in1 (i := 394) (by decide +kernel)) rfl⟩ ⟨tm_Jblind _ _ _ _ _, ⟨cell0, g1, g2, g3⟩, fun U hU hW => ⟨rfl, by show tm_Sx _ _ _ _ _ U U.heap; rw [hU]; exact hSx.moved hW.alike⟩⟩ rfl rfl hsz rfl (tm_rest_room ρ σ c6) hdg ⟨Nat.le_trans (Nat.le_of_eq (Nat.add_zero _)) hbd.1, Nat.le_trans (Nat.le_of_eq (Nat.add_zero _)) hbd.2⟩) (fun v st₀ t H1 L hh1 hh2 hW hq hL => ?_)
                  obtain ⟨hq1, hq2⟩ := hq
                  obtain rfl : v = some (.int ((tm_tx G j).getD x0.toNatClampNeg 0)) := by injection hq1
                  obtain rfl : L = [] := List.eq_nil_iff_forall_not_mem.mpr (fun q hq => hL q hq)
                  have hH : H1 = H := by rw [← hh2, hq2, hh1]
                  subst hH
                  rw [List.append_nil]
                  exact ih _ _ _ _ e k2.1 ρ lc _ locs hρ hgr hw hl
              · cases hs
          · -- invokespecial
            split at hs
            · rename_i m2 hm2
              split at hs
              · rename_i b rest hdrop
                split at hs
                · rename_i hcnd
                  obtain ⟨r2, hn3, hr2, hxe⟩ := tm_go_iv hs
                  have hd' : ∀ v ∈ (.ref b :: rest : List Value), tm_wv (tm_sz h) v := by rw [← hdrop]; exact tm_wv_drop hv.2.2
                  refine key hm2 hcnd.2 hr2 (tm_wv_cons (hd' _ List.mem_cons_self) (tm_wv_take hv.2.2)) (tm_wv_tl hd') (Or.inr (Or.inr ⟨rfl, hcnd.1, b, _, rfl, ?_, ?_⟩)) hxe hn3
                  · rw [List.reverse_reverse, ← hdrop, List.take_append_drop]
                  · rw [List.length_reverse, List.length_take]
                    refine Nat.min_eq_left ?_
                    have : (st.drop (tm_np m2)).length = rest.length + 1 := by rw [hdrop]; rfl
                    rw [List.length_drop] at this
                    omega
                · cases hs
              · cases hs
            · split at hs
              · rename_i hm2 x1 x2 a rest hbin
                split at hs
                · cases hs
                · rename_i hcnd
                  obtain ⟨r2, hn3, hr2, hxe⟩ := tm_go_iv hs
                  subst hn3
                  cases hr2
                  subst hxe
                  have k2 := hiv.2 _ _ _ _ rfl
                  have c6 : rest.length ≤ 4 := Nat.le_of_not_lt fun q => hcnd (Or.inl q)
                  have c7 : 1 ≤ tm_dp M := Nat.le_of_not_lt fun q => hcnd (Or.inr (Or.inl q))
                  have c8 : 20 ≤ tm_lo M := Nat.le_of_not_lt fun q => hcnd (Or.inr (Or.inr q))
                  have hroom := tm_rest_room (m := m) (pc := pc) (lc := lc) (stk := (.ref a :: rest : List Value).map (tm_vm ρ σ)) (rest := rest) ρ σ c6
                  exact W.objInit hx hb hown (hg _ (hG3 _ _ hbin) rfl) (hg _ tm_wdObj.1 rfl) (hg _ tm_wdObj.2 rfl) rfl (hsz.trans hml.symm) rfl hdg c7 (by show _ ≤ tm_lo M; omega) (ih _ _ _ _ e k2.1 ρ lc H locs hρ hgr hw hl)
              · cases hs
          · cases hs
        · -- an end
          split at hs
          · rename_i hq
            cases hs
            cases e
            obtain ⟨f1, f2⟩ := tm_fin_r hfin ρ σ τ
            obtain ⟨hP, hD, hS, hwf⟩ := hw
            have hQ : ∀ (o : Option Value) (t : State), r0.2 = o → r0.1 = h → t.heap = H → s.WarmedH t.vm → tm_Qc D σ τ ρ0 h0 r s.heap.size args s (.returned (o.map (tm_vm ρ σ))) t := by
              intro o t ho hh ht hW
              refine ⟨ρ, hρ, by rw [f1, ho], ?_, ?_, ?_⟩
              · rw [f2, hh, ht]; exact hP
              · rw [f2, hh, ← hAe]; exact hD
              · rw [← hAe]; exact hS.F ht
            refine W.widen hbd.1 hbd.2 ?_
            unfold tm_en at hq
            split at hq
            · rename_i hn1
              subst hn1
              split at hq
              · split at hq
                · rename_i hnar
                  cases hq
                  exact W.zret hx hb (hr.trans (by assumption)) hnar (fun t ht hW => hQ _ t rfl rfl ht hW) hS.2.2 hdg hlocks
                · cases hq
              · cases hq
                exact W.lret hx hb (hr.trans (by assumption)) (fun t ht hW => hQ _ t rfl rfl ht hW) hS.2.2 hdg hlocks
              · cases hq
                exact W.aret hx hb (hr.trans (by assumption)) (Or.inl ⟨_, rfl⟩) (Or.inr ⟨_, rfl⟩) (fun t ht hW => hQ _ t rfl rfl ht hW) hS.2.2 hdg hlocks
              · cases hq
                exact W.vret hx hb (hr.trans (by assumption)) (fun t ht hW => hQ _ t rfl rfl ht hW) hS.2.2 hdg hlocks
              · cases hq
            · cases hq
          · cases hs
      · cases hs
end TMS5
