/-! STEPS THAT READ OR WRITE THE HEAP -/
theorem tm_vm_ext {ρ ρ' σ : Nat → Nat} {n : Nat} {v : Value} (hw : tm_wv n v) (h : ∀ k, 1 ≤ k → k ≤ n → ρ' k = ρ k) : tm_vm ρ' σ v = tm_vm ρ σ v := by
  cases v with
  | ref a => obtain ⟨h1, h2⟩ := hw a rfl; show Value.ref _ = Value.ref _; rw [h a h1 h2]
  | _ => rfl
theorem tm_map_ext {ρ ρ' σ : Nat → Nat} {n : Nat} {l : List Value} (hw : ∀ v ∈ l, tm_wv n v) (h : ∀ k, 1 ≤ k → k ≤ n → ρ' k = ρ k) : l.map (tm_vm ρ' σ) = l.map (tm_vm ρ σ) :=
  List.map_congr_left (fun v hv => tm_vm_ext (hw v hv) h)
theorem tm_L_ext {ρ ρ' σ : Nat → Nat} {n : Nat} {lg : Bool} {ls : List Value} {lc : Array Slot} {mx : Nat} (hl : tm_L ρ σ lg ls lc mx) (hw : ∀ v ∈ ls, tm_wv n v) (h : ∀ k, 1 ≤ k → k ≤ n → ρ' k = ρ k) : tm_L ρ' σ lg ls lc mx := by
  refine ⟨⟨hl.1.1, hl.1.2.1, fun q hq => ?_⟩, hl.2⟩
  obtain ⟨v, h1, h2, h3⟩ := tm_lv_mem.mp hq
  rw [h3, tm_vm_ext (hw v (List.mem_of_getElem? h1)) h]
  exact tm_L_at hl h1 h2
theorem tm_sz_up {h : tm_H} {a : Nat} {e : va_E} (ha : a ≠ 0) : tm_sz (tm_up h a e) = tm_sz h := by
  unfold tm_sz tm_up; rw [if_neg (Ne.symm ha)]
theorem tm_kc_up {h : tm_H} {a : Nat} {e : va_E} (ha : a ≠ 0) : tm_kc (tm_up h a e) = tm_kc h := by
  unfold tm_kc tm_up; rw [if_neg (Ne.symm ha)]
theorem tm_ks_up {h : tm_H} {a : Nat} {e : va_E} (ha : a ≠ 0) : tm_ks (tm_up h a e) = tm_ks h := by
  unfold tm_ks tm_up; rw [if_neg (Ne.symm ha)]
theorem tm_sz_new (h : tm_H) (e : va_E) (n : Nat) : tm_sz (tm_new h e n) = tm_sz h + 1 := by
  unfold tm_new; rw [tm_sz_up (by omega)]; rfl
theorem tm_kc_new (h : tm_H) (e : va_E) (n : Nat) : tm_kc (tm_new h e n) = tm_kc h + 1 := by
  unfold tm_new; rw [tm_kc_up (by omega)]; rfl
theorem tm_ks_new (h : tm_H) (e : va_E) (n : Nat) : tm_ks (tm_new h e n) = tm_ks h + n := by
  unfold tm_new; rw [tm_ks_up (by omega)]; rfl
theorem tm_ws_up (ρ σ τ : Nat → Nat) {h : tm_H} {a : Nat} {e : va_E} (h1 : 1 ≤ a) (h2 : a ≤ tm_sz h) : tm_ws ρ σ τ (tm_up h a e) = (tm_ws ρ σ τ h).set (a - 1) (ρ a, tm_cv ρ σ τ e) := by
  apply List.ext_getElem?
  intro k
  by_cases hk : k < tm_sz h
  · have e1 := tm_ws_at ρ σ τ (tm_up h a e) (a := k + 1) (by omega) (by rw [tm_sz_up (by omega)]; omega)
    have e2 := tm_ws_at ρ σ τ h (a := k + 1) (by omega) (by omega)
    rw [Nat.add_sub_cancel] at e1 e2
    rw [e1]
    by_cases hka : k + 1 = a
    · subst hka
      rw [Nat.add_sub_cancel, List.getElem?_set_self (by rw [tm_ws_len]; omega)]
      unfold tm_up; rw [if_pos rfl]
    · rw [List.getElem?_set_ne (by omega), e2]
      unfold tm_up; rw [if_neg hka]
  · rw [List.getElem?_eq_none (by rw [tm_ws_len, tm_sz_up (by omega)]; omega), List.getElem?_eq_none (by rw [List.length_set, tm_ws_len]; omega)]
theorem tm_cv_ext {ρ ρ' σ τ : Nat → Nat} {n : Nat} {e : va_E} (hw : ∀ c fs, e = .inr (c, fs) → ∀ v ∈ fs, tm_wv n v) (h : ∀ k, 1 ≤ k → k ≤ n → ρ' k = ρ k) : tm_cv ρ' σ τ e = tm_cv ρ σ τ e := by
  cases e with
  | inl x => rfl
  | inr x => obtain ⟨c, fs⟩ := x; show Sum.inr _ = Sum.inr _; rw [tm_map_ext (hw c fs rfl) h]
theorem tm_ws_new (ρ σ τ : Nat → Nat) {h : tm_H} {e : va_E} {n q : Nat} (hwf : tm_wf h) (he : ∀ c fs, e = .inr (c, fs) → ∀ v ∈ fs, tm_wv (tm_sz h) v) : tm_ws (fun k => if k = tm_sz h + 1 then q else ρ k) σ τ (tm_new h e n) = tm_ws ρ σ τ h ++ [(q, tm_cv ρ σ τ e)] := by
  have hρ : ∀ k, 1 ≤ k → k ≤ tm_sz h → (fun k => if k = tm_sz h + 1 then q else ρ k) k = ρ k := fun k _ hk => by
    show (if k = tm_sz h + 1 then q else ρ k) = ρ k
    rw [if_neg (by omega)]
  apply List.ext_getElem?
  intro k
  by_cases hk : k < tm_sz h
  · have e1 := tm_ws_at (fun k => if k = tm_sz h + 1 then q else ρ k) σ τ (tm_new h e n) (a := k + 1) (by omega) (by rw [tm_sz_new]; omega)
    have e2 := tm_ws_at ρ σ τ h (a := k + 1) (by omega) (by omega)
    rw [Nat.add_sub_cancel] at e1 e2
    rw [e1, List.getElem?_append_left (by rw [tm_ws_len]; exact hk), e2]
    have e3 : tm_new h e n (k + 1) = h (k + 1) := by
      unfold tm_new tm_up; rw [if_neg (by omega), if_neg (by omega)]
    rw [e3, tm_cv_ext (n := tm_sz h) (fun c fs => hwf (k + 1) (by omega) (by omega) c fs) hρ]
    rw [if_neg (by omega)]
  · by_cases hk2 : k = tm_sz h
    · subst hk2
      have e1 := tm_ws_at (fun k => if k = tm_sz h + 1 then q else ρ k) σ τ (tm_new h e n) (a := tm_sz h + 1) (by omega) (by rw [tm_sz_new]; omega)
      rw [Nat.add_sub_cancel] at e1
      rw [e1, List.getElem?_append_right (by rw [tm_ws_len]; omega), tm_ws_len, Nat.sub_self]
      have e3 : tm_new h e n (tm_sz h + 1) = e := by
        unfold tm_new tm_up; rw [if_pos rfl]
      rw [e3, tm_cv_ext he hρ]
      rw [if_pos rfl]; rfl
    · rw [List.getElem?_eq_none (by rw [tm_ws_len, tm_sz_new]; omega), List.getElem?_eq_none (by rw [List.length_append, tm_ws_len]; simp; omega)]
theorem tm_wf_up {h : tm_H} {a : Nat} {e : va_E} (ha : a ≠ 0) (hwf : tm_wf h) (he : ∀ c fs, e = .inr (c, fs) → ∀ v ∈ fs, tm_wv (tm_sz h) v) : tm_wf (tm_up h a e) := by
  intro k h1 h2 c fs hk v hv
  rw [tm_sz_up ha] at h2 ⊢
  unfold tm_up at hk
  split at hk
  · exact he c fs hk v hv
  · exact hwf k h1 h2 c fs hk v hv
theorem tm_wf_new {h : tm_H} {e : va_E} {n : Nat} (hwf : tm_wf h) (he : ∀ c fs, e = .inr (c, fs) → ∀ v ∈ fs, tm_wv (tm_sz h) v) : tm_wf (tm_new h e n) := by
  intro k h1 h2 c fs hk v hv
  rw [tm_sz_new] at h2 ⊢
  unfold tm_new tm_up at hk
  split at hk
  · exact tm_wv_le (he c fs hk v hv) (by omega)
  · rw [if_neg (by omega)] at hk
    exact tm_wv_le (hwf k h1 (by omega) c fs hk v hv) (by omega)
theorem tm_fit_vm {ρ σ : Nat → Nat} {ty : FieldType} {v : Value} (h : tm_fit ty v = true) : narrow ty (tm_vm ρ σ v) = tm_vm ρ σ v ∧ fits ty (tm_vm ρ σ v) = true := by
  unfold tm_fit at h
  rw [Bool.and_eq_true, decide_eq_true_eq] at h
  cases v with
  | ref a => cases ty <;> first | exact ⟨rfl, rfl⟩ | (exfalso; have := h.2; simp [fits] at this)
  | retAddr a => exfalso; have := h.2; cases ty <;> simp [fits] at this
  | _ => exact h
def tm_tys (τ : Nat → Nat) : List (ClassId × FieldType) := [(τ 0, .int), (τ 1, .byte), (τ 2, .long)]
def tm_nm (G : tm_PG) (oc : Nat) : String := G.2.2.2.2 oc
/-- what is asked of the tables of fields and classes -/
def tm_OkF (G : tm_PG) : Prop :=
  (∀ oc k ci j, tm_fld G oc k = some (ci, j) → ∃ C T N, vwCl[ci]? = some (C, T, N) ∧ j < N ∧ (Jvm.Cond.fieldLink (tm_nm G oc) k (T j).1 (T j).2.1 (T j).2.2.1 ∈ lw_tbl ∨ ∃ host, Jvm.Cond.fieldLinkNest (tm_nm G oc) k (T j).1 (T j).2.1 (T j).2.2.1 host ∈ lw_tbl ∧ oc ≠ ci)) ∧
  (∀ ci C T N, vwCl[ci]? = some (C, T, N) → (∀ w ∈ u_ws C T N, w ∈ lw_tbl) ∧ (∀ k, k < N → parseFieldDescriptor (T k).2.2.1 = some (tm_ty G ci k)) ∧ (∀ a, a < N → ∀ b, b < N → a ≠ b → (T a).2.1 ≠ (T b).2.1) ∧
    Jvm.Cond.instantiable C N ∈ lw_tbl ∧ Jvm.Cond.initialized C ∈ lw_tbl ∧ (tm_df G ci).length = N ∧ (∀ j, j < N → defaultValue (tm_ty G ci j) = vp_V (tm_df G ci) j) ∧ (∀ v ∈ tm_df G ci, tm_wv 0 v ∧ ∀ ρ σ : Nat → Nat, tm_vm ρ σ v = v) ∧ (∀ k, k < N → (T k).1 = C) ∧ tm_nm G ci = C) ∧
  (∀ oc k ci, tm_cls G oc k = some ci → ∃ C T N, vwCl[ci]? = some (C, T, N) ∧ Jvm.Cond.classLink (tm_nm G oc) k C ∈ lw_tbl)
def tm_nst : Jvm.Cond → Bool
  | .fieldLinkNest _ _ _ _ _ _ => true
  | .methodLinkNest _ _ _ _ => true
  | _ => false
