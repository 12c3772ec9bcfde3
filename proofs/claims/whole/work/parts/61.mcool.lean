/-! THE REFERENCE: how a cell cools -/
theorem flowS_0 (ha : Nat → Int32) (x y : Nat) : flowS ha 0 x y = 0 := by
  unfold flowS; rw [Int32.zero_mul]; decide
theorem gainS4_0 (ha : Nat → Int32) (cuts w i j : Nat) : gainS4 ha cuts w 0 i j = 0 := by
  unfold gainS4
  simp only [flowS_0, Int32.add_zero, ite_self]
theorem coolG_eq {pulls flow water : Int32} {ha op : Nat → Int32} {cuts w i j : Nat} : coolG pulls flow water ha op cuts w i (i * 5 + j) = ha (i * 5 + j) + gainS4 ha cuts w flow i j - pulls * (ha (i * 5 + j) - water) / 100 * op (i * 5 + j) / 100 / nI (j + 1) := by
  unfold coolG
  rw [show i * 5 + j - i * 5 = j by omega]
  have e : (if flow = 0 then (0 : Int32) else gainS4 ha cuts w flow i j) = gainS4 ha cuts w flow i j := by
    split
    · rename_i z; rw [z, gainS4_0]
    · rfl
  rw [e]
  generalize gainS4 ha cuts w flow i j = g
  generalize pulls * (ha (i * 5 + j) - water) / 100 * op (i * 5 + j) / 100 / nI (j + 1) = l
  rw [Int32.sub_eq_add_neg, Int32.sub_eq_add_neg, Int32.add_assoc, Int32.add_assoc, Int32.add_comm (-l)]
theorem opS_m {sh v : Int32} : (if 0 ≤ 100 - sh * v then 100 - sh * v else 0) = opS sh v := by
  unfold opS
  by_cases a : 0 < 100 - sh * v
  · rw [if_pos a, if_pos (Int32.le_of_lt a)]
  · rw [if_neg a]
    by_cases b : 0 ≤ 100 - sh * v
    · rw [if_pos b]; exact Int32.le_antisymm (Int32.not_lt.mp a) b
    · rw [if_neg b]
section MC
variable {h : tm_H} {b n : Nat} {cnt : Nat → Nat} {tab G : Nat → Nat → Int32} {nm : Nat → Int64} {w : Nat} {a1 a3 N cuts : Nat} {hf cf : Nat → Int32}
theorem mcooled (W : MW h b cnt tab n G nm) (ha1 : h a1 = aI N hf) (ha3 : h a3 = aI N cf) (hN : N < 2 ^ 31) (hcc : cuts ≤ 8) (hc : ∀ i j, i < cuts → j < w → i * 5 + j < N) (ew : tab 0 1 = nI w) (hw : w ≤ 5) {i j : Nat} (hi : i < cuts) (hj : j < w) {water : Int32} : tC mX11_cooled [.ref 70, .ref a1, .ref a3, .int (nI cuts), .int (nI i), .int (nI j), .int water] h = some (h, some (.int (coolG (tab 1 1) (tab 1 3) water hf (fun k => opS (tab 1 2) (cf k)) cuts w i (i * 5 + j)))) := by
  have M := mw_b W
  have hx := hc i j hi hj
  have qx : tm_ai 0 (h a1) (nI (i * 5 + j)) = some (.int (hf (i * 5 + j))) := by rw [ha1, tm_ai_in rfl hx hN]
  have qc : tm_ai 0 (h a3) (nI (i * 5 + j)) = some (.int (cf (i * 5 + j))) := by rw [ha3, tm_ai_in rfl hx hN]
  have fl : ∀ x y : Int32, tC mX11_flows [.ref 70, .int x, .int y] h = some (h, some (.int (tab 1 3 * (y - x) / 100))) := fun x y => mflow W
  rw [coolG_eq]
  -- the cut above
  have s1 : tC mX11_cooled [.ref 70, .ref a1, .ref a3, .int (nI cuts), .int (nI i), .int (nI j), .int water] h = tE mX11_cooled 39 [.ref 70, .ref a1, .ref a3, .int (nI cuts), .int (nI i), .int (nI j), .int water, .int (nI (i * 5 + j)), .int (hf (i * 5 + j) + (if i = 0 then (0 : Int32) else 0 + flowS hf (tab 1 3) (i * 5 + j) (i * 5 + j - 5))), tm_U] [] h := by
    by_cases z : i = 0
    · have z' : nI i ≤ 0 := by rw [z]; decide
      have zz : (i = 0) = True := eq_true z
      simp only [cX11_cooled_, bX11_cooled_0, bX11_cooled_13, tk1_some, tk0_some, tkc_some, tkc_none, ↓reduceIte, i5j', qx, z', if_true, zz, Int32.add_zero]
    · have z' : ¬ nI i ≤ 0 := by rw [nI_le0 (by omega)]; exact z
      have q5 : tm_ai 0 (h a1) (nI (i * 5 + j) - 5) = some (.int (hf (i * 5 + j - 5))) := by
        have := hc (i - 1) j (by omega) hj
        rw [nI_sub5 (by omega), ha1, tm_ai_in rfl (by omega) hN]
      simp only [cX11_cooled_, bX11_cooled_0, bX11_cooled_13, bX11_cooled_20, bX11_cooled_27, bX11_cooled_33, bX11_cooled_36, tk1_some, tk0_some, tkc_some, tkc_none, ↓reduceIte, i5j', qx, z', if_false, q5, mw_i W, fl, z, flowS, Int32.zero_add]
  rw [s1]
  generalize e1 : (if i = 0 then (0 : Int32) else 0 + flowS hf (tab 1 3) (i * 5 + j) (i * 5 + j - 5)) = g1
  have s2 : tE mX11_cooled 39 [.ref 70, .ref a1, .ref a3, .int (nI cuts), .int (nI i), .int (nI j), .int water, .int (nI (i * 5 + j)), .int (hf (i * 5 + j) + g1), tm_U] [] h = tE mX11_cooled 66 [.ref 70, .ref a1, .ref a3, .int (nI cuts), .int (nI i), .int (nI j), .int water, .int (nI (i * 5 + j)), .int (hf (i * 5 + j) + (if i + 1 < cuts then g1 + flowS hf (tab 1 3) (i * 5 + j) (i * 5 + j + 5) else g1)), tm_U] [] h := by
    by_cases z : i + 1 < cuts
    · have z' : ¬ nI cuts ≤ nI (i + 1) := nI_ge z (by omega)
      have q5 : tm_ai 0 (h a1) (nI (i * 5 + j) + 5) = some (.int (hf (i * 5 + j + 5))) := by
        have := hc (i + 1) j z hj
        rw [nI_ad5, ha1, tm_ai_in rfl (by omega) hN]
      simp only [bX11_cooled_39, bX11_cooled_47, bX11_cooled_54, bX11_cooled_60, bX11_cooled_63, tk1_some, tk0_some, tkc_some, tkc_none, ↓reduceIte, qx, nI_k1, z', if_false, q5, mw_i W, fl, z, if_true, flowS, Int32.add_assoc]
    · have z' : nI cuts ≤ nI (i + 1) := (nI_leI (by omega) (by omega)).mpr (by omega)
      simp only [bX11_cooled_39, nI_k1, z', if_true, z, if_false]
  rw [s2]
  generalize e2 : (if i + 1 < cuts then g1 + flowS hf (tab 1 3) (i * 5 + j) (i * 5 + j + 5) else g1) = g2
  have s3 : tE mX11_cooled 66 [.ref 70, .ref a1, .ref a3, .int (nI cuts), .int (nI i), .int (nI j), .int water, .int (nI (i * 5 + j)), .int (hf (i * 5 + j) + g2), tm_U] [] h = tE mX11_cooled 90 [.ref 70, .ref a1, .ref a3, .int (nI cuts), .int (nI i), .int (nI j), .int water, .int (nI (i * 5 + j)), .int (hf (i * 5 + j) + (if j = 0 then g2 else g2 + flowS hf (tab 1 3) (i * 5 + j) (i * 5 + j - 1))), tm_U] [] h := by
    by_cases z : j = 0
    · have z' : nI j ≤ 0 := by rw [z]; decide
      have zz : (j = 0) = True := eq_true z
      simp only [bX11_cooled_66, z', if_true, zz]
    · have z' : ¬ nI j ≤ 0 := by rw [nI_le0 (by omega)]; exact z
      have q5 : tm_ai 0 (h a1) (nI (i * 5 + j) - 1) = some (.int (hf (i * 5 + j - 1))) := by
        rw [nI_sub1 (by omega), ha1, tm_ai_in rfl (by omega) hN]
      simp only [bX11_cooled_66, bX11_cooled_71, bX11_cooled_78, bX11_cooled_84, bX11_cooled_87, tk1_some, tk0_some, tkc_some, tkc_none, ↓reduceIte, qx, z', if_false, q5, mw_i W, fl, z, flowS, Int32.add_assoc]
  rw [s3]
  generalize e3 : (if j = 0 then g2 else g2 + flowS hf (tab 1 3) (i * 5 + j) (i * 5 + j - 1)) = g3
  have s4 : tE mX11_cooled 90 [.ref 70, .ref a1, .ref a3, .int (nI cuts), .int (nI i), .int (nI j), .int water, .int (nI (i * 5 + j)), .int (hf (i * 5 + j) + g3), tm_U] [] h = tE mX11_cooled 123 [.ref 70, .ref a1, .ref a3, .int (nI cuts), .int (nI i), .int (nI j), .int water, .int (nI (i * 5 + j)), .int (hf (i * 5 + j) + (if j + 1 < w then g3 + flowS hf (tab 1 3) (i * 5 + j) (i * 5 + j + 1) else g3)), tm_U] [] h := by
    by_cases z : j + 1 < w
    · have z' : ¬ nI w ≤ nI (j + 1) := nI_ge z (by omega)
      have q5 : tm_ai 0 (h a1) (nI (i * 5 + j) + 1) = some (.int (hf (i * 5 + j + 1))) := by
        have := hc i (j + 1) hi z
        rw [nI_k1, ha1, tm_ai_in rfl (by omega) hN]
      rw [bX11_cooled_90]
      simp only [bX11_cooled_98, bX11_cooled_101, bX11_cooled_104, bX11_cooled_111, bX11_cooled_117, bX11_cooled_120, tk1_some, tk0_some, tkc_some, tkc_none, ↓reduceIte, mw_3 W, mb_o M, gf_10_1, ew, nI_k1 j, z', if_false, qx, q5, mw_i W, fl, z, if_true, flowS, Int32.add_assoc]
    · have z' : nI w ≤ nI (j + 1) := (nI_leI (by omega) (by omega)).mpr (by omega)
      rw [bX11_cooled_90]
      simp only [bX11_cooled_98, bX11_cooled_101, tk1_some, tk0_some, tkc_some, tkc_none, ↓reduceIte, mw_3 W, mb_o M, gf_10_1, ew, nI_k1, z', if_true, z, if_false]
  rw [s4]
  have e4 : (if j + 1 < w then g3 + flowS hf (tab 1 3) (i * 5 + j) (i * 5 + j + 1) else g3) = gainS4 hf cuts w (tab 1 3) i j := by
    rw [← e3, ← e2, ← e1]; rfl
  rw [e4, ← opS_m]
  rw [bX11_cooled_123]
  have z0 : ¬ nI j + 1 = 0 := by rw [nI_k1]; exact fun y => absurd ((nI_eq (b := 0) (show j + 1 < 2 ^ 31 by omega) (by decide)).mp y) (by omega)
  by_cases z : 0 ≤ 100 - tab 1 2 * cf (i * 5 + j)
  · simp only [bX11_cooled_129, bX11_cooled_132, bX11_cooled_136, bX11_cooled_146, bX11_cooled_149, bX11_cooled_153, bX11_cooled_169, bX11_cooled_171 z0, tk1_some, tk0_some, tkc_some, tkc_none, ↓reduceIte, mw_3 W, mb_o M, gf_10_4, gf_10_3, qc, qx, z, if_true, nI_k1]
  · simp only [bX11_cooled_129, bX11_cooled_132, bX11_cooled_136, bX11_cooled_146, bX11_cooled_149, bX11_cooled_153, bX11_cooled_165, bX11_cooled_171 z0, tk1_some, tk0_some, tkc_some, tkc_none, ↓reduceIte, mw_3 W, mb_o M, gf_10_4, gf_10_3, qc, qx, z, if_false, nI_k1]
end MC
