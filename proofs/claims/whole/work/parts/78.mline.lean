/-! THE REFERENCE's reading: a line -/
section M18
variable {h : tm_H} {b n : Nat} {tp : Nat → Int32} {Z : MZ} {tu : Int32} {z : RSt}
theorem isWd_1 {T : Tok} {k : Nat} (d : isWd tp T k = true) : T.2.2 = 1 := by
  unfold isWd at d
  by_cases x : T.2.2 = 1
  · exact x
  · rw [if_neg x] at d; cases d
theorem m_line (C : MC h n tp Z) (zf : Z.2.1.2 = .ref b) (hb : 83 < b) {p : PR} (o : h 70 = mpO Z p tu) (H : PG tp n (zT z) p) (S : FBk h b (true, z)) (g : Gd z) :
    ∃ h' p', tC mX11_readLine [.ref 70] h = some (h', none) ∧ h' 70 = mpO Z p' tu ∧ LV tp n (rLine tp n z) p' ∧ FBk h' b (rLine tp n z) ∧ FrG b h h' := by
  have fo : tm_up h 70 (mpO Z p tu) = h := by rw [← o, tm_up_id]
  have w := fun (k m : Nat) (hk : k < 21) (hm : m = k + 21) => m_isW (h := h) (Z := Z) (tu := tu) H hk hm
  rw [fo] at w
  have w0 := w 0 21 (by decide) rfl
  have w1 := w 1 22 (by decide) rfl
  have w2 := w 2 23 (by decide) rfl
  have w3 := w 3 24 (by decide) rfl
  have w4 := w 4 25 (by decide) rfl
  have w5 := w 5 26 (by decide) rfl
  have w6 := w 6 27 (by decide) rfl
  unfold rLine
  by_cases d0 : isWd tp (zT z) 0 = true
  · rw [if_pos d0]
    rw [d0, bI_t] at w0
    obtain ⟨h', p', P, q1, q2, q3, q4⟩ := m_Bar C zf hb o H (isWd_1 d0) S g
    refine ⟨h', p', ?_, q1, q2, q3, q4⟩
    simp only [cX11_readLine_, bX11_readLine_0, bX11_readLine_6, bX11_readLine_9, bX11_readLine_13, bX11_readLine_117, tk1_some, tk0_some, tkc_some, tkc_none, ↓reduceIte, o, tm_isO, w0, show ((1 : Int32) = 0) = False from by decide, if_false, if_true, P]
  · rw [if_neg d0]
    rw [Bool.not_eq_true] at d0
    rw [d0, bI_f] at w0
    by_cases d1 : isWd tp (zT z) 1 = true
    · rw [if_pos d1]
      rw [d1, bI_t] at w1
      obtain ⟨h', p', P, q1, q2, q3, q4⟩ := m_Water C zf hb o H (isWd_1 d1) S g
      refine ⟨h', p', ?_, q1, q2, q3, q4⟩
      simp only [cX11_readLine_, bX11_readLine_0, bX11_readLine_6, bX11_readLine_16, bX11_readLine_22, bX11_readLine_25, bX11_readLine_29, bX11_readLine_117, tk1_some, tk0_some, tkc_some, tkc_none, ↓reduceIte, o, tm_isO, w0, w1, show ((1 : Int32) = 0) = False from by decide, if_false, if_true, P]
    · rw [if_neg d1]
      rw [Bool.not_eq_true] at d1
      rw [d1, bI_f] at w1
      by_cases d2 : isWd tp (zT z) 2 = true
      · rw [if_pos d2]
        rw [d2, bI_t] at w2
        obtain ⟨h', p', P, q1, q2, q3, q4⟩ := m_Kind C zf hb o H (isWd_1 d2) S g
        refine ⟨h', p', ?_, q1, q2, q3, q4⟩
        simp only [cX11_readLine_, bX11_readLine_0, bX11_readLine_6, bX11_readLine_16, bX11_readLine_22, bX11_readLine_32, bX11_readLine_38, bX11_readLine_41, bX11_readLine_45, bX11_readLine_117, tk1_some, tk0_some, tkc_some, tkc_none, ↓reduceIte, o, tm_isO, w0, w1, w2, show ((1 : Int32) = 0) = False from by decide, if_false, if_true, P]
      · rw [if_neg d2]
        rw [Bool.not_eq_true] at d2
        rw [d2, bI_f] at w2
        by_cases d3 : isWd tp (zT z) 3 = true
        · rw [if_pos d3]
          rw [d3, bI_t] at w3
          obtain ⟨h', p', P, q1, q2, q3, q4⟩ := m_Turn C zf hb o H (isWd_1 d3) S g
          refine ⟨h', p', ?_, q1, q2, q3, q4⟩
          simp only [cX11_readLine_, bX11_readLine_0, bX11_readLine_6, bX11_readLine_16, bX11_readLine_22, bX11_readLine_32, bX11_readLine_38, bX11_readLine_48, bX11_readLine_54, bX11_readLine_57, bX11_readLine_61, bX11_readLine_117, tk1_some, tk0_some, tkc_some, tkc_none, ↓reduceIte, o, tm_isO, w0, w1, w2, w3, show ((1 : Int32) = 0) = False from by decide, if_false, if_true, P]
        · rw [if_neg d3]
          rw [Bool.not_eq_true] at d3
          rw [d3, bI_f] at w3
          by_cases d4 : isWd tp (zT z) 4 = true
          · rw [if_pos d4]
            rw [d4, bI_t] at w4
            obtain ⟨h', p', P, q1, q2, q3, q4⟩ := m_Red C zf hb o H (isWd_1 d4) S g
            refine ⟨h', p', ?_, q1, q2, q3, q4⟩
            simp only [cX11_readLine_, bX11_readLine_0, bX11_readLine_6, bX11_readLine_16, bX11_readLine_22, bX11_readLine_32, bX11_readLine_38, bX11_readLine_48, bX11_readLine_54, bX11_readLine_64, bX11_readLine_70, bX11_readLine_73, bX11_readLine_77, bX11_readLine_117, tk1_some, tk0_some, tkc_some, tkc_none, ↓reduceIte, o, tm_isO, w0, w1, w2, w3, w4, show ((1 : Int32) = 0) = False from by decide, if_false, if_true, P]
          · rw [if_neg d4]
            rw [Bool.not_eq_true] at d4
            rw [d4, bI_f] at w4
            by_cases d5 : isWd tp (zT z) 5 = true
            · rw [if_pos d5]
              rw [d5, bI_t] at w5
              obtain ⟨h', p', P, q1, q2, q3, q4⟩ := m_Stone C zf hb o H (isWd_1 d5) S g
              refine ⟨h', p', ?_, q1, q2, q3, q4⟩
              simp only [cX11_readLine_, bX11_readLine_0, bX11_readLine_6, bX11_readLine_16, bX11_readLine_22, bX11_readLine_32, bX11_readLine_38, bX11_readLine_48, bX11_readLine_54, bX11_readLine_64, bX11_readLine_70, bX11_readLine_80, bX11_readLine_86, bX11_readLine_89, bX11_readLine_93, bX11_readLine_117, tk1_some, tk0_some, tkc_some, tkc_none, ↓reduceIte, o, tm_isO, w0, w1, w2, w3, w4, w5, show ((1 : Int32) = 0) = False from by decide, if_false, if_true, P]
            · rw [if_neg d5]
              rw [Bool.not_eq_true] at d5
              rw [d5, bI_f] at w5
              by_cases d6 : isWd tp (zT z) 6 = true
              · rw [if_pos d6]
                rw [d6, bI_t] at w6
                obtain ⟨h', p', P, q1, q2, q3, q4⟩ := m_Smith C zf hb o H (isWd_1 d6) S g
                refine ⟨h', p', ?_, q1, q2, q3, q4⟩
                simp only [cX11_readLine_, bX11_readLine_0, bX11_readLine_6, bX11_readLine_16, bX11_readLine_22, bX11_readLine_32, bX11_readLine_38, bX11_readLine_48, bX11_readLine_54, bX11_readLine_64, bX11_readLine_70, bX11_readLine_80, bX11_readLine_86, bX11_readLine_96, bX11_readLine_102, bX11_readLine_105, bX11_readLine_109, bX11_readLine_117, tk1_some, tk0_some, tkc_some, tkc_none, ↓reduceIte, o, tm_isO, w0, w1, w2, w3, w4, w5, w6, show ((1 : Int32) = 0) = False from by decide, if_false, if_true, P]
              · rw [if_neg d6]
                rw [Bool.not_eq_true] at d6
                rw [d6, bI_f] at w6
                obtain ⟨p', P, G'⟩ := m_wr (h := h) (Z := Z) (tu := tu) H (k := 1)
                rw [fo] at P
                refine ⟨tm_up h 70 (mpO Z p' tu), p', ?_, tm_up_same, ⟨fun y => (by cases y), fun _ => G'⟩, FBk_c (FBk_f S rfl) (fun k x y => tm_up_ne (by omega)), FrG_up (Or.inl rfl)⟩
                simp only [cX11_readLine_, bX11_readLine_0, bX11_readLine_6, bX11_readLine_16, bX11_readLine_22, bX11_readLine_32, bX11_readLine_38, bX11_readLine_48, bX11_readLine_54, bX11_readLine_64, bX11_readLine_70, bX11_readLine_80, bX11_readLine_86, bX11_readLine_96, bX11_readLine_102, bX11_readLine_112, bX11_readLine_117, tk1_some, tk0_some, tkc_some, tkc_none, ↓reduceIte, o, tm_isO, w0, w1, w2, w3, w4, w5, w6, if_true, P]
end M18
