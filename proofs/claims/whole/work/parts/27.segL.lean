theorem s_La_law_18 {x : am_Sc} {Po : Option am_AV → am_Sh → am_St → Prop} {σ : am_St} {v3 : Int} (hL : x.1 < 2147483648)
    (h : am_r v3 ∧ am_r ((x.1 : Int) - 6) ∧ ((((x.1 : Int) - 6) < v3 → Po (some (Zi 1)) am_SH σ) ∧ (¬ ((x.1 : Int) - 6) < v3 → (0 ≤ v3 ∧ v3 < x.1) ∧ am_r (am_and ((x.2 v3.toNat).toInt) 31) ∧ ((((am_and ((x.2 v3.toNat).toInt) 31) < 0 ∨ 31 < (am_and ((x.2 v3.toNat).toInt) 31)) → am_UL x m_La_law Po σ 1172 [some (Zr 1000000), some (Zr 0), some (Zr 147), some (Zi v3)] []) ∧ ((am_and ((x.2 v3.toNat).toInt) 31) = 0 → am_UL x m_La_law Po σ 176 [some (Zr 1000000), some (Zr 0), some (Zr 147), some (Zi v3)] []) ∧ ((am_and ((x.2 v3.toNat).toInt) 31) = 1 → am_UL x m_La_law Po σ 209 [some (Zr 1000000), some (Zr 0), some (Zr 147), some (Zi v3)] []) ∧ ((am_and ((x.2 v3.toNat).toInt) 31) = 2 → am_UL x m_La_law Po σ 232 [some (Zr 1000000), some (Zr 0), some (Zr 147), some (Zi v3)] []) ∧ ((am_and ((x.2 v3.toNat).toInt) 31) = 3 → am_UL x m_La_law Po σ 265 [some (Zr 1000000), some (Zr 0), some (Zr 147), some (Zi v3)] []) ∧ ((am_and ((x.2 v3.toNat).toInt) 31) = 4 → am_UL x m_La_law Po σ 298 [some (Zr 1000000), some (Zr 0), some (Zr 147), some (Zi v3)] []) ∧ ((am_and ((x.2 v3.toNat).toInt) 31) = 5 → am_UL x m_La_law Po σ 331 [some (Zr 1000000), some (Zr 0), some (Zr 147), some (Zi v3)] []) ∧ ((am_and ((x.2 v3.toNat).toInt) 31) = 6 → am_UL x m_La_law Po σ 364 [some (Zr 1000000), some (Zr 0), some (Zr 147), some (Zi v3)] []) ∧ ((am_and ((x.2 v3.toNat).toInt) 31) = 7 → am_UL x m_La_law Po σ 407 [some (Zr 1000000), some (Zr 0), some (Zr 147), some (Zi v3)] []) ∧ ((am_and ((x.2 v3.toNat).toInt) 31) = 8 → am_UL x m_La_law Po σ 460 [some (Zr 1000000), some (Zr 0), some (Zr 147), some (Zi v3)] []) ∧ ((am_and ((x.2 v3.toNat).toInt) 31) = 9 → am_UL x m_La_law Po σ 483 [some (Zr 1000000), some (Zr 0), some (Zr 147), some (Zi v3)] []) ∧ ((am_and ((x.2 v3.toNat).toInt) 31) = 10 → am_UL x m_La_law Po σ 516 [some (Zr 1000000), some (Zr 0), some (Zr 147), some (Zi v3)] []) ∧ ((am_and ((x.2 v3.toNat).toInt) 31) = 11 → am_UL x m_La_law Po σ 549 [some (Zr 1000000), some (Zr 0), some (Zr 147), some (Zi v3)] []) ∧ ((am_and ((x.2 v3.toNat).toInt) 31) = 12 → am_UL x m_La_law Po σ 592 [some (Zr 1000000), some (Zr 0), some (Zr 147), some (Zi v3)] []) ∧ ((am_and ((x.2 v3.toNat).toInt) 31) = 13 → am_UL x m_La_law Po σ 655 [some (Zr 1000000), some (Zr 0), some (Zr 147), some (Zi v3)] []) ∧ ((am_and ((x.2 v3.toNat).toInt) 31) = 14 → am_UL x m_La_law Po σ 698 [some (Zr 1000000), some (Zr 0), some (Zr 147), some (Zi v3)] []) ∧ ((am_and ((x.2 v3.toNat).toInt) 31) = 15 → am_UL x m_La_law Po σ 721 [some (Zr 1000000), some (Zr 0), some (Zr 147), some (Zi v3)] []) ∧ ((am_and ((x.2 v3.toNat).toInt) 31) = 16 → am_UL x m_La_law Po σ 754 [some (Zr 1000000), some (Zr 0), some (Zr 147), some (Zi v3)] []) ∧ ((am_and ((x.2 v3.toNat).toInt) 31) = 17 → am_UL x m_La_law Po σ 787 [some (Zr 1000000), some (Zr 0), some (Zr 147), some (Zi v3)] []) ∧ ((am_and ((x.2 v3.toNat).toInt) 31) = 18 → am_UL x m_La_law Po σ 810 [some (Zr 1000000), some (Zr 0), some (Zr 147), some (Zi v3)] []) ∧ ((am_and ((x.2 v3.toNat).toInt) 31) = 19 → am_UL x m_La_law Po σ 843 [some (Zr 1000000), some (Zr 0), some (Zr 147), some (Zi v3)] []) ∧ ((am_and ((x.2 v3.toNat).toInt) 31) = 20 → am_UL x m_La_law Po σ 856 [some (Zr 1000000), some (Zr 0), some (Zr 147), some (Zi v3)] []) ∧ ((am_and ((x.2 v3.toNat).toInt) 31) = 21 → am_UL x m_La_law Po σ 869 [some (Zr 1000000), some (Zr 0), some (Zr 147), some (Zi v3)] []) ∧ ((am_and ((x.2 v3.toNat).toInt) 31) = 22 → am_UL x m_La_law Po σ 892 [some (Zr 1000000), some (Zr 0), some (Zr 147), some (Zi v3)] []) ∧ ((am_and ((x.2 v3.toNat).toInt) 31) = 23 → am_UL x m_La_law Po σ 915 [some (Zr 1000000), some (Zr 0), some (Zr 147), some (Zi v3)] []) ∧ ((am_and ((x.2 v3.toNat).toInt) 31) = 24 → am_UL x m_La_law Po σ 958 [some (Zr 1000000), some (Zr 0), some (Zr 147), some (Zi v3)] []) ∧ ((am_and ((x.2 v3.toNat).toInt) 31) = 25 → am_UL x m_La_law Po σ 981 [some (Zr 1000000), some (Zr 0), some (Zr 147), some (Zi v3)] []) ∧ ((am_and ((x.2 v3.toNat).toInt) 31) = 26 → am_UL x m_La_law Po σ 1004 [some (Zr 1000000), some (Zr 0), some (Zr 147), some (Zi v3)] []) ∧ ((am_and ((x.2 v3.toNat).toInt) 31) = 27 → am_UL x m_La_law Po σ 1047 [some (Zr 1000000), some (Zr 0), some (Zr 147), some (Zi v3)] []) ∧ ((am_and ((x.2 v3.toNat).toInt) 31) = 28 → am_UL x m_La_law Po σ 1110 [some (Zr 1000000), some (Zr 0), some (Zr 147), some (Zi v3)] []) ∧ ((am_and ((x.2 v3.toNat).toInt) 31) = 29 → am_UL x m_La_law Po σ 1123 [some (Zr 1000000), some (Zr 0), some (Zr 147), some (Zi v3)] []) ∧ ((am_and ((x.2 v3.toNat).toInt) 31) = 30 → am_UL x m_La_law Po σ 1136 [some (Zr 1000000), some (Zr 0), some (Zr 147), some (Zi v3)] []) ∧ ((am_and ((x.2 v3.toNat).toInt) 31) = 31 → am_UL x m_La_law Po σ 1149 [some (Zr 1000000), some (Zr 0), some (Zr 147), some (Zi v3)] []))))) : am_UL x m_La_law Po σ 18 [some (Zr 1000000), some (Zr 0), some (Zr 147), some (Zi v3)] [] := by
  refine V_iload_n d_La_law_18 rfl ?_
  refine V_aload_n d_La_law_19 rfl ?_
  refine V_slen d_La_law_20 ?_
  refine V_bipush d_La_law_21 ?_
  refine V_isub d_La_law_23 ?_
  obtain ⟨h1, h⟩ := h
  obtain ⟨h2, h⟩ := h
  obtain ⟨ht, hf⟩ := h
  refine V_icmp_gt 1178 d_La_law_24 h1 h2 (fun h5 => ?_) (fun h5 => ?_)
  · have h := ht h5
    refine V_iconst d_La_law_1178 ?_
    exact V_zret d_La_law_1179 rfl rfl (Or.inr rfl) h
  · have h := hf h5
    refine V_aload_n d_La_law_27 rfl ?_
    refine V_iload_n d_La_law_28 rfl ?_
    obtain ⟨h3, h⟩ := h
    refine UL_sld d_La_law_29 hL h3 ?_
    refine V_bipush d_La_law_30 ?_
    refine V_iand d_La_law_32 ?_
    obtain ⟨h4, h⟩ := h
    obtain ⟨hd9, h⟩ := h
    by_cases hq9 : (am_and ((x.2 v3.toNat).toInt) 31) < 0 ∨ 31 < (am_and ((x.2 v3.toNat).toInt) 31)
    · have h := hd9 hq9
      refine V_tabOut 1172 d_La_law_33 h4 hq9 ?_
      exact h
    · have ha9 : (am_and ((x.2 v3.toNat).toInt) 31) = 0 ∨ (am_and ((x.2 v3.toNat).toInt) 31) = 1 ∨ (am_and ((x.2 v3.toNat).toInt) 31) = 2 ∨ (am_and ((x.2 v3.toNat).toInt) 31) = 3 ∨ (am_and ((x.2 v3.toNat).toInt) 31) = 4 ∨ (am_and ((x.2 v3.toNat).toInt) 31) = 5 ∨ (am_and ((x.2 v3.toNat).toInt) 31) = 6 ∨ (am_and ((x.2 v3.toNat).toInt) 31) = 7 ∨ (am_and ((x.2 v3.toNat).toInt) 31) = 8 ∨ (am_and ((x.2 v3.toNat).toInt) 31) = 9 ∨ (am_and ((x.2 v3.toNat).toInt) 31) = 10 ∨ (am_and ((x.2 v3.toNat).toInt) 31) = 11 ∨ (am_and ((x.2 v3.toNat).toInt) 31) = 12 ∨ (am_and ((x.2 v3.toNat).toInt) 31) = 13 ∨ (am_and ((x.2 v3.toNat).toInt) 31) = 14 ∨ (am_and ((x.2 v3.toNat).toInt) 31) = 15 ∨ (am_and ((x.2 v3.toNat).toInt) 31) = 16 ∨ (am_and ((x.2 v3.toNat).toInt) 31) = 17 ∨ (am_and ((x.2 v3.toNat).toInt) 31) = 18 ∨ (am_and ((x.2 v3.toNat).toInt) 31) = 19 ∨ (am_and ((x.2 v3.toNat).toInt) 31) = 20 ∨ (am_and ((x.2 v3.toNat).toInt) 31) = 21 ∨ (am_and ((x.2 v3.toNat).toInt) 31) = 22 ∨ (am_and ((x.2 v3.toNat).toInt) 31) = 23 ∨ (am_and ((x.2 v3.toNat).toInt) 31) = 24 ∨ (am_and ((x.2 v3.toNat).toInt) 31) = 25 ∨ (am_and ((x.2 v3.toNat).toInt) 31) = 26 ∨ (am_and ((x.2 v3.toNat).toInt) 31) = 27 ∨ (am_and ((x.2 v3.toNat).toInt) 31) = 28 ∨ (am_and ((x.2 v3.toNat).toInt) 31) = 29 ∨ (am_and ((x.2 v3.toNat).toInt) 31) = 30 ∨ (am_and ((x.2 v3.toNat).toInt) 31) = 31 := by omega
      rcases ha9 with hc0 | hc1 | hc2 | hc3 | hc4 | hc5 | hc6 | hc7 | hc8 | hc9 | hc10 | hc11 | hc12 | hc13 | hc14 | hc15 | hc16 | hc17 | hc18 | hc19 | hc20 | hc21 | hc22 | hc23 | hc24 | hc25 | hc26 | hc27 | hc28 | hc29 | hc30 | hc31
      · have h := h.1 hc0
        refine V_tabIn 176 d_La_law_33 h4 (by omega) (by omega) (by rw [hc0]; rfl) ?_
        exact h
      · have h := h.2.1 hc1
        refine V_tabIn 209 d_La_law_33 h4 (by omega) (by omega) (by rw [hc1]; rfl) ?_
        exact h
      · have h := h.2.2.1 hc2
        refine V_tabIn 232 d_La_law_33 h4 (by omega) (by omega) (by rw [hc2]; rfl) ?_
        exact h
      · have h := h.2.2.2.1 hc3
        refine V_tabIn 265 d_La_law_33 h4 (by omega) (by omega) (by rw [hc3]; rfl) ?_
        exact h
      · have h := h.2.2.2.2.1 hc4
        refine V_tabIn 298 d_La_law_33 h4 (by omega) (by omega) (by rw [hc4]; rfl) ?_
        exact h
      · have h := h.2.2.2.2.2.1 hc5
        refine V_tabIn 331 d_La_law_33 h4 (by omega) (by omega) (by rw [hc5]; rfl) ?_
        exact h
      · have h := h.2.2.2.2.2.2.1 hc6
        refine V_tabIn 364 d_La_law_33 h4 (by omega) (by omega) (by rw [hc6]; rfl) ?_
        exact h
      · have h := h.2.2.2.2.2.2.2.1 hc7
        refine V_tabIn 407 d_La_law_33 h4 (by omega) (by omega) (by rw [hc7]; rfl) ?_
        exact h
      · have h := h.2.2.2.2.2.2.2.2.1 hc8
        refine V_tabIn 460 d_La_law_33 h4 (by omega) (by omega) (by rw [hc8]; rfl) ?_
        exact h
      · have h := h.2.2.2.2.2.2.2.2.2.1 hc9
        refine V_tabIn 483 d_La_law_33 h4 (by omega) (by omega) (by rw [hc9]; rfl) ?_
        exact h
      · have h := h.2.2.2.2.2.2.2.2.2.2.1 hc10
        refine V_tabIn 516 d_La_law_33 h4 (by omega) (by omega) (by rw [hc10]; rfl) ?_
        exact h
      · have h := h.2.2.2.2.2.2.2.2.2.2.2.1 hc11
        refine V_tabIn 549 d_La_law_33 h4 (by omega) (by omega) (by rw [hc11]; rfl) ?_
        exact h
      · have h := h.2.2.2.2.2.2.2.2.2.2.2.2.1 hc12
        refine V_tabIn 592 d_La_law_33 h4 (by omega) (by omega) (by rw [hc12]; rfl) ?_
        exact h
      · have h := h.2.2.2.2.2.2.2.2.2.2.2.2.2.1 hc13
        refine V_tabIn 655 d_La_law_33 h4 (by omega) (by omega) (by rw [hc13]; rfl) ?_
        exact h
      · have h := h.2.2.2.2.2.2.2.2.2.2.2.2.2.2.1 hc14
        refine V_tabIn 698 d_La_law_33 h4 (by omega) (by omega) (by rw [hc14]; rfl) ?_
        exact h
      · have h := h.2.2.2.2.2.2.2.2.2.2.2.2.2.2.2.1 hc15
        refine V_tabIn 721 d_La_law_33 h4 (by omega) (by omega) (by rw [hc15]; rfl) ?_
        exact h
      · have h := h.2.2.2.2.2.2.2.2.2.2.2.2.2.2.2.2.1 hc16
        refine V_tabIn 754 d_La_law_33 h4 (by omega) (by omega) (by rw [hc16]; rfl) ?_
        exact h
      · have h := h.2.2.2.2.2.2.2.2.2.2.2.2.2.2.2.2.2.1 hc17
        refine V_tabIn 787 d_La_law_33 h4 (by omega) (by omega) (by rw [hc17]; rfl) ?_
        exact h
      · have h := h.2.2.2.2.2.2.2.2.2.2.2.2.2.2.2.2.2.2.1 hc18
        refine V_tabIn 810 d_La_law_33 h4 (by omega) (by omega) (by rw [hc18]; rfl) ?_
        exact h
      · have h := h.2.2.2.2.2.2.2.2.2.2.2.2.2.2.2.2.2.2.2.1 hc19
        refine V_tabIn 843 d_La_law_33 h4 (by omega) (by omega) (by rw [hc19]; rfl) ?_
        exact h
      · have h := h.2.2.2.2.2.2.2.2.2.2.2.2.2.2.2.2.2.2.2.2.1 hc20
        refine V_tabIn 856 d_La_law_33 h4 (by omega) (by omega) (by rw [hc20]; rfl) ?_
        exact h
      · have h := h.2.2.2.2.2.2.2.2.2.2.2.2.2.2.2.2.2.2.2.2.2.1 hc21
        refine V_tabIn 869 d_La_law_33 h4 (by omega) (by omega) (by rw [hc21]; rfl) ?_
        exact h
      · have h := h.2.2.2.2.2.2.2.2.2.2.2.2.2.2.2.2.2.2.2.2.2.2.1 hc22
        refine V_tabIn 892 d_La_law_33 h4 (by omega) (by omega) (by rw [hc22]; rfl) ?_
        exact h
      · have h := h.2.2.2.2.2.2.2.2.2.2.2.2.2.2.2.2.2.2.2.2.2.2.2.1 hc23
        refine V_tabIn 915 d_La_law_33 h4 (by omega) (by omega) (by rw [hc23]; rfl) ?_
        exact h
      · have h := h.2.2.2.2.2.2.2.2.2.2.2.2.2.2.2.2.2.2.2.2.2.2.2.2.1 hc24
        refine V_tabIn 958 d_La_law_33 h4 (by omega) (by omega) (by rw [hc24]; rfl) ?_
        exact h
      · have h := h.2.2.2.2.2.2.2.2.2.2.2.2.2.2.2.2.2.2.2.2.2.2.2.2.2.1 hc25
        refine V_tabIn 981 d_La_law_33 h4 (by omega) (by omega) (by rw [hc25]; rfl) ?_
        exact h
      · have h := h.2.2.2.2.2.2.2.2.2.2.2.2.2.2.2.2.2.2.2.2.2.2.2.2.2.2.1 hc26
        refine V_tabIn 1004 d_La_law_33 h4 (by omega) (by omega) (by rw [hc26]; rfl) ?_
        exact h
      · have h := h.2.2.2.2.2.2.2.2.2.2.2.2.2.2.2.2.2.2.2.2.2.2.2.2.2.2.2.1 hc27
        refine V_tabIn 1047 d_La_law_33 h4 (by omega) (by omega) (by rw [hc27]; rfl) ?_
        exact h
      · have h := h.2.2.2.2.2.2.2.2.2.2.2.2.2.2.2.2.2.2.2.2.2.2.2.2.2.2.2.2.1 hc28
        refine V_tabIn 1110 d_La_law_33 h4 (by omega) (by omega) (by rw [hc28]; rfl) ?_
        exact h
      · have h := h.2.2.2.2.2.2.2.2.2.2.2.2.2.2.2.2.2.2.2.2.2.2.2.2.2.2.2.2.2.1 hc29
        refine V_tabIn 1123 d_La_law_33 h4 (by omega) (by omega) (by rw [hc29]; rfl) ?_
        exact h
      · have h := h.2.2.2.2.2.2.2.2.2.2.2.2.2.2.2.2.2.2.2.2.2.2.2.2.2.2.2.2.2.2.1 hc30
        refine V_tabIn 1136 d_La_law_33 h4 (by omega) (by omega) (by rw [hc30]; rfl) ?_
        exact h
      · have h := h.2.2.2.2.2.2.2.2.2.2.2.2.2.2.2.2.2.2.2.2.2.2.2.2.2.2.2.2.2.2.2 hc31
        refine V_tabIn 1149 d_La_law_33 h4 (by omega) (by omega) (by rw [hc31]; rfl) ?_
        exact h
theorem s_La_law_1172 {x : am_Sc} {Po : Option am_AV → am_Sh → am_St → Prop} {σ : am_St} {v3 : Int} (hL : x.1 < 2147483648)
    (h : am_UL x m_La_law Po σ 18 [some (Zr 1000000), some (Zr 0), some (Zr 147), some (Zi (v3 + 6))] []) : am_UL x m_La_law Po σ 1172 [some (Zr 1000000), some (Zr 0), some (Zr 147), some (Zi v3)] [] := by
  refine V_iinc d_La_law_1172 rfl rfl ?_
  refine V_goto 18 d_La_law_1175 ?_
  exact h
theorem s_La_law_176 {x : am_Sc} {Po : Option am_AV → am_Sh → am_St → Prop} {σ : am_St} {v3 : Int} (hL : x.1 < 2147483648)
    (h : (0 ≤ v3 + 1 ∧ v3 + 1 < x.1) ∧ (0 ≤ v3 + 2 ∧ v3 + 2 < x.1) ∧ am_U x m_Sp_ground (fun ro1 so1 σ1 => ∃ z1 : Int, ro1 = some (Zi z1) ∧ so1 = am_SH ∧ am_U x m_Mo_ground (fun ro2 so2 σ2 => ∃ z2 : Int, ro2 = some (Zi z2) ∧ so2 = am_SH ∧ am_r z1 ∧ am_r z2 ∧ ((z1 = z2 → am_UL x m_La_law Po σ2 1172 [some (Zr 1000000), some (Zr 0), some (Zr 147), some (Zi v3)] []) ∧ (¬ z1 = z2 → Po (some (Zi 0)) am_SH σ2))) σ1 0 [some (Zr 147), some (Zi ((x.2 (v3 + 1).toNat).toInt)), some (Zi ((x.2 (v3 + 2).toNat).toInt)), none] []) σ 0 [some (Zr 0), some (Zi ((x.2 (v3 + 1).toNat).toInt)), some (Zi ((x.2 (v3 + 2).toNat).toInt))] []) : am_UL x m_La_law Po σ 176 [some (Zr 1000000), some (Zr 0), some (Zr 147), some (Zi v3)] [] := by
  refine V_aload_n d_La_law_176 rfl ?_
  refine V_aload_n d_La_law_177 rfl ?_
  refine V_iload_n d_La_law_178 rfl ?_
  refine V_iconst d_La_law_179 ?_
  refine V_iadd d_La_law_180 ?_
  obtain ⟨h6, h⟩ := h
  refine UL_sld d_La_law_181 hL h6 ?_
  refine V_aload_n d_La_law_182 rfl ?_
  refine V_iload_n d_La_law_183 rfl ?_
  refine V_iconst d_La_law_184 ?_
  refine V_iadd d_La_law_185 ?_
  obtain ⟨h7, h⟩ := h
  refine UL_sld d_La_law_186 hL h7 ?_
  refine UL_iv2 cv_La_law_13 d_La_law_187 sh_0 rfl rfl (am_mono h ?_)
  rintro ro1 so1 σ1 ⟨z1, rfl, rfl, h⟩
  refine V_aload_n d_La_law_190 rfl ?_
  refine V_aload_n d_La_law_191 rfl ?_
  refine V_iload_n d_La_law_192 rfl ?_
  refine V_iconst d_La_law_193 ?_
  refine V_iadd d_La_law_194 ?_
  refine UL_sld d_La_law_195 hL h6 ?_
  refine V_aload_n d_La_law_196 rfl ?_
  refine V_iload_n d_La_law_197 rfl ?_
  refine V_iconst d_La_law_198 ?_
  refine V_iadd d_La_law_199 ?_
  refine UL_sld d_La_law_200 hL h7 ?_
  refine UL_iv2 cv_La_law_17 d_La_law_201 sh_147 rfl rfl (am_mono h ?_)
  rintro ro2 so2 σ2 ⟨z2, rfl, rfl, h⟩
  obtain ⟨h8, h⟩ := h
  obtain ⟨h9, h⟩ := h
  obtain ⟨ht, hf⟩ := h
  refine V_icmp_eq 1172 d_La_law_204 h8 h9 (fun h10 => ?_) (fun h10 => ?_)
  · have h := ht h10
    exact h
  · have h := hf h10
    refine V_iconst d_La_law_207 ?_
    exact V_zret d_La_law_208 rfl rfl (Or.inl rfl) h
theorem s_La_law_209 {x : am_Sc} {Po : Option am_AV → am_Sh → am_St → Prop} {σ : am_St} {v3 : Int} (hL : x.1 < 2147483648)
    (h : (0 ≤ v3 + 1 ∧ v3 + 1 < x.1) ∧ am_U x m_Sp_ratio (fun ro3 so3 σ3 => ∃ z3 : Int, ro3 = some (Zi z3) ∧ so3 = am_SH ∧ am_U x m_Mo_ratio (fun ro4 so4 σ4 => ∃ z4 : Int, ro4 = some (Zi z4) ∧ so4 = am_SH ∧ am_r z3 ∧ am_r z4 ∧ ((z3 = z4 → am_UL x m_La_law Po σ4 1172 [some (Zr 1000000), some (Zr 0), some (Zr 147), some (Zi v3)] []) ∧ (¬ z3 = z4 → Po (some (Zi 0)) am_SH σ4))) σ3 0 [some (Zr 147), some (Zi ((x.2 (v3 + 1).toNat).toInt)), none] []) σ 0 [some (Zr 0), some (Zi ((x.2 (v3 + 1).toNat).toInt)), none] []) : am_UL x m_La_law Po σ 209 [some (Zr 1000000), some (Zr 0), some (Zr 147), some (Zi v3)] [] := by
  refine V_aload_n d_La_law_209 rfl ?_
  refine V_aload_n d_La_law_210 rfl ?_
  refine V_iload_n d_La_law_211 rfl ?_
  refine V_iconst d_La_law_212 ?_
  refine V_iadd d_La_law_213 ?_
  obtain ⟨h11, h⟩ := h
  refine UL_sld d_La_law_214 hL h11 ?_
  refine UL_iv1 cv_La_law_18 d_La_law_215 sh_0 rfl rfl (am_mono h ?_)
  rintro ro3 so3 σ3 ⟨z3, rfl, rfl, h⟩
  refine V_aload_n d_La_law_218 rfl ?_
  refine V_aload_n d_La_law_219 rfl ?_
  refine V_iload_n d_La_law_220 rfl ?_
  refine V_iconst d_La_law_221 ?_
  refine V_iadd d_La_law_222 ?_
  refine UL_sld d_La_law_223 hL h11 ?_
  refine UL_iv1 cv_La_law_22 d_La_law_224 sh_147 rfl rfl (am_mono h ?_)
  rintro ro4 so4 σ4 ⟨z4, rfl, rfl, h⟩
  obtain ⟨h12, h⟩ := h
  obtain ⟨h13, h⟩ := h
  obtain ⟨ht, hf⟩ := h
  refine V_icmp_eq 1172 d_La_law_227 h12 h13 (fun h14 => ?_) (fun h14 => ?_)
  · have h := ht h14
    exact h
  · have h := hf h14
    refine V_iconst d_La_law_230 ?_
    exact V_zret d_La_law_231 rfl rfl (Or.inl rfl) h
theorem s_La_law_232 {x : am_Sc} {Po : Option am_AV → am_Sh → am_St → Prop} {σ : am_St} {v3 : Int} (hL : x.1 < 2147483648)
    (h : (0 ≤ v3 + 1 ∧ v3 + 1 < x.1) ∧ (0 ≤ v3 + 2 ∧ v3 + 2 < x.1) ∧ am_U x m_Sp_slow (fun ro5 so5 σ5 => ∃ z5 : Int, ro5 = some (Zi z5) ∧ so5 = am_SH ∧ am_U x m_Mo_slow (fun ro6 so6 σ6 => ∃ z6 : Int, ro6 = some (Zi z6) ∧ so6 = am_SH ∧ am_r z5 ∧ am_r z6 ∧ ((z5 = z6 → am_UL x m_La_law Po σ6 1172 [some (Zr 1000000), some (Zr 0), some (Zr 147), some (Zi v3)] []) ∧ (¬ z5 = z6 → Po (some (Zi 0)) am_SH σ6))) σ5 0 [some (Zr 147), some (Zi ((x.2 (v3 + 1).toNat).toInt)), some (Zi ((x.2 (v3 + 2).toNat).toInt)), none] []) σ 0 [some (Zr 0), some (Zi ((x.2 (v3 + 1).toNat).toInt)), some (Zi ((x.2 (v3 + 2).toNat).toInt)), none] []) : am_UL x m_La_law Po σ 232 [some (Zr 1000000), some (Zr 0), some (Zr 147), some (Zi v3)] [] := by
  refine V_aload_n d_La_law_232 rfl ?_
  refine V_aload_n d_La_law_233 rfl ?_
  refine V_iload_n d_La_law_234 rfl ?_
  refine V_iconst d_La_law_235 ?_
  refine V_iadd d_La_law_236 ?_
  obtain ⟨h15, h⟩ := h
  refine UL_sld d_La_law_237 hL h15 ?_
  refine V_aload_n d_La_law_238 rfl ?_
  refine V_iload_n d_La_law_239 rfl ?_
  refine V_iconst d_La_law_240 ?_
  refine V_iadd d_La_law_241 ?_
  obtain ⟨h16, h⟩ := h
  refine UL_sld d_La_law_242 hL h16 ?_
  refine UL_iv2 cv_La_law_23 d_La_law_243 sh_0 rfl rfl (am_mono h ?_)
  rintro ro5 so5 σ5 ⟨z5, rfl, rfl, h⟩
  refine V_aload_n d_La_law_246 rfl ?_
  refine V_aload_n d_La_law_247 rfl ?_
  refine V_iload_n d_La_law_248 rfl ?_
  refine V_iconst d_La_law_249 ?_
  refine V_iadd d_La_law_250 ?_
  refine UL_sld d_La_law_251 hL h15 ?_
  refine V_aload_n d_La_law_252 rfl ?_
  refine V_iload_n d_La_law_253 rfl ?_
  refine V_iconst d_La_law_254 ?_
  refine V_iadd d_La_law_255 ?_
  refine UL_sld d_La_law_256 hL h16 ?_
  refine UL_iv2 cv_La_law_26 d_La_law_257 sh_147 rfl rfl (am_mono h ?_)
  rintro ro6 so6 σ6 ⟨z6, rfl, rfl, h⟩
  obtain ⟨h17, h⟩ := h
  obtain ⟨h18, h⟩ := h
  obtain ⟨ht, hf⟩ := h
  refine V_icmp_eq 1172 d_La_law_260 h17 h18 (fun h19 => ?_) (fun h19 => ?_)
  · have h := ht h19
    exact h
  · have h := hf h19
    refine V_iconst d_La_law_263 ?_
    exact V_zret d_La_law_264 rfl rfl (Or.inl rfl) h
theorem s_La_law_265 {x : am_Sc} {Po : Option am_AV → am_Sh → am_St → Prop} {σ : am_St} {v3 : Int} (hL : x.1 < 2147483648)
    (h : (0 ≤ v3 + 1 ∧ v3 + 1 < x.1) ∧ (0 ≤ v3 + 2 ∧ v3 + 2 < x.1) ∧ am_U x m_Sp_split (fun ro7 so7 σ7 => ∃ z7 : Int, ro7 = some (Zi z7) ∧ so7 = am_SH ∧ am_U x m_Mo_split (fun ro8 so8 σ8 => ∃ z8 : Int, ro8 = some (Zi z8) ∧ so8 = am_SH ∧ am_r z7 ∧ am_r z8 ∧ ((z7 = z8 → am_UL x m_La_law Po σ8 1172 [some (Zr 1000000), some (Zr 0), some (Zr 147), some (Zi v3)] []) ∧ (¬ z7 = z8 → Po (some (Zi 0)) am_SH σ8))) σ7 0 [some (Zr 147), some (Zi ((x.2 (v3 + 1).toNat).toInt)), some (Zi ((x.2 (v3 + 2).toNat).toInt)), none, none, none] []) σ 0 [some (Zr 0), some (Zi ((x.2 (v3 + 1).toNat).toInt)), some (Zi ((x.2 (v3 + 2).toNat).toInt))] []) : am_UL x m_La_law Po σ 265 [some (Zr 1000000), some (Zr 0), some (Zr 147), some (Zi v3)] [] := by
  refine V_aload_n d_La_law_265 rfl ?_
  refine V_aload_n d_La_law_266 rfl ?_
  refine V_iload_n d_La_law_267 rfl ?_
  refine V_iconst d_La_law_268 ?_
  refine V_iadd d_La_law_269 ?_
  obtain ⟨h20, h⟩ := h
  refine UL_sld d_La_law_270 hL h20 ?_
  refine V_aload_n d_La_law_271 rfl ?_
  refine V_iload_n d_La_law_272 rfl ?_
  refine V_iconst d_La_law_273 ?_
  refine V_iadd d_La_law_274 ?_
  obtain ⟨h21, h⟩ := h
  refine UL_sld d_La_law_275 hL h21 ?_
  refine UL_iv2 cv_La_law_27 d_La_law_276 sh_0 rfl rfl (am_mono h ?_)
  rintro ro7 so7 σ7 ⟨z7, rfl, rfl, h⟩
  refine V_aload_n d_La_law_279 rfl ?_
  refine V_aload_n d_La_law_280 rfl ?_
  refine V_iload_n d_La_law_281 rfl ?_
  refine V_iconst d_La_law_282 ?_
  refine V_iadd d_La_law_283 ?_
  refine UL_sld d_La_law_284 hL h20 ?_
  refine V_aload_n d_La_law_285 rfl ?_
  refine V_iload_n d_La_law_286 rfl ?_
  refine V_iconst d_La_law_287 ?_
  refine V_iadd d_La_law_288 ?_
  refine UL_sld d_La_law_289 hL h21 ?_
  refine UL_iv2 cv_La_law_30 d_La_law_290 sh_147 rfl rfl (am_mono h ?_)
  rintro ro8 so8 σ8 ⟨z8, rfl, rfl, h⟩
  obtain ⟨h22, h⟩ := h
  obtain ⟨h23, h⟩ := h
  obtain ⟨ht, hf⟩ := h
  refine V_icmp_eq 1172 d_La_law_293 h22 h23 (fun h24 => ?_) (fun h24 => ?_)
  · have h := ht h24
    exact h
  · have h := hf h24
    refine V_iconst d_La_law_296 ?_
    exact V_zret d_La_law_297 rfl rfl (Or.inl rfl) h
theorem s_La_law_298 {x : am_Sc} {Po : Option am_AV → am_Sh → am_St → Prop} {σ : am_St} {v3 : Int} (hL : x.1 < 2147483648)
    (h : (0 ≤ v3 + 1 ∧ v3 + 1 < x.1) ∧ (0 ≤ v3 + 2 ∧ v3 + 2 < x.1) ∧ am_U x m_Sp_join (fun ro9 so9 σ9 => ∃ z9 : Int, ro9 = some (Zi z9) ∧ so9 = am_SH ∧ am_U x m_Mo_join (fun ro10 so10 σ10 => ∃ z10 : Int, ro10 = some (Zi z10) ∧ so10 = am_SH ∧ am_r z9 ∧ am_r z10 ∧ ((z9 = z10 → am_UL x m_La_law Po σ10 1172 [some (Zr 1000000), some (Zr 0), some (Zr 147), some (Zi v3)] []) ∧ (¬ z9 = z10 → Po (some (Zi 0)) am_SH σ10))) σ9 0 [some (Zr 147), some (Zi ((x.2 (v3 + 1).toNat).toInt)), some (Zi ((x.2 (v3 + 2).toNat).toInt)), none] []) σ 0 [some (Zr 0), some (Zi ((x.2 (v3 + 1).toNat).toInt)), some (Zi ((x.2 (v3 + 2).toNat).toInt))] []) : am_UL x m_La_law Po σ 298 [some (Zr 1000000), some (Zr 0), some (Zr 147), some (Zi v3)] [] := by
  refine V_aload_n d_La_law_298 rfl ?_
  refine V_aload_n d_La_law_299 rfl ?_
  refine V_iload_n d_La_law_300 rfl ?_
  refine V_iconst d_La_law_301 ?_
  refine V_iadd d_La_law_302 ?_
  obtain ⟨h25, h⟩ := h
  refine UL_sld d_La_law_303 hL h25 ?_
  refine V_aload_n d_La_law_304 rfl ?_
  refine V_iload_n d_La_law_305 rfl ?_
  refine V_iconst d_La_law_306 ?_
  refine V_iadd d_La_law_307 ?_
  obtain ⟨h26, h⟩ := h
  refine UL_sld d_La_law_308 hL h26 ?_
  refine UL_iv2 cv_La_law_31 d_La_law_309 sh_0 rfl rfl (am_mono h ?_)
  rintro ro9 so9 σ9 ⟨z9, rfl, rfl, h⟩
  refine V_aload_n d_La_law_312 rfl ?_
  refine V_aload_n d_La_law_313 rfl ?_
  refine V_iload_n d_La_law_314 rfl ?_
  refine V_iconst d_La_law_315 ?_
  refine V_iadd d_La_law_316 ?_
  refine UL_sld d_La_law_317 hL h25 ?_
  refine V_aload_n d_La_law_318 rfl ?_
  refine V_iload_n d_La_law_319 rfl ?_
  refine V_iconst d_La_law_320 ?_
  refine V_iadd d_La_law_321 ?_
  refine UL_sld d_La_law_322 hL h26 ?_
  refine UL_iv2 cv_La_law_34 d_La_law_323 sh_147 rfl rfl (am_mono h ?_)
  rintro ro10 so10 σ10 ⟨z10, rfl, rfl, h⟩
  obtain ⟨h27, h⟩ := h
  obtain ⟨h28, h⟩ := h
  obtain ⟨ht, hf⟩ := h
  refine V_icmp_eq 1172 d_La_law_326 h27 h28 (fun h29 => ?_) (fun h29 => ?_)
  · have h := ht h29
    exact h
  · have h := hf h29
    refine V_iconst d_La_law_329 ?_
    exact V_zret d_La_law_330 rfl rfl (Or.inl rfl) h
theorem s_La_law_331 {x : am_Sc} {Po : Option am_AV → am_Sh → am_St → Prop} {σ : am_St} {v3 : Int} (hL : x.1 < 2147483648)
    (h : (0 ≤ v3 + 1 ∧ v3 + 1 < x.1) ∧ (0 ≤ v3 + 2 ∧ v3 + 2 < x.1) ∧ am_U x m_Sp_at (fun ro11 so11 σ11 => ∃ z11 : Int, ro11 = some (Zi z11) ∧ so11 = am_SH ∧ am_U x m_Mo_at (fun ro12 so12 σ12 => ∃ z12 : Int, ro12 = some (Zi z12) ∧ so12 = am_SH ∧ am_r z11 ∧ am_r z12 ∧ ((z11 = z12 → am_UL x m_La_law Po σ12 1172 [some (Zr 1000000), some (Zr 0), some (Zr 147), some (Zi v3)] []) ∧ (¬ z11 = z12 → Po (some (Zi 0)) am_SH σ12))) σ11 0 [some (Zr 147), some (Zi ((x.2 (v3 + 1).toNat).toInt)), some (Zi ((x.2 (v3 + 2).toNat).toInt))] []) σ 0 [some (Zr 0), some (Zi ((x.2 (v3 + 1).toNat).toInt)), some (Zi ((x.2 (v3 + 2).toNat).toInt)), none] []) : am_UL x m_La_law Po σ 331 [some (Zr 1000000), some (Zr 0), some (Zr 147), some (Zi v3)] [] := by
  refine V_aload_n d_La_law_331 rfl ?_
  refine V_aload_n d_La_law_332 rfl ?_
  refine V_iload_n d_La_law_333 rfl ?_
  refine V_iconst d_La_law_334 ?_
  refine V_iadd d_La_law_335 ?_
  obtain ⟨h30, h⟩ := h
  refine UL_sld d_La_law_336 hL h30 ?_
  refine V_aload_n d_La_law_337 rfl ?_
  refine V_iload_n d_La_law_338 rfl ?_
  refine V_iconst d_La_law_339 ?_
  refine V_iadd d_La_law_340 ?_
  obtain ⟨h31, h⟩ := h
  refine UL_sld d_La_law_341 hL h31 ?_
  refine UL_iv2 cv_La_law_35 d_La_law_342 sh_0 rfl rfl (am_mono h ?_)
  rintro ro11 so11 σ11 ⟨z11, rfl, rfl, h⟩
  refine V_aload_n d_La_law_345 rfl ?_
  refine V_aload_n d_La_law_346 rfl ?_
  refine V_iload_n d_La_law_347 rfl ?_
  refine V_iconst d_La_law_348 ?_
  refine V_iadd d_La_law_349 ?_
  refine UL_sld d_La_law_350 hL h30 ?_
  refine V_aload_n d_La_law_351 rfl ?_
  refine V_iload_n d_La_law_352 rfl ?_
  refine V_iconst d_La_law_353 ?_
  refine V_iadd d_La_law_354 ?_
  refine UL_sld d_La_law_355 hL h31 ?_
  refine UL_iv2 cv_La_law_38 d_La_law_356 sh_147 rfl rfl (am_mono h ?_)
  rintro ro12 so12 σ12 ⟨z12, rfl, rfl, h⟩
  obtain ⟨h32, h⟩ := h
  obtain ⟨h33, h⟩ := h
  obtain ⟨ht, hf⟩ := h
  refine V_icmp_eq 1172 d_La_law_359 h32 h33 (fun h34 => ?_) (fun h34 => ?_)
  · have h := ht h34
    exact h
  · have h := hf h34
    refine V_iconst d_La_law_362 ?_
    exact V_zret d_La_law_363 rfl rfl (Or.inl rfl) h
theorem s_La_law_364 {x : am_Sc} {Po : Option am_AV → am_Sh → am_St → Prop} {σ : am_St} {v3 : Int} (hL : x.1 < 2147483648)
    (h : (0 ≤ v3 + 1 ∧ v3 + 1 < x.1) ∧ (0 ≤ v3 + 2 ∧ v3 + 2 < x.1) ∧ (0 ≤ v3 + 3 ∧ v3 + 3 < x.1) ∧ am_U x m_Sp_time (fun ro13 so13 σ13 => ∃ z13 : Int, ro13 = some (Zi z13) ∧ so13 = am_SH ∧ am_U x m_Mo_time (fun ro14 so14 σ14 => ∃ z14 : Int, ro14 = some (Zi z14) ∧ so14 = am_SH ∧ am_r z13 ∧ am_r z14 ∧ ((z13 = z14 → am_UL x m_La_law Po σ14 1172 [some (Zr 1000000), some (Zr 0), some (Zr 147), some (Zi v3)] []) ∧ (¬ z13 = z14 → Po (some (Zi 0)) am_SH σ14))) σ13 0 [some (Zr 147), some (Zi ((x.2 (v3 + 1).toNat).toInt)), some (Zi ((x.2 (v3 + 2).toNat).toInt)), some (Zi ((x.2 (v3 + 3).toNat).toInt))] []) σ 0 [some (Zr 0), some (Zi ((x.2 (v3 + 1).toNat).toInt)), some (Zi ((x.2 (v3 + 2).toNat).toInt)), some (Zi ((x.2 (v3 + 3).toNat).toInt))] []) : am_UL x m_La_law Po σ 364 [some (Zr 1000000), some (Zr 0), some (Zr 147), some (Zi v3)] [] := by
  refine V_aload_n d_La_law_364 rfl ?_
  refine V_aload_n d_La_law_365 rfl ?_
  refine V_iload_n d_La_law_366 rfl ?_
  refine V_iconst d_La_law_367 ?_
  refine V_iadd d_La_law_368 ?_
  obtain ⟨h35, h⟩ := h
  refine UL_sld d_La_law_369 hL h35 ?_
  refine V_aload_n d_La_law_370 rfl ?_
  refine V_iload_n d_La_law_371 rfl ?_
  refine V_iconst d_La_law_372 ?_
  refine V_iadd d_La_law_373 ?_
  obtain ⟨h36, h⟩ := h
  refine UL_sld d_La_law_374 hL h36 ?_
  refine V_aload_n d_La_law_375 rfl ?_
  refine V_iload_n d_La_law_376 rfl ?_
  refine V_iconst d_La_law_377 ?_
  refine V_iadd d_La_law_378 ?_
  obtain ⟨h37, h⟩ := h
  refine UL_sld d_La_law_379 hL h37 ?_
  refine UL_iv3 cv_La_law_39 d_La_law_380 sh_0 rfl rfl (am_mono h ?_)
  rintro ro13 so13 σ13 ⟨z13, rfl, rfl, h⟩
  refine V_aload_n d_La_law_383 rfl ?_
  refine V_aload_n d_La_law_384 rfl ?_
  refine V_iload_n d_La_law_385 rfl ?_
  refine V_iconst d_La_law_386 ?_
  refine V_iadd d_La_law_387 ?_
  refine UL_sld d_La_law_388 hL h35 ?_
  refine V_aload_n d_La_law_389 rfl ?_
  refine V_iload_n d_La_law_390 rfl ?_
  refine V_iconst d_La_law_391 ?_
  refine V_iadd d_La_law_392 ?_
  refine UL_sld d_La_law_393 hL h36 ?_
  refine V_aload_n d_La_law_394 rfl ?_
  refine V_iload_n d_La_law_395 rfl ?_
  refine V_iconst d_La_law_396 ?_
  refine V_iadd d_La_law_397 ?_
  refine UL_sld d_La_law_398 hL h37 ?_
  refine UL_iv3 cv_La_law_43 d_La_law_399 sh_147 rfl rfl (am_mono h ?_)
  rintro ro14 so14 σ14 ⟨z14, rfl, rfl, h⟩
  obtain ⟨h38, h⟩ := h
  obtain ⟨h39, h⟩ := h
  obtain ⟨ht, hf⟩ := h
  refine V_icmp_eq 1172 d_La_law_402 h38 h39 (fun h40 => ?_) (fun h40 => ?_)
  · have h := ht h40
    exact h
  · have h := hf h40
    refine V_iconst d_La_law_405 ?_
    exact V_zret d_La_law_406 rfl rfl (Or.inl rfl) h
theorem s_La_law_407 {x : am_Sc} {Po : Option am_AV → am_Sh → am_St → Prop} {σ : am_St} {v3 : Int} (hL : x.1 < 2147483648)
    (h : (0 ≤ v3 + 1 ∧ v3 + 1 < x.1) ∧ (0 ≤ v3 + 2 ∧ v3 + 2 < x.1) ∧ (0 ≤ v3 + 3 ∧ v3 + 3 < x.1) ∧ (0 ≤ v3 + 4 ∧ v3 + 4 < x.1) ∧ am_U x m_Sp_way (fun ro15 so15 σ15 => ∃ z15 : Int, ro15 = some (Zi z15) ∧ so15 = am_SH ∧ am_U x m_Mo_way (fun ro16 so16 σ16 => ∃ z16 : Int, ro16 = some (Zi z16) ∧ so16 = am_SH ∧ am_r z15 ∧ am_r z16 ∧ ((z15 = z16 → am_UL x m_La_law Po σ16 1172 [some (Zr 1000000), some (Zr 0), some (Zr 147), some (Zi v3)] []) ∧ (¬ z15 = z16 → Po (some (Zi 0)) am_SH σ16))) σ15 0 [some (Zr 147), some (Zi ((x.2 (v3 + 1).toNat).toInt)), some (Zi ((x.2 (v3 + 2).toNat).toInt)), some (Zi ((x.2 (v3 + 3).toNat).toInt)), some (Zi ((x.2 (v3 + 4).toNat).toInt)), none, none] []) σ 0 [some (Zr 0), some (Zi ((x.2 (v3 + 1).toNat).toInt)), some (Zi ((x.2 (v3 + 2).toNat).toInt)), some (Zi ((x.2 (v3 + 3).toNat).toInt)), some (Zi ((x.2 (v3 + 4).toNat).toInt))] []) : am_UL x m_La_law Po σ 407 [some (Zr 1000000), some (Zr 0), some (Zr 147), some (Zi v3)] [] := by
  refine V_aload_n d_La_law_407 rfl ?_
  refine V_aload_n d_La_law_408 rfl ?_
  refine V_iload_n d_La_law_409 rfl ?_
  refine V_iconst d_La_law_410 ?_
  refine V_iadd d_La_law_411 ?_
  obtain ⟨h41, h⟩ := h
  refine UL_sld d_La_law_412 hL h41 ?_
  refine V_aload_n d_La_law_413 rfl ?_
  refine V_iload_n d_La_law_414 rfl ?_
  refine V_iconst d_La_law_415 ?_
  refine V_iadd d_La_law_416 ?_
  obtain ⟨h42, h⟩ := h
  refine UL_sld d_La_law_417 hL h42 ?_
  refine V_aload_n d_La_law_418 rfl ?_
  refine V_iload_n d_La_law_419 rfl ?_
  refine V_iconst d_La_law_420 ?_
  refine V_iadd d_La_law_421 ?_
  obtain ⟨h43, h⟩ := h
  refine UL_sld d_La_law_422 hL h43 ?_
  refine V_aload_n d_La_law_423 rfl ?_
  refine V_iload_n d_La_law_424 rfl ?_
  refine V_iconst d_La_law_425 ?_
  refine V_iadd d_La_law_426 ?_
  obtain ⟨h44, h⟩ := h
  refine UL_sld d_La_law_427 hL h44 ?_
  refine UL_iv4 cv_La_law_44 d_La_law_428 sh_0 rfl rfl (am_mono h ?_)
  rintro ro15 so15 σ15 ⟨z15, rfl, rfl, h⟩
  refine V_aload_n d_La_law_431 rfl ?_
  refine V_aload_n d_La_law_432 rfl ?_
  refine V_iload_n d_La_law_433 rfl ?_
  refine V_iconst d_La_law_434 ?_
  refine V_iadd d_La_law_435 ?_
  refine UL_sld d_La_law_436 hL h41 ?_
  refine V_aload_n d_La_law_437 rfl ?_
  refine V_iload_n d_La_law_438 rfl ?_
  refine V_iconst d_La_law_439 ?_
  refine V_iadd d_La_law_440 ?_
  refine UL_sld d_La_law_441 hL h42 ?_
  refine V_aload_n d_La_law_442 rfl ?_
  refine V_iload_n d_La_law_443 rfl ?_
  refine V_iconst d_La_law_444 ?_
  refine V_iadd d_La_law_445 ?_
  refine UL_sld d_La_law_446 hL h43 ?_
  refine V_aload_n d_La_law_447 rfl ?_
  refine V_iload_n d_La_law_448 rfl ?_
  refine V_iconst d_La_law_449 ?_
  refine V_iadd d_La_law_450 ?_
  refine UL_sld d_La_law_451 hL h44 ?_
  refine UL_iv4 cv_La_law_48 d_La_law_452 sh_147 rfl rfl (am_mono h ?_)
  rintro ro16 so16 σ16 ⟨z16, rfl, rfl, h⟩
  obtain ⟨h45, h⟩ := h
  obtain ⟨h46, h⟩ := h
  obtain ⟨ht, hf⟩ := h
  refine V_icmp_eq 1172 d_La_law_455 h45 h46 (fun h47 => ?_) (fun h47 => ?_)
  · have h := ht h47
    exact h
  · have h := hf h47
    refine V_iconst d_La_law_458 ?_
    exact V_zret d_La_law_459 rfl rfl (Or.inl rfl) h
theorem s_La_law_460 {x : am_Sc} {Po : Option am_AV → am_Sh → am_St → Prop} {σ : am_St} {v3 : Int} (hL : x.1 < 2147483648)
    (h : (0 ≤ v3 + 1 ∧ v3 + 1 < x.1) ∧ am_U x m_Sp_ear (fun ro17 so17 σ17 => ∃ z17 : Int, ro17 = some (Zi z17) ∧ so17 = am_SH ∧ am_U x m_Mo_ear (fun ro18 so18 σ18 => ∃ z18 : Int, ro18 = some (Zi z18) ∧ so18 = am_SH ∧ am_r z17 ∧ am_r z18 ∧ ((z17 = z18 → am_UL x m_La_law Po σ18 1172 [some (Zr 1000000), some (Zr 0), some (Zr 147), some (Zi v3)] []) ∧ (¬ z17 = z18 → Po (some (Zi 0)) am_SH σ18))) σ17 0 [some (Zr 147), some (Zi ((x.2 (v3 + 1).toNat).toInt))] []) σ 0 [some (Zr 0), some (Zi ((x.2 (v3 + 1).toNat).toInt))] []) : am_UL x m_La_law Po σ 460 [some (Zr 1000000), some (Zr 0), some (Zr 147), some (Zi v3)] [] := by
  refine V_aload_n d_La_law_460 rfl ?_
  refine V_aload_n d_La_law_461 rfl ?_
  refine V_iload_n d_La_law_462 rfl ?_
  refine V_iconst d_La_law_463 ?_
  refine V_iadd d_La_law_464 ?_
  obtain ⟨h48, h⟩ := h
  refine UL_sld d_La_law_465 hL h48 ?_
  refine UL_iv1 cv_La_law_49 d_La_law_466 sh_0 rfl rfl (am_mono h ?_)
  rintro ro17 so17 σ17 ⟨z17, rfl, rfl, h⟩
  refine V_aload_n d_La_law_469 rfl ?_
  refine V_aload_n d_La_law_470 rfl ?_
  refine V_iload_n d_La_law_471 rfl ?_
  refine V_iconst d_La_law_472 ?_
  refine V_iadd d_La_law_473 ?_
  refine UL_sld d_La_law_474 hL h48 ?_
  refine UL_iv1 cv_La_law_52 d_La_law_475 sh_147 rfl rfl (am_mono h ?_)
  rintro ro18 so18 σ18 ⟨z18, rfl, rfl, h⟩
  obtain ⟨h49, h⟩ := h
  obtain ⟨h50, h⟩ := h
  obtain ⟨ht, hf⟩ := h
  refine V_icmp_eq 1172 d_La_law_478 h49 h50 (fun h51 => ?_) (fun h51 => ?_)
  · have h := ht h51
    exact h
  · have h := hf h51
    refine V_iconst d_La_law_481 ?_
    exact V_zret d_La_law_482 rfl rfl (Or.inl rfl) h
theorem s_La_law_483 {x : am_Sc} {Po : Option am_AV → am_Sh → am_St → Prop} {σ : am_St} {v3 : Int} (hL : x.1 < 2147483648)
    (h : (0 ≤ v3 + 1 ∧ v3 + 1 < x.1) ∧ (0 ≤ v3 + 2 ∧ v3 + 2 < x.1) ∧ am_U x m_Sp_clock (fun ro19 so19 σ19 => ∃ z19 : Int, ro19 = some (Zi z19) ∧ so19 = am_SH ∧ am_U x m_Mo_clock (fun ro20 so20 σ20 => ∃ z20 : Int, ro20 = some (Zi z20) ∧ so20 = am_SH ∧ am_r z19 ∧ am_r z20 ∧ ((z19 = z20 → am_UL x m_La_law Po σ20 1172 [some (Zr 1000000), some (Zr 0), some (Zr 147), some (Zi v3)] []) ∧ (¬ z19 = z20 → Po (some (Zi 0)) am_SH σ20))) σ19 0 [some (Zr 147), some (Zi ((x.2 (v3 + 1).toNat).toInt)), some (Zi ((x.2 (v3 + 2).toNat).toInt))] []) σ 0 [some (Zr 0), some (Zi ((x.2 (v3 + 1).toNat).toInt)), some (Zi ((x.2 (v3 + 2).toNat).toInt))] []) : am_UL x m_La_law Po σ 483 [some (Zr 1000000), some (Zr 0), some (Zr 147), some (Zi v3)] [] := by
  refine V_aload_n d_La_law_483 rfl ?_
  refine V_aload_n d_La_law_484 rfl ?_
  refine V_iload_n d_La_law_485 rfl ?_
  refine V_iconst d_La_law_486 ?_
  refine V_iadd d_La_law_487 ?_
  obtain ⟨h52, h⟩ := h
  refine UL_sld d_La_law_488 hL h52 ?_
  refine V_aload_n d_La_law_489 rfl ?_
  refine V_iload_n d_La_law_490 rfl ?_
  refine V_iconst d_La_law_491 ?_
  refine V_iadd d_La_law_492 ?_
  obtain ⟨h53, h⟩ := h
  refine UL_sld d_La_law_493 hL h53 ?_
  refine UL_iv2 cv_La_law_53 d_La_law_494 sh_0 rfl rfl (am_mono h ?_)
  rintro ro19 so19 σ19 ⟨z19, rfl, rfl, h⟩
  refine V_aload_n d_La_law_497 rfl ?_
  refine V_aload_n d_La_law_498 rfl ?_
  refine V_iload_n d_La_law_499 rfl ?_
  refine V_iconst d_La_law_500 ?_
  refine V_iadd d_La_law_501 ?_
  refine UL_sld d_La_law_502 hL h52 ?_
  refine V_aload_n d_La_law_503 rfl ?_
  refine V_iload_n d_La_law_504 rfl ?_
  refine V_iconst d_La_law_505 ?_
  refine V_iadd d_La_law_506 ?_
  refine UL_sld d_La_law_507 hL h53 ?_
  refine UL_iv2 cv_La_law_56 d_La_law_508 sh_147 rfl rfl (am_mono h ?_)
  rintro ro20 so20 σ20 ⟨z20, rfl, rfl, h⟩
  obtain ⟨h54, h⟩ := h
  obtain ⟨h55, h⟩ := h
  obtain ⟨ht, hf⟩ := h
  refine V_icmp_eq 1172 d_La_law_511 h54 h55 (fun h56 => ?_) (fun h56 => ?_)
  · have h := ht h56
    exact h
  · have h := hf h56
    refine V_iconst d_La_law_514 ?_
    exact V_zret d_La_law_515 rfl rfl (Or.inl rfl) h
theorem s_La_law_516 {x : am_Sc} {Po : Option am_AV → am_Sh → am_St → Prop} {σ : am_St} {v3 : Int} (hL : x.1 < 2147483648)
    (h : (0 ≤ v3 + 1 ∧ v3 + 1 < x.1) ∧ (0 ≤ v3 + 2 ∧ v3 + 2 < x.1) ∧ am_U x m_Sp_shake (fun ro21 so21 σ21 => ∃ z21 : Int, ro21 = some (Zi z21) ∧ so21 = am_SH ∧ am_U x m_Mo_shake (fun ro22 so22 σ22 => ∃ z22 : Int, ro22 = some (Zi z22) ∧ so22 = am_SH ∧ am_r z21 ∧ am_r z22 ∧ ((z21 = z22 → am_UL x m_La_law Po σ22 1172 [some (Zr 1000000), some (Zr 0), some (Zr 147), some (Zi v3)] []) ∧ (¬ z21 = z22 → Po (some (Zi 0)) am_SH σ22))) σ21 0 [some (Zr 147), some (Zi ((x.2 (v3 + 1).toNat).toInt)), some (Zi ((x.2 (v3 + 2).toNat).toInt))] []) σ 0 [some (Zr 0), some (Zi ((x.2 (v3 + 1).toNat).toInt)), some (Zi ((x.2 (v3 + 2).toNat).toInt))] []) : am_UL x m_La_law Po σ 516 [some (Zr 1000000), some (Zr 0), some (Zr 147), some (Zi v3)] [] := by
  refine V_aload_n d_La_law_516 rfl ?_
  refine V_aload_n d_La_law_517 rfl ?_
  refine V_iload_n d_La_law_518 rfl ?_
  refine V_iconst d_La_law_519 ?_
  refine V_iadd d_La_law_520 ?_
  obtain ⟨h57, h⟩ := h
  refine UL_sld d_La_law_521 hL h57 ?_
  refine V_aload_n d_La_law_522 rfl ?_
  refine V_iload_n d_La_law_523 rfl ?_
  refine V_iconst d_La_law_524 ?_
  refine V_iadd d_La_law_525 ?_
  obtain ⟨h58, h⟩ := h
  refine UL_sld d_La_law_526 hL h58 ?_
  refine UL_iv2 cv_La_law_57 d_La_law_527 sh_0 rfl rfl (am_mono h ?_)
  rintro ro21 so21 σ21 ⟨z21, rfl, rfl, h⟩
  refine V_aload_n d_La_law_530 rfl ?_
  refine V_aload_n d_La_law_531 rfl ?_
  refine V_iload_n d_La_law_532 rfl ?_
  refine V_iconst d_La_law_533 ?_
  refine V_iadd d_La_law_534 ?_
  refine UL_sld d_La_law_535 hL h57 ?_
  refine V_aload_n d_La_law_536 rfl ?_
  refine V_iload_n d_La_law_537 rfl ?_
  refine V_iconst d_La_law_538 ?_
  refine V_iadd d_La_law_539 ?_
  refine UL_sld d_La_law_540 hL h58 ?_
  refine UL_iv2 cv_La_law_60 d_La_law_541 sh_147 rfl rfl (am_mono h ?_)
  rintro ro22 so22 σ22 ⟨z22, rfl, rfl, h⟩
  obtain ⟨h59, h⟩ := h
  obtain ⟨h60, h⟩ := h
  obtain ⟨ht, hf⟩ := h
  refine V_icmp_eq 1172 d_La_law_544 h59 h60 (fun h61 => ?_) (fun h61 => ?_)
  · have h := ht h61
    exact h
  · have h := hf h61
    refine V_iconst d_La_law_547 ?_
    exact V_zret d_La_law_548 rfl rfl (Or.inl rfl) h
theorem s_La_law_549 {x : am_Sc} {Po : Option am_AV → am_Sh → am_St → Prop} {σ : am_St} {v3 : Int} (hL : x.1 < 2147483648)
    (h : (0 ≤ v3 + 1 ∧ v3 + 1 < x.1) ∧ (0 ≤ v3 + 2 ∧ v3 + 2 < x.1) ∧ (0 ≤ v3 + 3 ∧ v3 + 3 < x.1) ∧ am_U x m_Sp_put (fun ro23 so23 σ23 => ∃ z23 : Int, ro23 = some (Zi z23) ∧ so23 = am_SH ∧ am_U x m_Mo_put (fun ro24 so24 σ24 => ∃ z24 : Int, ro24 = some (Zi z24) ∧ so24 = am_SH ∧ am_r z23 ∧ am_r z24 ∧ ((z23 = z24 → am_UL x m_La_law Po σ24 1172 [some (Zr 1000000), some (Zr 0), some (Zr 147), some (Zi v3)] []) ∧ (¬ z23 = z24 → Po (some (Zi 0)) am_SH σ24))) σ23 0 [some (Zr 147), some (Zi ((x.2 (v3 + 1).toNat).toInt)), some (Zi ((x.2 (v3 + 2).toNat).toInt)), some (Zi ((x.2 (v3 + 3).toNat).toInt))] []) σ 0 [some (Zr 0), some (Zi ((x.2 (v3 + 1).toNat).toInt)), some (Zi ((x.2 (v3 + 2).toNat).toInt)), some (Zi ((x.2 (v3 + 3).toNat).toInt))] []) : am_UL x m_La_law Po σ 549 [some (Zr 1000000), some (Zr 0), some (Zr 147), some (Zi v3)] [] := by
  refine V_aload_n d_La_law_549 rfl ?_
  refine V_aload_n d_La_law_550 rfl ?_
  refine V_iload_n d_La_law_551 rfl ?_
  refine V_iconst d_La_law_552 ?_
  refine V_iadd d_La_law_553 ?_
  obtain ⟨h62, h⟩ := h
  refine UL_sld d_La_law_554 hL h62 ?_
  refine V_aload_n d_La_law_555 rfl ?_
  refine V_iload_n d_La_law_556 rfl ?_
  refine V_iconst d_La_law_557 ?_
  refine V_iadd d_La_law_558 ?_
  obtain ⟨h63, h⟩ := h
  refine UL_sld d_La_law_559 hL h63 ?_
  refine V_aload_n d_La_law_560 rfl ?_
  refine V_iload_n d_La_law_561 rfl ?_
  refine V_iconst d_La_law_562 ?_
  refine V_iadd d_La_law_563 ?_
  obtain ⟨h64, h⟩ := h
  refine UL_sld d_La_law_564 hL h64 ?_
  refine UL_iv3 cv_La_law_61 d_La_law_565 sh_0 rfl rfl (am_mono h ?_)
  rintro ro23 so23 σ23 ⟨z23, rfl, rfl, h⟩
  refine V_aload_n d_La_law_568 rfl ?_
  refine V_aload_n d_La_law_569 rfl ?_
  refine V_iload_n d_La_law_570 rfl ?_
  refine V_iconst d_La_law_571 ?_
  refine V_iadd d_La_law_572 ?_
  refine UL_sld d_La_law_573 hL h62 ?_
  refine V_aload_n d_La_law_574 rfl ?_
  refine V_iload_n d_La_law_575 rfl ?_
  refine V_iconst d_La_law_576 ?_
  refine V_iadd d_La_law_577 ?_
  refine UL_sld d_La_law_578 hL h63 ?_
  refine V_aload_n d_La_law_579 rfl ?_
  refine V_iload_n d_La_law_580 rfl ?_
  refine V_iconst d_La_law_581 ?_
  refine V_iadd d_La_law_582 ?_
  refine UL_sld d_La_law_583 hL h64 ?_
  refine UL_iv3 cv_La_law_64 d_La_law_584 sh_147 rfl rfl (am_mono h ?_)
  rintro ro24 so24 σ24 ⟨z24, rfl, rfl, h⟩
  obtain ⟨h65, h⟩ := h
  obtain ⟨h66, h⟩ := h
  obtain ⟨ht, hf⟩ := h
  refine V_icmp_eq 1172 d_La_law_587 h65 h66 (fun h67 => ?_) (fun h67 => ?_)
  · have h := ht h67
    exact h
  · have h := hf h67
    refine V_iconst d_La_law_590 ?_
    exact V_zret d_La_law_591 rfl rfl (Or.inl rfl) h
theorem s_La_law_592 {x : am_Sc} {Po : Option am_AV → am_Sh → am_St → Prop} {σ : am_St} {v3 : Int} (hL : x.1 < 2147483648)
    (h : (0 ≤ v3 + 1 ∧ v3 + 1 < x.1) ∧ (0 ≤ v3 + 2 ∧ v3 + 2 < x.1) ∧ (0 ≤ v3 + 3 ∧ v3 + 3 < x.1) ∧ (0 ≤ v3 + 4 ∧ v3 + 4 < x.1) ∧ (0 ≤ v3 + 5 ∧ v3 + 5 < x.1) ∧ am_U x m_Sp_pick (fun ro25 so25 σ25 => ∃ z25 : Int, ro25 = some (Zi z25) ∧ so25 = am_SH ∧ am_U x m_Mo_pick (fun ro26 so26 σ26 => ∃ z26 : Int, ro26 = some (Zi z26) ∧ so26 = am_SH ∧ am_r z25 ∧ am_r z26 ∧ ((z25 = z26 → am_UL x m_La_law Po σ26 1172 [some (Zr 1000000), some (Zr 0), some (Zr 147), some (Zi v3)] []) ∧ (¬ z25 = z26 → Po (some (Zi 0)) am_SH σ26))) σ25 0 [some (Zr 147), some (Zi ((x.2 (v3 + 1).toNat).toInt)), some (Zi ((x.2 (v3 + 2).toNat).toInt)), some (Zi ((x.2 (v3 + 3).toNat).toInt)), some (Zi ((x.2 (v3 + 4).toNat).toInt)), some (Zi ((x.2 (v3 + 5).toNat).toInt))] []) σ 0 [some (Zr 0), some (Zi ((x.2 (v3 + 1).toNat).toInt)), some (Zi ((x.2 (v3 + 2).toNat).toInt)), some (Zi ((x.2 (v3 + 3).toNat).toInt)), some (Zi ((x.2 (v3 + 4).toNat).toInt)), some (Zi ((x.2 (v3 + 5).toNat).toInt)), none] []) : am_UL x m_La_law Po σ 592 [some (Zr 1000000), some (Zr 0), some (Zr 147), some (Zi v3)] [] := by
  refine V_aload_n d_La_law_592 rfl ?_
  refine V_aload_n d_La_law_593 rfl ?_
  refine V_iload_n d_La_law_594 rfl ?_
  refine V_iconst d_La_law_595 ?_
  refine V_iadd d_La_law_596 ?_
  obtain ⟨h68, h⟩ := h
  refine UL_sld d_La_law_597 hL h68 ?_
  refine V_aload_n d_La_law_598 rfl ?_
  refine V_iload_n d_La_law_599 rfl ?_
  refine V_iconst d_La_law_600 ?_
  refine V_iadd d_La_law_601 ?_
  obtain ⟨h69, h⟩ := h
  refine UL_sld d_La_law_602 hL h69 ?_
  refine V_aload_n d_La_law_603 rfl ?_
  refine V_iload_n d_La_law_604 rfl ?_
  refine V_iconst d_La_law_605 ?_
  refine V_iadd d_La_law_606 ?_
  obtain ⟨h70, h⟩ := h
  refine UL_sld d_La_law_607 hL h70 ?_
  refine V_aload_n d_La_law_608 rfl ?_
  refine V_iload_n d_La_law_609 rfl ?_
  refine V_iconst d_La_law_610 ?_
  refine V_iadd d_La_law_611 ?_
  obtain ⟨h71, h⟩ := h
  refine UL_sld d_La_law_612 hL h71 ?_
  refine V_aload_n d_La_law_613 rfl ?_
  refine V_iload_n d_La_law_614 rfl ?_
  refine V_iconst d_La_law_615 ?_
  refine V_iadd d_La_law_616 ?_
  obtain ⟨h72, h⟩ := h
  refine UL_sld d_La_law_617 hL h72 ?_
  refine UL_iv5 cv_La_law_65 d_La_law_618 sh_0 rfl rfl (am_mono h ?_)
  rintro ro25 so25 σ25 ⟨z25, rfl, rfl, h⟩
  refine V_aload_n d_La_law_621 rfl ?_
  refine V_aload_n d_La_law_622 rfl ?_
  refine V_iload_n d_La_law_623 rfl ?_
  refine V_iconst d_La_law_624 ?_
  refine V_iadd d_La_law_625 ?_
  refine UL_sld d_La_law_626 hL h68 ?_
  refine V_aload_n d_La_law_627 rfl ?_
  refine V_iload_n d_La_law_628 rfl ?_
  refine V_iconst d_La_law_629 ?_
  refine V_iadd d_La_law_630 ?_
  refine UL_sld d_La_law_631 hL h69 ?_
  refine V_aload_n d_La_law_632 rfl ?_
  refine V_iload_n d_La_law_633 rfl ?_
  refine V_iconst d_La_law_634 ?_
  refine V_iadd d_La_law_635 ?_
  refine UL_sld d_La_law_636 hL h70 ?_
  refine V_aload_n d_La_law_637 rfl ?_
  refine V_iload_n d_La_law_638 rfl ?_
  refine V_iconst d_La_law_639 ?_
  refine V_iadd d_La_law_640 ?_
  refine UL_sld d_La_law_641 hL h71 ?_
  refine V_aload_n d_La_law_642 rfl ?_
  refine V_iload_n d_La_law_643 rfl ?_
  refine V_iconst d_La_law_644 ?_
  refine V_iadd d_La_law_645 ?_
  refine UL_sld d_La_law_646 hL h72 ?_
  refine UL_iv5 cv_La_law_69 d_La_law_647 sh_147 rfl rfl (am_mono h ?_)
  rintro ro26 so26 σ26 ⟨z26, rfl, rfl, h⟩
  obtain ⟨h73, h⟩ := h
  obtain ⟨h74, h⟩ := h
  obtain ⟨ht, hf⟩ := h
  refine V_icmp_eq 1172 d_La_law_650 h73 h74 (fun h75 => ?_) (fun h75 => ?_)
  · have h := ht h75
    exact h
  · have h := hf h75
    refine V_iconst d_La_law_653 ?_
    exact V_zret d_La_law_654 rfl rfl (Or.inl rfl) h
theorem s_La_law_655 {x : am_Sc} {Po : Option am_AV → am_Sh → am_St → Prop} {σ : am_St} {v3 : Int} (hL : x.1 < 2147483648)
    (h : (0 ≤ v3 + 1 ∧ v3 + 1 < x.1) ∧ (0 ≤ v3 + 2 ∧ v3 + 2 < x.1) ∧ (0 ≤ v3 + 3 ∧ v3 + 3 < x.1) ∧ am_U x m_Sp_tell (fun ro27 so27 σ27 => ∃ z27 : Int, ro27 = some (Zi z27) ∧ so27 = am_SH ∧ am_U x m_Mo_tell (fun ro28 so28 σ28 => ∃ z28 : Int, ro28 = some (Zi z28) ∧ so28 = am_SH ∧ am_r z27 ∧ am_r z28 ∧ ((z27 = z28 → am_UL x m_La_law Po σ28 1172 [some (Zr 1000000), some (Zr 0), some (Zr 147), some (Zi v3)] []) ∧ (¬ z27 = z28 → Po (some (Zi 0)) am_SH σ28))) σ27 0 [some (Zr 147), some (Zi ((x.2 (v3 + 1).toNat).toInt)), some (Zi ((x.2 (v3 + 2).toNat).toInt)), some (Zi ((x.2 (v3 + 3).toNat).toInt))] []) σ 0 [some (Zr 0), some (Zi ((x.2 (v3 + 1).toNat).toInt)), some (Zi ((x.2 (v3 + 2).toNat).toInt)), some (Zi ((x.2 (v3 + 3).toNat).toInt))] []) : am_UL x m_La_law Po σ 655 [some (Zr 1000000), some (Zr 0), some (Zr 147), some (Zi v3)] [] := by
  refine V_aload_n d_La_law_655 rfl ?_
  refine V_aload_n d_La_law_656 rfl ?_
  refine V_iload_n d_La_law_657 rfl ?_
  refine V_iconst d_La_law_658 ?_
  refine V_iadd d_La_law_659 ?_
  obtain ⟨h76, h⟩ := h
  refine UL_sld d_La_law_660 hL h76 ?_
  refine V_aload_n d_La_law_661 rfl ?_
  refine V_iload_n d_La_law_662 rfl ?_
  refine V_iconst d_La_law_663 ?_
  refine V_iadd d_La_law_664 ?_
  obtain ⟨h77, h⟩ := h
  refine UL_sld d_La_law_665 hL h77 ?_
  refine V_aload_n d_La_law_666 rfl ?_
  refine V_iload_n d_La_law_667 rfl ?_
  refine V_iconst d_La_law_668 ?_
  refine V_iadd d_La_law_669 ?_
  obtain ⟨h78, h⟩ := h
  refine UL_sld d_La_law_670 hL h78 ?_
  refine UL_iv3 cv_La_law_70 d_La_law_671 sh_0 rfl rfl (am_mono h ?_)
  rintro ro27 so27 σ27 ⟨z27, rfl, rfl, h⟩
  refine V_aload_n d_La_law_674 rfl ?_
  refine V_aload_n d_La_law_675 rfl ?_
  refine V_iload_n d_La_law_676 rfl ?_
  refine V_iconst d_La_law_677 ?_
  refine V_iadd d_La_law_678 ?_
  refine UL_sld d_La_law_679 hL h76 ?_
  refine V_aload_n d_La_law_680 rfl ?_
  refine V_iload_n d_La_law_681 rfl ?_
  refine V_iconst d_La_law_682 ?_
  refine V_iadd d_La_law_683 ?_
  refine UL_sld d_La_law_684 hL h77 ?_
  refine V_aload_n d_La_law_685 rfl ?_
  refine V_iload_n d_La_law_686 rfl ?_
  refine V_iconst d_La_law_687 ?_
  refine V_iadd d_La_law_688 ?_
  refine UL_sld d_La_law_689 hL h78 ?_
  refine UL_iv3 cv_La_law_73 d_La_law_690 sh_147 rfl rfl (am_mono h ?_)
  rintro ro28 so28 σ28 ⟨z28, rfl, rfl, h⟩
  obtain ⟨h79, h⟩ := h
  obtain ⟨h80, h⟩ := h
  obtain ⟨ht, hf⟩ := h
  refine V_icmp_eq 1172 d_La_law_693 h79 h80 (fun h81 => ?_) (fun h81 => ?_)
  · have h := ht h81
    exact h
  · have h := hf h81
    refine V_iconst d_La_law_696 ?_
    exact V_zret d_La_law_697 rfl rfl (Or.inl rfl) h
theorem s_La_law_698 {x : am_Sc} {Po : Option am_AV → am_Sh → am_St → Prop} {σ : am_St} {v3 : Int} (hL : x.1 < 2147483648)
    (h : (0 ≤ v3 + 1 ∧ v3 + 1 < x.1) ∧ am_U x m_Sp_days (fun ro29 so29 σ29 => ∃ z29 : Int, ro29 = some (Zi z29) ∧ so29 = am_SH ∧ am_U x m_Mo_days (fun ro30 so30 σ30 => ∃ z30 : Int, ro30 = some (Zi z30) ∧ so30 = am_SH ∧ am_r z29 ∧ am_r z30 ∧ ((z29 = z30 → am_UL x m_La_law Po σ30 1172 [some (Zr 1000000), some (Zr 0), some (Zr 147), some (Zi v3)] []) ∧ (¬ z29 = z30 → Po (some (Zi 0)) am_SH σ30))) σ29 0 [some (Zr 147), some (Zi ((x.2 (v3 + 1).toNat).toInt))] []) σ 0 [some (Zr 0), some (Zi ((x.2 (v3 + 1).toNat).toInt))] []) : am_UL x m_La_law Po σ 698 [some (Zr 1000000), some (Zr 0), some (Zr 147), some (Zi v3)] [] := by
  refine V_aload_n d_La_law_698 rfl ?_
  refine V_aload_n d_La_law_699 rfl ?_
  refine V_iload_n d_La_law_700 rfl ?_
  refine V_iconst d_La_law_701 ?_
  refine V_iadd d_La_law_702 ?_
  obtain ⟨h82, h⟩ := h
  refine UL_sld d_La_law_703 hL h82 ?_
  refine UL_iv1 cv_La_law_74 d_La_law_704 sh_0 rfl rfl (am_mono h ?_)
  rintro ro29 so29 σ29 ⟨z29, rfl, rfl, h⟩
  refine V_aload_n d_La_law_707 rfl ?_
  refine V_aload_n d_La_law_708 rfl ?_
  refine V_iload_n d_La_law_709 rfl ?_
  refine V_iconst d_La_law_710 ?_
  refine V_iadd d_La_law_711 ?_
  refine UL_sld d_La_law_712 hL h82 ?_
  refine UL_iv1 cv_La_law_77 d_La_law_713 sh_147 rfl rfl (am_mono h ?_)
  rintro ro30 so30 σ30 ⟨z30, rfl, rfl, h⟩
  obtain ⟨h83, h⟩ := h
  obtain ⟨h84, h⟩ := h
  obtain ⟨ht, hf⟩ := h
  refine V_icmp_eq 1172 d_La_law_716 h83 h84 (fun h85 => ?_) (fun h85 => ?_)
  · have h := ht h85
    exact h
  · have h := hf h85
    refine V_iconst d_La_law_719 ?_
    exact V_zret d_La_law_720 rfl rfl (Or.inl rfl) h
theorem s_La_law_721 {x : am_Sc} {Po : Option am_AV → am_Sh → am_St → Prop} {σ : am_St} {v3 : Int} (hL : x.1 < 2147483648)
    (h : (0 ≤ v3 + 1 ∧ v3 + 1 < x.1) ∧ (0 ≤ v3 + 2 ∧ v3 + 2 < x.1) ∧ am_U x m_Sp_of (fun ro31 so31 σ31 => ∃ z31 : Int, ro31 = some (Zi z31) ∧ so31 = am_SH ∧ am_U x m_Mo_of (fun ro32 so32 σ32 => ∃ z32 : Int, ro32 = some (Zi z32) ∧ so32 = am_SH ∧ am_r z31 ∧ am_r z32 ∧ ((z31 = z32 → am_UL x m_La_law Po σ32 1172 [some (Zr 1000000), some (Zr 0), some (Zr 147), some (Zi v3)] []) ∧ (¬ z31 = z32 → Po (some (Zi 0)) am_SH σ32))) σ31 0 [some (Zr 147), some (Zi ((x.2 (v3 + 1).toNat).toInt)), some (Zi ((x.2 (v3 + 2).toNat).toInt)), none, none] []) σ 0 [some (Zr 0), some (Zi ((x.2 (v3 + 1).toNat).toInt)), some (Zi ((x.2 (v3 + 2).toNat).toInt))] []) : am_UL x m_La_law Po σ 721 [some (Zr 1000000), some (Zr 0), some (Zr 147), some (Zi v3)] [] := by
  refine V_aload_n d_La_law_721 rfl ?_
  refine V_aload_n d_La_law_722 rfl ?_
  refine V_iload_n d_La_law_723 rfl ?_
  refine V_iconst d_La_law_724 ?_
  refine V_iadd d_La_law_725 ?_
  obtain ⟨h86, h⟩ := h
  refine UL_sld d_La_law_726 hL h86 ?_
  refine V_aload_n d_La_law_727 rfl ?_
  refine V_iload_n d_La_law_728 rfl ?_
  refine V_iconst d_La_law_729 ?_
  refine V_iadd d_La_law_730 ?_
  obtain ⟨h87, h⟩ := h
  refine UL_sld d_La_law_731 hL h87 ?_
  refine UL_iv2 cv_La_law_78 d_La_law_732 sh_0 rfl rfl (am_mono h ?_)
  rintro ro31 so31 σ31 ⟨z31, rfl, rfl, h⟩
  refine V_aload_n d_La_law_735 rfl ?_
  refine V_aload_n d_La_law_736 rfl ?_
  refine V_iload_n d_La_law_737 rfl ?_
  refine V_iconst d_La_law_738 ?_
  refine V_iadd d_La_law_739 ?_
  refine UL_sld d_La_law_740 hL h86 ?_
  refine V_aload_n d_La_law_741 rfl ?_
  refine V_iload_n d_La_law_742 rfl ?_
  refine V_iconst d_La_law_743 ?_
  refine V_iadd d_La_law_744 ?_
  refine UL_sld d_La_law_745 hL h87 ?_
  refine UL_iv2 cv_La_law_81 d_La_law_746 sh_147 rfl rfl (am_mono h ?_)
  rintro ro32 so32 σ32 ⟨z32, rfl, rfl, h⟩
  obtain ⟨h88, h⟩ := h
  obtain ⟨h89, h⟩ := h
  obtain ⟨ht, hf⟩ := h
  refine V_icmp_eq 1172 d_La_law_749 h88 h89 (fun h90 => ?_) (fun h90 => ?_)
  · have h := ht h90
    exact h
  · have h := hf h90
    refine V_iconst d_La_law_752 ?_
    exact V_zret d_La_law_753 rfl rfl (Or.inl rfl) h
theorem s_La_law_754 {x : am_Sc} {Po : Option am_AV → am_Sh → am_St → Prop} {σ : am_St} {v3 : Int} (hL : x.1 < 2147483648)
    (h : (0 ≤ v3 + 1 ∧ v3 + 1 < x.1) ∧ (0 ≤ v3 + 2 ∧ v3 + 2 < x.1) ∧ am_U x m_Sp_misfit (fun ro33 so33 σ33 => ∃ z33 : Int, ro33 = some (Zi z33) ∧ so33 = am_SH ∧ am_U x m_Mo_misfit (fun ro34 so34 σ34 => ∃ z34 : Int, ro34 = some (Zi z34) ∧ so34 = am_SH ∧ am_r z33 ∧ am_r z34 ∧ ((z33 = z34 → am_UL x m_La_law Po σ34 1172 [some (Zr 1000000), some (Zr 0), some (Zr 147), some (Zi v3)] []) ∧ (¬ z33 = z34 → Po (some (Zi 0)) am_SH σ34))) σ33 0 [some (Zr 147), some (Zi ((x.2 (v3 + 1).toNat).toInt)), some (Zi ((x.2 (v3 + 2).toNat).toInt)), none, none, none] []) σ 0 [some (Zr 0), some (Zi ((x.2 (v3 + 1).toNat).toInt)), some (Zi ((x.2 (v3 + 2).toNat).toInt)), none, none, none, none, none] []) : am_UL x m_La_law Po σ 754 [some (Zr 1000000), some (Zr 0), some (Zr 147), some (Zi v3)] [] := by
  refine V_aload_n d_La_law_754 rfl ?_
  refine V_aload_n d_La_law_755 rfl ?_
  refine V_iload_n d_La_law_756 rfl ?_
  refine V_iconst d_La_law_757 ?_
  refine V_iadd d_La_law_758 ?_
  obtain ⟨h91, h⟩ := h
  refine UL_sld d_La_law_759 hL h91 ?_
  refine V_aload_n d_La_law_760 rfl ?_
  refine V_iload_n d_La_law_761 rfl ?_
  refine V_iconst d_La_law_762 ?_
  refine V_iadd d_La_law_763 ?_
  obtain ⟨h92, h⟩ := h
  refine UL_sld d_La_law_764 hL h92 ?_
  refine UL_iv2 cv_La_law_82 d_La_law_765 sh_0 rfl rfl (am_mono h ?_)
  rintro ro33 so33 σ33 ⟨z33, rfl, rfl, h⟩
  refine V_aload_n d_La_law_768 rfl ?_
  refine V_aload_n d_La_law_769 rfl ?_
  refine V_iload_n d_La_law_770 rfl ?_
  refine V_iconst d_La_law_771 ?_
  refine V_iadd d_La_law_772 ?_
  refine UL_sld d_La_law_773 hL h91 ?_
  refine V_aload_n d_La_law_774 rfl ?_
  refine V_iload_n d_La_law_775 rfl ?_
  refine V_iconst d_La_law_776 ?_
  refine V_iadd d_La_law_777 ?_
  refine UL_sld d_La_law_778 hL h92 ?_
  refine UL_iv2 cv_La_law_85 d_La_law_779 sh_147 rfl rfl (am_mono h ?_)
  rintro ro34 so34 σ34 ⟨z34, rfl, rfl, h⟩
  obtain ⟨h93, h⟩ := h
  obtain ⟨h94, h⟩ := h
  obtain ⟨ht, hf⟩ := h
  refine V_icmp_eq 1172 d_La_law_782 h93 h94 (fun h95 => ?_) (fun h95 => ?_)
  · have h := ht h95
    exact h
  · have h := hf h95
    refine V_iconst d_La_law_785 ?_
    exact V_zret d_La_law_786 rfl rfl (Or.inl rfl) h
theorem s_La_law_787 {x : am_Sc} {Po : Option am_AV → am_Sh → am_St → Prop} {σ : am_St} {v3 : Int} (hL : x.1 < 2147483648)
    (h : (0 ≤ v3 + 1 ∧ v3 + 1 < x.1) ∧ am_U x m_Sp_fit (fun ro35 so35 σ35 => ∃ z35 : Int, ro35 = some (Zi z35) ∧ so35 = am_SH ∧ am_U x m_Mo_fit (fun ro36 so36 σ36 => ∃ z36 : Int, ro36 = some (Zi z36) ∧ so36 = am_SH ∧ am_r z35 ∧ am_r z36 ∧ ((z35 = z36 → am_UL x m_La_law Po σ36 1172 [some (Zr 1000000), some (Zr 0), some (Zr 147), some (Zi v3)] []) ∧ (¬ z35 = z36 → Po (some (Zi 0)) am_SH σ36))) σ35 0 [some (Zr 147), some (Zi ((x.2 (v3 + 1).toNat).toInt))] []) σ 0 [some (Zr 0), some (Zi ((x.2 (v3 + 1).toNat).toInt))] []) : am_UL x m_La_law Po σ 787 [some (Zr 1000000), some (Zr 0), some (Zr 147), some (Zi v3)] [] := by
  refine V_aload_n d_La_law_787 rfl ?_
  refine V_aload_n d_La_law_788 rfl ?_
  refine V_iload_n d_La_law_789 rfl ?_
  refine V_iconst d_La_law_790 ?_
  refine V_iadd d_La_law_791 ?_
  obtain ⟨h96, h⟩ := h
  refine UL_sld d_La_law_792 hL h96 ?_
  refine UL_iv1 cv_La_law_86 d_La_law_793 sh_0 rfl rfl (am_mono h ?_)
  rintro ro35 so35 σ35 ⟨z35, rfl, rfl, h⟩
  refine V_aload_n d_La_law_796 rfl ?_
  refine V_aload_n d_La_law_797 rfl ?_
  refine V_iload_n d_La_law_798 rfl ?_
  refine V_iconst d_La_law_799 ?_
  refine V_iadd d_La_law_800 ?_
  refine UL_sld d_La_law_801 hL h96 ?_
  refine UL_iv1 cv_La_law_89 d_La_law_802 sh_147 rfl rfl (am_mono h ?_)
  rintro ro36 so36 σ36 ⟨z36, rfl, rfl, h⟩
  obtain ⟨h97, h⟩ := h
  obtain ⟨h98, h⟩ := h
  obtain ⟨ht, hf⟩ := h
  refine V_icmp_eq 1172 d_La_law_805 h97 h98 (fun h99 => ?_) (fun h99 => ?_)
  · have h := ht h99
    exact h
  · have h := hf h99
    refine V_iconst d_La_law_808 ?_
    exact V_zret d_La_law_809 rfl rfl (Or.inl rfl) h
theorem s_La_law_810 {x : am_Sc} {Po : Option am_AV → am_Sh → am_St → Prop} {σ : am_St} {v3 : Int} (hL : x.1 < 2147483648)
    (h : (0 ≤ v3 + 1 ∧ v3 + 1 < x.1) ∧ (0 ≤ v3 + 2 ∧ v3 + 2 < x.1) ∧ am_U x m_Sp_span (fun ro37 so37 σ37 => ∃ z37 : Int, ro37 = some (Zi z37) ∧ so37 = am_SH ∧ am_U x m_Mo_span (fun ro38 so38 σ38 => ∃ z38 : Int, ro38 = some (Zi z38) ∧ so38 = am_SH ∧ am_r z37 ∧ am_r z38 ∧ ((z37 = z38 → am_UL x m_La_law Po σ38 1172 [some (Zr 1000000), some (Zr 0), some (Zr 147), some (Zi v3)] []) ∧ (¬ z37 = z38 → Po (some (Zi 0)) am_SH σ38))) σ37 0 [some (Zr 147), some (Zi ((x.2 (v3 + 1).toNat).toInt)), some (Zi ((x.2 (v3 + 2).toNat).toInt))] []) σ 0 [some (Zr 0), some (Zi ((x.2 (v3 + 1).toNat).toInt)), some (Zi ((x.2 (v3 + 2).toNat).toInt))] []) : am_UL x m_La_law Po σ 810 [some (Zr 1000000), some (Zr 0), some (Zr 147), some (Zi v3)] [] := by
  refine V_aload_n d_La_law_810 rfl ?_
  refine V_aload_n d_La_law_811 rfl ?_
  refine V_iload_n d_La_law_812 rfl ?_
  refine V_iconst d_La_law_813 ?_
  refine V_iadd d_La_law_814 ?_
  obtain ⟨h100, h⟩ := h
  refine UL_sld d_La_law_815 hL h100 ?_
  refine V_aload_n d_La_law_816 rfl ?_
  refine V_iload_n d_La_law_817 rfl ?_
  refine V_iconst d_La_law_818 ?_
  refine V_iadd d_La_law_819 ?_
  obtain ⟨h101, h⟩ := h
  refine UL_sld d_La_law_820 hL h101 ?_
  refine UL_iv2 cv_La_law_90 d_La_law_821 sh_0 rfl rfl (am_mono h ?_)
  rintro ro37 so37 σ37 ⟨z37, rfl, rfl, h⟩
  refine V_aload_n d_La_law_824 rfl ?_
  refine V_aload_n d_La_law_825 rfl ?_
  refine V_iload_n d_La_law_826 rfl ?_
  refine V_iconst d_La_law_827 ?_
  refine V_iadd d_La_law_828 ?_
  refine UL_sld d_La_law_829 hL h100 ?_
  refine V_aload_n d_La_law_830 rfl ?_
  refine V_iload_n d_La_law_831 rfl ?_
  refine V_iconst d_La_law_832 ?_
  refine V_iadd d_La_law_833 ?_
  refine UL_sld d_La_law_834 hL h101 ?_
  refine UL_iv2 cv_La_law_93 d_La_law_835 sh_147 rfl rfl (am_mono h ?_)
  rintro ro38 so38 σ38 ⟨z38, rfl, rfl, h⟩
  obtain ⟨h102, h⟩ := h
  obtain ⟨h103, h⟩ := h
  obtain ⟨ht, hf⟩ := h
  refine V_icmp_eq 1172 d_La_law_838 h102 h103 (fun h104 => ?_) (fun h104 => ?_)
  · have h := ht h104
    exact h
  · have h := hf h104
    refine V_iconst d_La_law_841 ?_
    exact V_zret d_La_law_842 rfl rfl (Or.inl rfl) h
theorem s_La_law_843 {x : am_Sc} {Po : Option am_AV → am_Sh → am_St → Prop} {σ : am_St} {v3 : Int} (hL : x.1 < 2147483648)
    (h : am_U x m_Sp_quarrel (fun ro39 so39 σ39 => ∃ z39 : Int, ro39 = some (Zi z39) ∧ so39 = am_SH ∧ am_U x m_Mo_quarrel (fun ro40 so40 σ40 => ∃ z40 : Int, ro40 = some (Zi z40) ∧ so40 = am_SH ∧ am_r z39 ∧ am_r z40 ∧ ((z39 = z40 → am_UL x m_La_law Po σ40 1172 [some (Zr 1000000), some (Zr 0), some (Zr 147), some (Zi v3)] []) ∧ (¬ z39 = z40 → Po (some (Zi 0)) am_SH σ40))) σ39 0 [some (Zr 147), none, none, none] []) σ 0 [some (Zr 0)] []) : am_UL x m_La_law Po σ 843 [some (Zr 1000000), some (Zr 0), some (Zr 147), some (Zi v3)] [] := by
  refine V_aload_n d_La_law_843 rfl ?_
  refine UL_iv0 cv_La_law_94 d_La_law_844 sh_0 rfl rfl (am_mono h ?_)
  rintro ro39 so39 σ39 ⟨z39, rfl, rfl, h⟩
  refine V_aload_n d_La_law_847 rfl ?_
  refine UL_iv0 cv_La_law_98 d_La_law_848 sh_147 rfl rfl (am_mono h ?_)
  rintro ro40 so40 σ40 ⟨z40, rfl, rfl, h⟩
  obtain ⟨h105, h⟩ := h
  obtain ⟨h106, h⟩ := h
  obtain ⟨ht, hf⟩ := h
  refine V_icmp_eq 1172 d_La_law_851 h105 h106 (fun h107 => ?_) (fun h107 => ?_)
  · have h := ht h107
    exact h
  · have h := hf h107
    refine V_iconst d_La_law_854 ?_
    exact V_zret d_La_law_855 rfl rfl (Or.inl rfl) h
theorem s_La_law_856 {x : am_Sc} {Po : Option am_AV → am_Sh → am_St → Prop} {σ : am_St} {v3 : Int} (hL : x.1 < 2147483648)
    (h : am_U x m_Sp_rank (fun ro41 so41 σ41 => ∃ z41 : Int, ro41 = some (Zi z41) ∧ so41 = am_SH ∧ am_U x m_Mo_rank (fun ro42 so42 σ42 => ∃ z42 : Int, ro42 = some (Zi z42) ∧ so42 = am_SH ∧ am_r z41 ∧ am_r z42 ∧ ((z41 = z42 → am_UL x m_La_law Po σ42 1172 [some (Zr 1000000), some (Zr 0), some (Zr 147), some (Zi v3)] []) ∧ (¬ z41 = z42 → Po (some (Zi 0)) am_SH σ42))) σ41 0 [some (Zr 147)] []) σ 0 [some (Zr 0)] []) : am_UL x m_La_law Po σ 856 [some (Zr 1000000), some (Zr 0), some (Zr 147), some (Zi v3)] [] := by
  refine V_aload_n d_La_law_856 rfl ?_
  refine UL_iv0 cv_La_law_99 d_La_law_857 sh_0 rfl rfl (am_mono h ?_)
  rintro ro41 so41 σ41 ⟨z41, rfl, rfl, h⟩
  refine V_aload_n d_La_law_860 rfl ?_
  refine UL_iv0 cv_La_law_102 d_La_law_861 sh_147 rfl rfl (am_mono h ?_)
  rintro ro42 so42 σ42 ⟨z42, rfl, rfl, h⟩
  obtain ⟨h108, h⟩ := h
  obtain ⟨h109, h⟩ := h
  obtain ⟨ht, hf⟩ := h
  refine V_icmp_eq 1172 d_La_law_864 h108 h109 (fun h110 => ?_) (fun h110 => ?_)
  · have h := ht h110
    exact h
  · have h := hf h110
    refine V_iconst d_La_law_867 ?_
    exact V_zret d_La_law_868 rfl rfl (Or.inl rfl) h
theorem s_La_law_869 {x : am_Sc} {Po : Option am_AV → am_Sh → am_St → Prop} {σ : am_St} {v3 : Int} (hL : x.1 < 2147483648)
    (h : (0 ≤ v3 + 1 ∧ v3 + 1 < x.1) ∧ am_U x m_Sp_resolved (fun ro43 so43 σ43 => ∃ z43 : Int, ro43 = some (Zi z43) ∧ so43 = am_SH ∧ am_U x m_Mo_resolved (fun ro44 so44 σ44 => ∃ z44 : Int, ro44 = some (Zi z44) ∧ so44 = am_SH ∧ am_r z43 ∧ am_r z44 ∧ ((z43 = z44 → am_UL x m_La_law Po σ44 1172 [some (Zr 1000000), some (Zr 0), some (Zr 147), some (Zi v3)] []) ∧ (¬ z43 = z44 → Po (some (Zi 0)) am_SH σ44))) σ43 0 [some (Zr 147), some (Zi ((x.2 (v3 + 1).toNat).toInt)), none, none] []) σ 0 [some (Zr 0), some (Zi ((x.2 (v3 + 1).toNat).toInt))] []) : am_UL x m_La_law Po σ 869 [some (Zr 1000000), some (Zr 0), some (Zr 147), some (Zi v3)] [] := by
  refine V_aload_n d_La_law_869 rfl ?_
  refine V_aload_n d_La_law_870 rfl ?_
  refine V_iload_n d_La_law_871 rfl ?_
  refine V_iconst d_La_law_872 ?_
  refine V_iadd d_La_law_873 ?_
  obtain ⟨h111, h⟩ := h
  refine UL_sld d_La_law_874 hL h111 ?_
  refine UL_iv1 cv_La_law_103 d_La_law_875 sh_0 rfl rfl (am_mono h ?_)
  rintro ro43 so43 σ43 ⟨z43, rfl, rfl, h⟩
  refine V_aload_n d_La_law_878 rfl ?_
  refine V_aload_n d_La_law_879 rfl ?_
  refine V_iload_n d_La_law_880 rfl ?_
  refine V_iconst d_La_law_881 ?_
  refine V_iadd d_La_law_882 ?_
  refine UL_sld d_La_law_883 hL h111 ?_
  refine UL_iv1 cv_La_law_106 d_La_law_884 sh_147 rfl rfl (am_mono h ?_)
  rintro ro44 so44 σ44 ⟨z44, rfl, rfl, h⟩
  obtain ⟨h112, h⟩ := h
  obtain ⟨h113, h⟩ := h
  obtain ⟨ht, hf⟩ := h
  refine V_icmp_eq 1172 d_La_law_887 h112 h113 (fun h114 => ?_) (fun h114 => ?_)
  · have h := ht h114
    exact h
  · have h := hf h114
    refine V_iconst d_La_law_890 ?_
    exact V_zret d_La_law_891 rfl rfl (Or.inl rfl) h
theorem s_La_law_892 {x : am_Sc} {Po : Option am_AV → am_Sh → am_St → Prop} {σ : am_St} {v3 : Int} (hL : x.1 < 2147483648)
    (h : (0 ≤ v3 + 1 ∧ v3 + 1 < x.1) ∧ am_U x m_Sp_best (fun ro45 so45 σ45 => ∃ z45 : Int, ro45 = some (Zi z45) ∧ so45 = am_SH ∧ am_U x m_Mo_best (fun ro46 so46 σ46 => ∃ z46 : Int, ro46 = some (Zi z46) ∧ so46 = am_SH ∧ am_r z45 ∧ am_r z46 ∧ ((z45 = z46 → am_UL x m_La_law Po σ46 1172 [some (Zr 1000000), some (Zr 0), some (Zr 147), some (Zi v3)] []) ∧ (¬ z45 = z46 → Po (some (Zi 0)) am_SH σ46))) σ45 0 [some (Zr 147), some (Zi ((x.2 (v3 + 1).toNat).toInt)), none, none, none, none] []) σ 0 [some (Zr 0), some (Zi ((x.2 (v3 + 1).toNat).toInt))] []) : am_UL x m_La_law Po σ 892 [some (Zr 1000000), some (Zr 0), some (Zr 147), some (Zi v3)] [] := by
  refine V_aload_n d_La_law_892 rfl ?_
  refine V_aload_n d_La_law_893 rfl ?_
  refine V_iload_n d_La_law_894 rfl ?_
  refine V_iconst d_La_law_895 ?_
  refine V_iadd d_La_law_896 ?_
  obtain ⟨h115, h⟩ := h
  refine UL_sld d_La_law_897 hL h115 ?_
  refine UL_iv1 cv_La_law_107 d_La_law_898 sh_0 rfl rfl (am_mono h ?_)
  rintro ro45 so45 σ45 ⟨z45, rfl, rfl, h⟩
  refine V_aload_n d_La_law_901 rfl ?_
  refine V_aload_n d_La_law_902 rfl ?_
  refine V_iload_n d_La_law_903 rfl ?_
  refine V_iconst d_La_law_904 ?_
  refine V_iadd d_La_law_905 ?_
  refine UL_sld d_La_law_906 hL h115 ?_
  refine UL_iv1 cv_La_law_110 d_La_law_907 sh_147 rfl rfl (am_mono h ?_)
  rintro ro46 so46 σ46 ⟨z46, rfl, rfl, h⟩
  obtain ⟨h116, h⟩ := h
  obtain ⟨h117, h⟩ := h
  obtain ⟨ht, hf⟩ := h
  refine V_icmp_eq 1172 d_La_law_910 h116 h117 (fun h118 => ?_) (fun h118 => ?_)
  · have h := ht h118
    exact h
  · have h := hf h118
    refine V_iconst d_La_law_913 ?_
    exact V_zret d_La_law_914 rfl rfl (Or.inl rfl) h
theorem s_La_law_915 {x : am_Sc} {Po : Option am_AV → am_Sh → am_St → Prop} {σ : am_St} {v3 : Int} (hL : x.1 < 2147483648)
    (h : (0 ≤ v3 + 1 ∧ v3 + 1 < x.1) ∧ (0 ≤ v3 + 2 ∧ v3 + 2 < x.1) ∧ (0 ≤ v3 + 3 ∧ v3 + 3 < x.1) ∧ am_U x m_Sp_heap (fun ro47 so47 σ47 => ∃ z47 : Int, ro47 = some (Zi z47) ∧ so47 = am_SH ∧ am_U x m_Mo_heap (fun ro48 so48 σ48 => ∃ z48 : Int, ro48 = some (Zi z48) ∧ so48 = am_SH ∧ am_r z47 ∧ am_r z48 ∧ ((z47 = z48 → am_UL x m_La_law Po σ48 1172 [some (Zr 1000000), some (Zr 0), some (Zr 147), some (Zi v3)] []) ∧ (¬ z47 = z48 → Po (some (Zi 0)) am_SH σ48))) σ47 0 [some (Zr 147), some (Zi ((x.2 (v3 + 1).toNat).toInt)), some (Zi ((x.2 (v3 + 2).toNat).toInt)), some (Zi ((x.2 (v3 + 3).toNat).toInt))] []) σ 0 [some (Zr 0), some (Zi ((x.2 (v3 + 1).toNat).toInt)), some (Zi ((x.2 (v3 + 2).toNat).toInt)), some (Zi ((x.2 (v3 + 3).toNat).toInt))] []) : am_UL x m_La_law Po σ 915 [some (Zr 1000000), some (Zr 0), some (Zr 147), some (Zi v3)] [] := by
  refine V_aload_n d_La_law_915 rfl ?_
  refine V_aload_n d_La_law_916 rfl ?_
  refine V_iload_n d_La_law_917 rfl ?_
  refine V_iconst d_La_law_918 ?_
  refine V_iadd d_La_law_919 ?_
  obtain ⟨h119, h⟩ := h
  refine UL_sld d_La_law_920 hL h119 ?_
  refine V_aload_n d_La_law_921 rfl ?_
  refine V_iload_n d_La_law_922 rfl ?_
  refine V_iconst d_La_law_923 ?_
  refine V_iadd d_La_law_924 ?_
  obtain ⟨h120, h⟩ := h
  refine UL_sld d_La_law_925 hL h120 ?_
  refine V_aload_n d_La_law_926 rfl ?_
  refine V_iload_n d_La_law_927 rfl ?_
  refine V_iconst d_La_law_928 ?_
  refine V_iadd d_La_law_929 ?_
  obtain ⟨h121, h⟩ := h
  refine UL_sld d_La_law_930 hL h121 ?_
  refine UL_iv3 cv_La_law_111 d_La_law_931 sh_0 rfl rfl (am_mono h ?_)
  rintro ro47 so47 σ47 ⟨z47, rfl, rfl, h⟩
  refine V_aload_n d_La_law_934 rfl ?_
  refine V_aload_n d_La_law_935 rfl ?_
  refine V_iload_n d_La_law_936 rfl ?_
  refine V_iconst d_La_law_937 ?_
  refine V_iadd d_La_law_938 ?_
  refine UL_sld d_La_law_939 hL h119 ?_
  refine V_aload_n d_La_law_940 rfl ?_
  refine V_iload_n d_La_law_941 rfl ?_
  refine V_iconst d_La_law_942 ?_
  refine V_iadd d_La_law_943 ?_
  refine UL_sld d_La_law_944 hL h120 ?_
  refine V_aload_n d_La_law_945 rfl ?_
  refine V_iload_n d_La_law_946 rfl ?_
  refine V_iconst d_La_law_947 ?_
  refine V_iadd d_La_law_948 ?_
  refine UL_sld d_La_law_949 hL h121 ?_
  refine UL_iv3 cv_La_law_114 d_La_law_950 sh_147 rfl rfl (am_mono h ?_)
  rintro ro48 so48 σ48 ⟨z48, rfl, rfl, h⟩
  obtain ⟨h122, h⟩ := h
  obtain ⟨h123, h⟩ := h
  obtain ⟨ht, hf⟩ := h
  refine V_icmp_eq 1172 d_La_law_953 h122 h123 (fun h124 => ?_) (fun h124 => ?_)
  · have h := ht h124
    exact h
  · have h := hf h124
    refine V_iconst d_La_law_956 ?_
    exact V_zret d_La_law_957 rfl rfl (Or.inl rfl) h
theorem s_La_law_958 {x : am_Sc} {Po : Option am_AV → am_Sh → am_St → Prop} {σ : am_St} {v3 : Int} (hL : x.1 < 2147483648)
    (h : (0 ≤ v3 + 1 ∧ v3 + 1 < x.1) ∧ am_U x m_Sp_move (fun ro49 so49 σ49 => ∃ z49 : Int, ro49 = some (Zi z49) ∧ so49 = am_SH ∧ am_U x m_Mo_move (fun ro50 so50 σ50 => ∃ z50 : Int, ro50 = some (Zi z50) ∧ so50 = am_SH ∧ am_r z49 ∧ am_r z50 ∧ ((z49 = z50 → am_UL x m_La_law Po σ50 1172 [some (Zr 1000000), some (Zr 0), some (Zr 147), some (Zi v3)] []) ∧ (¬ z49 = z50 → Po (some (Zi 0)) am_SH σ50))) σ49 0 [some (Zr 147), some (Zi ((x.2 (v3 + 1).toNat).toInt)), none, none, none, none, none] []) σ 0 [some (Zr 0), some (Zi ((x.2 (v3 + 1).toNat).toInt))] []) : am_UL x m_La_law Po σ 958 [some (Zr 1000000), some (Zr 0), some (Zr 147), some (Zi v3)] [] := by
  refine V_aload_n d_La_law_958 rfl ?_
  refine V_aload_n d_La_law_959 rfl ?_
  refine V_iload_n d_La_law_960 rfl ?_
  refine V_iconst d_La_law_961 ?_
  refine V_iadd d_La_law_962 ?_
  obtain ⟨h125, h⟩ := h
  refine UL_sld d_La_law_963 hL h125 ?_
  refine UL_iv1 cv_La_law_115 d_La_law_964 sh_0 rfl rfl (am_mono h ?_)
  rintro ro49 so49 σ49 ⟨z49, rfl, rfl, h⟩
  refine V_aload_n d_La_law_967 rfl ?_
  refine V_aload_n d_La_law_968 rfl ?_
  refine V_iload_n d_La_law_969 rfl ?_
  refine V_iconst d_La_law_970 ?_
  refine V_iadd d_La_law_971 ?_
  refine UL_sld d_La_law_972 hL h125 ?_
  refine UL_iv1 cv_La_law_118 d_La_law_973 sh_147 rfl rfl (am_mono h ?_)
  rintro ro50 so50 σ50 ⟨z50, rfl, rfl, h⟩
  obtain ⟨h126, h⟩ := h
  obtain ⟨h127, h⟩ := h
  obtain ⟨ht, hf⟩ := h
  refine V_icmp_eq 1172 d_La_law_976 h126 h127 (fun h128 => ?_) (fun h128 => ?_)
  · have h := ht h128
    exact h
  · have h := hf h128
    refine V_iconst d_La_law_979 ?_
    exact V_zret d_La_law_980 rfl rfl (Or.inl rfl) h
theorem s_La_law_981 {x : am_Sc} {Po : Option am_AV → am_Sh → am_St → Prop} {σ : am_St} {v3 : Int} (hL : x.1 < 2147483648)
    (h : (0 ≤ v3 + 1 ∧ v3 + 1 < x.1) ∧ am_U x m_Sp_off (fun ro51 so51 σ51 => ∃ z51 : Int, ro51 = some (Zi z51) ∧ so51 = am_SH ∧ am_U x m_Mo_off (fun ro52 so52 σ52 => ∃ z52 : Int, ro52 = some (Zi z52) ∧ so52 = am_SH ∧ am_r z51 ∧ am_r z52 ∧ ((z51 = z52 → am_UL x m_La_law Po σ52 1172 [some (Zr 1000000), some (Zr 0), some (Zr 147), some (Zi v3)] []) ∧ (¬ z51 = z52 → Po (some (Zi 0)) am_SH σ52))) σ51 0 [some (Zr 147), some (Zi ((x.2 (v3 + 1).toNat).toInt)), none, none, none, none, none, none] []) σ 0 [some (Zr 0), some (Zi ((x.2 (v3 + 1).toNat).toInt))] []) : am_UL x m_La_law Po σ 981 [some (Zr 1000000), some (Zr 0), some (Zr 147), some (Zi v3)] [] := by
  refine V_aload_n d_La_law_981 rfl ?_
  refine V_aload_n d_La_law_982 rfl ?_
  refine V_iload_n d_La_law_983 rfl ?_
  refine V_iconst d_La_law_984 ?_
  refine V_iadd d_La_law_985 ?_
  obtain ⟨h129, h⟩ := h
  refine UL_sld d_La_law_986 hL h129 ?_
  refine UL_iv1 cv_La_law_119 d_La_law_987 sh_0 rfl rfl (am_mono h ?_)
  rintro ro51 so51 σ51 ⟨z51, rfl, rfl, h⟩
  refine V_aload_n d_La_law_990 rfl ?_
  refine V_aload_n d_La_law_991 rfl ?_
  refine V_iload_n d_La_law_992 rfl ?_
  refine V_iconst d_La_law_993 ?_
  refine V_iadd d_La_law_994 ?_
  refine UL_sld d_La_law_995 hL h129 ?_
  refine UL_iv1 cv_La_law_122 d_La_law_996 sh_147 rfl rfl (am_mono h ?_)
  rintro ro52 so52 σ52 ⟨z52, rfl, rfl, h⟩
  obtain ⟨h130, h⟩ := h
  obtain ⟨h131, h⟩ := h
  obtain ⟨ht, hf⟩ := h
  refine V_icmp_eq 1172 d_La_law_999 h130 h131 (fun h132 => ?_) (fun h132 => ?_)
  · have h := ht h132
    exact h
  · have h := hf h132
    refine V_iconst d_La_law_1002 ?_
    exact V_zret d_La_law_1003 rfl rfl (Or.inl rfl) h
theorem s_La_law_1004 {x : am_Sc} {Po : Option am_AV → am_Sh → am_St → Prop} {σ : am_St} {v3 : Int} (hL : x.1 < 2147483648)
    (h : (0 ≤ v3 + 1 ∧ v3 + 1 < x.1) ∧ (0 ≤ v3 + 2 ∧ v3 + 2 < x.1) ∧ (0 ≤ v3 + 3 ∧ v3 + 3 < x.1) ∧ am_U x m_Sp_board (fun ro53 so53 σ53 => ∃ z53 : Int, ro53 = some (Zi z53) ∧ so53 = am_SH ∧ am_U x m_Mo_board (fun ro54 so54 σ54 => ∃ z54 : Int, ro54 = some (Zi z54) ∧ so54 = am_SH ∧ am_r z53 ∧ am_r z54 ∧ ((z53 = z54 → am_UL x m_La_law Po σ54 1172 [some (Zr 1000000), some (Zr 0), some (Zr 147), some (Zi v3)] []) ∧ (¬ z53 = z54 → Po (some (Zi 0)) am_SH σ54))) σ53 0 [some (Zr 147), some (Zi ((x.2 (v3 + 1).toNat).toInt)), some (Zi ((x.2 (v3 + 2).toNat).toInt)), some (Zi ((x.2 (v3 + 3).toNat).toInt)), none, none] []) σ 0 [some (Zr 0), some (Zi ((x.2 (v3 + 1).toNat).toInt)), some (Zi ((x.2 (v3 + 2).toNat).toInt)), some (Zi ((x.2 (v3 + 3).toNat).toInt)), none] []) : am_UL x m_La_law Po σ 1004 [some (Zr 1000000), some (Zr 0), some (Zr 147), some (Zi v3)] [] := by
  refine V_aload_n d_La_law_1004 rfl ?_
  refine V_aload_n d_La_law_1005 rfl ?_
  refine V_iload_n d_La_law_1006 rfl ?_
  refine V_iconst d_La_law_1007 ?_
  refine V_iadd d_La_law_1008 ?_
  obtain ⟨h133, h⟩ := h
  refine UL_sld d_La_law_1009 hL h133 ?_
  refine V_aload_n d_La_law_1010 rfl ?_
  refine V_iload_n d_La_law_1011 rfl ?_
  refine V_iconst d_La_law_1012 ?_
  refine V_iadd d_La_law_1013 ?_
  obtain ⟨h134, h⟩ := h
  refine UL_sld d_La_law_1014 hL h134 ?_
  refine V_aload_n d_La_law_1015 rfl ?_
  refine V_iload_n d_La_law_1016 rfl ?_
  refine V_iconst d_La_law_1017 ?_
  refine V_iadd d_La_law_1018 ?_
  obtain ⟨h135, h⟩ := h
  refine UL_sld d_La_law_1019 hL h135 ?_
  refine UL_iv3 cv_La_law_123 d_La_law_1020 sh_0 rfl rfl (am_mono h ?_)
  rintro ro53 so53 σ53 ⟨z53, rfl, rfl, h⟩
  refine V_aload_n d_La_law_1023 rfl ?_
  refine V_aload_n d_La_law_1024 rfl ?_
  refine V_iload_n d_La_law_1025 rfl ?_
  refine V_iconst d_La_law_1026 ?_
  refine V_iadd d_La_law_1027 ?_
  refine UL_sld d_La_law_1028 hL h133 ?_
  refine V_aload_n d_La_law_1029 rfl ?_
  refine V_iload_n d_La_law_1030 rfl ?_
  refine V_iconst d_La_law_1031 ?_
  refine V_iadd d_La_law_1032 ?_
  refine UL_sld d_La_law_1033 hL h134 ?_
  refine V_aload_n d_La_law_1034 rfl ?_
  refine V_iload_n d_La_law_1035 rfl ?_
  refine V_iconst d_La_law_1036 ?_
  refine V_iadd d_La_law_1037 ?_
  refine UL_sld d_La_law_1038 hL h135 ?_
  refine UL_iv3 cv_La_law_126 d_La_law_1039 sh_147 rfl rfl (am_mono h ?_)
  rintro ro54 so54 σ54 ⟨z54, rfl, rfl, h⟩
  obtain ⟨h136, h⟩ := h
  obtain ⟨h137, h⟩ := h
  obtain ⟨ht, hf⟩ := h
  refine V_icmp_eq 1172 d_La_law_1042 h136 h137 (fun h138 => ?_) (fun h138 => ?_)
  · have h := ht h138
    exact h
  · have h := hf h138
    refine V_iconst d_La_law_1045 ?_
    exact V_zret d_La_law_1046 rfl rfl (Or.inl rfl) h
theorem s_La_law_1047 {x : am_Sc} {Po : Option am_AV → am_Sh → am_St → Prop} {σ : am_St} {v3 : Int} (hL : x.1 < 2147483648)
    (h : (0 ≤ v3 + 1 ∧ v3 + 1 < x.1) ∧ (0 ≤ v3 + 2 ∧ v3 + 2 < x.1) ∧ (0 ≤ v3 + 3 ∧ v3 + 3 < x.1) ∧ am_U x m_Sp_write (fun ro55 so55 σ55 => ∃ z55 : Int, ro55 = some (Zi z55) ∧ so55 = am_SH ∧ am_U x m_Mo_write (fun ro56 so56 σ56 => ∃ z56 : Int, ro56 = some (Zi z56) ∧ so56 = am_SH ∧ am_r z55 ∧ am_r z56 ∧ ((z55 = z56 → am_UL x m_La_law Po σ56 1172 [some (Zr 1000000), some (Zr 0), some (Zr 147), some (Zi v3)] []) ∧ (¬ z55 = z56 → Po (some (Zi 0)) am_SH σ56))) σ55 0 [some (Zr 147), some (Zl (am_orL (am_shlL (am_i2l ((x.2 (v3 + 1).toNat).toInt)) 32) (am_andL (am_i2l ((x.2 (v3 + 2).toNat).toInt)) 4294967295))), none, some (Zi ((x.2 (v3 + 3).toNat).toInt)), none] []) σ 0 [some (Zr 0), some (Zl (am_orL (am_shlL (am_i2l ((x.2 (v3 + 1).toNat).toInt)) 32) (am_andL (am_i2l ((x.2 (v3 + 2).toNat).toInt)) 4294967295))), none, some (Zi ((x.2 (v3 + 3).toNat).toInt))] []) : am_UL x m_La_law Po σ 1047 [some (Zr 1000000), some (Zr 0), some (Zr 147), some (Zi v3)] [] := by
  refine V_aload_n d_La_law_1047 rfl ?_
  refine V_aload_n d_La_law_1048 rfl ?_
  refine V_iload_n d_La_law_1049 rfl ?_
  refine V_iconst d_La_law_1050 ?_
  refine V_iadd d_La_law_1051 ?_
  obtain ⟨h139, h⟩ := h
  refine UL_sld d_La_law_1052 hL h139 ?_
  refine V_i2l d_La_law_1053 ?_
  refine V_bipush d_La_law_1054 ?_
  refine V_lshl d_La_law_1056 ?_
  refine V_aload_n d_La_law_1057 rfl ?_
  refine V_iload_n d_La_law_1058 rfl ?_
  refine V_iconst d_La_law_1059 ?_
  refine V_iadd d_La_law_1060 ?_
  obtain ⟨h140, h⟩ := h
  refine UL_sld d_La_law_1061 hL h140 ?_
  refine V_i2l d_La_law_1062 ?_
  refine V_ldc2 4294967295 d_La_law_1063 kc_La_127 ?_
  refine V_land d_La_law_1066 ?_
  refine V_lor d_La_law_1067 ?_
  refine V_aload_n d_La_law_1068 rfl ?_
  refine V_iload_n d_La_law_1069 rfl ?_
  refine V_iconst d_La_law_1070 ?_
  refine V_iadd d_La_law_1071 ?_
  obtain ⟨h141, h⟩ := h
  refine UL_sld d_La_law_1072 hL h141 ?_
  refine UL_iv2 cv_La_law_129 d_La_law_1073 sh_0 rfl rfl (am_mono h ?_)
  rintro ro55 so55 σ55 ⟨z55, rfl, rfl, h⟩
  refine V_aload_n d_La_law_1076 rfl ?_
  refine V_aload_n d_La_law_1077 rfl ?_
  refine V_iload_n d_La_law_1078 rfl ?_
  refine V_iconst d_La_law_1079 ?_
  refine V_iadd d_La_law_1080 ?_
  refine UL_sld d_La_law_1081 hL h139 ?_
  refine V_i2l d_La_law_1082 ?_
  refine V_bipush d_La_law_1083 ?_
  refine V_lshl d_La_law_1085 ?_
  refine V_aload_n d_La_law_1086 rfl ?_
  refine V_iload_n d_La_law_1087 rfl ?_
  refine V_iconst d_La_law_1088 ?_
  refine V_iadd d_La_law_1089 ?_
  refine UL_sld d_La_law_1090 hL h140 ?_
  refine V_i2l d_La_law_1091 ?_
  refine V_ldc2 4294967295 d_La_law_1092 kc_La_127 ?_
  refine V_land d_La_law_1095 ?_
  refine V_lor d_La_law_1096 ?_
  refine V_aload_n d_La_law_1097 rfl ?_
  refine V_iload_n d_La_law_1098 rfl ?_
  refine V_iconst d_La_law_1099 ?_
  refine V_iadd d_La_law_1100 ?_
  refine UL_sld d_La_law_1101 hL h141 ?_
  refine UL_iv2 cv_La_law_133 d_La_law_1102 sh_147 rfl rfl (am_mono h ?_)
  rintro ro56 so56 σ56 ⟨z56, rfl, rfl, h⟩
  obtain ⟨h142, h⟩ := h
  obtain ⟨h143, h⟩ := h
  obtain ⟨ht, hf⟩ := h
  refine V_icmp_eq 1172 d_La_law_1105 h142 h143 (fun h144 => ?_) (fun h144 => ?_)
  · have h := ht h144
    exact h
  · have h := hf h144
    refine V_iconst d_La_law_1108 ?_
    exact V_zret d_La_law_1109 rfl rfl (Or.inl rfl) h
theorem s_La_law_1110 {x : am_Sc} {Po : Option am_AV → am_Sh → am_St → Prop} {σ : am_St} {v3 : Int} (hL : x.1 < 2147483648)
    (h : am_U x m_Sp_erase (fun ro57 so57 σ57 => ∃ z57 : Int, ro57 = some (Zi z57) ∧ so57 = am_SH ∧ am_U x m_Mo_erase (fun ro58 so58 σ58 => ∃ z58 : Int, ro58 = some (Zi z58) ∧ so58 = am_SH ∧ am_r z57 ∧ am_r z58 ∧ ((z57 = z58 → am_UL x m_La_law Po σ58 1172 [some (Zr 1000000), some (Zr 0), some (Zr 147), some (Zi v3)] []) ∧ (¬ z57 = z58 → Po (some (Zi 0)) am_SH σ58))) σ57 0 [some (Zr 147), none] []) σ 0 [some (Zr 0), none] []) : am_UL x m_La_law Po σ 1110 [some (Zr 1000000), some (Zr 0), some (Zr 147), some (Zi v3)] [] := by
  refine V_aload_n d_La_law_1110 rfl ?_
  refine UL_iv0 cv_La_law_134 d_La_law_1111 sh_0 rfl rfl (am_mono h ?_)
  rintro ro57 so57 σ57 ⟨z57, rfl, rfl, h⟩
  refine V_aload_n d_La_law_1114 rfl ?_
  refine UL_iv0 cv_La_law_137 d_La_law_1115 sh_147 rfl rfl (am_mono h ?_)
  rintro ro58 so58 σ58 ⟨z58, rfl, rfl, h⟩
  obtain ⟨h145, h⟩ := h
  obtain ⟨h146, h⟩ := h
  obtain ⟨ht, hf⟩ := h
  refine V_icmp_eq 1172 d_La_law_1118 h145 h146 (fun h147 => ?_) (fun h147 => ?_)
  · have h := ht h147
    exact h
  · have h := hf h147
    refine V_iconst d_La_law_1121 ?_
    exact V_zret d_La_law_1122 rfl rfl (Or.inl rfl) h
theorem s_La_law_1123 {x : am_Sc} {Po : Option am_AV → am_Sh → am_St → Prop} {σ : am_St} {v3 : Int} (hL : x.1 < 2147483648)
    (h : am_U x m_Sp_fault (fun ro59 so59 σ59 => ∃ z59 : Int, ro59 = some (Zi z59) ∧ so59 = am_SH ∧ am_U x m_Mo_fault (fun ro60 so60 σ60 => ∃ z60 : Int, ro60 = some (Zi z60) ∧ so60 = am_SH ∧ am_r z59 ∧ am_r z60 ∧ ((z59 = z60 → am_UL x m_La_law Po σ60 1172 [some (Zr 1000000), some (Zr 0), some (Zr 147), some (Zi v3)] []) ∧ (¬ z59 = z60 → Po (some (Zi 0)) am_SH σ60))) σ59 0 [some (Zr 147)] []) σ 0 [some (Zr 0)] []) : am_UL x m_La_law Po σ 1123 [some (Zr 1000000), some (Zr 0), some (Zr 147), some (Zi v3)] [] := by
  refine V_aload_n d_La_law_1123 rfl ?_
  refine UL_iv0 cv_La_law_138 d_La_law_1124 sh_0 rfl rfl (am_mono h ?_)
  rintro ro59 so59 σ59 ⟨z59, rfl, rfl, h⟩
  refine V_aload_n d_La_law_1127 rfl ?_
  refine UL_iv0 cv_La_law_141 d_La_law_1128 sh_147 rfl rfl (am_mono h ?_)
  rintro ro60 so60 σ60 ⟨z60, rfl, rfl, h⟩
  obtain ⟨h148, h⟩ := h
  obtain ⟨h149, h⟩ := h
  obtain ⟨ht, hf⟩ := h
  refine V_icmp_eq 1172 d_La_law_1131 h148 h149 (fun h150 => ?_) (fun h150 => ?_)
  · have h := ht h150
    exact h
  · have h := hf h150
    refine V_iconst d_La_law_1134 ?_
    exact V_zret d_La_law_1135 rfl rfl (Or.inl rfl) h
theorem s_La_law_1136 {x : am_Sc} {Po : Option am_AV → am_Sh → am_St → Prop} {σ : am_St} {v3 : Int} (hL : x.1 < 2147483648)
    (h : am_U x m_Sp_run (fun ro61 so61 σ61 => ∃ z61 : Int, ro61 = some (Zi z61) ∧ so61 = am_SH ∧ am_U x m_Mo_run (fun ro62 so62 σ62 => ∃ z62 : Int, ro62 = some (Zi z62) ∧ so62 = am_SH ∧ am_r z61 ∧ am_r z62 ∧ ((z61 = z62 → am_UL x m_La_law Po σ62 1172 [some (Zr 1000000), some (Zr 0), some (Zr 147), some (Zi v3)] []) ∧ (¬ z61 = z62 → Po (some (Zi 0)) am_SH σ62))) σ61 0 [some (Zr 147), none, none] []) σ 0 [some (Zr 0), none] []) : am_UL x m_La_law Po σ 1136 [some (Zr 1000000), some (Zr 0), some (Zr 147), some (Zi v3)] [] := by
  refine V_aload_n d_La_law_1136 rfl ?_
  refine UL_iv0 cv_La_law_142 d_La_law_1137 sh_0 rfl rfl (am_mono h ?_)
  rintro ro61 so61 σ61 ⟨z61, rfl, rfl, h⟩
  refine V_aload_n d_La_law_1140 rfl ?_
  refine UL_iv0 cv_La_law_145 d_La_law_1141 sh_147 rfl rfl (am_mono h ?_)
  rintro ro62 so62 σ62 ⟨z62, rfl, rfl, h⟩
  obtain ⟨h151, h⟩ := h
  obtain ⟨h152, h⟩ := h
  obtain ⟨ht, hf⟩ := h
  refine V_icmp_eq 1172 d_La_law_1144 h151 h152 (fun h153 => ?_) (fun h153 => ?_)
  · have h := ht h153
    exact h
  · have h := hf h153
    refine V_iconst d_La_law_1147 ?_
    exact V_zret d_La_law_1148 rfl rfl (Or.inl rfl) h
theorem s_La_law_1149 {x : am_Sc} {Po : Option am_AV → am_Sh → am_St → Prop} {σ : am_St} {v3 : Int} (hL : x.1 < 2147483648)
    (h : (0 ≤ v3 + 1 ∧ v3 + 1 < x.1) ∧ am_U x m_Sp_count (fun ro63 so63 σ63 => ∃ z63 : Int, ro63 = some (Zi z63) ∧ so63 = am_SH ∧ am_U x m_Mo_count (fun ro64 so64 σ64 => ∃ z64 : Int, ro64 = some (Zi z64) ∧ so64 = am_SH ∧ am_r z63 ∧ am_r z64 ∧ ((z63 = z64 → am_UL x m_La_law Po σ64 1172 [some (Zr 1000000), some (Zr 0), some (Zr 147), some (Zi v3)] []) ∧ (¬ z63 = z64 → Po (some (Zi 0)) am_SH σ64))) σ63 0 [some (Zr 147), some (Zi ((x.2 (v3 + 1).toNat).toInt)), none, none] []) σ 0 [some (Zr 0), some (Zi ((x.2 (v3 + 1).toNat).toInt))] []) : am_UL x m_La_law Po σ 1149 [some (Zr 1000000), some (Zr 0), some (Zr 147), some (Zi v3)] [] := by
  refine V_aload_n d_La_law_1149 rfl ?_
  refine V_aload_n d_La_law_1150 rfl ?_
  refine V_iload_n d_La_law_1151 rfl ?_
  refine V_iconst d_La_law_1152 ?_
  refine V_iadd d_La_law_1153 ?_
  obtain ⟨h154, h⟩ := h
  refine UL_sld d_La_law_1154 hL h154 ?_
  refine UL_iv1 cv_La_law_146 d_La_law_1155 sh_0 rfl rfl (am_mono h ?_)
  rintro ro63 so63 σ63 ⟨z63, rfl, rfl, h⟩
  refine V_aload_n d_La_law_1158 rfl ?_
  refine V_aload_n d_La_law_1159 rfl ?_
  refine V_iload_n d_La_law_1160 rfl ?_
  refine V_iconst d_La_law_1161 ?_
  refine V_iadd d_La_law_1162 ?_
  refine UL_sld d_La_law_1163 hL h154 ?_
  refine UL_iv1 cv_La_law_149 d_La_law_1164 sh_147 rfl rfl (am_mono h ?_)
  rintro ro64 so64 σ64 ⟨z64, rfl, rfl, h⟩
  obtain ⟨h155, h⟩ := h
  obtain ⟨h156, h⟩ := h
  obtain ⟨ht, hf⟩ := h
  refine V_icmp_eq 1172 d_La_law_1167 h155 h156 (fun h157 => ?_) (fun h157 => ?_)
  · have h := ht h157
    exact h
  · have h := hf h157
    refine V_iconst d_La_law_1170 ?_
    exact V_zret d_La_law_1171 rfl rfl (Or.inl rfl) h
