theorem s_Gr_lay_0 {x : am_Sc} {Po : Option am_AV → am_Sh → am_St → Prop} {σ : am_St} {v1 v2 : Int}
    (h : (∀ σ1 : am_St, σ1 = (am_up σ.1 1 0 (v1 * v2), σ.2) → am_U x m_Ar_fill (fun ro2 so2 σ2 => ro2 = none ∧ so2 = am_SH ∧ am_U x m_Ar_fill (fun ro3 so3 σ3 => ro3 = none ∧ so3 = am_SH ∧ am_U x m_Gr_lay Po σ3 26 [some (Zr 1), some (Zi v1), some (Zi v2), some (Zi 0), none, none, none] []) σ2 0 [some (Zr 3), some (Zi 10), none, none] []) σ1 0 [some (Zr 2), some (Zi 0), none, none] [])) : am_U x m_Gr_lay Po σ 0 [some (Zr 1), some (Zi v1), some (Zi v2), none, none, none, none] [] := by
  refine V_aload_n d_Gr_lay_0 rfl ?_
  refine V_iload_n d_Gr_lay_1 rfl ?_
  refine V_iload_n d_Gr_lay_2 rfl ?_
  refine V_imul d_Gr_lay_3 ?_
  refine U_puti d_Gr_lay_4 fw_Gr_34 sh_1 ?_
  have h := h _ rfl
  refine V_aload_n d_Gr_lay_7 rfl ?_
  refine U_geta d_Gr_lay_8 fl_Gr_15 sh_1 rfl ?_
  refine V_iconst d_Gr_lay_11 ?_
  refine U_is2 cv_Gr_lay_37 d_Gr_lay_12  rfl (am_mono h ?_)
  rintro ro2 so2 σ2 ⟨rfl, rfl, h⟩
  refine V_aload_n d_Gr_lay_15 rfl ?_
  refine U_geta d_Gr_lay_16 fl_Gr_19 sh_1 rfl ?_
  refine V_bipush d_Gr_lay_19 ?_
  refine U_is2 cv_Gr_lay_37 d_Gr_lay_21  rfl (am_mono h ?_)
  rintro ro3 so3 σ3 ⟨rfl, rfl, h⟩
  refine V_iconst d_Gr_lay_24 ?_
  refine V_istore_n d_Gr_lay_25 rfl ?_
  exact h
theorem s_Gr_lay_26 {x : am_Sc} {Po : Option am_AV → am_Sh → am_St → Prop} {σ : am_St} {v1 v2 v3 : Int}
    (h : am_r v3 ∧ am_r v2 ∧ ((v2 ≤ v3 → Po none am_SH σ) ∧ (¬ v2 ≤ v3 → am_U x m_Gr_lay Po σ 34 [some (Zr 1), some (Zi v1), some (Zi v2), some (Zi v3), some (Zi 0), none, none] []))) : am_U x m_Gr_lay Po σ 26 [some (Zr 1), some (Zi v1), some (Zi v2), some (Zi v3), none, none, none] [] := by
  refine V_iload_n d_Gr_lay_26 rfl ?_
  refine V_iload_n d_Gr_lay_27 rfl ?_
  obtain ⟨h1, h⟩ := h
  obtain ⟨h2, h⟩ := h
  obtain ⟨ht, hf⟩ := h
  refine V_icmp_ge 156 d_Gr_lay_28 h1 h2 (fun h3 => ?_) (fun h3 => ?_)
  · have h := ht h3
    exact V_ret d_Gr_lay_156 rfl rfl h
  · have h := hf h3
    refine V_iconst d_Gr_lay_31 ?_
    refine V_istore d_Gr_lay_32 rfl ?_
    exact h
theorem s_Gr_lay_34 {x : am_Sc} {Po : Option am_AV → am_Sh → am_St → Prop} {σ : am_St} {v1 v2 v3 v4 : Int}
    (h : am_r v4 ∧ am_r v1 ∧ ((v1 ≤ v4 → am_U x m_Gr_lay Po σ 26 [some (Zr 1), some (Zi v1), some (Zi v2), some (Zi (v3 + 1)), none, none, none] []) ∧ (¬ v1 ≤ v4 → am_r v3 ∧ ((v3 ≤ 0 → am_U x m_Gr_lay Po σ 72 [some (Zr 1), some (Zi v1), some (Zi v2), some (Zi v3), some (Zi v4), some (Zi ((v1 * v3) + v4)), some (Zi (((v1 * v3) + v4) * 4))] [Zi (-1), Zi (((v1 * v3) + v4) * 4), Zr 4]) ∧ (¬ v3 ≤ 0 → am_U x m_Gr_lay Po σ 72 [some (Zr 1), some (Zi v1), some (Zi v2), some (Zi v3), some (Zi v4), some (Zi ((v1 * v3) + v4)), some (Zi (((v1 * v3) + v4) * 4))] [Zi (((v1 * v3) + v4) - v1), Zi (((v1 * v3) + v4) * 4), Zr 4]))))) : am_U x m_Gr_lay Po σ 34 [some (Zr 1), some (Zi v1), some (Zi v2), some (Zi v3), some (Zi v4), none, none] [] := by
  refine V_iload d_Gr_lay_34 rfl ?_
  refine V_iload_n d_Gr_lay_36 rfl ?_
  obtain ⟨h4, h⟩ := h
  obtain ⟨h5, h⟩ := h
  obtain ⟨ht, hf⟩ := h
  refine V_icmp_ge 150 d_Gr_lay_37 h4 h5 (fun h8 => ?_) (fun h8 => ?_)
  · have h := ht h8
    refine V_iinc d_Gr_lay_150 rfl rfl ?_
    refine V_goto 26 d_Gr_lay_153 ?_
    refine V_drop 4 ?_
    exact h
  · have h := hf h8
    refine V_iload_n d_Gr_lay_40 rfl ?_
    refine V_iload_n d_Gr_lay_41 rfl ?_
    refine V_imul d_Gr_lay_42 ?_
    refine V_iload d_Gr_lay_43 rfl ?_
    refine V_iadd d_Gr_lay_45 ?_
    refine V_istore d_Gr_lay_46 rfl ?_
    refine V_iload d_Gr_lay_48 rfl ?_
    refine V_iconst d_Gr_lay_50 ?_
    refine V_imul d_Gr_lay_51 ?_
    refine V_istore d_Gr_lay_52 rfl ?_
    refine V_aload_n d_Gr_lay_54 rfl ?_
    refine U_geta d_Gr_lay_55 fl_Gr_22 sh_1 rfl ?_
    refine V_iload d_Gr_lay_58 rfl ?_
    refine V_iload_n d_Gr_lay_60 rfl ?_
    obtain ⟨h6, h⟩ := h
    obtain ⟨ht, hf⟩ := h
    refine V_if_le 71 d_Gr_lay_61 h6 (fun h7 => ?_) (fun h7 => ?_)
    · have h := ht h7
      refine V_iconst d_Gr_lay_71 ?_
      exact h
    · have h := hf h7
      refine V_iload d_Gr_lay_64 rfl ?_
      refine V_iload_n d_Gr_lay_66 rfl ?_
      refine V_isub d_Gr_lay_67 ?_
      refine V_goto 72 d_Gr_lay_68 ?_
      exact h
theorem s_Gr_lay_72 {x : am_Sc} {Po : Option am_AV → am_Sh → am_St → Prop} {σ : am_St} {v1 v2 v3 v4 v5 v6 vk1 vk2 : Int}
    (h : (0 ≤ vk1 ∧ vk1 < 64) ∧ (∀ σ4 : am_St, σ4 = (am_up σ.1 4 vk1.toNat vk2, σ.2) → am_r v4 ∧ ((v4 ≤ 0 → am_U x m_Gr_lay Po σ4 94 [some (Zr 1), some (Zi v1), some (Zi v2), some (Zi v3), some (Zi v4), some (Zi v5), some (Zi v6)] [Zi (-1), Zi (v6 + 1), Zr 4]) ∧ (¬ v4 ≤ 0 → am_U x m_Gr_lay Po σ4 94 [some (Zr 1), some (Zi v1), some (Zi v2), some (Zi v3), some (Zi v4), some (Zi v5), some (Zi v6)] [Zi (v5 - 1), Zi (v6 + 1), Zr 4])))) : am_U x m_Gr_lay Po σ 72 [some (Zr 1), some (Zi v1), some (Zi v2), some (Zi v3), some (Zi v4), some (Zi v5), some (Zi v6)] [Zi vk2, Zi vk1, Zr 4] := by
  obtain ⟨h9, h⟩ := h
  refine U_iast d_Gr_lay_72 sh_4 h9 ?_
  have h := h _ rfl
  refine V_aload_n d_Gr_lay_73 rfl ?_
  refine U_geta d_Gr_lay_74 fl_Gr_22 sh_1 rfl ?_
  refine V_iload d_Gr_lay_77 rfl ?_
  refine V_iconst d_Gr_lay_79 ?_
  refine V_iadd d_Gr_lay_80 ?_
  refine V_iload d_Gr_lay_81 rfl ?_
  obtain ⟨h10, h⟩ := h
  obtain ⟨ht, hf⟩ := h
  refine V_if_le 93 d_Gr_lay_83 h10 (fun h11 => ?_) (fun h11 => ?_)
  · have h := ht h11
    refine V_iconst d_Gr_lay_93 ?_
    exact h
  · have h := hf h11
    refine V_iload d_Gr_lay_86 rfl ?_
    refine V_iconst d_Gr_lay_88 ?_
    refine V_isub d_Gr_lay_89 ?_
    refine V_goto 94 d_Gr_lay_90 ?_
    exact h
theorem s_Gr_lay_94 {x : am_Sc} {Po : Option am_AV → am_Sh → am_St → Prop} {σ : am_St} {v1 v2 v3 v4 v5 v6 vk1 vk2 : Int}
    (h : (0 ≤ vk1 ∧ vk1 < 64) ∧ (∀ σ5 : am_St, σ5 = (am_up σ.1 4 vk1.toNat vk2, σ.2) → am_r v4 ∧ am_r (v1 - 1) ∧ (((v1 - 1) ≤ v4 → am_U x m_Gr_lay Po σ5 119 [some (Zr 1), some (Zi v1), some (Zi v2), some (Zi v3), some (Zi v4), some (Zi v5), some (Zi v6)] [Zi (-1), Zi (v6 + 2), Zr 4]) ∧ (¬ (v1 - 1) ≤ v4 → am_U x m_Gr_lay Po σ5 119 [some (Zr 1), some (Zi v1), some (Zi v2), some (Zi v3), some (Zi v4), some (Zi v5), some (Zi v6)] [Zi (v5 + 1), Zi (v6 + 2), Zr 4])))) : am_U x m_Gr_lay Po σ 94 [some (Zr 1), some (Zi v1), some (Zi v2), some (Zi v3), some (Zi v4), some (Zi v5), some (Zi v6)] [Zi vk2, Zi vk1, Zr 4] := by
  obtain ⟨h12, h⟩ := h
  refine U_iast d_Gr_lay_94 sh_4 h12 ?_
  have h := h _ rfl
  refine V_aload_n d_Gr_lay_95 rfl ?_
  refine U_geta d_Gr_lay_96 fl_Gr_22 sh_1 rfl ?_
  refine V_iload d_Gr_lay_99 rfl ?_
  refine V_iconst d_Gr_lay_101 ?_
  refine V_iadd d_Gr_lay_102 ?_
  refine V_iload d_Gr_lay_103 rfl ?_
  refine V_iload_n d_Gr_lay_105 rfl ?_
  refine V_iconst d_Gr_lay_106 ?_
  refine V_isub d_Gr_lay_107 ?_
  obtain ⟨h13, h⟩ := h
  obtain ⟨h14, h⟩ := h
  obtain ⟨ht, hf⟩ := h
  refine V_icmp_ge 118 d_Gr_lay_108 h13 h14 (fun h15 => ?_) (fun h15 => ?_)
  · have h := ht h15
    refine V_iconst d_Gr_lay_118 ?_
    exact h
  · have h := hf h15
    refine V_iload d_Gr_lay_111 rfl ?_
    refine V_iconst d_Gr_lay_113 ?_
    refine V_iadd d_Gr_lay_114 ?_
    refine V_goto 119 d_Gr_lay_115 ?_
    exact h
theorem s_Gr_lay_119 {x : am_Sc} {Po : Option am_AV → am_Sh → am_St → Prop} {σ : am_St} {v1 v2 v3 v4 v5 v6 vk1 vk2 : Int}
    (h : (0 ≤ vk1 ∧ vk1 < 64) ∧ (∀ σ6 : am_St, σ6 = (am_up σ.1 4 vk1.toNat vk2, σ.2) → am_r v3 ∧ am_r (v2 - 1) ∧ (((v2 - 1) ≤ v3 → am_U x m_Gr_lay Po σ6 143 [some (Zr 1), some (Zi v1), some (Zi v2), some (Zi v3), some (Zi v4), none, none] [Zi (-1), Zi (v6 + 3), Zr 4]) ∧ (¬ (v2 - 1) ≤ v3 → am_U x m_Gr_lay Po σ6 143 [some (Zr 1), some (Zi v1), some (Zi v2), some (Zi v3), some (Zi v4), none, none] [Zi (v5 + v1), Zi (v6 + 3), Zr 4])))) : am_U x m_Gr_lay Po σ 119 [some (Zr 1), some (Zi v1), some (Zi v2), some (Zi v3), some (Zi v4), some (Zi v5), some (Zi v6)] [Zi vk2, Zi vk1, Zr 4] := by
  obtain ⟨h16, h⟩ := h
  refine U_iast d_Gr_lay_119 sh_4 h16 ?_
  have h := h _ rfl
  refine V_aload_n d_Gr_lay_120 rfl ?_
  refine U_geta d_Gr_lay_121 fl_Gr_22 sh_1 rfl ?_
  refine V_iload d_Gr_lay_124 rfl ?_
  refine V_iconst d_Gr_lay_126 ?_
  refine V_iadd d_Gr_lay_127 ?_
  refine V_iload_n d_Gr_lay_128 rfl ?_
  refine V_iload_n d_Gr_lay_129 rfl ?_
  refine V_iconst d_Gr_lay_130 ?_
  refine V_isub d_Gr_lay_131 ?_
  obtain ⟨h17, h⟩ := h
  obtain ⟨h18, h⟩ := h
  obtain ⟨ht, hf⟩ := h
  refine V_icmp_ge 142 d_Gr_lay_132 h17 h18 (fun h19 => ?_) (fun h19 => ?_)
  · have h := ht h19
    refine V_iconst d_Gr_lay_142 ?_
    refine V_drop 5 ?_
    refine V_drop 6 ?_
    exact h
  · have h := hf h19
    refine V_iload d_Gr_lay_135 rfl ?_
    refine V_iload_n d_Gr_lay_137 rfl ?_
    refine V_iadd d_Gr_lay_138 ?_
    refine V_goto 143 d_Gr_lay_139 ?_
    refine V_drop 5 ?_
    refine V_drop 6 ?_
    exact h
theorem s_Gr_lay_143 {x : am_Sc} {Po : Option am_AV → am_Sh → am_St → Prop} {σ : am_St} {v1 v2 v3 v4 vk1 vk2 : Int}
    (h : (0 ≤ vk1 ∧ vk1 < 64) ∧ (∀ σ7 : am_St, σ7 = (am_up σ.1 4 vk1.toNat vk2, σ.2) → am_U x m_Gr_lay Po σ7 34 [some (Zr 1), some (Zi v1), some (Zi v2), some (Zi v3), some (Zi (v4 + 1)), none, none] [])) : am_U x m_Gr_lay Po σ 143 [some (Zr 1), some (Zi v1), some (Zi v2), some (Zi v3), some (Zi v4), none, none] [Zi vk2, Zi vk1, Zr 4] := by
  obtain ⟨h20, h⟩ := h
  refine U_iast d_Gr_lay_143 sh_4 h20 ?_
  have h := h _ rfl
  refine V_iinc d_Gr_lay_144 rfl rfl ?_
  refine V_goto 34 d_Gr_lay_147 ?_
  exact h
theorem s_Bo_forgetAll_0 {x : am_Sc} {Po : Option am_AV → am_Sh → am_St → Prop} {σ : am_St}
    (h : (∀ σ1 : am_St, σ1 = (am_up σ.1 8 0 0, σ.2) → (∀ σ2 : am_St, σ2 = (am_up σ1.1 8 3 0, σ1.2) → (∀ σ3 : am_St, σ3 = (am_up σ2.1 8 6 0, σ2.2) → (∀ σ4 : am_St, σ4 = (am_up σ3.1 8 10 0, σ3.2) → Po none am_SH σ4))))) : am_U x m_Bo_forgetAll Po σ 0 [some (Zr 8)] [] := by
  refine V_aload_n d_Bo_forgetAll_0 rfl ?_
  refine V_iconst d_Bo_forgetAll_1 ?_
  refine U_puti d_Bo_forgetAll_2 fw_Bo_45 sh_8 ?_
  have h := h _ rfl
  refine V_aload_n d_Bo_forgetAll_5 rfl ?_
  refine V_iconst d_Bo_forgetAll_6 ?_
  refine U_puti d_Bo_forgetAll_7 fw_Bo_49 sh_8 ?_
  have h := h _ rfl
  refine V_aload_n d_Bo_forgetAll_10 rfl ?_
  refine V_iconst d_Bo_forgetAll_11 ?_
  refine U_puti d_Bo_forgetAll_12 fw_Bo_52 sh_8 ?_
  have h := h _ rfl
  refine V_aload_n d_Bo_forgetAll_15 rfl ?_
  refine V_iconst d_Bo_forgetAll_16 ?_
  refine U_puti d_Bo_forgetAll_17 fw_Bo_55 sh_8 ?_
  have h := h _ rfl
  exact V_ret d_Bo_forgetAll_20 rfl rfl h
theorem s_Gr_allCells_0 {x : am_Sc} {Po : Option am_AV → am_Sh → am_St → Prop} {σ : am_St}
    (h : Po (some (Zi ((am_shl 1 (σ.1 1 0)) - 1))) am_SH σ) : am_U x m_Gr_allCells Po σ 0 [some (Zr 1)] [] := by
  refine V_iconst d_Gr_allCells_0 ?_
  refine V_aload_n d_Gr_allCells_1 rfl ?_
  refine U_geti d_Gr_allCells_2 fl_Gr_34 sh_1 ?_
  refine V_ishl d_Gr_allCells_5 ?_
  refine V_iconst d_Gr_allCells_6 ?_
  refine V_isub d_Gr_allCells_7 ?_
  exact V_iret d_Gr_allCells_8 rfl rfl h
theorem s_Gr_splitBlock_0 {x : am_Sc} {Po : Option am_AV → am_Sh → am_St → Prop} {σ : am_St} {v1 v2 : Int}
    (h : am_U x m_Gr_cellsOf (fun ro1 so1 σ1 => ∃ z1 : Int, ro1 = some (Zi z1) ∧ so1 = am_SH ∧ am_r (am_and z1 v2) ∧ (((am_and z1 v2) = 0 → am_U x m_Gr_splitBlock Po σ1 19 [none, none, none, none, none] []) ∧ (¬ (am_and z1 v2) = 0 → am_r z1 ∧ ((¬ (am_and z1 v2) = z1 → am_U x m_Gr_splitBlock Po σ1 25 [some (Zr 1), some (Zi v1), some (Zi v2), none, some (Zi 0)] []) ∧ ((am_and z1 v2) = z1 → am_U x m_Gr_splitBlock Po σ1 19 [none, none, none, none, none] []))))) σ 0 [some (Zr 1), some (Zi v1), none, none] []) : am_U x m_Gr_splitBlock Po σ 0 [some (Zr 1), some (Zi v1), some (Zi v2), none, none] [] := by
  refine V_aload_n d_Gr_splitBlock_0 rfl ?_
  refine V_iload_n d_Gr_splitBlock_1 rfl ?_
  refine U_iv1 cv_Gr_splitBlock_43 d_Gr_splitBlock_2 sh_1 rfl rfl (am_mono h ?_)
  rintro ro1 so1 σ1 ⟨z1, rfl, rfl, h⟩
  refine V_istore_n d_Gr_splitBlock_5 rfl ?_
  refine V_iload_n d_Gr_splitBlock_6 rfl ?_
  refine V_iload_n d_Gr_splitBlock_7 rfl ?_
  refine V_iand d_Gr_splitBlock_8 ?_
  obtain ⟨h1, h⟩ := h
  obtain ⟨ht, hf⟩ := h
  refine V_if_eq 19 d_Gr_splitBlock_9 h1 (fun h4 => ?_) (fun h4 => ?_)
  · have h := ht h4
    refine V_drop 0 ?_
    refine V_drop 1 ?_
    refine V_drop 2 ?_
    refine V_drop 3 ?_
    exact h
  · have h := hf h4
    refine V_iload_n d_Gr_splitBlock_12 rfl ?_
    refine V_iload_n d_Gr_splitBlock_13 rfl ?_
    refine V_iand d_Gr_splitBlock_14 ?_
    refine V_iload_n d_Gr_splitBlock_15 rfl ?_
    obtain ⟨h2, h⟩ := h
    obtain ⟨ht, hf⟩ := h
    refine V_icmp_ne 22 d_Gr_splitBlock_16 h1 h2 (fun h3 => ?_) (fun h3 => ?_)
    · have h := ht h3
      refine V_iconst d_Gr_splitBlock_22 ?_
      refine V_istore d_Gr_splitBlock_23 rfl ?_
      refine V_drop 3 ?_
      exact h
    · have h := hf h3
      refine V_drop 0 ?_
      refine V_drop 1 ?_
      refine V_drop 2 ?_
      refine V_drop 3 ?_
      exact h
theorem s_Gr_splitBlock_19 {x : am_Sc} {Po : Option am_AV → am_Sh → am_St → Prop} {σ : am_St}
    (h : Po (some (Zi (-4))) am_SH σ) : am_U x m_Gr_splitBlock Po σ 19 [none, none, none, none, none] [] := by
  refine V_bipush d_Gr_splitBlock_19 ?_
  exact V_iret d_Gr_splitBlock_21 rfl rfl h
theorem s_Gr_splitBlock_25 {x : am_Sc} {Po : Option am_AV → am_Sh → am_St → Prop} {σ : am_St} {v1 v2 v4 : Int}
    (h : am_r v4 ∧ ((8 ≤ v4 → Po (some (Zi (-5))) am_SH σ) ∧ (¬ 8 ≤ v4 → am_U x m_Gr_cellsOf (fun ro2 so2 σ2 => ∃ z2 : Int, ro2 = some (Zi z2) ∧ so2 = am_SH ∧ am_r z2 ∧ ((¬ z2 = 0 → am_U x m_Gr_splitBlock Po σ2 25 [some (Zr 1), some (Zi v1), some (Zi v2), none, some (Zi (v4 + 1))] []) ∧ (z2 = 0 → am_U x m_Gr_moveCells (fun ro3 so3 σ3 => ro3 = none ∧ so3 = am_SH ∧ (0 ≤ v1 ∧ v1 < 8) ∧ (0 ≤ v4 ∧ v4 < 8) ∧ (∀ σ4 : am_St, σ4 = (am_up σ3.1 3 v4.toNat (σ3.1 3 v1.toNat), σ3.2) → Po (some (Zi v4)) am_SH σ4)) σ2 0 [some (Zr 1), some (Zi v1), some (Zi v2), some (Zi v4), none] []))) σ 0 [some (Zr 1), some (Zi v4), none, none] []))) : am_U x m_Gr_splitBlock Po σ 25 [some (Zr 1), some (Zi v1), some (Zi v2), none, some (Zi v4)] [] := by
  refine V_iload d_Gr_splitBlock_25 rfl ?_
  refine V_bipush d_Gr_splitBlock_27 ?_
  obtain ⟨h5, h⟩ := h
  obtain ⟨ht, hf⟩ := h
  refine V_icmp_ge 71 d_Gr_splitBlock_29 h5 (by decide) (fun h10 => ?_) (fun h10 => ?_)
  · have h := ht h10
    refine V_bipush d_Gr_splitBlock_71 ?_
    exact V_iret d_Gr_splitBlock_73 rfl rfl h
  · have h := hf h10
    refine V_aload_n d_Gr_splitBlock_32 rfl ?_
    refine V_iload d_Gr_splitBlock_33 rfl ?_
    refine U_iv1 cv_Gr_splitBlock_43 d_Gr_splitBlock_35 sh_1 rfl rfl (am_mono h ?_)
    rintro ro2 so2 σ2 ⟨z2, rfl, rfl, h⟩
    obtain ⟨h6, h⟩ := h
    obtain ⟨ht, hf⟩ := h
    refine V_if_ne 65 d_Gr_splitBlock_38 h6 (fun h9 => ?_) (fun h9 => ?_)
    · have h := ht h9
      refine V_iinc d_Gr_splitBlock_65 rfl rfl ?_
      refine V_goto 25 d_Gr_splitBlock_68 ?_
      exact h
    · have h := hf h9
      refine V_aload_n d_Gr_splitBlock_41 rfl ?_
      refine V_iload_n d_Gr_splitBlock_42 rfl ?_
      refine V_iload_n d_Gr_splitBlock_43 rfl ?_
      refine V_iload d_Gr_splitBlock_44 rfl ?_
      refine U_iv3 cv_Gr_splitBlock_52 d_Gr_splitBlock_46 sh_1 rfl rfl (am_mono h ?_)
      rintro ro3 so3 σ3 ⟨rfl, rfl, h⟩
      refine V_aload_n d_Gr_splitBlock_49 rfl ?_
      refine U_geta d_Gr_splitBlock_50 fl_Gr_19 sh_1 rfl ?_
      refine V_iload d_Gr_splitBlock_53 rfl ?_
      refine V_aload_n d_Gr_splitBlock_55 rfl ?_
      refine U_geta d_Gr_splitBlock_56 fl_Gr_19 sh_1 rfl ?_
      refine V_iload_n d_Gr_splitBlock_59 rfl ?_
      obtain ⟨h7, h⟩ := h
      refine U_iald d_Gr_splitBlock_60 sh_3 h7 ?_
      obtain ⟨h8, h⟩ := h
      refine U_iast d_Gr_splitBlock_61 sh_3 h8 ?_
      have h := h _ rfl
      refine V_iload d_Gr_splitBlock_62 rfl ?_
      exact V_iret d_Gr_splitBlock_64 rfl rfl h
theorem s_Gr_cellsOf_0 {x : am_Sc} {Po : Option am_AV → am_Sh → am_St → Prop} {σ : am_St} {v1 : Int}
    (h : am_U x m_Gr_cellsOf Po σ 4 [some (Zr 1), some (Zi v1), some (Zi 0), some (Zi 0)] []) : am_U x m_Gr_cellsOf Po σ 0 [some (Zr 1), some (Zi v1), none, none] [] := by
  refine V_iconst d_Gr_cellsOf_0 ?_
  refine V_istore_n d_Gr_cellsOf_1 rfl ?_
  refine V_iconst d_Gr_cellsOf_2 ?_
  refine V_istore_n d_Gr_cellsOf_3 rfl ?_
  exact h
theorem s_Gr_cellsOf_4 {x : am_Sc} {Po : Option am_AV → am_Sh → am_St → Prop} {σ : am_St} {v1 v2 v3 : Int}
    (h : am_r v3 ∧ am_r (σ.1 1 0) ∧ (((σ.1 1 0) ≤ v3 → Po (some (Zi v2)) am_SH σ) ∧ (¬ (σ.1 1 0) ≤ v3 → (0 ≤ v3 ∧ v3 < 16) ∧ am_r (σ.1 2 v3.toNat) ∧ am_r v1 ∧ ((¬ (σ.1 2 v3.toNat) = v1 → am_U x m_Gr_cellsOf Po σ 28 [some (Zr 1), some (Zi v1), some (Zi v2), some (Zi v3)] []) ∧ ((σ.1 2 v3.toNat) = v1 → am_U x m_Gr_cellsOf Po σ 28 [some (Zr 1), some (Zi v1), some (Zi (am_or v2 (am_shl 1 v3))), some (Zi v3)] []))))) : am_U x m_Gr_cellsOf Po σ 4 [some (Zr 1), some (Zi v1), some (Zi v2), some (Zi v3)] [] := by
  refine V_iload_n d_Gr_cellsOf_4 rfl ?_
  refine V_aload_n d_Gr_cellsOf_5 rfl ?_
  refine U_geti d_Gr_cellsOf_6 fl_Gr_34 sh_1 ?_
  obtain ⟨h1, h⟩ := h
  obtain ⟨h2, h⟩ := h
  obtain ⟨ht, hf⟩ := h
  refine V_icmp_ge 34 d_Gr_cellsOf_9 h1 h2 (fun h7 => ?_) (fun h7 => ?_)
  · have h := ht h7
    refine V_iload_n d_Gr_cellsOf_34 rfl ?_
    exact V_iret d_Gr_cellsOf_35 rfl rfl h
  · have h := hf h7
    refine V_aload_n d_Gr_cellsOf_12 rfl ?_
    refine U_geta d_Gr_cellsOf_13 fl_Gr_15 sh_1 rfl ?_
    refine V_iload_n d_Gr_cellsOf_16 rfl ?_
    obtain ⟨h3, h⟩ := h
    refine U_iald d_Gr_cellsOf_17 sh_2 h3 ?_
    refine V_iload_n d_Gr_cellsOf_18 rfl ?_
    obtain ⟨h4, h⟩ := h
    obtain ⟨h5, h⟩ := h
    obtain ⟨ht, hf⟩ := h
    refine V_icmp_ne 28 d_Gr_cellsOf_19 h4 h5 (fun h6 => ?_) (fun h6 => ?_)
    · have h := ht h6
      exact h
    · have h := hf h6
      refine V_iload_n d_Gr_cellsOf_22 rfl ?_
      refine V_iconst d_Gr_cellsOf_23 ?_
      refine V_iload_n d_Gr_cellsOf_24 rfl ?_
      refine V_ishl d_Gr_cellsOf_25 ?_
      refine V_ior d_Gr_cellsOf_26 ?_
      refine V_istore_n d_Gr_cellsOf_27 rfl ?_
      exact h
theorem s_Gr_cellsOf_28 {x : am_Sc} {Po : Option am_AV → am_Sh → am_St → Prop} {σ : am_St} {v1 v2 v3 : Int}
    (h : am_U x m_Gr_cellsOf Po σ 4 [some (Zr 1), some (Zi v1), some (Zi v2), some (Zi (v3 + 1))] []) : am_U x m_Gr_cellsOf Po σ 28 [some (Zr 1), some (Zi v1), some (Zi v2), some (Zi v3)] [] := by
  refine V_iinc d_Gr_cellsOf_28 rfl rfl ?_
  refine V_goto 4 d_Gr_cellsOf_31 ?_
  exact h
theorem s_Gr_moveCells_0 {x : am_Sc} {Po : Option am_AV → am_Sh → am_St → Prop} {σ : am_St} {v1 v2 v3 : Int}
    (h : am_U x m_Gr_moveCells Po σ 3 [some (Zr 1), some (Zi v1), some (Zi v2), some (Zi v3), some (Zi 0)] []) : am_U x m_Gr_moveCells Po σ 0 [some (Zr 1), some (Zi v1), some (Zi v2), some (Zi v3), none] [] := by
  refine V_iconst d_Gr_moveCells_0 ?_
  refine V_istore d_Gr_moveCells_1 rfl ?_
  exact h
theorem s_Gr_moveCells_3 {x : am_Sc} {Po : Option am_AV → am_Sh → am_St → Prop} {σ : am_St} {v1 v2 v3 v4 : Int}
    (h : am_r v4 ∧ am_r (σ.1 1 0) ∧ (((σ.1 1 0) ≤ v4 → Po none am_SH σ) ∧ (¬ (σ.1 1 0) ≤ v4 → (0 ≤ v4 ∧ v4 < 16) ∧ am_r (σ.1 2 v4.toNat) ∧ am_r v1 ∧ ((¬ (σ.1 2 v4.toNat) = v1 → am_U x m_Gr_moveCells Po σ 41 [some (Zr 1), some (Zi v1), some (Zi v2), some (Zi v3), some (Zi v4)] []) ∧ ((σ.1 2 v4.toNat) = v1 → am_r (am_and (am_shr v2 v4) 1) ∧ ((¬ (am_and (am_shr v2 v4) 1) = 1 → am_U x m_Gr_moveCells Po σ 41 [some (Zr 1), some (Zi v1), some (Zi v2), some (Zi v3), some (Zi v4)] []) ∧ ((am_and (am_shr v2 v4) 1) = 1 → (∀ σ1 : am_St, σ1 = (am_up σ.1 2 v4.toNat v3, σ.2) → am_U x m_Gr_moveCells Po σ1 41 [some (Zr 1), some (Zi v1), some (Zi v2), some (Zi v3), some (Zi v4)] [])))))))) : am_U x m_Gr_moveCells Po σ 3 [some (Zr 1), some (Zi v1), some (Zi v2), some (Zi v3), some (Zi v4)] [] := by
  refine V_iload d_Gr_moveCells_3 rfl ?_
  refine V_aload_n d_Gr_moveCells_5 rfl ?_
  refine U_geti d_Gr_moveCells_6 fl_Gr_34 sh_1 ?_
  obtain ⟨h1, h⟩ := h
  obtain ⟨h2, h⟩ := h
  obtain ⟨ht, hf⟩ := h
  refine V_icmp_ge 47 d_Gr_moveCells_9 h1 h2 (fun h9 => ?_) (fun h9 => ?_)
  · have h := ht h9
    exact V_ret d_Gr_moveCells_47 rfl rfl h
  · have h := hf h9
    refine V_aload_n d_Gr_moveCells_12 rfl ?_
    refine U_geta d_Gr_moveCells_13 fl_Gr_15 sh_1 rfl ?_
    refine V_iload d_Gr_moveCells_16 rfl ?_
    obtain ⟨h3, h⟩ := h
    refine U_iald d_Gr_moveCells_18 sh_2 h3 ?_
    refine V_iload_n d_Gr_moveCells_19 rfl ?_
    obtain ⟨h4, h⟩ := h
    obtain ⟨h5, h⟩ := h
    obtain ⟨ht, hf⟩ := h
    refine V_icmp_ne 41 d_Gr_moveCells_20 h4 h5 (fun h8 => ?_) (fun h8 => ?_)
    · have h := ht h8
      exact h
    · have h := hf h8
      refine V_iload_n d_Gr_moveCells_23 rfl ?_
      refine V_iload d_Gr_moveCells_24 rfl ?_
      refine V_ishr d_Gr_moveCells_26 ?_
      refine V_iconst d_Gr_moveCells_27 ?_
      refine V_iand d_Gr_moveCells_28 ?_
      refine V_iconst d_Gr_moveCells_29 ?_
      obtain ⟨h6, h⟩ := h
      obtain ⟨ht, hf⟩ := h
      refine V_icmp_ne 41 d_Gr_moveCells_30 h6 (by decide) (fun h7 => ?_) (fun h7 => ?_)
      · have h := ht h7
        exact h
      · have h := hf h7
        refine V_aload_n d_Gr_moveCells_33 rfl ?_
        refine U_geta d_Gr_moveCells_34 fl_Gr_15 sh_1 rfl ?_
        refine V_iload d_Gr_moveCells_37 rfl ?_
        refine V_iload_n d_Gr_moveCells_39 rfl ?_
        refine U_iast d_Gr_moveCells_40 sh_2 h3 ?_
        have h := h _ rfl
        exact h
theorem s_Gr_moveCells_41 {x : am_Sc} {Po : Option am_AV → am_Sh → am_St → Prop} {σ : am_St} {v1 v2 v3 v4 : Int}
    (h : am_U x m_Gr_moveCells Po σ 3 [some (Zr 1), some (Zi v1), some (Zi v2), some (Zi v3), some (Zi (v4 + 1))] []) : am_U x m_Gr_moveCells Po σ 41 [some (Zr 1), some (Zi v1), some (Zi v2), some (Zi v3), some (Zi v4)] [] := by
  refine V_iinc d_Gr_moveCells_41 rfl rfl ?_
  refine V_goto 3 d_Gr_moveCells_44 ?_
  exact h
theorem s_Gr_cellsIn_0 {x : am_Sc} {Po : Option am_AV → am_Sh → am_St → Prop} {σ : am_St} {v1 : Int}
    (h : am_U x m_Gr_cellsOf (fun ro1 so1 σ1 => ∃ z1 : Int, ro1 = some (Zi z1) ∧ so1 = am_SH ∧ am_U x m_In_bitCount (fun ro2 so2 σ2 => ∃ z2 : Int, ro2 = some (Zi z2) ∧ so2 = am_SH ∧ Po (some (Zi z2)) am_SH σ2) σ1 0 [some (Zi z1)] []) σ 0 [some (Zr 1), some (Zi v1), none, none] []) : am_U x m_Gr_cellsIn Po σ 0 [some (Zr 1), some (Zi v1)] [] := by
  refine V_aload_n d_Gr_cellsIn_0 rfl ?_
  refine V_iload_n d_Gr_cellsIn_1 rfl ?_
  refine U_iv1 cv_Gr_cellsIn_43 d_Gr_cellsIn_2 sh_1 rfl rfl (am_mono h ?_)
  rintro ro1 so1 σ1 ⟨z1, rfl, rfl, h⟩
  refine U_is1 cv_Gr_cellsIn_47 d_Gr_cellsIn_5  rfl (am_mono h ?_)
  rintro ro2 so2 σ2 ⟨z2, rfl, rfl, h⟩
  exact V_iret d_Gr_cellsIn_8 rfl rfl h
theorem s_Gr_spread_0 {x : am_Sc} {Po : Option am_AV → am_Sh → am_St → Prop} {σ : am_St} {v1 v2 : Int}
    (h : am_U x m_Gr_spread Po σ 2 [some (Zr 1), some (Zi v1), some (Zi v2), some (Zi 0), none, none, none] []) : am_U x m_Gr_spread Po σ 0 [some (Zr 1), some (Zi v1), some (Zi v2), none, none, none, none] [] := by
  refine V_iconst d_Gr_spread_0 ?_
  refine V_istore_n d_Gr_spread_1 rfl ?_
  exact h
theorem s_Gr_spread_2 {x : am_Sc} {Po : Option am_AV → am_Sh → am_St → Prop} {σ : am_St} {v1 v2 v3 : Int}
    (h : am_r v3 ∧ am_r (σ.1 1 0) ∧ (((σ.1 1 0) ≤ v3 → (0 ≤ v1 ∧ v1 < 16) ∧ (∀ σ1 : am_St, σ1 = (am_up σ.1 6 v1.toNat 0, σ.2) → am_U x m_Gr_spread Po σ1 58 [some (Zr 1), none, none, some (Zi 1), some (Zi 0), none, none] [])) ∧ (¬ (σ.1 1 0) ≤ v3 → (0 ≤ v3 ∧ v3 < 16) ∧ (0 ≤ σ.1 2 v3.toNat ∧ σ.1 2 v3.toNat < 8) ∧ am_U x m_Gr_price (fun ro2 so2 σ2 => ∃ z2 : Int, ro2 = some (Zi z2) ∧ so2 = am_SH ∧ (∀ σ3 : am_St, σ3 = (am_up σ2.1 5 v3.toNat z2, σ2.2) → (∀ σ4 : am_St, σ4 = (am_up σ3.1 6 v3.toNat 1000000, σ3.2) → am_U x m_Gr_spread Po σ4 2 [some (Zr 1), some (Zi v1), some (Zi v2), some (Zi (v3 + 1)), none, none, none] []))) σ 0 [some (Zr 1), some (Zi (σ.1 3 (σ.1 2 v3.toNat).toNat)), some (Zi v2)] []))) : am_U x m_Gr_spread Po σ 2 [some (Zr 1), some (Zi v1), some (Zi v2), some (Zi v3), none, none, none] [] := by
  refine V_iload_n d_Gr_spread_2 rfl ?_
  refine V_aload_n d_Gr_spread_3 rfl ?_
  refine U_geti d_Gr_spread_4 fl_Gr_34 sh_1 ?_
  obtain ⟨h1, h⟩ := h
  obtain ⟨h2, h⟩ := h
  obtain ⟨ht, hf⟩ := h
  refine V_icmp_ge 46 d_Gr_spread_7 h1 h2 (fun h6 => ?_) (fun h6 => ?_)
  · have h := ht h6
    refine V_aload_n d_Gr_spread_46 rfl ?_
    refine U_geta d_Gr_spread_47 fl_Gr_28 sh_1 rfl ?_
    refine V_iload_n d_Gr_spread_50 rfl ?_
    refine V_iconst d_Gr_spread_51 ?_
    obtain ⟨h3, h⟩ := h
    refine U_iast d_Gr_spread_52 sh_6 h3 ?_
    have h := h _ rfl
    refine V_iconst d_Gr_spread_53 ?_
    refine V_istore_n d_Gr_spread_54 rfl ?_
    refine V_iconst d_Gr_spread_55 ?_
    refine V_istore d_Gr_spread_56 rfl ?_
    refine V_drop 1 ?_
    refine V_drop 2 ?_
    exact h
  · have h := hf h6
    refine V_aload_n d_Gr_spread_10 rfl ?_
    refine U_geta d_Gr_spread_11 fl_Gr_25 sh_1 rfl ?_
    refine V_iload_n d_Gr_spread_14 rfl ?_
    refine V_aload_n d_Gr_spread_15 rfl ?_
    refine V_aload_n d_Gr_spread_16 rfl ?_
    refine U_geta d_Gr_spread_17 fl_Gr_19 sh_1 rfl ?_
    refine V_aload_n d_Gr_spread_20 rfl ?_
    refine U_geta d_Gr_spread_21 fl_Gr_15 sh_1 rfl ?_
    refine V_iload_n d_Gr_spread_24 rfl ?_
    obtain ⟨h4, h⟩ := h
    refine U_iald d_Gr_spread_25 sh_2 h4 ?_
    obtain ⟨h5, h⟩ := h
    refine U_iald d_Gr_spread_26 sh_3 h5 ?_
    refine V_iload_n d_Gr_spread_27 rfl ?_
    refine U_iv2 cv_Gr_spread_56 d_Gr_spread_28 sh_1 rfl rfl (am_mono h ?_)
    rintro ro2 so2 σ2 ⟨z2, rfl, rfl, h⟩
    refine U_iast d_Gr_spread_31 sh_5 h4 ?_
    have h := h _ rfl
    refine V_aload_n d_Gr_spread_32 rfl ?_
    refine U_geta d_Gr_spread_33 fl_Gr_28 sh_1 rfl ?_
    refine V_iload_n d_Gr_spread_36 rfl ?_
    refine V_ldc 1000000 d_Gr_spread_37 kc_Gr_60 ?_
    refine U_iast d_Gr_spread_39 sh_6 h4 ?_
    have h := h _ rfl
    refine V_iinc d_Gr_spread_40 rfl rfl ?_
    refine V_goto 2 d_Gr_spread_43 ?_
    exact h
theorem s_Gr_spread_58 {x : am_Sc} {Po : Option am_AV → am_Sh → am_St → Prop} {σ : am_St} {v3 v4 : Int}
    (h : am_r v4 ∧ am_r (σ.1 1 0) ∧ (((σ.1 1 0) ≤ v4 → am_U x m_Gr_spread Po σ 131 [none, none, none, none, none, none, none] []) ∧ (¬ (σ.1 1 0) ≤ v4 → am_r v3 ∧ ((v3 = 0 → am_U x m_Gr_spread Po σ 131 [none, none, none, none, none, none, none] []) ∧ (¬ v3 = 0 → am_U x m_Gr_spread Po σ 76 [some (Zr 1), none, none, some (Zi 0), some (Zi v4), some (Zi 0), none] []))))) : am_U x m_Gr_spread Po σ 58 [some (Zr 1), none, none, some (Zi v3), some (Zi v4), none, none] [] := by
  refine V_iload d_Gr_spread_58 rfl ?_
  refine V_aload_n d_Gr_spread_60 rfl ?_
  refine U_geti d_Gr_spread_61 fl_Gr_34 sh_1 ?_
  obtain ⟨h7, h⟩ := h
  obtain ⟨h8, h⟩ := h
  obtain ⟨ht, hf⟩ := h
  refine V_icmp_ge 131 d_Gr_spread_64 h7 h8 (fun h11 => ?_) (fun h11 => ?_)
  · have h := ht h11
    refine V_drop 0 ?_
    refine V_drop 3 ?_
    refine V_drop 4 ?_
    exact h
  · have h := hf h11
    refine V_iload_n d_Gr_spread_67 rfl ?_
    obtain ⟨h9, h⟩ := h
    obtain ⟨ht, hf⟩ := h
    refine V_if_eq 131 d_Gr_spread_68 h9 (fun h10 => ?_) (fun h10 => ?_)
    · have h := ht h10
      refine V_drop 0 ?_
      refine V_drop 3 ?_
      refine V_drop 4 ?_
      exact h
    · have h := hf h10
      refine V_iconst d_Gr_spread_71 ?_
      refine V_istore_n d_Gr_spread_72 rfl ?_
      refine V_iconst d_Gr_spread_73 ?_
      refine V_istore d_Gr_spread_74 rfl ?_
      exact h
theorem s_Gr_spread_131 {x : am_Sc} {Po : Option am_AV → am_Sh → am_St → Prop} {σ : am_St}
    (h : Po none am_SH σ) : am_U x m_Gr_spread Po σ 131 [none, none, none, none, none, none, none] [] := by
  exact V_ret d_Gr_spread_131 rfl rfl h
theorem s_Gr_spread_76 {x : am_Sc} {Po : Option am_AV → am_Sh → am_St → Prop} {σ : am_St} {v3 v4 v5 : Int}
    (h : am_r v5 ∧ am_r (σ.1 1 0) ∧ (((σ.1 1 0) ≤ v5 → am_U x m_Gr_spread Po σ 58 [some (Zr 1), none, none, some (Zi v3), some (Zi (v4 + 1)), none, none] []) ∧ (¬ (σ.1 1 0) ≤ v5 → am_r (am_and v4 1) ∧ ((¬ (am_and v4 1) = 0 → am_U x m_Gr_spread Po σ 106 [some (Zr 1), none, none, some (Zi v3), some (Zi v4), some (Zi v5), none] [Zi (((σ.1 1 0) - 1) - v5)]) ∧ ((am_and v4 1) = 0 → am_U x m_Gr_spread Po σ 106 [some (Zr 1), none, none, some (Zi v3), some (Zi v4), some (Zi v5), none] [Zi v5]))))) : am_U x m_Gr_spread Po σ 76 [some (Zr 1), none, none, some (Zi v3), some (Zi v4), some (Zi v5), none] [] := by
  refine V_iload d_Gr_spread_76 rfl ?_
  refine V_aload_n d_Gr_spread_78 rfl ?_
  refine U_geti d_Gr_spread_79 fl_Gr_34 sh_1 ?_
  obtain ⟨h12, h⟩ := h
  obtain ⟨h13, h⟩ := h
  obtain ⟨ht, hf⟩ := h
  refine V_icmp_ge 125 d_Gr_spread_82 h12 h13 (fun h16 => ?_) (fun h16 => ?_)
  · have h := ht h16
    refine V_iinc d_Gr_spread_125 rfl rfl ?_
    refine V_goto 58 d_Gr_spread_128 ?_
    refine V_drop 5 ?_
    exact h
  · have h := hf h16
    refine V_iload d_Gr_spread_85 rfl ?_
    refine V_iconst d_Gr_spread_87 ?_
    refine V_iand d_Gr_spread_88 ?_
    obtain ⟨h14, h⟩ := h
    obtain ⟨ht, hf⟩ := h
    refine V_if_ne 97 d_Gr_spread_89 h14 (fun h15 => ?_) (fun h15 => ?_)
    · have h := ht h15
      refine V_aload_n d_Gr_spread_97 rfl ?_
      refine U_geti d_Gr_spread_98 fl_Gr_34 sh_1 ?_
      refine V_iconst d_Gr_spread_101 ?_
      refine V_isub d_Gr_spread_102 ?_
      refine V_iload d_Gr_spread_103 rfl ?_
      refine V_isub d_Gr_spread_105 ?_
      exact h
    · have h := hf h15
      refine V_iload d_Gr_spread_92 rfl ?_
      refine V_goto 106 d_Gr_spread_94 ?_
      exact h
theorem s_Gr_spread_106 {x : am_Sc} {Po : Option am_AV → am_Sh → am_St → Prop} {σ : am_St} {v3 v4 v5 vk0 : Int}
    (h : am_U x m_Gr_pull (fun ro5 so5 σ5 => ∃ z5 : Int, ro5 = some (Zi z5) ∧ so5 = am_SH ∧ am_r z5 ∧ ((z5 = 0 → am_U x m_Gr_spread Po σ5 119 [some (Zr 1), none, none, some (Zi v3), some (Zi v4), some (Zi v5), none] []) ∧ (¬ z5 = 0 → am_U x m_Gr_spread Po σ5 119 [some (Zr 1), none, none, some (Zi 1), some (Zi v4), some (Zi v5), none] []))) σ 0 [some (Zr 1), some (Zi vk0), none, none, none, none] []) : am_U x m_Gr_spread Po σ 106 [some (Zr 1), none, none, some (Zi v3), some (Zi v4), some (Zi v5), none] [Zi vk0] := by
  refine V_istore d_Gr_spread_106 rfl ?_
  refine V_aload_n d_Gr_spread_108 rfl ?_
  refine V_iload d_Gr_spread_109 rfl ?_
  refine U_iv1 cv_Gr_spread_61 d_Gr_spread_111 sh_1 rfl rfl (am_mono h ?_)
  rintro ro5 so5 σ5 ⟨z5, rfl, rfl, h⟩
  obtain ⟨h17, h⟩ := h
  obtain ⟨ht, hf⟩ := h
  refine V_if_eq 119 d_Gr_spread_114 h17 (fun h18 => ?_) (fun h18 => ?_)
  · have h := ht h18
    refine V_drop 6 ?_
    exact h
  · have h := hf h18
    refine V_iconst d_Gr_spread_117 ?_
    refine V_istore_n d_Gr_spread_118 rfl ?_
    refine V_drop 6 ?_
    exact h
theorem s_Gr_spread_119 {x : am_Sc} {Po : Option am_AV → am_Sh → am_St → Prop} {σ : am_St} {v3 v4 v5 : Int}
    (h : am_U x m_Gr_spread Po σ 76 [some (Zr 1), none, none, some (Zi v3), some (Zi v4), some (Zi (v5 + 1)), none] []) : am_U x m_Gr_spread Po σ 119 [some (Zr 1), none, none, some (Zi v3), some (Zi v4), some (Zi v5), none] [] := by
  refine V_iinc d_Gr_spread_119 rfl rfl ?_
  refine V_goto 76 d_Gr_spread_122 ?_
  exact h
theorem s_Gr_price_0 {x : am_Sc} {Po : Option am_AV → am_Sh → am_St → Prop} {σ : am_St} {v1 v2 : Int}
    (h : am_r v2 ∧ ((¬ v2 = 0 → am_U x m_Gr_price Po σ 17 [none, none, none] [Zi (am_div (v1 * (σ.1 1 1)) 10)]) ∧ (v2 = 0 → am_U x m_Gr_price Po σ 17 [none, none, none] [Zi v1]))) : am_U x m_Gr_price Po σ 0 [some (Zr 1), some (Zi v1), some (Zi v2)] [] := by
  refine V_iload_n d_Gr_price_0 rfl ?_
  obtain ⟨h1, h⟩ := h
  obtain ⟨ht, hf⟩ := h
  refine V_if_ne 8 d_Gr_price_1 h1 (fun h2 => ?_) (fun h2 => ?_)
  · have h := ht h2
    refine V_iload_n d_Gr_price_8 rfl ?_
    refine V_aload_n d_Gr_price_9 rfl ?_
    refine U_geti d_Gr_price_10 fl_Gr_9 sh_1 ?_
    refine V_imul d_Gr_price_13 ?_
    refine V_bipush d_Gr_price_14 ?_
    refine V_idiv d_Gr_price_16 (by decide) (by decide) ?_
    refine V_drop 0 ?_
    refine V_drop 1 ?_
    refine V_drop 2 ?_
    exact h
  · have h := hf h2
    refine V_iload_n d_Gr_price_4 rfl ?_
    refine V_goto 17 d_Gr_price_5 ?_
    refine V_drop 0 ?_
    refine V_drop 1 ?_
    refine V_drop 2 ?_
    exact h
theorem s_Gr_price_17 {x : am_Sc} {Po : Option am_AV → am_Sh → am_St → Prop} {σ : am_St} {vk0 : Int}
    (h : Po (some (Zi vk0)) am_SH σ) : am_U x m_Gr_price Po σ 17 [none, none, none] [Zi vk0] := by
  exact V_iret d_Gr_price_17 rfl rfl h
theorem s_Gr_pull_0 {x : am_Sc} {Po : Option am_AV → am_Sh → am_St → Prop} {σ : am_St} {v1 : Int}
    (h : am_U x m_Gr_pull Po σ 9 [some (Zr 1), some (Zi v1), some (Zi 0), some (Zi (v1 * 4)), some (Zi (v1 * 4)), none] []) : am_U x m_Gr_pull Po σ 0 [some (Zr 1), some (Zi v1), none, none, none, none] [] := by
  refine V_iconst d_Gr_pull_0 ?_
  refine V_istore_n d_Gr_pull_1 rfl ?_
  refine V_iload_n d_Gr_pull_2 rfl ?_
  refine V_iconst d_Gr_pull_3 ?_
  refine V_imul d_Gr_pull_4 ?_
  refine V_istore_n d_Gr_pull_5 rfl ?_
  refine V_iload_n d_Gr_pull_6 rfl ?_
  refine V_istore d_Gr_pull_7 rfl ?_
  exact h
theorem s_Gr_pull_9 {x : am_Sc} {Po : Option am_AV → am_Sh → am_St → Prop} {σ : am_St} {v1 v2 v3 v4 : Int}
    (h : am_r v4 ∧ am_r (v3 + 4) ∧ (((v3 + 4) ≤ v4 → (v2 = 0 ∨ v2 = 1) ∧ Po (some (Zi v2)) am_SH σ) ∧ (¬ (v3 + 4) ≤ v4 → (0 ≤ v4 ∧ v4 < 64) ∧ am_r (σ.1 4 v4.toNat) ∧ (((σ.1 4 v4.toNat) < 0 → am_U x m_Gr_pull Po σ 92 [some (Zr 1), some (Zi v1), some (Zi v2), some (Zi v3), some (Zi v4), none] []) ∧ (¬ (σ.1 4 v4.toNat) < 0 → (0 ≤ σ.1 4 v4.toNat ∧ σ.1 4 v4.toNat < 16) ∧ (0 ≤ v1 ∧ v1 < 16) ∧ am_r (((σ.1 6 (σ.1 4 v4.toNat).toNat) + (σ.1 5 (σ.1 4 v4.toNat).toNat)) + (σ.1 5 v1.toNat)) ∧ am_r (σ.1 6 v1.toNat) ∧ (((σ.1 6 v1.toNat) ≤ (((σ.1 6 (σ.1 4 v4.toNat).toNat) + (σ.1 5 (σ.1 4 v4.toNat).toNat)) + (σ.1 5 v1.toNat)) → am_U x m_Gr_pull Po σ 92 [some (Zr 1), some (Zi v1), some (Zi v2), some (Zi v3), some (Zi v4), none] []) ∧ (¬ (σ.1 6 v1.toNat) ≤ (((σ.1 6 (σ.1 4 v4.toNat).toNat) + (σ.1 5 (σ.1 4 v4.toNat).toNat)) + (σ.1 5 v1.toNat)) → (∀ σ1 : am_St, σ1 = (am_up σ.1 6 v1.toNat (((σ.1 6 (σ.1 4 v4.toNat).toNat) + (σ.1 5 (σ.1 4 v4.toNat).toNat)) + (σ.1 5 v1.toNat)), σ.2) → am_U x m_Gr_pull Po σ1 92 [some (Zr 1), some (Zi v1), some (Zi 1), some (Zi v3), some (Zi v4), none] [])))))))) : am_U x m_Gr_pull Po σ 9 [some (Zr 1), some (Zi v1), some (Zi v2), some (Zi v3), some (Zi v4), none] [] := by
  refine V_iload d_Gr_pull_9 rfl ?_
  refine V_iload_n d_Gr_pull_11 rfl ?_
  refine V_iconst d_Gr_pull_12 ?_
  refine V_iadd d_Gr_pull_13 ?_
  obtain ⟨h1, h⟩ := h
  obtain ⟨h2, h⟩ := h
  obtain ⟨ht, hf⟩ := h
  refine V_icmp_ge 98 d_Gr_pull_14 h1 h2 (fun h12 => ?_) (fun h12 => ?_)
  · have h := ht h12
    refine V_iload_n d_Gr_pull_98 rfl ?_
    obtain ⟨h3, h⟩ := h
    exact V_zret d_Gr_pull_99 rfl rfl h3 h
  · have h := hf h12
    refine V_aload_n d_Gr_pull_17 rfl ?_
    refine U_geta d_Gr_pull_18 fl_Gr_22 sh_1 rfl ?_
    refine V_iload d_Gr_pull_21 rfl ?_
    obtain ⟨h4, h⟩ := h
    refine U_iald d_Gr_pull_23 sh_4 h4 ?_
    refine V_istore d_Gr_pull_24 rfl ?_
    refine V_iload d_Gr_pull_26 rfl ?_
    obtain ⟨h5, h⟩ := h
    obtain ⟨ht, hf⟩ := h
    refine V_if_lt 92 d_Gr_pull_28 h5 (fun h11 => ?_) (fun h11 => ?_)
    · have h := ht h11
      refine V_drop 5 ?_
      exact h
    · have h := hf h11
      refine V_aload_n d_Gr_pull_31 rfl ?_
      refine U_geta d_Gr_pull_32 fl_Gr_28 sh_1 rfl ?_
      refine V_iload d_Gr_pull_35 rfl ?_
      obtain ⟨h6, h⟩ := h
      refine U_iald d_Gr_pull_37 sh_6 h6 ?_
      refine V_aload_n d_Gr_pull_38 rfl ?_
      refine U_geta d_Gr_pull_39 fl_Gr_25 sh_1 rfl ?_
      refine V_iload d_Gr_pull_42 rfl ?_
      refine U_iald d_Gr_pull_44 sh_5 h6 ?_
      refine V_iadd d_Gr_pull_45 ?_
      refine V_aload_n d_Gr_pull_46 rfl ?_
      refine U_geta d_Gr_pull_47 fl_Gr_25 sh_1 rfl ?_
      refine V_iload_n d_Gr_pull_50 rfl ?_
      obtain ⟨h7, h⟩ := h
      refine U_iald d_Gr_pull_51 sh_5 h7 ?_
      refine V_iadd d_Gr_pull_52 ?_
      refine V_aload_n d_Gr_pull_53 rfl ?_
      refine U_geta d_Gr_pull_54 fl_Gr_28 sh_1 rfl ?_
      refine V_iload_n d_Gr_pull_57 rfl ?_
      refine U_iald d_Gr_pull_58 sh_6 h7 ?_
      obtain ⟨h8, h⟩ := h
      obtain ⟨h9, h⟩ := h
      obtain ⟨ht, hf⟩ := h
      refine V_icmp_ge 92 d_Gr_pull_59 h8 h9 (fun h10 => ?_) (fun h10 => ?_)
      · have h := ht h10
        refine V_drop 5 ?_
        exact h
      · have h := hf h10
        refine V_aload_n d_Gr_pull_62 rfl ?_
        refine U_geta d_Gr_pull_63 fl_Gr_28 sh_1 rfl ?_
        refine V_iload_n d_Gr_pull_66 rfl ?_
        refine V_aload_n d_Gr_pull_67 rfl ?_
        refine U_geta d_Gr_pull_68 fl_Gr_28 sh_1 rfl ?_
        refine V_iload d_Gr_pull_71 rfl ?_
        refine U_iald d_Gr_pull_73 sh_6 h6 ?_
        refine V_aload_n d_Gr_pull_74 rfl ?_
        refine U_geta d_Gr_pull_75 fl_Gr_25 sh_1 rfl ?_
        refine V_iload d_Gr_pull_78 rfl ?_
        refine U_iald d_Gr_pull_80 sh_5 h6 ?_
        refine V_iadd d_Gr_pull_81 ?_
        refine V_aload_n d_Gr_pull_82 rfl ?_
        refine U_geta d_Gr_pull_83 fl_Gr_25 sh_1 rfl ?_
        refine V_iload_n d_Gr_pull_86 rfl ?_
        refine U_iald d_Gr_pull_87 sh_5 h7 ?_
        refine V_iadd d_Gr_pull_88 ?_
        refine U_iast d_Gr_pull_89 sh_6 h7 ?_
        have h := h _ rfl
        refine V_iconst d_Gr_pull_90 ?_
        refine V_istore_n d_Gr_pull_91 rfl ?_
        refine V_drop 5 ?_
        exact h
theorem s_Gr_pull_92 {x : am_Sc} {Po : Option am_AV → am_Sh → am_St → Prop} {σ : am_St} {v1 v2 v3 v4 : Int}
    (h : am_U x m_Gr_pull Po σ 9 [some (Zr 1), some (Zi v1), some (Zi v2), some (Zi v3), some (Zi (v4 + 1)), none] []) : am_U x m_Gr_pull Po σ 92 [some (Zr 1), some (Zi v1), some (Zi v2), some (Zi v3), some (Zi v4), none] [] := by
  refine V_iinc d_Gr_pull_92 rfl rfl ?_
  refine V_goto 9 d_Gr_pull_95 ?_
  exact h
theorem s_Gr_trace_0 {x : am_Sc} {Po : Option am_AV → am_Sh → am_St → Prop} {σ : am_St} {v1 : Int}
    (h : (∀ σ1 : am_St, σ1 = (am_up σ.1 7 (0 : Int).toNat v1, σ.2) → (∀ σ2 : am_St, σ2 = (am_up σ1.1 1 8 1, σ1.2) → am_U x m_Gr_trace Po σ2 14 [some (Zr 1), none, some (Zi v1)] []))) : am_U x m_Gr_trace Po σ 0 [some (Zr 1), some (Zi v1), none] [] := by
  refine V_iload_n d_Gr_trace_0 rfl ?_
  refine V_istore_n d_Gr_trace_1 rfl ?_
  refine V_aload_n d_Gr_trace_2 rfl ?_
  refine U_geta d_Gr_trace_3 fl_Gr_31 sh_1 rfl ?_
  refine V_iconst d_Gr_trace_6 ?_
  refine V_iload_n d_Gr_trace_7 rfl ?_
  refine U_iast d_Gr_trace_8 sh_7 (by decide) ?_
  have h := h _ rfl
  refine V_aload_n d_Gr_trace_9 rfl ?_
  refine V_iconst d_Gr_trace_10 ?_
  refine U_puti d_Gr_trace_11 fw_Gr_65 sh_1 ?_
  have h := h _ rfl
  refine V_drop 1 ?_
  exact h
theorem s_Gr_trace_14 {x : am_Sc} {Po : Option am_AV → am_Sh → am_St → Prop} {σ : am_St} {v2 : Int}
    (h : am_r (σ.1 1 8) ∧ am_r (σ.1 1 0) ∧ (((σ.1 1 0) ≤ (σ.1 1 8) → am_U x m_Gr_trace Po σ 63 [none, none, none] []) ∧ (¬ (σ.1 1 0) ≤ (σ.1 1 8) → (0 ≤ v2 ∧ v2 < 16) ∧ am_r (σ.1 6 v2.toNat) ∧ (((σ.1 6 v2.toNat) ≤ 0 → am_U x m_Gr_trace Po σ 63 [none, none, none] []) ∧ (¬ (σ.1 6 v2.toNat) ≤ 0 → am_U x m_Gr_nextOnWay (fun ro3 so3 σ3 => ∃ z3 : Int, ro3 = some (Zi z3) ∧ so3 = am_SH ∧ (0 ≤ σ3.1 1 8 ∧ σ3.1 1 8 < 16) ∧ (∀ σ4 : am_St, σ4 = (am_up σ3.1 7 (σ3.1 1 8).toNat z3, σ3.2) → (∀ σ5 : am_St, σ5 = (am_up σ4.1 1 8 ((σ4.1 1 8) + 1), σ4.2) → am_U x m_Gr_trace Po σ5 14 [some (Zr 1), none, some (Zi z3)] []))) σ 0 [some (Zr 1), some (Zi v2), none, none, none] []))))) : am_U x m_Gr_trace Po σ 14 [some (Zr 1), none, some (Zi v2)] [] := by
  refine V_aload_n d_Gr_trace_14 rfl ?_
  refine U_geti d_Gr_trace_15 fl_Gr_65 sh_1 ?_
  refine V_aload_n d_Gr_trace_18 rfl ?_
  refine U_geti d_Gr_trace_19 fl_Gr_34 sh_1 ?_
  obtain ⟨h1, h⟩ := h
  obtain ⟨h2, h⟩ := h
  obtain ⟨ht, hf⟩ := h
  refine V_icmp_ge 63 d_Gr_trace_22 h1 h2 (fun h7 => ?_) (fun h7 => ?_)
  · have h := ht h7
    refine V_drop 0 ?_
    refine V_drop 2 ?_
    exact h
  · have h := hf h7
    refine V_aload_n d_Gr_trace_25 rfl ?_
    refine U_geta d_Gr_trace_26 fl_Gr_28 sh_1 rfl ?_
    refine V_iload_n d_Gr_trace_29 rfl ?_
    obtain ⟨h3, h⟩ := h
    refine U_iald d_Gr_trace_30 sh_6 h3 ?_
    obtain ⟨h4, h⟩ := h
    obtain ⟨ht, hf⟩ := h
    refine V_if_le 63 d_Gr_trace_31 h4 (fun h6 => ?_) (fun h6 => ?_)
    · have h := ht h6
      refine V_drop 0 ?_
      refine V_drop 2 ?_
      exact h
    · have h := hf h6
      refine V_aload_n d_Gr_trace_34 rfl ?_
      refine V_iload_n d_Gr_trace_35 rfl ?_
      refine U_iv1 cv_Gr_trace_68 d_Gr_trace_36 sh_1 rfl rfl (am_mono h ?_)
      rintro ro3 so3 σ3 ⟨z3, rfl, rfl, h⟩
      refine V_istore_n d_Gr_trace_39 rfl ?_
      refine V_aload_n d_Gr_trace_40 rfl ?_
      refine U_geta d_Gr_trace_41 fl_Gr_31 sh_1 rfl ?_
      refine V_aload_n d_Gr_trace_44 rfl ?_
      refine U_geti d_Gr_trace_45 fl_Gr_65 sh_1 ?_
      refine V_iload_n d_Gr_trace_48 rfl ?_
      obtain ⟨h5, h⟩ := h
      refine U_iast d_Gr_trace_49 sh_7 h5 ?_
      have h := h _ rfl
      refine V_aload_n d_Gr_trace_50 rfl ?_
      refine V_dup d_Gr_trace_51 ?_
      refine U_geti d_Gr_trace_52 fl_Gr_65 sh_1 ?_
      refine V_iconst d_Gr_trace_55 ?_
      refine V_iadd d_Gr_trace_56 ?_
      refine U_puti d_Gr_trace_57 fw_Gr_65 sh_1 ?_
      have h := h _ rfl
      refine V_goto 14 d_Gr_trace_60 ?_
      exact h
theorem s_Gr_trace_63 {x : am_Sc} {Po : Option am_AV → am_Sh → am_St → Prop} {σ : am_St}
    (h : Po none am_SH σ) : am_U x m_Gr_trace Po σ 63 [none, none, none] [] := by
  exact V_ret d_Gr_trace_63 rfl rfl h
theorem s_Gr_nextOnWay_0 {x : am_Sc} {Po : Option am_AV → am_Sh → am_St → Prop} {σ : am_St} {v1 : Int}
    (h : am_U x m_Gr_nextOnWay Po σ 6 [some (Zr 1), some (Zi v1), some (Zi (v1 * 4)), some (Zi (v1 * 4)), none] []) : am_U x m_Gr_nextOnWay Po σ 0 [some (Zr 1), some (Zi v1), none, none, none] [] := by
  refine V_iload_n d_Gr_nextOnWay_0 rfl ?_
  refine V_iconst d_Gr_nextOnWay_1 ?_
  refine V_imul d_Gr_nextOnWay_2 ?_
  refine V_istore_n d_Gr_nextOnWay_3 rfl ?_
  refine V_iload_n d_Gr_nextOnWay_4 rfl ?_
  refine V_istore_n d_Gr_nextOnWay_5 rfl ?_
  exact h
theorem s_Gr_nextOnWay_6 {x : am_Sc} {Po : Option am_AV → am_Sh → am_St → Prop} {σ : am_St} {v1 v2 v3 : Int}
    (h : am_r v3 ∧ am_r (v2 + 4) ∧ (((v2 + 4) ≤ v3 → Po (some (Zi v1)) am_SH σ) ∧ (¬ (v2 + 4) ≤ v3 → (0 ≤ v3 ∧ v3 < 64) ∧ am_r (σ.1 4 v3.toNat) ∧ (((σ.1 4 v3.toNat) < 0 → am_U x m_Gr_nextOnWay Po σ 60 [some (Zr 1), some (Zi v1), some (Zi v2), some (Zi v3), none] []) ∧ (¬ (σ.1 4 v3.toNat) < 0 → (0 ≤ σ.1 4 v3.toNat ∧ σ.1 4 v3.toNat < 16) ∧ (0 ≤ v1 ∧ v1 < 16) ∧ am_r (((σ.1 6 (σ.1 4 v3.toNat).toNat) + (σ.1 5 (σ.1 4 v3.toNat).toNat)) + (σ.1 5 v1.toNat)) ∧ am_r (σ.1 6 v1.toNat) ∧ ((¬ (((σ.1 6 (σ.1 4 v3.toNat).toNat) + (σ.1 5 (σ.1 4 v3.toNat).toNat)) + (σ.1 5 v1.toNat)) = (σ.1 6 v1.toNat) → am_U x m_Gr_nextOnWay Po σ 60 [some (Zr 1), some (Zi v1), some (Zi v2), some (Zi v3), none] []) ∧ ((((σ.1 6 (σ.1 4 v3.toNat).toNat) + (σ.1 5 (σ.1 4 v3.toNat).toNat)) + (σ.1 5 v1.toNat)) = (σ.1 6 v1.toNat) → Po (some (Zi (σ.1 4 v3.toNat))) am_SH σ))))))) : am_U x m_Gr_nextOnWay Po σ 6 [some (Zr 1), some (Zi v1), some (Zi v2), some (Zi v3), none] [] := by
  refine V_iload_n d_Gr_nextOnWay_6 rfl ?_
  refine V_iload_n d_Gr_nextOnWay_7 rfl ?_
  refine V_iconst d_Gr_nextOnWay_8 ?_
  refine V_iadd d_Gr_nextOnWay_9 ?_
  obtain ⟨h1, h⟩ := h
  obtain ⟨h2, h⟩ := h
  obtain ⟨ht, hf⟩ := h
  refine V_icmp_ge 66 d_Gr_nextOnWay_10 h1 h2 (fun h11 => ?_) (fun h11 => ?_)
  · have h := ht h11
    refine V_iload_n d_Gr_nextOnWay_66 rfl ?_
    exact V_iret d_Gr_nextOnWay_67 rfl rfl h
  · have h := hf h11
    refine V_aload_n d_Gr_nextOnWay_13 rfl ?_
    refine U_geta d_Gr_nextOnWay_14 fl_Gr_22 sh_1 rfl ?_
    refine V_iload_n d_Gr_nextOnWay_17 rfl ?_
    obtain ⟨h3, h⟩ := h
    refine U_iald d_Gr_nextOnWay_18 sh_4 h3 ?_
    refine V_istore d_Gr_nextOnWay_19 rfl ?_
    refine V_iload d_Gr_nextOnWay_21 rfl ?_
    obtain ⟨h4, h⟩ := h
    obtain ⟨ht, hf⟩ := h
    refine V_if_lt 60 d_Gr_nextOnWay_23 h4 (fun h10 => ?_) (fun h10 => ?_)
    · have h := ht h10
      refine V_drop 4 ?_
      exact h
    · have h := hf h10
      refine V_aload_n d_Gr_nextOnWay_26 rfl ?_
      refine U_geta d_Gr_nextOnWay_27 fl_Gr_28 sh_1 rfl ?_
      refine V_iload d_Gr_nextOnWay_30 rfl ?_
      obtain ⟨h5, h⟩ := h
      refine U_iald d_Gr_nextOnWay_32 sh_6 h5 ?_
      refine V_aload_n d_Gr_nextOnWay_33 rfl ?_
      refine U_geta d_Gr_nextOnWay_34 fl_Gr_25 sh_1 rfl ?_
      refine V_iload d_Gr_nextOnWay_37 rfl ?_
      refine U_iald d_Gr_nextOnWay_39 sh_5 h5 ?_
      refine V_iadd d_Gr_nextOnWay_40 ?_
      refine V_aload_n d_Gr_nextOnWay_41 rfl ?_
      refine U_geta d_Gr_nextOnWay_42 fl_Gr_25 sh_1 rfl ?_
      refine V_iload_n d_Gr_nextOnWay_45 rfl ?_
      obtain ⟨h6, h⟩ := h
      refine U_iald d_Gr_nextOnWay_46 sh_5 h6 ?_
      refine V_iadd d_Gr_nextOnWay_47 ?_
      refine V_aload_n d_Gr_nextOnWay_48 rfl ?_
      refine U_geta d_Gr_nextOnWay_49 fl_Gr_28 sh_1 rfl ?_
      refine V_iload_n d_Gr_nextOnWay_52 rfl ?_
      refine U_iald d_Gr_nextOnWay_53 sh_6 h6 ?_
      obtain ⟨h7, h⟩ := h
      obtain ⟨h8, h⟩ := h
      obtain ⟨ht, hf⟩ := h
      refine V_icmp_ne 60 d_Gr_nextOnWay_54 h7 h8 (fun h9 => ?_) (fun h9 => ?_)
      · have h := ht h9
        refine V_drop 4 ?_
        exact h
      · have h := hf h9
        refine V_iload d_Gr_nextOnWay_57 rfl ?_
        exact V_iret d_Gr_nextOnWay_59 rfl rfl h
theorem s_Gr_nextOnWay_60 {x : am_Sc} {Po : Option am_AV → am_Sh → am_St → Prop} {σ : am_St} {v1 v2 v3 : Int}
    (h : am_U x m_Gr_nextOnWay Po σ 6 [some (Zr 1), some (Zi v1), some (Zi v2), some (Zi (v3 + 1)), none] []) : am_U x m_Gr_nextOnWay Po σ 60 [some (Zr 1), some (Zi v1), some (Zi v2), some (Zi v3), none] [] := by
  refine V_iinc d_Gr_nextOnWay_60 rfl rfl ?_
  refine V_goto 6 d_Gr_nextOnWay_63 ?_
  exact h
theorem s_Bo_addEar_0 {x : am_Sc} {Po : Option am_AV → am_Sh → am_St → Prop} {σ : am_St} {v1 : Int}
    (h : (0 ≤ σ.1 8 0 ∧ σ.1 8 0 < 6) ∧ (∀ σ1 : am_St, σ1 = (am_up σ.1 9 (σ.1 8 0).toNat v1, σ.2) → (0 ≤ σ1.1 8 0 ∧ σ1.1 8 0 < 6) ∧ (∀ σ2 : am_St, σ2 = (am_up σ1.1 10 (σ1.1 8 0).toNat 0, σ1.2) → (∀ σ3 : am_St, σ3 = (am_up σ2.1 8 0 ((σ2.1 8 0) + 1), σ2.2) → Po (some (Zi ((σ3.1 8 0) - 1))) am_SH σ3)))) : am_U x m_Bo_addEar Po σ 0 [some (Zr 8), some (Zi v1)] [] := by
  refine V_aload_n d_Bo_addEar_0 rfl ?_
  refine U_geta d_Bo_addEar_1 fl_Bo_9 sh_8 rfl ?_
  refine V_aload_n d_Bo_addEar_4 rfl ?_
  refine U_geti d_Bo_addEar_5 fl_Bo_45 sh_8 ?_
  refine V_iload_n d_Bo_addEar_8 rfl ?_
  obtain ⟨h1, h⟩ := h
  refine U_iast d_Bo_addEar_9 sh_9 h1 ?_
  have h := h _ rfl
  refine V_aload_n d_Bo_addEar_10 rfl ?_
  refine U_geta d_Bo_addEar_11 fl_Bo_15 sh_8 rfl ?_
  refine V_aload_n d_Bo_addEar_14 rfl ?_
  refine U_geti d_Bo_addEar_15 fl_Bo_45 sh_8 ?_
  refine V_iconst d_Bo_addEar_18 ?_
  obtain ⟨h2, h⟩ := h
  refine U_iast d_Bo_addEar_19 sh_10 h2 ?_
  have h := h _ rfl
  refine V_aload_n d_Bo_addEar_20 rfl ?_
  refine V_dup d_Bo_addEar_21 ?_
  refine U_geti d_Bo_addEar_22 fl_Bo_45 sh_8 ?_
  refine V_iconst d_Bo_addEar_25 ?_
  refine V_iadd d_Bo_addEar_26 ?_
  refine U_puti d_Bo_addEar_27 fw_Bo_45 sh_8 ?_
  have h := h _ rfl
  refine V_aload_n d_Bo_addEar_30 rfl ?_
  refine U_geti d_Bo_addEar_31 fl_Bo_45 sh_8 ?_
  refine V_iconst d_Bo_addEar_34 ?_
  refine V_isub d_Bo_addEar_35 ?_
  exact V_iret d_Bo_addEar_36 rfl rfl h
theorem s_Bo_addShake_0 {x : am_Sc} {Po : Option am_AV → am_Sh → am_St → Prop} {σ : am_St} {v1 v2 : Int}
    (h : am_U x m_Bo_placeShake (fun ro1 so1 σ1 => ro1 = none ∧ so1 = am_SH ∧ (∀ σ2 : am_St, σ2 = (am_up σ1.1 8 3 ((σ1.1 8 3) + 1), σ1.2) → Po (some (Zi ((σ2.1 8 3) - 1))) am_SH σ2)) σ 0 [some (Zr 8), some (Zi (σ.1 8 3)), some (Zi v1), some (Zi v2)] []) : am_U x m_Bo_addShake Po σ 0 [some (Zr 8), some (Zi v1), some (Zi v2)] [] := by
  refine V_aload_n d_Bo_addShake_0 rfl ?_
  refine V_aload_n d_Bo_addShake_1 rfl ?_
  refine U_geti d_Bo_addShake_2 fl_Bo_49 sh_8 ?_
  refine V_iload_n d_Bo_addShake_5 rfl ?_
  refine V_iload_n d_Bo_addShake_6 rfl ?_
  refine U_iv3 cv_Bo_addShake_58 d_Bo_addShake_7 sh_8 rfl rfl (am_mono h ?_)
  rintro ro1 so1 σ1 ⟨rfl, rfl, h⟩
  refine V_aload_n d_Bo_addShake_10 rfl ?_
  refine V_dup d_Bo_addShake_11 ?_
  refine U_geti d_Bo_addShake_12 fl_Bo_49 sh_8 ?_
  refine V_iconst d_Bo_addShake_15 ?_
  refine V_iadd d_Bo_addShake_16 ?_
  refine U_puti d_Bo_addShake_17 fw_Bo_49 sh_8 ?_
  have h := h _ rfl
  refine V_aload_n d_Bo_addShake_20 rfl ?_
  refine U_geti d_Bo_addShake_21 fl_Bo_49 sh_8 ?_
  refine V_iconst d_Bo_addShake_24 ?_
  refine V_isub d_Bo_addShake_25 ?_
  exact V_iret d_Bo_addShake_26 rfl rfl h
theorem s_Bo_placeShake_0 {x : am_Sc} {Po : Option am_AV → am_Sh → am_St → Prop} {σ : am_St} {v1 v2 v3 : Int}
    (h : (0 ≤ v1 ∧ v1 < 5) ∧ (∀ σ1 : am_St, σ1 = (am_up σ.1 11 v1.toNat v2, σ.2) → (∀ σ2 : am_St, σ2 = (am_up σ1.1 12 v1.toNat v3, σ1.2) → Po none am_SH σ2))) : am_U x m_Bo_placeShake Po σ 0 [some (Zr 8), some (Zi v1), some (Zi v2), some (Zi v3)] [] := by
  refine V_aload_n d_Bo_placeShake_0 rfl ?_
  refine U_geta d_Bo_placeShake_1 fl_Bo_18 sh_8 rfl ?_
  refine V_iload_n d_Bo_placeShake_4 rfl ?_
  refine V_iload_n d_Bo_placeShake_5 rfl ?_
  obtain ⟨h1, h⟩ := h
  refine U_iast d_Bo_placeShake_6 sh_11 h1 ?_
  have h := h _ rfl
  refine V_aload_n d_Bo_placeShake_7 rfl ?_
  refine U_geta d_Bo_placeShake_8 fl_Bo_21 sh_8 rfl ?_
  refine V_iload_n d_Bo_placeShake_11 rfl ?_
  refine V_iload_n d_Bo_placeShake_12 rfl ?_
  refine U_iast d_Bo_placeShake_13 sh_12 h1 ?_
  have h := h _ rfl
  exact V_ret d_Bo_placeShake_14 rfl rfl h
theorem s_Bo_addPick_0 {x : am_Sc} {Po : Option am_AV → am_Sh → am_St → Prop} {σ : am_St} {v1 v2 v3 : Int}
    (h : (0 ≤ σ.1 8 6 ∧ σ.1 8 6 < 12) ∧ (∀ σ1 : am_St, σ1 = (am_up σ.1 13 (σ.1 8 6).toNat v1, σ.2) → (0 ≤ σ1.1 8 6 ∧ σ1.1 8 6 < 12) ∧ (∀ σ2 : am_St, σ2 = (am_up σ1.1 14 (σ1.1 8 6).toNat v2, σ1.2) → (0 ≤ σ2.1 8 6 ∧ σ2.1 8 6 < 12) ∧ (∀ σ3 : am_St, σ3 = (am_up σ2.1 15 (σ2.1 8 6).toNat v3, σ2.2) → (∀ σ4 : am_St, σ4 = (am_up σ3.1 8 6 ((σ3.1 8 6) + 1), σ3.2) → Po (some (Zi ((σ4.1 8 6) - 1))) am_SH σ4))))) : am_U x m_Bo_addPick Po σ 0 [some (Zr 8), some (Zi v1), some (Zi v2), some (Zi v3)] [] := by
  refine V_aload_n d_Bo_addPick_0 rfl ?_
  refine U_geta d_Bo_addPick_1 fl_Bo_24 sh_8 rfl ?_
  refine V_aload_n d_Bo_addPick_4 rfl ?_
  refine U_geti d_Bo_addPick_5 fl_Bo_52 sh_8 ?_
  refine V_iload_n d_Bo_addPick_8 rfl ?_
  obtain ⟨h1, h⟩ := h
  refine U_iast d_Bo_addPick_9 sh_13 h1 ?_
  have h := h _ rfl
  refine V_aload_n d_Bo_addPick_10 rfl ?_
  refine U_geta d_Bo_addPick_11 fl_Bo_27 sh_8 rfl ?_
  refine V_aload_n d_Bo_addPick_14 rfl ?_
  refine U_geti d_Bo_addPick_15 fl_Bo_52 sh_8 ?_
  refine V_iload_n d_Bo_addPick_18 rfl ?_
  obtain ⟨h2, h⟩ := h
  refine U_iast d_Bo_addPick_19 sh_14 h2 ?_
  have h := h _ rfl
  refine V_aload_n d_Bo_addPick_20 rfl ?_
  refine U_geta d_Bo_addPick_21 fl_Bo_30 sh_8 rfl ?_
  refine V_aload_n d_Bo_addPick_24 rfl ?_
  refine U_geti d_Bo_addPick_25 fl_Bo_52 sh_8 ?_
  refine V_iload_n d_Bo_addPick_28 rfl ?_
  obtain ⟨h3, h⟩ := h
  refine U_iast d_Bo_addPick_29 sh_15 h3 ?_
  have h := h _ rfl
  refine V_aload_n d_Bo_addPick_30 rfl ?_
  refine V_dup d_Bo_addPick_31 ?_
  refine U_geti d_Bo_addPick_32 fl_Bo_52 sh_8 ?_
  refine V_iconst d_Bo_addPick_35 ?_
  refine V_iadd d_Bo_addPick_36 ?_
  refine U_puti d_Bo_addPick_37 fw_Bo_52 sh_8 ?_
  have h := h _ rfl
  refine V_aload_n d_Bo_addPick_40 rfl ?_
  refine U_geti d_Bo_addPick_41 fl_Bo_52 sh_8 ?_
  refine V_iconst d_Bo_addPick_44 ?_
  refine V_isub d_Bo_addPick_45 ?_
  exact V_iret d_Bo_addPick_46 rfl rfl h
theorem s_Bo_addTelling_0 {x : am_Sc} {Po : Option am_AV → am_Sh → am_St → Prop} {σ : am_St} {v1 v2 v3 : Int}
    (h : (0 ≤ σ.1 8 10 ∧ σ.1 8 10 < 40) ∧ (∀ σ1 : am_St, σ1 = (am_up σ.1 16 (σ.1 8 10).toNat v1, σ.2) → (0 ≤ σ1.1 8 10 ∧ σ1.1 8 10 < 40) ∧ (∀ σ2 : am_St, σ2 = (am_up σ1.1 17 (σ1.1 8 10).toNat (σ1.1 8 15), σ1.2) → (0 ≤ σ2.1 8 10 ∧ σ2.1 8 10 < 40) ∧ (∀ σ3 : am_St, σ3 = (am_up σ2.1 18 (σ2.1 8 10).toNat v2, σ2.2) → (0 ≤ σ3.1 8 10 ∧ σ3.1 8 10 < 40) ∧ (∀ σ4 : am_St, σ4 = (am_up σ3.1 19 (σ3.1 8 10).toNat v3, σ3.2) → (∀ σ5 : am_St, σ5 = (am_up σ4.1 8 10 ((σ4.1 8 10) + 1), σ4.2) → Po none am_SH σ5)))))) : am_U x m_Bo_addTelling Po σ 0 [some (Zr 8), some (Zi v1), some (Zi v2), some (Zi v3)] [] := by
  refine V_aload_n d_Bo_addTelling_0 rfl ?_
  refine U_geta d_Bo_addTelling_1 fl_Bo_33 sh_8 rfl ?_
  refine V_aload_n d_Bo_addTelling_4 rfl ?_
  refine U_geti d_Bo_addTelling_5 fl_Bo_55 sh_8 ?_
  refine V_iload_n d_Bo_addTelling_8 rfl ?_
  obtain ⟨h1, h⟩ := h
  refine U_iast d_Bo_addTelling_9 sh_16 h1 ?_
  have h := h _ rfl
  refine V_aload_n d_Bo_addTelling_10 rfl ?_
  refine U_geta d_Bo_addTelling_11 fl_Bo_36 sh_8 rfl ?_
  refine V_aload_n d_Bo_addTelling_14 rfl ?_
  refine U_geti d_Bo_addTelling_15 fl_Bo_55 sh_8 ?_
  refine V_aload_n d_Bo_addTelling_18 rfl ?_
  refine U_geti d_Bo_addTelling_19 fl_Bo_62 sh_8 ?_
  obtain ⟨h2, h⟩ := h
  refine U_iast d_Bo_addTelling_22 sh_17 h2 ?_
  have h := h _ rfl
  refine V_aload_n d_Bo_addTelling_23 rfl ?_
  refine U_geta d_Bo_addTelling_24 fl_Bo_39 sh_8 rfl ?_
  refine V_aload_n d_Bo_addTelling_27 rfl ?_
  refine U_geti d_Bo_addTelling_28 fl_Bo_55 sh_8 ?_
  refine V_iload_n d_Bo_addTelling_31 rfl ?_
  obtain ⟨h3, h⟩ := h
  refine U_iast d_Bo_addTelling_32 sh_18 h3 ?_
  have h := h _ rfl
  refine V_aload_n d_Bo_addTelling_33 rfl ?_
  refine U_geta d_Bo_addTelling_34 fl_Bo_42 sh_8 rfl ?_
  refine V_aload_n d_Bo_addTelling_37 rfl ?_
  refine U_geti d_Bo_addTelling_38 fl_Bo_55 sh_8 ?_
  refine V_iload_n d_Bo_addTelling_41 rfl ?_
  obtain ⟨h4, h⟩ := h
  refine U_iast d_Bo_addTelling_42 sh_19 h4 ?_
  have h := h _ rfl
  refine V_aload_n d_Bo_addTelling_43 rfl ?_
  refine V_dup d_Bo_addTelling_44 ?_
  refine U_geti d_Bo_addTelling_45 fl_Bo_55 sh_8 ?_
  refine V_iconst d_Bo_addTelling_48 ?_
  refine V_iadd d_Bo_addTelling_49 ?_
  refine U_puti d_Bo_addTelling_50 fw_Bo_55 sh_8 ?_
  have h := h _ rfl
  exact V_ret d_Bo_addTelling_53 rfl rfl h
theorem s_Bo_cellOfShake_0 {x : am_Sc} {Po : Option am_AV → am_Sh → am_St → Prop} {σ : am_St} {v1 : Int}
    (h : (0 ≤ v1 ∧ v1 < 12) ∧ (0 ≤ σ.1 14 v1.toNat ∧ σ.1 14 v1.toNat < 5) ∧ Po (some (Zi (σ.1 11 (σ.1 14 v1.toNat).toNat))) am_SH σ) : am_U x m_Bo_cellOfShake Po σ 0 [some (Zr 8), some (Zi v1)] [] := by
  refine V_aload_n d_Bo_cellOfShake_0 rfl ?_
  refine U_geta d_Bo_cellOfShake_1 fl_Bo_18 sh_8 rfl ?_
  refine V_aload_n d_Bo_cellOfShake_4 rfl ?_
  refine U_geta d_Bo_cellOfShake_5 fl_Bo_27 sh_8 rfl ?_
  refine V_iload_n d_Bo_cellOfShake_8 rfl ?_
  obtain ⟨h1, h⟩ := h
  refine U_iald d_Bo_cellOfShake_9 sh_14 h1 ?_
  obtain ⟨h2, h⟩ := h
  refine U_iald d_Bo_cellOfShake_10 sh_11 h2 ?_
  exact V_iret d_Bo_cellOfShake_11 rfl rfl h
theorem s_Bo_begunOf_0 {x : am_Sc} {Po : Option am_AV → am_Sh → am_St → Prop} {σ : am_St} {v1 : Int}
    (h : (0 ≤ v1 ∧ v1 < 12) ∧ (0 ≤ σ.1 14 v1.toNat ∧ σ.1 14 v1.toNat < 5) ∧ Po (some (Zi (σ.1 12 (σ.1 14 v1.toNat).toNat))) am_SH σ) : am_U x m_Bo_begunOf Po σ 0 [some (Zr 8), some (Zi v1)] [] := by
  refine V_aload_n d_Bo_begunOf_0 rfl ?_
  refine U_geta d_Bo_begunOf_1 fl_Bo_21 sh_8 rfl ?_
  refine V_aload_n d_Bo_begunOf_4 rfl ?_
  refine U_geta d_Bo_begunOf_5 fl_Bo_27 sh_8 rfl ?_
  refine V_iload_n d_Bo_begunOf_8 rfl ?_
  obtain ⟨h1, h⟩ := h
  refine U_iald d_Bo_begunOf_9 sh_14 h1 ?_
  obtain ⟨h2, h⟩ := h
  refine U_iald d_Bo_begunOf_10 sh_12 h2 ?_
  exact V_iret d_Bo_begunOf_11 rfl rfl h
theorem s_Bo_cellOfEar_0 {x : am_Sc} {Po : Option am_AV → am_Sh → am_St → Prop} {σ : am_St} {v1 : Int}
    (h : (0 ≤ v1 ∧ v1 < 12) ∧ (0 ≤ σ.1 13 v1.toNat ∧ σ.1 13 v1.toNat < 6) ∧ Po (some (Zi (σ.1 9 (σ.1 13 v1.toNat).toNat))) am_SH σ) : am_U x m_Bo_cellOfEar Po σ 0 [some (Zr 8), some (Zi v1)] [] := by
  refine V_aload_n d_Bo_cellOfEar_0 rfl ?_
  refine U_geta d_Bo_cellOfEar_1 fl_Bo_9 sh_8 rfl ?_
  refine V_aload_n d_Bo_cellOfEar_4 rfl ?_
  refine U_geta d_Bo_cellOfEar_5 fl_Bo_24 sh_8 rfl ?_
  refine V_iload_n d_Bo_cellOfEar_8 rfl ?_
  obtain ⟨h1, h⟩ := h
  refine U_iald d_Bo_cellOfEar_9 sh_13 h1 ?_
  obtain ⟨h2, h⟩ := h
  refine U_iald d_Bo_cellOfEar_10 sh_9 h2 ?_
  exact V_iret d_Bo_cellOfEar_11 rfl rfl h
theorem s_Bo_clockOf_0 {x : am_Sc} {Po : Option am_AV → am_Sh → am_St → Prop} {σ : am_St} {v1 : Int}
    (h : (0 ≤ v1 ∧ v1 < 12) ∧ (0 ≤ σ.1 13 v1.toNat ∧ σ.1 13 v1.toNat < 6) ∧ Po (some (Zi (σ.1 10 (σ.1 13 v1.toNat).toNat))) am_SH σ) : am_U x m_Bo_clockOf Po σ 0 [some (Zr 8), some (Zi v1)] [] := by
  refine V_aload_n d_Bo_clockOf_0 rfl ?_
  refine U_geta d_Bo_clockOf_1 fl_Bo_15 sh_8 rfl ?_
  refine V_aload_n d_Bo_clockOf_4 rfl ?_
  refine U_geta d_Bo_clockOf_5 fl_Bo_24 sh_8 rfl ?_
  refine V_iload_n d_Bo_clockOf_8 rfl ?_
  obtain ⟨h1, h⟩ := h
  refine U_iald d_Bo_clockOf_9 sh_13 h1 ?_
  obtain ⟨h2, h⟩ := h
  refine U_iald d_Bo_clockOf_10 sh_10 h2 ?_
  exact V_iret d_Bo_clockOf_11 rfl rfl h
theorem s_Bo_lowNow_0 {x : am_Sc} {Po : Option am_AV → am_Sh → am_St → Prop} {σ : am_St} {v1 : Int}
    (h : am_U x m_Bo_lastTelling (fun ro1 so1 σ1 => ∃ z1 : Int, ro1 = some (Zi z1) ∧ so1 = am_SH ∧ am_r z1 ∧ ((z1 < 0 → am_U x m_Bo_lowNow Po σ1 24 [none, none, none] [Zi 0]) ∧ (¬ z1 < 0 → (0 ≤ z1 ∧ z1 < 40) ∧ am_U x m_Bo_lowNow Po σ1 24 [none, none, none] [Zi (σ1.1 18 z1.toNat)]))) σ 0 [some (Zr 8), some (Zi v1), some (Zi (σ.1 8 15)), none] []) : am_U x m_Bo_lowNow Po σ 0 [some (Zr 8), some (Zi v1), none] [] := by
  refine V_aload_n d_Bo_lowNow_0 rfl ?_
  refine V_iload_n d_Bo_lowNow_1 rfl ?_
  refine V_aload_n d_Bo_lowNow_2 rfl ?_
  refine U_geti d_Bo_lowNow_3 fl_Bo_62 sh_8 ?_
  refine U_iv2 cv_Bo_lowNow_65 d_Bo_lowNow_6 sh_8 rfl rfl (am_mono h ?_)
  rintro ro1 so1 σ1 ⟨z1, rfl, rfl, h⟩
  refine V_istore_n d_Bo_lowNow_9 rfl ?_
  refine V_iload_n d_Bo_lowNow_10 rfl ?_
  obtain ⟨h1, h⟩ := h
  obtain ⟨ht, hf⟩ := h
  refine V_if_lt 23 d_Bo_lowNow_11 h1 (fun h3 => ?_) (fun h3 => ?_)
  · have h := ht h3
    refine V_iconst d_Bo_lowNow_23 ?_
    refine V_drop 0 ?_
    refine V_drop 1 ?_
    refine V_drop 2 ?_
    exact h
  · have h := hf h3
    refine V_aload_n d_Bo_lowNow_14 rfl ?_
    refine U_geta d_Bo_lowNow_15 fl_Bo_39 sh_8 rfl ?_
    refine V_iload_n d_Bo_lowNow_18 rfl ?_
    obtain ⟨h2, h⟩ := h
    refine U_iald d_Bo_lowNow_19 sh_18 h2 ?_
    refine V_goto 24 d_Bo_lowNow_20 ?_
    refine V_drop 0 ?_
    refine V_drop 1 ?_
    refine V_drop 2 ?_
    exact h
theorem s_Bo_lowNow_24 {x : am_Sc} {Po : Option am_AV → am_Sh → am_St → Prop} {σ : am_St} {vk0 : Int}
    (h : Po (some (Zi vk0)) am_SH σ) : am_U x m_Bo_lowNow Po σ 24 [none, none, none] [Zi vk0] := by
  exact V_iret d_Bo_lowNow_24 rfl rfl h
theorem s_Bo_lastTelling_0 {x : am_Sc} {Po : Option am_AV → am_Sh → am_St → Prop} {σ : am_St} {v1 v2 : Int}
    (h : am_U x m_Bo_lastTelling Po σ 7 [some (Zr 8), some (Zi v1), some (Zi v2), some (Zi ((σ.1 8 10) - 1))] []) : am_U x m_Bo_lastTelling Po σ 0 [some (Zr 8), some (Zi v1), some (Zi v2), none] [] := by
  refine V_aload_n d_Bo_lastTelling_0 rfl ?_
  refine U_geti d_Bo_lastTelling_1 fl_Bo_55 sh_8 ?_
  refine V_iconst d_Bo_lastTelling_4 ?_
  refine V_isub d_Bo_lastTelling_5 ?_
  refine V_istore_n d_Bo_lastTelling_6 rfl ?_
  exact h
theorem s_Bo_lastTelling_7 {x : am_Sc} {Po : Option am_AV → am_Sh → am_St → Prop} {σ : am_St} {v1 v2 v3 : Int}
    (h : am_r v3 ∧ ((v3 < 0 → Po (some (Zi (-1))) am_SH σ) ∧ (¬ v3 < 0 → (0 ≤ v3 ∧ v3 < 40) ∧ am_r (σ.1 16 v3.toNat) ∧ am_r v1 ∧ ((¬ (σ.1 16 v3.toNat) = v1 → am_U x m_Bo_lastTelling Po σ 33 [some (Zr 8), some (Zi v1), some (Zi v2), some (Zi v3)] []) ∧ ((σ.1 16 v3.toNat) = v1 → am_r (σ.1 17 v3.toNat) ∧ am_r v2 ∧ ((v2 < (σ.1 17 v3.toNat) → am_U x m_Bo_lastTelling Po σ 33 [some (Zr 8), some (Zi v1), some (Zi v2), some (Zi v3)] []) ∧ (¬ v2 < (σ.1 17 v3.toNat) → Po (some (Zi v3)) am_SH σ))))))) : am_U x m_Bo_lastTelling Po σ 7 [some (Zr 8), some (Zi v1), some (Zi v2), some (Zi v3)] [] := by
  refine V_iload_n d_Bo_lastTelling_7 rfl ?_
  obtain ⟨h1, h⟩ := h
  obtain ⟨ht, hf⟩ := h
  refine V_if_lt 39 d_Bo_lastTelling_8 h1 (fun h9 => ?_) (fun h9 => ?_)
  · have h := ht h9
    refine V_iconst d_Bo_lastTelling_39 ?_
    exact V_iret d_Bo_lastTelling_40 rfl rfl h
  · have h := hf h9
    refine V_aload_n d_Bo_lastTelling_11 rfl ?_
    refine U_geta d_Bo_lastTelling_12 fl_Bo_33 sh_8 rfl ?_
    refine V_iload_n d_Bo_lastTelling_15 rfl ?_
    obtain ⟨h2, h⟩ := h
    refine U_iald d_Bo_lastTelling_16 sh_16 h2 ?_
    refine V_iload_n d_Bo_lastTelling_17 rfl ?_
    obtain ⟨h3, h⟩ := h
    obtain ⟨h4, h⟩ := h
    obtain ⟨ht, hf⟩ := h
    refine V_icmp_ne 33 d_Bo_lastTelling_18 h3 h4 (fun h8 => ?_) (fun h8 => ?_)
    · have h := ht h8
      exact h
    · have h := hf h8
      refine V_aload_n d_Bo_lastTelling_21 rfl ?_
      refine U_geta d_Bo_lastTelling_22 fl_Bo_36 sh_8 rfl ?_
      refine V_iload_n d_Bo_lastTelling_25 rfl ?_
      refine U_iald d_Bo_lastTelling_26 sh_17 h2 ?_
      refine V_iload_n d_Bo_lastTelling_27 rfl ?_
      obtain ⟨h5, h⟩ := h
      obtain ⟨h6, h⟩ := h
      obtain ⟨ht, hf⟩ := h
      refine V_icmp_gt 33 d_Bo_lastTelling_28 h5 h6 (fun h7 => ?_) (fun h7 => ?_)
      · have h := ht h7
        exact h
      · have h := hf h7
        refine V_iload_n d_Bo_lastTelling_31 rfl ?_
        exact V_iret d_Bo_lastTelling_32 rfl rfl h
theorem s_Bo_lastTelling_33 {x : am_Sc} {Po : Option am_AV → am_Sh → am_St → Prop} {σ : am_St} {v1 v2 v3 : Int}
    (h : am_U x m_Bo_lastTelling Po σ 7 [some (Zr 8), some (Zi v1), some (Zi v2), some (Zi (v3 + (-1)))] []) : am_U x m_Bo_lastTelling Po σ 33 [some (Zr 8), some (Zi v1), some (Zi v2), some (Zi v3)] [] := by
  refine V_iinc d_Bo_lastTelling_33 rfl rfl ?_
  refine V_goto 7 d_Bo_lastTelling_36 ?_
  exact h
theorem s_Bo_highNow_0 {x : am_Sc} {Po : Option am_AV → am_Sh → am_St → Prop} {σ : am_St} {v1 : Int}
    (h : am_U x m_Bo_lastTelling (fun ro1 so1 σ1 => ∃ z1 : Int, ro1 = some (Zi z1) ∧ so1 = am_SH ∧ am_r z1 ∧ ((z1 < 0 → am_U x m_Bo_highNow Po σ1 24 [none, none, none] [Zi 0]) ∧ (¬ z1 < 0 → (0 ≤ z1 ∧ z1 < 40) ∧ am_U x m_Bo_highNow Po σ1 24 [none, none, none] [Zi (σ1.1 19 z1.toNat)]))) σ 0 [some (Zr 8), some (Zi v1), some (Zi (σ.1 8 15)), none] []) : am_U x m_Bo_highNow Po σ 0 [some (Zr 8), some (Zi v1), none] [] := by
  refine V_aload_n d_Bo_highNow_0 rfl ?_
  refine V_iload_n d_Bo_highNow_1 rfl ?_
  refine V_aload_n d_Bo_highNow_2 rfl ?_
  refine U_geti d_Bo_highNow_3 fl_Bo_62 sh_8 ?_
  refine U_iv2 cv_Bo_highNow_65 d_Bo_highNow_6 sh_8 rfl rfl (am_mono h ?_)
  rintro ro1 so1 σ1 ⟨z1, rfl, rfl, h⟩
  refine V_istore_n d_Bo_highNow_9 rfl ?_
  refine V_iload_n d_Bo_highNow_10 rfl ?_
  obtain ⟨h1, h⟩ := h
  obtain ⟨ht, hf⟩ := h
  refine V_if_lt 23 d_Bo_highNow_11 h1 (fun h3 => ?_) (fun h3 => ?_)
  · have h := ht h3
    refine V_iconst d_Bo_highNow_23 ?_
    refine V_drop 0 ?_
    refine V_drop 1 ?_
    refine V_drop 2 ?_
    exact h
  · have h := hf h3
    refine V_aload_n d_Bo_highNow_14 rfl ?_
    refine U_geta d_Bo_highNow_15 fl_Bo_42 sh_8 rfl ?_
    refine V_iload_n d_Bo_highNow_18 rfl ?_
    obtain ⟨h2, h⟩ := h
    refine U_iald d_Bo_highNow_19 sh_19 h2 ?_
    refine V_goto 24 d_Bo_highNow_20 ?_
    refine V_drop 0 ?_
    refine V_drop 1 ?_
    refine V_drop 2 ?_
    exact h
theorem s_Bo_highNow_24 {x : am_Sc} {Po : Option am_AV → am_Sh → am_St → Prop} {σ : am_St} {vk0 : Int}
    (h : Po (some (Zi vk0)) am_SH σ) : am_U x m_Bo_highNow Po σ 24 [none, none, none] [Zi vk0] := by
  exact V_iret d_Bo_highNow_24 rfl rfl h
theorem s_Gr_blocksInUse_0 {x : am_Sc} {Po : Option am_AV → am_Sh → am_St → Prop} {σ : am_St}
    (h : am_U x m_Gr_blocksInUse Po σ 4 [some (Zr 1), some (Zi 0), some (Zi 0)] []) : am_U x m_Gr_blocksInUse Po σ 0 [some (Zr 1), none, none] [] := by
  refine V_iconst d_Gr_blocksInUse_0 ?_
  refine V_istore_n d_Gr_blocksInUse_1 rfl ?_
  refine V_iconst d_Gr_blocksInUse_2 ?_
  refine V_istore_n d_Gr_blocksInUse_3 rfl ?_
  exact h
theorem s_Gr_blocksInUse_4 {x : am_Sc} {Po : Option am_AV → am_Sh → am_St → Prop} {σ : am_St} {v1 v2 : Int}
    (h : am_r v2 ∧ ((8 ≤ v2 → Po (some (Zi v1)) am_SH σ) ∧ (¬ 8 ≤ v2 → am_U x m_Gr_cellsOf (fun ro1 so1 σ1 => ∃ z1 : Int, ro1 = some (Zi z1) ∧ so1 = am_SH ∧ am_r z1 ∧ ((z1 = 0 → am_U x m_Gr_blocksInUse Po σ1 24 [some (Zr 1), none, some (Zi v2)] [Zi 0, Zi v1]) ∧ (¬ z1 = 0 → am_U x m_Gr_blocksInUse Po σ1 24 [some (Zr 1), none, some (Zi v2)] [Zi 1, Zi v1]))) σ 0 [some (Zr 1), some (Zi v2), none, none] []))) : am_U x m_Gr_blocksInUse Po σ 4 [some (Zr 1), some (Zi v1), some (Zi v2)] [] := by
  refine V_iload_n d_Gr_blocksInUse_4 rfl ?_
  refine V_bipush d_Gr_blocksInUse_5 ?_
  obtain ⟨h1, h⟩ := h
  obtain ⟨ht, hf⟩ := h
  refine V_icmp_ge 32 d_Gr_blocksInUse_7 h1 (by decide) (fun h4 => ?_) (fun h4 => ?_)
  · have h := ht h4
    refine V_iload_n d_Gr_blocksInUse_32 rfl ?_
    exact V_iret d_Gr_blocksInUse_33 rfl rfl h
  · have h := hf h4
    refine V_iload_n d_Gr_blocksInUse_10 rfl ?_
    refine V_aload_n d_Gr_blocksInUse_11 rfl ?_
    refine V_iload_n d_Gr_blocksInUse_12 rfl ?_
    refine U_iv1 cv_Gr_blocksInUse_43 d_Gr_blocksInUse_13 sh_1 rfl rfl (am_mono h ?_)
    rintro ro1 so1 σ1 ⟨z1, rfl, rfl, h⟩
    obtain ⟨h2, h⟩ := h
    obtain ⟨ht, hf⟩ := h
    refine V_if_eq 23 d_Gr_blocksInUse_16 h2 (fun h3 => ?_) (fun h3 => ?_)
    · have h := ht h3
      refine V_iconst d_Gr_blocksInUse_23 ?_
      refine V_drop 1 ?_
      exact h
    · have h := hf h3
      refine V_iconst d_Gr_blocksInUse_19 ?_
      refine V_goto 24 d_Gr_blocksInUse_20 ?_
      refine V_drop 1 ?_
      exact h
theorem s_Gr_blocksInUse_24 {x : am_Sc} {Po : Option am_AV → am_Sh → am_St → Prop} {σ : am_St} {v2 vk0 vk1 : Int}
    (h : am_U x m_Gr_blocksInUse Po σ 4 [some (Zr 1), some (Zi (vk0 + vk1)), some (Zi (v2 + 1))] []) : am_U x m_Gr_blocksInUse Po σ 24 [some (Zr 1), none, some (Zi v2)] [Zi vk1, Zi vk0] := by
  refine V_iadd d_Gr_blocksInUse_24 ?_
  refine V_istore_n d_Gr_blocksInUse_25 rfl ?_
  refine V_iinc d_Gr_blocksInUse_26 rfl rfl ?_
  refine V_goto 4 d_Gr_blocksInUse_29 ?_
  exact h
theorem s_Gr_countRays_0 {x : am_Sc} {Po : Option am_AV → am_Sh → am_St → Prop} {σ : am_St} {r1 : Nat} (hr1 : am_SH[r1]? = some (12, 8, []))
    (h : am_U x m_Ar_fill (fun ro1 so1 σ1 => ro1 = none ∧ so1 = am_SH ∧ am_U x m_Gr_countRays Po σ1 7 [some (Zr 1), some (Zr r1), some (Zi 1)] []) σ 0 [some (Zr r1), some (Zi 0), none, none] []) : am_U x m_Gr_countRays Po σ 0 [some (Zr 1), some (Zr r1), none] [] := by
  refine V_aload_n d_Gr_countRays_0 rfl ?_
  refine V_iconst d_Gr_countRays_1 ?_
  refine U_is2 cv_Gr_countRays_37 d_Gr_countRays_2  rfl (am_mono h ?_)
  rintro ro1 so1 σ1 ⟨rfl, rfl, h⟩
  refine V_iconst d_Gr_countRays_5 ?_
  refine V_istore_n d_Gr_countRays_6 rfl ?_
  exact h
theorem s_Gr_countRays_7 {x : am_Sc} {Po : Option am_AV → am_Sh → am_St → Prop} {σ : am_St} {r1 : Nat} {v2 : Int} (hr1 : am_SH[r1]? = some (12, 8, []))
    (h : am_r v2 ∧ am_r (σ.1 1 8) ∧ (((σ.1 1 8) ≤ v2 → Po none am_SH σ) ∧ (¬ (σ.1 1 8) ≤ v2 → (0 ≤ v2 - 1 ∧ v2 - 1 < 16) ∧ (0 ≤ σ.1 7 (v2 - 1).toNat ∧ σ.1 7 (v2 - 1).toNat < 16) ∧ (0 ≤ σ.1 2 (σ.1 7 (v2 - 1).toNat).toNat ∧ σ.1 2 (σ.1 7 (v2 - 1).toNat).toNat < 8) ∧ (∀ σ2 : am_St, σ2 = (am_up σ.1 r1 (σ.1 2 (σ.1 7 (v2 - 1).toNat).toNat).toNat ((σ.1 r1 (σ.1 2 (σ.1 7 (v2 - 1).toNat).toNat).toNat) + 1), σ.2) → (0 ≤ v2 ∧ v2 < 16) ∧ (0 ≤ σ2.1 7 v2.toNat ∧ σ2.1 7 v2.toNat < 16) ∧ (0 ≤ σ2.1 2 (σ2.1 7 v2.toNat).toNat ∧ σ2.1 2 (σ2.1 7 v2.toNat).toNat < 8) ∧ (∀ σ3 : am_St, σ3 = (am_up σ2.1 r1 (σ2.1 2 (σ2.1 7 v2.toNat).toNat).toNat ((σ2.1 r1 (σ2.1 2 (σ2.1 7 v2.toNat).toNat).toNat) + 1), σ2.2) → am_U x m_Gr_countRays Po σ3 7 [some (Zr 1), some (Zr r1), some (Zi (v2 + 1))] []))))) : am_U x m_Gr_countRays Po σ 7 [some (Zr 1), some (Zr r1), some (Zi v2)] [] := by
  refine V_iload_n d_Gr_countRays_7 rfl ?_
  refine V_aload_n d_Gr_countRays_8 rfl ?_
  refine U_geti d_Gr_countRays_9 fl_Gr_65 sh_1 ?_
  obtain ⟨h1, h⟩ := h
  obtain ⟨h2, h⟩ := h
  obtain ⟨ht, hf⟩ := h
  refine V_icmp_ge 57 d_Gr_countRays_12 h1 h2 (fun h9 => ?_) (fun h9 => ?_)
  · have h := ht h9
    exact V_ret d_Gr_countRays_57 rfl rfl h
  · have h := hf h9
    refine V_aload_n d_Gr_countRays_15 rfl ?_
    refine V_aload_n d_Gr_countRays_16 rfl ?_
    refine U_geta d_Gr_countRays_17 fl_Gr_15 sh_1 rfl ?_
    refine V_aload_n d_Gr_countRays_20 rfl ?_
    refine U_geta d_Gr_countRays_21 fl_Gr_31 sh_1 rfl ?_
    refine V_iload_n d_Gr_countRays_24 rfl ?_
    refine V_iconst d_Gr_countRays_25 ?_
    refine V_isub d_Gr_countRays_26 ?_
    obtain ⟨h3, h⟩ := h
    refine U_iald d_Gr_countRays_27 sh_7 h3 ?_
    obtain ⟨h4, h⟩ := h
    refine U_iald d_Gr_countRays_28 sh_2 h4 ?_
    refine V_dup2 d_Gr_countRays_29 ?_
    obtain ⟨h5, h⟩ := h
    refine U_iald d_Gr_countRays_30 hr1 h5 ?_
    refine V_iconst d_Gr_countRays_31 ?_
    refine V_iadd d_Gr_countRays_32 ?_
    refine U_iast d_Gr_countRays_33 hr1 h5 ?_
    have h := h _ rfl
    refine V_aload_n d_Gr_countRays_34 rfl ?_
    refine V_aload_n d_Gr_countRays_35 rfl ?_
    refine U_geta d_Gr_countRays_36 fl_Gr_15 sh_1 rfl ?_
    refine V_aload_n d_Gr_countRays_39 rfl ?_
    refine U_geta d_Gr_countRays_40 fl_Gr_31 sh_1 rfl ?_
    refine V_iload_n d_Gr_countRays_43 rfl ?_
    obtain ⟨h6, h⟩ := h
    refine U_iald d_Gr_countRays_44 sh_7 h6 ?_
    obtain ⟨h7, h⟩ := h
    refine U_iald d_Gr_countRays_45 sh_2 h7 ?_
    refine V_dup2 d_Gr_countRays_46 ?_
    obtain ⟨h8, h⟩ := h
    refine U_iald d_Gr_countRays_47 hr1 h8 ?_
    refine V_iconst d_Gr_countRays_48 ?_
    refine V_iadd d_Gr_countRays_49 ?_
    refine U_iast d_Gr_countRays_50 hr1 h8 ?_
    have h := h _ rfl
    refine V_iinc d_Gr_countRays_51 rfl rfl ?_
    refine V_goto 7 d_Gr_countRays_54 ?_
    exact h
theorem s_Bo_hasPicks_0 {x : am_Sc} {Po : Option am_AV → am_Sh → am_St → Prop} {σ : am_St} {v1 : Int}
    (h : am_U x m_Bo_hasPicks Po σ 2 [some (Zr 8), some (Zi v1), some (Zi 0)] []) : am_U x m_Bo_hasPicks Po σ 0 [some (Zr 8), some (Zi v1), none] [] := by
  refine V_iconst d_Bo_hasPicks_0 ?_
  refine V_istore_n d_Bo_hasPicks_1 rfl ?_
  exact h
theorem s_Bo_hasPicks_2 {x : am_Sc} {Po : Option am_AV → am_Sh → am_St → Prop} {σ : am_St} {v1 v2 : Int}
    (h : am_r v2 ∧ am_r (σ.1 8 6) ∧ (((σ.1 8 6) ≤ v2 → Po (some (Zi 0)) am_SH σ) ∧ (¬ (σ.1 8 6) ≤ v2 → (0 ≤ v2 ∧ v2 < 12) ∧ am_r (σ.1 14 v2.toNat) ∧ am_r v1 ∧ ((¬ (σ.1 14 v2.toNat) = v1 → am_U x m_Bo_hasPicks Po σ 2 [some (Zr 8), some (Zi v1), some (Zi (v2 + 1))] []) ∧ ((σ.1 14 v2.toNat) = v1 → Po (some (Zi 1)) am_SH σ))))) : am_U x m_Bo_hasPicks Po σ 2 [some (Zr 8), some (Zi v1), some (Zi v2)] [] := by
  refine V_iload_n d_Bo_hasPicks_2 rfl ?_
  refine V_aload_n d_Bo_hasPicks_3 rfl ?_
  refine U_geti d_Bo_hasPicks_4 fl_Bo_52 sh_8 ?_
  obtain ⟨h1, h⟩ := h
  obtain ⟨h2, h⟩ := h
  obtain ⟨ht, hf⟩ := h
  refine V_icmp_ge 28 d_Bo_hasPicks_7 h1 h2 (fun h7 => ?_) (fun h7 => ?_)
  · have h := ht h7
    refine V_iconst d_Bo_hasPicks_28 ?_
    exact V_zret d_Bo_hasPicks_29 rfl rfl (Or.inl rfl) h
  · have h := hf h7
    refine V_aload_n d_Bo_hasPicks_10 rfl ?_
    refine U_geta d_Bo_hasPicks_11 fl_Bo_27 sh_8 rfl ?_
    refine V_iload_n d_Bo_hasPicks_14 rfl ?_
    obtain ⟨h3, h⟩ := h
    refine U_iald d_Bo_hasPicks_15 sh_14 h3 ?_
    refine V_iload_n d_Bo_hasPicks_16 rfl ?_
    obtain ⟨h4, h⟩ := h
    obtain ⟨h5, h⟩ := h
    obtain ⟨ht, hf⟩ := h
    refine V_icmp_ne 22 d_Bo_hasPicks_17 h4 h5 (fun h6 => ?_) (fun h6 => ?_)
    · have h := ht h6
      refine V_iinc d_Bo_hasPicks_22 rfl rfl ?_
      refine V_goto 2 d_Bo_hasPicks_25 ?_
      exact h
    · have h := hf h6
      refine V_iconst d_Bo_hasPicks_20 ?_
      exact V_zret d_Bo_hasPicks_21 rfl rfl (Or.inr rfl) h
theorem s_Gr_paintBoard_0 {x : am_Sc} {Po : Option am_AV → am_Sh → am_St → Prop} {σ : am_St} {v1 v2 : Int}
    (h : am_U x m_Gr_paintBoard Po σ 2 [some (Zr 1), some (Zi v1), some (Zi v2), some (Zi 0)] []) : am_U x m_Gr_paintBoard Po σ 0 [some (Zr 1), some (Zi v1), some (Zi v2), none] [] := by
  refine V_iconst d_Gr_paintBoard_0 ?_
  refine V_istore_n d_Gr_paintBoard_1 rfl ?_
  exact h
theorem s_Gr_paintBoard_2 {x : am_Sc} {Po : Option am_AV → am_Sh → am_St → Prop} {σ : am_St} {v1 v2 v3 : Int}
    (h : am_r v3 ∧ ((8 ≤ v3 → Po none am_SH σ) ∧ (¬ 8 ≤ v3 → am_U x m_Gr_onBoard (fun ro1 so1 σ1 => ∃ z1 : Int, ro1 = some (Zi z1) ∧ so1 = am_SH ∧ (0 ≤ v3 ∧ v3 < 8) ∧ (∀ σ2 : am_St, σ2 = (am_up σ1.1 3 v3.toNat z1, σ1.2) → am_U x m_Gr_paintBoard Po σ2 2 [some (Zr 1), some (Zi v1), some (Zi v2), some (Zi (v3 + 1))] [])) σ 0 [some (Zi v3), some (Zi v1), some (Zi v2)] []))) : am_U x m_Gr_paintBoard Po σ 2 [some (Zr 1), some (Zi v1), some (Zi v2), some (Zi v3)] [] := by
  refine V_iload_n d_Gr_paintBoard_2 rfl ?_
  refine V_bipush d_Gr_paintBoard_3 ?_
  obtain ⟨h1, h⟩ := h
  obtain ⟨ht, hf⟩ := h
  refine V_icmp_ge 26 d_Gr_paintBoard_5 h1 (by decide) (fun h3 => ?_) (fun h3 => ?_)
  · have h := ht h3
    exact V_ret d_Gr_paintBoard_26 rfl rfl h
  · have h := hf h3
    refine V_aload_n d_Gr_paintBoard_8 rfl ?_
    refine U_geta d_Gr_paintBoard_9 fl_Gr_19 sh_1 rfl ?_
    refine V_iload_n d_Gr_paintBoard_12 rfl ?_
    refine V_iload_n d_Gr_paintBoard_13 rfl ?_
    refine V_iload_n d_Gr_paintBoard_14 rfl ?_
    refine V_iload_n d_Gr_paintBoard_15 rfl ?_
    refine U_is3 cv_Gr_paintBoard_71 d_Gr_paintBoard_16  rfl (am_mono h ?_)
    rintro ro1 so1 σ1 ⟨z1, rfl, rfl, h⟩
    obtain ⟨h2, h⟩ := h
    refine U_iast d_Gr_paintBoard_19 sh_3 h2 ?_
    have h := h _ rfl
    refine V_iinc d_Gr_paintBoard_20 rfl rfl ?_
    refine V_goto 2 d_Gr_paintBoard_23 ?_
    exact h
theorem s_Gr_onBoard_0 {x : am_Sc} {Po : Option am_AV → am_Sh → am_St → Prop} {σ : am_St} {v0 v1 v2 : Int}
    (h : am_r (am_and v0 1) ∧ ((¬ (am_and v0 1) = 0 → am_U x m_Gr_onBoard Po σ 11 [none, none, none] [Zi v2]) ∧ ((am_and v0 1) = 0 → am_U x m_Gr_onBoard Po σ 11 [none, none, none] [Zi v1]))) : am_U x m_Gr_onBoard Po σ 0 [some (Zi v0), some (Zi v1), some (Zi v2)] [] := by
  refine V_iload_n d_Gr_onBoard_0 rfl ?_
  refine V_iconst d_Gr_onBoard_1 ?_
  refine V_iand d_Gr_onBoard_2 ?_
  obtain ⟨h1, h⟩ := h
  obtain ⟨ht, hf⟩ := h
  refine V_if_ne 10 d_Gr_onBoard_3 h1 (fun h2 => ?_) (fun h2 => ?_)
  · have h := ht h2
    refine V_iload_n d_Gr_onBoard_10 rfl ?_
    refine V_drop 0 ?_
    refine V_drop 1 ?_
    refine V_drop 2 ?_
    exact h
  · have h := hf h2
    refine V_iload_n d_Gr_onBoard_6 rfl ?_
    refine V_goto 11 d_Gr_onBoard_7 ?_
    refine V_drop 0 ?_
    refine V_drop 1 ?_
    refine V_drop 2 ?_
    exact h
theorem s_Gr_onBoard_11 {x : am_Sc} {Po : Option am_AV → am_Sh → am_St → Prop} {σ : am_St} {vk0 : Int}
    (h : Po (some (Zi vk0)) am_SH σ) : am_U x m_Gr_onBoard Po σ 11 [none, none, none] [Zi vk0] := by
  exact V_iret d_Gr_onBoard_11 rfl rfl h
theorem s_Gr_countAsOnBoard_0 {x : am_Sc} {Po : Option am_AV → am_Sh → am_St → Prop} {σ : am_St} {v1 v2 : Int}
    (h : am_U x m_Gr_countAsOnBoard Po σ 5 [some (Zr 1), some (Zi v1), some (Zi v2), some (Zi 0), some (Zi 0)] []) : am_U x m_Gr_countAsOnBoard Po σ 0 [some (Zr 1), some (Zi v1), some (Zi v2), none, none] [] := by
  refine V_iconst d_Gr_countAsOnBoard_0 ?_
  refine V_istore_n d_Gr_countAsOnBoard_1 rfl ?_
  refine V_iconst d_Gr_countAsOnBoard_2 ?_
  refine V_istore d_Gr_countAsOnBoard_3 rfl ?_
  exact h
theorem s_Gr_countAsOnBoard_5 {x : am_Sc} {Po : Option am_AV → am_Sh → am_St → Prop} {σ : am_St} {v1 v2 v3 v4 : Int}
    (h : am_r v4 ∧ ((8 ≤ v4 → Po (some (Zi v3)) am_SH σ) ∧ (¬ 8 ≤ v4 → am_U x m_Gr_cellsOf (fun ro1 so1 σ1 => ∃ z1 : Int, ro1 = some (Zi z1) ∧ so1 = am_SH ∧ am_r z1 ∧ ((z1 = 0 → am_U x m_Gr_countAsOnBoard Po σ1 41 [some (Zr 1), some (Zi v1), some (Zi v2), some (Zi v3), some (Zi v4)] []) ∧ (¬ z1 = 0 → (0 ≤ v4 ∧ v4 < 8) ∧ am_U x m_Gr_onBoard (fun ro2 so2 σ2 => ∃ z2 : Int, ro2 = some (Zi z2) ∧ so2 = am_SH ∧ am_r (σ1.1 3 v4.toNat) ∧ am_r z2 ∧ ((¬ (σ1.1 3 v4.toNat) = z2 → am_U x m_Gr_countAsOnBoard Po σ2 41 [some (Zr 1), some (Zi v1), some (Zi v2), some (Zi v3), some (Zi v4)] []) ∧ ((σ1.1 3 v4.toNat) = z2 → am_U x m_Gr_countAsOnBoard Po σ2 41 [some (Zr 1), some (Zi v1), some (Zi v2), some (Zi (v3 + 1)), some (Zi v4)] []))) σ1 0 [some (Zi v4), some (Zi v1), some (Zi v2)] []))) σ 0 [some (Zr 1), some (Zi v4), none, none] []))) : am_U x m_Gr_countAsOnBoard Po σ 5 [some (Zr 1), some (Zi v1), some (Zi v2), some (Zi v3), some (Zi v4)] [] := by
  refine V_iload d_Gr_countAsOnBoard_5 rfl ?_
  refine V_bipush d_Gr_countAsOnBoard_7 ?_
  obtain ⟨h1, h⟩ := h
  obtain ⟨ht, hf⟩ := h
  refine V_icmp_ge 47 d_Gr_countAsOnBoard_9 h1 (by decide) (fun h8 => ?_) (fun h8 => ?_)
  · have h := ht h8
    refine V_iload_n d_Gr_countAsOnBoard_47 rfl ?_
    exact V_iret d_Gr_countAsOnBoard_48 rfl rfl h
  · have h := hf h8
    refine V_aload_n d_Gr_countAsOnBoard_12 rfl ?_
    refine V_iload d_Gr_countAsOnBoard_13 rfl ?_
    refine U_iv1 cv_Gr_countAsOnBoard_43 d_Gr_countAsOnBoard_15 sh_1 rfl rfl (am_mono h ?_)
    rintro ro1 so1 σ1 ⟨z1, rfl, rfl, h⟩
    obtain ⟨h2, h⟩ := h
    obtain ⟨ht, hf⟩ := h
    refine V_if_eq 41 d_Gr_countAsOnBoard_18 h2 (fun h7 => ?_) (fun h7 => ?_)
    · have h := ht h7
      exact h
    · have h := hf h7
      refine V_aload_n d_Gr_countAsOnBoard_21 rfl ?_
      refine U_geta d_Gr_countAsOnBoard_22 fl_Gr_19 sh_1 rfl ?_
      refine V_iload d_Gr_countAsOnBoard_25 rfl ?_
      obtain ⟨h3, h⟩ := h
      refine U_iald d_Gr_countAsOnBoard_27 sh_3 h3 ?_
      refine V_iload d_Gr_countAsOnBoard_28 rfl ?_
      refine V_iload_n d_Gr_countAsOnBoard_30 rfl ?_
      refine V_iload_n d_Gr_countAsOnBoard_31 rfl ?_
      refine U_is3 cv_Gr_countAsOnBoard_71 d_Gr_countAsOnBoard_32  rfl (am_mono h ?_)
      rintro ro2 so2 σ2 ⟨z2, rfl, rfl, h⟩
      obtain ⟨h4, h⟩ := h
      obtain ⟨h5, h⟩ := h
      obtain ⟨ht, hf⟩ := h
      refine V_icmp_ne 41 d_Gr_countAsOnBoard_35 h4 h5 (fun h6 => ?_) (fun h6 => ?_)
      · have h := ht h6
        exact h
      · have h := hf h6
        refine V_iinc d_Gr_countAsOnBoard_38 rfl rfl ?_
        exact h
theorem s_Gr_countAsOnBoard_41 {x : am_Sc} {Po : Option am_AV → am_Sh → am_St → Prop} {σ : am_St} {v1 v2 v3 v4 : Int}
    (h : am_U x m_Gr_countAsOnBoard Po σ 5 [some (Zr 1), some (Zi v1), some (Zi v2), some (Zi v3), some (Zi (v4 + 1))] []) : am_U x m_Gr_countAsOnBoard Po σ 41 [some (Zr 1), some (Zi v1), some (Zi v2), some (Zi v3), some (Zi v4)] [] := by
  refine V_iinc d_Gr_countAsOnBoard_41 rfl rfl ?_
  refine V_goto 5 d_Gr_countAsOnBoard_44 ?_
  exact h
