theorem s_Mo_ground_0 {x : am_Sc} {Po : Option am_AV → am_Sh → am_St → Prop} {σ : am_St} {v1 v2 : Int}
    (h : am_U x m_Mo_in (fun ro1 so1 σ1 => ∃ z1 : Int, ro1 = some (Zi z1) ∧ so1 = am_SH ∧ am_r z1 ∧ ((z1 = 0 → am_U x m_Mo_ground Po σ1 18 [none, none, none, none] []) ∧ (¬ z1 = 0 → am_U x m_Mo_in (fun ro2 so2 σ2 => ∃ z2 : Int, ro2 = some (Zi z2) ∧ so2 = am_SH ∧ am_r z2 ∧ ((¬ z2 = 0 → (∀ σ3 : am_St, σ3 = (am_up σ2.1 147 0 v1, σ2.2) → (∀ σ4 : am_St, σ4 = (am_up σ3.1 147 1 v2, σ3.2) → am_U x m_Mo_ground Po σ4 33 [some (Zr 147), none, none, some (Zi 0)] []))) ∧ (z2 = 0 → am_U x m_Mo_ground Po σ2 18 [none, none, none, none] []))) σ1 0 [some (Zi v2), some (Zi 2), some (Zi 4)] []))) σ 0 [some (Zi v1), some (Zi 2), some (Zi 4)] []) : am_U x m_Mo_ground Po σ 0 [some (Zr 147), some (Zi v1), some (Zi v2), none] [] := by
  refine V_iload_n d_Mo_ground_0 rfl ?_
  refine V_iconst d_Mo_ground_1 ?_
  refine V_iconst d_Mo_ground_2 ?_
  refine U_is3 cv_Mo_ground_122 d_Mo_ground_3  rfl (am_mono h ?_)
  rintro ro1 so1 σ1 ⟨z1, rfl, rfl, h⟩
  obtain ⟨h1, h⟩ := h
  obtain ⟨ht, hf⟩ := h
  refine V_if_eq 18 d_Mo_ground_6 h1 (fun h4 => ?_) (fun h4 => ?_)
  · have h := ht h4
    refine V_drop 0 ?_
    refine V_drop 1 ?_
    refine V_drop 2 ?_
    exact h
  · have h := hf h4
    refine V_iload_n d_Mo_ground_9 rfl ?_
    refine V_iconst d_Mo_ground_10 ?_
    refine V_iconst d_Mo_ground_11 ?_
    refine U_is3 cv_Mo_ground_122 d_Mo_ground_12  rfl (am_mono h ?_)
    rintro ro2 so2 σ2 ⟨z2, rfl, rfl, h⟩
    obtain ⟨h2, h⟩ := h
    obtain ⟨ht, hf⟩ := h
    refine V_if_ne 21 d_Mo_ground_15 h2 (fun h3 => ?_) (fun h3 => ?_)
    · have h := ht h3
      refine V_aload_n d_Mo_ground_21 rfl ?_
      refine V_iload_n d_Mo_ground_22 rfl ?_
      refine U_puti d_Mo_ground_23 fw_Mo_7 sh_147 ?_
      have h := h _ rfl
      refine V_aload_n d_Mo_ground_26 rfl ?_
      refine V_iload_n d_Mo_ground_27 rfl ?_
      refine U_puti d_Mo_ground_28 fw_Mo_13 sh_147 ?_
      have h := h _ rfl
      refine V_iconst d_Mo_ground_31 ?_
      refine V_istore_n d_Mo_ground_32 rfl ?_
      refine V_drop 1 ?_
      refine V_drop 2 ?_
      exact h
    · have h := hf h3
      refine V_drop 0 ?_
      refine V_drop 1 ?_
      refine V_drop 2 ?_
      exact h
theorem s_Mo_ground_18 {x : am_Sc} {Po : Option am_AV → am_Sh → am_St → Prop} {σ : am_St}
    (h : Po (some (Zi (-3))) am_SH σ) : am_U x m_Mo_ground Po σ 18 [none, none, none, none] [] := by
  refine V_bipush d_Mo_ground_18 ?_
  exact V_iret d_Mo_ground_20 rfl rfl h
theorem s_Mo_ground_33 {x : am_Sc} {Po : Option am_AV → am_Sh → am_St → Prop} {σ : am_St} {v3 : Int}
    (h : am_r v3 ∧ ((16 ≤ v3 → am_U x m_Mo_ground Po σ 54 [some (Zr 147), none, none, some (Zi 0)] []) ∧ (¬ 16 ≤ v3 → (0 ≤ v3 ∧ v3 < 16) ∧ (∀ σ5 : am_St, σ5 = (am_up σ.1 148 v3.toNat 0, σ.2) → am_U x m_Mo_ground Po σ5 33 [some (Zr 147), none, none, some (Zi (v3 + 1))] [])))) : am_U x m_Mo_ground Po σ 33 [some (Zr 147), none, none, some (Zi v3)] [] := by
  refine V_iload_n d_Mo_ground_33 rfl ?_
  refine V_bipush d_Mo_ground_34 ?_
  obtain ⟨h5, h⟩ := h
  obtain ⟨ht, hf⟩ := h
  refine V_icmp_ge 52 d_Mo_ground_36 h5 (by decide) (fun h7 => ?_) (fun h7 => ?_)
  · have h := ht h7
    refine V_iconst d_Mo_ground_52 ?_
    refine V_istore_n d_Mo_ground_53 rfl ?_
    exact h
  · have h := hf h7
    refine V_aload_n d_Mo_ground_39 rfl ?_
    refine U_geta d_Mo_ground_40 fl_Mo_16 sh_147 rfl ?_
    refine V_iload_n d_Mo_ground_43 rfl ?_
    refine V_iconst d_Mo_ground_44 ?_
    obtain ⟨h6, h⟩ := h
    refine U_iast d_Mo_ground_45 sh_148 h6 ?_
    have h := h _ rfl
    refine V_iinc d_Mo_ground_46 rfl rfl ?_
    refine V_goto 33 d_Mo_ground_49 ?_
    exact h
theorem s_Mo_ground_54 {x : am_Sc} {Po : Option am_AV → am_Sh → am_St → Prop} {σ : am_St} {v3 : Int}
    (h : am_r v3 ∧ ((8 ≤ v3 → (∀ σ6 : am_St, σ6 = (am_up σ.1 147 5 0, σ.2) → (∀ σ7 : am_St, σ7 = (am_up σ6.1 147 8 0, σ6.2) → (∀ σ8 : am_St, σ8 = (am_up σ7.1 147 11 0, σ7.2) → (∀ σ9 : am_St, σ9 = (am_up σ8.1 147 15 0, σ8.2) → am_U x m_Mo_cells (fun ro10 so10 σ10 => ∃ z10 : Int, ro10 = some (Zi z10) ∧ so10 = am_SH ∧ Po (some (Zi z10)) am_SH σ10) σ9 0 [some (Zr 147)] []))))) ∧ (¬ 8 ≤ v3 → (0 ≤ v3 ∧ v3 < 8) ∧ (∀ σ11 : am_St, σ11 = (am_up σ.1 149 v3.toNat 10, σ.2) → am_U x m_Mo_ground Po σ11 54 [some (Zr 147), none, none, some (Zi (v3 + 1))] [])))) : am_U x m_Mo_ground Po σ 54 [some (Zr 147), none, none, some (Zi v3)] [] := by
  refine V_iload_n d_Mo_ground_54 rfl ?_
  refine V_bipush d_Mo_ground_55 ?_
  obtain ⟨h8, h⟩ := h
  obtain ⟨ht, hf⟩ := h
  refine V_icmp_ge 74 d_Mo_ground_57 h8 (by decide) (fun h10 => ?_) (fun h10 => ?_)
  · have h := ht h10
    refine V_aload_n d_Mo_ground_74 rfl ?_
    refine V_iconst d_Mo_ground_75 ?_
    refine U_puti d_Mo_ground_76 fw_Mo_126 sh_147 ?_
    have h := h _ rfl
    refine V_aload_n d_Mo_ground_79 rfl ?_
    refine V_iconst d_Mo_ground_80 ?_
    refine U_puti d_Mo_ground_81 fw_Mo_129 sh_147 ?_
    have h := h _ rfl
    refine V_aload_n d_Mo_ground_84 rfl ?_
    refine V_iconst d_Mo_ground_85 ?_
    refine U_puti d_Mo_ground_86 fw_Mo_132 sh_147 ?_
    have h := h _ rfl
    refine V_aload_n d_Mo_ground_89 rfl ?_
    refine V_iconst d_Mo_ground_90 ?_
    refine U_puti d_Mo_ground_91 fw_Mo_135 sh_147 ?_
    have h := h _ rfl
    refine V_aload_n d_Mo_ground_94 rfl ?_
    refine U_iv0 cv_Mo_ground_118 d_Mo_ground_95 sh_147 rfl rfl (am_mono h ?_)
    rintro ro10 so10 σ10 ⟨z10, rfl, rfl, h⟩
    exact V_iret d_Mo_ground_98 rfl rfl h
  · have h := hf h10
    refine V_aload_n d_Mo_ground_60 rfl ?_
    refine U_geta d_Mo_ground_61 fl_Mo_20 sh_147 rfl ?_
    refine V_iload_n d_Mo_ground_64 rfl ?_
    refine V_bipush d_Mo_ground_65 ?_
    obtain ⟨h9, h⟩ := h
    refine U_iast d_Mo_ground_67 sh_149 h9 ?_
    have h := h _ rfl
    refine V_iinc d_Mo_ground_68 rfl rfl ?_
    refine V_goto 54 d_Mo_ground_71 ?_
    exact h
theorem s_Mo_in_0 {x : am_Sc} {Po : Option am_AV → am_Sh → am_St → Prop} {σ : am_St} {v0 v1 v2 : Int}
    (h : am_r v0 ∧ am_r v1 ∧ ((v0 < v1 → am_U x m_Mo_in Po σ 14 [none, none, none] []) ∧ (¬ v0 < v1 → am_r v2 ∧ ((v2 < v0 → am_U x m_Mo_in Po σ 14 [none, none, none] []) ∧ (¬ v2 < v0 → am_U x m_Mo_in Po σ 15 [none, none, none] [Zi 1]))))) : am_U x m_Mo_in Po σ 0 [some (Zi v0), some (Zi v1), some (Zi v2)] [] := by
  refine V_iload_n d_Mo_in_0 rfl ?_
  refine V_iload_n d_Mo_in_1 rfl ?_
  obtain ⟨h1, h⟩ := h
  obtain ⟨h2, h⟩ := h
  obtain ⟨ht, hf⟩ := h
  refine V_icmp_lt 14 d_Mo_in_2 h1 h2 (fun h5 => ?_) (fun h5 => ?_)
  · have h := ht h5
    refine V_drop 0 ?_
    refine V_drop 1 ?_
    refine V_drop 2 ?_
    exact h
  · have h := hf h5
    refine V_iload_n d_Mo_in_5 rfl ?_
    refine V_iload_n d_Mo_in_6 rfl ?_
    obtain ⟨h3, h⟩ := h
    obtain ⟨ht, hf⟩ := h
    refine V_icmp_gt 14 d_Mo_in_7 h1 h3 (fun h4 => ?_) (fun h4 => ?_)
    · have h := ht h4
      refine V_drop 0 ?_
      refine V_drop 1 ?_
      refine V_drop 2 ?_
      exact h
    · have h := hf h4
      refine V_iconst d_Mo_in_10 ?_
      refine V_goto 15 d_Mo_in_11 ?_
      refine V_drop 0 ?_
      refine V_drop 1 ?_
      refine V_drop 2 ?_
      exact h
theorem s_Mo_in_14 {x : am_Sc} {Po : Option am_AV → am_Sh → am_St → Prop} {σ : am_St}
    (h : am_U x m_Mo_in Po σ 15 [none, none, none] [Zi 0]) : am_U x m_Mo_in Po σ 14 [none, none, none] [] := by
  refine V_iconst d_Mo_in_14 ?_
  exact h
theorem s_Mo_in_15 {x : am_Sc} {Po : Option am_AV → am_Sh → am_St → Prop} {σ : am_St} {vk0 : Int}
    (h : (vk0 = 0 ∨ vk0 = 1) ∧ Po (some (Zi vk0)) am_SH σ) : am_U x m_Mo_in Po σ 15 [none, none, none] [Zi vk0] := by
  obtain ⟨h6, h⟩ := h
  exact V_zret d_Mo_in_15 rfl rfl h6 h
theorem s_Mo_cells_0 {x : am_Sc} {Po : Option am_AV → am_Sh → am_St → Prop} {σ : am_St}
    (h : Po (some (Zi ((σ.1 147 0) * (σ.1 147 1)))) am_SH σ) : am_U x m_Mo_cells Po σ 0 [some (Zr 147)] [] := by
  refine V_aload_n d_Mo_cells_0 rfl ?_
  refine U_geti d_Mo_cells_1 fl_Mo_7 sh_147 ?_
  refine V_aload_n d_Mo_cells_4 rfl ?_
  refine U_geti d_Mo_cells_5 fl_Mo_13 sh_147 ?_
  refine V_imul d_Mo_cells_8 ?_
  exact V_iret d_Mo_cells_9 rfl rfl h
theorem s_Mo_ratio_0 {x : am_Sc} {Po : Option am_AV → am_Sh → am_St → Prop} {σ : am_St} {v1 : Int}
    (h : am_U x m_Mo_in (fun ro1 so1 σ1 => ∃ z1 : Int, ro1 = some (Zi z1) ∧ so1 = am_SH ∧ am_r z1 ∧ ((¬ z1 = 0 → (∀ σ2 : am_St, σ2 = (am_up σ1.1 147 4 v1, σ1.2) → Po (some (Zi (σ1.1 147 4))) am_SH σ2)) ∧ (z1 = 0 → Po (some (Zi (-3))) am_SH σ1))) σ 0 [some (Zi v1), some (Zi 10), some (Zi 30)] []) : am_U x m_Mo_ratio Po σ 0 [some (Zr 147), some (Zi v1), none] [] := by
  refine V_iload_n d_Mo_ratio_0 rfl ?_
  refine V_bipush d_Mo_ratio_1 ?_
  refine V_bipush d_Mo_ratio_3 ?_
  refine U_is3 cv_Mo_ratio_122 d_Mo_ratio_5  rfl (am_mono h ?_)
  rintro ro1 so1 σ1 ⟨z1, rfl, rfl, h⟩
  obtain ⟨h1, h⟩ := h
  obtain ⟨ht, hf⟩ := h
  refine V_if_ne 14 d_Mo_ratio_8 h1 (fun h2 => ?_) (fun h2 => ?_)
  · have h := ht h2
    refine V_aload_n d_Mo_ratio_14 rfl ?_
    refine U_geti d_Mo_ratio_15 fl_Mo_23 sh_147 ?_
    refine V_istore_n d_Mo_ratio_18 rfl ?_
    refine V_aload_n d_Mo_ratio_19 rfl ?_
    refine V_iload_n d_Mo_ratio_20 rfl ?_
    refine U_puti d_Mo_ratio_21 fw_Mo_23 sh_147 ?_
    have h := h _ rfl
    refine V_iload_n d_Mo_ratio_24 rfl ?_
    exact V_iret d_Mo_ratio_25 rfl rfl h
  · have h := hf h2
    refine V_bipush d_Mo_ratio_11 ?_
    exact V_iret d_Mo_ratio_13 rfl rfl h
theorem s_Mo_slow_0 {x : am_Sc} {Po : Option am_AV → am_Sh → am_St → Prop} {σ : am_St} {v1 v2 : Int}
    (h : am_U x m_Mo_isBlock (fun ro1 so1 σ1 => ∃ z1 : Int, ro1 = some (Zi z1) ∧ so1 = am_SH ∧ am_r z1 ∧ ((¬ z1 = 0 → am_U x m_Mo_in (fun ro2 so2 σ2 => ∃ z2 : Int, ro2 = some (Zi z2) ∧ so2 = am_SH ∧ am_r z2 ∧ ((¬ z2 = 0 → (0 ≤ v1 ∧ v1 < 8) ∧ (∀ σ3 : am_St, σ3 = (am_up σ2.1 149 v1.toNat v2, σ2.2) → Po (some (Zi (σ2.1 149 v1.toNat))) am_SH σ3)) ∧ (z2 = 0 → Po (some (Zi (-3))) am_SH σ2))) σ1 0 [some (Zi v2), some (Zi 1), some (Zi 60)] []) ∧ (z1 = 0 → Po (some (Zi (-2))) am_SH σ1))) σ 0 [some (Zi v1)] []) : am_U x m_Mo_slow Po σ 0 [some (Zr 147), some (Zi v1), some (Zi v2), none] [] := by
  refine V_iload_n d_Mo_slow_0 rfl ?_
  refine U_is1 cv_Mo_slow_138 d_Mo_slow_1  rfl (am_mono h ?_)
  rintro ro1 so1 σ1 ⟨z1, rfl, rfl, h⟩
  obtain ⟨h1, h⟩ := h
  obtain ⟨ht, hf⟩ := h
  refine V_if_ne 10 d_Mo_slow_4 h1 (fun h5 => ?_) (fun h5 => ?_)
  · have h := ht h5
    refine V_iload_n d_Mo_slow_10 rfl ?_
    refine V_iconst d_Mo_slow_11 ?_
    refine V_bipush d_Mo_slow_12 ?_
    refine U_is3 cv_Mo_slow_122 d_Mo_slow_14  rfl (am_mono h ?_)
    rintro ro2 so2 σ2 ⟨z2, rfl, rfl, h⟩
    obtain ⟨h2, h⟩ := h
    obtain ⟨ht, hf⟩ := h
    refine V_if_ne 23 d_Mo_slow_17 h2 (fun h4 => ?_) (fun h4 => ?_)
    · have h := ht h4
      refine V_aload_n d_Mo_slow_23 rfl ?_
      refine U_geta d_Mo_slow_24 fl_Mo_20 sh_147 rfl ?_
      refine V_iload_n d_Mo_slow_27 rfl ?_
      obtain ⟨h3, h⟩ := h
      refine U_iald d_Mo_slow_28 sh_149 h3 ?_
      refine V_istore_n d_Mo_slow_29 rfl ?_
      refine V_aload_n d_Mo_slow_30 rfl ?_
      refine U_geta d_Mo_slow_31 fl_Mo_20 sh_147 rfl ?_
      refine V_iload_n d_Mo_slow_34 rfl ?_
      refine V_iload_n d_Mo_slow_35 rfl ?_
      refine U_iast d_Mo_slow_36 sh_149 h3 ?_
      have h := h _ rfl
      refine V_iload_n d_Mo_slow_37 rfl ?_
      exact V_iret d_Mo_slow_38 rfl rfl h
    · have h := hf h4
      refine V_bipush d_Mo_slow_20 ?_
      exact V_iret d_Mo_slow_22 rfl rfl h
  · have h := hf h5
    refine V_bipush d_Mo_slow_7 ?_
    exact V_iret d_Mo_slow_9 rfl rfl h
theorem s_Mo_isBlock_0 {x : am_Sc} {Po : Option am_AV → am_Sh → am_St → Prop} {σ : am_St} {v0 : Int}
    (h : am_U x m_Mo_in (fun ro1 so1 σ1 => ∃ z1 : Int, ro1 = some (Zi z1) ∧ so1 = am_SH ∧ (z1 = 0 ∨ z1 = 1) ∧ Po (some (Zi z1)) am_SH σ1) σ 0 [some (Zi v0), some (Zi 0), some (Zi 7)] []) : am_U x m_Mo_isBlock Po σ 0 [some (Zi v0)] [] := by
  refine V_iload_n d_Mo_isBlock_0 rfl ?_
  refine V_iconst d_Mo_isBlock_1 ?_
  refine V_bipush d_Mo_isBlock_2 ?_
  refine U_is3 cv_Mo_isBlock_122 d_Mo_isBlock_4  rfl (am_mono h ?_)
  rintro ro1 so1 σ1 ⟨z1, rfl, rfl, h⟩
  obtain ⟨h1, h⟩ := h
  exact V_zret d_Mo_isBlock_7 rfl rfl h1 h
theorem s_Mo_split_0 {x : am_Sc} {Po : Option am_AV → am_Sh → am_St → Prop} {σ : am_St} {v1 v2 : Int}
    (h : am_U x m_Mo_isBlock (fun ro1 so1 σ1 => ∃ z1 : Int, ro1 = some (Zi z1) ∧ so1 = am_SH ∧ am_r z1 ∧ ((¬ z1 = 0 → am_U x m_Mo_cells (fun ro2 so2 σ2 => ∃ z2 : Int, ro2 = some (Zi z2) ∧ so2 = am_SH ∧ am_U x m_Mo_in (fun ro3 so3 σ3 => ∃ z3 : Int, ro3 = some (Zi z3) ∧ so3 = am_SH ∧ am_r z3 ∧ ((¬ z3 = 0 → am_U x m_Mo_split Po σ3 34 [some (Zr 147), some (Zi v1), some (Zi v2), some (Zi 0), some (Zi 0), none] []) ∧ (z3 = 0 → Po (some (Zi (-3))) am_SH σ3))) σ2 0 [some (Zi v2), some (Zi 0), some (Zi ((am_shl 1 z2) - 1))] []) σ1 0 [some (Zr 147)] []) ∧ (z1 = 0 → Po (some (Zi (-2))) am_SH σ1))) σ 0 [some (Zi v1)] []) : am_U x m_Mo_split Po σ 0 [some (Zr 147), some (Zi v1), some (Zi v2), none, none, none] [] := by
  refine V_iload_n d_Mo_split_0 rfl ?_
  refine U_is1 cv_Mo_split_138 d_Mo_split_1  rfl (am_mono h ?_)
  rintro ro1 so1 σ1 ⟨z1, rfl, rfl, h⟩
  obtain ⟨h1, h⟩ := h
  obtain ⟨ht, hf⟩ := h
  refine V_if_ne 10 d_Mo_split_4 h1 (fun h4 => ?_) (fun h4 => ?_)
  · have h := ht h4
    refine V_iload_n d_Mo_split_10 rfl ?_
    refine V_iconst d_Mo_split_11 ?_
    refine V_iconst d_Mo_split_12 ?_
    refine V_aload_n d_Mo_split_13 rfl ?_
    refine U_iv0 cv_Mo_split_118 d_Mo_split_14 sh_147 rfl rfl (am_mono h ?_)
    rintro ro2 so2 σ2 ⟨z2, rfl, rfl, h⟩
    refine V_ishl d_Mo_split_17 ?_
    refine V_iconst d_Mo_split_18 ?_
    refine V_isub d_Mo_split_19 ?_
    refine U_is3 cv_Mo_split_122 d_Mo_split_20  rfl (am_mono h ?_)
    rintro ro3 so3 σ3 ⟨z3, rfl, rfl, h⟩
    obtain ⟨h2, h⟩ := h
    obtain ⟨ht, hf⟩ := h
    refine V_if_ne 29 d_Mo_split_23 h2 (fun h3 => ?_) (fun h3 => ?_)
    · have h := ht h3
      refine V_iconst d_Mo_split_29 ?_
      refine V_istore_n d_Mo_split_30 rfl ?_
      refine V_iconst d_Mo_split_31 ?_
      refine V_istore d_Mo_split_32 rfl ?_
      exact h
    · have h := hf h3
      refine V_bipush d_Mo_split_26 ?_
      exact V_iret d_Mo_split_28 rfl rfl h
  · have h := hf h4
    refine V_bipush d_Mo_split_7 ?_
    exact V_iret d_Mo_split_9 rfl rfl h
theorem s_Mo_split_34 {x : am_Sc} {Po : Option am_AV → am_Sh → am_St → Prop} {σ : am_St} {v1 v2 v3 v4 : Int}
    (h : am_U x m_Mo_cells (fun ro4 so4 σ4 => ∃ z4 : Int, ro4 = some (Zi z4) ∧ so4 = am_SH ∧ am_r v4 ∧ am_r z4 ∧ ((z4 ≤ v4 → am_r v3 ∧ ((v3 = 0 → am_U x m_Mo_split Po σ4 86 [none, none, none, none, none, none] []) ∧ (¬ v3 = 0 → am_U x m_Mo_sizeOf (fun ro5 so5 σ5 => ∃ z5 : Int, ro5 = some (Zi z5) ∧ so5 = am_SH ∧ am_r z5 ∧ ((¬ v3 = z5 → am_U x m_Mo_split Po σ5 92 [some (Zr 147), some (Zi v1), some (Zi v2), none, some (Zi 0), none] []) ∧ (v3 = z5 → am_U x m_Mo_split Po σ5 86 [none, none, none, none, none, none] []))) σ4 0 [some (Zr 147), some (Zi v1), none, none] []))) ∧ (¬ z4 ≤ v4 → (0 ≤ v4 ∧ v4 < 16) ∧ am_r (σ4.1 148 v4.toNat) ∧ am_r v1 ∧ ((¬ (σ4.1 148 v4.toNat) = v1 → am_U x m_Mo_split Po σ4 65 [some (Zr 147), some (Zi v1), some (Zi v2), none, some (Zi v4), none] [Zi 0, Zi v3]) ∧ ((σ4.1 148 v4.toNat) = v1 → am_U x m_Mo_split Po σ4 65 [some (Zr 147), some (Zi v1), some (Zi v2), none, some (Zi v4), none] [Zi (am_and (am_shr v2 v4) 1), Zi v3]))))) σ 0 [some (Zr 147)] []) : am_U x m_Mo_split Po σ 34 [some (Zr 147), some (Zi v1), some (Zi v2), some (Zi v3), some (Zi v4), none] [] := by
  refine V_iload d_Mo_split_34 rfl ?_
  refine V_aload_n d_Mo_split_36 rfl ?_
  refine U_iv0 cv_Mo_split_118 d_Mo_split_37 sh_147 rfl rfl (am_mono h ?_)
  rintro ro4 so4 σ4 ⟨z4, rfl, rfl, h⟩
  obtain ⟨h5, h⟩ := h
  obtain ⟨h6, h⟩ := h
  obtain ⟨ht, hf⟩ := h
  refine V_icmp_ge 73 d_Mo_split_40 h5 h6 (fun h15 => ?_) (fun h15 => ?_)
  · have h := ht h15
    refine V_iload_n d_Mo_split_73 rfl ?_
    obtain ⟨h7, h⟩ := h
    obtain ⟨ht, hf⟩ := h
    refine V_if_eq 86 d_Mo_split_74 h7 (fun h10 => ?_) (fun h10 => ?_)
    · have h := ht h10
      refine V_drop 0 ?_
      refine V_drop 1 ?_
      refine V_drop 2 ?_
      refine V_drop 3 ?_
      refine V_drop 4 ?_
      exact h
    · have h := hf h10
      refine V_iload_n d_Mo_split_77 rfl ?_
      refine V_aload_n d_Mo_split_78 rfl ?_
      refine V_iload_n d_Mo_split_79 rfl ?_
      refine U_iv1 cv_Mo_split_142 d_Mo_split_80 sh_147 rfl rfl (am_mono h ?_)
      rintro ro5 so5 σ5 ⟨z5, rfl, rfl, h⟩
      obtain ⟨h8, h⟩ := h
      obtain ⟨ht, hf⟩ := h
      refine V_icmp_ne 89 d_Mo_split_83 h7 h8 (fun h9 => ?_) (fun h9 => ?_)
      · have h := ht h9
        refine V_iconst d_Mo_split_89 ?_
        refine V_istore d_Mo_split_90 rfl ?_
        refine V_drop 3 ?_
        exact h
      · have h := hf h9
        refine V_drop 0 ?_
        refine V_drop 1 ?_
        refine V_drop 2 ?_
        refine V_drop 3 ?_
        refine V_drop 4 ?_
        exact h
  · have h := hf h15
    refine V_iload_n d_Mo_split_43 rfl ?_
    refine V_aload_n d_Mo_split_44 rfl ?_
    refine U_geta d_Mo_split_45 fl_Mo_16 sh_147 rfl ?_
    refine V_iload d_Mo_split_48 rfl ?_
    obtain ⟨h11, h⟩ := h
    refine U_iald d_Mo_split_50 sh_148 h11 ?_
    refine V_iload_n d_Mo_split_51 rfl ?_
    obtain ⟨h12, h⟩ := h
    obtain ⟨h13, h⟩ := h
    obtain ⟨ht, hf⟩ := h
    refine V_icmp_ne 64 d_Mo_split_52 h12 h13 (fun h14 => ?_) (fun h14 => ?_)
    · have h := ht h14
      refine V_iconst d_Mo_split_64 ?_
      refine V_drop 3 ?_
      exact h
    · have h := hf h14
      refine V_iload_n d_Mo_split_55 rfl ?_
      refine V_iload d_Mo_split_56 rfl ?_
      refine V_ishr d_Mo_split_58 ?_
      refine V_iconst d_Mo_split_59 ?_
      refine V_iand d_Mo_split_60 ?_
      refine V_goto 65 d_Mo_split_61 ?_
      refine V_drop 3 ?_
      exact h
theorem s_Mo_split_86 {x : am_Sc} {Po : Option am_AV → am_Sh → am_St → Prop} {σ : am_St}
    (h : Po (some (Zi (-4))) am_SH σ) : am_U x m_Mo_split Po σ 86 [none, none, none, none, none, none] [] := by
  refine V_bipush d_Mo_split_86 ?_
  exact V_iret d_Mo_split_88 rfl rfl h
theorem s_Mo_split_92 {x : am_Sc} {Po : Option am_AV → am_Sh → am_St → Prop} {σ : am_St} {v1 v2 v4 : Int}
    (h : am_r v4 ∧ ((8 ≤ v4 → am_U x m_Mo_split Po σ 114 [some (Zr 147), some (Zi v1), some (Zi v2), none, some (Zi v4), none] []) ∧ (¬ 8 ≤ v4 → am_U x m_Mo_sizeOf (fun ro6 so6 σ6 => ∃ z6 : Int, ro6 = some (Zi z6) ∧ so6 = am_SH ∧ am_r z6 ∧ ((z6 ≤ 0 → am_U x m_Mo_split Po σ6 114 [some (Zr 147), some (Zi v1), some (Zi v2), none, some (Zi v4), none] []) ∧ (¬ z6 ≤ 0 → am_U x m_Mo_split Po σ6 92 [some (Zr 147), some (Zi v1), some (Zi v2), none, some (Zi (v4 + 1)), none] []))) σ 0 [some (Zr 147), some (Zi v4), none, none] []))) : am_U x m_Mo_split Po σ 92 [some (Zr 147), some (Zi v1), some (Zi v2), none, some (Zi v4), none] [] := by
  refine V_iload d_Mo_split_92 rfl ?_
  refine V_bipush d_Mo_split_94 ?_
  obtain ⟨h16, h⟩ := h
  obtain ⟨ht, hf⟩ := h
  refine V_icmp_ge 114 d_Mo_split_96 h16 (by decide) (fun h19 => ?_) (fun h19 => ?_)
  · have h := ht h19
    exact h
  · have h := hf h19
    refine V_aload_n d_Mo_split_99 rfl ?_
    refine V_iload d_Mo_split_100 rfl ?_
    refine U_iv1 cv_Mo_split_142 d_Mo_split_102 sh_147 rfl rfl (am_mono h ?_)
    rintro ro6 so6 σ6 ⟨z6, rfl, rfl, h⟩
    obtain ⟨h17, h⟩ := h
    obtain ⟨ht, hf⟩ := h
    refine V_if_le 114 d_Mo_split_105 h17 (fun h18 => ?_) (fun h18 => ?_)
    · have h := ht h18
      exact h
    · have h := hf h18
      refine V_iinc d_Mo_split_108 rfl rfl ?_
      refine V_goto 92 d_Mo_split_111 ?_
      exact h
theorem s_Mo_split_65 {x : am_Sc} {Po : Option am_AV → am_Sh → am_St → Prop} {σ : am_St} {v1 v2 v4 vk0 vk1 : Int}
    (h : am_U x m_Mo_split Po σ 34 [some (Zr 147), some (Zi v1), some (Zi v2), some (Zi (vk0 + vk1)), some (Zi (v4 + 1)), none] []) : am_U x m_Mo_split Po σ 65 [some (Zr 147), some (Zi v1), some (Zi v2), none, some (Zi v4), none] [Zi vk1, Zi vk0] := by
  refine V_iadd d_Mo_split_65 ?_
  refine V_istore_n d_Mo_split_66 rfl ?_
  refine V_iinc d_Mo_split_67 rfl rfl ?_
  refine V_goto 34 d_Mo_split_70 ?_
  exact h
theorem s_Mo_split_114 {x : am_Sc} {Po : Option am_AV → am_Sh → am_St → Prop} {σ : am_St} {v1 v2 v4 : Int}
    (h : am_r v4 ∧ ((¬ v4 = 8 → am_U x m_Mo_split Po σ 127 [some (Zr 147), some (Zi v1), some (Zi v2), none, some (Zi v4), some (Zi 0)] []) ∧ (v4 = 8 → Po (some (Zi (-5))) am_SH σ))) : am_U x m_Mo_split Po σ 114 [some (Zr 147), some (Zi v1), some (Zi v2), none, some (Zi v4), none] [] := by
  refine V_iload d_Mo_split_114 rfl ?_
  refine V_bipush d_Mo_split_116 ?_
  obtain ⟨h20, h⟩ := h
  obtain ⟨ht, hf⟩ := h
  refine V_icmp_ne 124 d_Mo_split_118 h20 (by decide) (fun h21 => ?_) (fun h21 => ?_)
  · have h := ht h21
    refine V_iconst d_Mo_split_124 ?_
    refine V_istore d_Mo_split_125 rfl ?_
    exact h
  · have h := hf h21
    refine V_bipush d_Mo_split_121 ?_
    exact V_iret d_Mo_split_123 rfl rfl h
theorem s_Mo_split_127 {x : am_Sc} {Po : Option am_AV → am_Sh → am_St → Prop} {σ : am_St} {v1 v2 v4 v5 : Int}
    (h : am_U x m_Mo_cells (fun ro7 so7 σ7 => ∃ z7 : Int, ro7 = some (Zi z7) ∧ so7 = am_SH ∧ am_r v5 ∧ am_r z7 ∧ ((z7 ≤ v5 → (0 ≤ v1 ∧ v1 < 8) ∧ (0 ≤ v4 ∧ v4 < 8) ∧ (∀ σ8 : am_St, σ8 = (am_up σ7.1 149 v4.toNat (σ7.1 149 v1.toNat), σ7.2) → Po (some (Zi v4)) am_SH σ8)) ∧ (¬ z7 ≤ v5 → (0 ≤ v5 ∧ v5 < 16) ∧ am_r (σ7.1 148 v5.toNat) ∧ am_r v1 ∧ ((¬ (σ7.1 148 v5.toNat) = v1 → am_U x m_Mo_split Po σ7 168 [some (Zr 147), some (Zi v1), some (Zi v2), none, some (Zi v4), some (Zi v5)] [Zi v5, Zr 148]) ∧ ((σ7.1 148 v5.toNat) = v1 → am_r (am_and (am_shr v2 v5) 1) ∧ ((¬ (am_and (am_shr v2 v5) 1) = 1 → am_U x m_Mo_split Po σ7 168 [some (Zr 147), some (Zi v1), some (Zi v2), none, some (Zi v4), some (Zi v5)] [Zi v5, Zr 148]) ∧ ((am_and (am_shr v2 v5) 1) = 1 → am_U x m_Mo_split Po σ7 175 [some (Zr 147), some (Zi v1), some (Zi v2), none, some (Zi v4), some (Zi v5)] [Zi v4, Zi v5, Zr 148]))))))) σ 0 [some (Zr 147)] []) : am_U x m_Mo_split Po σ 127 [some (Zr 147), some (Zi v1), some (Zi v2), none, some (Zi v4), some (Zi v5)] [] := by
  refine V_iload d_Mo_split_127 rfl ?_
  refine V_aload_n d_Mo_split_129 rfl ?_
  refine U_iv0 cv_Mo_split_118 d_Mo_split_130 sh_147 rfl rfl (am_mono h ?_)
  rintro ro7 so7 σ7 ⟨z7, rfl, rfl, h⟩
  obtain ⟨h22, h⟩ := h
  obtain ⟨h23, h⟩ := h
  obtain ⟨ht, hf⟩ := h
  refine V_icmp_ge 182 d_Mo_split_133 h22 h23 (fun h32 => ?_) (fun h32 => ?_)
  · have h := ht h32
    refine V_aload_n d_Mo_split_182 rfl ?_
    refine U_geta d_Mo_split_183 fl_Mo_20 sh_147 rfl ?_
    refine V_iload d_Mo_split_186 rfl ?_
    refine V_aload_n d_Mo_split_188 rfl ?_
    refine U_geta d_Mo_split_189 fl_Mo_20 sh_147 rfl ?_
    refine V_iload_n d_Mo_split_192 rfl ?_
    obtain ⟨h24, h⟩ := h
    refine U_iald d_Mo_split_193 sh_149 h24 ?_
    obtain ⟨h25, h⟩ := h
    refine U_iast d_Mo_split_194 sh_149 h25 ?_
    have h := h _ rfl
    refine V_iload d_Mo_split_195 rfl ?_
    exact V_iret d_Mo_split_197 rfl rfl h
  · have h := hf h32
    refine V_aload_n d_Mo_split_136 rfl ?_
    refine U_geta d_Mo_split_137 fl_Mo_16 sh_147 rfl ?_
    refine V_iload d_Mo_split_140 rfl ?_
    refine V_aload_n d_Mo_split_142 rfl ?_
    refine U_geta d_Mo_split_143 fl_Mo_16 sh_147 rfl ?_
    refine V_iload d_Mo_split_146 rfl ?_
    obtain ⟨h26, h⟩ := h
    refine U_iald d_Mo_split_148 sh_148 h26 ?_
    refine V_iload_n d_Mo_split_149 rfl ?_
    obtain ⟨h27, h⟩ := h
    obtain ⟨h28, h⟩ := h
    obtain ⟨ht, hf⟩ := h
    refine V_icmp_ne 168 d_Mo_split_150 h27 h28 (fun h31 => ?_) (fun h31 => ?_)
    · have h := ht h31
      exact h
    · have h := hf h31
      refine V_iload_n d_Mo_split_153 rfl ?_
      refine V_iload d_Mo_split_154 rfl ?_
      refine V_ishr d_Mo_split_156 ?_
      refine V_iconst d_Mo_split_157 ?_
      refine V_iand d_Mo_split_158 ?_
      refine V_iconst d_Mo_split_159 ?_
      obtain ⟨h29, h⟩ := h
      obtain ⟨ht, hf⟩ := h
      refine V_icmp_ne 168 d_Mo_split_160 h29 (by decide) (fun h30 => ?_) (fun h30 => ?_)
      · have h := ht h30
        exact h
      · have h := hf h30
        refine V_iload d_Mo_split_163 rfl ?_
        refine V_goto 175 d_Mo_split_165 ?_
        exact h
theorem s_Mo_split_168 {x : am_Sc} {Po : Option am_AV → am_Sh → am_St → Prop} {σ : am_St} {v1 v2 v4 v5 vk1 : Int}
    (h : (0 ≤ v5 ∧ v5 < 16) ∧ am_U x m_Mo_split Po σ 175 [some (Zr 147), some (Zi v1), some (Zi v2), none, some (Zi v4), some (Zi v5)] [Zi (σ.1 148 v5.toNat), Zi vk1, Zr 148]) : am_U x m_Mo_split Po σ 168 [some (Zr 147), some (Zi v1), some (Zi v2), none, some (Zi v4), some (Zi v5)] [Zi vk1, Zr 148] := by
  refine V_aload_n d_Mo_split_168 rfl ?_
  refine U_geta d_Mo_split_169 fl_Mo_16 sh_147 rfl ?_
  refine V_iload d_Mo_split_172 rfl ?_
  obtain ⟨h33, h⟩ := h
  refine U_iald d_Mo_split_174 sh_148 h33 ?_
  exact h
theorem s_Mo_split_175 {x : am_Sc} {Po : Option am_AV → am_Sh → am_St → Prop} {σ : am_St} {v1 v2 v4 v5 vk1 vk2 : Int}
    (h : (0 ≤ vk1 ∧ vk1 < 16) ∧ (∀ σ9 : am_St, σ9 = (am_up σ.1 148 vk1.toNat vk2, σ.2) → am_U x m_Mo_split Po σ9 127 [some (Zr 147), some (Zi v1), some (Zi v2), none, some (Zi v4), some (Zi (v5 + 1))] [])) : am_U x m_Mo_split Po σ 175 [some (Zr 147), some (Zi v1), some (Zi v2), none, some (Zi v4), some (Zi v5)] [Zi vk2, Zi vk1, Zr 148] := by
  obtain ⟨h34, h⟩ := h
  refine U_iast d_Mo_split_175 sh_148 h34 ?_
  have h := h _ rfl
  refine V_iinc d_Mo_split_176 rfl rfl ?_
  refine V_goto 127 d_Mo_split_179 ?_
  exact h
theorem s_Mo_sizeOf_0 {x : am_Sc} {Po : Option am_AV → am_Sh → am_St → Prop} {σ : am_St} {v1 : Int}
    (h : am_U x m_Mo_sizeOf Po σ 4 [some (Zr 147), some (Zi v1), some (Zi 0), some (Zi 0)] []) : am_U x m_Mo_sizeOf Po σ 0 [some (Zr 147), some (Zi v1), none, none] [] := by
  refine V_iconst d_Mo_sizeOf_0 ?_
  refine V_istore_n d_Mo_sizeOf_1 rfl ?_
  refine V_iconst d_Mo_sizeOf_2 ?_
  refine V_istore_n d_Mo_sizeOf_3 rfl ?_
  exact h
theorem s_Mo_sizeOf_4 {x : am_Sc} {Po : Option am_AV → am_Sh → am_St → Prop} {σ : am_St} {v1 v2 v3 : Int}
    (h : am_U x m_Mo_cells (fun ro1 so1 σ1 => ∃ z1 : Int, ro1 = some (Zi z1) ∧ so1 = am_SH ∧ am_r v3 ∧ am_r z1 ∧ ((z1 ≤ v3 → Po (some (Zi v2)) am_SH σ1) ∧ (¬ z1 ≤ v3 → (0 ≤ v3 ∧ v3 < 16) ∧ am_r (σ1.1 148 v3.toNat) ∧ am_r v1 ∧ ((¬ (σ1.1 148 v3.toNat) = v1 → am_U x m_Mo_sizeOf Po σ1 28 [some (Zr 147), some (Zi v1), none, some (Zi v3)] [Zi 0, Zi v2]) ∧ ((σ1.1 148 v3.toNat) = v1 → am_U x m_Mo_sizeOf Po σ1 28 [some (Zr 147), some (Zi v1), none, some (Zi v3)] [Zi 1, Zi v2]))))) σ 0 [some (Zr 147)] []) : am_U x m_Mo_sizeOf Po σ 4 [some (Zr 147), some (Zi v1), some (Zi v2), some (Zi v3)] [] := by
  refine V_iload_n d_Mo_sizeOf_4 rfl ?_
  refine V_aload_n d_Mo_sizeOf_5 rfl ?_
  refine U_iv0 cv_Mo_sizeOf_118 d_Mo_sizeOf_6 sh_147 rfl rfl (am_mono h ?_)
  rintro ro1 so1 σ1 ⟨z1, rfl, rfl, h⟩
  obtain ⟨h1, h⟩ := h
  obtain ⟨h2, h⟩ := h
  obtain ⟨ht, hf⟩ := h
  refine V_icmp_ge 36 d_Mo_sizeOf_9 h1 h2 (fun h7 => ?_) (fun h7 => ?_)
  · have h := ht h7
    refine V_iload_n d_Mo_sizeOf_36 rfl ?_
    exact V_iret d_Mo_sizeOf_37 rfl rfl h
  · have h := hf h7
    refine V_iload_n d_Mo_sizeOf_12 rfl ?_
    refine V_aload_n d_Mo_sizeOf_13 rfl ?_
    refine U_geta d_Mo_sizeOf_14 fl_Mo_16 sh_147 rfl ?_
    refine V_iload_n d_Mo_sizeOf_17 rfl ?_
    obtain ⟨h3, h⟩ := h
    refine U_iald d_Mo_sizeOf_18 sh_148 h3 ?_
    refine V_iload_n d_Mo_sizeOf_19 rfl ?_
    obtain ⟨h4, h⟩ := h
    obtain ⟨h5, h⟩ := h
    obtain ⟨ht, hf⟩ := h
    refine V_icmp_ne 27 d_Mo_sizeOf_20 h4 h5 (fun h6 => ?_) (fun h6 => ?_)
    · have h := ht h6
      refine V_iconst d_Mo_sizeOf_27 ?_
      refine V_drop 2 ?_
      exact h
    · have h := hf h6
      refine V_iconst d_Mo_sizeOf_23 ?_
      refine V_goto 28 d_Mo_sizeOf_24 ?_
      refine V_drop 2 ?_
      exact h
theorem s_Mo_sizeOf_28 {x : am_Sc} {Po : Option am_AV → am_Sh → am_St → Prop} {σ : am_St} {v1 v3 vk0 vk1 : Int}
    (h : am_U x m_Mo_sizeOf Po σ 4 [some (Zr 147), some (Zi v1), some (Zi (vk0 + vk1)), some (Zi (v3 + 1))] []) : am_U x m_Mo_sizeOf Po σ 28 [some (Zr 147), some (Zi v1), none, some (Zi v3)] [Zi vk1, Zi vk0] := by
  refine V_iadd d_Mo_sizeOf_28 ?_
  refine V_istore_n d_Mo_sizeOf_29 rfl ?_
  refine V_iinc d_Mo_sizeOf_30 rfl rfl ?_
  refine V_goto 4 d_Mo_sizeOf_33 ?_
  exact h
theorem s_Mo_join_0 {x : am_Sc} {Po : Option am_AV → am_Sh → am_St → Prop} {σ : am_St} {v1 v2 : Int}
    (h : am_U x m_Mo_isBlock (fun ro1 so1 σ1 => ∃ z1 : Int, ro1 = some (Zi z1) ∧ so1 = am_SH ∧ am_r z1 ∧ ((z1 = 0 → am_U x m_Mo_join Po σ1 14 [none, none, none, none] []) ∧ (¬ z1 = 0 → am_U x m_Mo_isBlock (fun ro2 so2 σ2 => ∃ z2 : Int, ro2 = some (Zi z2) ∧ so2 = am_SH ∧ am_r z2 ∧ ((¬ z2 = 0 → am_r v1 ∧ am_r v2 ∧ ((¬ v1 = v2 → am_U x m_Mo_join Po σ2 27 [some (Zr 147), some (Zi v1), some (Zi v2), some (Zi 0)] []) ∧ (v1 = v2 → Po (some (Zi (-3))) am_SH σ2))) ∧ (z2 = 0 → am_U x m_Mo_join Po σ2 14 [none, none, none, none] []))) σ1 0 [some (Zi v2)] []))) σ 0 [some (Zi v1)] []) : am_U x m_Mo_join Po σ 0 [some (Zr 147), some (Zi v1), some (Zi v2), none] [] := by
  refine V_iload_n d_Mo_join_0 rfl ?_
  refine U_is1 cv_Mo_join_138 d_Mo_join_1  rfl (am_mono h ?_)
  rintro ro1 so1 σ1 ⟨z1, rfl, rfl, h⟩
  obtain ⟨h1, h⟩ := h
  obtain ⟨ht, hf⟩ := h
  refine V_if_eq 14 d_Mo_join_4 h1 (fun h7 => ?_) (fun h7 => ?_)
  · have h := ht h7
    refine V_drop 0 ?_
    refine V_drop 1 ?_
    refine V_drop 2 ?_
    exact h
  · have h := hf h7
    refine V_iload_n d_Mo_join_7 rfl ?_
    refine U_is1 cv_Mo_join_138 d_Mo_join_8  rfl (am_mono h ?_)
    rintro ro2 so2 σ2 ⟨z2, rfl, rfl, h⟩
    obtain ⟨h2, h⟩ := h
    obtain ⟨ht, hf⟩ := h
    refine V_if_ne 17 d_Mo_join_11 h2 (fun h6 => ?_) (fun h6 => ?_)
    · have h := ht h6
      refine V_iload_n d_Mo_join_17 rfl ?_
      refine V_iload_n d_Mo_join_18 rfl ?_
      obtain ⟨h3, h⟩ := h
      obtain ⟨h4, h⟩ := h
      obtain ⟨ht, hf⟩ := h
      refine V_icmp_ne 25 d_Mo_join_19 h3 h4 (fun h5 => ?_) (fun h5 => ?_)
      · have h := ht h5
        refine V_iconst d_Mo_join_25 ?_
        refine V_istore_n d_Mo_join_26 rfl ?_
        exact h
      · have h := hf h5
        refine V_bipush d_Mo_join_22 ?_
        exact V_iret d_Mo_join_24 rfl rfl h
    · have h := hf h6
      refine V_drop 0 ?_
      refine V_drop 1 ?_
      refine V_drop 2 ?_
      exact h
theorem s_Mo_join_14 {x : am_Sc} {Po : Option am_AV → am_Sh → am_St → Prop} {σ : am_St}
    (h : Po (some (Zi (-2))) am_SH σ) : am_U x m_Mo_join Po σ 14 [none, none, none, none] [] := by
  refine V_bipush d_Mo_join_14 ?_
  exact V_iret d_Mo_join_16 rfl rfl h
theorem s_Mo_join_27 {x : am_Sc} {Po : Option am_AV → am_Sh → am_St → Prop} {σ : am_St} {v1 v2 v3 : Int}
    (h : am_U x m_Mo_cells (fun ro3 so3 σ3 => ∃ z3 : Int, ro3 = some (Zi z3) ∧ so3 = am_SH ∧ am_r v3 ∧ am_r z3 ∧ ((z3 ≤ v3 → am_U x m_Mo_sizeOf (fun ro4 so4 σ4 => ∃ z4 : Int, ro4 = some (Zi z4) ∧ so4 = am_SH ∧ Po (some (Zi z4)) am_SH σ4) σ3 0 [some (Zr 147), some (Zi v1), none, none] []) ∧ (¬ z3 ≤ v3 → (0 ≤ v3 ∧ v3 < 16) ∧ am_r (σ3.1 148 v3.toNat) ∧ am_r v2 ∧ ((¬ (σ3.1 148 v3.toNat) = v2 → am_U x m_Mo_join Po σ3 60 [some (Zr 147), some (Zi v1), some (Zi v2), some (Zi v3)] [Zi (σ3.1 148 v3.toNat), Zi v3, Zr 148]) ∧ ((σ3.1 148 v3.toNat) = v2 → am_U x m_Mo_join Po σ3 60 [some (Zr 147), some (Zi v1), some (Zi v2), some (Zi v3)] [Zi v1, Zi v3, Zr 148]))))) σ 0 [some (Zr 147)] []) : am_U x m_Mo_join Po σ 27 [some (Zr 147), some (Zi v1), some (Zi v2), some (Zi v3)] [] := by
  refine V_iload_n d_Mo_join_27 rfl ?_
  refine V_aload_n d_Mo_join_28 rfl ?_
  refine U_iv0 cv_Mo_join_118 d_Mo_join_29 sh_147 rfl rfl (am_mono h ?_)
  rintro ro3 so3 σ3 ⟨z3, rfl, rfl, h⟩
  obtain ⟨h8, h⟩ := h
  obtain ⟨h9, h⟩ := h
  obtain ⟨ht, hf⟩ := h
  refine V_icmp_ge 67 d_Mo_join_32 h8 h9 (fun h14 => ?_) (fun h14 => ?_)
  · have h := ht h14
    refine V_aload_n d_Mo_join_67 rfl ?_
    refine V_iload_n d_Mo_join_68 rfl ?_
    refine U_iv1 cv_Mo_join_142 d_Mo_join_69 sh_147 rfl rfl (am_mono h ?_)
    rintro ro4 so4 σ4 ⟨z4, rfl, rfl, h⟩
    exact V_iret d_Mo_join_72 rfl rfl h
  · have h := hf h14
    refine V_aload_n d_Mo_join_35 rfl ?_
    refine U_geta d_Mo_join_36 fl_Mo_16 sh_147 rfl ?_
    refine V_iload_n d_Mo_join_39 rfl ?_
    refine V_aload_n d_Mo_join_40 rfl ?_
    refine U_geta d_Mo_join_41 fl_Mo_16 sh_147 rfl ?_
    refine V_iload_n d_Mo_join_44 rfl ?_
    obtain ⟨h10, h⟩ := h
    refine U_iald d_Mo_join_45 sh_148 h10 ?_
    refine V_iload_n d_Mo_join_46 rfl ?_
    obtain ⟨h11, h⟩ := h
    obtain ⟨h12, h⟩ := h
    obtain ⟨ht, hf⟩ := h
    refine V_icmp_ne 54 d_Mo_join_47 h11 h12 (fun h13 => ?_) (fun h13 => ?_)
    · have h := ht h13
      refine V_aload_n d_Mo_join_54 rfl ?_
      refine U_geta d_Mo_join_55 fl_Mo_16 sh_147 rfl ?_
      refine V_iload_n d_Mo_join_58 rfl ?_
      refine U_iald d_Mo_join_59 sh_148 h10 ?_
      exact h
    · have h := hf h13
      refine V_iload_n d_Mo_join_50 rfl ?_
      refine V_goto 60 d_Mo_join_51 ?_
      exact h
theorem s_Mo_join_60 {x : am_Sc} {Po : Option am_AV → am_Sh → am_St → Prop} {σ : am_St} {v1 v2 v3 vk1 vk2 : Int}
    (h : (0 ≤ vk1 ∧ vk1 < 16) ∧ (∀ σ5 : am_St, σ5 = (am_up σ.1 148 vk1.toNat vk2, σ.2) → am_U x m_Mo_join Po σ5 27 [some (Zr 147), some (Zi v1), some (Zi v2), some (Zi (v3 + 1))] [])) : am_U x m_Mo_join Po σ 60 [some (Zr 147), some (Zi v1), some (Zi v2), some (Zi v3)] [Zi vk2, Zi vk1, Zr 148] := by
  obtain ⟨h15, h⟩ := h
  refine U_iast d_Mo_join_60 sh_148 h15 ?_
  have h := h _ rfl
  refine V_iinc d_Mo_join_61 rfl rfl ?_
  refine V_goto 27 d_Mo_join_64 ?_
  exact h
theorem s_Mo_at_0 {x : am_Sc} {Po : Option am_AV → am_Sh → am_St → Prop} {σ : am_St} {v1 v2 : Int}
    (h : am_U x m_Mo_isCell (fun ro1 so1 σ1 => ∃ z1 : Int, ro1 = some (Zi z1) ∧ so1 = am_SH ∧ am_r z1 ∧ ((¬ z1 = 0 → am_r v2 ∧ ((¬ v2 = 0 → ((¬ v2 = 1 → am_U x m_Mo_at Po σ1 45 [none, none, none] [Zi (-3)]) ∧ (v2 = 1 → (0 ≤ v1 ∧ v1 < 16) ∧ (0 ≤ σ1.1 148 v1.toNat ∧ σ1.1 148 v1.toNat < 8) ∧ am_U x m_Mo_at Po σ1 45 [none, none, none] [Zi (σ1.1 149 (σ1.1 148 v1.toNat).toNat)]))) ∧ (v2 = 0 → (0 ≤ v1 ∧ v1 < 16) ∧ am_U x m_Mo_at Po σ1 45 [none, none, none] [Zi (σ1.1 148 v1.toNat)]))) ∧ (z1 = 0 → Po (some (Zi (-2))) am_SH σ1))) σ 0 [some (Zr 147), some (Zi v1)] []) : am_U x m_Mo_at Po σ 0 [some (Zr 147), some (Zi v1), some (Zi v2)] [] := by
  refine V_aload_n d_Mo_at_0 rfl ?_
  refine V_iload_n d_Mo_at_1 rfl ?_
  refine U_iv1 cv_Mo_at_146 d_Mo_at_2 sh_147 rfl rfl (am_mono h ?_)
  rintro ro1 so1 σ1 ⟨z1, rfl, rfl, h⟩
  obtain ⟨h1, h⟩ := h
  obtain ⟨ht, hf⟩ := h
  refine V_if_ne 11 d_Mo_at_5 h1 (fun h8 => ?_) (fun h8 => ?_)
  · have h := ht h8
    refine V_iload_n d_Mo_at_11 rfl ?_
    obtain ⟨h2, h⟩ := h
    obtain ⟨ht, hf⟩ := h
    refine V_if_ne 24 d_Mo_at_12 h2 (fun h7 => ?_) (fun h7 => ?_)
    · have h := ht h7
      refine V_iload_n d_Mo_at_24 rfl ?_
      refine V_iconst d_Mo_at_25 ?_
      obtain ⟨ht, hf⟩ := h
      refine V_icmp_ne 43 d_Mo_at_26 h2 (by decide) (fun h5 => ?_) (fun h5 => ?_)
      · have h := ht h5
        refine V_bipush d_Mo_at_43 ?_
        refine V_drop 0 ?_
        refine V_drop 1 ?_
        refine V_drop 2 ?_
        exact h
      · have h := hf h5
        refine V_aload_n d_Mo_at_29 rfl ?_
        refine U_geta d_Mo_at_30 fl_Mo_20 sh_147 rfl ?_
        refine V_aload_n d_Mo_at_33 rfl ?_
        refine U_geta d_Mo_at_34 fl_Mo_16 sh_147 rfl ?_
        refine V_iload_n d_Mo_at_37 rfl ?_
        obtain ⟨h3, h⟩ := h
        refine U_iald d_Mo_at_38 sh_148 h3 ?_
        obtain ⟨h4, h⟩ := h
        refine U_iald d_Mo_at_39 sh_149 h4 ?_
        refine V_goto 45 d_Mo_at_40 ?_
        refine V_drop 0 ?_
        refine V_drop 1 ?_
        refine V_drop 2 ?_
        exact h
    · have h := hf h7
      refine V_aload_n d_Mo_at_15 rfl ?_
      refine U_geta d_Mo_at_16 fl_Mo_16 sh_147 rfl ?_
      refine V_iload_n d_Mo_at_19 rfl ?_
      obtain ⟨h6, h⟩ := h
      refine U_iald d_Mo_at_20 sh_148 h6 ?_
      refine V_goto 45 d_Mo_at_21 ?_
      refine V_drop 0 ?_
      refine V_drop 1 ?_
      refine V_drop 2 ?_
      exact h
  · have h := hf h8
    refine V_bipush d_Mo_at_8 ?_
    exact V_iret d_Mo_at_10 rfl rfl h
theorem s_Mo_at_45 {x : am_Sc} {Po : Option am_AV → am_Sh → am_St → Prop} {σ : am_St} {vk0 : Int}
    (h : Po (some (Zi vk0)) am_SH σ) : am_U x m_Mo_at Po σ 45 [none, none, none] [Zi vk0] := by
  exact V_iret d_Mo_at_45 rfl rfl h
theorem s_Mo_isCell_0 {x : am_Sc} {Po : Option am_AV → am_Sh → am_St → Prop} {σ : am_St} {v1 : Int}
    (h : am_U x m_Mo_cells (fun ro1 so1 σ1 => ∃ z1 : Int, ro1 = some (Zi z1) ∧ so1 = am_SH ∧ am_U x m_Mo_in (fun ro2 so2 σ2 => ∃ z2 : Int, ro2 = some (Zi z2) ∧ so2 = am_SH ∧ (z2 = 0 ∨ z2 = 1) ∧ Po (some (Zi z2)) am_SH σ2) σ1 0 [some (Zi v1), some (Zi 0), some (Zi (z1 - 1))] []) σ 0 [some (Zr 147)] []) : am_U x m_Mo_isCell Po σ 0 [some (Zr 147), some (Zi v1)] [] := by
  refine V_iload_n d_Mo_isCell_0 rfl ?_
  refine V_iconst d_Mo_isCell_1 ?_
  refine V_aload_n d_Mo_isCell_2 rfl ?_
  refine U_iv0 cv_Mo_isCell_118 d_Mo_isCell_3 sh_147 rfl rfl (am_mono h ?_)
  rintro ro1 so1 σ1 ⟨z1, rfl, rfl, h⟩
  refine V_iconst d_Mo_isCell_6 ?_
  refine V_isub d_Mo_isCell_7 ?_
  refine U_is3 cv_Mo_isCell_122 d_Mo_isCell_8  rfl (am_mono h ?_)
  rintro ro2 so2 σ2 ⟨z2, rfl, rfl, h⟩
  obtain ⟨h1, h⟩ := h
  exact V_zret d_Mo_isCell_11 rfl rfl h1 h
theorem s_Mo_time_0 {x : am_Sc} {Po : Option am_AV → am_Sh → am_St → Prop} {σ : am_St} {v1 v2 v3 : Int}
    (h : am_U x m_Mo_isCell (fun ro1 so1 σ1 => ∃ z1 : Int, ro1 = some (Zi z1) ∧ so1 = am_SH ∧ am_r z1 ∧ ((z1 = 0 → am_U x m_Mo_time Po σ1 16 [none, none, none, none] []) ∧ (¬ z1 = 0 → am_U x m_Mo_isCell (fun ro2 so2 σ2 => ∃ z2 : Int, ro2 = some (Zi z2) ∧ so2 = am_SH ∧ am_r z2 ∧ ((¬ z2 = 0 → am_U x m_Mo_isKind (fun ro3 so3 σ3 => ∃ z3 : Int, ro3 = some (Zi z3) ∧ so3 = am_SH ∧ am_r z3 ∧ ((¬ z3 = 0 → am_U x m_Mo_findTimes (fun ro4 so4 σ4 => ro4 = none ∧ so4 = am_SH ∧ (0 ≤ v2 ∧ v2 < 16) ∧ Po (some (Zi (σ4.1 164 v2.toNat))) am_SH σ4) σ3 0 [some (Zr 147), some (Zi v1), some (Zi v3), none, none, none, none, none, none, none] []) ∧ (z3 = 0 → Po (some (Zi (-3))) am_SH σ3))) σ2 0 [some (Zi v3)] []) ∧ (z2 = 0 → am_U x m_Mo_time Po σ2 16 [none, none, none, none] []))) σ1 0 [some (Zr 147), some (Zi v2)] []))) σ 0 [some (Zr 147), some (Zi v1)] []) : am_U x m_Mo_time Po σ 0 [some (Zr 147), some (Zi v1), some (Zi v2), some (Zi v3)] [] := by
  refine V_aload_n d_Mo_time_0 rfl ?_
  refine V_iload_n d_Mo_time_1 rfl ?_
  refine U_iv1 cv_Mo_time_146 d_Mo_time_2 sh_147 rfl rfl (am_mono h ?_)
  rintro ro1 so1 σ1 ⟨z1, rfl, rfl, h⟩
  obtain ⟨h1, h⟩ := h
  obtain ⟨ht, hf⟩ := h
  refine V_if_eq 16 d_Mo_time_5 h1 (fun h7 => ?_) (fun h7 => ?_)
  · have h := ht h7
    refine V_drop 0 ?_
    refine V_drop 1 ?_
    refine V_drop 2 ?_
    refine V_drop 3 ?_
    exact h
  · have h := hf h7
    refine V_aload_n d_Mo_time_8 rfl ?_
    refine V_iload_n d_Mo_time_9 rfl ?_
    refine U_iv1 cv_Mo_time_146 d_Mo_time_10 sh_147 rfl rfl (am_mono h ?_)
    rintro ro2 so2 σ2 ⟨z2, rfl, rfl, h⟩
    obtain ⟨h2, h⟩ := h
    obtain ⟨ht, hf⟩ := h
    refine V_if_ne 19 d_Mo_time_13 h2 (fun h6 => ?_) (fun h6 => ?_)
    · have h := ht h6
      refine V_iload_n d_Mo_time_19 rfl ?_
      refine U_is1 cv_Mo_time_154 d_Mo_time_20  rfl (am_mono h ?_)
      rintro ro3 so3 σ3 ⟨z3, rfl, rfl, h⟩
      obtain ⟨h3, h⟩ := h
      obtain ⟨ht, hf⟩ := h
      refine V_if_ne 29 d_Mo_time_23 h3 (fun h5 => ?_) (fun h5 => ?_)
      · have h := ht h5
        refine V_aload_n d_Mo_time_29 rfl ?_
        refine V_iload_n d_Mo_time_30 rfl ?_
        refine V_iload_n d_Mo_time_31 rfl ?_
        refine U_iv2 cv_Mo_time_157 d_Mo_time_32 sh_147 rfl rfl (am_mono h ?_)
        rintro ro4 so4 σ4 ⟨rfl, rfl, h⟩
        refine V_aload_n d_Mo_time_35 rfl ?_
        refine U_geta d_Mo_time_36 fl_Mo_69 sh_147 rfl ?_
        refine V_iload_n d_Mo_time_39 rfl ?_
        obtain ⟨h4, h⟩ := h
        refine U_iald d_Mo_time_40 sh_164 h4 ?_
        exact V_iret d_Mo_time_41 rfl rfl h
      · have h := hf h5
        refine V_bipush d_Mo_time_26 ?_
        exact V_iret d_Mo_time_28 rfl rfl h
    · have h := hf h6
      refine V_drop 0 ?_
      refine V_drop 1 ?_
      refine V_drop 2 ?_
      refine V_drop 3 ?_
      exact h
theorem s_Mo_time_16 {x : am_Sc} {Po : Option am_AV → am_Sh → am_St → Prop} {σ : am_St}
    (h : Po (some (Zi (-2))) am_SH σ) : am_U x m_Mo_time Po σ 16 [none, none, none, none] [] := by
  refine V_bipush d_Mo_time_16 ?_
  exact V_iret d_Mo_time_18 rfl rfl h
theorem s_Mo_isKind_0 {x : am_Sc} {Po : Option am_AV → am_Sh → am_St → Prop} {σ : am_St} {v0 : Int}
    (h : am_U x m_Mo_in (fun ro1 so1 σ1 => ∃ z1 : Int, ro1 = some (Zi z1) ∧ so1 = am_SH ∧ (z1 = 0 ∨ z1 = 1) ∧ Po (some (Zi z1)) am_SH σ1) σ 0 [some (Zi v0), some (Zi 0), some (Zi 1)] []) : am_U x m_Mo_isKind Po σ 0 [some (Zi v0)] [] := by
  refine V_iload_n d_Mo_isKind_0 rfl ?_
  refine V_iconst d_Mo_isKind_1 ?_
  refine V_iconst d_Mo_isKind_2 ?_
  refine U_is3 cv_Mo_isKind_122 d_Mo_isKind_3  rfl (am_mono h ?_)
  rintro ro1 so1 σ1 ⟨z1, rfl, rfl, h⟩
  obtain ⟨h1, h⟩ := h
  exact V_zret d_Mo_isKind_6 rfl rfl h1 h
theorem s_Mo_findTimes_0 {x : am_Sc} {Po : Option am_AV → am_Sh → am_St → Prop} {σ : am_St} {v1 v2 : Int}
    (h : am_U x m_Mo_findTimes Po σ 2 [some (Zr 147), some (Zi v1), some (Zi v2), some (Zi 0), none, none, none, none, none, none] []) : am_U x m_Mo_findTimes Po σ 0 [some (Zr 147), some (Zi v1), some (Zi v2), none, none, none, none, none, none, none] [] := by
  refine V_iconst d_Mo_findTimes_0 ?_
  refine V_istore_n d_Mo_findTimes_1 rfl ?_
  exact h
theorem s_Mo_findTimes_2 {x : am_Sc} {Po : Option am_AV → am_Sh → am_St → Prop} {σ : am_St} {v1 v2 v3 : Int}
    (h : am_r v3 ∧ ((16 ≤ v3 → am_U x m_Mo_findTimes Po σ 33 [some (Zr 147), none, some (Zi v2), some (Zi 1), none, none, none, none, none, none] []) ∧ (¬ 16 ≤ v3 → am_r v1 ∧ ((¬ v3 = v1 → am_U x m_Mo_findTimes Po σ 24 [some (Zr 147), some (Zi v1), some (Zi v2), some (Zi v3), none, none, none, none, none, none] [Zi 1000000, Zi v3, Zr 164]) ∧ (v3 = v1 → am_U x m_Mo_findTimes Po σ 24 [some (Zr 147), some (Zi v1), some (Zi v2), some (Zi v3), none, none, none, none, none, none] [Zi 0, Zi v3, Zr 164]))))) : am_U x m_Mo_findTimes Po σ 2 [some (Zr 147), some (Zi v1), some (Zi v2), some (Zi v3), none, none, none, none, none, none] [] := by
  refine V_iload_n d_Mo_findTimes_2 rfl ?_
  refine V_bipush d_Mo_findTimes_3 ?_
  obtain ⟨h1, h⟩ := h
  obtain ⟨ht, hf⟩ := h
  refine V_icmp_ge 31 d_Mo_findTimes_5 h1 (by decide) (fun h4 => ?_) (fun h4 => ?_)
  · have h := ht h4
    refine V_iconst d_Mo_findTimes_31 ?_
    refine V_istore_n d_Mo_findTimes_32 rfl ?_
    refine V_drop 1 ?_
    exact h
  · have h := hf h4
    refine V_aload_n d_Mo_findTimes_8 rfl ?_
    refine U_geta d_Mo_findTimes_9 fl_Mo_69 sh_147 rfl ?_
    refine V_iload_n d_Mo_findTimes_12 rfl ?_
    refine V_iload_n d_Mo_findTimes_13 rfl ?_
    refine V_iload_n d_Mo_findTimes_14 rfl ?_
    obtain ⟨h2, h⟩ := h
    obtain ⟨ht, hf⟩ := h
    refine V_icmp_ne 22 d_Mo_findTimes_15 h1 h2 (fun h3 => ?_) (fun h3 => ?_)
    · have h := ht h3
      refine V_ldc 1000000 d_Mo_findTimes_22 kc_Mo_149 ?_
      exact h
    · have h := hf h3
      refine V_iconst d_Mo_findTimes_18 ?_
      refine V_goto 24 d_Mo_findTimes_19 ?_
      exact h
theorem s_Mo_findTimes_33 {x : am_Sc} {Po : Option am_AV → am_Sh → am_St → Prop} {σ : am_St} {v2 v3 : Int}
    (h : am_r v3 ∧ ((v3 = 0 → Po none am_SH σ) ∧ (¬ v3 = 0 → am_U x m_Mo_findTimes Po σ 42 [some (Zr 147), none, some (Zi v2), some (Zi 0), some (Zi 0), none, none, none, none, none] []))) : am_U x m_Mo_findTimes Po σ 33 [some (Zr 147), none, some (Zi v2), some (Zi v3), none, none, none, none, none, none] [] := by
  refine V_iload_n d_Mo_findTimes_33 rfl ?_
  obtain ⟨h5, h⟩ := h
  obtain ⟨ht, hf⟩ := h
  refine V_if_eq 226 d_Mo_findTimes_34 h5 (fun h6 => ?_) (fun h6 => ?_)
  · have h := ht h6
    exact V_ret d_Mo_findTimes_226 rfl rfl h
  · have h := hf h6
    refine V_iconst d_Mo_findTimes_37 ?_
    refine V_istore_n d_Mo_findTimes_38 rfl ?_
    refine V_iconst d_Mo_findTimes_39 ?_
    refine V_istore d_Mo_findTimes_40 rfl ?_
    exact h
theorem s_Mo_findTimes_24 {x : am_Sc} {Po : Option am_AV → am_Sh → am_St → Prop} {σ : am_St} {v1 v2 v3 vk1 vk2 : Int}
    (h : (0 ≤ vk1 ∧ vk1 < 16) ∧ (∀ σ1 : am_St, σ1 = (am_up σ.1 164 vk1.toNat vk2, σ.2) → am_U x m_Mo_findTimes Po σ1 2 [some (Zr 147), some (Zi v1), some (Zi v2), some (Zi (v3 + 1)), none, none, none, none, none, none] [])) : am_U x m_Mo_findTimes Po σ 24 [some (Zr 147), some (Zi v1), some (Zi v2), some (Zi v3), none, none, none, none, none, none] [Zi vk2, Zi vk1, Zr 164] := by
  obtain ⟨h7, h⟩ := h
  refine U_iast d_Mo_findTimes_24 sh_164 h7 ?_
  have h := h _ rfl
  refine V_iinc d_Mo_findTimes_25 rfl rfl ?_
  refine V_goto 2 d_Mo_findTimes_28 ?_
  exact h
theorem s_Mo_findTimes_42 {x : am_Sc} {Po : Option am_AV → am_Sh → am_St → Prop} {σ : am_St} {v2 v3 v4 : Int}
    (h : am_U x m_Mo_cells (fun ro2 so2 σ2 => ∃ z2 : Int, ro2 = some (Zi z2) ∧ so2 = am_SH ∧ am_r v4 ∧ am_r z2 ∧ ((z2 ≤ v4 → am_U x m_Mo_findTimes Po σ2 33 [some (Zr 147), none, some (Zi v2), some (Zi v3), none, none, none, none, none, none] []) ∧ (¬ z2 ≤ v4 → am_U x m_Mo_findTimes Po σ2 54 [some (Zr 147), none, some (Zi v2), some (Zi v3), some (Zi v4), some (Zi 0), none, none, none, none] []))) σ 0 [some (Zr 147)] []) : am_U x m_Mo_findTimes Po σ 42 [some (Zr 147), none, some (Zi v2), some (Zi v3), some (Zi v4), none, none, none, none, none] [] := by
  refine V_iload d_Mo_findTimes_42 rfl ?_
  refine V_aload_n d_Mo_findTimes_44 rfl ?_
  refine U_iv0 cv_Mo_findTimes_118 d_Mo_findTimes_45 sh_147 rfl rfl (am_mono h ?_)
  rintro ro2 so2 σ2 ⟨z2, rfl, rfl, h⟩
  obtain ⟨h8, h⟩ := h
  obtain ⟨h9, h⟩ := h
  obtain ⟨ht, hf⟩ := h
  refine V_icmp_ge 223 d_Mo_findTimes_48 h8 h9 (fun h10 => ?_) (fun h10 => ?_)
  · have h := ht h10
    refine V_goto 33 d_Mo_findTimes_223 ?_
    refine V_drop 4 ?_
    exact h
  · have h := hf h10
    refine V_iconst d_Mo_findTimes_51 ?_
    refine V_istore d_Mo_findTimes_52 rfl ?_
    exact h
theorem s_Mo_findTimes_54 {x : am_Sc} {Po : Option am_AV → am_Sh → am_St → Prop} {σ : am_St} {v2 v3 v4 v5 : Int}
    (h : am_r v5 ∧ ((4 ≤ v5 → am_U x m_Mo_findTimes Po σ 42 [some (Zr 147), none, some (Zi v2), some (Zi v3), some (Zi (v4 + 1)), none, none, none, none, none] []) ∧ (¬ 4 ≤ v5 → am_r (σ.1 147 0) ∧ (σ.1 147 0) ≠ 0 ∧ ((¬ v5 = 0 → ((¬ v5 = 1 → am_U x m_Mo_findTimes Po σ 87 [some (Zr 147), none, some (Zi v2), some (Zi v3), some (Zi v4), some (Zi v5), none, none, none, none] [Zi 0, Zi (am_rem v4 (σ.1 147 0))]) ∧ (v5 = 1 → am_U x m_Mo_findTimes Po σ 87 [some (Zr 147), none, some (Zi v2), some (Zi v3), some (Zi v4), some (Zi v5), none, none, none, none] [Zi (-1), Zi (am_rem v4 (σ.1 147 0))]))) ∧ (v5 = 0 → am_U x m_Mo_findTimes Po σ 87 [some (Zr 147), none, some (Zi v2), some (Zi v3), some (Zi v4), some (Zi v5), none, none, none, none] [Zi 1, Zi (am_rem v4 (σ.1 147 0))]))))) : am_U x m_Mo_findTimes Po σ 54 [some (Zr 147), none, some (Zi v2), some (Zi v3), some (Zi v4), some (Zi v5), none, none, none, none] [] := by
  refine V_iload d_Mo_findTimes_54 rfl ?_
  refine V_iconst d_Mo_findTimes_56 ?_
  obtain ⟨h11, h⟩ := h
  obtain ⟨ht, hf⟩ := h
  refine V_icmp_ge 217 d_Mo_findTimes_57 h11 (by decide) (fun h16 => ?_) (fun h16 => ?_)
  · have h := ht h16
    refine V_iinc d_Mo_findTimes_217 rfl rfl ?_
    refine V_goto 42 d_Mo_findTimes_220 ?_
    refine V_drop 5 ?_
    exact h
  · have h := hf h16
    refine V_iload d_Mo_findTimes_60 rfl ?_
    refine V_aload_n d_Mo_findTimes_62 rfl ?_
    refine U_geti d_Mo_findTimes_63 fl_Mo_7 sh_147 ?_
    obtain ⟨h12, h⟩ := h
    obtain ⟨h13, h⟩ := h
    refine V_irem d_Mo_findTimes_66 h12 h13 ?_
    refine V_iload d_Mo_findTimes_67 rfl ?_
    obtain ⟨ht, hf⟩ := h
    refine V_if_ne 76 d_Mo_findTimes_69 h11 (fun h15 => ?_) (fun h15 => ?_)
    · have h := ht h15
      refine V_iload d_Mo_findTimes_76 rfl ?_
      refine V_iconst d_Mo_findTimes_78 ?_
      obtain ⟨ht, hf⟩ := h
      refine V_icmp_ne 86 d_Mo_findTimes_79 h11 (by decide) (fun h14 => ?_) (fun h14 => ?_)
      · have h := ht h14
        refine V_iconst d_Mo_findTimes_86 ?_
        exact h
      · have h := hf h14
        refine V_iconst d_Mo_findTimes_82 ?_
        refine V_goto 87 d_Mo_findTimes_83 ?_
        exact h
    · have h := hf h15
      refine V_iconst d_Mo_findTimes_72 ?_
      refine V_goto 87 d_Mo_findTimes_73 ?_
      exact h
theorem s_Mo_findTimes_87 {x : am_Sc} {Po : Option am_AV → am_Sh → am_St → Prop} {σ : am_St} {v2 v3 v4 v5 vk0 vk1 : Int}
    (h : am_r (σ.1 147 0) ∧ (σ.1 147 0) ≠ 0 ∧ am_r v5 ∧ ((¬ v5 = 2 → ((¬ v5 = 3 → am_U x m_Mo_findTimes Po σ 118 [some (Zr 147), none, some (Zi v2), some (Zi v3), some (Zi v4), some (Zi v5), some (Zi (vk0 + vk1)), none, none, none] [Zi 0, Zi (am_div v4 (σ.1 147 0))]) ∧ (v5 = 3 → am_U x m_Mo_findTimes Po σ 118 [some (Zr 147), none, some (Zi v2), some (Zi v3), some (Zi v4), some (Zi v5), some (Zi (vk0 + vk1)), none, none, none] [Zi (-1), Zi (am_div v4 (σ.1 147 0))]))) ∧ (v5 = 2 → am_U x m_Mo_findTimes Po σ 118 [some (Zr 147), none, some (Zi v2), some (Zi v3), some (Zi v4), some (Zi v5), some (Zi (vk0 + vk1)), none, none, none] [Zi 1, Zi (am_div v4 (σ.1 147 0))]))) : am_U x m_Mo_findTimes Po σ 87 [some (Zr 147), none, some (Zi v2), some (Zi v3), some (Zi v4), some (Zi v5), none, none, none, none] [Zi vk1, Zi vk0] := by
  refine V_iadd d_Mo_findTimes_87 ?_
  refine V_istore d_Mo_findTimes_88 rfl ?_
  refine V_iload d_Mo_findTimes_90 rfl ?_
  refine V_aload_n d_Mo_findTimes_92 rfl ?_
  refine U_geti d_Mo_findTimes_93 fl_Mo_7 sh_147 ?_
  obtain ⟨h17, h⟩ := h
  obtain ⟨h18, h⟩ := h
  refine V_idiv d_Mo_findTimes_96 h17 h18 ?_
  refine V_iload d_Mo_findTimes_97 rfl ?_
  refine V_iconst d_Mo_findTimes_99 ?_
  obtain ⟨h19, h⟩ := h
  obtain ⟨ht, hf⟩ := h
  refine V_icmp_ne 107 d_Mo_findTimes_100 h19 (by decide) (fun h21 => ?_) (fun h21 => ?_)
  · have h := ht h21
    refine V_iload d_Mo_findTimes_107 rfl ?_
    refine V_iconst d_Mo_findTimes_109 ?_
    obtain ⟨ht, hf⟩ := h
    refine V_icmp_ne 117 d_Mo_findTimes_110 h19 (by decide) (fun h20 => ?_) (fun h20 => ?_)
    · have h := ht h20
      refine V_iconst d_Mo_findTimes_117 ?_
      exact h
    · have h := hf h20
      refine V_iconst d_Mo_findTimes_113 ?_
      refine V_goto 118 d_Mo_findTimes_114 ?_
      exact h
  · have h := hf h21
    refine V_iconst d_Mo_findTimes_103 ?_
    refine V_goto 118 d_Mo_findTimes_104 ?_
    exact h
theorem s_Mo_findTimes_118 {x : am_Sc} {Po : Option am_AV → am_Sh → am_St → Prop} {σ : am_St} {v2 v3 v4 v5 v6 vk0 vk1 : Int}
    (h : am_U x m_Mo_in (fun ro3 so3 σ3 => ∃ z3 : Int, ro3 = some (Zi z3) ∧ so3 = am_SH ∧ am_r z3 ∧ ((z3 = 0 → am_U x m_Mo_findTimes Po σ3 211 [some (Zr 147), none, some (Zi v2), some (Zi v3), some (Zi v4), some (Zi v5), none, none, none, none] []) ∧ (¬ z3 = 0 → am_U x m_Mo_in (fun ro4 so4 σ4 => ∃ z4 : Int, ro4 = some (Zi z4) ∧ so4 = am_SH ∧ am_r z4 ∧ ((z4 = 0 → am_U x m_Mo_findTimes Po σ4 211 [some (Zr 147), none, some (Zi v2), some (Zi v3), some (Zi v4), some (Zi v5), none, none, none, none] []) ∧ (¬ z4 = 0 → (0 ≤ v4 ∧ v4 < 16) ∧ am_U x m_Mo_slowAt (fun ro5 so5 σ5 => ∃ z5 : Int, ro5 = some (Zi z5) ∧ so5 = am_SH ∧ am_U x m_Mo_slowAt (fun ro6 so6 σ6 => ∃ z6 : Int, ro6 = some (Zi z6) ∧ so6 = am_SH ∧ (0 ≤ ((σ4.1 147 0) * (vk0 + vk1)) + v6 ∧ ((σ4.1 147 0) * (vk0 + vk1)) + v6 < 16) ∧ am_r (((σ4.1 164 v4.toNat) + z5) + z6) ∧ am_r (σ6.1 164 (((σ4.1 147 0) * (vk0 + vk1)) + v6).toNat) ∧ (((σ6.1 164 (((σ4.1 147 0) * (vk0 + vk1)) + v6).toNat) ≤ (((σ4.1 164 v4.toNat) + z5) + z6) → am_U x m_Mo_findTimes Po σ6 211 [some (Zr 147), none, some (Zi v2), some (Zi v3), some (Zi v4), some (Zi v5), none, none, none, none] []) ∧ (¬ (σ6.1 164 (((σ4.1 147 0) * (vk0 + vk1)) + v6).toNat) ≤ (((σ4.1 164 v4.toNat) + z5) + z6) → (∀ σ7 : am_St, σ7 = (am_up σ6.1 164 (((σ4.1 147 0) * (vk0 + vk1)) + v6).toNat (((σ4.1 164 v4.toNat) + z5) + z6), σ6.2) → am_U x m_Mo_findTimes Po σ7 211 [some (Zr 147), none, some (Zi v2), some (Zi 1), some (Zi v4), some (Zi v5), none, none, none, none] [])))) σ5 0 [some (Zr 147), some (Zi (((σ4.1 147 0) * (vk0 + vk1)) + v6)), some (Zi v2), none] []) σ4 0 [some (Zr 147), some (Zi v4), some (Zi v2), none] []))) σ3 0 [some (Zi (vk0 + vk1)), some (Zi 0), some (Zi ((σ3.1 147 1) - 1))] []))) σ 0 [some (Zi v6), some (Zi 0), some (Zi ((σ.1 147 0) - 1))] []) : am_U x m_Mo_findTimes Po σ 118 [some (Zr 147), none, some (Zi v2), some (Zi v3), some (Zi v4), some (Zi v5), some (Zi v6), none, none, none] [Zi vk1, Zi vk0] := by
  refine V_iadd d_Mo_findTimes_118 ?_
  refine V_istore d_Mo_findTimes_119 rfl ?_
  refine V_iload d_Mo_findTimes_121 rfl ?_
  refine V_iconst d_Mo_findTimes_123 ?_
  refine V_aload_n d_Mo_findTimes_124 rfl ?_
  refine U_geti d_Mo_findTimes_125 fl_Mo_7 sh_147 ?_
  refine V_iconst d_Mo_findTimes_128 ?_
  refine V_isub d_Mo_findTimes_129 ?_
  refine U_is3 cv_Mo_findTimes_122 d_Mo_findTimes_130  rfl (am_mono h ?_)
  rintro ro3 so3 σ3 ⟨z3, rfl, rfl, h⟩
  obtain ⟨h22, h⟩ := h
  obtain ⟨ht, hf⟩ := h
  refine V_if_eq 211 d_Mo_findTimes_133 h22 (fun h30 => ?_) (fun h30 => ?_)
  · have h := ht h30
    refine V_drop 6 ?_
    refine V_drop 7 ?_
    exact h
  · have h := hf h30
    refine V_iload d_Mo_findTimes_136 rfl ?_
    refine V_iconst d_Mo_findTimes_138 ?_
    refine V_aload_n d_Mo_findTimes_139 rfl ?_
    refine U_geti d_Mo_findTimes_140 fl_Mo_13 sh_147 ?_
    refine V_iconst d_Mo_findTimes_143 ?_
    refine V_isub d_Mo_findTimes_144 ?_
    refine U_is3 cv_Mo_findTimes_122 d_Mo_findTimes_145  rfl (am_mono h ?_)
    rintro ro4 so4 σ4 ⟨z4, rfl, rfl, h⟩
    obtain ⟨h23, h⟩ := h
    obtain ⟨ht, hf⟩ := h
    refine V_if_eq 211 d_Mo_findTimes_148 h23 (fun h29 => ?_) (fun h29 => ?_)
    · have h := ht h29
      refine V_drop 6 ?_
      refine V_drop 7 ?_
      exact h
    · have h := hf h29
      refine V_aload_n d_Mo_findTimes_151 rfl ?_
      refine U_geti d_Mo_findTimes_152 fl_Mo_7 sh_147 ?_
      refine V_iload d_Mo_findTimes_155 rfl ?_
      refine V_imul d_Mo_findTimes_157 ?_
      refine V_iload d_Mo_findTimes_158 rfl ?_
      refine V_iadd d_Mo_findTimes_160 ?_
      refine V_istore d_Mo_findTimes_161 rfl ?_
      refine V_aload_n d_Mo_findTimes_163 rfl ?_
      refine U_geta d_Mo_findTimes_164 fl_Mo_69 sh_147 rfl ?_
      refine V_iload d_Mo_findTimes_167 rfl ?_
      obtain ⟨h24, h⟩ := h
      refine U_iald d_Mo_findTimes_169 sh_164 h24 ?_
      refine V_aload_n d_Mo_findTimes_170 rfl ?_
      refine V_iload d_Mo_findTimes_171 rfl ?_
      refine V_iload_n d_Mo_findTimes_173 rfl ?_
      refine U_iv2 cv_Mo_findTimes_150 d_Mo_findTimes_174 sh_147 rfl rfl (am_mono h ?_)
      rintro ro5 so5 σ5 ⟨z5, rfl, rfl, h⟩
      refine V_iadd d_Mo_findTimes_177 ?_
      refine V_aload_n d_Mo_findTimes_178 rfl ?_
      refine V_iload d_Mo_findTimes_179 rfl ?_
      refine V_iload_n d_Mo_findTimes_181 rfl ?_
      refine U_iv2 cv_Mo_findTimes_150 d_Mo_findTimes_182 sh_147 rfl rfl (am_mono h ?_)
      rintro ro6 so6 σ6 ⟨z6, rfl, rfl, h⟩
      refine V_iadd d_Mo_findTimes_185 ?_
      refine V_istore d_Mo_findTimes_186 rfl ?_
      refine V_iload d_Mo_findTimes_188 rfl ?_
      refine V_aload_n d_Mo_findTimes_190 rfl ?_
      refine U_geta d_Mo_findTimes_191 fl_Mo_69 sh_147 rfl ?_
      refine V_iload d_Mo_findTimes_194 rfl ?_
      obtain ⟨h25, h⟩ := h
      refine U_iald d_Mo_findTimes_196 sh_164 h25 ?_
      obtain ⟨h26, h⟩ := h
      obtain ⟨h27, h⟩ := h
      obtain ⟨ht, hf⟩ := h
      refine V_icmp_ge 211 d_Mo_findTimes_197 h26 h27 (fun h28 => ?_) (fun h28 => ?_)
      · have h := ht h28
        refine V_drop 6 ?_
        refine V_drop 7 ?_
        refine V_drop 8 ?_
        refine V_drop 9 ?_
        exact h
      · have h := hf h28
        refine V_aload_n d_Mo_findTimes_200 rfl ?_
        refine U_geta d_Mo_findTimes_201 fl_Mo_69 sh_147 rfl ?_
        refine V_iload d_Mo_findTimes_204 rfl ?_
        refine V_iload d_Mo_findTimes_206 rfl ?_
        refine U_iast d_Mo_findTimes_208 sh_164 h25 ?_
        have h := h _ rfl
        refine V_iconst d_Mo_findTimes_209 ?_
        refine V_istore_n d_Mo_findTimes_210 rfl ?_
        refine V_drop 6 ?_
        refine V_drop 7 ?_
        refine V_drop 8 ?_
        refine V_drop 9 ?_
        exact h
theorem s_Mo_findTimes_211 {x : am_Sc} {Po : Option am_AV → am_Sh → am_St → Prop} {σ : am_St} {v2 v3 v4 v5 : Int}
    (h : am_U x m_Mo_findTimes Po σ 54 [some (Zr 147), none, some (Zi v2), some (Zi v3), some (Zi v4), some (Zi (v5 + 1)), none, none, none, none] []) : am_U x m_Mo_findTimes Po σ 211 [some (Zr 147), none, some (Zi v2), some (Zi v3), some (Zi v4), some (Zi v5), none, none, none, none] [] := by
  refine V_iinc d_Mo_findTimes_211 rfl rfl ?_
  refine V_goto 54 d_Mo_findTimes_214 ?_
  exact h
theorem s_Mo_slowAt_0 {x : am_Sc} {Po : Option am_AV → am_Sh → am_St → Prop} {σ : am_St} {v1 v2 : Int}
    (h : (0 ≤ v1 ∧ v1 < 16) ∧ (0 ≤ σ.1 148 v1.toNat ∧ σ.1 148 v1.toNat < 8) ∧ am_r v2 ∧ ((¬ v2 = 0 → am_U x m_Mo_slowAt Po σ 29 [none, none, none, none] [Zi (am_div ((σ.1 149 (σ.1 148 v1.toNat).toNat) * (σ.1 147 4)) 10)]) ∧ (v2 = 0 → am_U x m_Mo_slowAt Po σ 29 [none, none, none, none] [Zi (σ.1 149 (σ.1 148 v1.toNat).toNat)]))) : am_U x m_Mo_slowAt Po σ 0 [some (Zr 147), some (Zi v1), some (Zi v2), none] [] := by
  refine V_aload_n d_Mo_slowAt_0 rfl ?_
  refine U_geta d_Mo_slowAt_1 fl_Mo_20 sh_147 rfl ?_
  refine V_aload_n d_Mo_slowAt_4 rfl ?_
  refine U_geta d_Mo_slowAt_5 fl_Mo_16 sh_147 rfl ?_
  refine V_iload_n d_Mo_slowAt_8 rfl ?_
  obtain ⟨h1, h⟩ := h
  refine U_iald d_Mo_slowAt_9 sh_148 h1 ?_
  obtain ⟨h2, h⟩ := h
  refine U_iald d_Mo_slowAt_10 sh_149 h2 ?_
  refine V_istore_n d_Mo_slowAt_11 rfl ?_
  refine V_iload_n d_Mo_slowAt_12 rfl ?_
  obtain ⟨h3, h⟩ := h
  obtain ⟨ht, hf⟩ := h
  refine V_if_ne 20 d_Mo_slowAt_13 h3 (fun h4 => ?_) (fun h4 => ?_)
  · have h := ht h4
    refine V_iload_n d_Mo_slowAt_20 rfl ?_
    refine V_aload_n d_Mo_slowAt_21 rfl ?_
    refine U_geti d_Mo_slowAt_22 fl_Mo_23 sh_147 ?_
    refine V_imul d_Mo_slowAt_25 ?_
    refine V_bipush d_Mo_slowAt_26 ?_
    refine V_idiv d_Mo_slowAt_28 (by decide) (by decide) ?_
    refine V_drop 0 ?_
    refine V_drop 1 ?_
    refine V_drop 2 ?_
    refine V_drop 3 ?_
    exact h
  · have h := hf h4
    refine V_iload_n d_Mo_slowAt_16 rfl ?_
    refine V_goto 29 d_Mo_slowAt_17 ?_
    refine V_drop 0 ?_
    refine V_drop 1 ?_
    refine V_drop 2 ?_
    refine V_drop 3 ?_
    exact h
theorem s_Mo_slowAt_29 {x : am_Sc} {Po : Option am_AV → am_Sh → am_St → Prop} {σ : am_St} {vk0 : Int}
    (h : Po (some (Zi vk0)) am_SH σ) : am_U x m_Mo_slowAt Po σ 29 [none, none, none, none] [Zi vk0] := by
  exact V_iret d_Mo_slowAt_29 rfl rfl h
theorem s_Mo_way_0 {x : am_Sc} {Po : Option am_AV → am_Sh → am_St → Prop} {σ : am_St} {v1 v2 v3 v4 : Int}
    (h : am_U x m_Mo_isCell (fun ro1 so1 σ1 => ∃ z1 : Int, ro1 = some (Zi z1) ∧ so1 = am_SH ∧ am_r z1 ∧ ((z1 = 0 → am_U x m_Mo_way Po σ1 16 [none, none, none, none, none, none, none] []) ∧ (¬ z1 = 0 → am_U x m_Mo_isCell (fun ro2 so2 σ2 => ∃ z2 : Int, ro2 = some (Zi z2) ∧ so2 = am_SH ∧ am_r z2 ∧ ((¬ z2 = 0 → am_U x m_Mo_isKind (fun ro3 so3 σ3 => ∃ z3 : Int, ro3 = some (Zi z3) ∧ so3 = am_SH ∧ am_r z3 ∧ ((z3 = 0 → am_U x m_Mo_way Po σ3 31 [none, none, none, none, none, none, none] []) ∧ (¬ z3 = 0 → am_r v4 ∧ ((0 ≤ v4 → am_U x m_Mo_findTimes (fun ro4 so4 σ4 => ro4 = none ∧ so4 = am_SH ∧ am_U x m_Mo_way Po σ4 46 [some (Zr 147), none, some (Zi v2), some (Zi v3), some (Zi v4), some (Zi v1), some (Zi 0)] []) σ3 0 [some (Zr 147), some (Zi v2), some (Zi v3), none, none, none, none, none, none, none] []) ∧ (¬ 0 ≤ v4 → am_U x m_Mo_way Po σ3 31 [none, none, none, none, none, none, none] []))))) σ2 0 [some (Zi v3)] []) ∧ (z2 = 0 → am_U x m_Mo_way Po σ2 16 [none, none, none, none, none, none, none] []))) σ1 0 [some (Zr 147), some (Zi v2)] []))) σ 0 [some (Zr 147), some (Zi v1)] []) : am_U x m_Mo_way Po σ 0 [some (Zr 147), some (Zi v1), some (Zi v2), some (Zi v3), some (Zi v4), none, none] [] := by
  refine V_aload_n d_Mo_way_0 rfl ?_
  refine V_iload_n d_Mo_way_1 rfl ?_
  refine U_iv1 cv_Mo_way_146 d_Mo_way_2 sh_147 rfl rfl (am_mono h ?_)
  rintro ro1 so1 σ1 ⟨z1, rfl, rfl, h⟩
  obtain ⟨h1, h⟩ := h
  obtain ⟨ht, hf⟩ := h
  refine V_if_eq 16 d_Mo_way_5 h1 (fun h8 => ?_) (fun h8 => ?_)
  · have h := ht h8
    refine V_drop 0 ?_
    refine V_drop 1 ?_
    refine V_drop 2 ?_
    refine V_drop 3 ?_
    refine V_drop 4 ?_
    exact h
  · have h := hf h8
    refine V_aload_n d_Mo_way_8 rfl ?_
    refine V_iload_n d_Mo_way_9 rfl ?_
    refine U_iv1 cv_Mo_way_146 d_Mo_way_10 sh_147 rfl rfl (am_mono h ?_)
    rintro ro2 so2 σ2 ⟨z2, rfl, rfl, h⟩
    obtain ⟨h2, h⟩ := h
    obtain ⟨ht, hf⟩ := h
    refine V_if_ne 19 d_Mo_way_13 h2 (fun h7 => ?_) (fun h7 => ?_)
    · have h := ht h7
      refine V_iload_n d_Mo_way_19 rfl ?_
      refine U_is1 cv_Mo_way_154 d_Mo_way_20  rfl (am_mono h ?_)
      rintro ro3 so3 σ3 ⟨z3, rfl, rfl, h⟩
      obtain ⟨h3, h⟩ := h
      obtain ⟨ht, hf⟩ := h
      refine V_if_eq 31 d_Mo_way_23 h3 (fun h6 => ?_) (fun h6 => ?_)
      · have h := ht h6
        refine V_drop 0 ?_
        refine V_drop 1 ?_
        refine V_drop 2 ?_
        refine V_drop 3 ?_
        refine V_drop 4 ?_
        exact h
      · have h := hf h6
        refine V_iload d_Mo_way_26 rfl ?_
        obtain ⟨h4, h⟩ := h
        obtain ⟨ht, hf⟩ := h
        refine V_if_ge 34 d_Mo_way_28 h4 (fun h5 => ?_) (fun h5 => ?_)
        · have h := ht h5
          refine V_aload_n d_Mo_way_34 rfl ?_
          refine V_iload_n d_Mo_way_35 rfl ?_
          refine V_iload_n d_Mo_way_36 rfl ?_
          refine U_iv2 cv_Mo_way_157 d_Mo_way_37 sh_147 rfl rfl (am_mono h ?_)
          rintro ro4 so4 σ4 ⟨rfl, rfl, h⟩
          refine V_iload_n d_Mo_way_40 rfl ?_
          refine V_istore d_Mo_way_41 rfl ?_
          refine V_iconst d_Mo_way_43 ?_
          refine V_istore d_Mo_way_44 rfl ?_
          refine V_drop 1 ?_
          exact h
        · have h := hf h5
          refine V_drop 0 ?_
          refine V_drop 1 ?_
          refine V_drop 2 ?_
          refine V_drop 3 ?_
          refine V_drop 4 ?_
          exact h
    · have h := hf h7
      refine V_drop 0 ?_
      refine V_drop 1 ?_
      refine V_drop 2 ?_
      refine V_drop 3 ?_
      refine V_drop 4 ?_
      exact h
theorem s_Mo_way_16 {x : am_Sc} {Po : Option am_AV → am_Sh → am_St → Prop} {σ : am_St}
    (h : Po (some (Zi (-2))) am_SH σ) : am_U x m_Mo_way Po σ 16 [none, none, none, none, none, none, none] [] := by
  refine V_bipush d_Mo_way_16 ?_
  exact V_iret d_Mo_way_18 rfl rfl h
theorem s_Mo_way_31 {x : am_Sc} {Po : Option am_AV → am_Sh → am_St → Prop} {σ : am_St}
    (h : Po (some (Zi (-3))) am_SH σ) : am_U x m_Mo_way Po σ 31 [none, none, none, none, none, none, none] [] := by
  refine V_bipush d_Mo_way_31 ?_
  exact V_iret d_Mo_way_33 rfl rfl h
theorem s_Mo_way_46 {x : am_Sc} {Po : Option am_AV → am_Sh → am_St → Prop} {σ : am_St} {v2 v3 v4 v5 v6 : Int}
    (h : am_r v6 ∧ am_r v4 ∧ ((v4 ≤ v6 → am_U x m_Mo_way Po σ 74 [none, none, none, none, some (Zi v4), some (Zi v5), some (Zi v6)] []) ∧ (¬ v4 ≤ v6 → am_r v5 ∧ am_r v2 ∧ ((v5 = v2 → am_U x m_Mo_way Po σ 74 [none, none, none, none, some (Zi v4), some (Zi v5), some (Zi v6)] []) ∧ (¬ v5 = v2 → am_U x m_Mo_nextOf (fun ro5 so5 σ5 => ∃ z5 : Int, ro5 = some (Zi z5) ∧ so5 = am_SH ∧ am_U x m_Mo_way Po σ5 46 [some (Zr 147), none, some (Zi v2), some (Zi v3), some (Zi v4), some (Zi z5), some (Zi (v6 + 1))] []) σ 0 [some (Zr 147), some (Zi v5), some (Zi v3), none] []))))) : am_U x m_Mo_way Po σ 46 [some (Zr 147), none, some (Zi v2), some (Zi v3), some (Zi v4), some (Zi v5), some (Zi v6)] [] := by
  refine V_iload d_Mo_way_46 rfl ?_
  refine V_iload d_Mo_way_48 rfl ?_
  obtain ⟨h9, h⟩ := h
  obtain ⟨h10, h⟩ := h
  obtain ⟨ht, hf⟩ := h
  refine V_icmp_ge 74 d_Mo_way_50 h9 h10 (fun h14 => ?_) (fun h14 => ?_)
  · have h := ht h14
    refine V_drop 0 ?_
    refine V_drop 2 ?_
    refine V_drop 3 ?_
    exact h
  · have h := hf h14
    refine V_iload d_Mo_way_53 rfl ?_
    refine V_iload_n d_Mo_way_55 rfl ?_
    obtain ⟨h11, h⟩ := h
    obtain ⟨h12, h⟩ := h
    obtain ⟨ht, hf⟩ := h
    refine V_icmp_eq 74 d_Mo_way_56 h11 h12 (fun h13 => ?_) (fun h13 => ?_)
    · have h := ht h13
      refine V_drop 0 ?_
      refine V_drop 2 ?_
      refine V_drop 3 ?_
      exact h
    · have h := hf h13
      refine V_aload_n d_Mo_way_59 rfl ?_
      refine V_iload d_Mo_way_60 rfl ?_
      refine V_iload_n d_Mo_way_62 rfl ?_
      refine U_iv2 cv_Mo_way_165 d_Mo_way_63 sh_147 rfl rfl (am_mono h ?_)
      rintro ro5 so5 σ5 ⟨z5, rfl, rfl, h⟩
      refine V_istore d_Mo_way_66 rfl ?_
      refine V_iinc d_Mo_way_68 rfl rfl ?_
      refine V_goto 46 d_Mo_way_71 ?_
      exact h
theorem s_Mo_way_74 {x : am_Sc} {Po : Option am_AV → am_Sh → am_St → Prop} {σ : am_St} {v4 v5 v6 : Int}
    (h : am_r v6 ∧ am_r v4 ∧ ((¬ v6 = v4 → am_U x m_Mo_way Po σ 87 [none, none, none, none, none, none, none] [Zi (-1)]) ∧ (v6 = v4 → am_U x m_Mo_way Po σ 87 [none, none, none, none, none, none, none] [Zi v5]))) : am_U x m_Mo_way Po σ 74 [none, none, none, none, some (Zi v4), some (Zi v5), some (Zi v6)] [] := by
  refine V_iload d_Mo_way_74 rfl ?_
  refine V_iload d_Mo_way_76 rfl ?_
  obtain ⟨h15, h⟩ := h
  obtain ⟨h16, h⟩ := h
  obtain ⟨ht, hf⟩ := h
  refine V_icmp_ne 86 d_Mo_way_78 h15 h16 (fun h17 => ?_) (fun h17 => ?_)
  · have h := ht h17
    refine V_iconst d_Mo_way_86 ?_
    refine V_drop 4 ?_
    refine V_drop 5 ?_
    refine V_drop 6 ?_
    exact h
  · have h := hf h17
    refine V_iload d_Mo_way_81 rfl ?_
    refine V_goto 87 d_Mo_way_83 ?_
    refine V_drop 4 ?_
    refine V_drop 5 ?_
    refine V_drop 6 ?_
    exact h
theorem s_Mo_way_87 {x : am_Sc} {Po : Option am_AV → am_Sh → am_St → Prop} {σ : am_St} {vk0 : Int}
    (h : Po (some (Zi vk0)) am_SH σ) : am_U x m_Mo_way Po σ 87 [none, none, none, none, none, none, none] [Zi vk0] := by
  exact V_iret d_Mo_way_87 rfl rfl h
theorem s_Mo_nextOf_0 {x : am_Sc} {Po : Option am_AV → am_Sh → am_St → Prop} {σ : am_St} {v1 v2 : Int}
    (h : am_U x m_Mo_nextOf Po σ 2 [some (Zr 147), some (Zi v1), some (Zi v2), some (Zi 0)] []) : am_U x m_Mo_nextOf Po σ 0 [some (Zr 147), some (Zi v1), some (Zi v2), none] [] := by
  refine V_iconst d_Mo_nextOf_0 ?_
  refine V_istore_n d_Mo_nextOf_1 rfl ?_
  exact h
theorem s_Mo_nextOf_2 {x : am_Sc} {Po : Option am_AV → am_Sh → am_St → Prop} {σ : am_St} {v1 v2 v3 : Int}
    (h : am_U x m_Mo_areBeside (fun ro1 so1 σ1 => ∃ z1 : Int, ro1 = some (Zi z1) ∧ so1 = am_SH ∧ am_r z1 ∧ ((z1 = 0 → am_U x m_Mo_nextOf Po σ1 40 [some (Zr 147), some (Zi v1), some (Zi v2), some (Zi v3)] []) ∧ (¬ z1 = 0 → (0 ≤ v3 ∧ v3 < 16) ∧ am_U x m_Mo_slowAt (fun ro2 so2 σ2 => ∃ z2 : Int, ro2 = some (Zi z2) ∧ so2 = am_SH ∧ am_U x m_Mo_slowAt (fun ro3 so3 σ3 => ∃ z3 : Int, ro3 = some (Zi z3) ∧ so3 = am_SH ∧ (0 ≤ v1 ∧ v1 < 16) ∧ am_r (((σ1.1 164 v3.toNat) + z2) + z3) ∧ am_r (σ3.1 164 v1.toNat) ∧ (((((σ1.1 164 v3.toNat) + z2) + z3) = (σ3.1 164 v1.toNat) → Po (some (Zi v3)) am_SH σ3) ∧ (¬ (((σ1.1 164 v3.toNat) + z2) + z3) = (σ3.1 164 v1.toNat) → am_U x m_Mo_nextOf Po σ3 40 [some (Zr 147), some (Zi v1), some (Zi v2), some (Zi v3)] []))) σ2 0 [some (Zr 147), some (Zi v3), some (Zi v2), none] []) σ1 0 [some (Zr 147), some (Zi v1), some (Zi v2), none] []))) σ 0 [some (Zr 147), some (Zi v1), some (Zi v3), none, none] []) : am_U x m_Mo_nextOf Po σ 2 [some (Zr 147), some (Zi v1), some (Zi v2), some (Zi v3)] [] := by
  refine V_aload_n d_Mo_nextOf_2 rfl ?_
  refine V_iload_n d_Mo_nextOf_3 rfl ?_
  refine V_iload_n d_Mo_nextOf_4 rfl ?_
  refine U_iv2 cv_Mo_nextOf_161 d_Mo_nextOf_5 sh_147 rfl rfl (am_mono h ?_)
  rintro ro1 so1 σ1 ⟨z1, rfl, rfl, h⟩
  obtain ⟨h1, h⟩ := h
  obtain ⟨ht, hf⟩ := h
  refine V_if_eq 40 d_Mo_nextOf_8 h1 (fun h7 => ?_) (fun h7 => ?_)
  · have h := ht h7
    exact h
  · have h := hf h7
    refine V_aload_n d_Mo_nextOf_11 rfl ?_
    refine U_geta d_Mo_nextOf_12 fl_Mo_69 sh_147 rfl ?_
    refine V_iload_n d_Mo_nextOf_15 rfl ?_
    obtain ⟨h2, h⟩ := h
    refine U_iald d_Mo_nextOf_16 sh_164 h2 ?_
    refine V_aload_n d_Mo_nextOf_17 rfl ?_
    refine V_iload_n d_Mo_nextOf_18 rfl ?_
    refine V_iload_n d_Mo_nextOf_19 rfl ?_
    refine U_iv2 cv_Mo_nextOf_150 d_Mo_nextOf_20 sh_147 rfl rfl (am_mono h ?_)
    rintro ro2 so2 σ2 ⟨z2, rfl, rfl, h⟩
    refine V_iadd d_Mo_nextOf_23 ?_
    refine V_aload_n d_Mo_nextOf_24 rfl ?_
    refine V_iload_n d_Mo_nextOf_25 rfl ?_
    refine V_iload_n d_Mo_nextOf_26 rfl ?_
    refine U_iv2 cv_Mo_nextOf_150 d_Mo_nextOf_27 sh_147 rfl rfl (am_mono h ?_)
    rintro ro3 so3 σ3 ⟨z3, rfl, rfl, h⟩
    refine V_iadd d_Mo_nextOf_30 ?_
    refine V_aload_n d_Mo_nextOf_31 rfl ?_
    refine U_geta d_Mo_nextOf_32 fl_Mo_69 sh_147 rfl ?_
    refine V_iload_n d_Mo_nextOf_35 rfl ?_
    obtain ⟨h3, h⟩ := h
    refine U_iald d_Mo_nextOf_36 sh_164 h3 ?_
    obtain ⟨h4, h⟩ := h
    obtain ⟨h5, h⟩ := h
    obtain ⟨ht, hf⟩ := h
    refine V_icmp_eq 46 d_Mo_nextOf_37 h4 h5 (fun h6 => ?_) (fun h6 => ?_)
    · have h := ht h6
      refine V_iload_n d_Mo_nextOf_46 rfl ?_
      exact V_iret d_Mo_nextOf_47 rfl rfl h
    · have h := hf h6
      exact h
theorem s_Mo_nextOf_40 {x : am_Sc} {Po : Option am_AV → am_Sh → am_St → Prop} {σ : am_St} {v1 v2 v3 : Int}
    (h : am_U x m_Mo_nextOf Po σ 2 [some (Zr 147), some (Zi v1), some (Zi v2), some (Zi (v3 + 1))] []) : am_U x m_Mo_nextOf Po σ 40 [some (Zr 147), some (Zi v1), some (Zi v2), some (Zi v3)] [] := by
  refine V_iinc d_Mo_nextOf_40 rfl rfl ?_
  refine V_goto 2 d_Mo_nextOf_43 ?_
  exact h
theorem s_Mo_areBeside_0 {x : am_Sc} {Po : Option am_AV → am_Sh → am_St → Prop} {σ : am_St} {v1 v2 : Int}
    (h : am_r (σ.1 147 0) ∧ (σ.1 147 0) ≠ 0 ∧ am_r ((((am_rem v1 (σ.1 147 0)) - (am_rem v2 (σ.1 147 0))) * ((am_rem v1 (σ.1 147 0)) - (am_rem v2 (σ.1 147 0)))) + (((am_div v1 (σ.1 147 0)) - (am_div v2 (σ.1 147 0))) * ((am_div v1 (σ.1 147 0)) - (am_div v2 (σ.1 147 0))))) ∧ ((¬ ((((am_rem v1 (σ.1 147 0)) - (am_rem v2 (σ.1 147 0))) * ((am_rem v1 (σ.1 147 0)) - (am_rem v2 (σ.1 147 0)))) + (((am_div v1 (σ.1 147 0)) - (am_div v2 (σ.1 147 0))) * ((am_div v1 (σ.1 147 0)) - (am_div v2 (σ.1 147 0))))) = 1 → am_U x m_Mo_areBeside Po σ 47 [none, none, none, none, none] [Zi 0]) ∧ (((((am_rem v1 (σ.1 147 0)) - (am_rem v2 (σ.1 147 0))) * ((am_rem v1 (σ.1 147 0)) - (am_rem v2 (σ.1 147 0)))) + (((am_div v1 (σ.1 147 0)) - (am_div v2 (σ.1 147 0))) * ((am_div v1 (σ.1 147 0)) - (am_div v2 (σ.1 147 0))))) = 1 → am_U x m_Mo_areBeside Po σ 47 [none, none, none, none, none] [Zi 1]))) : am_U x m_Mo_areBeside Po σ 0 [some (Zr 147), some (Zi v1), some (Zi v2), none, none] [] := by
  refine V_iload_n d_Mo_areBeside_0 rfl ?_
  refine V_aload_n d_Mo_areBeside_1 rfl ?_
  refine U_geti d_Mo_areBeside_2 fl_Mo_7 sh_147 ?_
  obtain ⟨h1, h⟩ := h
  obtain ⟨h2, h⟩ := h
  refine V_irem d_Mo_areBeside_5 h1 h2 ?_
  refine V_iload_n d_Mo_areBeside_6 rfl ?_
  refine V_aload_n d_Mo_areBeside_7 rfl ?_
  refine U_geti d_Mo_areBeside_8 fl_Mo_7 sh_147 ?_
  refine V_irem d_Mo_areBeside_11 h1 h2 ?_
  refine V_isub d_Mo_areBeside_12 ?_
  refine V_istore_n d_Mo_areBeside_13 rfl ?_
  refine V_iload_n d_Mo_areBeside_14 rfl ?_
  refine V_aload_n d_Mo_areBeside_15 rfl ?_
  refine U_geti d_Mo_areBeside_16 fl_Mo_7 sh_147 ?_
  refine V_idiv d_Mo_areBeside_19 h1 h2 ?_
  refine V_iload_n d_Mo_areBeside_20 rfl ?_
  refine V_aload_n d_Mo_areBeside_21 rfl ?_
  refine U_geti d_Mo_areBeside_22 fl_Mo_7 sh_147 ?_
  refine V_idiv d_Mo_areBeside_25 h1 h2 ?_
  refine V_isub d_Mo_areBeside_26 ?_
  refine V_istore d_Mo_areBeside_27 rfl ?_
  refine V_iload_n d_Mo_areBeside_29 rfl ?_
  refine V_iload_n d_Mo_areBeside_30 rfl ?_
  refine V_imul d_Mo_areBeside_31 ?_
  refine V_iload d_Mo_areBeside_32 rfl ?_
  refine V_iload d_Mo_areBeside_34 rfl ?_
  refine V_imul d_Mo_areBeside_36 ?_
  refine V_iadd d_Mo_areBeside_37 ?_
  refine V_iconst d_Mo_areBeside_38 ?_
  obtain ⟨h3, h⟩ := h
  obtain ⟨ht, hf⟩ := h
  refine V_icmp_ne 46 d_Mo_areBeside_39 h3 (by decide) (fun h4 => ?_) (fun h4 => ?_)
  · have h := ht h4
    refine V_iconst d_Mo_areBeside_46 ?_
    refine V_drop 0 ?_
    refine V_drop 1 ?_
    refine V_drop 2 ?_
    refine V_drop 3 ?_
    refine V_drop 4 ?_
    exact h
  · have h := hf h4
    refine V_iconst d_Mo_areBeside_42 ?_
    refine V_goto 47 d_Mo_areBeside_43 ?_
    refine V_drop 0 ?_
    refine V_drop 1 ?_
    refine V_drop 2 ?_
    refine V_drop 3 ?_
    refine V_drop 4 ?_
    exact h
theorem s_Mo_areBeside_47 {x : am_Sc} {Po : Option am_AV → am_Sh → am_St → Prop} {σ : am_St} {vk0 : Int}
    (h : (vk0 = 0 ∨ vk0 = 1) ∧ Po (some (Zi vk0)) am_SH σ) : am_U x m_Mo_areBeside Po σ 47 [none, none, none, none, none] [Zi vk0] := by
  obtain ⟨h5, h⟩ := h
  exact V_zret d_Mo_areBeside_47 rfl rfl h5 h
theorem s_Mo_ear_0 {x : am_Sc} {Po : Option am_AV → am_Sh → am_St → Prop} {σ : am_St} {v1 : Int}
    (h : am_U x m_Mo_isCell (fun ro1 so1 σ1 => ∃ z1 : Int, ro1 = some (Zi z1) ∧ so1 = am_SH ∧ am_r z1 ∧ ((¬ z1 = 0 → am_r (σ1.1 147 5) ∧ ((¬ (σ1.1 147 5) = 6 → (0 ≤ σ1.1 147 5 ∧ σ1.1 147 5 < 6) ∧ (∀ σ2 : am_St, σ2 = (am_up σ1.1 150 (σ1.1 147 5).toNat v1, σ1.2) → (0 ≤ σ2.1 147 5 ∧ σ2.1 147 5 < 6) ∧ (∀ σ3 : am_St, σ3 = (am_up σ2.1 151 (σ2.1 147 5).toNat 0, σ2.2) → (∀ σ4 : am_St, σ4 = (am_up σ3.1 147 5 ((σ3.1 147 5) + 1), σ3.2) → Po (some (Zi ((σ4.1 147 5) - 1))) am_SH σ4)))) ∧ ((σ1.1 147 5) = 6 → Po (some (Zi (-5))) am_SH σ1))) ∧ (z1 = 0 → Po (some (Zi (-2))) am_SH σ1))) σ 0 [some (Zr 147), some (Zi v1)] []) : am_U x m_Mo_ear Po σ 0 [some (Zr 147), some (Zi v1)] [] := by
  refine V_aload_n d_Mo_ear_0 rfl ?_
  refine V_iload_n d_Mo_ear_1 rfl ?_
  refine U_iv1 cv_Mo_ear_146 d_Mo_ear_2 sh_147 rfl rfl (am_mono h ?_)
  rintro ro1 so1 σ1 ⟨z1, rfl, rfl, h⟩
  obtain ⟨h1, h⟩ := h
  obtain ⟨ht, hf⟩ := h
  refine V_if_ne 11 d_Mo_ear_5 h1 (fun h6 => ?_) (fun h6 => ?_)
  · have h := ht h6
    refine V_aload_n d_Mo_ear_11 rfl ?_
    refine U_geti d_Mo_ear_12 fl_Mo_126 sh_147 ?_
    refine V_bipush d_Mo_ear_15 ?_
    obtain ⟨h2, h⟩ := h
    obtain ⟨ht, hf⟩ := h
    refine V_icmp_ne 23 d_Mo_ear_17 h2 (by decide) (fun h5 => ?_) (fun h5 => ?_)
    · have h := ht h5
      refine V_aload_n d_Mo_ear_23 rfl ?_
      refine U_geta d_Mo_ear_24 fl_Mo_26 sh_147 rfl ?_
      refine V_aload_n d_Mo_ear_27 rfl ?_
      refine U_geti d_Mo_ear_28 fl_Mo_126 sh_147 ?_
      refine V_iload_n d_Mo_ear_31 rfl ?_
      obtain ⟨h3, h⟩ := h
      refine U_iast d_Mo_ear_32 sh_150 h3 ?_
      have h := h _ rfl
      refine V_aload_n d_Mo_ear_33 rfl ?_
      refine U_geta d_Mo_ear_34 fl_Mo_29 sh_147 rfl ?_
      refine V_aload_n d_Mo_ear_37 rfl ?_
      refine U_geti d_Mo_ear_38 fl_Mo_126 sh_147 ?_
      refine V_iconst d_Mo_ear_41 ?_
      obtain ⟨h4, h⟩ := h
      refine U_iast d_Mo_ear_42 sh_151 h4 ?_
      have h := h _ rfl
      refine V_aload_n d_Mo_ear_43 rfl ?_
      refine V_dup d_Mo_ear_44 ?_
      refine U_geti d_Mo_ear_45 fl_Mo_126 sh_147 ?_
      refine V_iconst d_Mo_ear_48 ?_
      refine V_iadd d_Mo_ear_49 ?_
      refine U_puti d_Mo_ear_50 fw_Mo_126 sh_147 ?_
      have h := h _ rfl
      refine V_aload_n d_Mo_ear_53 rfl ?_
      refine U_geti d_Mo_ear_54 fl_Mo_126 sh_147 ?_
      refine V_iconst d_Mo_ear_57 ?_
      refine V_isub d_Mo_ear_58 ?_
      exact V_iret d_Mo_ear_59 rfl rfl h
    · have h := hf h5
      refine V_bipush d_Mo_ear_20 ?_
      exact V_iret d_Mo_ear_22 rfl rfl h
  · have h := hf h6
    refine V_bipush d_Mo_ear_8 ?_
    exact V_iret d_Mo_ear_10 rfl rfl h
theorem s_Mo_clock_0 {x : am_Sc} {Po : Option am_AV → am_Sh → am_St → Prop} {σ : am_St} {v1 v2 : Int}
    (h : am_U x m_Mo_isEar (fun ro1 so1 σ1 => ∃ z1 : Int, ro1 = some (Zi z1) ∧ so1 = am_SH ∧ am_r z1 ∧ ((¬ z1 = 0 → am_U x m_Mo_in (fun ro2 so2 σ2 => ∃ z2 : Int, ro2 = some (Zi z2) ∧ so2 = am_SH ∧ am_r z2 ∧ ((¬ z2 = 0 → (0 ≤ v1 ∧ v1 < 6) ∧ (∀ σ3 : am_St, σ3 = (am_up σ2.1 151 v1.toNat v2, σ2.2) → Po (some (Zi 1)) am_SH σ3)) ∧ (z2 = 0 → Po (some (Zi (-3))) am_SH σ2))) σ1 0 [some (Zi v2), some (Zi (-99)), some (Zi 99)] []) ∧ (z1 = 0 → Po (some (Zi (-2))) am_SH σ1))) σ 0 [some (Zr 147), some (Zi v1)] []) : am_U x m_Mo_clock Po σ 0 [some (Zr 147), some (Zi v1), some (Zi v2)] [] := by
  refine V_aload_n d_Mo_clock_0 rfl ?_
  refine V_iload_n d_Mo_clock_1 rfl ?_
  refine U_iv1 cv_Mo_clock_168 d_Mo_clock_2 sh_147 rfl rfl (am_mono h ?_)
  rintro ro1 so1 σ1 ⟨z1, rfl, rfl, h⟩
  obtain ⟨h1, h⟩ := h
  obtain ⟨ht, hf⟩ := h
  refine V_if_ne 11 d_Mo_clock_5 h1 (fun h5 => ?_) (fun h5 => ?_)
  · have h := ht h5
    refine V_iload_n d_Mo_clock_11 rfl ?_
    refine V_bipush d_Mo_clock_12 ?_
    refine V_bipush d_Mo_clock_14 ?_
    refine U_is3 cv_Mo_clock_122 d_Mo_clock_16  rfl (am_mono h ?_)
    rintro ro2 so2 σ2 ⟨z2, rfl, rfl, h⟩
    obtain ⟨h2, h⟩ := h
    obtain ⟨ht, hf⟩ := h
    refine V_if_ne 25 d_Mo_clock_19 h2 (fun h4 => ?_) (fun h4 => ?_)
    · have h := ht h4
      refine V_aload_n d_Mo_clock_25 rfl ?_
      refine U_geta d_Mo_clock_26 fl_Mo_29 sh_147 rfl ?_
      refine V_iload_n d_Mo_clock_29 rfl ?_
      refine V_iload_n d_Mo_clock_30 rfl ?_
      obtain ⟨h3, h⟩ := h
      refine U_iast d_Mo_clock_31 sh_151 h3 ?_
      have h := h _ rfl
      refine V_iconst d_Mo_clock_32 ?_
      exact V_iret d_Mo_clock_33 rfl rfl h
    · have h := hf h4
      refine V_bipush d_Mo_clock_22 ?_
      exact V_iret d_Mo_clock_24 rfl rfl h
  · have h := hf h5
    refine V_bipush d_Mo_clock_8 ?_
    exact V_iret d_Mo_clock_10 rfl rfl h
theorem s_Mo_isEar_0 {x : am_Sc} {Po : Option am_AV → am_Sh → am_St → Prop} {σ : am_St} {v1 : Int}
    (h : am_U x m_Mo_in (fun ro1 so1 σ1 => ∃ z1 : Int, ro1 = some (Zi z1) ∧ so1 = am_SH ∧ (z1 = 0 ∨ z1 = 1) ∧ Po (some (Zi z1)) am_SH σ1) σ 0 [some (Zi v1), some (Zi 0), some (Zi ((σ.1 147 5) - 1))] []) : am_U x m_Mo_isEar Po σ 0 [some (Zr 147), some (Zi v1)] [] := by
  refine V_iload_n d_Mo_isEar_0 rfl ?_
  refine V_iconst d_Mo_isEar_1 ?_
  refine V_aload_n d_Mo_isEar_2 rfl ?_
  refine U_geti d_Mo_isEar_3 fl_Mo_126 sh_147 ?_
  refine V_iconst d_Mo_isEar_6 ?_
  refine V_isub d_Mo_isEar_7 ?_
  refine U_is3 cv_Mo_isEar_122 d_Mo_isEar_8  rfl (am_mono h ?_)
  rintro ro1 so1 σ1 ⟨z1, rfl, rfl, h⟩
  obtain ⟨h1, h⟩ := h
  exact V_zret d_Mo_isEar_11 rfl rfl h1 h
theorem s_Mo_shake_0 {x : am_Sc} {Po : Option am_AV → am_Sh → am_St → Prop} {σ : am_St} {v1 v2 : Int}
    (h : am_U x m_Mo_isCell (fun ro1 so1 σ1 => ∃ z1 : Int, ro1 = some (Zi z1) ∧ so1 = am_SH ∧ am_r z1 ∧ ((¬ z1 = 0 → am_U x m_Mo_in (fun ro2 so2 σ2 => ∃ z2 : Int, ro2 = some (Zi z2) ∧ so2 = am_SH ∧ am_r z2 ∧ ((¬ z2 = 0 → am_r (σ2.1 147 8) ∧ ((¬ (σ2.1 147 8) = 5 → (0 ≤ σ2.1 147 8 ∧ σ2.1 147 8 < 5) ∧ (∀ σ3 : am_St, σ3 = (am_up σ2.1 152 (σ2.1 147 8).toNat v1, σ2.2) → (0 ≤ σ3.1 147 8 ∧ σ3.1 147 8 < 5) ∧ (∀ σ4 : am_St, σ4 = (am_up σ3.1 153 (σ3.1 147 8).toNat v2, σ3.2) → (∀ σ5 : am_St, σ5 = (am_up σ4.1 147 8 ((σ4.1 147 8) + 1), σ4.2) → Po (some (Zi ((σ5.1 147 8) - 1))) am_SH σ5)))) ∧ ((σ2.1 147 8) = 5 → Po (some (Zi (-5))) am_SH σ2))) ∧ (z2 = 0 → Po (some (Zi (-3))) am_SH σ2))) σ1 0 [some (Zi v2), some (Zi 0), some (Zi 1000)] []) ∧ (z1 = 0 → Po (some (Zi (-2))) am_SH σ1))) σ 0 [some (Zr 147), some (Zi v1)] []) : am_U x m_Mo_shake Po σ 0 [some (Zr 147), some (Zi v1), some (Zi v2)] [] := by
  refine V_aload_n d_Mo_shake_0 rfl ?_
  refine V_iload_n d_Mo_shake_1 rfl ?_
  refine U_iv1 cv_Mo_shake_146 d_Mo_shake_2 sh_147 rfl rfl (am_mono h ?_)
  rintro ro1 so1 σ1 ⟨z1, rfl, rfl, h⟩
  obtain ⟨h1, h⟩ := h
  obtain ⟨ht, hf⟩ := h
  refine V_if_ne 11 d_Mo_shake_5 h1 (fun h8 => ?_) (fun h8 => ?_)
  · have h := ht h8
    refine V_iload_n d_Mo_shake_11 rfl ?_
    refine V_iconst d_Mo_shake_12 ?_
    refine V_sipush d_Mo_shake_13 ?_
    refine U_is3 cv_Mo_shake_122 d_Mo_shake_16  rfl (am_mono h ?_)
    rintro ro2 so2 σ2 ⟨z2, rfl, rfl, h⟩
    obtain ⟨h2, h⟩ := h
    obtain ⟨ht, hf⟩ := h
    refine V_if_ne 25 d_Mo_shake_19 h2 (fun h7 => ?_) (fun h7 => ?_)
    · have h := ht h7
      refine V_aload_n d_Mo_shake_25 rfl ?_
      refine U_geti d_Mo_shake_26 fl_Mo_129 sh_147 ?_
      refine V_iconst d_Mo_shake_29 ?_
      obtain ⟨h3, h⟩ := h
      obtain ⟨ht, hf⟩ := h
      refine V_icmp_ne 36 d_Mo_shake_30 h3 (by decide) (fun h6 => ?_) (fun h6 => ?_)
      · have h := ht h6
        refine V_aload_n d_Mo_shake_36 rfl ?_
        refine U_geta d_Mo_shake_37 fl_Mo_32 sh_147 rfl ?_
        refine V_aload_n d_Mo_shake_40 rfl ?_
        refine U_geti d_Mo_shake_41 fl_Mo_129 sh_147 ?_
        refine V_iload_n d_Mo_shake_44 rfl ?_
        obtain ⟨h4, h⟩ := h
        refine U_iast d_Mo_shake_45 sh_152 h4 ?_
        have h := h _ rfl
        refine V_aload_n d_Mo_shake_46 rfl ?_
        refine U_geta d_Mo_shake_47 fl_Mo_35 sh_147 rfl ?_
        refine V_aload_n d_Mo_shake_50 rfl ?_
        refine U_geti d_Mo_shake_51 fl_Mo_129 sh_147 ?_
        refine V_iload_n d_Mo_shake_54 rfl ?_
        obtain ⟨h5, h⟩ := h
        refine U_iast d_Mo_shake_55 sh_153 h5 ?_
        have h := h _ rfl
        refine V_aload_n d_Mo_shake_56 rfl ?_
        refine V_dup d_Mo_shake_57 ?_
        refine U_geti d_Mo_shake_58 fl_Mo_129 sh_147 ?_
        refine V_iconst d_Mo_shake_61 ?_
        refine V_iadd d_Mo_shake_62 ?_
        refine U_puti d_Mo_shake_63 fw_Mo_129 sh_147 ?_
        have h := h _ rfl
        refine V_aload_n d_Mo_shake_66 rfl ?_
        refine U_geti d_Mo_shake_67 fl_Mo_129 sh_147 ?_
        refine V_iconst d_Mo_shake_70 ?_
        refine V_isub d_Mo_shake_71 ?_
        exact V_iret d_Mo_shake_72 rfl rfl h
      · have h := hf h6
        refine V_bipush d_Mo_shake_33 ?_
        exact V_iret d_Mo_shake_35 rfl rfl h
    · have h := hf h7
      refine V_bipush d_Mo_shake_22 ?_
      exact V_iret d_Mo_shake_24 rfl rfl h
  · have h := hf h8
    refine V_bipush d_Mo_shake_8 ?_
    exact V_iret d_Mo_shake_10 rfl rfl h
theorem s_Mo_put_0 {x : am_Sc} {Po : Option am_AV → am_Sh → am_St → Prop} {σ : am_St} {v1 v2 v3 : Int}
    (h : am_U x m_Mo_isShake (fun ro1 so1 σ1 => ∃ z1 : Int, ro1 = some (Zi z1) ∧ so1 = am_SH ∧ am_r z1 ∧ ((z1 = 0 → am_U x m_Mo_put Po σ1 16 [none, none, none, none] []) ∧ (¬ z1 = 0 → am_U x m_Mo_isCell (fun ro2 so2 σ2 => ∃ z2 : Int, ro2 = some (Zi z2) ∧ so2 = am_SH ∧ am_r z2 ∧ ((¬ z2 = 0 → am_U x m_Mo_in (fun ro3 so3 σ3 => ∃ z3 : Int, ro3 = some (Zi z3) ∧ so3 = am_SH ∧ am_r z3 ∧ ((¬ z3 = 0 → (0 ≤ v1 ∧ v1 < 5) ∧ (∀ σ4 : am_St, σ4 = (am_up σ3.1 152 v1.toNat v2, σ3.2) → (∀ σ5 : am_St, σ5 = (am_up σ4.1 153 v1.toNat v3, σ4.2) → Po (some (Zi 1)) am_SH σ5))) ∧ (z3 = 0 → Po (some (Zi (-3))) am_SH σ3))) σ2 0 [some (Zi v3), some (Zi 0), some (Zi 1000)] []) ∧ (z2 = 0 → am_U x m_Mo_put Po σ2 16 [none, none, none, none] []))) σ1 0 [some (Zr 147), some (Zi v2)] []))) σ 0 [some (Zr 147), some (Zi v1)] []) : am_U x m_Mo_put Po σ 0 [some (Zr 147), some (Zi v1), some (Zi v2), some (Zi v3)] [] := by
  refine V_aload_n d_Mo_put_0 rfl ?_
  refine V_iload_n d_Mo_put_1 rfl ?_
  refine U_iv1 cv_Mo_put_171 d_Mo_put_2 sh_147 rfl rfl (am_mono h ?_)
  rintro ro1 so1 σ1 ⟨z1, rfl, rfl, h⟩
  obtain ⟨h1, h⟩ := h
  obtain ⟨ht, hf⟩ := h
  refine V_if_eq 16 d_Mo_put_5 h1 (fun h7 => ?_) (fun h7 => ?_)
  · have h := ht h7
    refine V_drop 0 ?_
    refine V_drop 1 ?_
    refine V_drop 2 ?_
    refine V_drop 3 ?_
    exact h
  · have h := hf h7
    refine V_aload_n d_Mo_put_8 rfl ?_
    refine V_iload_n d_Mo_put_9 rfl ?_
    refine U_iv1 cv_Mo_put_146 d_Mo_put_10 sh_147 rfl rfl (am_mono h ?_)
    rintro ro2 so2 σ2 ⟨z2, rfl, rfl, h⟩
    obtain ⟨h2, h⟩ := h
    obtain ⟨ht, hf⟩ := h
    refine V_if_ne 19 d_Mo_put_13 h2 (fun h6 => ?_) (fun h6 => ?_)
    · have h := ht h6
      refine V_iload_n d_Mo_put_19 rfl ?_
      refine V_iconst d_Mo_put_20 ?_
      refine V_sipush d_Mo_put_21 ?_
      refine U_is3 cv_Mo_put_122 d_Mo_put_24  rfl (am_mono h ?_)
      rintro ro3 so3 σ3 ⟨z3, rfl, rfl, h⟩
      obtain ⟨h3, h⟩ := h
      obtain ⟨ht, hf⟩ := h
      refine V_if_ne 33 d_Mo_put_27 h3 (fun h5 => ?_) (fun h5 => ?_)
      · have h := ht h5
        refine V_aload_n d_Mo_put_33 rfl ?_
        refine U_geta d_Mo_put_34 fl_Mo_32 sh_147 rfl ?_
        refine V_iload_n d_Mo_put_37 rfl ?_
        refine V_iload_n d_Mo_put_38 rfl ?_
        obtain ⟨h4, h⟩ := h
        refine U_iast d_Mo_put_39 sh_152 h4 ?_
        have h := h _ rfl
        refine V_aload_n d_Mo_put_40 rfl ?_
        refine U_geta d_Mo_put_41 fl_Mo_35 sh_147 rfl ?_
        refine V_iload_n d_Mo_put_44 rfl ?_
        refine V_iload_n d_Mo_put_45 rfl ?_
        refine U_iast d_Mo_put_46 sh_153 h4 ?_
        have h := h _ rfl
        refine V_iconst d_Mo_put_47 ?_
        exact V_iret d_Mo_put_48 rfl rfl h
      · have h := hf h5
        refine V_bipush d_Mo_put_30 ?_
        exact V_iret d_Mo_put_32 rfl rfl h
    · have h := hf h6
      refine V_drop 0 ?_
      refine V_drop 1 ?_
      refine V_drop 2 ?_
      refine V_drop 3 ?_
      exact h
theorem s_Mo_put_16 {x : am_Sc} {Po : Option am_AV → am_Sh → am_St → Prop} {σ : am_St}
    (h : Po (some (Zi (-2))) am_SH σ) : am_U x m_Mo_put Po σ 16 [none, none, none, none] [] := by
  refine V_bipush d_Mo_put_16 ?_
  exact V_iret d_Mo_put_18 rfl rfl h
theorem s_Mo_isShake_0 {x : am_Sc} {Po : Option am_AV → am_Sh → am_St → Prop} {σ : am_St} {v1 : Int}
    (h : am_U x m_Mo_in (fun ro1 so1 σ1 => ∃ z1 : Int, ro1 = some (Zi z1) ∧ so1 = am_SH ∧ (z1 = 0 ∨ z1 = 1) ∧ Po (some (Zi z1)) am_SH σ1) σ 0 [some (Zi v1), some (Zi 0), some (Zi ((σ.1 147 8) - 1))] []) : am_U x m_Mo_isShake Po σ 0 [some (Zr 147), some (Zi v1)] [] := by
  refine V_iload_n d_Mo_isShake_0 rfl ?_
  refine V_iconst d_Mo_isShake_1 ?_
  refine V_aload_n d_Mo_isShake_2 rfl ?_
  refine U_geti d_Mo_isShake_3 fl_Mo_129 sh_147 ?_
  refine V_iconst d_Mo_isShake_6 ?_
  refine V_isub d_Mo_isShake_7 ?_
  refine U_is3 cv_Mo_isShake_122 d_Mo_isShake_8  rfl (am_mono h ?_)
  rintro ro1 so1 σ1 ⟨z1, rfl, rfl, h⟩
  obtain ⟨h1, h⟩ := h
  exact V_zret d_Mo_isShake_11 rfl rfl h1 h
theorem s_Mo_pick_0 {x : am_Sc} {Po : Option am_AV → am_Sh → am_St → Prop} {σ : am_St} {v1 v2 v3 v4 v5 : Int}
    (h : am_U x m_Mo_isEar (fun ro1 so1 σ1 => ∃ z1 : Int, ro1 = some (Zi z1) ∧ so1 = am_SH ∧ am_r z1 ∧ ((z1 = 0 → am_U x m_Mo_pick Po σ1 16 [none, none, none, none, none, none] []) ∧ (¬ z1 = 0 → am_U x m_Mo_isShake (fun ro2 so2 σ2 => ∃ z2 : Int, ro2 = some (Zi z2) ∧ so2 = am_SH ∧ am_r z2 ∧ ((¬ z2 = 0 → am_U x m_Mo_isKind (fun ro3 so3 σ3 => ∃ z3 : Int, ro3 = some (Zi z3) ∧ so3 = am_SH ∧ am_r z3 ∧ ((z3 = 0 → am_U x m_Mo_pick Po σ3 36 [none, none, none, none, none, none] []) ∧ (¬ z3 = 0 → am_U x m_Mo_isSpan (fun ro4 so4 σ4 => ∃ z4 : Int, ro4 = some (Zi z4) ∧ so4 = am_SH ∧ am_r z4 ∧ ((¬ z4 = 0 → am_r (σ4.1 147 11) ∧ (((σ4.1 147 11) = 12 → am_U x m_Mo_pick Po σ4 57 [none, none, none, none, none, none] []) ∧ (¬ (σ4.1 147 11) = 12 → am_r (σ4.1 147 15) ∧ ((¬ (σ4.1 147 15) = 40 → (0 ≤ σ4.1 147 11 ∧ σ4.1 147 11 < 12) ∧ (∀ σ5 : am_St, σ5 = (am_up σ4.1 154 (σ4.1 147 11).toNat v1, σ4.2) → (0 ≤ σ5.1 147 11 ∧ σ5.1 147 11 < 12) ∧ (∀ σ6 : am_St, σ6 = (am_up σ5.1 155 (σ5.1 147 11).toNat v2, σ5.2) → (0 ≤ σ6.1 147 11 ∧ σ6.1 147 11 < 12) ∧ (∀ σ7 : am_St, σ7 = (am_up σ6.1 156 (σ6.1 147 11).toNat v3, σ6.2) → am_U x m_Mo_addTelling (fun ro8 so8 σ8 => ro8 = none ∧ so8 = am_SH ∧ (∀ σ9 : am_St, σ9 = (am_up σ8.1 147 11 ((σ8.1 147 11) + 1), σ8.2) → Po (some (Zi ((σ9.1 147 11) - 1))) am_SH σ9)) σ7 0 [some (Zr 147), some (Zi (σ7.1 147 11)), some (Zi v4), some (Zi v5)] [])))) ∧ ((σ4.1 147 15) = 40 → am_U x m_Mo_pick Po σ4 57 [none, none, none, none, none, none] []))))) ∧ (z4 = 0 → am_U x m_Mo_pick Po σ4 36 [none, none, none, none, none, none] []))) σ3 0 [some (Zi v4), some (Zi v5)] []))) σ2 0 [some (Zi v3)] []) ∧ (z2 = 0 → am_U x m_Mo_pick Po σ2 16 [none, none, none, none, none, none] []))) σ1 0 [some (Zr 147), some (Zi v2)] []))) σ 0 [some (Zr 147), some (Zi v1)] []) : am_U x m_Mo_pick Po σ 0 [some (Zr 147), some (Zi v1), some (Zi v2), some (Zi v3), some (Zi v4), some (Zi v5)] [] := by
  refine V_aload_n d_Mo_pick_0 rfl ?_
  refine V_iload_n d_Mo_pick_1 rfl ?_
  refine U_iv1 cv_Mo_pick_168 d_Mo_pick_2 sh_147 rfl rfl (am_mono h ?_)
  rintro ro1 so1 σ1 ⟨z1, rfl, rfl, h⟩
  obtain ⟨h1, h⟩ := h
  obtain ⟨ht, hf⟩ := h
  refine V_if_eq 16 d_Mo_pick_5 h1 (fun h15 => ?_) (fun h15 => ?_)
  · have h := ht h15
    refine V_drop 0 ?_
    refine V_drop 1 ?_
    refine V_drop 2 ?_
    refine V_drop 3 ?_
    refine V_drop 4 ?_
    refine V_drop 5 ?_
    exact h
  · have h := hf h15
    refine V_aload_n d_Mo_pick_8 rfl ?_
    refine V_iload_n d_Mo_pick_9 rfl ?_
    refine U_iv1 cv_Mo_pick_171 d_Mo_pick_10 sh_147 rfl rfl (am_mono h ?_)
    rintro ro2 so2 σ2 ⟨z2, rfl, rfl, h⟩
    obtain ⟨h2, h⟩ := h
    obtain ⟨ht, hf⟩ := h
    refine V_if_ne 19 d_Mo_pick_13 h2 (fun h14 => ?_) (fun h14 => ?_)
    · have h := ht h14
      refine V_iload_n d_Mo_pick_19 rfl ?_
      refine U_is1 cv_Mo_pick_154 d_Mo_pick_20  rfl (am_mono h ?_)
      rintro ro3 so3 σ3 ⟨z3, rfl, rfl, h⟩
      obtain ⟨h3, h⟩ := h
      obtain ⟨ht, hf⟩ := h
      refine V_if_eq 36 d_Mo_pick_23 h3 (fun h13 => ?_) (fun h13 => ?_)
      · have h := ht h13
        refine V_drop 0 ?_
        refine V_drop 1 ?_
        refine V_drop 2 ?_
        refine V_drop 3 ?_
        refine V_drop 4 ?_
        refine V_drop 5 ?_
        exact h
      · have h := hf h13
        refine V_iload d_Mo_pick_26 rfl ?_
        refine V_iload d_Mo_pick_28 rfl ?_
        refine U_is2 cv_Mo_pick_177 d_Mo_pick_30  rfl (am_mono h ?_)
        rintro ro4 so4 σ4 ⟨z4, rfl, rfl, h⟩
        obtain ⟨h4, h⟩ := h
        obtain ⟨ht, hf⟩ := h
        refine V_if_ne 39 d_Mo_pick_33 h4 (fun h12 => ?_) (fun h12 => ?_)
        · have h := ht h12
          refine V_aload_n d_Mo_pick_39 rfl ?_
          refine U_geti d_Mo_pick_40 fl_Mo_132 sh_147 ?_
          refine V_bipush d_Mo_pick_43 ?_
          obtain ⟨h5, h⟩ := h
          obtain ⟨ht, hf⟩ := h
          refine V_icmp_eq 57 d_Mo_pick_45 h5 (by decide) (fun h11 => ?_) (fun h11 => ?_)
          · have h := ht h11
            refine V_drop 0 ?_
            refine V_drop 1 ?_
            refine V_drop 2 ?_
            refine V_drop 3 ?_
            refine V_drop 4 ?_
            refine V_drop 5 ?_
            exact h
          · have h := hf h11
            refine V_aload_n d_Mo_pick_48 rfl ?_
            refine U_geti d_Mo_pick_49 fl_Mo_135 sh_147 ?_
            refine V_bipush d_Mo_pick_52 ?_
            obtain ⟨h6, h⟩ := h
            obtain ⟨ht, hf⟩ := h
            refine V_icmp_ne 60 d_Mo_pick_54 h6 (by decide) (fun h10 => ?_) (fun h10 => ?_)
            · have h := ht h10
              refine V_aload_n d_Mo_pick_60 rfl ?_
              refine U_geta d_Mo_pick_61 fl_Mo_38 sh_147 rfl ?_
              refine V_aload_n d_Mo_pick_64 rfl ?_
              refine U_geti d_Mo_pick_65 fl_Mo_132 sh_147 ?_
              refine V_iload_n d_Mo_pick_68 rfl ?_
              obtain ⟨h7, h⟩ := h
              refine U_iast d_Mo_pick_69 sh_154 h7 ?_
              have h := h _ rfl
              refine V_aload_n d_Mo_pick_70 rfl ?_
              refine U_geta d_Mo_pick_71 fl_Mo_41 sh_147 rfl ?_
              refine V_aload_n d_Mo_pick_74 rfl ?_
              refine U_geti d_Mo_pick_75 fl_Mo_132 sh_147 ?_
              refine V_iload_n d_Mo_pick_78 rfl ?_
              obtain ⟨h8, h⟩ := h
              refine U_iast d_Mo_pick_79 sh_155 h8 ?_
              have h := h _ rfl
              refine V_aload_n d_Mo_pick_80 rfl ?_
              refine U_geta d_Mo_pick_81 fl_Mo_44 sh_147 rfl ?_
              refine V_aload_n d_Mo_pick_84 rfl ?_
              refine U_geti d_Mo_pick_85 fl_Mo_132 sh_147 ?_
              refine V_iload_n d_Mo_pick_88 rfl ?_
              obtain ⟨h9, h⟩ := h
              refine U_iast d_Mo_pick_89 sh_156 h9 ?_
              have h := h _ rfl
              refine V_aload_n d_Mo_pick_90 rfl ?_
              refine V_aload_n d_Mo_pick_91 rfl ?_
              refine U_geti d_Mo_pick_92 fl_Mo_132 sh_147 ?_
              refine V_iload d_Mo_pick_95 rfl ?_
              refine V_iload d_Mo_pick_97 rfl ?_
              refine U_iv3 cv_Mo_pick_180 d_Mo_pick_99 sh_147 rfl rfl (am_mono h ?_)
              rintro ro8 so8 σ8 ⟨rfl, rfl, h⟩
              refine V_aload_n d_Mo_pick_102 rfl ?_
              refine V_dup d_Mo_pick_103 ?_
              refine U_geti d_Mo_pick_104 fl_Mo_132 sh_147 ?_
              refine V_iconst d_Mo_pick_107 ?_
              refine V_iadd d_Mo_pick_108 ?_
              refine U_puti d_Mo_pick_109 fw_Mo_132 sh_147 ?_
              have h := h _ rfl
              refine V_aload_n d_Mo_pick_112 rfl ?_
              refine U_geti d_Mo_pick_113 fl_Mo_132 sh_147 ?_
              refine V_iconst d_Mo_pick_116 ?_
              refine V_isub d_Mo_pick_117 ?_
              exact V_iret d_Mo_pick_118 rfl rfl h
            · have h := hf h10
              refine V_drop 0 ?_
              refine V_drop 1 ?_
              refine V_drop 2 ?_
              refine V_drop 3 ?_
              refine V_drop 4 ?_
              refine V_drop 5 ?_
              exact h
        · have h := hf h12
          refine V_drop 0 ?_
          refine V_drop 1 ?_
          refine V_drop 2 ?_
          refine V_drop 3 ?_
          refine V_drop 4 ?_
          refine V_drop 5 ?_
          exact h
    · have h := hf h14
      refine V_drop 0 ?_
      refine V_drop 1 ?_
      refine V_drop 2 ?_
      refine V_drop 3 ?_
      refine V_drop 4 ?_
      refine V_drop 5 ?_
      exact h
theorem s_Mo_pick_16 {x : am_Sc} {Po : Option am_AV → am_Sh → am_St → Prop} {σ : am_St}
    (h : Po (some (Zi (-2))) am_SH σ) : am_U x m_Mo_pick Po σ 16 [none, none, none, none, none, none] [] := by
  refine V_bipush d_Mo_pick_16 ?_
  exact V_iret d_Mo_pick_18 rfl rfl h
theorem s_Mo_pick_36 {x : am_Sc} {Po : Option am_AV → am_Sh → am_St → Prop} {σ : am_St}
    (h : Po (some (Zi (-3))) am_SH σ) : am_U x m_Mo_pick Po σ 36 [none, none, none, none, none, none] [] := by
  refine V_bipush d_Mo_pick_36 ?_
  exact V_iret d_Mo_pick_38 rfl rfl h
theorem s_Mo_pick_57 {x : am_Sc} {Po : Option am_AV → am_Sh → am_St → Prop} {σ : am_St}
    (h : Po (some (Zi (-5))) am_SH σ) : am_U x m_Mo_pick Po σ 57 [none, none, none, none, none, none] [] := by
  refine V_bipush d_Mo_pick_57 ?_
  exact V_iret d_Mo_pick_59 rfl rfl h
theorem s_Mo_isSpan_0 {x : am_Sc} {Po : Option am_AV → am_Sh → am_St → Prop} {σ : am_St} {v0 v1 : Int}
    (h : am_U x m_Mo_in (fun ro1 so1 σ1 => ∃ z1 : Int, ro1 = some (Zi z1) ∧ so1 = am_SH ∧ am_r z1 ∧ ((z1 = 0 → am_U x m_Mo_isSpan Po σ1 26 [none, none] []) ∧ (¬ z1 = 0 → am_U x m_Mo_in (fun ro2 so2 σ2 => ∃ z2 : Int, ro2 = some (Zi z2) ∧ so2 = am_SH ∧ am_r z2 ∧ ((z2 = 0 → am_U x m_Mo_isSpan Po σ2 26 [none, none] []) ∧ (¬ z2 = 0 → am_U x m_Mo_isSpan Po σ2 27 [none, none] [Zi 1]))) σ1 0 [some (Zi v1), some (Zi v0), some (Zi 3000)] []))) σ 0 [some (Zi v0), some (Zi 0), some (Zi 3000)] []) : am_U x m_Mo_isSpan Po σ 0 [some (Zi v0), some (Zi v1)] [] := by
  refine V_iload_n d_Mo_isSpan_0 rfl ?_
  refine V_iconst d_Mo_isSpan_1 ?_
  refine V_sipush d_Mo_isSpan_2 ?_
  refine U_is3 cv_Mo_isSpan_122 d_Mo_isSpan_5  rfl (am_mono h ?_)
  rintro ro1 so1 σ1 ⟨z1, rfl, rfl, h⟩
  obtain ⟨h1, h⟩ := h
  obtain ⟨ht, hf⟩ := h
  refine V_if_eq 26 d_Mo_isSpan_8 h1 (fun h4 => ?_) (fun h4 => ?_)
  · have h := ht h4
    refine V_drop 0 ?_
    refine V_drop 1 ?_
    exact h
  · have h := hf h4
    refine V_iload_n d_Mo_isSpan_11 rfl ?_
    refine V_iload_n d_Mo_isSpan_12 rfl ?_
    refine V_sipush d_Mo_isSpan_13 ?_
    refine U_is3 cv_Mo_isSpan_122 d_Mo_isSpan_16  rfl (am_mono h ?_)
    rintro ro2 so2 σ2 ⟨z2, rfl, rfl, h⟩
    obtain ⟨h2, h⟩ := h
    obtain ⟨ht, hf⟩ := h
    refine V_if_eq 26 d_Mo_isSpan_19 h2 (fun h3 => ?_) (fun h3 => ?_)
    · have h := ht h3
      refine V_drop 0 ?_
      refine V_drop 1 ?_
      exact h
    · have h := hf h3
      refine V_iconst d_Mo_isSpan_22 ?_
      refine V_goto 27 d_Mo_isSpan_23 ?_
      refine V_drop 0 ?_
      refine V_drop 1 ?_
      exact h
theorem s_Mo_isSpan_26 {x : am_Sc} {Po : Option am_AV → am_Sh → am_St → Prop} {σ : am_St}
    (h : am_U x m_Mo_isSpan Po σ 27 [none, none] [Zi 0]) : am_U x m_Mo_isSpan Po σ 26 [none, none] [] := by
  refine V_iconst d_Mo_isSpan_26 ?_
  exact h
theorem s_Mo_isSpan_27 {x : am_Sc} {Po : Option am_AV → am_Sh → am_St → Prop} {σ : am_St} {vk0 : Int}
    (h : (vk0 = 0 ∨ vk0 = 1) ∧ Po (some (Zi vk0)) am_SH σ) : am_U x m_Mo_isSpan Po σ 27 [none, none] [Zi vk0] := by
  obtain ⟨h5, h⟩ := h
  exact V_zret d_Mo_isSpan_27 rfl rfl h5 h
theorem s_Mo_addTelling_0 {x : am_Sc} {Po : Option am_AV → am_Sh → am_St → Prop} {σ : am_St} {v1 v2 v3 : Int}
    (h : (0 ≤ σ.1 147 15 ∧ σ.1 147 15 < 40) ∧ (∀ σ1 : am_St, σ1 = (am_up σ.1 157 (σ.1 147 15).toNat v1, σ.2) → (0 ≤ σ1.1 147 15 ∧ σ1.1 147 15 < 40) ∧ (∀ σ2 : am_St, σ2 = (am_up σ1.1 158 (σ1.1 147 15).toNat (σ1.1 147 20), σ1.2) → (0 ≤ σ2.1 147 15 ∧ σ2.1 147 15 < 40) ∧ (∀ σ3 : am_St, σ3 = (am_up σ2.1 159 (σ2.1 147 15).toNat v2, σ2.2) → (0 ≤ σ3.1 147 15 ∧ σ3.1 147 15 < 40) ∧ (∀ σ4 : am_St, σ4 = (am_up σ3.1 160 (σ3.1 147 15).toNat v3, σ3.2) → (∀ σ5 : am_St, σ5 = (am_up σ4.1 147 15 ((σ4.1 147 15) + 1), σ4.2) → Po none am_SH σ5)))))) : am_U x m_Mo_addTelling Po σ 0 [some (Zr 147), some (Zi v1), some (Zi v2), some (Zi v3)] [] := by
  refine V_aload_n d_Mo_addTelling_0 rfl ?_
  refine U_geta d_Mo_addTelling_1 fl_Mo_47 sh_147 rfl ?_
  refine V_aload_n d_Mo_addTelling_4 rfl ?_
  refine U_geti d_Mo_addTelling_5 fl_Mo_135 sh_147 ?_
  refine V_iload_n d_Mo_addTelling_8 rfl ?_
  obtain ⟨h1, h⟩ := h
  refine U_iast d_Mo_addTelling_9 sh_157 h1 ?_
  have h := h _ rfl
  refine V_aload_n d_Mo_addTelling_10 rfl ?_
  refine U_geta d_Mo_addTelling_11 fl_Mo_50 sh_147 rfl ?_
  refine V_aload_n d_Mo_addTelling_14 rfl ?_
  refine U_geti d_Mo_addTelling_15 fl_Mo_135 sh_147 ?_
  refine V_aload_n d_Mo_addTelling_18 rfl ?_
  refine U_geti d_Mo_addTelling_19 fl_Mo_174 sh_147 ?_
  obtain ⟨h2, h⟩ := h
  refine U_iast d_Mo_addTelling_22 sh_158 h2 ?_
  have h := h _ rfl
  refine V_aload_n d_Mo_addTelling_23 rfl ?_
  refine U_geta d_Mo_addTelling_24 fl_Mo_53 sh_147 rfl ?_
  refine V_aload_n d_Mo_addTelling_27 rfl ?_
  refine U_geti d_Mo_addTelling_28 fl_Mo_135 sh_147 ?_
  refine V_iload_n d_Mo_addTelling_31 rfl ?_
  obtain ⟨h3, h⟩ := h
  refine U_iast d_Mo_addTelling_32 sh_159 h3 ?_
  have h := h _ rfl
  refine V_aload_n d_Mo_addTelling_33 rfl ?_
  refine U_geta d_Mo_addTelling_34 fl_Mo_56 sh_147 rfl ?_
  refine V_aload_n d_Mo_addTelling_37 rfl ?_
  refine U_geti d_Mo_addTelling_38 fl_Mo_135 sh_147 ?_
  refine V_iload_n d_Mo_addTelling_41 rfl ?_
  obtain ⟨h4, h⟩ := h
  refine U_iast d_Mo_addTelling_42 sh_160 h4 ?_
  have h := h _ rfl
  refine V_aload_n d_Mo_addTelling_43 rfl ?_
  refine V_dup d_Mo_addTelling_44 ?_
  refine U_geti d_Mo_addTelling_45 fl_Mo_135 sh_147 ?_
  refine V_iconst d_Mo_addTelling_48 ?_
  refine V_iadd d_Mo_addTelling_49 ?_
  refine U_puti d_Mo_addTelling_50 fw_Mo_135 sh_147 ?_
  have h := h _ rfl
  exact V_ret d_Mo_addTelling_53 rfl rfl h
theorem s_Mo_tell_0 {x : am_Sc} {Po : Option am_AV → am_Sh → am_St → Prop} {σ : am_St} {v1 v2 v3 : Int}
    (h : am_U x m_Mo_isPick (fun ro1 so1 σ1 => ∃ z1 : Int, ro1 = some (Zi z1) ∧ so1 = am_SH ∧ am_r z1 ∧ ((¬ z1 = 0 → am_U x m_Mo_isSpan (fun ro2 so2 σ2 => ∃ z2 : Int, ro2 = some (Zi z2) ∧ so2 = am_SH ∧ am_r z2 ∧ ((¬ z2 = 0 → am_r (σ2.1 147 15) ∧ ((¬ (σ2.1 147 15) = 40 → am_U x m_Mo_addTelling (fun ro3 so3 σ3 => ro3 = none ∧ so3 = am_SH ∧ Po (some (Zi (σ3.1 147 15))) am_SH σ3) σ2 0 [some (Zr 147), some (Zi v1), some (Zi v2), some (Zi v3)] []) ∧ ((σ2.1 147 15) = 40 → Po (some (Zi (-5))) am_SH σ2))) ∧ (z2 = 0 → Po (some (Zi (-3))) am_SH σ2))) σ1 0 [some (Zi v2), some (Zi v3)] []) ∧ (z1 = 0 → Po (some (Zi (-2))) am_SH σ1))) σ 0 [some (Zr 147), some (Zi v1)] []) : am_U x m_Mo_tell Po σ 0 [some (Zr 147), some (Zi v1), some (Zi v2), some (Zi v3)] [] := by
  refine V_aload_n d_Mo_tell_0 rfl ?_
  refine V_iload_n d_Mo_tell_1 rfl ?_
  refine U_iv1 cv_Mo_tell_184 d_Mo_tell_2 sh_147 rfl rfl (am_mono h ?_)
  rintro ro1 so1 σ1 ⟨z1, rfl, rfl, h⟩
  obtain ⟨h1, h⟩ := h
  obtain ⟨ht, hf⟩ := h
  refine V_if_ne 11 d_Mo_tell_5 h1 (fun h6 => ?_) (fun h6 => ?_)
  · have h := ht h6
    refine V_iload_n d_Mo_tell_11 rfl ?_
    refine V_iload_n d_Mo_tell_12 rfl ?_
    refine U_is2 cv_Mo_tell_177 d_Mo_tell_13  rfl (am_mono h ?_)
    rintro ro2 so2 σ2 ⟨z2, rfl, rfl, h⟩
    obtain ⟨h2, h⟩ := h
    obtain ⟨ht, hf⟩ := h
    refine V_if_ne 22 d_Mo_tell_16 h2 (fun h5 => ?_) (fun h5 => ?_)
    · have h := ht h5
      refine V_aload_n d_Mo_tell_22 rfl ?_
      refine U_geti d_Mo_tell_23 fl_Mo_135 sh_147 ?_
      refine V_bipush d_Mo_tell_26 ?_
      obtain ⟨h3, h⟩ := h
      obtain ⟨ht, hf⟩ := h
      refine V_icmp_ne 34 d_Mo_tell_28 h3 (by decide) (fun h4 => ?_) (fun h4 => ?_)
      · have h := ht h4
        refine V_aload_n d_Mo_tell_34 rfl ?_
        refine V_iload_n d_Mo_tell_35 rfl ?_
        refine V_iload_n d_Mo_tell_36 rfl ?_
        refine V_iload_n d_Mo_tell_37 rfl ?_
        refine U_iv3 cv_Mo_tell_180 d_Mo_tell_38 sh_147 rfl rfl (am_mono h ?_)
        rintro ro3 so3 σ3 ⟨rfl, rfl, h⟩
        refine V_aload_n d_Mo_tell_41 rfl ?_
        refine U_geti d_Mo_tell_42 fl_Mo_135 sh_147 ?_
        exact V_iret d_Mo_tell_45 rfl rfl h
      · have h := hf h4
        refine V_bipush d_Mo_tell_31 ?_
        exact V_iret d_Mo_tell_33 rfl rfl h
    · have h := hf h5
      refine V_bipush d_Mo_tell_19 ?_
      exact V_iret d_Mo_tell_21 rfl rfl h
  · have h := hf h6
    refine V_bipush d_Mo_tell_8 ?_
    exact V_iret d_Mo_tell_10 rfl rfl h
theorem s_Mo_isPick_0 {x : am_Sc} {Po : Option am_AV → am_Sh → am_St → Prop} {σ : am_St} {v1 : Int}
    (h : am_U x m_Mo_in (fun ro1 so1 σ1 => ∃ z1 : Int, ro1 = some (Zi z1) ∧ so1 = am_SH ∧ (z1 = 0 ∨ z1 = 1) ∧ Po (some (Zi z1)) am_SH σ1) σ 0 [some (Zi v1), some (Zi 0), some (Zi ((σ.1 147 11) - 1))] []) : am_U x m_Mo_isPick Po σ 0 [some (Zr 147), some (Zi v1)] [] := by
  refine V_iload_n d_Mo_isPick_0 rfl ?_
  refine V_iconst d_Mo_isPick_1 ?_
  refine V_aload_n d_Mo_isPick_2 rfl ?_
  refine U_geti d_Mo_isPick_3 fl_Mo_132 sh_147 ?_
  refine V_iconst d_Mo_isPick_6 ?_
  refine V_isub d_Mo_isPick_7 ?_
  refine U_is3 cv_Mo_isPick_122 d_Mo_isPick_8  rfl (am_mono h ?_)
  rintro ro1 so1 σ1 ⟨z1, rfl, rfl, h⟩
  obtain ⟨h1, h⟩ := h
  exact V_zret d_Mo_isPick_11 rfl rfl h1 h
theorem s_Mo_days_0 {x : am_Sc} {Po : Option am_AV → am_Sh → am_St → Prop} {σ : am_St} {v1 : Int}
    (h : am_U x m_Mo_in (fun ro1 so1 σ1 => ∃ z1 : Int, ro1 = some (Zi z1) ∧ so1 = am_SH ∧ am_r z1 ∧ ((z1 = 0 → am_U x m_Mo_days Po σ1 22 [none, none] []) ∧ (¬ z1 = 0 → am_r ((σ1.1 147 20) + v1) ∧ ((((σ1.1 147 20) + v1) ≤ 500 → (∀ σ2 : am_St, σ2 = (am_up σ1.1 147 20 ((σ1.1 147 20) + v1), σ1.2) → Po (some (Zi (σ2.1 147 20))) am_SH σ2)) ∧ (¬ ((σ1.1 147 20) + v1) ≤ 500 → am_U x m_Mo_days Po σ1 22 [none, none] []))))) σ 0 [some (Zi v1), some (Zi 1), some (Zi 50)] []) : am_U x m_Mo_days Po σ 0 [some (Zr 147), some (Zi v1)] [] := by
  refine V_iload_n d_Mo_days_0 rfl ?_
  refine V_iconst d_Mo_days_1 ?_
  refine V_bipush d_Mo_days_2 ?_
  refine U_is3 cv_Mo_days_122 d_Mo_days_4  rfl (am_mono h ?_)
  rintro ro1 so1 σ1 ⟨z1, rfl, rfl, h⟩
  obtain ⟨h1, h⟩ := h
  obtain ⟨ht, hf⟩ := h
  refine V_if_eq 22 d_Mo_days_7 h1 (fun h4 => ?_) (fun h4 => ?_)
  · have h := ht h4
    refine V_drop 0 ?_
    refine V_drop 1 ?_
    exact h
  · have h := hf h4
    refine V_aload_n d_Mo_days_10 rfl ?_
    refine U_geti d_Mo_days_11 fl_Mo_174 sh_147 ?_
    refine V_iload_n d_Mo_days_14 rfl ?_
    refine V_iadd d_Mo_days_15 ?_
    refine V_sipush d_Mo_days_16 ?_
    obtain ⟨h2, h⟩ := h
    obtain ⟨ht, hf⟩ := h
    refine V_icmp_le 25 d_Mo_days_19 h2 (by decide) (fun h3 => ?_) (fun h3 => ?_)
    · have h := ht h3
      refine V_aload_n d_Mo_days_25 rfl ?_
      refine V_dup d_Mo_days_26 ?_
      refine U_geti d_Mo_days_27 fl_Mo_174 sh_147 ?_
      refine V_iload_n d_Mo_days_30 rfl ?_
      refine V_iadd d_Mo_days_31 ?_
      refine U_puti d_Mo_days_32 fw_Mo_174 sh_147 ?_
      have h := h _ rfl
      refine V_aload_n d_Mo_days_35 rfl ?_
      refine U_geti d_Mo_days_36 fl_Mo_174 sh_147 ?_
      exact V_iret d_Mo_days_39 rfl rfl h
    · have h := hf h3
      refine V_drop 0 ?_
      refine V_drop 1 ?_
      exact h
theorem s_Mo_days_22 {x : am_Sc} {Po : Option am_AV → am_Sh → am_St → Prop} {σ : am_St}
    (h : Po (some (Zi (-3))) am_SH σ) : am_U x m_Mo_days Po σ 22 [none, none] [] := by
  refine V_bipush d_Mo_days_22 ?_
  exact V_iret d_Mo_days_24 rfl rfl h
theorem s_Mo_of_0 {x : am_Sc} {Po : Option am_AV → am_Sh → am_St → Prop} {σ : am_St} {v1 v2 : Int}
    (h : am_U x m_Mo_isPick (fun ro1 so1 σ1 => ∃ z1 : Int, ro1 = some (Zi z1) ∧ so1 = am_SH ∧ am_r z1 ∧ ((¬ z1 = 0 → am_U x m_Mo_in (fun ro2 so2 σ2 => ∃ z2 : Int, ro2 = some (Zi z2) ∧ so2 = am_SH ∧ am_r z2 ∧ ((¬ z2 = 0 → am_U x m_Mo_findSpans (fun ro3 so3 σ3 => ro3 = none ∧ so3 = am_SH ∧ am_U x m_Mo_findShakeTimes (fun ro4 so4 σ4 => ro4 = none ∧ so4 = am_SH ∧ (0 ≤ v1 ∧ v1 < 12) ∧ (0 ≤ σ4.1 154 v1.toNat ∧ σ4.1 154 v1.toNat < 6) ∧ am_U x m_Mo_findTimes (fun ro5 so5 σ5 => ro5 = none ∧ so5 = am_SH ∧ (0 ≤ σ5.1 155 v1.toNat ∧ σ5.1 155 v1.toNat < 5) ∧ am_U x m_Mo_of Po σ5 71 [some (Zr 147), some (Zi v1), some (Zi v2), some (Zi 1), some (Zi (σ5.1 152 (σ5.1 155 v1.toNat).toNat))] []) σ4 0 [some (Zr 147), some (Zi (σ4.1 150 (σ4.1 154 v1.toNat).toNat)), some (Zi (σ4.1 156 v1.toNat)), none, none, none, none, none, none, none] []) σ3 0 [some (Zr 147), none, none] []) σ2 0 [some (Zr 147), some (Zi (σ2.1 147 20)), none] []) ∧ (z2 = 0 → Po (some (Zi (-3))) am_SH σ2))) σ1 0 [some (Zi v2), some (Zi 0), some (Zi 4)] []) ∧ (z1 = 0 → Po (some (Zi (-2))) am_SH σ1))) σ 0 [some (Zr 147), some (Zi v1)] []) : am_U x m_Mo_of Po σ 0 [some (Zr 147), some (Zi v1), some (Zi v2), none, none] [] := by
  refine V_aload_n d_Mo_of_0 rfl ?_
  refine V_iload_n d_Mo_of_1 rfl ?_
  refine U_iv1 cv_Mo_of_184 d_Mo_of_2 sh_147 rfl rfl (am_mono h ?_)
  rintro ro1 so1 σ1 ⟨z1, rfl, rfl, h⟩
  obtain ⟨h1, h⟩ := h
  obtain ⟨ht, hf⟩ := h
  refine V_if_ne 11 d_Mo_of_5 h1 (fun h7 => ?_) (fun h7 => ?_)
  · have h := ht h7
    refine V_iload_n d_Mo_of_11 rfl ?_
    refine V_iconst d_Mo_of_12 ?_
    refine V_iconst d_Mo_of_13 ?_
    refine U_is3 cv_Mo_of_122 d_Mo_of_14  rfl (am_mono h ?_)
    rintro ro2 so2 σ2 ⟨z2, rfl, rfl, h⟩
    obtain ⟨h2, h⟩ := h
    obtain ⟨ht, hf⟩ := h
    refine V_if_ne 23 d_Mo_of_17 h2 (fun h6 => ?_) (fun h6 => ?_)
    · have h := ht h6
      refine V_aload_n d_Mo_of_23 rfl ?_
      refine V_aload_n d_Mo_of_24 rfl ?_
      refine U_geti d_Mo_of_25 fl_Mo_174 sh_147 ?_
      refine U_iv1 cv_Mo_of_196 d_Mo_of_28 sh_147 rfl rfl (am_mono h ?_)
      rintro ro3 so3 σ3 ⟨rfl, rfl, h⟩
      refine V_aload_n d_Mo_of_31 rfl ?_
      refine U_iv0 cv_Mo_of_187 d_Mo_of_32 sh_147 rfl rfl (am_mono h ?_)
      rintro ro4 so4 σ4 ⟨rfl, rfl, h⟩
      refine V_iconst d_Mo_of_35 ?_
      refine V_istore_n d_Mo_of_36 rfl ?_
      refine V_aload_n d_Mo_of_37 rfl ?_
      refine V_aload_n d_Mo_of_38 rfl ?_
      refine U_geta d_Mo_of_39 fl_Mo_26 sh_147 rfl ?_
      refine V_aload_n d_Mo_of_42 rfl ?_
      refine U_geta d_Mo_of_43 fl_Mo_38 sh_147 rfl ?_
      refine V_iload_n d_Mo_of_46 rfl ?_
      obtain ⟨h3, h⟩ := h
      refine U_iald d_Mo_of_47 sh_154 h3 ?_
      obtain ⟨h4, h⟩ := h
      refine U_iald d_Mo_of_48 sh_150 h4 ?_
      refine V_aload_n d_Mo_of_49 rfl ?_
      refine U_geta d_Mo_of_50 fl_Mo_44 sh_147 rfl ?_
      refine V_iload_n d_Mo_of_53 rfl ?_
      refine U_iald d_Mo_of_54 sh_156 h3 ?_
      refine U_iv2 cv_Mo_of_157 d_Mo_of_55 sh_147 rfl rfl (am_mono h ?_)
      rintro ro5 so5 σ5 ⟨rfl, rfl, h⟩
      refine V_aload_n d_Mo_of_58 rfl ?_
      refine U_geta d_Mo_of_59 fl_Mo_32 sh_147 rfl ?_
      refine V_aload_n d_Mo_of_62 rfl ?_
      refine U_geta d_Mo_of_63 fl_Mo_41 sh_147 rfl ?_
      refine V_iload_n d_Mo_of_66 rfl ?_
      refine U_iald d_Mo_of_67 sh_155 h3 ?_
      obtain ⟨h5, h⟩ := h
      refine U_iald d_Mo_of_68 sh_152 h5 ?_
      refine V_istore d_Mo_of_69 rfl ?_
      exact h
    · have h := hf h6
      refine V_bipush d_Mo_of_20 ?_
      exact V_iret d_Mo_of_22 rfl rfl h
  · have h := hf h7
    refine V_bipush d_Mo_of_8 ?_
    exact V_iret d_Mo_of_10 rfl rfl h
theorem s_Mo_of_71 {x : am_Sc} {Po : Option am_AV → am_Sh → am_St → Prop} {σ : am_St} {v1 v2 v3 v4 : Int}
    (h : (0 ≤ v1 ∧ v1 < 12) ∧ (0 ≤ σ.1 154 v1.toNat ∧ σ.1 154 v1.toNat < 6) ∧ am_r v4 ∧ am_r (σ.1 150 (σ.1 154 v1.toNat).toNat) ∧ ((v4 = (σ.1 150 (σ.1 154 v1.toNat).toNat) → am_r v2 ∧ ((¬ v2 = 0 → ((¬ v2 = 1 → ((¬ v2 = 2 → ((¬ v2 = 3 → am_U x m_Mo_of Po σ 166 [none, none, none, none, none] [Zi v3]) ∧ (v2 = 3 → am_U x m_Mo_of Po σ 166 [none, none, none, none, none] [Zi (σ.1 162 v1.toNat)]))) ∧ (v2 = 2 → am_U x m_Mo_of Po σ 166 [none, none, none, none, none] [Zi (σ.1 161 v1.toNat)]))) ∧ (v2 = 1 → am_U x m_Mo_foretold (fun ro6 so6 σ6 => ∃ z6 : Int, ro6 = some (Zi z6) ∧ so6 = am_SH ∧ am_U x m_Mo_offOf (fun ro7 so7 σ7 => ∃ z7 : Int, ro7 = some (Zi z7) ∧ so7 = am_SH ∧ am_U x m_Mo_of Po σ7 166 [none, none, none, none, none] [Zi z7]) σ6 0 [some (Zr 147), some (Zi v1), some (Zi z6)] []) σ 0 [some (Zr 147), some (Zi v1), none] []))) ∧ (v2 = 0 → am_U x m_Mo_foretold (fun ro8 so8 σ8 => ∃ z8 : Int, ro8 = some (Zi z8) ∧ so8 = am_SH ∧ am_U x m_Mo_of Po σ8 166 [none, none, none, none, none] [Zi z8]) σ 0 [some (Zr 147), some (Zi v1), none] []))) ∧ (¬ v4 = (σ.1 150 (σ.1 154 v1.toNat).toNat) → am_U x m_Mo_nextOf (fun ro9 so9 σ9 => ∃ z9 : Int, ro9 = some (Zi z9) ∧ so9 = am_SH ∧ am_U x m_Mo_of Po σ9 71 [some (Zr 147), some (Zi v1), some (Zi v2), some (Zi (v3 + 1)), some (Zi z9)] []) σ 0 [some (Zr 147), some (Zi v4), some (Zi (σ.1 156 v1.toNat)), none] []))) : am_U x m_Mo_of Po σ 71 [some (Zr 147), some (Zi v1), some (Zi v2), some (Zi v3), some (Zi v4)] [] := by
  refine V_iload d_Mo_of_71 rfl ?_
  refine V_aload_n d_Mo_of_73 rfl ?_
  refine U_geta d_Mo_of_74 fl_Mo_26 sh_147 rfl ?_
  refine V_aload_n d_Mo_of_77 rfl ?_
  refine U_geta d_Mo_of_78 fl_Mo_38 sh_147 rfl ?_
  refine V_iload_n d_Mo_of_81 rfl ?_
  obtain ⟨h8, h⟩ := h
  refine U_iald d_Mo_of_82 sh_154 h8 ?_
  obtain ⟨h9, h⟩ := h
  refine U_iald d_Mo_of_83 sh_150 h9 ?_
  obtain ⟨h10, h⟩ := h
  obtain ⟨h11, h⟩ := h
  obtain ⟨ht, hf⟩ := h
  refine V_icmp_eq 107 d_Mo_of_84 h10 h11 (fun h17 => ?_) (fun h17 => ?_)
  · have h := ht h17
    refine V_iload_n d_Mo_of_107 rfl ?_
    obtain ⟨h12, h⟩ := h
    obtain ⟨ht, hf⟩ := h
    refine V_if_ne 119 d_Mo_of_108 h12 (fun h16 => ?_) (fun h16 => ?_)
    · have h := ht h16
      refine V_iload_n d_Mo_of_119 rfl ?_
      refine V_iconst d_Mo_of_120 ?_
      obtain ⟨ht, hf⟩ := h
      refine V_icmp_ne 137 d_Mo_of_121 h12 (by decide) (fun h15 => ?_) (fun h15 => ?_)
      · have h := ht h15
        refine V_iload_n d_Mo_of_137 rfl ?_
        refine V_iconst d_Mo_of_138 ?_
        obtain ⟨ht, hf⟩ := h
        refine V_icmp_ne 151 d_Mo_of_139 h12 (by decide) (fun h14 => ?_) (fun h14 => ?_)
        · have h := ht h14
          refine V_iload_n d_Mo_of_151 rfl ?_
          refine V_iconst d_Mo_of_152 ?_
          obtain ⟨ht, hf⟩ := h
          refine V_icmp_ne 165 d_Mo_of_153 h12 (by decide) (fun h13 => ?_) (fun h13 => ?_)
          · have h := ht h13
            refine V_iload_n d_Mo_of_165 rfl ?_
            refine V_drop 0 ?_
            refine V_drop 1 ?_
            refine V_drop 2 ?_
            refine V_drop 3 ?_
            refine V_drop 4 ?_
            exact h
          · have h := hf h13
            refine V_aload_n d_Mo_of_156 rfl ?_
            refine U_geta d_Mo_of_157 fl_Mo_62 sh_147 rfl ?_
            refine V_iload_n d_Mo_of_160 rfl ?_
            refine U_iald d_Mo_of_161 sh_162 h8 ?_
            refine V_goto 166 d_Mo_of_162 ?_
            refine V_drop 0 ?_
            refine V_drop 1 ?_
            refine V_drop 2 ?_
            refine V_drop 3 ?_
            refine V_drop 4 ?_
            exact h
        · have h := hf h14
          refine V_aload_n d_Mo_of_142 rfl ?_
          refine U_geta d_Mo_of_143 fl_Mo_59 sh_147 rfl ?_
          refine V_iload_n d_Mo_of_146 rfl ?_
          refine U_iald d_Mo_of_147 sh_161 h8 ?_
          refine V_goto 166 d_Mo_of_148 ?_
          refine V_drop 0 ?_
          refine V_drop 1 ?_
          refine V_drop 2 ?_
          refine V_drop 3 ?_
          refine V_drop 4 ?_
          exact h
      · have h := hf h15
        refine V_aload_n d_Mo_of_124 rfl ?_
        refine V_iload_n d_Mo_of_125 rfl ?_
        refine V_aload_n d_Mo_of_126 rfl ?_
        refine V_iload_n d_Mo_of_127 rfl ?_
        refine U_iv1 cv_Mo_of_190 d_Mo_of_128 sh_147 rfl rfl (am_mono h ?_)
        rintro ro6 so6 σ6 ⟨z6, rfl, rfl, h⟩
        refine U_iv2 cv_Mo_of_193 d_Mo_of_131 sh_147 rfl rfl (am_mono h ?_)
        rintro ro7 so7 σ7 ⟨z7, rfl, rfl, h⟩
        refine V_goto 166 d_Mo_of_134 ?_
        refine V_drop 0 ?_
        refine V_drop 1 ?_
        refine V_drop 2 ?_
        refine V_drop 3 ?_
        refine V_drop 4 ?_
        exact h
    · have h := hf h16
      refine V_aload_n d_Mo_of_111 rfl ?_
      refine V_iload_n d_Mo_of_112 rfl ?_
      refine U_iv1 cv_Mo_of_190 d_Mo_of_113 sh_147 rfl rfl (am_mono h ?_)
      rintro ro8 so8 σ8 ⟨z8, rfl, rfl, h⟩
      refine V_goto 166 d_Mo_of_116 ?_
      refine V_drop 0 ?_
      refine V_drop 1 ?_
      refine V_drop 2 ?_
      refine V_drop 3 ?_
      refine V_drop 4 ?_
      exact h
  · have h := hf h17
    refine V_iinc d_Mo_of_87 rfl rfl ?_
    refine V_aload_n d_Mo_of_90 rfl ?_
    refine V_iload d_Mo_of_91 rfl ?_
    refine V_aload_n d_Mo_of_93 rfl ?_
    refine U_geta d_Mo_of_94 fl_Mo_44 sh_147 rfl ?_
    refine V_iload_n d_Mo_of_97 rfl ?_
    refine U_iald d_Mo_of_98 sh_156 h8 ?_
    refine U_iv2 cv_Mo_of_165 d_Mo_of_99 sh_147 rfl rfl (am_mono h ?_)
    rintro ro9 so9 σ9 ⟨z9, rfl, rfl, h⟩
    refine V_istore d_Mo_of_102 rfl ?_
    refine V_goto 71 d_Mo_of_104 ?_
    exact h
theorem s_Mo_of_166 {x : am_Sc} {Po : Option am_AV → am_Sh → am_St → Prop} {σ : am_St} {vk0 : Int}
    (h : Po (some (Zi vk0)) am_SH σ) : am_U x m_Mo_of Po σ 166 [none, none, none, none, none] [Zi vk0] := by
  exact V_iret d_Mo_of_166 rfl rfl h
theorem s_Mo_findSpans_0 {x : am_Sc} {Po : Option am_AV → am_Sh → am_St → Prop} {σ : am_St} {v1 : Int}
    (h : am_U x m_Mo_findSpans Po σ 2 [some (Zr 147), some (Zi v1), some (Zi 0)] []) : am_U x m_Mo_findSpans Po σ 0 [some (Zr 147), some (Zi v1), none] [] := by
  refine V_iconst d_Mo_findSpans_0 ?_
  refine V_istore_n d_Mo_findSpans_1 rfl ?_
  exact h
theorem s_Mo_findSpans_2 {x : am_Sc} {Po : Option am_AV → am_Sh → am_St → Prop} {σ : am_St} {v1 v2 : Int}
    (h : am_r v2 ∧ am_r (σ.1 147 11) ∧ (((σ.1 147 11) ≤ v2 → am_U x m_Mo_findSpans Po σ 25 [some (Zr 147), some (Zi v1), some (Zi 0)] []) ∧ (¬ (σ.1 147 11) ≤ v2 → (0 ≤ v2 ∧ v2 < 12) ∧ (∀ σ1 : am_St, σ1 = (am_up σ.1 163 v2.toNat 0, σ.2) → am_U x m_Mo_findSpans Po σ1 2 [some (Zr 147), some (Zi v1), some (Zi (v2 + 1))] [])))) : am_U x m_Mo_findSpans Po σ 2 [some (Zr 147), some (Zi v1), some (Zi v2)] [] := by
  refine V_iload_n d_Mo_findSpans_2 rfl ?_
  refine V_aload_n d_Mo_findSpans_3 rfl ?_
  refine U_geti d_Mo_findSpans_4 fl_Mo_132 sh_147 ?_
  obtain ⟨h1, h⟩ := h
  obtain ⟨h2, h⟩ := h
  obtain ⟨ht, hf⟩ := h
  refine V_icmp_ge 23 d_Mo_findSpans_7 h1 h2 (fun h4 => ?_) (fun h4 => ?_)
  · have h := ht h4
    refine V_iconst d_Mo_findSpans_23 ?_
    refine V_istore_n d_Mo_findSpans_24 rfl ?_
    exact h
  · have h := hf h4
    refine V_aload_n d_Mo_findSpans_10 rfl ?_
    refine U_geta d_Mo_findSpans_11 fl_Mo_65 sh_147 rfl ?_
    refine V_iload_n d_Mo_findSpans_14 rfl ?_
    refine V_iconst d_Mo_findSpans_15 ?_
    obtain ⟨h3, h⟩ := h
    refine U_zast d_Mo_findSpans_16 sh_163 h3 (Or.inl rfl) ?_
    have h := h _ rfl
    refine V_iinc d_Mo_findSpans_17 rfl rfl ?_
    refine V_goto 2 d_Mo_findSpans_20 ?_
    exact h
theorem s_Mo_findSpans_25 {x : am_Sc} {Po : Option am_AV → am_Sh → am_St → Prop} {σ : am_St} {v1 v2 : Int}
    (h : am_r v2 ∧ am_r (σ.1 147 15) ∧ (((σ.1 147 15) ≤ v2 → Po none am_SH σ) ∧ (¬ (σ.1 147 15) ≤ v2 → (0 ≤ v2 ∧ v2 < 40) ∧ am_r (σ.1 158 v2.toNat) ∧ am_r v1 ∧ ((v1 < (σ.1 158 v2.toNat) → am_U x m_Mo_findSpans Po σ 89 [some (Zr 147), some (Zi v1), some (Zi v2)] []) ∧ (¬ v1 < (σ.1 158 v2.toNat) → (0 ≤ σ.1 157 v2.toNat ∧ σ.1 157 v2.toNat < 12) ∧ (∀ σ2 : am_St, σ2 = (am_up σ.1 163 (σ.1 157 v2.toNat).toNat 1, σ.2) → (0 ≤ σ2.1 157 v2.toNat ∧ σ2.1 157 v2.toNat < 12) ∧ (∀ σ3 : am_St, σ3 = (am_up σ2.1 161 (σ2.1 157 v2.toNat).toNat (σ2.1 159 v2.toNat), σ2.2) → (0 ≤ σ3.1 157 v2.toNat ∧ σ3.1 157 v2.toNat < 12) ∧ (∀ σ4 : am_St, σ4 = (am_up σ3.1 162 (σ3.1 157 v2.toNat).toNat (σ3.1 160 v2.toNat), σ3.2) → am_U x m_Mo_findSpans Po σ4 89 [some (Zr 147), some (Zi v1), some (Zi v2)] [])))))))) : am_U x m_Mo_findSpans Po σ 25 [some (Zr 147), some (Zi v1), some (Zi v2)] [] := by
  refine V_iload_n d_Mo_findSpans_25 rfl ?_
  refine V_aload_n d_Mo_findSpans_26 rfl ?_
  refine U_geti d_Mo_findSpans_27 fl_Mo_135 sh_147 ?_
  obtain ⟨h5, h⟩ := h
  obtain ⟨h6, h⟩ := h
  obtain ⟨ht, hf⟩ := h
  refine V_icmp_ge 95 d_Mo_findSpans_30 h5 h6 (fun h14 => ?_) (fun h14 => ?_)
  · have h := ht h14
    exact V_ret d_Mo_findSpans_95 rfl rfl h
  · have h := hf h14
    refine V_aload_n d_Mo_findSpans_33 rfl ?_
    refine U_geta d_Mo_findSpans_34 fl_Mo_50 sh_147 rfl ?_
    refine V_iload_n d_Mo_findSpans_37 rfl ?_
    obtain ⟨h7, h⟩ := h
    refine U_iald d_Mo_findSpans_38 sh_158 h7 ?_
    refine V_iload_n d_Mo_findSpans_39 rfl ?_
    obtain ⟨h8, h⟩ := h
    obtain ⟨h9, h⟩ := h
    obtain ⟨ht, hf⟩ := h
    refine V_icmp_gt 89 d_Mo_findSpans_40 h8 h9 (fun h13 => ?_) (fun h13 => ?_)
    · have h := ht h13
      exact h
    · have h := hf h13
      refine V_aload_n d_Mo_findSpans_43 rfl ?_
      refine U_geta d_Mo_findSpans_44 fl_Mo_65 sh_147 rfl ?_
      refine V_aload_n d_Mo_findSpans_47 rfl ?_
      refine U_geta d_Mo_findSpans_48 fl_Mo_47 sh_147 rfl ?_
      refine V_iload_n d_Mo_findSpans_51 rfl ?_
      refine U_iald d_Mo_findSpans_52 sh_157 h7 ?_
      refine V_iconst d_Mo_findSpans_53 ?_
      obtain ⟨h10, h⟩ := h
      refine U_zast d_Mo_findSpans_54 sh_163 h10 (Or.inr rfl) ?_
      have h := h _ rfl
      refine V_aload_n d_Mo_findSpans_55 rfl ?_
      refine U_geta d_Mo_findSpans_56 fl_Mo_59 sh_147 rfl ?_
      refine V_aload_n d_Mo_findSpans_59 rfl ?_
      refine U_geta d_Mo_findSpans_60 fl_Mo_47 sh_147 rfl ?_
      refine V_iload_n d_Mo_findSpans_63 rfl ?_
      refine U_iald d_Mo_findSpans_64 sh_157 h7 ?_
      refine V_aload_n d_Mo_findSpans_65 rfl ?_
      refine U_geta d_Mo_findSpans_66 fl_Mo_53 sh_147 rfl ?_
      refine V_iload_n d_Mo_findSpans_69 rfl ?_
      refine U_iald d_Mo_findSpans_70 sh_159 h7 ?_
      obtain ⟨h11, h⟩ := h
      refine U_iast d_Mo_findSpans_71 sh_161 h11 ?_
      have h := h _ rfl
      refine V_aload_n d_Mo_findSpans_72 rfl ?_
      refine U_geta d_Mo_findSpans_73 fl_Mo_62 sh_147 rfl ?_
      refine V_aload_n d_Mo_findSpans_76 rfl ?_
      refine U_geta d_Mo_findSpans_77 fl_Mo_47 sh_147 rfl ?_
      refine V_iload_n d_Mo_findSpans_80 rfl ?_
      refine U_iald d_Mo_findSpans_81 sh_157 h7 ?_
      refine V_aload_n d_Mo_findSpans_82 rfl ?_
      refine U_geta d_Mo_findSpans_83 fl_Mo_56 sh_147 rfl ?_
      refine V_iload_n d_Mo_findSpans_86 rfl ?_
      refine U_iald d_Mo_findSpans_87 sh_160 h7 ?_
      obtain ⟨h12, h⟩ := h
      refine U_iast d_Mo_findSpans_88 sh_162 h12 ?_
      have h := h _ rfl
      exact h
theorem s_Mo_findSpans_89 {x : am_Sc} {Po : Option am_AV → am_Sh → am_St → Prop} {σ : am_St} {v1 v2 : Int}
    (h : am_U x m_Mo_findSpans Po σ 25 [some (Zr 147), some (Zi v1), some (Zi (v2 + 1))] []) : am_U x m_Mo_findSpans Po σ 89 [some (Zr 147), some (Zi v1), some (Zi v2)] [] := by
  refine V_iinc d_Mo_findSpans_89 rfl rfl ?_
  refine V_goto 25 d_Mo_findSpans_92 ?_
  exact h
theorem s_Mo_findShakeTimes_0 {x : am_Sc} {Po : Option am_AV → am_Sh → am_St → Prop} {σ : am_St}
    (h : am_U x m_Mo_findShakeTimes Po σ 2 [some (Zr 147), some (Zi 0), none] []) : am_U x m_Mo_findShakeTimes Po σ 0 [some (Zr 147), none, none] [] := by
  refine V_iconst d_Mo_findShakeTimes_0 ?_
  refine V_istore_n d_Mo_findShakeTimes_1 rfl ?_
  exact h
theorem s_Mo_findShakeTimes_2 {x : am_Sc} {Po : Option am_AV → am_Sh → am_St → Prop} {σ : am_St} {v1 : Int}
    (h : am_r v1 ∧ am_r (2 * (σ.1 147 8)) ∧ (((2 * (σ.1 147 8)) ≤ v1 → Po none am_SH σ) ∧ (¬ (2 * (σ.1 147 8)) ≤ v1 → (0 ≤ am_div v1 2 ∧ am_div v1 2 < 5) ∧ am_U x m_Mo_findTimes (fun ro1 so1 σ1 => ro1 = none ∧ so1 = am_SH ∧ am_U x m_Mo_findShakeTimes Po σ1 29 [some (Zr 147), some (Zi v1), some (Zi 0)] []) σ 0 [some (Zr 147), some (Zi (σ.1 152 (am_div v1 2).toNat)), some (Zi (am_rem v1 2)), none, none, none, none, none, none, none] []))) : am_U x m_Mo_findShakeTimes Po σ 2 [some (Zr 147), some (Zi v1), none] [] := by
  refine V_iload_n d_Mo_findShakeTimes_2 rfl ?_
  refine V_iconst d_Mo_findShakeTimes_3 ?_
  refine V_aload_n d_Mo_findShakeTimes_4 rfl ?_
  refine U_geti d_Mo_findShakeTimes_5 fl_Mo_129 sh_147 ?_
  refine V_imul d_Mo_findShakeTimes_8 ?_
  obtain ⟨h1, h⟩ := h
  obtain ⟨h2, h⟩ := h
  obtain ⟨ht, hf⟩ := h
  refine V_icmp_ge 64 d_Mo_findShakeTimes_9 h1 h2 (fun h4 => ?_) (fun h4 => ?_)
  · have h := ht h4
    exact V_ret d_Mo_findShakeTimes_64 rfl rfl h
  · have h := hf h4
    refine V_aload_n d_Mo_findShakeTimes_12 rfl ?_
    refine V_aload_n d_Mo_findShakeTimes_13 rfl ?_
    refine U_geta d_Mo_findShakeTimes_14 fl_Mo_32 sh_147 rfl ?_
    refine V_iload_n d_Mo_findShakeTimes_17 rfl ?_
    refine V_iconst d_Mo_findShakeTimes_18 ?_
    refine V_idiv d_Mo_findShakeTimes_19 (by decide) (by decide) ?_
    obtain ⟨h3, h⟩ := h
    refine U_iald d_Mo_findShakeTimes_20 sh_152 h3 ?_
    refine V_iload_n d_Mo_findShakeTimes_21 rfl ?_
    refine V_iconst d_Mo_findShakeTimes_22 ?_
    refine V_irem d_Mo_findShakeTimes_23 (by decide) (by decide) ?_
    refine U_iv2 cv_Mo_findShakeTimes_157 d_Mo_findShakeTimes_24 sh_147 rfl rfl (am_mono h ?_)
    rintro ro1 so1 σ1 ⟨rfl, rfl, h⟩
    refine V_iconst d_Mo_findShakeTimes_27 ?_
    refine V_istore_n d_Mo_findShakeTimes_28 rfl ?_
    exact h
theorem s_Mo_findShakeTimes_29 {x : am_Sc} {Po : Option am_AV → am_Sh → am_St → Prop} {σ : am_St} {v1 v2 : Int}
    (h : am_r v2 ∧ ((16 ≤ v2 → am_U x m_Mo_findShakeTimes Po σ 2 [some (Zr 147), some (Zi (v1 + 1)), none] []) ∧ (¬ 16 ≤ v2 → (0 ≤ v2 ∧ v2 < 16) ∧ (0 ≤ (16 * v1) + v2 ∧ (16 * v1) + v2 < 160) ∧ (∀ σ2 : am_St, σ2 = (am_up σ.1 165 ((16 * v1) + v2).toNat (σ.1 164 v2.toNat), σ.2) → am_U x m_Mo_findShakeTimes Po σ2 29 [some (Zr 147), some (Zi v1), some (Zi (v2 + 1))] [])))) : am_U x m_Mo_findShakeTimes Po σ 29 [some (Zr 147), some (Zi v1), some (Zi v2)] [] := by
  refine V_iload_n d_Mo_findShakeTimes_29 rfl ?_
  refine V_bipush d_Mo_findShakeTimes_30 ?_
  obtain ⟨h5, h⟩ := h
  obtain ⟨ht, hf⟩ := h
  refine V_icmp_ge 58 d_Mo_findShakeTimes_32 h5 (by decide) (fun h8 => ?_) (fun h8 => ?_)
  · have h := ht h8
    refine V_iinc d_Mo_findShakeTimes_58 rfl rfl ?_
    refine V_goto 2 d_Mo_findShakeTimes_61 ?_
    refine V_drop 2 ?_
    exact h
  · have h := hf h8
    refine V_aload_n d_Mo_findShakeTimes_35 rfl ?_
    refine U_geta d_Mo_findShakeTimes_36 fl_Mo_72 sh_147 rfl ?_
    refine V_bipush d_Mo_findShakeTimes_39 ?_
    refine V_iload_n d_Mo_findShakeTimes_41 rfl ?_
    refine V_imul d_Mo_findShakeTimes_42 ?_
    refine V_iload_n d_Mo_findShakeTimes_43 rfl ?_
    refine V_iadd d_Mo_findShakeTimes_44 ?_
    refine V_aload_n d_Mo_findShakeTimes_45 rfl ?_
    refine U_geta d_Mo_findShakeTimes_46 fl_Mo_69 sh_147 rfl ?_
    refine V_iload_n d_Mo_findShakeTimes_49 rfl ?_
    obtain ⟨h6, h⟩ := h
    refine U_iald d_Mo_findShakeTimes_50 sh_164 h6 ?_
    obtain ⟨h7, h⟩ := h
    refine U_iast d_Mo_findShakeTimes_51 sh_165 h7 ?_
    have h := h _ rfl
    refine V_iinc d_Mo_findShakeTimes_52 rfl rfl ?_
    refine V_goto 29 d_Mo_findShakeTimes_55 ?_
    exact h
theorem s_Mo_foretold_0 {x : am_Sc} {Po : Option am_AV → am_Sh → am_St → Prop} {σ : am_St} {v1 : Int}
    (h : (0 ≤ v1 ∧ v1 < 12) ∧ (0 ≤ σ.1 155 v1.toNat ∧ σ.1 155 v1.toNat < 5) ∧ (0 ≤ σ.1 154 v1.toNat ∧ σ.1 154 v1.toNat < 6) ∧ (0 ≤ (16 * ((2 * (σ.1 155 v1.toNat)) + (σ.1 156 v1.toNat))) + (σ.1 150 (σ.1 154 v1.toNat).toNat) ∧ (16 * ((2 * (σ.1 155 v1.toNat)) + (σ.1 156 v1.toNat))) + (σ.1 150 (σ.1 154 v1.toNat).toNat) < 160) ∧ Po (some (Zi (((σ.1 153 (σ.1 155 v1.toNat).toNat) + (σ.1 165 ((16 * ((2 * (σ.1 155 v1.toNat)) + (σ.1 156 v1.toNat))) + (σ.1 150 (σ.1 154 v1.toNat).toNat)).toNat)) + (σ.1 151 (σ.1 154 v1.toNat).toNat)))) am_SH σ) : am_U x m_Mo_foretold Po σ 0 [some (Zr 147), some (Zi v1), none] [] := by
  refine V_aload_n d_Mo_foretold_0 rfl ?_
  refine U_geta d_Mo_foretold_1 fl_Mo_41 sh_147 rfl ?_
  refine V_iload_n d_Mo_foretold_4 rfl ?_
  obtain ⟨h1, h⟩ := h
  refine U_iald d_Mo_foretold_5 sh_155 h1 ?_
  refine V_istore_n d_Mo_foretold_6 rfl ?_
  refine V_aload_n d_Mo_foretold_7 rfl ?_
  refine U_geta d_Mo_foretold_8 fl_Mo_35 sh_147 rfl ?_
  refine V_iload_n d_Mo_foretold_11 rfl ?_
  obtain ⟨h2, h⟩ := h
  refine U_iald d_Mo_foretold_12 sh_153 h2 ?_
  refine V_aload_n d_Mo_foretold_13 rfl ?_
  refine U_geta d_Mo_foretold_14 fl_Mo_72 sh_147 rfl ?_
  refine V_bipush d_Mo_foretold_17 ?_
  refine V_iconst d_Mo_foretold_19 ?_
  refine V_iload_n d_Mo_foretold_20 rfl ?_
  refine V_imul d_Mo_foretold_21 ?_
  refine V_aload_n d_Mo_foretold_22 rfl ?_
  refine U_geta d_Mo_foretold_23 fl_Mo_44 sh_147 rfl ?_
  refine V_iload_n d_Mo_foretold_26 rfl ?_
  refine U_iald d_Mo_foretold_27 sh_156 h1 ?_
  refine V_iadd d_Mo_foretold_28 ?_
  refine V_imul d_Mo_foretold_29 ?_
  refine V_aload_n d_Mo_foretold_30 rfl ?_
  refine U_geta d_Mo_foretold_31 fl_Mo_26 sh_147 rfl ?_
  refine V_aload_n d_Mo_foretold_34 rfl ?_
  refine U_geta d_Mo_foretold_35 fl_Mo_38 sh_147 rfl ?_
  refine V_iload_n d_Mo_foretold_38 rfl ?_
  refine U_iald d_Mo_foretold_39 sh_154 h1 ?_
  obtain ⟨h3, h⟩ := h
  refine U_iald d_Mo_foretold_40 sh_150 h3 ?_
  refine V_iadd d_Mo_foretold_41 ?_
  obtain ⟨h4, h⟩ := h
  refine U_iald d_Mo_foretold_42 sh_165 h4 ?_
  refine V_iadd d_Mo_foretold_43 ?_
  refine V_aload_n d_Mo_foretold_44 rfl ?_
  refine U_geta d_Mo_foretold_45 fl_Mo_29 sh_147 rfl ?_
  refine V_aload_n d_Mo_foretold_48 rfl ?_
  refine U_geta d_Mo_foretold_49 fl_Mo_38 sh_147 rfl ?_
  refine V_iload_n d_Mo_foretold_52 rfl ?_
  refine U_iald d_Mo_foretold_53 sh_154 h1 ?_
  refine U_iald d_Mo_foretold_54 sh_151 h3 ?_
  refine V_iadd d_Mo_foretold_55 ?_
  exact V_iret d_Mo_foretold_56 rfl rfl h
theorem s_Mo_offOf_0 {x : am_Sc} {Po : Option am_AV → am_Sh → am_St → Prop} {σ : am_St} {v1 v2 : Int}
    (h : (0 ≤ v1 ∧ v1 < 12) ∧ am_r v2 ∧ am_r (σ.1 161 v1.toNat) ∧ (((σ.1 161 v1.toNat) ≤ v2 → am_r (σ.1 162 v1.toNat) ∧ ((v2 ≤ (σ.1 162 v1.toNat) → am_U x m_Mo_offOf Po σ 43 [none, none, none] [Zi 0]) ∧ (¬ v2 ≤ (σ.1 162 v1.toNat) → am_U x m_Mo_offOf Po σ 43 [none, none, none] [Zi (v2 - (σ.1 162 v1.toNat))]))) ∧ (¬ (σ.1 161 v1.toNat) ≤ v2 → am_U x m_Mo_offOf Po σ 43 [none, none, none] [Zi ((σ.1 161 v1.toNat) - v2)]))) : am_U x m_Mo_offOf Po σ 0 [some (Zr 147), some (Zi v1), some (Zi v2)] [] := by
  refine V_iload_n d_Mo_offOf_0 rfl ?_
  refine V_aload_n d_Mo_offOf_1 rfl ?_
  refine U_geta d_Mo_offOf_2 fl_Mo_59 sh_147 rfl ?_
  refine V_iload_n d_Mo_offOf_5 rfl ?_
  obtain ⟨h1, h⟩ := h
  refine U_iald d_Mo_offOf_6 sh_161 h1 ?_
  obtain ⟨h2, h⟩ := h
  obtain ⟨h3, h⟩ := h
  obtain ⟨ht, hf⟩ := h
  refine V_icmp_ge 21 d_Mo_offOf_7 h2 h3 (fun h6 => ?_) (fun h6 => ?_)
  · have h := ht h6
    refine V_iload_n d_Mo_offOf_21 rfl ?_
    refine V_aload_n d_Mo_offOf_22 rfl ?_
    refine U_geta d_Mo_offOf_23 fl_Mo_62 sh_147 rfl ?_
    refine V_iload_n d_Mo_offOf_26 rfl ?_
    refine U_iald d_Mo_offOf_27 sh_162 h1 ?_
    obtain ⟨h4, h⟩ := h
    obtain ⟨ht, hf⟩ := h
    refine V_icmp_le 42 d_Mo_offOf_28 h2 h4 (fun h5 => ?_) (fun h5 => ?_)
    · have h := ht h5
      refine V_iconst d_Mo_offOf_42 ?_
      refine V_drop 0 ?_
      refine V_drop 1 ?_
      refine V_drop 2 ?_
      exact h
    · have h := hf h5
      refine V_iload_n d_Mo_offOf_31 rfl ?_
      refine V_aload_n d_Mo_offOf_32 rfl ?_
      refine U_geta d_Mo_offOf_33 fl_Mo_62 sh_147 rfl ?_
      refine V_iload_n d_Mo_offOf_36 rfl ?_
      refine U_iald d_Mo_offOf_37 sh_162 h1 ?_
      refine V_isub d_Mo_offOf_38 ?_
      refine V_goto 43 d_Mo_offOf_39 ?_
      refine V_drop 0 ?_
      refine V_drop 1 ?_
      refine V_drop 2 ?_
      exact h
  · have h := hf h6
    refine V_aload_n d_Mo_offOf_10 rfl ?_
    refine U_geta d_Mo_offOf_11 fl_Mo_59 sh_147 rfl ?_
    refine V_iload_n d_Mo_offOf_14 rfl ?_
    refine U_iald d_Mo_offOf_15 sh_161 h1 ?_
    refine V_iload_n d_Mo_offOf_16 rfl ?_
    refine V_isub d_Mo_offOf_17 ?_
    refine V_goto 43 d_Mo_offOf_18 ?_
    refine V_drop 0 ?_
    refine V_drop 1 ?_
    refine V_drop 2 ?_
    exact h
theorem s_Mo_offOf_43 {x : am_Sc} {Po : Option am_AV → am_Sh → am_St → Prop} {σ : am_St} {vk0 : Int}
    (h : Po (some (Zi vk0)) am_SH σ) : am_U x m_Mo_offOf Po σ 43 [none, none, none] [Zi vk0] := by
  exact V_iret d_Mo_offOf_43 rfl rfl h
theorem s_Mo_misfit_0 {x : am_Sc} {Po : Option am_AV → am_Sh → am_St → Prop} {σ : am_St} {v1 v2 : Int}
    (h : am_U x m_Mo_in (fun ro1 so1 σ1 => ∃ z1 : Int, ro1 = some (Zi z1) ∧ so1 = am_SH ∧ am_r z1 ∧ ((z1 = 0 → am_U x m_Mo_misfit Po σ1 21 [none, none, none, none, none, none] []) ∧ (¬ z1 = 0 → am_U x m_Mo_in (fun ro2 so2 σ2 => ∃ z2 : Int, ro2 = some (Zi z2) ∧ so2 = am_SH ∧ am_r z2 ∧ ((¬ z2 = 0 → am_U x m_Mo_findSpans (fun ro3 so3 σ3 => ro3 = none ∧ so3 = am_SH ∧ am_U x m_Mo_misfitNow (fun ro4 so4 σ4 => ∃ z4 : Int, ro4 = some (Zi z4) ∧ so4 = am_SH ∧ am_U x m_Mo_misfit Po σ4 40 [some (Zr 147), none, some (Zi v2), some (Zi z4), some (Zi 0), some (Zi 0)] []) σ3 0 [some (Zr 147), none, none] []) σ2 0 [some (Zr 147), some (Zi v1), none] []) ∧ (z2 = 0 → am_U x m_Mo_misfit Po σ2 21 [none, none, none, none, none, none] []))) σ1 0 [some (Zi v2), some (Zi 0), some (Zi 1)] []))) σ 0 [some (Zi v1), some (Zi 0), some (Zi (σ.1 147 20))] []) : am_U x m_Mo_misfit Po σ 0 [some (Zr 147), some (Zi v1), some (Zi v2), none, none, none] [] := by
  refine V_iload_n d_Mo_misfit_0 rfl ?_
  refine V_iconst d_Mo_misfit_1 ?_
  refine V_aload_n d_Mo_misfit_2 rfl ?_
  refine U_geti d_Mo_misfit_3 fl_Mo_174 sh_147 ?_
  refine U_is3 cv_Mo_misfit_122 d_Mo_misfit_6  rfl (am_mono h ?_)
  rintro ro1 so1 σ1 ⟨z1, rfl, rfl, h⟩
  obtain ⟨h1, h⟩ := h
  obtain ⟨ht, hf⟩ := h
  refine V_if_eq 21 d_Mo_misfit_9 h1 (fun h4 => ?_) (fun h4 => ?_)
  · have h := ht h4
    refine V_drop 0 ?_
    refine V_drop 1 ?_
    refine V_drop 2 ?_
    exact h
  · have h := hf h4
    refine V_iload_n d_Mo_misfit_12 rfl ?_
    refine V_iconst d_Mo_misfit_13 ?_
    refine V_iconst d_Mo_misfit_14 ?_
    refine U_is3 cv_Mo_misfit_122 d_Mo_misfit_15  rfl (am_mono h ?_)
    rintro ro2 so2 σ2 ⟨z2, rfl, rfl, h⟩
    obtain ⟨h2, h⟩ := h
    obtain ⟨ht, hf⟩ := h
    refine V_if_ne 24 d_Mo_misfit_18 h2 (fun h3 => ?_) (fun h3 => ?_)
    · have h := ht h3
      refine V_aload_n d_Mo_misfit_24 rfl ?_
      refine V_iload_n d_Mo_misfit_25 rfl ?_
      refine U_iv1 cv_Mo_misfit_196 d_Mo_misfit_26 sh_147 rfl rfl (am_mono h ?_)
      rintro ro3 so3 σ3 ⟨rfl, rfl, h⟩
      refine V_aload_n d_Mo_misfit_29 rfl ?_
      refine U_iv0 cv_Mo_misfit_200 d_Mo_misfit_30 sh_147 rfl rfl (am_mono h ?_)
      rintro ro4 so4 σ4 ⟨z4, rfl, rfl, h⟩
      refine V_istore_n d_Mo_misfit_33 rfl ?_
      refine V_iconst d_Mo_misfit_34 ?_
      refine V_istore d_Mo_misfit_35 rfl ?_
      refine V_iconst d_Mo_misfit_37 ?_
      refine V_istore d_Mo_misfit_38 rfl ?_
      refine V_drop 1 ?_
      exact h
    · have h := hf h3
      refine V_drop 0 ?_
      refine V_drop 1 ?_
      refine V_drop 2 ?_
      exact h
theorem s_Mo_misfit_21 {x : am_Sc} {Po : Option am_AV → am_Sh → am_St → Prop} {σ : am_St}
    (h : Po (some (Zi (-3))) am_SH σ) : am_U x m_Mo_misfit Po σ 21 [none, none, none, none, none, none] [] := by
  refine V_bipush d_Mo_misfit_21 ?_
  exact V_iret d_Mo_misfit_23 rfl rfl h
theorem s_Mo_misfit_40 {x : am_Sc} {Po : Option am_AV → am_Sh → am_St → Prop} {σ : am_St} {v2 v3 v4 v5 : Int}
    (h : am_r v5 ∧ am_r (σ.1 147 11) ∧ (((σ.1 147 11) ≤ v5 → am_r v2 ∧ ((¬ v2 = 0 → am_U x m_Mo_misfit Po σ 100 [none, none, none, none, none, none] [Zi v4]) ∧ (v2 = 0 → am_U x m_Mo_misfit Po σ 100 [none, none, none, none, none, none] [Zi v3]))) ∧ (¬ (σ.1 147 11) ≤ v5 → (0 ≤ v5 ∧ v5 < 12) ∧ am_r (σ.1 163 v5.toNat) ∧ (((σ.1 163 v5.toNat) = 0 → am_U x m_Mo_misfit Po σ 80 [some (Zr 147), none, some (Zi v2), some (Zi v3), none, some (Zi v5)] [Zi v4]) ∧ (¬ (σ.1 163 v5.toNat) = 0 → am_U x m_Mo_foretold (fun ro5 so5 σ5 => ∃ z5 : Int, ro5 = some (Zi z5) ∧ so5 = am_SH ∧ am_U x m_Mo_offOf (fun ro6 so6 σ6 => ∃ z6 : Int, ro6 = some (Zi z6) ∧ so6 = am_SH ∧ am_r z6 ∧ ((¬ z6 = 0 → am_U x m_Mo_misfit Po σ6 80 [some (Zr 147), none, some (Zi v2), some (Zi v3), none, some (Zi v5)] [Zi v4]) ∧ (z6 = 0 → am_U x m_Mo_misfit Po σ6 81 [some (Zr 147), none, some (Zi v2), some (Zi v3), none, some (Zi v5)] [Zi 1, Zi v4]))) σ5 0 [some (Zr 147), some (Zi v5), some (Zi z5)] []) σ 0 [some (Zr 147), some (Zi v5), none] []))))) : am_U x m_Mo_misfit Po σ 40 [some (Zr 147), none, some (Zi v2), some (Zi v3), some (Zi v4), some (Zi v5)] [] := by
  refine V_iload d_Mo_misfit_40 rfl ?_
  refine V_aload_n d_Mo_misfit_42 rfl ?_
  refine U_geti d_Mo_misfit_43 fl_Mo_132 sh_147 ?_
  obtain ⟨h5, h⟩ := h
  obtain ⟨h6, h⟩ := h
  obtain ⟨ht, hf⟩ := h
  refine V_icmp_ge 90 d_Mo_misfit_46 h5 h6 (fun h14 => ?_) (fun h14 => ?_)
  · have h := ht h14
    refine V_iload_n d_Mo_misfit_90 rfl ?_
    obtain ⟨h7, h⟩ := h
    obtain ⟨ht, hf⟩ := h
    refine V_if_ne 98 d_Mo_misfit_91 h7 (fun h8 => ?_) (fun h8 => ?_)
    · have h := ht h8
      refine V_iload d_Mo_misfit_98 rfl ?_
      refine V_drop 0 ?_
      refine V_drop 2 ?_
      refine V_drop 3 ?_
      refine V_drop 4 ?_
      refine V_drop 5 ?_
      exact h
    · have h := hf h8
      refine V_iload_n d_Mo_misfit_94 rfl ?_
      refine V_goto 100 d_Mo_misfit_95 ?_
      refine V_drop 0 ?_
      refine V_drop 2 ?_
      refine V_drop 3 ?_
      refine V_drop 4 ?_
      refine V_drop 5 ?_
      exact h
  · have h := hf h14
    refine V_iload d_Mo_misfit_49 rfl ?_
    refine V_aload_n d_Mo_misfit_51 rfl ?_
    refine U_geta d_Mo_misfit_52 fl_Mo_65 sh_147 rfl ?_
    refine V_iload d_Mo_misfit_55 rfl ?_
    obtain ⟨h9, h⟩ := h
    refine U_zald d_Mo_misfit_57 sh_163 h9 ?_
    obtain ⟨h10, h⟩ := h
    obtain ⟨ht, hf⟩ := h
    refine V_if_eq 80 d_Mo_misfit_58 h10 (fun h13 => ?_) (fun h13 => ?_)
    · have h := ht h13
      refine V_drop 4 ?_
      exact h
    · have h := hf h13
      refine V_aload_n d_Mo_misfit_61 rfl ?_
      refine V_iload d_Mo_misfit_62 rfl ?_
      refine V_aload_n d_Mo_misfit_64 rfl ?_
      refine V_iload d_Mo_misfit_65 rfl ?_
      refine U_iv1 cv_Mo_misfit_190 d_Mo_misfit_67 sh_147 rfl rfl (am_mono h ?_)
      rintro ro5 so5 σ5 ⟨z5, rfl, rfl, h⟩
      refine U_iv2 cv_Mo_misfit_193 d_Mo_misfit_70 sh_147 rfl rfl (am_mono h ?_)
      rintro ro6 so6 σ6 ⟨z6, rfl, rfl, h⟩
      obtain ⟨h11, h⟩ := h
      obtain ⟨ht, hf⟩ := h
      refine V_if_ne 80 d_Mo_misfit_73 h11 (fun h12 => ?_) (fun h12 => ?_)
      · have h := ht h12
        refine V_drop 4 ?_
        exact h
      · have h := hf h12
        refine V_iconst d_Mo_misfit_76 ?_
        refine V_goto 81 d_Mo_misfit_77 ?_
        refine V_drop 4 ?_
        exact h
theorem s_Mo_misfit_100 {x : am_Sc} {Po : Option am_AV → am_Sh → am_St → Prop} {σ : am_St} {vk0 : Int}
    (h : Po (some (Zi vk0)) am_SH σ) : am_U x m_Mo_misfit Po σ 100 [none, none, none, none, none, none] [Zi vk0] := by
  exact V_iret d_Mo_misfit_100 rfl rfl h
theorem s_Mo_misfit_80 {x : am_Sc} {Po : Option am_AV → am_Sh → am_St → Prop} {σ : am_St} {v2 v3 v5 vk0 : Int}
    (h : am_U x m_Mo_misfit Po σ 81 [some (Zr 147), none, some (Zi v2), some (Zi v3), none, some (Zi v5)] [Zi 0, Zi vk0]) : am_U x m_Mo_misfit Po σ 80 [some (Zr 147), none, some (Zi v2), some (Zi v3), none, some (Zi v5)] [Zi vk0] := by
  refine V_iconst d_Mo_misfit_80 ?_
  exact h
theorem s_Mo_misfit_81 {x : am_Sc} {Po : Option am_AV → am_Sh → am_St → Prop} {σ : am_St} {v2 v3 v5 vk0 vk1 : Int}
    (h : am_U x m_Mo_misfit Po σ 40 [some (Zr 147), none, some (Zi v2), some (Zi v3), some (Zi (vk0 + vk1)), some (Zi (v5 + 1))] []) : am_U x m_Mo_misfit Po σ 81 [some (Zr 147), none, some (Zi v2), some (Zi v3), none, some (Zi v5)] [Zi vk1, Zi vk0] := by
  refine V_iadd d_Mo_misfit_81 ?_
  refine V_istore d_Mo_misfit_82 rfl ?_
  refine V_iinc d_Mo_misfit_84 rfl rfl ?_
  refine V_goto 40 d_Mo_misfit_87 ?_
  exact h
theorem s_Mo_misfitNow_0 {x : am_Sc} {Po : Option am_AV → am_Sh → am_St → Prop} {σ : am_St}
    (h : am_U x m_Mo_findShakeTimes (fun ro1 so1 σ1 => ro1 = none ∧ so1 = am_SH ∧ am_U x m_Mo_misfitNow Po σ1 8 [some (Zr 147), some (Zi 0), some (Zi 0)] []) σ 0 [some (Zr 147), none, none] []) : am_U x m_Mo_misfitNow Po σ 0 [some (Zr 147), none, none] [] := by
  refine V_aload_n d_Mo_misfitNow_0 rfl ?_
  refine U_iv0 cv_Mo_misfitNow_187 d_Mo_misfitNow_1 sh_147 rfl rfl (am_mono h ?_)
  rintro ro1 so1 σ1 ⟨rfl, rfl, h⟩
  refine V_iconst d_Mo_misfitNow_4 ?_
  refine V_istore_n d_Mo_misfitNow_5 rfl ?_
  refine V_iconst d_Mo_misfitNow_6 ?_
  refine V_istore_n d_Mo_misfitNow_7 rfl ?_
  exact h
theorem s_Mo_misfitNow_8 {x : am_Sc} {Po : Option am_AV → am_Sh → am_St → Prop} {σ : am_St} {v1 v2 : Int}
    (h : am_r v2 ∧ am_r (σ.1 147 11) ∧ (((σ.1 147 11) ≤ v2 → Po (some (Zi v1)) am_SH σ) ∧ (¬ (σ.1 147 11) ≤ v2 → (0 ≤ v2 ∧ v2 < 12) ∧ am_r (σ.1 163 v2.toNat) ∧ (((σ.1 163 v2.toNat) = 0 → am_U x m_Mo_misfitNow Po σ 40 [some (Zr 147), none, some (Zi v2)] [Zi 0, Zi v1]) ∧ (¬ (σ.1 163 v2.toNat) = 0 → am_U x m_Mo_foretold (fun ro2 so2 σ2 => ∃ z2 : Int, ro2 = some (Zi z2) ∧ so2 = am_SH ∧ am_U x m_Mo_offOf (fun ro3 so3 σ3 => ∃ z3 : Int, ro3 = some (Zi z3) ∧ so3 = am_SH ∧ am_U x m_Mo_misfitNow Po σ3 40 [some (Zr 147), none, some (Zi v2)] [Zi z3, Zi v1]) σ2 0 [some (Zr 147), some (Zi v2), some (Zi z2)] []) σ 0 [some (Zr 147), some (Zi v2), none] []))))) : am_U x m_Mo_misfitNow Po σ 8 [some (Zr 147), some (Zi v1), some (Zi v2)] [] := by
  refine V_iload_n d_Mo_misfitNow_8 rfl ?_
  refine V_aload_n d_Mo_misfitNow_9 rfl ?_
  refine U_geti d_Mo_misfitNow_10 fl_Mo_132 sh_147 ?_
  obtain ⟨h1, h⟩ := h
  obtain ⟨h2, h⟩ := h
  obtain ⟨ht, hf⟩ := h
  refine V_icmp_ge 48 d_Mo_misfitNow_13 h1 h2 (fun h6 => ?_) (fun h6 => ?_)
  · have h := ht h6
    refine V_iload_n d_Mo_misfitNow_48 rfl ?_
    exact V_iret d_Mo_misfitNow_49 rfl rfl h
  · have h := hf h6
    refine V_iload_n d_Mo_misfitNow_16 rfl ?_
    refine V_aload_n d_Mo_misfitNow_17 rfl ?_
    refine U_geta d_Mo_misfitNow_18 fl_Mo_65 sh_147 rfl ?_
    refine V_iload_n d_Mo_misfitNow_21 rfl ?_
    obtain ⟨h3, h⟩ := h
    refine U_zald d_Mo_misfitNow_22 sh_163 h3 ?_
    obtain ⟨h4, h⟩ := h
    obtain ⟨ht, hf⟩ := h
    refine V_if_eq 39 d_Mo_misfitNow_23 h4 (fun h5 => ?_) (fun h5 => ?_)
    · have h := ht h5
      refine V_iconst d_Mo_misfitNow_39 ?_
      refine V_drop 1 ?_
      exact h
    · have h := hf h5
      refine V_aload_n d_Mo_misfitNow_26 rfl ?_
      refine V_iload_n d_Mo_misfitNow_27 rfl ?_
      refine V_aload_n d_Mo_misfitNow_28 rfl ?_
      refine V_iload_n d_Mo_misfitNow_29 rfl ?_
      refine U_iv1 cv_Mo_misfitNow_190 d_Mo_misfitNow_30 sh_147 rfl rfl (am_mono h ?_)
      rintro ro2 so2 σ2 ⟨z2, rfl, rfl, h⟩
      refine U_iv2 cv_Mo_misfitNow_193 d_Mo_misfitNow_33 sh_147 rfl rfl (am_mono h ?_)
      rintro ro3 so3 σ3 ⟨z3, rfl, rfl, h⟩
      refine V_goto 40 d_Mo_misfitNow_36 ?_
      refine V_drop 1 ?_
      exact h
theorem s_Mo_misfitNow_40 {x : am_Sc} {Po : Option am_AV → am_Sh → am_St → Prop} {σ : am_St} {v2 vk0 vk1 : Int}
    (h : am_U x m_Mo_misfitNow Po σ 8 [some (Zr 147), some (Zi (vk0 + vk1)), some (Zi (v2 + 1))] []) : am_U x m_Mo_misfitNow Po σ 40 [some (Zr 147), none, some (Zi v2)] [Zi vk1, Zi vk0] := by
  refine V_iadd d_Mo_misfitNow_40 ?_
  refine V_istore_n d_Mo_misfitNow_41 rfl ?_
  refine V_iinc d_Mo_misfitNow_42 rfl rfl ?_
  refine V_goto 8 d_Mo_misfitNow_45 ?_
  exact h
theorem s_Mo_fit_0 {x : am_Sc} {Po : Option am_AV → am_Sh → am_St → Prop} {σ : am_St} {v1 : Int}
    (h : am_U x m_Mo_in (fun ro1 so1 σ1 => ∃ z1 : Int, ro1 = some (Zi z1) ∧ so1 = am_SH ∧ am_r z1 ∧ ((¬ z1 = 0 → am_U x m_Mo_findSpans (fun ro2 so2 σ2 => ro2 = none ∧ so2 = am_SH ∧ am_U x m_Mo_fitAll (fun ro3 so3 σ3 => ro3 = none ∧ so3 = am_SH ∧ am_U x m_Mo_misfitNow (fun ro4 so4 σ4 => ∃ z4 : Int, ro4 = some (Zi z4) ∧ so4 = am_SH ∧ Po (some (Zi z4)) am_SH σ4) σ3 0 [some (Zr 147), none, none] []) σ2 0 [some (Zr 147), some (Zi v1), none, none, none] []) σ1 0 [some (Zr 147), some (Zi (σ1.1 147 20)), none] []) ∧ (z1 = 0 → Po (some (Zi (-3))) am_SH σ1))) σ 0 [some (Zi v1), some (Zi 1), some (Zi 10)] []) : am_U x m_Mo_fit Po σ 0 [some (Zr 147), some (Zi v1)] [] := by
  refine V_iload_n d_Mo_fit_0 rfl ?_
  refine V_iconst d_Mo_fit_1 ?_
  refine V_bipush d_Mo_fit_2 ?_
  refine U_is3 cv_Mo_fit_122 d_Mo_fit_4  rfl (am_mono h ?_)
  rintro ro1 so1 σ1 ⟨z1, rfl, rfl, h⟩
  obtain ⟨h1, h⟩ := h
  obtain ⟨ht, hf⟩ := h
  refine V_if_ne 13 d_Mo_fit_7 h1 (fun h2 => ?_) (fun h2 => ?_)
  · have h := ht h2
    refine V_aload_n d_Mo_fit_13 rfl ?_
    refine V_aload_n d_Mo_fit_14 rfl ?_
    refine U_geti d_Mo_fit_15 fl_Mo_174 sh_147 ?_
    refine U_iv1 cv_Mo_fit_196 d_Mo_fit_18 sh_147 rfl rfl (am_mono h ?_)
    rintro ro2 so2 σ2 ⟨rfl, rfl, h⟩
    refine V_aload_n d_Mo_fit_21 rfl ?_
    refine V_iload_n d_Mo_fit_22 rfl ?_
    refine U_iv1 cv_Mo_fit_206 d_Mo_fit_23 sh_147 rfl rfl (am_mono h ?_)
    rintro ro3 so3 σ3 ⟨rfl, rfl, h⟩
    refine V_aload_n d_Mo_fit_26 rfl ?_
    refine U_iv0 cv_Mo_fit_200 d_Mo_fit_27 sh_147 rfl rfl (am_mono h ?_)
    rintro ro4 so4 σ4 ⟨z4, rfl, rfl, h⟩
    exact V_iret d_Mo_fit_30 rfl rfl h
  · have h := hf h2
    refine V_bipush d_Mo_fit_10 ?_
    exact V_iret d_Mo_fit_12 rfl rfl h
theorem s_Mo_fitAll_0 {x : am_Sc} {Po : Option am_AV → am_Sh → am_St → Prop} {σ : am_St} {v1 : Int}
    (h : am_U x m_Mo_fitAll Po σ 4 [some (Zr 147), some (Zi v1), some (Zi 1), some (Zi 0), none] []) : am_U x m_Mo_fitAll Po σ 0 [some (Zr 147), some (Zi v1), none, none, none] [] := by
  refine V_iconst d_Mo_fitAll_0 ?_
  refine V_istore_n d_Mo_fitAll_1 rfl ?_
  refine V_iconst d_Mo_fitAll_2 ?_
  refine V_istore_n d_Mo_fitAll_3 rfl ?_
  exact h
theorem s_Mo_fitAll_4 {x : am_Sc} {Po : Option am_AV → am_Sh → am_St → Prop} {σ : am_St} {v1 v2 v3 : Int}
    (h : am_r v3 ∧ am_r v1 ∧ ((v1 ≤ v3 → am_U x m_Mo_fitAll Po σ 57 [none, none, none, none, none] []) ∧ (¬ v1 ≤ v3 → am_r v2 ∧ ((v2 = 0 → am_U x m_Mo_fitAll Po σ 57 [none, none, none, none, none] []) ∧ (¬ v2 = 0 → am_U x m_Mo_fitAll Po σ 18 [some (Zr 147), some (Zi v1), some (Zi 0), some (Zi v3), some (Zi 0)] []))))) : am_U x m_Mo_fitAll Po σ 4 [some (Zr 147), some (Zi v1), some (Zi v2), some (Zi v3), none] [] := by
  refine V_iload_n d_Mo_fitAll_4 rfl ?_
  refine V_iload_n d_Mo_fitAll_5 rfl ?_
  obtain ⟨h1, h⟩ := h
  obtain ⟨h2, h⟩ := h
  obtain ⟨ht, hf⟩ := h
  refine V_icmp_ge 57 d_Mo_fitAll_6 h1 h2 (fun h5 => ?_) (fun h5 => ?_)
  · have h := ht h5
    refine V_drop 0 ?_
    refine V_drop 1 ?_
    refine V_drop 2 ?_
    refine V_drop 3 ?_
    exact h
  · have h := hf h5
    refine V_iload_n d_Mo_fitAll_9 rfl ?_
    obtain ⟨h3, h⟩ := h
    obtain ⟨ht, hf⟩ := h
    refine V_if_eq 57 d_Mo_fitAll_10 h3 (fun h4 => ?_) (fun h4 => ?_)
    · have h := ht h4
      refine V_drop 0 ?_
      refine V_drop 1 ?_
      refine V_drop 2 ?_
      refine V_drop 3 ?_
      exact h
    · have h := hf h4
      refine V_iconst d_Mo_fitAll_13 ?_
      refine V_istore_n d_Mo_fitAll_14 rfl ?_
      refine V_iconst d_Mo_fitAll_15 ?_
      refine V_istore d_Mo_fitAll_16 rfl ?_
      exact h
theorem s_Mo_fitAll_57 {x : am_Sc} {Po : Option am_AV → am_Sh → am_St → Prop} {σ : am_St}
    (h : Po none am_SH σ) : am_U x m_Mo_fitAll Po σ 57 [none, none, none, none, none] [] := by
  exact V_ret d_Mo_fitAll_57 rfl rfl h
theorem s_Mo_fitAll_18 {x : am_Sc} {Po : Option am_AV → am_Sh → am_St → Prop} {σ : am_St} {v1 v2 v3 v4 : Int}
    (h : am_r v4 ∧ ((8 ≤ v4 → am_U x m_Mo_fitAll Po σ 4 [some (Zr 147), some (Zi v1), some (Zi v2), some (Zi (v3 + 1)), none] []) ∧ (¬ 8 ≤ v4 → am_U x m_Mo_sizeOf (fun ro1 so1 σ1 => ∃ z1 : Int, ro1 = some (Zi z1) ∧ so1 = am_SH ∧ am_r z1 ∧ ((z1 ≤ 0 → am_U x m_Mo_fitAll Po σ1 45 [some (Zr 147), some (Zi v1), some (Zi v2), some (Zi v3), some (Zi v4)] []) ∧ (¬ z1 ≤ 0 → am_U x m_Mo_fitBlock (fun ro2 so2 σ2 => ∃ z2 : Int, ro2 = some (Zi z2) ∧ so2 = am_SH ∧ am_r z2 ∧ ((z2 = 0 → am_U x m_Mo_fitAll Po σ2 45 [some (Zr 147), some (Zi v1), some (Zi v2), some (Zi v3), some (Zi v4)] []) ∧ (¬ z2 = 0 → am_U x m_Mo_fitAll Po σ2 45 [some (Zr 147), some (Zi v1), some (Zi 1), some (Zi v3), some (Zi v4)] []))) σ1 0 [some (Zr 147), some (Zi v4), none, none, none, none, none] []))) σ 0 [some (Zr 147), some (Zi v4), none, none] []))) : am_U x m_Mo_fitAll Po σ 18 [some (Zr 147), some (Zi v1), some (Zi v2), some (Zi v3), some (Zi v4)] [] := by
  refine V_iload d_Mo_fitAll_18 rfl ?_
  refine V_bipush d_Mo_fitAll_20 ?_
  obtain ⟨h6, h⟩ := h
  obtain ⟨ht, hf⟩ := h
  refine V_icmp_ge 51 d_Mo_fitAll_22 h6 (by decide) (fun h11 => ?_) (fun h11 => ?_)
  · have h := ht h11
    refine V_iinc d_Mo_fitAll_51 rfl rfl ?_
    refine V_goto 4 d_Mo_fitAll_54 ?_
    refine V_drop 4 ?_
    exact h
  · have h := hf h11
    refine V_aload_n d_Mo_fitAll_25 rfl ?_
    refine V_iload d_Mo_fitAll_26 rfl ?_
    refine U_iv1 cv_Mo_fitAll_142 d_Mo_fitAll_28 sh_147 rfl rfl (am_mono h ?_)
    rintro ro1 so1 σ1 ⟨z1, rfl, rfl, h⟩
    obtain ⟨h7, h⟩ := h
    obtain ⟨ht, hf⟩ := h
    refine V_if_le 45 d_Mo_fitAll_31 h7 (fun h10 => ?_) (fun h10 => ?_)
    · have h := ht h10
      exact h
    · have h := hf h10
      refine V_aload_n d_Mo_fitAll_34 rfl ?_
      refine V_iload d_Mo_fitAll_35 rfl ?_
      refine U_iv1 cv_Mo_fitAll_203 d_Mo_fitAll_37 sh_147 rfl rfl (am_mono h ?_)
      rintro ro2 so2 σ2 ⟨z2, rfl, rfl, h⟩
      obtain ⟨h8, h⟩ := h
      obtain ⟨ht, hf⟩ := h
      refine V_if_eq 45 d_Mo_fitAll_40 h8 (fun h9 => ?_) (fun h9 => ?_)
      · have h := ht h9
        exact h
      · have h := hf h9
        refine V_iconst d_Mo_fitAll_43 ?_
        refine V_istore_n d_Mo_fitAll_44 rfl ?_
        exact h
theorem s_Mo_fitAll_45 {x : am_Sc} {Po : Option am_AV → am_Sh → am_St → Prop} {σ : am_St} {v1 v2 v3 v4 : Int}
    (h : am_U x m_Mo_fitAll Po σ 18 [some (Zr 147), some (Zi v1), some (Zi v2), some (Zi v3), some (Zi (v4 + 1))] []) : am_U x m_Mo_fitAll Po σ 45 [some (Zr 147), some (Zi v1), some (Zi v2), some (Zi v3), some (Zi v4)] [] := by
  refine V_iinc d_Mo_fitAll_45 rfl rfl ?_
  refine V_goto 18 d_Mo_fitAll_48 ?_
  exact h
theorem s_Mo_fitBlock_0 {x : am_Sc} {Po : Option am_AV → am_Sh → am_St → Prop} {σ : am_St} {v1 : Int}
    (h : (0 ≤ v1 ∧ v1 < 8) ∧ am_U x m_Mo_misfitNow (fun ro1 so1 σ1 => ∃ z1 : Int, ro1 = some (Zi z1) ∧ so1 = am_SH ∧ am_U x m_Mo_fitBlock Po σ1 18 [some (Zr 147), some (Zi v1), some (Zi (σ.1 149 v1.toNat)), some (Zi z1), some (Zi (σ.1 149 v1.toNat)), some (Zi 1), none] []) σ 0 [some (Zr 147), none, none] []) : am_U x m_Mo_fitBlock Po σ 0 [some (Zr 147), some (Zi v1), none, none, none, none, none] [] := by
  refine V_aload_n d_Mo_fitBlock_0 rfl ?_
  refine U_geta d_Mo_fitBlock_1 fl_Mo_20 sh_147 rfl ?_
  refine V_iload_n d_Mo_fitBlock_4 rfl ?_
  obtain ⟨h1, h⟩ := h
  refine U_iald d_Mo_fitBlock_5 sh_149 h1 ?_
  refine V_istore_n d_Mo_fitBlock_6 rfl ?_
  refine V_aload_n d_Mo_fitBlock_7 rfl ?_
  refine U_iv0 cv_Mo_fitBlock_200 d_Mo_fitBlock_8 sh_147 rfl rfl (am_mono h ?_)
  rintro ro1 so1 σ1 ⟨z1, rfl, rfl, h⟩
  refine V_istore_n d_Mo_fitBlock_11 rfl ?_
  refine V_iload_n d_Mo_fitBlock_12 rfl ?_
  refine V_istore d_Mo_fitBlock_13 rfl ?_
  refine V_iconst d_Mo_fitBlock_15 ?_
  refine V_istore d_Mo_fitBlock_16 rfl ?_
  exact h
theorem s_Mo_fitBlock_18 {x : am_Sc} {Po : Option am_AV → am_Sh → am_St → Prop} {σ : am_St} {v1 v2 v3 v4 v5 : Int}
    (h : am_r v5 ∧ ((60 < v5 → (0 ≤ v1 ∧ v1 < 8) ∧ (∀ σ2 : am_St, σ2 = (am_up σ.1 149 v1.toNat v4, σ.2) → am_r v4 ∧ am_r v2 ∧ ((v4 = v2 → am_U x m_Mo_fitBlock Po σ2 92 [none, none, none, none, none, none, none] [Zi 0]) ∧ (¬ v4 = v2 → am_U x m_Mo_fitBlock Po σ2 92 [none, none, none, none, none, none, none] [Zi 1])))) ∧ (¬ 60 < v5 → (0 ≤ v1 ∧ v1 < 8) ∧ (∀ σ3 : am_St, σ3 = (am_up σ.1 149 v1.toNat v5, σ.2) → am_U x m_Mo_misfitNow (fun ro4 so4 σ4 => ∃ z4 : Int, ro4 = some (Zi z4) ∧ so4 = am_SH ∧ am_r z4 ∧ am_r v3 ∧ ((v3 ≤ z4 → am_U x m_Mo_fitBlock Po σ4 52 [some (Zr 147), some (Zi v1), some (Zi v2), some (Zi v3), none, some (Zi v5), some (Zi z4)] [Zi v4]) ∧ (¬ v3 ≤ z4 → am_U x m_Mo_fitBlock Po σ4 52 [some (Zr 147), some (Zi v1), some (Zi v2), some (Zi v3), none, some (Zi v5), some (Zi z4)] [Zi v5]))) σ3 0 [some (Zr 147), none, none] [])))) : am_U x m_Mo_fitBlock Po σ 18 [some (Zr 147), some (Zi v1), some (Zi v2), some (Zi v3), some (Zi v4), some (Zi v5), none] [] := by
  refine V_iload d_Mo_fitBlock_18 rfl ?_
  refine V_bipush d_Mo_fitBlock_20 ?_
  obtain ⟨h2, h⟩ := h
  obtain ⟨ht, hf⟩ := h
  refine V_icmp_gt 73 d_Mo_fitBlock_22 h2 (by decide) (fun h11 => ?_) (fun h11 => ?_)
  · have h := ht h11
    refine V_aload_n d_Mo_fitBlock_73 rfl ?_
    refine U_geta d_Mo_fitBlock_74 fl_Mo_20 sh_147 rfl ?_
    refine V_iload_n d_Mo_fitBlock_77 rfl ?_
    refine V_iload d_Mo_fitBlock_78 rfl ?_
    obtain ⟨h3, h⟩ := h
    refine U_iast d_Mo_fitBlock_80 sh_149 h3 ?_
    have h := h _ rfl
    refine V_iload d_Mo_fitBlock_81 rfl ?_
    refine V_iload_n d_Mo_fitBlock_83 rfl ?_
    obtain ⟨h4, h⟩ := h
    obtain ⟨h5, h⟩ := h
    obtain ⟨ht, hf⟩ := h
    refine V_icmp_eq 91 d_Mo_fitBlock_84 h4 h5 (fun h6 => ?_) (fun h6 => ?_)
    · have h := ht h6
      refine V_iconst d_Mo_fitBlock_91 ?_
      refine V_drop 0 ?_
      refine V_drop 1 ?_
      refine V_drop 2 ?_
      refine V_drop 3 ?_
      refine V_drop 4 ?_
      refine V_drop 5 ?_
      exact h
    · have h := hf h6
      refine V_iconst d_Mo_fitBlock_87 ?_
      refine V_goto 92 d_Mo_fitBlock_88 ?_
      refine V_drop 0 ?_
      refine V_drop 1 ?_
      refine V_drop 2 ?_
      refine V_drop 3 ?_
      refine V_drop 4 ?_
      refine V_drop 5 ?_
      exact h
  · have h := hf h11
    refine V_aload_n d_Mo_fitBlock_25 rfl ?_
    refine U_geta d_Mo_fitBlock_26 fl_Mo_20 sh_147 rfl ?_
    refine V_iload_n d_Mo_fitBlock_29 rfl ?_
    refine V_iload d_Mo_fitBlock_30 rfl ?_
    obtain ⟨h7, h⟩ := h
    refine U_iast d_Mo_fitBlock_32 sh_149 h7 ?_
    have h := h _ rfl
    refine V_aload_n d_Mo_fitBlock_33 rfl ?_
    refine U_iv0 cv_Mo_fitBlock_200 d_Mo_fitBlock_34 sh_147 rfl rfl (am_mono h ?_)
    rintro ro4 so4 σ4 ⟨z4, rfl, rfl, h⟩
    refine V_istore d_Mo_fitBlock_37 rfl ?_
    refine V_iload d_Mo_fitBlock_39 rfl ?_
    refine V_iload_n d_Mo_fitBlock_41 rfl ?_
    obtain ⟨h8, h⟩ := h
    obtain ⟨h9, h⟩ := h
    obtain ⟨ht, hf⟩ := h
    refine V_icmp_ge 50 d_Mo_fitBlock_42 h8 h9 (fun h10 => ?_) (fun h10 => ?_)
    · have h := ht h10
      refine V_iload d_Mo_fitBlock_50 rfl ?_
      refine V_drop 4 ?_
      exact h
    · have h := hf h10
      refine V_iload d_Mo_fitBlock_45 rfl ?_
      refine V_goto 52 d_Mo_fitBlock_47 ?_
      refine V_drop 4 ?_
      exact h
theorem s_Mo_fitBlock_92 {x : am_Sc} {Po : Option am_AV → am_Sh → am_St → Prop} {σ : am_St} {vk0 : Int}
    (h : (vk0 = 0 ∨ vk0 = 1) ∧ Po (some (Zi vk0)) am_SH σ) : am_U x m_Mo_fitBlock Po σ 92 [none, none, none, none, none, none, none] [Zi vk0] := by
  obtain ⟨h12, h⟩ := h
  exact V_zret d_Mo_fitBlock_92 rfl rfl h12 h
theorem s_Mo_fitBlock_52 {x : am_Sc} {Po : Option am_AV → am_Sh → am_St → Prop} {σ : am_St} {v1 v2 v3 v5 v6 vk0 : Int}
    (h : am_r v6 ∧ am_r v3 ∧ ((v3 ≤ v6 → am_U x m_Mo_fitBlock Po σ 66 [some (Zr 147), some (Zi v1), some (Zi v2), none, some (Zi vk0), some (Zi v5), none] [Zi v3]) ∧ (¬ v3 ≤ v6 → am_U x m_Mo_fitBlock Po σ 66 [some (Zr 147), some (Zi v1), some (Zi v2), none, some (Zi vk0), some (Zi v5), none] [Zi v6]))) : am_U x m_Mo_fitBlock Po σ 52 [some (Zr 147), some (Zi v1), some (Zi v2), some (Zi v3), none, some (Zi v5), some (Zi v6)] [Zi vk0] := by
  refine V_istore d_Mo_fitBlock_52 rfl ?_
  refine V_iload d_Mo_fitBlock_54 rfl ?_
  refine V_iload_n d_Mo_fitBlock_56 rfl ?_
  obtain ⟨h13, h⟩ := h
  obtain ⟨h14, h⟩ := h
  obtain ⟨ht, hf⟩ := h
  refine V_icmp_ge 65 d_Mo_fitBlock_57 h13 h14 (fun h15 => ?_) (fun h15 => ?_)
  · have h := ht h15
    refine V_iload_n d_Mo_fitBlock_65 rfl ?_
    refine V_drop 3 ?_
    refine V_drop 6 ?_
    exact h
  · have h := hf h15
    refine V_iload d_Mo_fitBlock_60 rfl ?_
    refine V_goto 66 d_Mo_fitBlock_62 ?_
    refine V_drop 3 ?_
    refine V_drop 6 ?_
    exact h
theorem s_Mo_fitBlock_66 {x : am_Sc} {Po : Option am_AV → am_Sh → am_St → Prop} {σ : am_St} {v1 v2 v4 v5 vk0 : Int}
    (h : am_U x m_Mo_fitBlock Po σ 18 [some (Zr 147), some (Zi v1), some (Zi v2), some (Zi vk0), some (Zi v4), some (Zi (v5 + 1)), none] []) : am_U x m_Mo_fitBlock Po σ 66 [some (Zr 147), some (Zi v1), some (Zi v2), none, some (Zi v4), some (Zi v5), none] [Zi vk0] := by
  refine V_istore_n d_Mo_fitBlock_66 rfl ?_
  refine V_iinc d_Mo_fitBlock_67 rfl rfl ?_
  refine V_goto 18 d_Mo_fitBlock_70 ?_
  exact h
theorem s_Mo_span_0 {x : am_Sc} {Po : Option am_AV → am_Sh → am_St → Prop} {σ : am_St} {v1 v2 : Int}
    (h : am_U x m_Mo_isBlock (fun ro1 so1 σ1 => ∃ z1 : Int, ro1 = some (Zi z1) ∧ so1 = am_SH ∧ am_r z1 ∧ ((¬ z1 = 0 → am_U x m_Mo_in (fun ro2 so2 σ2 => ∃ z2 : Int, ro2 = some (Zi z2) ∧ so2 = am_SH ∧ am_r z2 ∧ ((¬ z2 = 0 → am_U x m_Mo_findRays (fun ro3 so3 σ3 => ro3 = none ∧ so3 = am_SH ∧ am_U x m_Mo_press (fun ro4 so4 σ4 => ∃ z4 : Int, ro4 = some (Zi z4) ∧ so4 = am_SH ∧ am_r z4 ∧ ((¬ z4 = 0 → am_r v2 ∧ ((¬ v2 = 0 → (0 ≤ v1 ∧ v1 < 8) ∧ am_U x m_Mo_span Po σ4 59 [none, none, none] [Zi (σ4.1 168 v1.toNat)]) ∧ (v2 = 0 → (0 ≤ v1 ∧ v1 < 8) ∧ am_U x m_Mo_span Po σ4 59 [none, none, none] [Zi (σ4.1 167 v1.toNat)]))) ∧ (z4 = 0 → am_U x m_Mo_span Po σ4 59 [none, none, none] [Zi (-1)]))) σ3 0 [some (Zr 147), some (Zi 4095), none, none, none, none, none, none, none] []) σ2 0 [some (Zr 147), none] []) ∧ (z2 = 0 → Po (some (Zi (-3))) am_SH σ2))) σ1 0 [some (Zi v2), some (Zi 0), some (Zi 1)] []) ∧ (z1 = 0 → Po (some (Zi (-2))) am_SH σ1))) σ 0 [some (Zi v1)] []) : am_U x m_Mo_span Po σ 0 [some (Zr 147), some (Zi v1), some (Zi v2)] [] := by
  refine V_iload_n d_Mo_span_0 rfl ?_
  refine U_is1 cv_Mo_span_138 d_Mo_span_1  rfl (am_mono h ?_)
  rintro ro1 so1 σ1 ⟨z1, rfl, rfl, h⟩
  obtain ⟨h1, h⟩ := h
  obtain ⟨ht, hf⟩ := h
  refine V_if_ne 10 d_Mo_span_4 h1 (fun h10 => ?_) (fun h10 => ?_)
  · have h := ht h10
    refine V_iload_n d_Mo_span_10 rfl ?_
    refine V_iconst d_Mo_span_11 ?_
    refine V_iconst d_Mo_span_12 ?_
    refine U_is3 cv_Mo_span_122 d_Mo_span_13  rfl (am_mono h ?_)
    rintro ro2 so2 σ2 ⟨z2, rfl, rfl, h⟩
    obtain ⟨h2, h⟩ := h
    obtain ⟨ht, hf⟩ := h
    refine V_if_ne 22 d_Mo_span_16 h2 (fun h9 => ?_) (fun h9 => ?_)
    · have h := ht h9
      refine V_aload_n d_Mo_span_22 rfl ?_
      refine U_iv0 cv_Mo_span_219 d_Mo_span_23 sh_147 rfl rfl (am_mono h ?_)
      rintro ro3 so3 σ3 ⟨rfl, rfl, h⟩
      refine V_aload_n d_Mo_span_26 rfl ?_
      refine V_sipush d_Mo_span_27 ?_
      refine U_iv1 cv_Mo_span_222 d_Mo_span_30 sh_147 rfl rfl (am_mono h ?_)
      rintro ro4 so4 σ4 ⟨z4, rfl, rfl, h⟩
      obtain ⟨h3, h⟩ := h
      obtain ⟨ht, hf⟩ := h
      refine V_if_ne 40 d_Mo_span_33 h3 (fun h8 => ?_) (fun h8 => ?_)
      · have h := ht h8
        refine V_iload_n d_Mo_span_40 rfl ?_
        obtain ⟨h4, h⟩ := h
        obtain ⟨ht, hf⟩ := h
        refine V_if_ne 53 d_Mo_span_41 h4 (fun h7 => ?_) (fun h7 => ?_)
        · have h := ht h7
          refine V_aload_n d_Mo_span_53 rfl ?_
          refine U_geta d_Mo_span_54 fl_Mo_81 sh_147 rfl ?_
          refine V_iload_n d_Mo_span_57 rfl ?_
          obtain ⟨h5, h⟩ := h
          refine U_iald d_Mo_span_58 sh_168 h5 ?_
          refine V_drop 0 ?_
          refine V_drop 1 ?_
          refine V_drop 2 ?_
          exact h
        · have h := hf h7
          refine V_aload_n d_Mo_span_44 rfl ?_
          refine U_geta d_Mo_span_45 fl_Mo_78 sh_147 rfl ?_
          refine V_iload_n d_Mo_span_48 rfl ?_
          obtain ⟨h6, h⟩ := h
          refine U_iald d_Mo_span_49 sh_167 h6 ?_
          refine V_goto 59 d_Mo_span_50 ?_
          refine V_drop 0 ?_
          refine V_drop 1 ?_
          refine V_drop 2 ?_
          exact h
      · have h := hf h8
        refine V_iconst d_Mo_span_36 ?_
        refine V_goto 59 d_Mo_span_37 ?_
        refine V_drop 0 ?_
        refine V_drop 1 ?_
        refine V_drop 2 ?_
        exact h
    · have h := hf h9
      refine V_bipush d_Mo_span_19 ?_
      exact V_iret d_Mo_span_21 rfl rfl h
  · have h := hf h10
    refine V_bipush d_Mo_span_7 ?_
    exact V_iret d_Mo_span_9 rfl rfl h
theorem s_Mo_span_59 {x : am_Sc} {Po : Option am_AV → am_Sh → am_St → Prop} {σ : am_St} {vk0 : Int}
    (h : Po (some (Zi vk0)) am_SH σ) : am_U x m_Mo_span Po σ 59 [none, none, none] [Zi vk0] := by
  exact V_iret d_Mo_span_59 rfl rfl h
theorem s_Mo_findRays_0 {x : am_Sc} {Po : Option am_AV → am_Sh → am_St → Prop} {σ : am_St}
    (h : am_U x m_Mo_findSpans (fun ro1 so1 σ1 => ro1 = none ∧ so1 = am_SH ∧ am_U x m_Mo_findRays Po σ1 10 [some (Zr 147), some (Zi 0)] []) σ 0 [some (Zr 147), some (Zi (σ.1 147 20)), none] []) : am_U x m_Mo_findRays Po σ 0 [some (Zr 147), none] [] := by
  refine V_aload_n d_Mo_findRays_0 rfl ?_
  refine V_aload_n d_Mo_findRays_1 rfl ?_
  refine U_geti d_Mo_findRays_2 fl_Mo_174 sh_147 ?_
  refine U_iv1 cv_Mo_findRays_196 d_Mo_findRays_5 sh_147 rfl rfl (am_mono h ?_)
  rintro ro1 so1 σ1 ⟨rfl, rfl, h⟩
  refine V_iconst d_Mo_findRays_8 ?_
  refine V_istore_n d_Mo_findRays_9 rfl ?_
  exact h
theorem s_Mo_findRays_10 {x : am_Sc} {Po : Option am_AV → am_Sh → am_St → Prop} {σ : am_St} {v1 : Int}
    (h : am_r v1 ∧ am_r (σ.1 147 11) ∧ (((σ.1 147 11) ≤ v1 → Po none am_SH σ) ∧ (¬ (σ.1 147 11) ≤ v1 → (0 ≤ v1 ∧ v1 < 12) ∧ am_r (σ.1 156 v1.toNat) ∧ ((¬ (σ.1 156 v1.toNat) = 0 → am_U x m_Mo_findRays Po σ 54 [some (Zr 147), some (Zi v1)] []) ∧ ((σ.1 156 v1.toNat) = 0 → (0 ≤ σ.1 155 v1.toNat ∧ σ.1 155 v1.toNat < 5) ∧ (0 ≤ σ.1 154 v1.toNat ∧ σ.1 154 v1.toNat < 6) ∧ am_U x m_Mo_layRays (fun ro2 so2 σ2 => ro2 = none ∧ so2 = am_SH ∧ am_U x m_Mo_findRays Po σ2 54 [some (Zr 147), some (Zi v1)] []) σ 0 [some (Zr 147), some (Zi (σ.1 152 (σ.1 155 v1.toNat).toNat)), some (Zi (σ.1 150 (σ.1 154 v1.toNat).toNat)), some (Zi v1), none, none] []))))) : am_U x m_Mo_findRays Po σ 10 [some (Zr 147), some (Zi v1)] [] := by
  refine V_iload_n d_Mo_findRays_10 rfl ?_
  refine V_aload_n d_Mo_findRays_11 rfl ?_
  refine U_geti d_Mo_findRays_12 fl_Mo_132 sh_147 ?_
  obtain ⟨h1, h⟩ := h
  obtain ⟨h2, h⟩ := h
  obtain ⟨ht, hf⟩ := h
  refine V_icmp_ge 60 d_Mo_findRays_15 h1 h2 (fun h8 => ?_) (fun h8 => ?_)
  · have h := ht h8
    exact V_ret d_Mo_findRays_60 rfl rfl h
  · have h := hf h8
    refine V_aload_n d_Mo_findRays_18 rfl ?_
    refine U_geta d_Mo_findRays_19 fl_Mo_44 sh_147 rfl ?_
    refine V_iload_n d_Mo_findRays_22 rfl ?_
    obtain ⟨h3, h⟩ := h
    refine U_iald d_Mo_findRays_23 sh_156 h3 ?_
    obtain ⟨h4, h⟩ := h
    obtain ⟨ht, hf⟩ := h
    refine V_if_ne 54 d_Mo_findRays_24 h4 (fun h7 => ?_) (fun h7 => ?_)
    · have h := ht h7
      exact h
    · have h := hf h7
      refine V_aload_n d_Mo_findRays_27 rfl ?_
      refine V_aload_n d_Mo_findRays_28 rfl ?_
      refine U_geta d_Mo_findRays_29 fl_Mo_32 sh_147 rfl ?_
      refine V_aload_n d_Mo_findRays_32 rfl ?_
      refine U_geta d_Mo_findRays_33 fl_Mo_41 sh_147 rfl ?_
      refine V_iload_n d_Mo_findRays_36 rfl ?_
      refine U_iald d_Mo_findRays_37 sh_155 h3 ?_
      obtain ⟨h5, h⟩ := h
      refine U_iald d_Mo_findRays_38 sh_152 h5 ?_
      refine V_aload_n d_Mo_findRays_39 rfl ?_
      refine U_geta d_Mo_findRays_40 fl_Mo_26 sh_147 rfl ?_
      refine V_aload_n d_Mo_findRays_43 rfl ?_
      refine U_geta d_Mo_findRays_44 fl_Mo_38 sh_147 rfl ?_
      refine V_iload_n d_Mo_findRays_47 rfl ?_
      refine U_iald d_Mo_findRays_48 sh_154 h3 ?_
      obtain ⟨h6, h⟩ := h
      refine U_iald d_Mo_findRays_49 sh_150 h6 ?_
      refine V_iload_n d_Mo_findRays_50 rfl ?_
      refine U_iv3 cv_Mo_findRays_209 d_Mo_findRays_51 sh_147 rfl rfl (am_mono h ?_)
      rintro ro2 so2 σ2 ⟨rfl, rfl, h⟩
      exact h
theorem s_Mo_findRays_54 {x : am_Sc} {Po : Option am_AV → am_Sh → am_St → Prop} {σ : am_St} {v1 : Int}
    (h : am_U x m_Mo_findRays Po σ 10 [some (Zr 147), some (Zi (v1 + 1))] []) : am_U x m_Mo_findRays Po σ 54 [some (Zr 147), some (Zi v1)] [] := by
  refine V_iinc d_Mo_findRays_54 rfl rfl ?_
  refine V_goto 10 d_Mo_findRays_57 ?_
  exact h
theorem s_Mo_layRays_0 {x : am_Sc} {Po : Option am_AV → am_Sh → am_St → Prop} {σ : am_St} {v1 v2 v3 : Int}
    (h : am_U x m_Mo_layRays Po σ 3 [some (Zr 147), some (Zi v1), some (Zi v2), some (Zi v3), some (Zi 0), none] []) : am_U x m_Mo_layRays Po σ 0 [some (Zr 147), some (Zi v1), some (Zi v2), some (Zi v3), none, none] [] := by
  refine V_iconst d_Mo_layRays_0 ?_
  refine V_istore d_Mo_layRays_1 rfl ?_
  exact h
theorem s_Mo_layRays_3 {x : am_Sc} {Po : Option am_AV → am_Sh → am_St → Prop} {σ : am_St} {v1 v2 v3 v4 : Int}
    (h : am_r v4 ∧ ((8 ≤ v4 → am_U x m_Mo_findTimes (fun ro1 so1 σ1 => ro1 = none ∧ so1 = am_SH ∧ am_U x m_Mo_layRays Po σ1 38 [some (Zr 147), none, some (Zi v2), some (Zi v3), some (Zi v1), none] []) σ 0 [some (Zr 147), some (Zi v2), some (Zi 0), none, none, none, none, none, none, none] []) ∧ (¬ 8 ≤ v4 → (0 ≤ (8 * v3) + v4 ∧ (8 * v3) + v4 < 96) ∧ (∀ σ2 : am_St, σ2 = (am_up σ.1 166 ((8 * v3) + v4).toNat 0, σ.2) → am_U x m_Mo_layRays Po σ2 3 [some (Zr 147), some (Zi v1), some (Zi v2), some (Zi v3), some (Zi (v4 + 1)), none] [])))) : am_U x m_Mo_layRays Po σ 3 [some (Zr 147), some (Zi v1), some (Zi v2), some (Zi v3), some (Zi v4), none] [] := by
  refine V_iload d_Mo_layRays_3 rfl ?_
  refine V_bipush d_Mo_layRays_5 ?_
  obtain ⟨h1, h⟩ := h
  obtain ⟨ht, hf⟩ := h
  refine V_icmp_ge 29 d_Mo_layRays_7 h1 (by decide) (fun h3 => ?_) (fun h3 => ?_)
  · have h := ht h3
    refine V_aload_n d_Mo_layRays_29 rfl ?_
    refine V_iload_n d_Mo_layRays_30 rfl ?_
    refine V_iconst d_Mo_layRays_31 ?_
    refine U_iv2 cv_Mo_layRays_157 d_Mo_layRays_32 sh_147 rfl rfl (am_mono h ?_)
    rintro ro1 so1 σ1 ⟨rfl, rfl, h⟩
    refine V_iload_n d_Mo_layRays_35 rfl ?_
    refine V_istore d_Mo_layRays_36 rfl ?_
    refine V_drop 1 ?_
    exact h
  · have h := hf h3
    refine V_aload_n d_Mo_layRays_10 rfl ?_
    refine U_geta d_Mo_layRays_11 fl_Mo_75 sh_147 rfl ?_
    refine V_bipush d_Mo_layRays_14 ?_
    refine V_iload_n d_Mo_layRays_16 rfl ?_
    refine V_imul d_Mo_layRays_17 ?_
    refine V_iload d_Mo_layRays_18 rfl ?_
    refine V_iadd d_Mo_layRays_20 ?_
    refine V_iconst d_Mo_layRays_21 ?_
    obtain ⟨h2, h⟩ := h
    refine U_iast d_Mo_layRays_22 sh_166 h2 ?_
    have h := h _ rfl
    refine V_iinc d_Mo_layRays_23 rfl rfl ?_
    refine V_goto 3 d_Mo_layRays_26 ?_
    exact h
theorem s_Mo_layRays_38 {x : am_Sc} {Po : Option am_AV → am_Sh → am_St → Prop} {σ : am_St} {v2 v3 v4 : Int}
    (h : am_r v4 ∧ am_r v2 ∧ ((v4 = v2 → Po none am_SH σ) ∧ (¬ v4 = v2 → am_U x m_Mo_nextOf (fun ro3 so3 σ3 => ∃ z3 : Int, ro3 = some (Zi z3) ∧ so3 = am_SH ∧ (0 ≤ v4 ∧ v4 < 16) ∧ (0 ≤ (8 * v3) + (σ3.1 148 v4.toNat) ∧ (8 * v3) + (σ3.1 148 v4.toNat) < 96) ∧ (∀ σ4 : am_St, σ4 = (am_up σ3.1 166 ((8 * v3) + (σ3.1 148 v4.toNat)).toNat ((σ3.1 166 ((8 * v3) + (σ3.1 148 v4.toNat)).toNat) + 1), σ3.2) → (0 ≤ z3 ∧ z3 < 16) ∧ (0 ≤ (8 * v3) + (σ4.1 148 z3.toNat) ∧ (8 * v3) + (σ4.1 148 z3.toNat) < 96) ∧ (∀ σ5 : am_St, σ5 = (am_up σ4.1 166 ((8 * v3) + (σ4.1 148 z3.toNat)).toNat ((σ4.1 166 ((8 * v3) + (σ4.1 148 z3.toNat)).toNat) + 1), σ4.2) → am_U x m_Mo_layRays Po σ5 38 [some (Zr 147), none, some (Zi v2), some (Zi v3), some (Zi z3), none] []))) σ 0 [some (Zr 147), some (Zi v4), some (Zi 0), none] []))) : am_U x m_Mo_layRays Po σ 38 [some (Zr 147), none, some (Zi v2), some (Zi v3), some (Zi v4), none] [] := by
  refine V_iload d_Mo_layRays_38 rfl ?_
  refine V_iload_n d_Mo_layRays_40 rfl ?_
  obtain ⟨h4, h⟩ := h
  obtain ⟨h5, h⟩ := h
  obtain ⟨ht, hf⟩ := h
  refine V_icmp_eq 102 d_Mo_layRays_41 h4 h5 (fun h10 => ?_) (fun h10 => ?_)
  · have h := ht h10
    exact V_ret d_Mo_layRays_102 rfl rfl h
  · have h := hf h10
    refine V_aload_n d_Mo_layRays_44 rfl ?_
    refine V_iload d_Mo_layRays_45 rfl ?_
    refine V_iconst d_Mo_layRays_47 ?_
    refine U_iv2 cv_Mo_layRays_165 d_Mo_layRays_48 sh_147 rfl rfl (am_mono h ?_)
    rintro ro3 so3 σ3 ⟨z3, rfl, rfl, h⟩
    refine V_istore d_Mo_layRays_51 rfl ?_
    refine V_aload_n d_Mo_layRays_53 rfl ?_
    refine U_geta d_Mo_layRays_54 fl_Mo_75 sh_147 rfl ?_
    refine V_bipush d_Mo_layRays_57 ?_
    refine V_iload_n d_Mo_layRays_59 rfl ?_
    refine V_imul d_Mo_layRays_60 ?_
    refine V_aload_n d_Mo_layRays_61 rfl ?_
    refine U_geta d_Mo_layRays_62 fl_Mo_16 sh_147 rfl ?_
    refine V_iload d_Mo_layRays_65 rfl ?_
    obtain ⟨h6, h⟩ := h
    refine U_iald d_Mo_layRays_67 sh_148 h6 ?_
    refine V_iadd d_Mo_layRays_68 ?_
    refine V_dup2 d_Mo_layRays_69 ?_
    obtain ⟨h7, h⟩ := h
    refine U_iald d_Mo_layRays_70 sh_166 h7 ?_
    refine V_iconst d_Mo_layRays_71 ?_
    refine V_iadd d_Mo_layRays_72 ?_
    refine U_iast d_Mo_layRays_73 sh_166 h7 ?_
    have h := h _ rfl
    refine V_aload_n d_Mo_layRays_74 rfl ?_
    refine U_geta d_Mo_layRays_75 fl_Mo_75 sh_147 rfl ?_
    refine V_bipush d_Mo_layRays_78 ?_
    refine V_iload_n d_Mo_layRays_80 rfl ?_
    refine V_imul d_Mo_layRays_81 ?_
    refine V_aload_n d_Mo_layRays_82 rfl ?_
    refine U_geta d_Mo_layRays_83 fl_Mo_16 sh_147 rfl ?_
    refine V_iload d_Mo_layRays_86 rfl ?_
    obtain ⟨h8, h⟩ := h
    refine U_iald d_Mo_layRays_88 sh_148 h8 ?_
    refine V_iadd d_Mo_layRays_89 ?_
    refine V_dup2 d_Mo_layRays_90 ?_
    obtain ⟨h9, h⟩ := h
    refine U_iald d_Mo_layRays_91 sh_166 h9 ?_
    refine V_iconst d_Mo_layRays_92 ?_
    refine V_iadd d_Mo_layRays_93 ?_
    refine U_iast d_Mo_layRays_94 sh_166 h9 ?_
    have h := h _ rfl
    refine V_iload d_Mo_layRays_95 rfl ?_
    refine V_istore d_Mo_layRays_97 rfl ?_
    refine V_goto 38 d_Mo_layRays_99 ?_
    refine V_drop 5 ?_
    exact h
theorem s_Mo_press_0 {x : am_Sc} {Po : Option am_AV → am_Sh → am_St → Prop} {σ : am_St} {v1 : Int}
    (h : am_U x m_Mo_press Po σ 2 [some (Zr 147), some (Zi v1), some (Zi 0), none, none, none, none, none, none] []) : am_U x m_Mo_press Po σ 0 [some (Zr 147), some (Zi v1), none, none, none, none, none, none, none] [] := by
  refine V_iconst d_Mo_press_0 ?_
  refine V_istore_n d_Mo_press_1 rfl ?_
  exact h
theorem s_Mo_press_2 {x : am_Sc} {Po : Option am_AV → am_Sh → am_St → Prop} {σ : am_St} {v1 v2 : Int}
    (h : am_r v2 ∧ ((8 ≤ v2 → am_U x m_Mo_press Po σ 31 [some (Zr 147), some (Zi v1), some (Zi 1), none, none, none, none, none, none] []) ∧ (¬ 8 ≤ v2 → (0 ≤ v2 ∧ v2 < 8) ∧ (∀ σ1 : am_St, σ1 = (am_up σ.1 167 v2.toNat 1, σ.2) → (∀ σ2 : am_St, σ2 = (am_up σ1.1 168 v2.toNat 60, σ1.2) → am_U x m_Mo_press Po σ2 2 [some (Zr 147), some (Zi v1), some (Zi (v2 + 1)), none, none, none, none, none, none] []))))) : am_U x m_Mo_press Po σ 2 [some (Zr 147), some (Zi v1), some (Zi v2), none, none, none, none, none, none] [] := by
  refine V_iload_n d_Mo_press_2 rfl ?_
  refine V_bipush d_Mo_press_3 ?_
  obtain ⟨h1, h⟩ := h
  obtain ⟨ht, hf⟩ := h
  refine V_icmp_ge 29 d_Mo_press_5 h1 (by decide) (fun h3 => ?_) (fun h3 => ?_)
  · have h := ht h3
    refine V_iconst d_Mo_press_29 ?_
    refine V_istore_n d_Mo_press_30 rfl ?_
    exact h
  · have h := hf h3
    refine V_aload_n d_Mo_press_8 rfl ?_
    refine U_geta d_Mo_press_9 fl_Mo_78 sh_147 rfl ?_
    refine V_iload_n d_Mo_press_12 rfl ?_
    refine V_iconst d_Mo_press_13 ?_
    obtain ⟨h2, h⟩ := h
    refine U_iast d_Mo_press_14 sh_167 h2 ?_
    have h := h _ rfl
    refine V_aload_n d_Mo_press_15 rfl ?_
    refine U_geta d_Mo_press_16 fl_Mo_81 sh_147 rfl ?_
    refine V_iload_n d_Mo_press_19 rfl ?_
    refine V_bipush d_Mo_press_20 ?_
    refine U_iast d_Mo_press_22 sh_168 h2 ?_
    have h := h _ rfl
    refine V_iinc d_Mo_press_23 rfl rfl ?_
    refine V_goto 2 d_Mo_press_26 ?_
    exact h
theorem s_Mo_press_31 {x : am_Sc} {Po : Option am_AV → am_Sh → am_St → Prop} {σ : am_St} {v1 v2 : Int}
    (h : am_r v2 ∧ ((v2 = 0 → Po (some (Zi 1)) am_SH σ) ∧ (¬ v2 = 0 → am_U x m_Mo_press Po σ 39 [some (Zr 147), some (Zi v1), some (Zi 0), some (Zi 0), none, none, none, none, none] []))) : am_U x m_Mo_press Po σ 31 [some (Zr 147), some (Zi v1), some (Zi v2), none, none, none, none, none, none] [] := by
  refine V_iload_n d_Mo_press_31 rfl ?_
  obtain ⟨h4, h⟩ := h
  obtain ⟨ht, hf⟩ := h
  refine V_if_eq 263 d_Mo_press_32 h4 (fun h5 => ?_) (fun h5 => ?_)
  · have h := ht h5
    refine V_iconst d_Mo_press_263 ?_
    exact V_zret d_Mo_press_264 rfl rfl (Or.inr rfl) h
  · have h := hf h5
    refine V_iconst d_Mo_press_35 ?_
    refine V_istore_n d_Mo_press_36 rfl ?_
    refine V_iconst d_Mo_press_37 ?_
    refine V_istore_n d_Mo_press_38 rfl ?_
    exact h
theorem s_Mo_press_39 {x : am_Sc} {Po : Option am_AV → am_Sh → am_St → Prop} {σ : am_St} {v1 v2 v3 : Int}
    (h : am_r v3 ∧ am_r (σ.1 147 11) ∧ (((σ.1 147 11) ≤ v3 → am_U x m_Mo_press Po σ 31 [some (Zr 147), some (Zi v1), some (Zi v2), none, none, none, none, none, none] []) ∧ (¬ (σ.1 147 11) ≤ v3 → (0 ≤ v3 ∧ v3 < 12) ∧ am_r (σ.1 156 v3.toNat) ∧ ((¬ (σ.1 156 v3.toNat) = 0 → am_U x m_Mo_press Po σ 83 [some (Zr 147), some (Zi v1), some (Zi v2), some (Zi v3), none, none, none, none, none] [Zi 0]) ∧ ((σ.1 156 v3.toNat) = 0 → (0 ≤ σ.1 155 v3.toNat ∧ σ.1 155 v3.toNat < 5) ∧ (0 ≤ σ.1 154 v3.toNat ∧ σ.1 154 v3.toNat < 6) ∧ am_U x m_Mo_press Po σ 83 [some (Zr 147), some (Zi v1), some (Zi v2), some (Zi v3), none, none, none, none, none] [Zi ((σ.1 153 (σ.1 155 v3.toNat).toNat) + (σ.1 151 (σ.1 154 v3.toNat).toNat))]))))) : am_U x m_Mo_press Po σ 39 [some (Zr 147), some (Zi v1), some (Zi v2), some (Zi v3), none, none, none, none, none] [] := by
  refine V_iload_n d_Mo_press_39 rfl ?_
  refine V_aload_n d_Mo_press_40 rfl ?_
  refine U_geti d_Mo_press_41 fl_Mo_132 sh_147 ?_
  obtain ⟨h6, h⟩ := h
  obtain ⟨h7, h⟩ := h
  obtain ⟨ht, hf⟩ := h
  refine V_icmp_ge 260 d_Mo_press_44 h6 h7 (fun h13 => ?_) (fun h13 => ?_)
  · have h := ht h13
    refine V_goto 31 d_Mo_press_260 ?_
    refine V_drop 3 ?_
    exact h
  · have h := hf h13
    refine V_aload_n d_Mo_press_47 rfl ?_
    refine U_geta d_Mo_press_48 fl_Mo_44 sh_147 rfl ?_
    refine V_iload_n d_Mo_press_51 rfl ?_
    obtain ⟨h8, h⟩ := h
    refine U_iald d_Mo_press_52 sh_156 h8 ?_
    obtain ⟨h9, h⟩ := h
    obtain ⟨ht, hf⟩ := h
    refine V_if_ne 82 d_Mo_press_53 h9 (fun h12 => ?_) (fun h12 => ?_)
    · have h := ht h12
      refine V_iconst d_Mo_press_82 ?_
      exact h
    · have h := hf h12
      refine V_aload_n d_Mo_press_56 rfl ?_
      refine U_geta d_Mo_press_57 fl_Mo_35 sh_147 rfl ?_
      refine V_aload_n d_Mo_press_60 rfl ?_
      refine U_geta d_Mo_press_61 fl_Mo_41 sh_147 rfl ?_
      refine V_iload_n d_Mo_press_64 rfl ?_
      refine U_iald d_Mo_press_65 sh_155 h8 ?_
      obtain ⟨h10, h⟩ := h
      refine U_iald d_Mo_press_66 sh_153 h10 ?_
      refine V_aload_n d_Mo_press_67 rfl ?_
      refine U_geta d_Mo_press_68 fl_Mo_29 sh_147 rfl ?_
      refine V_aload_n d_Mo_press_71 rfl ?_
      refine U_geta d_Mo_press_72 fl_Mo_38 sh_147 rfl ?_
      refine V_iload_n d_Mo_press_75 rfl ?_
      refine U_iald d_Mo_press_76 sh_154 h8 ?_
      obtain ⟨h11, h⟩ := h
      refine U_iald d_Mo_press_77 sh_151 h11 ?_
      refine V_iadd d_Mo_press_78 ?_
      refine V_goto 83 d_Mo_press_79 ?_
      exact h
theorem s_Mo_press_83 {x : am_Sc} {Po : Option am_AV → am_Sh → am_St → Prop} {σ : am_St} {v1 v2 v3 vk0 : Int}
    (h : am_U x m_Mo_press Po σ 88 [some (Zr 147), some (Zi v1), some (Zi v2), some (Zi v3), some (Zi vk0), some (Zi 0), none, none, none] []) : am_U x m_Mo_press Po σ 83 [some (Zr 147), some (Zi v1), some (Zi v2), some (Zi v3), none, none, none, none, none] [Zi vk0] := by
  refine V_istore d_Mo_press_83 rfl ?_
  refine V_iconst d_Mo_press_85 ?_
  refine V_istore d_Mo_press_86 rfl ?_
  exact h
theorem s_Mo_press_88 {x : am_Sc} {Po : Option am_AV → am_Sh → am_St → Prop} {σ : am_St} {v1 v2 v3 v4 v5 : Int}
    (h : am_r v5 ∧ ((8 ≤ v5 → am_U x m_Mo_press Po σ 254 [some (Zr 147), some (Zi v1), some (Zi v2), some (Zi v3), none, none, none, none, none] []) ∧ (¬ 8 ≤ v5 → am_r (am_and (am_shr v1 v3) 1) ∧ ((¬ (am_and (am_shr v1 v3) 1) = 1 → am_U x m_Mo_press Po σ 254 [some (Zr 147), some (Zi v1), some (Zi v2), some (Zi v3), none, none, none, none, none] []) ∧ ((am_and (am_shr v1 v3) 1) = 1 → (0 ≤ v3 ∧ v3 < 12) ∧ am_r (σ.1 156 v3.toNat) ∧ ((¬ (σ.1 156 v3.toNat) = 0 → am_U x m_Mo_press Po σ 254 [some (Zr 147), some (Zi v1), some (Zi v2), some (Zi v3), none, none, none, none, none] []) ∧ ((σ.1 156 v3.toNat) = 0 → (0 ≤ (8 * v3) + v5 ∧ (8 * v3) + v5 < 96) ∧ am_r (σ.1 166 ((8 * v3) + v5).toNat) ∧ (((σ.1 166 ((8 * v3) + v5).toNat) ≤ 0 → am_U x m_Mo_press Po σ 248 [some (Zr 147), some (Zi v1), some (Zi v2), some (Zi v3), some (Zi v4), some (Zi v5), none, none, none] []) ∧ (¬ (σ.1 166 ((8 * v3) + v5).toNat) ≤ 0 → am_U x m_Mo_others (fun ro3 so3 σ3 => ∃ z3 : Int, ro3 = some (Zi z3) ∧ so3 = am_SH ∧ am_U x m_Mo_floorOf (fun ro4 so4 σ4 => ∃ z4 : Int, ro4 = some (Zi z4) ∧ so4 = am_SH ∧ (0 ≤ v5 ∧ v5 < 8) ∧ am_r z4 ∧ am_r (σ4.1 168 v5.toNat) ∧ (((σ4.1 168 v5.toNat) ≤ z4 → am_U x m_Mo_press Po σ4 180 [some (Zr 147), some (Zi v1), some (Zi v2), some (Zi v3), some (Zi v4), some (Zi v5), some (Zi (σ.1 166 ((8 * v3) + v5).toNat)), none, none] []) ∧ (¬ (σ4.1 168 v5.toNat) ≤ z4 → (∀ σ5 : am_St, σ5 = (am_up σ4.1 168 v5.toNat z4, σ4.2) → am_U x m_Mo_press Po σ5 180 [some (Zr 147), some (Zi v1), some (Zi 1), some (Zi v3), some (Zi v4), some (Zi v5), some (Zi (σ.1 166 ((8 * v3) + v5).toNat)), none, none] [])))) σ3 0 [some (Zi (((σ.1 162 v3.toNat) - v4) - z3)), some (Zi (σ.1 166 ((8 * v3) + v5).toNat)), none] []) σ 0 [some (Zr 147), some (Zi v3), some (Zi v5), some (Zi 1), none, none] []))))))))) : am_U x m_Mo_press Po σ 88 [some (Zr 147), some (Zi v1), some (Zi v2), some (Zi v3), some (Zi v4), some (Zi v5), none, none, none] [] := by
  refine V_iload d_Mo_press_88 rfl ?_
  refine V_bipush d_Mo_press_90 ?_
  obtain ⟨h14, h⟩ := h
  obtain ⟨ht, hf⟩ := h
  refine V_icmp_ge 254 d_Mo_press_92 h14 (by decide) (fun h27 => ?_) (fun h27 => ?_)
  · have h := ht h27
    refine V_drop 4 ?_
    refine V_drop 5 ?_
    exact h
  · have h := hf h27
    refine V_iload_n d_Mo_press_95 rfl ?_
    refine V_iload_n d_Mo_press_96 rfl ?_
    refine V_ishr d_Mo_press_97 ?_
    refine V_iconst d_Mo_press_98 ?_
    refine V_iand d_Mo_press_99 ?_
    refine V_iconst d_Mo_press_100 ?_
    obtain ⟨h15, h⟩ := h
    obtain ⟨ht, hf⟩ := h
    refine V_icmp_ne 254 d_Mo_press_101 h15 (by decide) (fun h26 => ?_) (fun h26 => ?_)
    · have h := ht h26
      refine V_drop 4 ?_
      refine V_drop 5 ?_
      exact h
    · have h := hf h26
      refine V_aload_n d_Mo_press_104 rfl ?_
      refine U_geta d_Mo_press_105 fl_Mo_44 sh_147 rfl ?_
      refine V_iload_n d_Mo_press_108 rfl ?_
      obtain ⟨h16, h⟩ := h
      refine U_iald d_Mo_press_109 sh_156 h16 ?_
      obtain ⟨h17, h⟩ := h
      obtain ⟨ht, hf⟩ := h
      refine V_if_ne 254 d_Mo_press_110 h17 (fun h25 => ?_) (fun h25 => ?_)
      · have h := ht h25
        refine V_drop 4 ?_
        refine V_drop 5 ?_
        exact h
      · have h := hf h25
        refine V_aload_n d_Mo_press_113 rfl ?_
        refine U_geta d_Mo_press_114 fl_Mo_75 sh_147 rfl ?_
        refine V_bipush d_Mo_press_117 ?_
        refine V_iload_n d_Mo_press_119 rfl ?_
        refine V_imul d_Mo_press_120 ?_
        refine V_iload d_Mo_press_121 rfl ?_
        refine V_iadd d_Mo_press_123 ?_
        obtain ⟨h18, h⟩ := h
        refine U_iald d_Mo_press_124 sh_166 h18 ?_
        refine V_istore d_Mo_press_125 rfl ?_
        refine V_iload d_Mo_press_127 rfl ?_
        obtain ⟨h19, h⟩ := h
        obtain ⟨ht, hf⟩ := h
        refine V_if_le 248 d_Mo_press_129 h19 (fun h24 => ?_) (fun h24 => ?_)
        · have h := ht h24
          refine V_drop 6 ?_
          exact h
        · have h := hf h24
          refine V_aload_n d_Mo_press_132 rfl ?_
          refine U_geta d_Mo_press_133 fl_Mo_62 sh_147 rfl ?_
          refine V_iload_n d_Mo_press_136 rfl ?_
          refine U_iald d_Mo_press_137 sh_162 h16 ?_
          refine V_iload d_Mo_press_138 rfl ?_
          refine V_isub d_Mo_press_140 ?_
          refine V_aload_n d_Mo_press_141 rfl ?_
          refine V_iload_n d_Mo_press_142 rfl ?_
          refine V_iload d_Mo_press_143 rfl ?_
          refine V_iconst d_Mo_press_145 ?_
          refine U_iv3 cv_Mo_press_212 d_Mo_press_146 sh_147 rfl rfl (am_mono h ?_)
          rintro ro3 so3 σ3 ⟨z3, rfl, rfl, h⟩
          refine V_isub d_Mo_press_149 ?_
          refine V_iload d_Mo_press_150 rfl ?_
          refine U_is2 cv_Mo_press_216 d_Mo_press_152  rfl (am_mono h ?_)
          rintro ro4 so4 σ4 ⟨z4, rfl, rfl, h⟩
          refine V_istore d_Mo_press_155 rfl ?_
          refine V_iload d_Mo_press_157 rfl ?_
          refine V_aload_n d_Mo_press_159 rfl ?_
          refine U_geta d_Mo_press_160 fl_Mo_81 sh_147 rfl ?_
          refine V_iload d_Mo_press_163 rfl ?_
          obtain ⟨h20, h⟩ := h
          refine U_iald d_Mo_press_165 sh_168 h20 ?_
          obtain ⟨h21, h⟩ := h
          obtain ⟨h22, h⟩ := h
          obtain ⟨ht, hf⟩ := h
          refine V_icmp_ge 180 d_Mo_press_166 h21 h22 (fun h23 => ?_) (fun h23 => ?_)
          · have h := ht h23
            refine V_drop 7 ?_
            exact h
          · have h := hf h23
            refine V_aload_n d_Mo_press_169 rfl ?_
            refine U_geta d_Mo_press_170 fl_Mo_81 sh_147 rfl ?_
            refine V_iload d_Mo_press_173 rfl ?_
            refine V_iload d_Mo_press_175 rfl ?_
            refine U_iast d_Mo_press_177 sh_168 h20 ?_
            have h := h _ rfl
            refine V_iconst d_Mo_press_178 ?_
            refine V_istore_n d_Mo_press_179 rfl ?_
            refine V_drop 7 ?_
            exact h
theorem s_Mo_press_254 {x : am_Sc} {Po : Option am_AV → am_Sh → am_St → Prop} {σ : am_St} {v1 v2 v3 : Int}
    (h : am_U x m_Mo_press Po σ 39 [some (Zr 147), some (Zi v1), some (Zi v2), some (Zi (v3 + 1)), none, none, none, none, none] []) : am_U x m_Mo_press Po σ 254 [some (Zr 147), some (Zi v1), some (Zi v2), some (Zi v3), none, none, none, none, none] [] := by
  refine V_iinc d_Mo_press_254 rfl rfl ?_
  refine V_goto 39 d_Mo_press_257 ?_
  exact h
theorem s_Mo_press_248 {x : am_Sc} {Po : Option am_AV → am_Sh → am_St → Prop} {σ : am_St} {v1 v2 v3 v4 v5 : Int}
    (h : am_U x m_Mo_press Po σ 88 [some (Zr 147), some (Zi v1), some (Zi v2), some (Zi v3), some (Zi v4), some (Zi (v5 + 1)), none, none, none] []) : am_U x m_Mo_press Po σ 248 [some (Zr 147), some (Zi v1), some (Zi v2), some (Zi v3), some (Zi v4), some (Zi v5), none, none, none] [] := by
  refine V_iinc d_Mo_press_248 rfl rfl ?_
  refine V_goto 88 d_Mo_press_251 ?_
  exact h
theorem s_Mo_press_180 {x : am_Sc} {Po : Option am_AV → am_Sh → am_St → Prop} {σ : am_St} {v1 v2 v3 v4 v5 v6 : Int}
    (h : am_U x m_Mo_others (fun ro6 so6 σ6 => ∃ z6 : Int, ro6 = some (Zi z6) ∧ so6 = am_SH ∧ (0 ≤ v3 ∧ v3 < 12) ∧ am_U x m_Mo_floorOf (fun ro7 so7 σ7 => ∃ z7 : Int, ro7 = some (Zi z7) ∧ so7 = am_SH ∧ (0 ≤ v5 ∧ v5 < 8) ∧ am_r (-z7) ∧ am_r (σ7.1 167 v5.toNat) ∧ (((-z7) ≤ (σ7.1 167 v5.toNat) → am_U x m_Mo_press Po σ7 229 [some (Zr 147), some (Zi v1), some (Zi v2), some (Zi v3), some (Zi v4), some (Zi v5), none, none, none] []) ∧ (¬ (-z7) ≤ (σ7.1 167 v5.toNat) → (∀ σ8 : am_St, σ8 = (am_up σ7.1 167 v5.toNat (-z7), σ7.2) → am_U x m_Mo_press Po σ8 229 [some (Zr 147), some (Zi v1), some (Zi 1), some (Zi v3), some (Zi v4), some (Zi v5), none, none, none] [])))) σ6 0 [some (Zi ((z6 - (σ6.1 161 v3.toNat)) + v4)), some (Zi v6), none] []) σ 0 [some (Zr 147), some (Zi v3), some (Zi v5), some (Zi 0), none, none] []) : am_U x m_Mo_press Po σ 180 [some (Zr 147), some (Zi v1), some (Zi v2), some (Zi v3), some (Zi v4), some (Zi v5), some (Zi v6), none, none] [] := by
  refine V_aload_n d_Mo_press_180 rfl ?_
  refine V_iload_n d_Mo_press_181 rfl ?_
  refine V_iload d_Mo_press_182 rfl ?_
  refine V_iconst d_Mo_press_184 ?_
  refine U_iv3 cv_Mo_press_212 d_Mo_press_185 sh_147 rfl rfl (am_mono h ?_)
  rintro ro6 so6 σ6 ⟨z6, rfl, rfl, h⟩
  refine V_aload_n d_Mo_press_188 rfl ?_
  refine U_geta d_Mo_press_189 fl_Mo_59 sh_147 rfl ?_
  refine V_iload_n d_Mo_press_192 rfl ?_
  obtain ⟨h28, h⟩ := h
  refine U_iald d_Mo_press_193 sh_161 h28 ?_
  refine V_isub d_Mo_press_194 ?_
  refine V_iload d_Mo_press_195 rfl ?_
  refine V_iadd d_Mo_press_197 ?_
  refine V_iload d_Mo_press_198 rfl ?_
  refine U_is2 cv_Mo_press_216 d_Mo_press_200  rfl (am_mono h ?_)
  rintro ro7 so7 σ7 ⟨z7, rfl, rfl, h⟩
  refine V_ineg d_Mo_press_203 ?_
  refine V_istore d_Mo_press_204 rfl ?_
  refine V_iload d_Mo_press_206 rfl ?_
  refine V_aload_n d_Mo_press_208 rfl ?_
  refine U_geta d_Mo_press_209 fl_Mo_78 sh_147 rfl ?_
  refine V_iload d_Mo_press_212 rfl ?_
  obtain ⟨h29, h⟩ := h
  refine U_iald d_Mo_press_214 sh_167 h29 ?_
  obtain ⟨h30, h⟩ := h
  obtain ⟨h31, h⟩ := h
  obtain ⟨ht, hf⟩ := h
  refine V_icmp_le 229 d_Mo_press_215 h30 h31 (fun h32 => ?_) (fun h32 => ?_)
  · have h := ht h32
    refine V_drop 6 ?_
    refine V_drop 8 ?_
    exact h
  · have h := hf h32
    refine V_aload_n d_Mo_press_218 rfl ?_
    refine U_geta d_Mo_press_219 fl_Mo_78 sh_147 rfl ?_
    refine V_iload d_Mo_press_222 rfl ?_
    refine V_iload d_Mo_press_224 rfl ?_
    refine U_iast d_Mo_press_226 sh_167 h29 ?_
    have h := h _ rfl
    refine V_iconst d_Mo_press_227 ?_
    refine V_istore_n d_Mo_press_228 rfl ?_
    refine V_drop 6 ?_
    refine V_drop 8 ?_
    exact h
theorem s_Mo_press_229 {x : am_Sc} {Po : Option am_AV → am_Sh → am_St → Prop} {σ : am_St} {v1 v2 v3 v4 v5 : Int}
    (h : (0 ≤ v5 ∧ v5 < 8) ∧ am_r (σ.1 167 v5.toNat) ∧ am_r (σ.1 168 v5.toNat) ∧ (((σ.1 167 v5.toNat) ≤ (σ.1 168 v5.toNat) → am_U x m_Mo_press Po σ 248 [some (Zr 147), some (Zi v1), some (Zi v2), some (Zi v3), some (Zi v4), some (Zi v5), none, none, none] []) ∧ (¬ (σ.1 167 v5.toNat) ≤ (σ.1 168 v5.toNat) → Po (some (Zi 0)) am_SH σ))) : am_U x m_Mo_press Po σ 229 [some (Zr 147), some (Zi v1), some (Zi v2), some (Zi v3), some (Zi v4), some (Zi v5), none, none, none] [] := by
  refine V_aload_n d_Mo_press_229 rfl ?_
  refine U_geta d_Mo_press_230 fl_Mo_78 sh_147 rfl ?_
  refine V_iload d_Mo_press_233 rfl ?_
  obtain ⟨h33, h⟩ := h
  refine U_iald d_Mo_press_235 sh_167 h33 ?_
  refine V_aload_n d_Mo_press_236 rfl ?_
  refine U_geta d_Mo_press_237 fl_Mo_81 sh_147 rfl ?_
  refine V_iload d_Mo_press_240 rfl ?_
  refine U_iald d_Mo_press_242 sh_168 h33 ?_
  obtain ⟨h34, h⟩ := h
  obtain ⟨h35, h⟩ := h
  obtain ⟨ht, hf⟩ := h
  refine V_icmp_le 248 d_Mo_press_243 h34 h35 (fun h36 => ?_) (fun h36 => ?_)
  · have h := ht h36
    exact h
  · have h := hf h36
    refine V_iconst d_Mo_press_246 ?_
    exact V_zret d_Mo_press_247 rfl rfl (Or.inl rfl) h
theorem s_Mo_others_0 {x : am_Sc} {Po : Option am_AV → am_Sh → am_St → Prop} {σ : am_St} {v1 v2 v3 : Int}
    (h : am_U x m_Mo_others Po σ 6 [some (Zr 147), some (Zi v1), some (Zi v2), some (Zi v3), some (Zi 0), some (Zi 0)] []) : am_U x m_Mo_others Po σ 0 [some (Zr 147), some (Zi v1), some (Zi v2), some (Zi v3), none, none] [] := by
  refine V_iconst d_Mo_others_0 ?_
  refine V_istore d_Mo_others_1 rfl ?_
  refine V_iconst d_Mo_others_3 ?_
  refine V_istore d_Mo_others_4 rfl ?_
  exact h
theorem s_Mo_others_6 {x : am_Sc} {Po : Option am_AV → am_Sh → am_St → Prop} {σ : am_St} {v1 v2 v3 v4 v5 : Int}
    (h : am_r v5 ∧ ((8 ≤ v5 → Po (some (Zi v4)) am_SH σ) ∧ (¬ 8 ≤ v5 → am_r v2 ∧ ((¬ v5 = v2 → (0 ≤ (8 * v1) + v5 ∧ (8 * v1) + v5 < 96) ∧ am_r v3 ∧ ((v3 = 0 → (0 ≤ v5 ∧ v5 < 8) ∧ am_U x m_Mo_others Po σ 58 [some (Zr 147), some (Zi v1), some (Zi v2), some (Zi v3), none, some (Zi v5)] [Zi (σ.1 168 v5.toNat), Zi (σ.1 166 ((8 * v1) + v5).toNat), Zi v4]) ∧ (¬ v3 = 0 → (0 ≤ v5 ∧ v5 < 8) ∧ am_U x m_Mo_others Po σ 58 [some (Zr 147), some (Zi v1), some (Zi v2), some (Zi v3), none, some (Zi v5)] [Zi (σ.1 167 v5.toNat), Zi (σ.1 166 ((8 * v1) + v5).toNat), Zi v4]))) ∧ (v5 = v2 → am_U x m_Mo_others Po σ 59 [some (Zr 147), some (Zi v1), some (Zi v2), some (Zi v3), none, some (Zi v5)] [Zi 0, Zi v4]))))) : am_U x m_Mo_others Po σ 6 [some (Zr 147), some (Zi v1), some (Zi v2), some (Zi v3), some (Zi v4), some (Zi v5)] [] := by
  refine V_iload d_Mo_others_6 rfl ?_
  refine V_bipush d_Mo_others_8 ?_
  obtain ⟨h1, h⟩ := h
  obtain ⟨ht, hf⟩ := h
  refine V_icmp_ge 68 d_Mo_others_10 h1 (by decide) (fun h9 => ?_) (fun h9 => ?_)
  · have h := ht h9
    refine V_iload d_Mo_others_68 rfl ?_
    exact V_iret d_Mo_others_70 rfl rfl h
  · have h := hf h9
    refine V_iload d_Mo_others_13 rfl ?_
    refine V_iload d_Mo_others_15 rfl ?_
    refine V_iload_n d_Mo_others_17 rfl ?_
    obtain ⟨h2, h⟩ := h
    obtain ⟨ht, hf⟩ := h
    refine V_icmp_ne 25 d_Mo_others_18 h1 h2 (fun h8 => ?_) (fun h8 => ?_)
    · have h := ht h8
      refine V_aload_n d_Mo_others_25 rfl ?_
      refine U_geta d_Mo_others_26 fl_Mo_75 sh_147 rfl ?_
      refine V_bipush d_Mo_others_29 ?_
      refine V_iload_n d_Mo_others_31 rfl ?_
      refine V_imul d_Mo_others_32 ?_
      refine V_iload d_Mo_others_33 rfl ?_
      refine V_iadd d_Mo_others_35 ?_
      obtain ⟨h3, h⟩ := h
      refine U_iald d_Mo_others_36 sh_166 h3 ?_
      refine V_iload_n d_Mo_others_37 rfl ?_
      obtain ⟨h4, h⟩ := h
      obtain ⟨ht, hf⟩ := h
      refine V_if_eq 51 d_Mo_others_38 h4 (fun h7 => ?_) (fun h7 => ?_)
      · have h := ht h7
        refine V_aload_n d_Mo_others_51 rfl ?_
        refine U_geta d_Mo_others_52 fl_Mo_81 sh_147 rfl ?_
        refine V_iload d_Mo_others_55 rfl ?_
        obtain ⟨h5, h⟩ := h
        refine U_iald d_Mo_others_57 sh_168 h5 ?_
        refine V_drop 4 ?_
        exact h
      · have h := hf h7
        refine V_aload_n d_Mo_others_41 rfl ?_
        refine U_geta d_Mo_others_42 fl_Mo_78 sh_147 rfl ?_
        refine V_iload d_Mo_others_45 rfl ?_
        obtain ⟨h6, h⟩ := h
        refine U_iald d_Mo_others_47 sh_167 h6 ?_
        refine V_goto 58 d_Mo_others_48 ?_
        refine V_drop 4 ?_
        exact h
    · have h := hf h8
      refine V_iconst d_Mo_others_21 ?_
      refine V_goto 59 d_Mo_others_22 ?_
      refine V_drop 4 ?_
      exact h
theorem s_Mo_others_58 {x : am_Sc} {Po : Option am_AV → am_Sh → am_St → Prop} {σ : am_St} {v1 v2 v3 v5 vk0 vk1 vk2 : Int}
    (h : am_U x m_Mo_others Po σ 59 [some (Zr 147), some (Zi v1), some (Zi v2), some (Zi v3), none, some (Zi v5)] [Zi (vk1 * vk2), Zi vk0]) : am_U x m_Mo_others Po σ 58 [some (Zr 147), some (Zi v1), some (Zi v2), some (Zi v3), none, some (Zi v5)] [Zi vk2, Zi vk1, Zi vk0] := by
  refine V_imul d_Mo_others_58 ?_
  exact h
theorem s_Mo_others_59 {x : am_Sc} {Po : Option am_AV → am_Sh → am_St → Prop} {σ : am_St} {v1 v2 v3 v5 vk0 vk1 : Int}
    (h : am_U x m_Mo_others Po σ 6 [some (Zr 147), some (Zi v1), some (Zi v2), some (Zi v3), some (Zi (vk0 + vk1)), some (Zi (v5 + 1))] []) : am_U x m_Mo_others Po σ 59 [some (Zr 147), some (Zi v1), some (Zi v2), some (Zi v3), none, some (Zi v5)] [Zi vk1, Zi vk0] := by
  refine V_iadd d_Mo_others_59 ?_
  refine V_istore d_Mo_others_60 rfl ?_
  refine V_iinc d_Mo_others_62 rfl rfl ?_
  refine V_goto 6 d_Mo_others_65 ?_
  exact h
theorem s_Mo_floorOf_0 {x : am_Sc} {Po : Option am_AV → am_Sh → am_St → Prop} {σ : am_St} {v0 v1 : Int}
    (h : am_r v1 ∧ v1 ≠ 0 ∧ am_r (am_rem v0 v1) ∧ (((am_rem v0 v1) = 0 → am_U x m_Mo_floorOf Po σ 20 [none, none, some (Zi (am_div v0 v1))] []) ∧ (¬ (am_rem v0 v1) = 0 → am_r v0 ∧ ((0 ≤ v0 → am_U x m_Mo_floorOf Po σ 20 [none, none, some (Zi (am_div v0 v1))] []) ∧ (¬ 0 ≤ v0 → am_U x m_Mo_floorOf Po σ 21 [none, none, none] [Zi ((am_div v0 v1) - 1)]))))) : am_U x m_Mo_floorOf Po σ 0 [some (Zi v0), some (Zi v1), none] [] := by
  refine V_iload_n d_Mo_floorOf_0 rfl ?_
  refine V_iload_n d_Mo_floorOf_1 rfl ?_
  obtain ⟨h1, h⟩ := h
  obtain ⟨h2, h⟩ := h
  refine V_idiv d_Mo_floorOf_2 h1 h2 ?_
  refine V_istore_n d_Mo_floorOf_3 rfl ?_
  refine V_iload_n d_Mo_floorOf_4 rfl ?_
  refine V_iload_n d_Mo_floorOf_5 rfl ?_
  refine V_irem d_Mo_floorOf_6 h1 h2 ?_
  obtain ⟨h3, h⟩ := h
  obtain ⟨ht, hf⟩ := h
  refine V_if_eq 20 d_Mo_floorOf_7 h3 (fun h6 => ?_) (fun h6 => ?_)
  · have h := ht h6
    refine V_drop 0 ?_
    refine V_drop 1 ?_
    exact h
  · have h := hf h6
    refine V_iload_n d_Mo_floorOf_10 rfl ?_
    obtain ⟨h4, h⟩ := h
    obtain ⟨ht, hf⟩ := h
    refine V_if_ge 20 d_Mo_floorOf_11 h4 (fun h5 => ?_) (fun h5 => ?_)
    · have h := ht h5
      refine V_drop 0 ?_
      refine V_drop 1 ?_
      exact h
    · have h := hf h5
      refine V_iload_n d_Mo_floorOf_14 rfl ?_
      refine V_iconst d_Mo_floorOf_15 ?_
      refine V_isub d_Mo_floorOf_16 ?_
      refine V_goto 21 d_Mo_floorOf_17 ?_
      refine V_drop 0 ?_
      refine V_drop 1 ?_
      refine V_drop 2 ?_
      exact h
theorem s_Mo_floorOf_20 {x : am_Sc} {Po : Option am_AV → am_Sh → am_St → Prop} {σ : am_St} {v2 : Int}
    (h : am_U x m_Mo_floorOf Po σ 21 [none, none, none] [Zi v2]) : am_U x m_Mo_floorOf Po σ 20 [none, none, some (Zi v2)] [] := by
  refine V_iload_n d_Mo_floorOf_20 rfl ?_
  refine V_drop 2 ?_
  exact h
theorem s_Mo_floorOf_21 {x : am_Sc} {Po : Option am_AV → am_Sh → am_St → Prop} {σ : am_St} {vk0 : Int}
    (h : Po (some (Zi vk0)) am_SH σ) : am_U x m_Mo_floorOf Po σ 21 [none, none, none] [Zi vk0] := by
  exact V_iret d_Mo_floorOf_21 rfl rfl h
theorem s_Mo_quarrel_0 {x : am_Sc} {Po : Option am_AV → am_Sh → am_St → Prop} {σ : am_St}
    (h : am_U x m_Mo_findRays (fun ro1 so1 σ1 => ro1 = none ∧ so1 = am_SH ∧ am_U x m_Mo_quarrel Po σ1 8 [some (Zr 147), some (Zi 0), some (Zi 0), none] []) σ 0 [some (Zr 147), none] []) : am_U x m_Mo_quarrel Po σ 0 [some (Zr 147), none, none, none] [] := by
  refine V_aload_n d_Mo_quarrel_0 rfl ?_
  refine U_iv0 cv_Mo_quarrel_219 d_Mo_quarrel_1 sh_147 rfl rfl (am_mono h ?_)
  rintro ro1 so1 σ1 ⟨rfl, rfl, h⟩
  refine V_iconst d_Mo_quarrel_4 ?_
  refine V_istore_n d_Mo_quarrel_5 rfl ?_
  refine V_iconst d_Mo_quarrel_6 ?_
  refine V_istore_n d_Mo_quarrel_7 rfl ?_
  exact h
theorem s_Mo_quarrel_8 {x : am_Sc} {Po : Option am_AV → am_Sh → am_St → Prop} {σ : am_St} {v1 v2 : Int}
    (h : am_r v2 ∧ am_r (σ.1 147 11) ∧ (((σ.1 147 11) ≤ v2 → am_U x m_Mo_quarrel Po σ 45 [some (Zr 147), some (Zi v1), some (Zi 0), some (Zi 1)] []) ∧ (¬ (σ.1 147 11) ≤ v2 → (0 ≤ v2 ∧ v2 < 12) ∧ am_r (σ.1 156 v2.toNat) ∧ ((¬ (σ.1 156 v2.toNat) = 0 → am_U x m_Mo_quarrel Po σ 33 [some (Zr 147), none, some (Zi v2), none] [Zi 0, Zi v1]) ∧ ((σ.1 156 v2.toNat) = 0 → am_U x m_Mo_quarrel Po σ 33 [some (Zr 147), none, some (Zi v2), none] [Zi (am_shl 1 v2), Zi v1]))))) : am_U x m_Mo_quarrel Po σ 8 [some (Zr 147), some (Zi v1), some (Zi v2), none] [] := by
  refine V_iload_n d_Mo_quarrel_8 rfl ?_
  refine V_aload_n d_Mo_quarrel_9 rfl ?_
  refine U_geti d_Mo_quarrel_10 fl_Mo_132 sh_147 ?_
  obtain ⟨h1, h⟩ := h
  obtain ⟨h2, h⟩ := h
  obtain ⟨ht, hf⟩ := h
  refine V_icmp_ge 41 d_Mo_quarrel_13 h1 h2 (fun h6 => ?_) (fun h6 => ?_)
  · have h := ht h6
    refine V_iconst d_Mo_quarrel_41 ?_
    refine V_istore_n d_Mo_quarrel_42 rfl ?_
    refine V_iconst d_Mo_quarrel_43 ?_
    refine V_istore_n d_Mo_quarrel_44 rfl ?_
    exact h
  · have h := hf h6
    refine V_iload_n d_Mo_quarrel_16 rfl ?_
    refine V_aload_n d_Mo_quarrel_17 rfl ?_
    refine U_geta d_Mo_quarrel_18 fl_Mo_44 sh_147 rfl ?_
    refine V_iload_n d_Mo_quarrel_21 rfl ?_
    obtain ⟨h3, h⟩ := h
    refine U_iald d_Mo_quarrel_22 sh_156 h3 ?_
    obtain ⟨h4, h⟩ := h
    obtain ⟨ht, hf⟩ := h
    refine V_if_ne 32 d_Mo_quarrel_23 h4 (fun h5 => ?_) (fun h5 => ?_)
    · have h := ht h5
      refine V_iconst d_Mo_quarrel_32 ?_
      refine V_drop 1 ?_
      exact h
    · have h := hf h5
      refine V_iconst d_Mo_quarrel_26 ?_
      refine V_iload_n d_Mo_quarrel_27 rfl ?_
      refine V_ishl d_Mo_quarrel_28 ?_
      refine V_goto 33 d_Mo_quarrel_29 ?_
      refine V_drop 1 ?_
      exact h
theorem s_Mo_quarrel_45 {x : am_Sc} {Po : Option am_AV → am_Sh → am_St → Prop} {σ : am_St} {v1 v2 v3 : Int}
    (h : am_r v3 ∧ am_r v1 ∧ ((v1 < v3 → Po (some (Zi v2)) am_SH σ) ∧ (¬ v1 < v3 → am_r (am_and v3 (am_xor v1 (-1))) ∧ ((¬ (am_and v3 (am_xor v1 (-1))) = 0 → am_U x m_Mo_quarrel Po σ 83 [some (Zr 147), some (Zi v1), some (Zi v2), some (Zi v3)] []) ∧ ((am_and v3 (am_xor v1 (-1))) = 0 → am_r v2 ∧ ((v2 = 0 → am_U x m_Mo_quarrel Po σ 73 [some (Zr 147), some (Zi v1), some (Zi v2), some (Zi v3)] []) ∧ (¬ v2 = 0 → am_U x m_Mo_bits (fun ro2 so2 σ2 => ∃ z2 : Int, ro2 = some (Zi z2) ∧ so2 = am_SH ∧ am_U x m_Mo_bits (fun ro3 so3 σ3 => ∃ z3 : Int, ro3 = some (Zi z3) ∧ so3 = am_SH ∧ am_r z2 ∧ am_r z3 ∧ ((z3 ≤ z2 → am_U x m_Mo_quarrel Po σ3 83 [some (Zr 147), some (Zi v1), some (Zi v2), some (Zi v3)] []) ∧ (¬ z3 ≤ z2 → am_U x m_Mo_quarrel Po σ3 73 [some (Zr 147), some (Zi v1), some (Zi v2), some (Zi v3)] []))) σ2 0 [some (Zi v2), none, none] []) σ 0 [some (Zi v3), none, none] []))))))) : am_U x m_Mo_quarrel Po σ 45 [some (Zr 147), some (Zi v1), some (Zi v2), some (Zi v3)] [] := by
  refine V_iload_n d_Mo_quarrel_45 rfl ?_
  refine V_iload_n d_Mo_quarrel_46 rfl ?_
  obtain ⟨h7, h⟩ := h
  obtain ⟨h8, h⟩ := h
  obtain ⟨ht, hf⟩ := h
  refine V_icmp_gt 89 d_Mo_quarrel_47 h7 h8 (fun h16 => ?_) (fun h16 => ?_)
  · have h := ht h16
    refine V_iload_n d_Mo_quarrel_89 rfl ?_
    exact V_iret d_Mo_quarrel_90 rfl rfl h
  · have h := hf h16
    refine V_iload_n d_Mo_quarrel_50 rfl ?_
    refine V_iload_n d_Mo_quarrel_51 rfl ?_
    refine V_iconst d_Mo_quarrel_52 ?_
    refine V_ixor d_Mo_quarrel_53 ?_
    refine V_iand d_Mo_quarrel_54 ?_
    obtain ⟨h9, h⟩ := h
    obtain ⟨ht, hf⟩ := h
    refine V_if_ne 83 d_Mo_quarrel_55 h9 (fun h15 => ?_) (fun h15 => ?_)
    · have h := ht h15
      exact h
    · have h := hf h15
      refine V_iload_n d_Mo_quarrel_58 rfl ?_
      obtain ⟨h10, h⟩ := h
      obtain ⟨ht, hf⟩ := h
      refine V_if_eq 73 d_Mo_quarrel_59 h10 (fun h14 => ?_) (fun h14 => ?_)
      · have h := ht h14
        exact h
      · have h := hf h14
        refine V_iload_n d_Mo_quarrel_62 rfl ?_
        refine U_is1 cv_Mo_quarrel_225 d_Mo_quarrel_63  rfl (am_mono h ?_)
        rintro ro2 so2 σ2 ⟨z2, rfl, rfl, h⟩
        refine V_iload_n d_Mo_quarrel_66 rfl ?_
        refine U_is1 cv_Mo_quarrel_225 d_Mo_quarrel_67  rfl (am_mono h ?_)
        rintro ro3 so3 σ3 ⟨z3, rfl, rfl, h⟩
        obtain ⟨h11, h⟩ := h
        obtain ⟨h12, h⟩ := h
        obtain ⟨ht, hf⟩ := h
        refine V_icmp_ge 83 d_Mo_quarrel_70 h11 h12 (fun h13 => ?_) (fun h13 => ?_)
        · have h := ht h13
          exact h
        · have h := hf h13
          exact h
theorem s_Mo_quarrel_33 {x : am_Sc} {Po : Option am_AV → am_Sh → am_St → Prop} {σ : am_St} {v2 vk0 vk1 : Int}
    (h : am_U x m_Mo_quarrel Po σ 8 [some (Zr 147), some (Zi (am_or vk0 vk1)), some (Zi (v2 + 1)), none] []) : am_U x m_Mo_quarrel Po σ 33 [some (Zr 147), none, some (Zi v2), none] [Zi vk1, Zi vk0] := by
  refine V_ior d_Mo_quarrel_33 ?_
  refine V_istore_n d_Mo_quarrel_34 rfl ?_
  refine V_iinc d_Mo_quarrel_35 rfl rfl ?_
  refine V_goto 8 d_Mo_quarrel_38 ?_
  exact h
theorem s_Mo_quarrel_83 {x : am_Sc} {Po : Option am_AV → am_Sh → am_St → Prop} {σ : am_St} {v1 v2 v3 : Int}
    (h : am_U x m_Mo_quarrel Po σ 45 [some (Zr 147), some (Zi v1), some (Zi v2), some (Zi (v3 + 1))] []) : am_U x m_Mo_quarrel Po σ 83 [some (Zr 147), some (Zi v1), some (Zi v2), some (Zi v3)] [] := by
  refine V_iinc d_Mo_quarrel_83 rfl rfl ?_
  refine V_goto 45 d_Mo_quarrel_86 ?_
  exact h
theorem s_Mo_quarrel_73 {x : am_Sc} {Po : Option am_AV → am_Sh → am_St → Prop} {σ : am_St} {v1 v2 v3 : Int}
    (h : am_U x m_Mo_press (fun ro4 so4 σ4 => ∃ z4 : Int, ro4 = some (Zi z4) ∧ so4 = am_SH ∧ am_r z4 ∧ ((¬ z4 = 0 → am_U x m_Mo_quarrel Po σ4 83 [some (Zr 147), some (Zi v1), some (Zi v2), some (Zi v3)] []) ∧ (z4 = 0 → am_U x m_Mo_quarrel Po σ4 83 [some (Zr 147), some (Zi v1), some (Zi v3), some (Zi v3)] []))) σ 0 [some (Zr 147), some (Zi v3), none, none, none, none, none, none, none] []) : am_U x m_Mo_quarrel Po σ 73 [some (Zr 147), some (Zi v1), some (Zi v2), some (Zi v3)] [] := by
  refine V_aload_n d_Mo_quarrel_73 rfl ?_
  refine V_iload_n d_Mo_quarrel_74 rfl ?_
  refine U_iv1 cv_Mo_quarrel_222 d_Mo_quarrel_75 sh_147 rfl rfl (am_mono h ?_)
  rintro ro4 so4 σ4 ⟨z4, rfl, rfl, h⟩
  obtain ⟨h17, h⟩ := h
  obtain ⟨ht, hf⟩ := h
  refine V_if_ne 83 d_Mo_quarrel_78 h17 (fun h18 => ?_) (fun h18 => ?_)
  · have h := ht h18
    exact h
  · have h := hf h18
    refine V_iload_n d_Mo_quarrel_81 rfl ?_
    refine V_istore_n d_Mo_quarrel_82 rfl ?_
    exact h
theorem s_Mo_bits_0 {x : am_Sc} {Po : Option am_AV → am_Sh → am_St → Prop} {σ : am_St} {v0 : Int}
    (h : am_U x m_Mo_bits Po σ 4 [some (Zi v0), some (Zi 0), some (Zi 0)] []) : am_U x m_Mo_bits Po σ 0 [some (Zi v0), none, none] [] := by
  refine V_iconst d_Mo_bits_0 ?_
  refine V_istore_n d_Mo_bits_1 rfl ?_
  refine V_iconst d_Mo_bits_2 ?_
  refine V_istore_n d_Mo_bits_3 rfl ?_
  exact h
theorem s_Mo_bits_4 {x : am_Sc} {Po : Option am_AV → am_Sh → am_St → Prop} {σ : am_St} {v0 v1 v2 : Int}
    (h : am_r v2 ∧ ((16 ≤ v2 → Po (some (Zi v1)) am_SH σ) ∧ (¬ 16 ≤ v2 → am_U x m_Mo_bits Po σ 4 [some (Zi v0), some (Zi (v1 + (am_and (am_shr v0 v2) 1))), some (Zi (v2 + 1))] []))) : am_U x m_Mo_bits Po σ 4 [some (Zi v0), some (Zi v1), some (Zi v2)] [] := by
  refine V_iload_n d_Mo_bits_4 rfl ?_
  refine V_bipush d_Mo_bits_5 ?_
  obtain ⟨h1, h⟩ := h
  obtain ⟨ht, hf⟩ := h
  refine V_icmp_ge 24 d_Mo_bits_7 h1 (by decide) (fun h2 => ?_) (fun h2 => ?_)
  · have h := ht h2
    refine V_iload_n d_Mo_bits_24 rfl ?_
    exact V_iret d_Mo_bits_25 rfl rfl h
  · have h := hf h2
    refine V_iload_n d_Mo_bits_10 rfl ?_
    refine V_iload_n d_Mo_bits_11 rfl ?_
    refine V_iload_n d_Mo_bits_12 rfl ?_
    refine V_ishr d_Mo_bits_13 ?_
    refine V_iconst d_Mo_bits_14 ?_
    refine V_iand d_Mo_bits_15 ?_
    refine V_iadd d_Mo_bits_16 ?_
    refine V_istore_n d_Mo_bits_17 rfl ?_
    refine V_iinc d_Mo_bits_18 rfl rfl ?_
    refine V_goto 4 d_Mo_bits_21 ?_
    exact h
theorem s_Mo_rank_0 {x : am_Sc} {Po : Option am_AV → am_Sh → am_St → Prop} {σ : am_St}
    (h : am_U x m_Mo_findRays (fun ro1 so1 σ1 => ro1 = none ∧ so1 = am_SH ∧ am_U x m_Mo_layRows (fun ro2 so2 σ2 => ∃ z2 : Int, ro2 = some (Zi z2) ∧ so2 = am_SH ∧ am_U x m_Mo_rankOf (fun ro3 so3 σ3 => ∃ z3 : Int, ro3 = some (Zi z3) ∧ so3 = am_SH ∧ Po (some (Zi z3)) am_SH σ3) σ2 0 [some (Zr 147), some (Zi z2), none, none, none, none, none, none, none, none, none] []) σ1 0 [some (Zr 147), none, none, none] []) σ 0 [some (Zr 147), none] []) : am_U x m_Mo_rank Po σ 0 [some (Zr 147)] [] := by
  refine V_aload_n d_Mo_rank_0 rfl ?_
  refine U_iv0 cv_Mo_rank_219 d_Mo_rank_1 sh_147 rfl rfl (am_mono h ?_)
  rintro ro1 so1 σ1 ⟨rfl, rfl, h⟩
  refine V_aload_n d_Mo_rank_4 rfl ?_
  refine V_aload_n d_Mo_rank_5 rfl ?_
  refine U_iv0 cv_Mo_rank_238 d_Mo_rank_6 sh_147 rfl rfl (am_mono h ?_)
  rintro ro2 so2 σ2 ⟨z2, rfl, rfl, h⟩
  refine U_iv1 cv_Mo_rank_241 d_Mo_rank_9 sh_147 rfl rfl (am_mono h ?_)
  rintro ro3 so3 σ3 ⟨z3, rfl, rfl, h⟩
  exact V_iret d_Mo_rank_12 rfl rfl h
theorem s_Mo_layRows_0 {x : am_Sc} {Po : Option am_AV → am_Sh → am_St → Prop} {σ : am_St}
    (h : am_U x m_Mo_layRows Po σ 4 [some (Zr 147), some (Zi 0), some (Zi 0), none] []) : am_U x m_Mo_layRows Po σ 0 [some (Zr 147), none, none, none] [] := by
  refine V_iconst d_Mo_layRows_0 ?_
  refine V_istore_n d_Mo_layRows_1 rfl ?_
  refine V_iconst d_Mo_layRows_2 ?_
  refine V_istore_n d_Mo_layRows_3 rfl ?_
  exact h
theorem s_Mo_layRows_4 {x : am_Sc} {Po : Option am_AV → am_Sh → am_St → Prop} {σ : am_St} {v1 v2 : Int}
    (h : am_r v2 ∧ am_r (σ.1 147 11) ∧ (((σ.1 147 11) ≤ v2 → Po (some (Zi v1)) am_SH σ) ∧ (¬ (σ.1 147 11) ≤ v2 → (0 ≤ v2 ∧ v2 < 12) ∧ am_r (σ.1 156 v2.toNat) ∧ ((¬ (σ.1 156 v2.toNat) = 0 → am_U x m_Mo_layRows Po σ 61 [some (Zr 147), some (Zi v1), some (Zi v2), none] []) ∧ ((σ.1 156 v2.toNat) = 0 → am_U x m_Mo_layRows Po σ 23 [some (Zr 147), some (Zi v1), some (Zi v2), some (Zi 0)] []))))) : am_U x m_Mo_layRows Po σ 4 [some (Zr 147), some (Zi v1), some (Zi v2), none] [] := by
  refine V_iload_n d_Mo_layRows_4 rfl ?_
  refine V_aload_n d_Mo_layRows_5 rfl ?_
  refine U_geti d_Mo_layRows_6 fl_Mo_132 sh_147 ?_
  obtain ⟨h1, h⟩ := h
  obtain ⟨h2, h⟩ := h
  obtain ⟨ht, hf⟩ := h
  refine V_icmp_ge 67 d_Mo_layRows_9 h1 h2 (fun h6 => ?_) (fun h6 => ?_)
  · have h := ht h6
    refine V_iload_n d_Mo_layRows_67 rfl ?_
    exact V_iret d_Mo_layRows_68 rfl rfl h
  · have h := hf h6
    refine V_aload_n d_Mo_layRows_12 rfl ?_
    refine U_geta d_Mo_layRows_13 fl_Mo_44 sh_147 rfl ?_
    refine V_iload_n d_Mo_layRows_16 rfl ?_
    obtain ⟨h3, h⟩ := h
    refine U_iald d_Mo_layRows_17 sh_156 h3 ?_
    obtain ⟨h4, h⟩ := h
    obtain ⟨ht, hf⟩ := h
    refine V_if_ne 61 d_Mo_layRows_18 h4 (fun h5 => ?_) (fun h5 => ?_)
    · have h := ht h5
      exact h
    · have h := hf h5
      refine V_iconst d_Mo_layRows_21 ?_
      refine V_istore_n d_Mo_layRows_22 rfl ?_
      exact h
theorem s_Mo_layRows_61 {x : am_Sc} {Po : Option am_AV → am_Sh → am_St → Prop} {σ : am_St} {v1 v2 : Int}
    (h : am_U x m_Mo_layRows Po σ 4 [some (Zr 147), some (Zi v1), some (Zi (v2 + 1)), none] []) : am_U x m_Mo_layRows Po σ 61 [some (Zr 147), some (Zi v1), some (Zi v2), none] [] := by
  refine V_iinc d_Mo_layRows_61 rfl rfl ?_
  refine V_goto 4 d_Mo_layRows_64 ?_
  exact h
theorem s_Mo_layRows_23 {x : am_Sc} {Po : Option am_AV → am_Sh → am_St → Prop} {σ : am_St} {v1 v2 v3 : Int}
    (h : am_r v3 ∧ ((8 ≤ v3 → am_U x m_Mo_layRows Po σ 61 [some (Zr 147), some (Zi (v1 + 1)), some (Zi v2), none] []) ∧ (¬ 8 ≤ v3 → (0 ≤ (8 * v2) + v3 ∧ (8 * v2) + v3 < 96) ∧ (0 ≤ (8 * v1) + v3 ∧ (8 * v1) + v3 < 160) ∧ (∀ σ1 : am_St, σ1 = (σ.1, am_up σ.2 169 ((8 * v1) + v3).toNat (am_i2l (σ.1 166 ((8 * v2) + v3).toNat))) → am_U x m_Mo_layRows Po σ1 23 [some (Zr 147), some (Zi v1), some (Zi v2), some (Zi (v3 + 1))] [])))) : am_U x m_Mo_layRows Po σ 23 [some (Zr 147), some (Zi v1), some (Zi v2), some (Zi v3)] [] := by
  refine V_iload_n d_Mo_layRows_23 rfl ?_
  refine V_bipush d_Mo_layRows_24 ?_
  obtain ⟨h7, h⟩ := h
  obtain ⟨ht, hf⟩ := h
  refine V_icmp_ge 58 d_Mo_layRows_26 h7 (by decide) (fun h10 => ?_) (fun h10 => ?_)
  · have h := ht h10
    refine V_iinc d_Mo_layRows_58 rfl rfl ?_
    refine V_drop 3 ?_
    exact h
  · have h := hf h10
    refine V_aload_n d_Mo_layRows_29 rfl ?_
    refine U_geta d_Mo_layRows_30 fl_Mo_84 sh_147 rfl ?_
    refine V_bipush d_Mo_layRows_33 ?_
    refine V_iload_n d_Mo_layRows_35 rfl ?_
    refine V_imul d_Mo_layRows_36 ?_
    refine V_iload_n d_Mo_layRows_37 rfl ?_
    refine V_iadd d_Mo_layRows_38 ?_
    refine V_aload_n d_Mo_layRows_39 rfl ?_
    refine U_geta d_Mo_layRows_40 fl_Mo_75 sh_147 rfl ?_
    refine V_bipush d_Mo_layRows_43 ?_
    refine V_iload_n d_Mo_layRows_45 rfl ?_
    refine V_imul d_Mo_layRows_46 ?_
    refine V_iload_n d_Mo_layRows_47 rfl ?_
    refine V_iadd d_Mo_layRows_48 ?_
    obtain ⟨h8, h⟩ := h
    refine U_iald d_Mo_layRows_49 sh_166 h8 ?_
    refine V_i2l d_Mo_layRows_50 ?_
    obtain ⟨h9, h⟩ := h
    refine U_last d_Mo_layRows_51 sh_169 h9 ?_
    have h := h _ rfl
    refine V_iinc d_Mo_layRows_52 rfl rfl ?_
    refine V_goto 23 d_Mo_layRows_55 ?_
    exact h
theorem s_Mo_rankOf_0 {x : am_Sc} {Po : Option am_AV → am_Sh → am_St → Prop} {σ : am_St} {v1 : Int}
    (h : am_U x m_Mo_rankOf Po σ 4 [some (Zr 147), some (Zi v1), some (Zi 0), some (Zi 0), none, none, none, none, none, none, none] []) : am_U x m_Mo_rankOf Po σ 0 [some (Zr 147), some (Zi v1), none, none, none, none, none, none, none, none, none] [] := by
  refine V_iconst d_Mo_rankOf_0 ?_
  refine V_istore_n d_Mo_rankOf_1 rfl ?_
  refine V_iconst d_Mo_rankOf_2 ?_
  refine V_istore_n d_Mo_rankOf_3 rfl ?_
  exact h
theorem s_Mo_rankOf_4 {x : am_Sc} {Po : Option am_AV → am_Sh → am_St → Prop} {σ : am_St} {v1 v2 v3 : Int}
    (h : am_r v3 ∧ ((8 ≤ v3 → Po (some (Zi v2)) am_SH σ) ∧ (¬ 8 ≤ v3 → am_U x m_Mo_rankOf Po σ 13 [some (Zr 147), some (Zi v1), some (Zi v2), some (Zi v3), some (Zi v2), none, none, none, none, none, none] []))) : am_U x m_Mo_rankOf Po σ 4 [some (Zr 147), some (Zi v1), some (Zi v2), some (Zi v3), none, none, none, none, none, none, none] [] := by
  refine V_iload_n d_Mo_rankOf_4 rfl ?_
  refine V_bipush d_Mo_rankOf_5 ?_
  obtain ⟨h1, h⟩ := h
  obtain ⟨ht, hf⟩ := h
  refine V_icmp_ge 247 d_Mo_rankOf_7 h1 (by decide) (fun h2 => ?_) (fun h2 => ?_)
  · have h := ht h2
    refine V_iload_n d_Mo_rankOf_247 rfl ?_
    exact V_iret d_Mo_rankOf_248 rfl rfl h
  · have h := hf h2
    refine V_iload_n d_Mo_rankOf_10 rfl ?_
    refine V_istore d_Mo_rankOf_11 rfl ?_
    exact h
theorem s_Mo_rankOf_13 {x : am_Sc} {Po : Option am_AV → am_Sh → am_St → Prop} {σ : am_St} {v1 v2 v3 v4 : Int}
    (h : am_r v4 ∧ am_r v1 ∧ ((v1 ≤ v4 → am_U x m_Mo_rankOf Po σ 42 [some (Zr 147), some (Zi v1), some (Zi v2), some (Zi v3), some (Zi v4), none, none, none, none, none, none] []) ∧ (¬ v1 ≤ v4 → (0 ≤ (8 * v4) + v3 ∧ (8 * v4) + v3 < 160) ∧ am_rl (σ.2 169 ((8 * v4) + v3).toNat) ∧ am_r (am_cmp (σ.2 169 ((8 * v4) + v3).toNat) 0) ∧ ((¬ (am_cmp (σ.2 169 ((8 * v4) + v3).toNat) 0) = 0 → am_U x m_Mo_rankOf Po σ 42 [some (Zr 147), some (Zi v1), some (Zi v2), some (Zi v3), some (Zi v4), none, none, none, none, none, none] []) ∧ ((am_cmp (σ.2 169 ((8 * v4) + v3).toNat) 0) = 0 → am_U x m_Mo_rankOf Po σ 13 [some (Zr 147), some (Zi v1), some (Zi v2), some (Zi v3), some (Zi (v4 + 1)), none, none, none, none, none, none] []))))) : am_U x m_Mo_rankOf Po σ 13 [some (Zr 147), some (Zi v1), some (Zi v2), some (Zi v3), some (Zi v4), none, none, none, none, none, none] [] := by
  refine V_iload d_Mo_rankOf_13 rfl ?_
  refine V_iload_n d_Mo_rankOf_15 rfl ?_
  obtain ⟨h3, h⟩ := h
  obtain ⟨h4, h⟩ := h
  obtain ⟨ht, hf⟩ := h
  refine V_icmp_ge 42 d_Mo_rankOf_16 h3 h4 (fun h9 => ?_) (fun h9 => ?_)
  · have h := ht h9
    exact h
  · have h := hf h9
    refine V_aload_n d_Mo_rankOf_19 rfl ?_
    refine U_geta d_Mo_rankOf_20 fl_Mo_84 sh_147 rfl ?_
    refine V_bipush d_Mo_rankOf_23 ?_
    refine V_iload d_Mo_rankOf_25 rfl ?_
    refine V_imul d_Mo_rankOf_27 ?_
    refine V_iload_n d_Mo_rankOf_28 rfl ?_
    refine V_iadd d_Mo_rankOf_29 ?_
    obtain ⟨h5, h⟩ := h
    refine U_lald d_Mo_rankOf_30 sh_169 h5 ?_
    refine V_lconst 0 d_Mo_rankOf_31 ?_
    obtain ⟨h6, h⟩ := h
    refine V_lcmp d_Mo_rankOf_32 h6 (by decide) ?_
    obtain ⟨h7, h⟩ := h
    obtain ⟨ht, hf⟩ := h
    refine V_if_ne 42 d_Mo_rankOf_33 h7 (fun h8 => ?_) (fun h8 => ?_)
    · have h := ht h8
      exact h
    · have h := hf h8
      refine V_iinc d_Mo_rankOf_36 rfl rfl ?_
      refine V_goto 13 d_Mo_rankOf_39 ?_
      exact h
theorem s_Mo_rankOf_42 {x : am_Sc} {Po : Option am_AV → am_Sh → am_St → Prop} {σ : am_St} {v1 v2 v3 v4 : Int}
    (h : am_r v4 ∧ am_r v1 ∧ ((v1 ≤ v4 → am_U x m_Mo_rankOf Po σ 241 [some (Zr 147), some (Zi v1), some (Zi v2), some (Zi v3), none, none, none, none, none, none, none] []) ∧ (¬ v1 ≤ v4 → am_U x m_Mo_rankOf Po σ 51 [some (Zr 147), some (Zi v1), some (Zi v2), some (Zi v3), some (Zi v4), some (Zi 0), none, none, none, none, none] []))) : am_U x m_Mo_rankOf Po σ 42 [some (Zr 147), some (Zi v1), some (Zi v2), some (Zi v3), some (Zi v4), none, none, none, none, none, none] [] := by
  refine V_iload d_Mo_rankOf_42 rfl ?_
  refine V_iload_n d_Mo_rankOf_44 rfl ?_
  obtain ⟨h10, h⟩ := h
  obtain ⟨h11, h⟩ := h
  obtain ⟨ht, hf⟩ := h
  refine V_icmp_ge 241 d_Mo_rankOf_45 h10 h11 (fun h12 => ?_) (fun h12 => ?_)
  · have h := ht h12
    refine V_drop 4 ?_
    exact h
  · have h := hf h12
    refine V_iconst d_Mo_rankOf_48 ?_
    refine V_istore d_Mo_rankOf_49 rfl ?_
    exact h
theorem s_Mo_rankOf_241 {x : am_Sc} {Po : Option am_AV → am_Sh → am_St → Prop} {σ : am_St} {v1 v2 v3 : Int}
    (h : am_U x m_Mo_rankOf Po σ 4 [some (Zr 147), some (Zi v1), some (Zi v2), some (Zi (v3 + 1)), none, none, none, none, none, none, none] []) : am_U x m_Mo_rankOf Po σ 241 [some (Zr 147), some (Zi v1), some (Zi v2), some (Zi v3), none, none, none, none, none, none, none] [] := by
  refine V_iinc d_Mo_rankOf_241 rfl rfl ?_
  refine V_goto 4 d_Mo_rankOf_244 ?_
  exact h
theorem s_Mo_rankOf_51 {x : am_Sc} {Po : Option am_AV → am_Sh → am_St → Prop} {σ : am_St} {v1 v2 v3 v4 v5 : Int}
    (h : am_r v5 ∧ ((8 ≤ v5 → (0 ≤ (8 * v2) + v3 ∧ (8 * v2) + v3 < 160) ∧ am_U x m_Mo_inverse (fun ro1 so1 σ1 => ∃ z1 : Int, ro1 = some (Zl z1) ∧ so1 = am_SH ∧ am_U x m_Mo_rankOf Po σ1 139 [some (Zr 147), some (Zi v1), some (Zi v2), some (Zi v3), none, some (Zl z1), none, some (Zi (v2 + 1)), none, none, none] []) σ 0 [some (Zl (σ.2 169 ((8 * v2) + v3).toNat)), none, none, none, none, none, none, none] []) ∧ (¬ 8 ≤ v5 → (0 ≤ (8 * v4) + v5 ∧ (8 * v4) + v5 < 160) ∧ (0 ≤ (8 * v2) + v5 ∧ (8 * v2) + v5 < 160) ∧ (∀ σ2 : am_St, σ2 = (σ.1, am_up σ.2 169 ((8 * v4) + v5).toNat (σ.2 169 ((8 * v2) + v5).toNat)) → (∀ σ3 : am_St, σ3 = (σ2.1, am_up σ2.2 169 ((8 * v2) + v5).toNat (σ.2 169 ((8 * v4) + v5).toNat)) → am_U x m_Mo_rankOf Po σ3 51 [some (Zr 147), some (Zi v1), some (Zi v2), some (Zi v3), some (Zi v4), some (Zi (v5 + 1)), none, none, none, none, none] []))))) : am_U x m_Mo_rankOf Po σ 51 [some (Zr 147), some (Zi v1), some (Zi v2), some (Zi v3), some (Zi v4), some (Zi v5), none, none, none, none, none] [] := by
  refine V_iload d_Mo_rankOf_51 rfl ?_
  refine V_bipush d_Mo_rankOf_53 ?_
  obtain ⟨h13, h⟩ := h
  obtain ⟨ht, hf⟩ := h
  refine V_icmp_ge 118 d_Mo_rankOf_55 h13 (by decide) (fun h17 => ?_) (fun h17 => ?_)
  · have h := ht h17
    refine V_aload_n d_Mo_rankOf_118 rfl ?_
    refine U_geta d_Mo_rankOf_119 fl_Mo_84 sh_147 rfl ?_
    refine V_bipush d_Mo_rankOf_122 ?_
    refine V_iload_n d_Mo_rankOf_124 rfl ?_
    refine V_imul d_Mo_rankOf_125 ?_
    refine V_iload_n d_Mo_rankOf_126 rfl ?_
    refine V_iadd d_Mo_rankOf_127 ?_
    obtain ⟨h14, h⟩ := h
    refine U_lald d_Mo_rankOf_128 sh_169 h14 ?_
    refine U_is1 cv_Mo_rankOf_234 d_Mo_rankOf_129  rfl (am_mono h ?_)
    rintro ro1 so1 σ1 ⟨z1, rfl, rfl, h⟩
    refine V_lstore d_Mo_rankOf_132 rfl ?_
    refine V_iload_n d_Mo_rankOf_134 rfl ?_
    refine V_iconst d_Mo_rankOf_135 ?_
    refine V_iadd d_Mo_rankOf_136 ?_
    refine V_istore d_Mo_rankOf_137 rfl ?_
    refine V_drop 4 ?_
    exact h
  · have h := hf h17
    refine V_aload_n d_Mo_rankOf_58 rfl ?_
    refine U_geta d_Mo_rankOf_59 fl_Mo_84 sh_147 rfl ?_
    refine V_bipush d_Mo_rankOf_62 ?_
    refine V_iload d_Mo_rankOf_64 rfl ?_
    refine V_imul d_Mo_rankOf_66 ?_
    refine V_iload d_Mo_rankOf_67 rfl ?_
    refine V_iadd d_Mo_rankOf_69 ?_
    obtain ⟨h15, h⟩ := h
    refine U_lald d_Mo_rankOf_70 sh_169 h15 ?_
    refine V_lstore d_Mo_rankOf_71 rfl ?_
    refine V_aload_n d_Mo_rankOf_73 rfl ?_
    refine U_geta d_Mo_rankOf_74 fl_Mo_84 sh_147 rfl ?_
    refine V_bipush d_Mo_rankOf_77 ?_
    refine V_iload d_Mo_rankOf_79 rfl ?_
    refine V_imul d_Mo_rankOf_81 ?_
    refine V_iload d_Mo_rankOf_82 rfl ?_
    refine V_iadd d_Mo_rankOf_84 ?_
    refine V_aload_n d_Mo_rankOf_85 rfl ?_
    refine U_geta d_Mo_rankOf_86 fl_Mo_84 sh_147 rfl ?_
    refine V_bipush d_Mo_rankOf_89 ?_
    refine V_iload_n d_Mo_rankOf_91 rfl ?_
    refine V_imul d_Mo_rankOf_92 ?_
    refine V_iload d_Mo_rankOf_93 rfl ?_
    refine V_iadd d_Mo_rankOf_95 ?_
    obtain ⟨h16, h⟩ := h
    refine U_lald d_Mo_rankOf_96 sh_169 h16 ?_
    refine U_last d_Mo_rankOf_97 sh_169 h15 ?_
    have h := h _ rfl
    refine V_aload_n d_Mo_rankOf_98 rfl ?_
    refine U_geta d_Mo_rankOf_99 fl_Mo_84 sh_147 rfl ?_
    refine V_bipush d_Mo_rankOf_102 ?_
    refine V_iload_n d_Mo_rankOf_104 rfl ?_
    refine V_imul d_Mo_rankOf_105 ?_
    refine V_iload d_Mo_rankOf_106 rfl ?_
    refine V_iadd d_Mo_rankOf_108 ?_
    refine V_lload d_Mo_rankOf_109 rfl ?_
    refine U_last d_Mo_rankOf_111 sh_169 h16 ?_
    have h := h _ rfl
    refine V_iinc d_Mo_rankOf_112 rfl rfl ?_
    refine V_goto 51 d_Mo_rankOf_115 ?_
    refine V_drop 6 ?_
    exact h
theorem s_Mo_rankOf_139 {x : am_Sc} {Po : Option am_AV → am_Sh → am_St → Prop} {σ : am_St} {v1 v2 v3 v5 v7 : Int}
    (h : am_r v7 ∧ am_r v1 ∧ ((v1 ≤ v7 → am_U x m_Mo_rankOf Po σ 241 [some (Zr 147), some (Zi v1), some (Zi (v2 + 1)), some (Zi v3), none, none, none, none, none, none, none] []) ∧ (¬ v1 ≤ v7 → (0 ≤ (8 * v7) + v3 ∧ (8 * v7) + v3 < 160) ∧ am_U x m_Mo_rankOf Po σ 169 [some (Zr 147), some (Zi v1), some (Zi v2), some (Zi v3), none, some (Zl v5), none, some (Zi v7), some (Zl (am_remL ((σ.2 169 ((8 * v7) + v3).toNat) * v5) 2147483647)), none, some (Zi 0)] []))) : am_U x m_Mo_rankOf Po σ 139 [some (Zr 147), some (Zi v1), some (Zi v2), some (Zi v3), none, some (Zl v5), none, some (Zi v7), none, none, none] [] := by
  refine V_iload d_Mo_rankOf_139 rfl ?_
  refine V_iload_n d_Mo_rankOf_141 rfl ?_
  obtain ⟨h18, h⟩ := h
  obtain ⟨h19, h⟩ := h
  obtain ⟨ht, hf⟩ := h
  refine V_icmp_ge 238 d_Mo_rankOf_142 h18 h19 (fun h21 => ?_) (fun h21 => ?_)
  · have h := ht h21
    refine V_iinc d_Mo_rankOf_238 rfl rfl ?_
    refine V_drop 5 ?_
    refine V_drop 7 ?_
    exact h
  · have h := hf h21
    refine V_aload_n d_Mo_rankOf_145 rfl ?_
    refine U_geta d_Mo_rankOf_146 fl_Mo_84 sh_147 rfl ?_
    refine V_bipush d_Mo_rankOf_149 ?_
    refine V_iload d_Mo_rankOf_151 rfl ?_
    refine V_imul d_Mo_rankOf_153 ?_
    refine V_iload_n d_Mo_rankOf_154 rfl ?_
    refine V_iadd d_Mo_rankOf_155 ?_
    obtain ⟨h20, h⟩ := h
    refine U_lald d_Mo_rankOf_156 sh_169 h20 ?_
    refine V_lload d_Mo_rankOf_157 rfl ?_
    refine V_lmul d_Mo_rankOf_159 ?_
    refine V_ldc2 2147483647 d_Mo_rankOf_160 kc_Mo_232 ?_
    refine V_lrem d_Mo_rankOf_163 (by decide) (by decide) ?_
    refine V_lstore d_Mo_rankOf_164 rfl ?_
    refine V_iconst d_Mo_rankOf_166 ?_
    refine V_istore d_Mo_rankOf_167 rfl ?_
    exact h
theorem s_Mo_rankOf_169 {x : am_Sc} {Po : Option am_AV → am_Sh → am_St → Prop} {σ : am_St} {v1 v2 v3 v5 v7 v8 v10 : Int}
    (h : am_r v10 ∧ ((8 ≤ v10 → am_U x m_Mo_rankOf Po σ 139 [some (Zr 147), some (Zi v1), some (Zi v2), some (Zi v3), none, some (Zl v5), none, some (Zi (v7 + 1)), none, none, none] []) ∧ (¬ 8 ≤ v10 → (0 ≤ (8 * v7) + v10 ∧ (8 * v7) + v10 < 160) ∧ (0 ≤ (8 * v2) + v10 ∧ (8 * v2) + v10 < 160) ∧ (∀ σ4 : am_St, σ4 = (σ.1, am_up σ.2 169 ((8 * v7) + v10).toNat (am_remL ((σ.2 169 ((8 * v7) + v10).toNat) + ((2147483647 - v8) * (σ.2 169 ((8 * v2) + v10).toNat))) 2147483647)) → am_U x m_Mo_rankOf Po σ4 169 [some (Zr 147), some (Zi v1), some (Zi v2), some (Zi v3), none, some (Zl v5), none, some (Zi v7), some (Zl v8), none, some (Zi (v10 + 1))] [])))) : am_U x m_Mo_rankOf Po σ 169 [some (Zr 147), some (Zi v1), some (Zi v2), some (Zi v3), none, some (Zl v5), none, some (Zi v7), some (Zl v8), none, some (Zi v10)] [] := by
  refine V_iload d_Mo_rankOf_169 rfl ?_
  refine V_bipush d_Mo_rankOf_171 ?_
  obtain ⟨h22, h⟩ := h
  obtain ⟨ht, hf⟩ := h
  refine V_icmp_ge 232 d_Mo_rankOf_173 h22 (by decide) (fun h25 => ?_) (fun h25 => ?_)
  · have h := ht h25
    refine V_iinc d_Mo_rankOf_232 rfl rfl ?_
    refine V_goto 139 d_Mo_rankOf_235 ?_
    refine V_drop 8 ?_
    refine V_drop 10 ?_
    exact h
  · have h := hf h25
    refine V_aload_n d_Mo_rankOf_176 rfl ?_
    refine U_geta d_Mo_rankOf_177 fl_Mo_84 sh_147 rfl ?_
    refine V_bipush d_Mo_rankOf_180 ?_
    refine V_iload d_Mo_rankOf_182 rfl ?_
    refine V_imul d_Mo_rankOf_184 ?_
    refine V_iload d_Mo_rankOf_185 rfl ?_
    refine V_iadd d_Mo_rankOf_187 ?_
    refine V_aload_n d_Mo_rankOf_188 rfl ?_
    refine U_geta d_Mo_rankOf_189 fl_Mo_84 sh_147 rfl ?_
    refine V_bipush d_Mo_rankOf_192 ?_
    refine V_iload d_Mo_rankOf_194 rfl ?_
    refine V_imul d_Mo_rankOf_196 ?_
    refine V_iload d_Mo_rankOf_197 rfl ?_
    refine V_iadd d_Mo_rankOf_199 ?_
    obtain ⟨h23, h⟩ := h
    refine U_lald d_Mo_rankOf_200 sh_169 h23 ?_
    refine V_ldc2 2147483647 d_Mo_rankOf_201 kc_Mo_232 ?_
    refine V_lload d_Mo_rankOf_204 rfl ?_
    refine V_lsub d_Mo_rankOf_206 ?_
    refine V_aload_n d_Mo_rankOf_207 rfl ?_
    refine U_geta d_Mo_rankOf_208 fl_Mo_84 sh_147 rfl ?_
    refine V_bipush d_Mo_rankOf_211 ?_
    refine V_iload_n d_Mo_rankOf_213 rfl ?_
    refine V_imul d_Mo_rankOf_214 ?_
    refine V_iload d_Mo_rankOf_215 rfl ?_
    refine V_iadd d_Mo_rankOf_217 ?_
    obtain ⟨h24, h⟩ := h
    refine U_lald d_Mo_rankOf_218 sh_169 h24 ?_
    refine V_lmul d_Mo_rankOf_219 ?_
    refine V_ladd d_Mo_rankOf_220 ?_
    refine V_ldc2 2147483647 d_Mo_rankOf_221 kc_Mo_232 ?_
    refine V_lrem d_Mo_rankOf_224 (by decide) (by decide) ?_
    refine U_last d_Mo_rankOf_225 sh_169 h23 ?_
    have h := h _ rfl
    refine V_iinc d_Mo_rankOf_226 rfl rfl ?_
    refine V_goto 169 d_Mo_rankOf_229 ?_
    exact h
theorem s_Mo_inverse_0 {x : am_Sc} {Po : Option am_AV → am_Sh → am_St → Prop} {σ : am_St} {v0 : Int}
    (h : am_U x m_Mo_inverse Po σ 10 [none, none, some (Zl 1), none, some (Zl v0), none, some (Zl 2147483645), none] []) : am_U x m_Mo_inverse Po σ 0 [some (Zl v0), none, none, none, none, none, none, none] [] := by
  refine V_lconst 1 d_Mo_inverse_0 ?_
  refine V_lstore_n d_Mo_inverse_1 rfl ?_
  refine V_lload_n d_Mo_inverse_2 rfl ?_
  refine V_lstore d_Mo_inverse_3 rfl ?_
  refine V_ldc2 2147483645 d_Mo_inverse_5 kc_Mo_228 ?_
  refine V_lstore d_Mo_inverse_8 rfl ?_
  refine V_drop 0 ?_
  exact h
theorem s_Mo_inverse_10 {x : am_Sc} {Po : Option am_AV → am_Sh → am_St → Prop} {σ : am_St} {v2 v4 v6 : Int}
    (h : am_rl v6 ∧ am_r (am_cmp v6 0) ∧ (((am_cmp v6 0) ≤ 0 → Po (some (Zl v2)) am_SH σ) ∧ (¬ (am_cmp v6 0) ≤ 0 → am_rl (am_remL v6 2) ∧ am_r (am_cmp (am_remL v6 2) 1) ∧ ((¬ (am_cmp (am_remL v6 2) 1) = 0 → am_U x m_Mo_inverse Po σ 40 [none, none, none, none, some (Zl v4), none, some (Zl v6), none] [Zl v2]) ∧ ((am_cmp (am_remL v6 2) 1) = 0 → am_U x m_Mo_inverse Po σ 40 [none, none, none, none, some (Zl v4), none, some (Zl v6), none] [Zl (am_remL (v2 * v4) 2147483647)]))))) : am_U x m_Mo_inverse Po σ 10 [none, none, some (Zl v2), none, some (Zl v4), none, some (Zl v6), none] [] := by
  refine V_lload d_Mo_inverse_10 rfl ?_
  refine V_lconst 0 d_Mo_inverse_12 ?_
  obtain ⟨h1, h⟩ := h
  refine V_lcmp d_Mo_inverse_13 h1 (by decide) ?_
  obtain ⟨h2, h⟩ := h
  obtain ⟨ht, hf⟩ := h
  refine V_if_le 63 d_Mo_inverse_14 h2 (fun h6 => ?_) (fun h6 => ?_)
  · have h := ht h6
    refine V_lload_n d_Mo_inverse_63 rfl ?_
    exact V_lret d_Mo_inverse_64 rfl rfl h
  · have h := hf h6
    refine V_lload d_Mo_inverse_17 rfl ?_
    refine V_ldc2 2 d_Mo_inverse_19 kc_Mo_230 ?_
    refine V_lrem d_Mo_inverse_22 (by decide) (by decide) ?_
    refine V_lconst 1 d_Mo_inverse_23 ?_
    obtain ⟨h3, h⟩ := h
    refine V_lcmp d_Mo_inverse_24 h3 (by decide) ?_
    obtain ⟨h4, h⟩ := h
    obtain ⟨ht, hf⟩ := h
    refine V_if_ne 39 d_Mo_inverse_25 h4 (fun h5 => ?_) (fun h5 => ?_)
    · have h := ht h5
      refine V_lload_n d_Mo_inverse_39 rfl ?_
      refine V_drop 2 ?_
      exact h
    · have h := hf h5
      refine V_lload_n d_Mo_inverse_28 rfl ?_
      refine V_lload d_Mo_inverse_29 rfl ?_
      refine V_lmul d_Mo_inverse_31 ?_
      refine V_ldc2 2147483647 d_Mo_inverse_32 kc_Mo_232 ?_
      refine V_lrem d_Mo_inverse_35 (by decide) (by decide) ?_
      refine V_goto 40 d_Mo_inverse_36 ?_
      refine V_drop 2 ?_
      exact h
theorem s_Mo_inverse_40 {x : am_Sc} {Po : Option am_AV → am_Sh → am_St → Prop} {σ : am_St} {v4 v6 vk0 : Int}
    (h : am_U x m_Mo_inverse Po σ 10 [none, none, some (Zl vk0), none, some (Zl (am_remL (v4 * v4) 2147483647)), none, some (Zl (am_divL v6 2)), none] []) : am_U x m_Mo_inverse Po σ 40 [none, none, none, none, some (Zl v4), none, some (Zl v6), none] [Zl vk0] := by
  refine V_lstore_n d_Mo_inverse_40 rfl ?_
  refine V_lload d_Mo_inverse_41 rfl ?_
  refine V_lload d_Mo_inverse_43 rfl ?_
  refine V_lmul d_Mo_inverse_45 ?_
  refine V_ldc2 2147483647 d_Mo_inverse_46 kc_Mo_232 ?_
  refine V_lrem d_Mo_inverse_49 (by decide) (by decide) ?_
  refine V_lstore d_Mo_inverse_50 rfl ?_
  refine V_lload d_Mo_inverse_52 rfl ?_
  refine V_ldc2 2 d_Mo_inverse_54 kc_Mo_230 ?_
  refine V_ldiv d_Mo_inverse_57 (by decide) (by decide) ?_
  refine V_lstore d_Mo_inverse_58 rfl ?_
  refine V_goto 10 d_Mo_inverse_60 ?_
  exact h
theorem s_Mo_resolved_0 {x : am_Sc} {Po : Option am_AV → am_Sh → am_St → Prop} {σ : am_St} {v1 : Int}
    (h : am_U x m_Mo_isBlock (fun ro1 so1 σ1 => ∃ z1 : Int, ro1 = some (Zi z1) ∧ so1 = am_SH ∧ am_r z1 ∧ ((¬ z1 = 0 → am_U x m_Mo_sizeOf (fun ro2 so2 σ2 => ∃ z2 : Int, ro2 = some (Zi z2) ∧ so2 = am_SH ∧ am_r z2 ∧ ((¬ z2 = 0 → am_U x m_Mo_findRays (fun ro3 so3 σ3 => ro3 = none ∧ so3 = am_SH ∧ (∀ σ4 : am_St, σ4 = (am_up σ3.1 147 48 0, σ3.2) → am_U x m_Mo_resolved Po σ4 33 [some (Zr 147), some (Zi v1), some (Zi 0), some (Zi 0)] [])) σ2 0 [some (Zr 147), none] []) ∧ (z2 = 0 → Po (some (Zi (-1))) am_SH σ2))) σ1 0 [some (Zr 147), some (Zi v1), none, none] []) ∧ (z1 = 0 → Po (some (Zi (-2))) am_SH σ1))) σ 0 [some (Zi v1)] []) : am_U x m_Mo_resolved Po σ 0 [some (Zr 147), some (Zi v1), none, none] [] := by
  refine V_iload_n d_Mo_resolved_0 rfl ?_
  refine U_is1 cv_Mo_resolved_138 d_Mo_resolved_1  rfl (am_mono h ?_)
  rintro ro1 so1 σ1 ⟨z1, rfl, rfl, h⟩
  obtain ⟨h1, h⟩ := h
  obtain ⟨ht, hf⟩ := h
  refine V_if_ne 10 d_Mo_resolved_4 h1 (fun h4 => ?_) (fun h4 => ?_)
  · have h := ht h4
    refine V_aload_n d_Mo_resolved_10 rfl ?_
    refine V_iload_n d_Mo_resolved_11 rfl ?_
    refine U_iv1 cv_Mo_resolved_142 d_Mo_resolved_12 sh_147 rfl rfl (am_mono h ?_)
    rintro ro2 so2 σ2 ⟨z2, rfl, rfl, h⟩
    obtain ⟨h2, h⟩ := h
    obtain ⟨ht, hf⟩ := h
    refine V_if_ne 20 d_Mo_resolved_15 h2 (fun h3 => ?_) (fun h3 => ?_)
    · have h := ht h3
      refine V_aload_n d_Mo_resolved_20 rfl ?_
      refine U_iv0 cv_Mo_resolved_219 d_Mo_resolved_21 sh_147 rfl rfl (am_mono h ?_)
      rintro ro3 so3 σ3 ⟨rfl, rfl, h⟩
      refine V_aload_n d_Mo_resolved_24 rfl ?_
      refine V_iconst d_Mo_resolved_25 ?_
      refine U_puti d_Mo_resolved_26 fw_Mo_244 sh_147 ?_
      have h := h _ rfl
      refine V_iconst d_Mo_resolved_29 ?_
      refine V_istore_n d_Mo_resolved_30 rfl ?_
      refine V_iconst d_Mo_resolved_31 ?_
      refine V_istore_n d_Mo_resolved_32 rfl ?_
      exact h
    · have h := hf h3
      refine V_iconst d_Mo_resolved_18 ?_
      exact V_iret d_Mo_resolved_19 rfl rfl h
  · have h := hf h4
    refine V_bipush d_Mo_resolved_7 ?_
    exact V_iret d_Mo_resolved_9 rfl rfl h
theorem s_Mo_resolved_33 {x : am_Sc} {Po : Option am_AV → am_Sh → am_St → Prop} {σ : am_St} {v1 v2 v3 : Int}
    (h : am_r v3 ∧ am_r (σ.1 147 11) ∧ (((σ.1 147 11) ≤ v3 → am_r v2 ∧ ((¬ v2 = 0 → am_U x m_Mo_isResolved (fun ro5 so5 σ5 => ∃ z5 : Int, ro5 = some (Zi z5) ∧ so5 = am_SH ∧ am_r z5 ∧ ((z5 = 0 → am_U x m_Mo_resolved Po σ5 95 [none, none, none, none] [Zi 1]) ∧ (¬ z5 = 0 → am_U x m_Mo_resolved Po σ5 95 [none, none, none, none] [Zi 2]))) σ 0 [some (Zr 147), some (Zi v1), none, none, none] []) ∧ (v2 = 0 → am_U x m_Mo_resolved Po σ 95 [none, none, none, none] [Zi 0]))) ∧ (¬ (σ.1 147 11) ≤ v3 → (0 ≤ v3 ∧ v3 < 12) ∧ am_r (σ.1 156 v3.toNat) ∧ ((¬ (σ.1 156 v3.toNat) = 0 → am_U x m_Mo_resolved Po σ 66 [some (Zr 147), some (Zi v1), none, some (Zi v3)] [Zi 0, Zi v2]) ∧ ((σ.1 156 v3.toNat) = 0 → (0 ≤ (8 * v3) + v1 ∧ (8 * v3) + v1 < 96) ∧ am_U x m_Mo_resolved Po σ 66 [some (Zr 147), some (Zi v1), none, some (Zi v3)] [Zi (σ.1 166 ((8 * v3) + v1).toNat), Zi v2]))))) : am_U x m_Mo_resolved Po σ 33 [some (Zr 147), some (Zi v1), some (Zi v2), some (Zi v3)] [] := by
  refine V_iload_n d_Mo_resolved_33 rfl ?_
  refine V_aload_n d_Mo_resolved_34 rfl ?_
  refine U_geti d_Mo_resolved_35 fl_Mo_132 sh_147 ?_
  obtain ⟨h5, h⟩ := h
  obtain ⟨h6, h⟩ := h
  obtain ⟨ht, hf⟩ := h
  refine V_icmp_ge 74 d_Mo_resolved_38 h5 h6 (fun h15 => ?_) (fun h15 => ?_)
  · have h := ht h15
    refine V_iload_n d_Mo_resolved_74 rfl ?_
    obtain ⟨h7, h⟩ := h
    obtain ⟨ht, hf⟩ := h
    refine V_if_ne 82 d_Mo_resolved_75 h7 (fun h10 => ?_) (fun h10 => ?_)
    · have h := ht h10
      refine V_aload_n d_Mo_resolved_82 rfl ?_
      refine V_iload_n d_Mo_resolved_83 rfl ?_
      refine U_iv1 cv_Mo_resolved_250 d_Mo_resolved_84 sh_147 rfl rfl (am_mono h ?_)
      rintro ro5 so5 σ5 ⟨z5, rfl, rfl, h⟩
      obtain ⟨h8, h⟩ := h
      obtain ⟨ht, hf⟩ := h
      refine V_if_eq 94 d_Mo_resolved_87 h8 (fun h9 => ?_) (fun h9 => ?_)
      · have h := ht h9
        refine V_iconst d_Mo_resolved_94 ?_
        refine V_drop 0 ?_
        refine V_drop 1 ?_
        refine V_drop 2 ?_
        refine V_drop 3 ?_
        exact h
      · have h := hf h9
        refine V_iconst d_Mo_resolved_90 ?_
        refine V_goto 95 d_Mo_resolved_91 ?_
        refine V_drop 0 ?_
        refine V_drop 1 ?_
        refine V_drop 2 ?_
        refine V_drop 3 ?_
        exact h
    · have h := hf h10
      refine V_iconst d_Mo_resolved_78 ?_
      refine V_goto 95 d_Mo_resolved_79 ?_
      refine V_drop 0 ?_
      refine V_drop 1 ?_
      refine V_drop 2 ?_
      refine V_drop 3 ?_
      exact h
  · have h := hf h15
    refine V_iload_n d_Mo_resolved_41 rfl ?_
    refine V_aload_n d_Mo_resolved_42 rfl ?_
    refine U_geta d_Mo_resolved_43 fl_Mo_44 sh_147 rfl ?_
    refine V_iload_n d_Mo_resolved_46 rfl ?_
    obtain ⟨h11, h⟩ := h
    refine U_iald d_Mo_resolved_47 sh_156 h11 ?_
    obtain ⟨h12, h⟩ := h
    obtain ⟨ht, hf⟩ := h
    refine V_if_ne 65 d_Mo_resolved_48 h12 (fun h14 => ?_) (fun h14 => ?_)
    · have h := ht h14
      refine V_iconst d_Mo_resolved_65 ?_
      refine V_drop 2 ?_
      exact h
    · have h := hf h14
      refine V_aload_n d_Mo_resolved_51 rfl ?_
      refine U_geta d_Mo_resolved_52 fl_Mo_75 sh_147 rfl ?_
      refine V_bipush d_Mo_resolved_55 ?_
      refine V_iload_n d_Mo_resolved_57 rfl ?_
      refine V_imul d_Mo_resolved_58 ?_
      refine V_iload_n d_Mo_resolved_59 rfl ?_
      refine V_iadd d_Mo_resolved_60 ?_
      obtain ⟨h13, h⟩ := h
      refine U_iald d_Mo_resolved_61 sh_166 h13 ?_
      refine V_goto 66 d_Mo_resolved_62 ?_
      refine V_drop 2 ?_
      exact h
theorem s_Mo_resolved_95 {x : am_Sc} {Po : Option am_AV → am_Sh → am_St → Prop} {σ : am_St} {vk0 : Int}
    (h : Po (some (Zi vk0)) am_SH σ) : am_U x m_Mo_resolved Po σ 95 [none, none, none, none] [Zi vk0] := by
  exact V_iret d_Mo_resolved_95 rfl rfl h
theorem s_Mo_resolved_66 {x : am_Sc} {Po : Option am_AV → am_Sh → am_St → Prop} {σ : am_St} {v1 v3 vk0 vk1 : Int}
    (h : am_U x m_Mo_resolved Po σ 33 [some (Zr 147), some (Zi v1), some (Zi (vk0 + vk1)), some (Zi (v3 + 1))] []) : am_U x m_Mo_resolved Po σ 66 [some (Zr 147), some (Zi v1), none, some (Zi v3)] [Zi vk1, Zi vk0] := by
  refine V_iadd d_Mo_resolved_66 ?_
  refine V_istore_n d_Mo_resolved_67 rfl ?_
  refine V_iinc d_Mo_resolved_68 rfl rfl ?_
  refine V_goto 33 d_Mo_resolved_71 ?_
  exact h
theorem s_Mo_isResolved_0 {x : am_Sc} {Po : Option am_AV → am_Sh → am_St → Prop} {σ : am_St} {v1 : Int}
    (h : am_U x m_Mo_layAll (fun ro1 so1 σ1 => ∃ z1 : Int, ro1 = some (Zi z1) ∧ so1 = am_SH ∧ am_U x m_Mo_rankOf (fun ro2 so2 σ2 => ∃ z2 : Int, ro2 = some (Zi z2) ∧ so2 = am_SH ∧ am_U x m_Mo_layAll (fun ro3 so3 σ3 => ∃ z3 : Int, ro3 = some (Zi z3) ∧ so3 = am_SH ∧ am_U x m_Mo_isResolved Po σ3 17 [some (Zr 147), some (Zi v1), some (Zi z2), some (Zi z3), some (Zi 0)] []) σ2 0 [some (Zr 147), none, none] []) σ1 0 [some (Zr 147), some (Zi z1), none, none, none, none, none, none, none, none, none] []) σ 0 [some (Zr 147), none, none] []) : am_U x m_Mo_isResolved Po σ 0 [some (Zr 147), some (Zi v1), none, none, none] [] := by
  refine V_aload_n d_Mo_isResolved_0 rfl ?_
  refine V_aload_n d_Mo_isResolved_1 rfl ?_
  refine U_iv0 cv_Mo_isResolved_247 d_Mo_isResolved_2 sh_147 rfl rfl (am_mono h ?_)
  rintro ro1 so1 σ1 ⟨z1, rfl, rfl, h⟩
  refine U_iv1 cv_Mo_isResolved_241 d_Mo_isResolved_5 sh_147 rfl rfl (am_mono h ?_)
  rintro ro2 so2 σ2 ⟨z2, rfl, rfl, h⟩
  refine V_istore_n d_Mo_isResolved_8 rfl ?_
  refine V_aload_n d_Mo_isResolved_9 rfl ?_
  refine U_iv0 cv_Mo_isResolved_247 d_Mo_isResolved_10 sh_147 rfl rfl (am_mono h ?_)
  rintro ro3 so3 σ3 ⟨z3, rfl, rfl, h⟩
  refine V_istore_n d_Mo_isResolved_13 rfl ?_
  refine V_iconst d_Mo_isResolved_14 ?_
  refine V_istore d_Mo_isResolved_15 rfl ?_
  exact h
theorem s_Mo_isResolved_17 {x : am_Sc} {Po : Option am_AV → am_Sh → am_St → Prop} {σ : am_St} {v1 v2 v3 v4 : Int}
    (h : am_r v4 ∧ ((8 ≤ v4 → am_U x m_Mo_rankOf (fun ro4 so4 σ4 => ∃ z4 : Int, ro4 = some (Zi z4) ∧ so4 = am_SH ∧ am_r z4 ∧ am_r v2 ∧ ((¬ z4 = v2 → am_U x m_Mo_isResolved Po σ4 69 [none, none, none, none, none] [Zi 0]) ∧ (z4 = v2 → am_U x m_Mo_isResolved Po σ4 69 [none, none, none, none, none] [Zi 1]))) σ 0 [some (Zr 147), some (Zi (v3 + 1)), none, none, none, none, none, none, none, none, none] []) ∧ (¬ 8 ≤ v4 → am_r v1 ∧ ((¬ v4 = v1 → am_U x m_Mo_isResolved Po σ 46 [some (Zr 147), some (Zi v1), some (Zi v2), some (Zi v3), some (Zi v4)] [Zl 0, Zi ((8 * v3) + v4), Zr 169]) ∧ (v4 = v1 → am_U x m_Mo_isResolved Po σ 46 [some (Zr 147), some (Zi v1), some (Zi v2), some (Zi v3), some (Zi v4)] [Zl 1, Zi ((8 * v3) + v4), Zr 169]))))) : am_U x m_Mo_isResolved Po σ 17 [some (Zr 147), some (Zi v1), some (Zi v2), some (Zi v3), some (Zi v4)] [] := by
  refine V_iload d_Mo_isResolved_17 rfl ?_
  refine V_bipush d_Mo_isResolved_19 ?_
  obtain ⟨h1, h⟩ := h
  obtain ⟨ht, hf⟩ := h
  refine V_icmp_ge 53 d_Mo_isResolved_21 h1 (by decide) (fun h7 => ?_) (fun h7 => ?_)
  · have h := ht h7
    refine V_aload_n d_Mo_isResolved_53 rfl ?_
    refine V_iload_n d_Mo_isResolved_54 rfl ?_
    refine V_iconst d_Mo_isResolved_55 ?_
    refine V_iadd d_Mo_isResolved_56 ?_
    refine U_iv1 cv_Mo_isResolved_241 d_Mo_isResolved_57 sh_147 rfl rfl (am_mono h ?_)
    rintro ro4 so4 σ4 ⟨z4, rfl, rfl, h⟩
    refine V_iload_n d_Mo_isResolved_60 rfl ?_
    obtain ⟨h2, h⟩ := h
    obtain ⟨h3, h⟩ := h
    obtain ⟨ht, hf⟩ := h
    refine V_icmp_ne 68 d_Mo_isResolved_61 h2 h3 (fun h4 => ?_) (fun h4 => ?_)
    · have h := ht h4
      refine V_iconst d_Mo_isResolved_68 ?_
      refine V_drop 0 ?_
      refine V_drop 1 ?_
      refine V_drop 2 ?_
      refine V_drop 3 ?_
      refine V_drop 4 ?_
      exact h
    · have h := hf h4
      refine V_iconst d_Mo_isResolved_64 ?_
      refine V_goto 69 d_Mo_isResolved_65 ?_
      refine V_drop 0 ?_
      refine V_drop 1 ?_
      refine V_drop 2 ?_
      refine V_drop 3 ?_
      refine V_drop 4 ?_
      exact h
  · have h := hf h7
    refine V_aload_n d_Mo_isResolved_24 rfl ?_
    refine U_geta d_Mo_isResolved_25 fl_Mo_84 sh_147 rfl ?_
    refine V_bipush d_Mo_isResolved_28 ?_
    refine V_iload_n d_Mo_isResolved_30 rfl ?_
    refine V_imul d_Mo_isResolved_31 ?_
    refine V_iload d_Mo_isResolved_32 rfl ?_
    refine V_iadd d_Mo_isResolved_34 ?_
    refine V_iload d_Mo_isResolved_35 rfl ?_
    refine V_iload_n d_Mo_isResolved_37 rfl ?_
    obtain ⟨h5, h⟩ := h
    obtain ⟨ht, hf⟩ := h
    refine V_icmp_ne 45 d_Mo_isResolved_38 h1 h5 (fun h6 => ?_) (fun h6 => ?_)
    · have h := ht h6
      refine V_lconst 0 d_Mo_isResolved_45 ?_
      exact h
    · have h := hf h6
      refine V_lconst 1 d_Mo_isResolved_41 ?_
      refine V_goto 46 d_Mo_isResolved_42 ?_
      exact h
theorem s_Mo_isResolved_69 {x : am_Sc} {Po : Option am_AV → am_Sh → am_St → Prop} {σ : am_St} {vk0 : Int}
    (h : (vk0 = 0 ∨ vk0 = 1) ∧ Po (some (Zi vk0)) am_SH σ) : am_U x m_Mo_isResolved Po σ 69 [none, none, none, none, none] [Zi vk0] := by
  obtain ⟨h8, h⟩ := h
  exact V_zret d_Mo_isResolved_69 rfl rfl h8 h
theorem s_Mo_isResolved_46 {x : am_Sc} {Po : Option am_AV → am_Sh → am_St → Prop} {σ : am_St} {v1 v2 v3 v4 vk1 vk2 : Int}
    (h : (0 ≤ vk1 ∧ vk1 < 160) ∧ (∀ σ5 : am_St, σ5 = (σ.1, am_up σ.2 169 vk1.toNat vk2) → am_U x m_Mo_isResolved Po σ5 17 [some (Zr 147), some (Zi v1), some (Zi v2), some (Zi v3), some (Zi (v4 + 1))] [])) : am_U x m_Mo_isResolved Po σ 46 [some (Zr 147), some (Zi v1), some (Zi v2), some (Zi v3), some (Zi v4)] [Zl vk2, Zi vk1, Zr 169] := by
  obtain ⟨h9, h⟩ := h
  refine U_last d_Mo_isResolved_46 sh_169 h9 ?_
  have h := h _ rfl
  refine V_iinc d_Mo_isResolved_47 rfl rfl ?_
  refine V_goto 17 d_Mo_isResolved_50 ?_
  exact h
theorem s_Mo_layAll_0 {x : am_Sc} {Po : Option am_AV → am_Sh → am_St → Prop} {σ : am_St}
    (h : am_U x m_Mo_layRows (fun ro1 so1 σ1 => ∃ z1 : Int, ro1 = some (Zi z1) ∧ so1 = am_SH ∧ am_U x m_Mo_layAll Po σ1 7 [some (Zr 147), some (Zi z1), some (Zi 0)] []) σ 0 [some (Zr 147), none, none, none] []) : am_U x m_Mo_layAll Po σ 0 [some (Zr 147), none, none] [] := by
  refine V_aload_n d_Mo_layAll_0 rfl ?_
  refine U_iv0 cv_Mo_layAll_238 d_Mo_layAll_1 sh_147 rfl rfl (am_mono h ?_)
  rintro ro1 so1 σ1 ⟨z1, rfl, rfl, h⟩
  refine V_istore_n d_Mo_layAll_4 rfl ?_
  refine V_iconst d_Mo_layAll_5 ?_
  refine V_istore_n d_Mo_layAll_6 rfl ?_
  exact h
theorem s_Mo_layAll_7 {x : am_Sc} {Po : Option am_AV → am_Sh → am_St → Prop} {σ : am_St} {v1 v2 : Int}
    (h : am_r v2 ∧ am_r (8 * (σ.1 147 48)) ∧ (((8 * (σ.1 147 48)) ≤ v2 → Po (some (Zi (v1 + (σ.1 147 48)))) am_SH σ) ∧ (¬ (8 * (σ.1 147 48)) ≤ v2 → (0 ≤ v2 ∧ v2 < 40) ∧ (0 ≤ (8 * v1) + v2 ∧ (8 * v1) + v2 < 160) ∧ (∀ σ2 : am_St, σ2 = (σ.1, am_up σ.2 169 ((8 * v1) + v2).toNat (am_i2l (σ.1 179 v2.toNat))) → am_U x m_Mo_layAll Po σ2 7 [some (Zr 147), some (Zi v1), some (Zi (v2 + 1))] [])))) : am_U x m_Mo_layAll Po σ 7 [some (Zr 147), some (Zi v1), some (Zi v2)] [] := by
  refine V_iload_n d_Mo_layAll_7 rfl ?_
  refine V_bipush d_Mo_layAll_8 ?_
  refine V_aload_n d_Mo_layAll_10 rfl ?_
  refine U_geti d_Mo_layAll_11 fl_Mo_244 sh_147 ?_
  refine V_imul d_Mo_layAll_14 ?_
  obtain ⟨h1, h⟩ := h
  obtain ⟨h2, h⟩ := h
  obtain ⟨ht, hf⟩ := h
  refine V_icmp_ge 42 d_Mo_layAll_15 h1 h2 (fun h5 => ?_) (fun h5 => ?_)
  · have h := ht h5
    refine V_iload_n d_Mo_layAll_42 rfl ?_
    refine V_aload_n d_Mo_layAll_43 rfl ?_
    refine U_geti d_Mo_layAll_44 fl_Mo_244 sh_147 ?_
    refine V_iadd d_Mo_layAll_47 ?_
    exact V_iret d_Mo_layAll_48 rfl rfl h
  · have h := hf h5
    refine V_aload_n d_Mo_layAll_18 rfl ?_
    refine U_geta d_Mo_layAll_19 fl_Mo_84 sh_147 rfl ?_
    refine V_bipush d_Mo_layAll_22 ?_
    refine V_iload_n d_Mo_layAll_24 rfl ?_
    refine V_imul d_Mo_layAll_25 ?_
    refine V_iload_n d_Mo_layAll_26 rfl ?_
    refine V_iadd d_Mo_layAll_27 ?_
    refine V_aload_n d_Mo_layAll_28 rfl ?_
    refine U_geta d_Mo_layAll_29 fl_Mo_115 sh_147 rfl ?_
    refine V_iload_n d_Mo_layAll_32 rfl ?_
    obtain ⟨h3, h⟩ := h
    refine U_iald d_Mo_layAll_33 sh_179 h3 ?_
    refine V_i2l d_Mo_layAll_34 ?_
    obtain ⟨h4, h⟩ := h
    refine U_last d_Mo_layAll_35 sh_169 h4 ?_
    have h := h _ rfl
    refine V_iinc d_Mo_layAll_36 rfl rfl ?_
    refine V_goto 7 d_Mo_layAll_39 ?_
    exact h
theorem s_Mo_best_0 {x : am_Sc} {Po : Option am_AV → am_Sh → am_St → Prop} {σ : am_St} {v1 : Int}
    (h : am_U x m_Mo_in (fun ro1 so1 σ1 => ∃ z1 : Int, ro1 = some (Zi z1) ∧ so1 = am_SH ∧ am_r z1 ∧ ((¬ z1 = 0 → am_r (σ1.1 147 8) ∧ ((¬ (σ1.1 147 8) = 0 → am_U x m_Mo_findRays (fun ro2 so2 σ2 => ro2 = none ∧ so2 = am_SH ∧ am_U x m_Mo_best Po σ2 33 [some (Zr 147), some (Zi v1), some (Zi (-1)), some (Zi (-1)), some (Zi 0), none] []) σ1 0 [some (Zr 147), none] []) ∧ ((σ1.1 147 8) = 0 → Po (some (Zi (-4))) am_SH σ1))) ∧ (z1 = 0 → Po (some (Zi (-3))) am_SH σ1))) σ 0 [some (Zi v1), some (Zi 0), some (Zi 1)] []) : am_U x m_Mo_best Po σ 0 [some (Zr 147), some (Zi v1), none, none, none, none] [] := by
  refine V_iload_n d_Mo_best_0 rfl ?_
  refine V_iconst d_Mo_best_1 ?_
  refine V_iconst d_Mo_best_2 ?_
  refine U_is3 cv_Mo_best_122 d_Mo_best_3  rfl (am_mono h ?_)
  rintro ro1 so1 σ1 ⟨z1, rfl, rfl, h⟩
  obtain ⟨h1, h⟩ := h
  obtain ⟨ht, hf⟩ := h
  refine V_if_ne 12 d_Mo_best_6 h1 (fun h4 => ?_) (fun h4 => ?_)
  · have h := ht h4
    refine V_aload_n d_Mo_best_12 rfl ?_
    refine U_geti d_Mo_best_13 fl_Mo_129 sh_147 ?_
    obtain ⟨h2, h⟩ := h
    obtain ⟨ht, hf⟩ := h
    refine V_if_ne 22 d_Mo_best_16 h2 (fun h3 => ?_) (fun h3 => ?_)
    · have h := ht h3
      refine V_aload_n d_Mo_best_22 rfl ?_
      refine U_iv0 cv_Mo_best_219 d_Mo_best_23 sh_147 rfl rfl (am_mono h ?_)
      rintro ro2 so2 σ2 ⟨rfl, rfl, h⟩
      refine V_iconst d_Mo_best_26 ?_
      refine V_istore_n d_Mo_best_27 rfl ?_
      refine V_iconst d_Mo_best_28 ?_
      refine V_istore_n d_Mo_best_29 rfl ?_
      refine V_iconst d_Mo_best_30 ?_
      refine V_istore d_Mo_best_31 rfl ?_
      exact h
    · have h := hf h3
      refine V_bipush d_Mo_best_19 ?_
      exact V_iret d_Mo_best_21 rfl rfl h
  · have h := hf h4
    refine V_bipush d_Mo_best_9 ?_
    exact V_iret d_Mo_best_11 rfl rfl h
theorem s_Mo_best_33 {x : am_Sc} {Po : Option am_AV → am_Sh → am_St → Prop} {σ : am_St} {v1 v2 v3 v4 : Int}
    (h : am_U x m_Mo_cells (fun ro3 so3 σ3 => ∃ z3 : Int, ro3 = some (Zi z3) ∧ so3 = am_SH ∧ am_r v4 ∧ am_r z3 ∧ ((z3 ≤ v4 → am_r v1 ∧ ((¬ v1 = 0 → am_U x m_Mo_best Po σ3 91 [none, none, none, none, none, none] [Zi v3]) ∧ (v1 = 0 → am_U x m_Mo_best Po σ3 91 [none, none, none, none, none, none] [Zi v2]))) ∧ (¬ z3 ≤ v4 → am_U x m_Mo_resolvedWith (fun ro4 so4 σ4 => ∃ z4 : Int, ro4 = some (Zi z4) ∧ so4 = am_SH ∧ am_r z4 ∧ am_r v3 ∧ ((z4 ≤ v3 → am_U x m_Mo_best Po σ4 62 [some (Zr 147), some (Zi v1), none, some (Zi v3), some (Zi v4), some (Zi z4)] [Zi v2]) ∧ (¬ z4 ≤ v3 → am_U x m_Mo_best Po σ4 62 [some (Zr 147), some (Zi v1), none, some (Zi v3), some (Zi v4), some (Zi z4)] [Zi v4]))) σ3 0 [some (Zr 147), some (Zi v4), none, none] []))) σ 0 [some (Zr 147)] []) : am_U x m_Mo_best Po σ 33 [some (Zr 147), some (Zi v1), some (Zi v2), some (Zi v3), some (Zi v4), none] [] := by
  refine V_iload d_Mo_best_33 rfl ?_
  refine V_aload_n d_Mo_best_35 rfl ?_
  refine U_iv0 cv_Mo_best_118 d_Mo_best_36 sh_147 rfl rfl (am_mono h ?_)
  rintro ro3 so3 σ3 ⟨z3, rfl, rfl, h⟩
  obtain ⟨h5, h⟩ := h
  obtain ⟨h6, h⟩ := h
  obtain ⟨ht, hf⟩ := h
  refine V_icmp_ge 82 d_Mo_best_39 h5 h6 (fun h12 => ?_) (fun h12 => ?_)
  · have h := ht h12
    refine V_iload_n d_Mo_best_82 rfl ?_
    obtain ⟨h7, h⟩ := h
    obtain ⟨ht, hf⟩ := h
    refine V_if_ne 90 d_Mo_best_83 h7 (fun h8 => ?_) (fun h8 => ?_)
    · have h := ht h8
      refine V_iload_n d_Mo_best_90 rfl ?_
      refine V_drop 0 ?_
      refine V_drop 1 ?_
      refine V_drop 2 ?_
      refine V_drop 3 ?_
      refine V_drop 4 ?_
      exact h
    · have h := hf h8
      refine V_iload_n d_Mo_best_86 rfl ?_
      refine V_goto 91 d_Mo_best_87 ?_
      refine V_drop 0 ?_
      refine V_drop 1 ?_
      refine V_drop 2 ?_
      refine V_drop 3 ?_
      refine V_drop 4 ?_
      exact h
  · have h := hf h12
    refine V_aload_n d_Mo_best_42 rfl ?_
    refine V_iload d_Mo_best_43 rfl ?_
    refine U_iv1 cv_Mo_best_253 d_Mo_best_45 sh_147 rfl rfl (am_mono h ?_)
    rintro ro4 so4 σ4 ⟨z4, rfl, rfl, h⟩
    refine V_istore d_Mo_best_48 rfl ?_
    refine V_iload d_Mo_best_50 rfl ?_
    refine V_iload_n d_Mo_best_52 rfl ?_
    obtain ⟨h9, h⟩ := h
    obtain ⟨h10, h⟩ := h
    obtain ⟨ht, hf⟩ := h
    refine V_icmp_le 61 d_Mo_best_53 h9 h10 (fun h11 => ?_) (fun h11 => ?_)
    · have h := ht h11
      refine V_iload_n d_Mo_best_61 rfl ?_
      refine V_drop 2 ?_
      exact h
    · have h := hf h11
      refine V_iload d_Mo_best_56 rfl ?_
      refine V_goto 62 d_Mo_best_58 ?_
      refine V_drop 2 ?_
      exact h
theorem s_Mo_best_91 {x : am_Sc} {Po : Option am_AV → am_Sh → am_St → Prop} {σ : am_St} {vk0 : Int}
    (h : Po (some (Zi vk0)) am_SH σ) : am_U x m_Mo_best Po σ 91 [none, none, none, none, none, none] [Zi vk0] := by
  exact V_iret d_Mo_best_91 rfl rfl h
theorem s_Mo_best_62 {x : am_Sc} {Po : Option am_AV → am_Sh → am_St → Prop} {σ : am_St} {v1 v3 v4 v5 vk0 : Int}
    (h : am_r v5 ∧ am_r v3 ∧ ((v5 ≤ v3 → am_U x m_Mo_best Po σ 75 [some (Zr 147), some (Zi v1), some (Zi vk0), none, some (Zi v4), none] [Zi v3]) ∧ (¬ v5 ≤ v3 → am_U x m_Mo_best Po σ 75 [some (Zr 147), some (Zi v1), some (Zi vk0), none, some (Zi v4), none] [Zi v5]))) : am_U x m_Mo_best Po σ 62 [some (Zr 147), some (Zi v1), none, some (Zi v3), some (Zi v4), some (Zi v5)] [Zi vk0] := by
  refine V_istore_n d_Mo_best_62 rfl ?_
  refine V_iload d_Mo_best_63 rfl ?_
  refine V_iload_n d_Mo_best_65 rfl ?_
  obtain ⟨h13, h⟩ := h
  obtain ⟨h14, h⟩ := h
  obtain ⟨ht, hf⟩ := h
  refine V_icmp_le 74 d_Mo_best_66 h13 h14 (fun h15 => ?_) (fun h15 => ?_)
  · have h := ht h15
    refine V_iload_n d_Mo_best_74 rfl ?_
    refine V_drop 3 ?_
    refine V_drop 5 ?_
    exact h
  · have h := hf h15
    refine V_iload d_Mo_best_69 rfl ?_
    refine V_goto 75 d_Mo_best_71 ?_
    refine V_drop 3 ?_
    refine V_drop 5 ?_
    exact h
theorem s_Mo_best_75 {x : am_Sc} {Po : Option am_AV → am_Sh → am_St → Prop} {σ : am_St} {v1 v2 v4 vk0 : Int}
    (h : am_U x m_Mo_best Po σ 33 [some (Zr 147), some (Zi v1), some (Zi v2), some (Zi vk0), some (Zi (v4 + 1)), none] []) : am_U x m_Mo_best Po σ 75 [some (Zr 147), some (Zi v1), some (Zi v2), none, some (Zi v4), none] [Zi vk0] := by
  refine V_istore_n d_Mo_best_75 rfl ?_
  refine V_iinc d_Mo_best_76 rfl rfl ?_
  refine V_goto 33 d_Mo_best_79 ?_
  exact h
theorem s_Mo_resolvedWith_0 {x : am_Sc} {Po : Option am_AV → am_Sh → am_St → Prop} {σ : am_St} {v1 : Int}
    (h : am_U x m_Mo_resolvedWith Po σ 2 [some (Zr 147), some (Zi v1), some (Zi 0), none] []) : am_U x m_Mo_resolvedWith Po σ 0 [some (Zr 147), some (Zi v1), none, none] [] := by
  refine V_iconst d_Mo_resolvedWith_0 ?_
  refine V_istore_n d_Mo_resolvedWith_1 rfl ?_
  exact h
theorem s_Mo_resolvedWith_2 {x : am_Sc} {Po : Option am_AV → am_Sh → am_St → Prop} {σ : am_St} {v1 v2 : Int}
    (h : am_r v2 ∧ am_r (σ.1 147 8) ∧ (((σ.1 147 8) ≤ v2 → (∀ σ1 : am_St, σ1 = (am_up σ.1 147 48 (σ.1 147 8), σ.2) → am_U x m_Mo_resolvedWith Po σ1 119 [some (Zr 147), none, some (Zi 0), some (Zi 0)] [])) ∧ (¬ (σ.1 147 8) ≤ v2 → am_U x m_Mo_resolvedWith Po σ 12 [some (Zr 147), some (Zi v1), some (Zi v2), some (Zi 0)] []))) : am_U x m_Mo_resolvedWith Po σ 2 [some (Zr 147), some (Zi v1), some (Zi v2), none] [] := by
  refine V_iload_n d_Mo_resolvedWith_2 rfl ?_
  refine V_aload_n d_Mo_resolvedWith_3 rfl ?_
  refine U_geti d_Mo_resolvedWith_4 fl_Mo_129 sh_147 ?_
  obtain ⟨h1, h⟩ := h
  obtain ⟨h2, h⟩ := h
  obtain ⟨ht, hf⟩ := h
  refine V_icmp_ge 107 d_Mo_resolvedWith_7 h1 h2 (fun h3 => ?_) (fun h3 => ?_)
  · have h := ht h3
    refine V_aload_n d_Mo_resolvedWith_107 rfl ?_
    refine V_aload_n d_Mo_resolvedWith_108 rfl ?_
    refine U_geti d_Mo_resolvedWith_109 fl_Mo_129 sh_147 ?_
    refine U_puti d_Mo_resolvedWith_112 fw_Mo_244 sh_147 ?_
    have h := h _ rfl
    refine V_iconst d_Mo_resolvedWith_115 ?_
    refine V_istore_n d_Mo_resolvedWith_116 rfl ?_
    refine V_iconst d_Mo_resolvedWith_117 ?_
    refine V_istore_n d_Mo_resolvedWith_118 rfl ?_
    refine V_drop 1 ?_
    exact h
  · have h := hf h3
    refine V_iconst d_Mo_resolvedWith_10 ?_
    refine V_istore_n d_Mo_resolvedWith_11 rfl ?_
    exact h
theorem s_Mo_resolvedWith_119 {x : am_Sc} {Po : Option am_AV → am_Sh → am_St → Prop} {σ : am_St} {v2 v3 : Int}
    (h : am_r v3 ∧ ((8 ≤ v3 → (∀ σ2 : am_St, σ2 = (am_up σ.1 147 48 0, σ.2) → Po (some (Zi v2)) am_SH σ2)) ∧ (¬ 8 ≤ v3 → am_U x m_Mo_sizeOf (fun ro3 so3 σ3 => ∃ z3 : Int, ro3 = some (Zi z3) ∧ so3 = am_SH ∧ am_r z3 ∧ ((z3 ≤ 0 → am_U x m_Mo_resolvedWith Po σ3 146 [some (Zr 147), none, none, some (Zi v3)] [Zi v2]) ∧ (¬ z3 ≤ 0 → am_U x m_Mo_isResolved (fun ro4 so4 σ4 => ∃ z4 : Int, ro4 = some (Zi z4) ∧ so4 = am_SH ∧ am_r z4 ∧ ((z4 = 0 → am_U x m_Mo_resolvedWith Po σ4 146 [some (Zr 147), none, none, some (Zi v3)] [Zi v2]) ∧ (¬ z4 = 0 → am_U x m_Mo_resolvedWith Po σ4 147 [some (Zr 147), none, none, some (Zi v3)] [Zi 1, Zi v2]))) σ3 0 [some (Zr 147), some (Zi v3), none, none, none] []))) σ 0 [some (Zr 147), some (Zi v3), none, none] []))) : am_U x m_Mo_resolvedWith Po σ 119 [some (Zr 147), none, some (Zi v2), some (Zi v3)] [] := by
  refine V_iload_n d_Mo_resolvedWith_119 rfl ?_
  refine V_bipush d_Mo_resolvedWith_120 ?_
  obtain ⟨h4, h⟩ := h
  obtain ⟨ht, hf⟩ := h
  refine V_icmp_ge 155 d_Mo_resolvedWith_122 h4 (by decide) (fun h9 => ?_) (fun h9 => ?_)
  · have h := ht h9
    refine V_aload_n d_Mo_resolvedWith_155 rfl ?_
    refine V_iconst d_Mo_resolvedWith_156 ?_
    refine U_puti d_Mo_resolvedWith_157 fw_Mo_244 sh_147 ?_
    have h := h _ rfl
    refine V_iload_n d_Mo_resolvedWith_160 rfl ?_
    exact V_iret d_Mo_resolvedWith_161 rfl rfl h
  · have h := hf h9
    refine V_iload_n d_Mo_resolvedWith_125 rfl ?_
    refine V_aload_n d_Mo_resolvedWith_126 rfl ?_
    refine V_iload_n d_Mo_resolvedWith_127 rfl ?_
    refine U_iv1 cv_Mo_resolvedWith_142 d_Mo_resolvedWith_128 sh_147 rfl rfl (am_mono h ?_)
    rintro ro3 so3 σ3 ⟨z3, rfl, rfl, h⟩
    obtain ⟨h5, h⟩ := h
    obtain ⟨ht, hf⟩ := h
    refine V_if_le 146 d_Mo_resolvedWith_131 h5 (fun h8 => ?_) (fun h8 => ?_)
    · have h := ht h8
      refine V_drop 2 ?_
      exact h
    · have h := hf h8
      refine V_aload_n d_Mo_resolvedWith_134 rfl ?_
      refine V_iload_n d_Mo_resolvedWith_135 rfl ?_
      refine U_iv1 cv_Mo_resolvedWith_250 d_Mo_resolvedWith_136 sh_147 rfl rfl (am_mono h ?_)
      rintro ro4 so4 σ4 ⟨z4, rfl, rfl, h⟩
      obtain ⟨h6, h⟩ := h
      obtain ⟨ht, hf⟩ := h
      refine V_if_eq 146 d_Mo_resolvedWith_139 h6 (fun h7 => ?_) (fun h7 => ?_)
      · have h := ht h7
        refine V_drop 2 ?_
        exact h
      · have h := hf h7
        refine V_iconst d_Mo_resolvedWith_142 ?_
        refine V_goto 147 d_Mo_resolvedWith_143 ?_
        refine V_drop 2 ?_
        exact h
theorem s_Mo_resolvedWith_12 {x : am_Sc} {Po : Option am_AV → am_Sh → am_St → Prop} {σ : am_St} {v1 v2 v3 : Int}
    (h : am_r v3 ∧ ((8 ≤ v3 → (0 ≤ v2 ∧ v2 < 5) ∧ am_U x m_Mo_layRays (fun ro5 so5 σ5 => ro5 = none ∧ so5 = am_SH ∧ am_U x m_Mo_resolvedWith Po σ5 54 [some (Zr 147), some (Zi v1), some (Zi v2), some (Zi 0)] []) σ 0 [some (Zr 147), some (Zi (σ.1 152 v2.toNat)), some (Zi v1), some (Zi 11), none, none] []) ∧ (¬ 8 ≤ v3 → (0 ≤ 88 + v3 ∧ 88 + v3 < 96) ∧ (0 ≤ v3 ∧ v3 < 8) ∧ (∀ σ6 : am_St, σ6 = (am_up σ.1 170 v3.toNat (σ.1 166 (88 + v3).toNat), σ.2) → am_U x m_Mo_resolvedWith Po σ6 12 [some (Zr 147), some (Zi v1), some (Zi v2), some (Zi (v3 + 1))] [])))) : am_U x m_Mo_resolvedWith Po σ 12 [some (Zr 147), some (Zi v1), some (Zi v2), some (Zi v3)] [] := by
  refine V_iload_n d_Mo_resolvedWith_12 rfl ?_
  refine V_bipush d_Mo_resolvedWith_13 ?_
  obtain ⟨h10, h⟩ := h
  obtain ⟨ht, hf⟩ := h
  refine V_icmp_ge 39 d_Mo_resolvedWith_15 h10 (by decide) (fun h14 => ?_) (fun h14 => ?_)
  · have h := ht h14
    refine V_aload_n d_Mo_resolvedWith_39 rfl ?_
    refine V_aload_n d_Mo_resolvedWith_40 rfl ?_
    refine U_geta d_Mo_resolvedWith_41 fl_Mo_32 sh_147 rfl ?_
    refine V_iload_n d_Mo_resolvedWith_44 rfl ?_
    obtain ⟨h11, h⟩ := h
    refine U_iald d_Mo_resolvedWith_45 sh_152 h11 ?_
    refine V_iload_n d_Mo_resolvedWith_46 rfl ?_
    refine V_bipush d_Mo_resolvedWith_47 ?_
    refine U_iv3 cv_Mo_resolvedWith_209 d_Mo_resolvedWith_49 sh_147 rfl rfl (am_mono h ?_)
    rintro ro5 so5 σ5 ⟨rfl, rfl, h⟩
    refine V_iconst d_Mo_resolvedWith_52 ?_
    refine V_istore_n d_Mo_resolvedWith_53 rfl ?_
    exact h
  · have h := hf h14
    refine V_aload_n d_Mo_resolvedWith_18 rfl ?_
    refine U_geta d_Mo_resolvedWith_19 fl_Mo_88 sh_147 rfl ?_
    refine V_iload_n d_Mo_resolvedWith_22 rfl ?_
    refine V_aload_n d_Mo_resolvedWith_23 rfl ?_
    refine U_geta d_Mo_resolvedWith_24 fl_Mo_75 sh_147 rfl ?_
    refine V_bipush d_Mo_resolvedWith_27 ?_
    refine V_iload_n d_Mo_resolvedWith_29 rfl ?_
    refine V_iadd d_Mo_resolvedWith_30 ?_
    obtain ⟨h12, h⟩ := h
    refine U_iald d_Mo_resolvedWith_31 sh_166 h12 ?_
    obtain ⟨h13, h⟩ := h
    refine U_iast d_Mo_resolvedWith_32 sh_170 h13 ?_
    have h := h _ rfl
    refine V_iinc d_Mo_resolvedWith_33 rfl rfl ?_
    refine V_goto 12 d_Mo_resolvedWith_36 ?_
    exact h
theorem s_Mo_resolvedWith_146 {x : am_Sc} {Po : Option am_AV → am_Sh → am_St → Prop} {σ : am_St} {v3 vk0 : Int}
    (h : am_U x m_Mo_resolvedWith Po σ 147 [some (Zr 147), none, none, some (Zi v3)] [Zi 0, Zi vk0]) : am_U x m_Mo_resolvedWith Po σ 146 [some (Zr 147), none, none, some (Zi v3)] [Zi vk0] := by
  refine V_iconst d_Mo_resolvedWith_146 ?_
  exact h
theorem s_Mo_resolvedWith_147 {x : am_Sc} {Po : Option am_AV → am_Sh → am_St → Prop} {σ : am_St} {v3 vk0 vk1 : Int}
    (h : am_U x m_Mo_resolvedWith Po σ 119 [some (Zr 147), none, some (Zi (vk0 + vk1)), some (Zi (v3 + 1))] []) : am_U x m_Mo_resolvedWith Po σ 147 [some (Zr 147), none, none, some (Zi v3)] [Zi vk1, Zi vk0] := by
  refine V_iadd d_Mo_resolvedWith_147 ?_
  refine V_istore_n d_Mo_resolvedWith_148 rfl ?_
  refine V_iinc d_Mo_resolvedWith_149 rfl rfl ?_
  refine V_goto 119 d_Mo_resolvedWith_152 ?_
  exact h
theorem s_Mo_resolvedWith_54 {x : am_Sc} {Po : Option am_AV → am_Sh → am_St → Prop} {σ : am_St} {v1 v2 v3 : Int}
    (h : am_r v3 ∧ ((8 ≤ v3 → am_U x m_Mo_resolvedWith Po σ 2 [some (Zr 147), some (Zi v1), some (Zi (v2 + 1)), none] []) ∧ (¬ 8 ≤ v3 → (0 ≤ 88 + v3 ∧ 88 + v3 < 96) ∧ (0 ≤ (8 * v2) + v3 ∧ (8 * v2) + v3 < 40) ∧ (∀ σ7 : am_St, σ7 = (am_up σ.1 179 ((8 * v2) + v3).toNat (σ.1 166 (88 + v3).toNat), σ.2) → (0 ≤ v3 ∧ v3 < 8) ∧ (∀ σ8 : am_St, σ8 = (am_up σ7.1 166 (88 + v3).toNat (σ7.1 170 v3.toNat), σ7.2) → am_U x m_Mo_resolvedWith Po σ8 54 [some (Zr 147), some (Zi v1), some (Zi v2), some (Zi (v3 + 1))] []))))) : am_U x m_Mo_resolvedWith Po σ 54 [some (Zr 147), some (Zi v1), some (Zi v2), some (Zi v3)] [] := by
  refine V_iload_n d_Mo_resolvedWith_54 rfl ?_
  refine V_bipush d_Mo_resolvedWith_55 ?_
  obtain ⟨h15, h⟩ := h
  obtain ⟨ht, hf⟩ := h
  refine V_icmp_ge 101 d_Mo_resolvedWith_57 h15 (by decide) (fun h19 => ?_) (fun h19 => ?_)
  · have h := ht h19
    refine V_iinc d_Mo_resolvedWith_101 rfl rfl ?_
    refine V_goto 2 d_Mo_resolvedWith_104 ?_
    refine V_drop 3 ?_
    exact h
  · have h := hf h19
    refine V_aload_n d_Mo_resolvedWith_60 rfl ?_
    refine U_geta d_Mo_resolvedWith_61 fl_Mo_115 sh_147 rfl ?_
    refine V_bipush d_Mo_resolvedWith_64 ?_
    refine V_iload_n d_Mo_resolvedWith_66 rfl ?_
    refine V_imul d_Mo_resolvedWith_67 ?_
    refine V_iload_n d_Mo_resolvedWith_68 rfl ?_
    refine V_iadd d_Mo_resolvedWith_69 ?_
    refine V_aload_n d_Mo_resolvedWith_70 rfl ?_
    refine U_geta d_Mo_resolvedWith_71 fl_Mo_75 sh_147 rfl ?_
    refine V_bipush d_Mo_resolvedWith_74 ?_
    refine V_iload_n d_Mo_resolvedWith_76 rfl ?_
    refine V_iadd d_Mo_resolvedWith_77 ?_
    obtain ⟨h16, h⟩ := h
    refine U_iald d_Mo_resolvedWith_78 sh_166 h16 ?_
    obtain ⟨h17, h⟩ := h
    refine U_iast d_Mo_resolvedWith_79 sh_179 h17 ?_
    have h := h _ rfl
    refine V_aload_n d_Mo_resolvedWith_80 rfl ?_
    refine U_geta d_Mo_resolvedWith_81 fl_Mo_75 sh_147 rfl ?_
    refine V_bipush d_Mo_resolvedWith_84 ?_
    refine V_iload_n d_Mo_resolvedWith_86 rfl ?_
    refine V_iadd d_Mo_resolvedWith_87 ?_
    refine V_aload_n d_Mo_resolvedWith_88 rfl ?_
    refine U_geta d_Mo_resolvedWith_89 fl_Mo_88 sh_147 rfl ?_
    refine V_iload_n d_Mo_resolvedWith_92 rfl ?_
    obtain ⟨h18, h⟩ := h
    refine U_iald d_Mo_resolvedWith_93 sh_170 h18 ?_
    refine U_iast d_Mo_resolvedWith_94 sh_166 h16 ?_
    have h := h _ rfl
    refine V_iinc d_Mo_resolvedWith_95 rfl rfl ?_
    refine V_goto 54 d_Mo_resolvedWith_98 ?_
    exact h
theorem s_Mo_heap_0 {x : am_Sc} {Po : Option am_AV → am_Sh → am_St → Prop} {σ : am_St} {v1 v2 v3 : Int}
    (h : am_U x m_Mo_isShake (fun ro1 so1 σ1 => ∃ z1 : Int, ro1 = some (Zi z1) ∧ so1 = am_SH ∧ am_r z1 ∧ ((z1 = 0 → am_U x m_Mo_heap Po σ1 16 [none, none, none, none] []) ∧ (¬ z1 = 0 → am_U x m_Mo_isCell (fun ro2 so2 σ2 => ∃ z2 : Int, ro2 = some (Zi z2) ∧ so2 = am_SH ∧ am_r z2 ∧ ((¬ z2 = 0 → am_U x m_Mo_in (fun ro3 so3 σ3 => ∃ z3 : Int, ro3 = some (Zi z3) ∧ so3 = am_SH ∧ am_r z3 ∧ ((¬ z3 = 0 → am_U x m_Mo_findSpans (fun ro4 so4 σ4 => ro4 = none ∧ so4 = am_SH ∧ am_U x m_Mo_findHeap (fun ro5 so5 σ5 => ro5 = none ∧ so5 = am_SH ∧ am_r v3 ∧ ((¬ v3 = 0 → am_U x m_Mo_heap Po σ5 60 [none, none, none, none] [Zi (σ5.1 147 50)]) ∧ (v3 = 0 → am_U x m_Mo_heap Po σ5 60 [none, none, none, none] [Zi (σ5.1 147 49)]))) σ4 0 [some (Zr 147), some (Zi v1), some (Zi v2), none, none, none, none] []) σ3 0 [some (Zr 147), some (Zi (σ3.1 147 20)), none] []) ∧ (z3 = 0 → Po (some (Zi (-3))) am_SH σ3))) σ2 0 [some (Zi v3), some (Zi 0), some (Zi 1)] []) ∧ (z2 = 0 → am_U x m_Mo_heap Po σ2 16 [none, none, none, none] []))) σ1 0 [some (Zr 147), some (Zi v2)] []))) σ 0 [some (Zr 147), some (Zi v1)] []) : am_U x m_Mo_heap Po σ 0 [some (Zr 147), some (Zi v1), some (Zi v2), some (Zi v3)] [] := by
  refine V_aload_n d_Mo_heap_0 rfl ?_
  refine V_iload_n d_Mo_heap_1 rfl ?_
  refine U_iv1 cv_Mo_heap_171 d_Mo_heap_2 sh_147 rfl rfl (am_mono h ?_)
  rintro ro1 so1 σ1 ⟨z1, rfl, rfl, h⟩
  obtain ⟨h1, h⟩ := h
  obtain ⟨ht, hf⟩ := h
  refine V_if_eq 16 d_Mo_heap_5 h1 (fun h8 => ?_) (fun h8 => ?_)
  · have h := ht h8
    refine V_drop 0 ?_
    refine V_drop 1 ?_
    refine V_drop 2 ?_
    refine V_drop 3 ?_
    exact h
  · have h := hf h8
    refine V_aload_n d_Mo_heap_8 rfl ?_
    refine V_iload_n d_Mo_heap_9 rfl ?_
    refine U_iv1 cv_Mo_heap_146 d_Mo_heap_10 sh_147 rfl rfl (am_mono h ?_)
    rintro ro2 so2 σ2 ⟨z2, rfl, rfl, h⟩
    obtain ⟨h2, h⟩ := h
    obtain ⟨ht, hf⟩ := h
    refine V_if_ne 19 d_Mo_heap_13 h2 (fun h7 => ?_) (fun h7 => ?_)
    · have h := ht h7
      refine V_iload_n d_Mo_heap_19 rfl ?_
      refine V_iconst d_Mo_heap_20 ?_
      refine V_iconst d_Mo_heap_21 ?_
      refine U_is3 cv_Mo_heap_122 d_Mo_heap_22  rfl (am_mono h ?_)
      rintro ro3 so3 σ3 ⟨z3, rfl, rfl, h⟩
      obtain ⟨h3, h⟩ := h
      obtain ⟨ht, hf⟩ := h
      refine V_if_ne 31 d_Mo_heap_25 h3 (fun h6 => ?_) (fun h6 => ?_)
      · have h := ht h6
        refine V_aload_n d_Mo_heap_31 rfl ?_
        refine V_aload_n d_Mo_heap_32 rfl ?_
        refine U_geti d_Mo_heap_33 fl_Mo_174 sh_147 ?_
        refine U_iv1 cv_Mo_heap_196 d_Mo_heap_36 sh_147 rfl rfl (am_mono h ?_)
        rintro ro4 so4 σ4 ⟨rfl, rfl, h⟩
        refine V_aload_n d_Mo_heap_39 rfl ?_
        refine V_iload_n d_Mo_heap_40 rfl ?_
        refine V_iload_n d_Mo_heap_41 rfl ?_
        refine U_iv2 cv_Mo_heap_262 d_Mo_heap_42 sh_147 rfl rfl (am_mono h ?_)
        rintro ro5 so5 σ5 ⟨rfl, rfl, h⟩
        refine V_iload_n d_Mo_heap_45 rfl ?_
        obtain ⟨h4, h⟩ := h
        obtain ⟨ht, hf⟩ := h
        refine V_if_ne 56 d_Mo_heap_46 h4 (fun h5 => ?_) (fun h5 => ?_)
        · have h := ht h5
          refine V_aload_n d_Mo_heap_56 rfl ?_
          refine U_geti d_Mo_heap_57 fl_Mo_259 sh_147 ?_
          refine V_drop 0 ?_
          refine V_drop 1 ?_
          refine V_drop 2 ?_
          refine V_drop 3 ?_
          exact h
        · have h := hf h5
          refine V_aload_n d_Mo_heap_49 rfl ?_
          refine U_geti d_Mo_heap_50 fl_Mo_256 sh_147 ?_
          refine V_goto 60 d_Mo_heap_53 ?_
          refine V_drop 0 ?_
          refine V_drop 1 ?_
          refine V_drop 2 ?_
          refine V_drop 3 ?_
          exact h
      · have h := hf h6
        refine V_bipush d_Mo_heap_28 ?_
        exact V_iret d_Mo_heap_30 rfl rfl h
    · have h := hf h7
      refine V_drop 0 ?_
      refine V_drop 1 ?_
      refine V_drop 2 ?_
      refine V_drop 3 ?_
      exact h
theorem s_Mo_heap_16 {x : am_Sc} {Po : Option am_AV → am_Sh → am_St → Prop} {σ : am_St}
    (h : Po (some (Zi (-2))) am_SH σ) : am_U x m_Mo_heap Po σ 16 [none, none, none, none] [] := by
  refine V_bipush d_Mo_heap_16 ?_
  exact V_iret d_Mo_heap_18 rfl rfl h
theorem s_Mo_heap_60 {x : am_Sc} {Po : Option am_AV → am_Sh → am_St → Prop} {σ : am_St} {vk0 : Int}
    (h : Po (some (Zi vk0)) am_SH σ) : am_U x m_Mo_heap Po σ 60 [none, none, none, none] [Zi vk0] := by
  exact V_iret d_Mo_heap_60 rfl rfl h
theorem s_Mo_findHeap_0 {x : am_Sc} {Po : Option am_AV → am_Sh → am_St → Prop} {σ : am_St} {v1 v2 : Int}
    (h : (∀ σ1 : am_St, σ1 = (am_up σ.1 147 49 (-1), σ.2) → am_U x m_Mo_findHeap Po σ1 7 [some (Zr 147), some (Zi v1), some (Zi v2), some (Zi 0), none, none, none] [])) : am_U x m_Mo_findHeap Po σ 0 [some (Zr 147), some (Zi v1), some (Zi v2), none, none, none, none] [] := by
  refine V_aload_n d_Mo_findHeap_0 rfl ?_
  refine V_iconst d_Mo_findHeap_1 ?_
  refine U_puti d_Mo_findHeap_2 fw_Mo_256 sh_147 ?_
  have h := h _ rfl
  refine V_iconst d_Mo_findHeap_5 ?_
  refine V_istore_n d_Mo_findHeap_6 rfl ?_
  exact h
theorem s_Mo_findHeap_7 {x : am_Sc} {Po : Option am_AV → am_Sh → am_St → Prop} {σ : am_St} {v1 v2 v3 : Int}
    (h : am_r v3 ∧ ((2 ≤ v3 → am_U x m_Mo_findHeap Po σ 61 [some (Zr 147), some (Zi v1), none, some (Zi 0), none, none, none] []) ∧ (¬ 2 ≤ v3 → am_U x m_Mo_findTimes (fun ro2 so2 σ2 => ro2 = none ∧ so2 = am_SH ∧ am_U x m_Mo_findHeap Po σ2 21 [some (Zr 147), some (Zi v1), some (Zi v2), some (Zi v3), some (Zi 0), none, none] []) σ 0 [some (Zr 147), some (Zi v2), some (Zi v3), none, none, none, none, none, none, none] []))) : am_U x m_Mo_findHeap Po σ 7 [some (Zr 147), some (Zi v1), some (Zi v2), some (Zi v3), none, none, none] [] := by
  refine V_iload_n d_Mo_findHeap_7 rfl ?_
  refine V_iconst d_Mo_findHeap_8 ?_
  obtain ⟨h1, h⟩ := h
  obtain ⟨ht, hf⟩ := h
  refine V_icmp_ge 59 d_Mo_findHeap_9 h1 (by decide) (fun h2 => ?_) (fun h2 => ?_)
  · have h := ht h2
    refine V_iconst d_Mo_findHeap_59 ?_
    refine V_istore_n d_Mo_findHeap_60 rfl ?_
    refine V_drop 2 ?_
    exact h
  · have h := hf h2
    refine V_aload_n d_Mo_findHeap_12 rfl ?_
    refine V_iload_n d_Mo_findHeap_13 rfl ?_
    refine V_iload_n d_Mo_findHeap_14 rfl ?_
    refine U_iv2 cv_Mo_findHeap_157 d_Mo_findHeap_15 sh_147 rfl rfl (am_mono h ?_)
    rintro ro2 so2 σ2 ⟨rfl, rfl, h⟩
    refine V_iconst d_Mo_findHeap_18 ?_
    refine V_istore d_Mo_findHeap_19 rfl ?_
    exact h
theorem s_Mo_findHeap_61 {x : am_Sc} {Po : Option am_AV → am_Sh → am_St → Prop} {σ : am_St} {v1 v3 : Int}
    (h : am_r v3 ∧ ((1000 < v3 → Po none am_SH σ) ∧ (¬ 1000 < v3 → am_U x m_Mo_findHeap Po σ 74 [some (Zr 147), some (Zi v1), none, some (Zi v3), some (Zi 0), some (Zi 0), none] []))) : am_U x m_Mo_findHeap Po σ 61 [some (Zr 147), some (Zi v1), none, some (Zi v3), none, none, none] [] := by
  refine V_iload_n d_Mo_findHeap_61 rfl ?_
  refine V_sipush d_Mo_findHeap_62 ?_
  obtain ⟨h3, h⟩ := h
  obtain ⟨ht, hf⟩ := h
  refine V_icmp_gt 215 d_Mo_findHeap_65 h3 (by decide) (fun h4 => ?_) (fun h4 => ?_)
  · have h := ht h4
    exact V_ret d_Mo_findHeap_215 rfl rfl h
  · have h := hf h4
    refine V_iconst d_Mo_findHeap_68 ?_
    refine V_istore d_Mo_findHeap_69 rfl ?_
    refine V_iconst d_Mo_findHeap_71 ?_
    refine V_istore d_Mo_findHeap_72 rfl ?_
    exact h
theorem s_Mo_findHeap_21 {x : am_Sc} {Po : Option am_AV → am_Sh → am_St → Prop} {σ : am_St} {v1 v2 v3 v4 : Int}
    (h : am_r v4 ∧ ((16 ≤ v4 → am_U x m_Mo_findHeap Po σ 7 [some (Zr 147), some (Zi v1), some (Zi v2), some (Zi (v3 + 1)), none, none, none] []) ∧ (¬ 16 ≤ v4 → (0 ≤ v4 ∧ v4 < 16) ∧ (0 ≤ (16 * v3) + v4 ∧ (16 * v3) + v4 < 160) ∧ (∀ σ3 : am_St, σ3 = (am_up σ.1 165 ((16 * v3) + v4).toNat (σ.1 164 v4.toNat), σ.2) → am_U x m_Mo_findHeap Po σ3 21 [some (Zr 147), some (Zi v1), some (Zi v2), some (Zi v3), some (Zi (v4 + 1)), none, none] [])))) : am_U x m_Mo_findHeap Po σ 21 [some (Zr 147), some (Zi v1), some (Zi v2), some (Zi v3), some (Zi v4), none, none] [] := by
  refine V_iload d_Mo_findHeap_21 rfl ?_
  refine V_bipush d_Mo_findHeap_23 ?_
  obtain ⟨h5, h⟩ := h
  obtain ⟨ht, hf⟩ := h
  refine V_icmp_ge 53 d_Mo_findHeap_25 h5 (by decide) (fun h8 => ?_) (fun h8 => ?_)
  · have h := ht h8
    refine V_iinc d_Mo_findHeap_53 rfl rfl ?_
    refine V_goto 7 d_Mo_findHeap_56 ?_
    refine V_drop 4 ?_
    exact h
  · have h := hf h8
    refine V_aload_n d_Mo_findHeap_28 rfl ?_
    refine U_geta d_Mo_findHeap_29 fl_Mo_72 sh_147 rfl ?_
    refine V_bipush d_Mo_findHeap_32 ?_
    refine V_iload_n d_Mo_findHeap_34 rfl ?_
    refine V_imul d_Mo_findHeap_35 ?_
    refine V_iload d_Mo_findHeap_36 rfl ?_
    refine V_iadd d_Mo_findHeap_38 ?_
    refine V_aload_n d_Mo_findHeap_39 rfl ?_
    refine U_geta d_Mo_findHeap_40 fl_Mo_69 sh_147 rfl ?_
    refine V_iload d_Mo_findHeap_43 rfl ?_
    obtain ⟨h6, h⟩ := h
    refine U_iald d_Mo_findHeap_45 sh_164 h6 ?_
    obtain ⟨h7, h⟩ := h
    refine U_iast d_Mo_findHeap_46 sh_165 h7 ?_
    have h := h _ rfl
    refine V_iinc d_Mo_findHeap_47 rfl rfl ?_
    refine V_goto 21 d_Mo_findHeap_50 ?_
    exact h
theorem s_Mo_findHeap_74 {x : am_Sc} {Po : Option am_AV → am_Sh → am_St → Prop} {σ : am_St} {v1 v3 v4 v5 : Int}
    (h : am_r v5 ∧ am_r (σ.1 147 11) ∧ (((σ.1 147 11) ≤ v5 → am_r v4 ∧ am_r (σ.1 147 49) ∧ ((v4 ≤ (σ.1 147 49) → am_U x m_Mo_findHeap Po σ 184 [some (Zr 147), some (Zi v1), none, some (Zi v3), some (Zi v4), none, none] [Zi (σ.1 147 50), Zr 147]) ∧ (¬ v4 ≤ (σ.1 147 49) → am_U x m_Mo_findHeap Po σ 184 [some (Zr 147), some (Zi v1), none, some (Zi v3), some (Zi v4), none, none] [Zi v3, Zr 147]))) ∧ (¬ (σ.1 147 11) ≤ v5 → (0 ≤ v5 ∧ v5 < 12) ∧ am_r (σ.1 155 v5.toNat) ∧ am_r v1 ∧ ((¬ (σ.1 155 v5.toNat) = v1 → am_U x m_Mo_findHeap Po σ 160 [some (Zr 147), some (Zi v1), none, some (Zi v3), some (Zi v4), some (Zi v5), none] []) ∧ ((σ.1 155 v5.toNat) = v1 → (0 ≤ σ.1 154 v5.toNat ∧ σ.1 154 v5.toNat < 6) ∧ (0 ≤ (16 * (σ.1 156 v5.toNat)) + (σ.1 150 (σ.1 154 v5.toNat).toNat) ∧ (16 * (σ.1 156 v5.toNat)) + (σ.1 150 (σ.1 154 v5.toNat).toNat) < 160) ∧ am_U x m_Mo_offOf (fun ro4 so4 σ4 => ∃ z4 : Int, ro4 = some (Zi z4) ∧ so4 = am_SH ∧ am_r z4 ∧ ((¬ z4 = 0 → am_U x m_Mo_findHeap Po σ4 157 [some (Zr 147), some (Zi v1), none, some (Zi v3), none, some (Zi v5), none] [Zi 0, Zi v4]) ∧ (z4 = 0 → am_U x m_Mo_findHeap Po σ4 157 [some (Zr 147), some (Zi v1), none, some (Zi v3), none, some (Zi v5), none] [Zi 1, Zi v4]))) σ 0 [some (Zr 147), some (Zi v5), some (Zi ((v3 + (σ.1 165 ((16 * (σ.1 156 v5.toNat)) + (σ.1 150 (σ.1 154 v5.toNat).toNat)).toNat)) + (σ.1 151 (σ.1 154 v5.toNat).toNat)))] []))))) : am_U x m_Mo_findHeap Po σ 74 [some (Zr 147), some (Zi v1), none, some (Zi v3), some (Zi v4), some (Zi v5), none] [] := by
  refine V_iload d_Mo_findHeap_74 rfl ?_
  refine V_aload_n d_Mo_findHeap_76 rfl ?_
  refine U_geti d_Mo_findHeap_77 fl_Mo_132 sh_147 ?_
  obtain ⟨h9, h⟩ := h
  obtain ⟨h10, h⟩ := h
  obtain ⟨ht, hf⟩ := h
  refine V_icmp_ge 166 d_Mo_findHeap_80 h9 h10 (fun h22 => ?_) (fun h22 => ?_)
  · have h := ht h22
    refine V_aload_n d_Mo_findHeap_166 rfl ?_
    refine V_iload d_Mo_findHeap_167 rfl ?_
    refine V_aload_n d_Mo_findHeap_169 rfl ?_
    refine U_geti d_Mo_findHeap_170 fl_Mo_256 sh_147 ?_
    obtain ⟨h11, h⟩ := h
    obtain ⟨h12, h⟩ := h
    obtain ⟨ht, hf⟩ := h
    refine V_icmp_le 180 d_Mo_findHeap_173 h11 h12 (fun h13 => ?_) (fun h13 => ?_)
    · have h := ht h13
      refine V_aload_n d_Mo_findHeap_180 rfl ?_
      refine U_geti d_Mo_findHeap_181 fl_Mo_259 sh_147 ?_
      refine V_drop 5 ?_
      exact h
    · have h := hf h13
      refine V_iload_n d_Mo_findHeap_176 rfl ?_
      refine V_goto 184 d_Mo_findHeap_177 ?_
      refine V_drop 5 ?_
      exact h
  · have h := hf h22
    refine V_aload_n d_Mo_findHeap_83 rfl ?_
    refine U_geta d_Mo_findHeap_84 fl_Mo_41 sh_147 rfl ?_
    refine V_iload d_Mo_findHeap_87 rfl ?_
    obtain ⟨h14, h⟩ := h
    refine U_iald d_Mo_findHeap_89 sh_155 h14 ?_
    refine V_iload_n d_Mo_findHeap_90 rfl ?_
    obtain ⟨h15, h⟩ := h
    obtain ⟨h16, h⟩ := h
    obtain ⟨ht, hf⟩ := h
    refine V_icmp_ne 160 d_Mo_findHeap_91 h15 h16 (fun h21 => ?_) (fun h21 => ?_)
    · have h := ht h21
      exact h
    · have h := hf h21
      refine V_iload_n d_Mo_findHeap_94 rfl ?_
      refine V_aload_n d_Mo_findHeap_95 rfl ?_
      refine U_geta d_Mo_findHeap_96 fl_Mo_72 sh_147 rfl ?_
      refine V_bipush d_Mo_findHeap_99 ?_
      refine V_aload_n d_Mo_findHeap_101 rfl ?_
      refine U_geta d_Mo_findHeap_102 fl_Mo_44 sh_147 rfl ?_
      refine V_iload d_Mo_findHeap_105 rfl ?_
      refine U_iald d_Mo_findHeap_107 sh_156 h14 ?_
      refine V_imul d_Mo_findHeap_108 ?_
      refine V_aload_n d_Mo_findHeap_109 rfl ?_
      refine U_geta d_Mo_findHeap_110 fl_Mo_26 sh_147 rfl ?_
      refine V_aload_n d_Mo_findHeap_113 rfl ?_
      refine U_geta d_Mo_findHeap_114 fl_Mo_38 sh_147 rfl ?_
      refine V_iload d_Mo_findHeap_117 rfl ?_
      refine U_iald d_Mo_findHeap_119 sh_154 h14 ?_
      obtain ⟨h17, h⟩ := h
      refine U_iald d_Mo_findHeap_120 sh_150 h17 ?_
      refine V_iadd d_Mo_findHeap_121 ?_
      obtain ⟨h18, h⟩ := h
      refine U_iald d_Mo_findHeap_122 sh_165 h18 ?_
      refine V_iadd d_Mo_findHeap_123 ?_
      refine V_aload_n d_Mo_findHeap_124 rfl ?_
      refine U_geta d_Mo_findHeap_125 fl_Mo_29 sh_147 rfl ?_
      refine V_aload_n d_Mo_findHeap_128 rfl ?_
      refine U_geta d_Mo_findHeap_129 fl_Mo_38 sh_147 rfl ?_
      refine V_iload d_Mo_findHeap_132 rfl ?_
      refine U_iald d_Mo_findHeap_134 sh_154 h14 ?_
      refine U_iald d_Mo_findHeap_135 sh_151 h17 ?_
      refine V_iadd d_Mo_findHeap_136 ?_
      refine V_istore d_Mo_findHeap_137 rfl ?_
      refine V_iload d_Mo_findHeap_139 rfl ?_
      refine V_aload_n d_Mo_findHeap_141 rfl ?_
      refine V_iload d_Mo_findHeap_142 rfl ?_
      refine V_iload d_Mo_findHeap_144 rfl ?_
      refine U_iv2 cv_Mo_findHeap_193 d_Mo_findHeap_146 sh_147 rfl rfl (am_mono h ?_)
      rintro ro4 so4 σ4 ⟨z4, rfl, rfl, h⟩
      obtain ⟨h19, h⟩ := h
      obtain ⟨ht, hf⟩ := h
      refine V_if_ne 156 d_Mo_findHeap_149 h19 (fun h20 => ?_) (fun h20 => ?_)
      · have h := ht h20
        refine V_iconst d_Mo_findHeap_156 ?_
        refine V_drop 4 ?_
        refine V_drop 6 ?_
        exact h
      · have h := hf h20
        refine V_iconst d_Mo_findHeap_152 ?_
        refine V_goto 157 d_Mo_findHeap_153 ?_
        refine V_drop 4 ?_
        refine V_drop 6 ?_
        exact h
theorem s_Mo_findHeap_184 {x : am_Sc} {Po : Option am_AV → am_Sh → am_St → Prop} {σ : am_St} {v1 v3 v4 vk1 : Int}
    (h : (∀ σ5 : am_St, σ5 = (am_up σ.1 147 50 vk1, σ.2) → am_r v4 ∧ am_r (σ5.1 147 49) ∧ ((v4 ≤ (σ5.1 147 49) → am_U x m_Mo_findHeap Po σ5 206 [some (Zr 147), some (Zi v1), none, some (Zi v3), none, none, none] [Zi (σ5.1 147 49), Zr 147]) ∧ (¬ v4 ≤ (σ5.1 147 49) → am_U x m_Mo_findHeap Po σ5 206 [some (Zr 147), some (Zi v1), none, some (Zi v3), none, none, none] [Zi v4, Zr 147])))) : am_U x m_Mo_findHeap Po σ 184 [some (Zr 147), some (Zi v1), none, some (Zi v3), some (Zi v4), none, none] [Zi vk1, Zr 147] := by
  refine U_puti d_Mo_findHeap_184 fw_Mo_259 sh_147 ?_
  have h := h _ rfl
  refine V_aload_n d_Mo_findHeap_187 rfl ?_
  refine V_iload d_Mo_findHeap_188 rfl ?_
  refine V_aload_n d_Mo_findHeap_190 rfl ?_
  refine U_geti d_Mo_findHeap_191 fl_Mo_256 sh_147 ?_
  obtain ⟨h23, h⟩ := h
  obtain ⟨h24, h⟩ := h
  obtain ⟨ht, hf⟩ := h
  refine V_icmp_le 202 d_Mo_findHeap_194 h23 h24 (fun h25 => ?_) (fun h25 => ?_)
  · have h := ht h25
    refine V_aload_n d_Mo_findHeap_202 rfl ?_
    refine U_geti d_Mo_findHeap_203 fl_Mo_256 sh_147 ?_
    refine V_drop 4 ?_
    exact h
  · have h := hf h25
    refine V_iload d_Mo_findHeap_197 rfl ?_
    refine V_goto 206 d_Mo_findHeap_199 ?_
    refine V_drop 4 ?_
    exact h
theorem s_Mo_findHeap_160 {x : am_Sc} {Po : Option am_AV → am_Sh → am_St → Prop} {σ : am_St} {v1 v3 v4 v5 : Int}
    (h : am_U x m_Mo_findHeap Po σ 74 [some (Zr 147), some (Zi v1), none, some (Zi v3), some (Zi v4), some (Zi (v5 + 1)), none] []) : am_U x m_Mo_findHeap Po σ 160 [some (Zr 147), some (Zi v1), none, some (Zi v3), some (Zi v4), some (Zi v5), none] [] := by
  refine V_iinc d_Mo_findHeap_160 rfl rfl ?_
  refine V_goto 74 d_Mo_findHeap_163 ?_
  exact h
theorem s_Mo_findHeap_157 {x : am_Sc} {Po : Option am_AV → am_Sh → am_St → Prop} {σ : am_St} {v1 v3 v5 vk0 vk1 : Int}
    (h : am_U x m_Mo_findHeap Po σ 160 [some (Zr 147), some (Zi v1), none, some (Zi v3), some (Zi (vk0 + vk1)), some (Zi v5), none] []) : am_U x m_Mo_findHeap Po σ 157 [some (Zr 147), some (Zi v1), none, some (Zi v3), none, some (Zi v5), none] [Zi vk1, Zi vk0] := by
  refine V_iadd d_Mo_findHeap_157 ?_
  refine V_istore d_Mo_findHeap_158 rfl ?_
  exact h
theorem s_Mo_findHeap_206 {x : am_Sc} {Po : Option am_AV → am_Sh → am_St → Prop} {σ : am_St} {v1 v3 vk1 : Int}
    (h : (∀ σ6 : am_St, σ6 = (am_up σ.1 147 49 vk1, σ.2) → am_U x m_Mo_findHeap Po σ6 61 [some (Zr 147), some (Zi v1), none, some (Zi (v3 + 1)), none, none, none] [])) : am_U x m_Mo_findHeap Po σ 206 [some (Zr 147), some (Zi v1), none, some (Zi v3), none, none, none] [Zi vk1, Zr 147] := by
  refine U_puti d_Mo_findHeap_206 fw_Mo_256 sh_147 ?_
  have h := h _ rfl
  refine V_iinc d_Mo_findHeap_209 rfl rfl ?_
  refine V_goto 61 d_Mo_findHeap_212 ?_
  exact h
theorem s_Mo_move_0 {x : am_Sc} {Po : Option am_AV → am_Sh → am_St → Prop} {σ : am_St} {v1 : Int}
    (h : am_U x m_Mo_isShake (fun ro1 so1 σ1 => ∃ z1 : Int, ro1 = some (Zi z1) ∧ so1 = am_SH ∧ am_r z1 ∧ ((¬ z1 = 0 → am_U x m_Mo_move Po σ1 15 [some (Zr 147), some (Zi v1), some (Zi 0), some (Zi 0), none, none, none] []) ∧ (z1 = 0 → Po (some (Zi (-2))) am_SH σ1))) σ 0 [some (Zr 147), some (Zi v1)] []) : am_U x m_Mo_move Po σ 0 [some (Zr 147), some (Zi v1), none, none, none, none, none] [] := by
  refine V_aload_n d_Mo_move_0 rfl ?_
  refine V_iload_n d_Mo_move_1 rfl ?_
  refine U_iv1 cv_Mo_move_171 d_Mo_move_2 sh_147 rfl rfl (am_mono h ?_)
  rintro ro1 so1 σ1 ⟨z1, rfl, rfl, h⟩
  obtain ⟨h1, h⟩ := h
  obtain ⟨ht, hf⟩ := h
  refine V_if_ne 11 d_Mo_move_5 h1 (fun h2 => ?_) (fun h2 => ?_)
  · have h := ht h2
    refine V_iconst d_Mo_move_11 ?_
    refine V_istore_n d_Mo_move_12 rfl ?_
    refine V_iconst d_Mo_move_13 ?_
    refine V_istore_n d_Mo_move_14 rfl ?_
    exact h
  · have h := hf h2
    refine V_bipush d_Mo_move_8 ?_
    exact V_iret d_Mo_move_10 rfl rfl h
theorem s_Mo_move_15 {x : am_Sc} {Po : Option am_AV → am_Sh → am_St → Prop} {σ : am_St} {v1 v2 v3 : Int}
    (h : am_r v3 ∧ am_r (σ.1 147 11) ∧ (((σ.1 147 11) ≤ v3 → am_r v2 ∧ ((¬ v2 = 0 → am_U x m_Mo_findSpans (fun ro2 so2 σ2 => ro2 = none ∧ so2 = am_SH ∧ am_U x m_Mo_move Po σ2 75 [some (Zr 147), some (Zi v1), none, some (Zi (-1)), some (Zi (-1)), some (Zi 0), some (Zi 0)] []) σ 0 [some (Zr 147), some (Zi (σ.1 147 20)), none] []) ∧ (v2 = 0 → Po (some (Zi (-4))) am_SH σ))) ∧ (¬ (σ.1 147 11) ≤ v3 → am_r v2 ∧ ((¬ v2 = 0 → am_U x m_Mo_move Po σ 37 [some (Zr 147), some (Zi v1), none, some (Zi v3), none, none, none] []) ∧ (v2 = 0 → (0 ≤ v3 ∧ v3 < 12) ∧ am_r (σ.1 155 v3.toNat) ∧ am_r v1 ∧ ((¬ (σ.1 155 v3.toNat) = v1 → am_U x m_Mo_move Po σ 42 [some (Zr 147), some (Zi v1), none, some (Zi v3), none, none, none] [Zi 0]) ∧ ((σ.1 155 v3.toNat) = v1 → am_U x m_Mo_move Po σ 37 [some (Zr 147), some (Zi v1), none, some (Zi v3), none, none, none] []))))))) : am_U x m_Mo_move Po σ 15 [some (Zr 147), some (Zi v1), some (Zi v2), some (Zi v3), none, none, none] [] := by
  refine V_iload_n d_Mo_move_15 rfl ?_
  refine V_aload_n d_Mo_move_16 rfl ?_
  refine U_geti d_Mo_move_17 fl_Mo_132 sh_147 ?_
  obtain ⟨h3, h⟩ := h
  obtain ⟨h4, h⟩ := h
  obtain ⟨ht, hf⟩ := h
  refine V_icmp_ge 49 d_Mo_move_20 h3 h4 (fun h13 => ?_) (fun h13 => ?_)
  · have h := ht h13
    refine V_iload_n d_Mo_move_49 rfl ?_
    obtain ⟨h5, h⟩ := h
    obtain ⟨ht, hf⟩ := h
    refine V_if_ne 56 d_Mo_move_50 h5 (fun h6 => ?_) (fun h6 => ?_)
    · have h := ht h6
      refine V_aload_n d_Mo_move_56 rfl ?_
      refine V_aload_n d_Mo_move_57 rfl ?_
      refine U_geti d_Mo_move_58 fl_Mo_174 sh_147 ?_
      refine U_iv1 cv_Mo_move_196 d_Mo_move_61 sh_147 rfl rfl (am_mono h ?_)
      rintro ro2 so2 σ2 ⟨rfl, rfl, h⟩
      refine V_iconst d_Mo_move_64 ?_
      refine V_istore_n d_Mo_move_65 rfl ?_
      refine V_iconst d_Mo_move_66 ?_
      refine V_istore d_Mo_move_67 rfl ?_
      refine V_iconst d_Mo_move_69 ?_
      refine V_istore d_Mo_move_70 rfl ?_
      refine V_iconst d_Mo_move_72 ?_
      refine V_istore d_Mo_move_73 rfl ?_
      refine V_drop 2 ?_
      exact h
    · have h := hf h6
      refine V_bipush d_Mo_move_53 ?_
      exact V_iret d_Mo_move_55 rfl rfl h
  · have h := hf h13
    refine V_iload_n d_Mo_move_23 rfl ?_
    obtain ⟨h7, h⟩ := h
    obtain ⟨ht, hf⟩ := h
    refine V_if_ne 37 d_Mo_move_24 h7 (fun h12 => ?_) (fun h12 => ?_)
    · have h := ht h12
      refine V_drop 2 ?_
      exact h
    · have h := hf h12
      refine V_aload_n d_Mo_move_27 rfl ?_
      refine U_geta d_Mo_move_28 fl_Mo_41 sh_147 rfl ?_
      refine V_iload_n d_Mo_move_31 rfl ?_
      obtain ⟨h8, h⟩ := h
      refine U_iald d_Mo_move_32 sh_155 h8 ?_
      refine V_iload_n d_Mo_move_33 rfl ?_
      obtain ⟨h9, h⟩ := h
      obtain ⟨h10, h⟩ := h
      obtain ⟨ht, hf⟩ := h
      refine V_icmp_ne 41 d_Mo_move_34 h9 h10 (fun h11 => ?_) (fun h11 => ?_)
      · have h := ht h11
        refine V_iconst d_Mo_move_41 ?_
        refine V_drop 2 ?_
        exact h
      · have h := hf h11
        refine V_drop 2 ?_
        exact h
theorem s_Mo_move_75 {x : am_Sc} {Po : Option am_AV → am_Sh → am_St → Prop} {σ : am_St} {v1 v3 v4 v5 v6 : Int}
    (h : am_U x m_Mo_cells (fun ro3 so3 σ3 => ∃ z3 : Int, ro3 = some (Zi z3) ∧ so3 = am_SH ∧ am_r v6 ∧ am_r z3 ∧ ((z3 ≤ v6 → (0 ≤ v1 ∧ v1 < 5) ∧ (∀ σ4 : am_St, σ4 = (am_up σ3.1 152 v1.toNat v3, σ3.2) → (∀ σ5 : am_St, σ5 = (am_up σ4.1 153 v1.toNat v5, σ4.2) → Po (some (Zi v3)) am_SH σ5))) ∧ (¬ z3 ≤ v6 → am_U x m_Mo_findHeap (fun ro6 so6 σ6 => ro6 = none ∧ so6 = am_SH ∧ am_r (σ6.1 147 49) ∧ am_r v4 ∧ (((σ6.1 147 49) ≤ v4 → am_U x m_Mo_move Po σ6 106 [some (Zr 147), some (Zi v1), none, none, some (Zi v4), some (Zi v5), some (Zi v6)] [Zi v3]) ∧ (¬ (σ6.1 147 49) ≤ v4 → am_U x m_Mo_move Po σ6 106 [some (Zr 147), some (Zi v1), none, none, some (Zi v4), some (Zi v5), some (Zi v6)] [Zi v6]))) σ3 0 [some (Zr 147), some (Zi v1), some (Zi v6), none, none, none, none] []))) σ 0 [some (Zr 147)] []) : am_U x m_Mo_move Po σ 75 [some (Zr 147), some (Zi v1), none, some (Zi v3), some (Zi v4), some (Zi v5), some (Zi v6)] [] := by
  refine V_iload d_Mo_move_75 rfl ?_
  refine V_aload_n d_Mo_move_77 rfl ?_
  refine U_iv0 cv_Mo_move_118 d_Mo_move_78 sh_147 rfl rfl (am_mono h ?_)
  rintro ro3 so3 σ3 ⟨z3, rfl, rfl, h⟩
  obtain ⟨h14, h⟩ := h
  obtain ⟨h15, h⟩ := h
  obtain ⟨ht, hf⟩ := h
  refine V_icmp_ge 153 d_Mo_move_81 h14 h15 (fun h20 => ?_) (fun h20 => ?_)
  · have h := ht h20
    refine V_aload_n d_Mo_move_153 rfl ?_
    refine U_geta d_Mo_move_154 fl_Mo_32 sh_147 rfl ?_
    refine V_iload_n d_Mo_move_157 rfl ?_
    refine V_iload_n d_Mo_move_158 rfl ?_
    obtain ⟨h16, h⟩ := h
    refine U_iast d_Mo_move_159 sh_152 h16 ?_
    have h := h _ rfl
    refine V_aload_n d_Mo_move_160 rfl ?_
    refine U_geta d_Mo_move_161 fl_Mo_35 sh_147 rfl ?_
    refine V_iload_n d_Mo_move_164 rfl ?_
    refine V_iload d_Mo_move_165 rfl ?_
    refine U_iast d_Mo_move_167 sh_153 h16 ?_
    have h := h _ rfl
    refine V_iload_n d_Mo_move_168 rfl ?_
    exact V_iret d_Mo_move_169 rfl rfl h
  · have h := hf h20
    refine V_aload_n d_Mo_move_84 rfl ?_
    refine V_iload_n d_Mo_move_85 rfl ?_
    refine V_iload d_Mo_move_86 rfl ?_
    refine U_iv2 cv_Mo_move_262 d_Mo_move_88 sh_147 rfl rfl (am_mono h ?_)
    rintro ro6 so6 σ6 ⟨rfl, rfl, h⟩
    refine V_aload_n d_Mo_move_91 rfl ?_
    refine U_geti d_Mo_move_92 fl_Mo_256 sh_147 ?_
    refine V_iload d_Mo_move_95 rfl ?_
    obtain ⟨h17, h⟩ := h
    obtain ⟨h18, h⟩ := h
    obtain ⟨ht, hf⟩ := h
    refine V_icmp_le 105 d_Mo_move_97 h17 h18 (fun h19 => ?_) (fun h19 => ?_)
    · have h := ht h19
      refine V_iload_n d_Mo_move_105 rfl ?_
      refine V_drop 3 ?_
      exact h
    · have h := hf h19
      refine V_iload d_Mo_move_100 rfl ?_
      refine V_goto 106 d_Mo_move_102 ?_
      refine V_drop 3 ?_
      exact h
theorem s_Mo_move_37 {x : am_Sc} {Po : Option am_AV → am_Sh → am_St → Prop} {σ : am_St} {v1 v3 : Int}
    (h : am_U x m_Mo_move Po σ 42 [some (Zr 147), some (Zi v1), none, some (Zi v3), none, none, none] [Zi 1]) : am_U x m_Mo_move Po σ 37 [some (Zr 147), some (Zi v1), none, some (Zi v3), none, none, none] [] := by
  refine V_iconst d_Mo_move_37 ?_
  refine V_goto 42 d_Mo_move_38 ?_
  exact h
theorem s_Mo_move_42 {x : am_Sc} {Po : Option am_AV → am_Sh → am_St → Prop} {σ : am_St} {v1 v3 vk0 : Int}
    (h : am_U x m_Mo_move Po σ 15 [some (Zr 147), some (Zi v1), some (Zi vk0), some (Zi (v3 + 1)), none, none, none] []) : am_U x m_Mo_move Po σ 42 [some (Zr 147), some (Zi v1), none, some (Zi v3), none, none, none] [Zi vk0] := by
  refine V_istore_n d_Mo_move_42 rfl ?_
  refine V_iinc d_Mo_move_43 rfl rfl ?_
  refine V_goto 15 d_Mo_move_46 ?_
  exact h
theorem s_Mo_move_106 {x : am_Sc} {Po : Option am_AV → am_Sh → am_St → Prop} {σ : am_St} {v1 v4 v5 v6 vk0 : Int}
    (h : am_r (σ.1 147 49) ∧ am_r v4 ∧ (((σ.1 147 49) ≤ v4 → am_U x m_Mo_move Po σ 125 [some (Zr 147), some (Zi v1), none, some (Zi vk0), some (Zi v4), none, some (Zi v6)] [Zi v5]) ∧ (¬ (σ.1 147 49) ≤ v4 → am_U x m_Mo_move Po σ 125 [some (Zr 147), some (Zi v1), none, some (Zi vk0), some (Zi v4), none, some (Zi v6)] [Zi (σ.1 147 50)]))) : am_U x m_Mo_move Po σ 106 [some (Zr 147), some (Zi v1), none, none, some (Zi v4), some (Zi v5), some (Zi v6)] [Zi vk0] := by
  refine V_istore_n d_Mo_move_106 rfl ?_
  refine V_aload_n d_Mo_move_107 rfl ?_
  refine U_geti d_Mo_move_108 fl_Mo_256 sh_147 ?_
  refine V_iload d_Mo_move_111 rfl ?_
  obtain ⟨h21, h⟩ := h
  obtain ⟨h22, h⟩ := h
  obtain ⟨ht, hf⟩ := h
  refine V_icmp_le 123 d_Mo_move_113 h21 h22 (fun h23 => ?_) (fun h23 => ?_)
  · have h := ht h23
    refine V_iload d_Mo_move_123 rfl ?_
    refine V_drop 5 ?_
    exact h
  · have h := hf h23
    refine V_aload_n d_Mo_move_116 rfl ?_
    refine U_geti d_Mo_move_117 fl_Mo_259 sh_147 ?_
    refine V_goto 125 d_Mo_move_120 ?_
    refine V_drop 5 ?_
    exact h
theorem s_Mo_move_125 {x : am_Sc} {Po : Option am_AV → am_Sh → am_St → Prop} {σ : am_St} {v1 v3 v4 v6 vk0 : Int}
    (h : am_r (σ.1 147 49) ∧ am_r v4 ∧ (((σ.1 147 49) ≤ v4 → am_U x m_Mo_move Po σ 145 [some (Zr 147), some (Zi v1), none, some (Zi v3), none, some (Zi vk0), some (Zi v6)] [Zi v4]) ∧ (¬ (σ.1 147 49) ≤ v4 → am_U x m_Mo_move Po σ 145 [some (Zr 147), some (Zi v1), none, some (Zi v3), none, some (Zi vk0), some (Zi v6)] [Zi (σ.1 147 49)]))) : am_U x m_Mo_move Po σ 125 [some (Zr 147), some (Zi v1), none, some (Zi v3), some (Zi v4), none, some (Zi v6)] [Zi vk0] := by
  refine V_istore d_Mo_move_125 rfl ?_
  refine V_aload_n d_Mo_move_127 rfl ?_
  refine U_geti d_Mo_move_128 fl_Mo_256 sh_147 ?_
  refine V_iload d_Mo_move_131 rfl ?_
  obtain ⟨h24, h⟩ := h
  obtain ⟨h25, h⟩ := h
  obtain ⟨ht, hf⟩ := h
  refine V_icmp_le 143 d_Mo_move_133 h24 h25 (fun h26 => ?_) (fun h26 => ?_)
  · have h := ht h26
    refine V_iload d_Mo_move_143 rfl ?_
    refine V_drop 4 ?_
    exact h
  · have h := hf h26
    refine V_aload_n d_Mo_move_136 rfl ?_
    refine U_geti d_Mo_move_137 fl_Mo_256 sh_147 ?_
    refine V_goto 145 d_Mo_move_140 ?_
    refine V_drop 4 ?_
    exact h
theorem s_Mo_move_145 {x : am_Sc} {Po : Option am_AV → am_Sh → am_St → Prop} {σ : am_St} {v1 v3 v5 v6 vk0 : Int}
    (h : am_U x m_Mo_move Po σ 75 [some (Zr 147), some (Zi v1), none, some (Zi v3), some (Zi vk0), some (Zi v5), some (Zi (v6 + 1))] []) : am_U x m_Mo_move Po σ 145 [some (Zr 147), some (Zi v1), none, some (Zi v3), none, some (Zi v5), some (Zi v6)] [Zi vk0] := by
  refine V_istore d_Mo_move_145 rfl ?_
  refine V_iinc d_Mo_move_147 rfl rfl ?_
  refine V_goto 75 d_Mo_move_150 ?_
  exact h
theorem s_Mo_off_0 {x : am_Sc} {Po : Option am_AV → am_Sh → am_St → Prop} {σ : am_St} {v1 : Int}
    (h : am_U x m_Mo_isEar (fun ro1 so1 σ1 => ∃ z1 : Int, ro1 = some (Zi z1) ∧ so1 = am_SH ∧ am_r z1 ∧ ((¬ z1 = 0 → am_U x m_Mo_findSpans (fun ro2 so2 σ2 => ro2 = none ∧ so2 = am_SH ∧ am_U x m_Mo_findShakeTimes (fun ro3 so3 σ3 => ro3 = none ∧ so3 = am_SH ∧ am_U x m_Mo_off Po σ3 30 [some (Zr 147), some (Zi v1), some (Zi 0), some (Zi (-1)), some (Zi 0), none, none, none] []) σ2 0 [some (Zr 147), none, none] []) σ1 0 [some (Zr 147), some (Zi (σ1.1 147 20)), none] []) ∧ (z1 = 0 → Po (some (Zi (-102))) am_SH σ1))) σ 0 [some (Zr 147), some (Zi v1)] []) : am_U x m_Mo_off Po σ 0 [some (Zr 147), some (Zi v1), none, none, none, none, none, none] [] := by
  refine V_aload_n d_Mo_off_0 rfl ?_
  refine V_iload_n d_Mo_off_1 rfl ?_
  refine U_iv1 cv_Mo_off_168 d_Mo_off_2 sh_147 rfl rfl (am_mono h ?_)
  rintro ro1 so1 σ1 ⟨z1, rfl, rfl, h⟩
  obtain ⟨h1, h⟩ := h
  obtain ⟨ht, hf⟩ := h
  refine V_if_ne 11 d_Mo_off_5 h1 (fun h2 => ?_) (fun h2 => ?_)
  · have h := ht h2
    refine V_aload_n d_Mo_off_11 rfl ?_
    refine V_aload_n d_Mo_off_12 rfl ?_
    refine U_geti d_Mo_off_13 fl_Mo_174 sh_147 ?_
    refine U_iv1 cv_Mo_off_196 d_Mo_off_16 sh_147 rfl rfl (am_mono h ?_)
    rintro ro2 so2 σ2 ⟨rfl, rfl, h⟩
    refine V_aload_n d_Mo_off_19 rfl ?_
    refine U_iv0 cv_Mo_off_187 d_Mo_off_20 sh_147 rfl rfl (am_mono h ?_)
    rintro ro3 so3 σ3 ⟨rfl, rfl, h⟩
    refine V_iconst d_Mo_off_23 ?_
    refine V_istore_n d_Mo_off_24 rfl ?_
    refine V_iconst d_Mo_off_25 ?_
    refine V_istore_n d_Mo_off_26 rfl ?_
    refine V_iconst d_Mo_off_27 ?_
    refine V_istore d_Mo_off_28 rfl ?_
    exact h
  · have h := hf h2
    refine V_bipush d_Mo_off_8 ?_
    exact V_iret d_Mo_off_10 rfl rfl h
theorem s_Mo_off_30 {x : am_Sc} {Po : Option am_AV → am_Sh → am_St → Prop} {σ : am_St} {v1 v2 v3 v4 : Int}
    (h : am_r v4 ∧ ((199 ≤ v4 → Po (some (Zi v2)) am_SH σ) ∧ (¬ 199 ≤ v4 → am_r (am_rem v4 2) ∧ ((¬ (am_rem v4 2) = 1 → am_U x m_Mo_off Po σ 60 [some (Zr 147), some (Zi v1), some (Zi v2), some (Zi v3), some (Zi v4), none, none, none] [Zi (am_div v4 2)]) ∧ ((am_rem v4 2) = 1 → am_U x m_Mo_off Po σ 60 [some (Zr 147), some (Zi v1), some (Zi v2), some (Zi v3), some (Zi v4), none, none, none] [Zi (am_div (-(v4 + 1)) 2)]))))) : am_U x m_Mo_off Po σ 30 [some (Zr 147), some (Zi v1), some (Zi v2), some (Zi v3), some (Zi v4), none, none, none] [] := by
  refine V_iload d_Mo_off_30 rfl ?_
  refine V_sipush d_Mo_off_32 ?_
  obtain ⟨h3, h⟩ := h
  obtain ⟨ht, hf⟩ := h
  refine V_icmp_ge 161 d_Mo_off_35 h3 (by decide) (fun h6 => ?_) (fun h6 => ?_)
  · have h := ht h6
    refine V_iload_n d_Mo_off_161 rfl ?_
    exact V_iret d_Mo_off_162 rfl rfl h
  · have h := hf h6
    refine V_iload d_Mo_off_38 rfl ?_
    refine V_iconst d_Mo_off_40 ?_
    refine V_irem d_Mo_off_41 (by decide) (by decide) ?_
    refine V_iconst d_Mo_off_42 ?_
    obtain ⟨h4, h⟩ := h
    obtain ⟨ht, hf⟩ := h
    refine V_icmp_ne 56 d_Mo_off_43 h4 (by decide) (fun h5 => ?_) (fun h5 => ?_)
    · have h := ht h5
      refine V_iload d_Mo_off_56 rfl ?_
      refine V_iconst d_Mo_off_58 ?_
      refine V_idiv d_Mo_off_59 (by decide) (by decide) ?_
      exact h
    · have h := hf h5
      refine V_iload d_Mo_off_46 rfl ?_
      refine V_iconst d_Mo_off_48 ?_
      refine V_iadd d_Mo_off_49 ?_
      refine V_ineg d_Mo_off_50 ?_
      refine V_iconst d_Mo_off_51 ?_
      refine V_idiv d_Mo_off_52 (by decide) (by decide) ?_
      refine V_goto 60 d_Mo_off_53 ?_
      exact h
theorem s_Mo_off_60 {x : am_Sc} {Po : Option am_AV → am_Sh → am_St → Prop} {σ : am_St} {v1 v2 v3 v4 vk0 : Int}
    (h : am_U x m_Mo_off Po σ 68 [some (Zr 147), some (Zi v1), some (Zi v2), some (Zi v3), some (Zi v4), some (Zi vk0), some (Zi 0), some (Zi 0)] []) : am_U x m_Mo_off Po σ 60 [some (Zr 147), some (Zi v1), some (Zi v2), some (Zi v3), some (Zi v4), none, none, none] [Zi vk0] := by
  refine V_istore d_Mo_off_60 rfl ?_
  refine V_iconst d_Mo_off_62 ?_
  refine V_istore d_Mo_off_63 rfl ?_
  refine V_iconst d_Mo_off_65 ?_
  refine V_istore d_Mo_off_66 rfl ?_
  exact h
theorem s_Mo_off_68 {x : am_Sc} {Po : Option am_AV → am_Sh → am_St → Prop} {σ : am_St} {v1 v2 v3 v4 v5 v6 v7 : Int}
    (h : am_r v7 ∧ am_r (σ.1 147 11) ∧ (((σ.1 147 11) ≤ v7 → am_r v6 ∧ am_r v3 ∧ ((v6 ≤ v3 → am_U x m_Mo_off Po σ 141 [some (Zr 147), some (Zi v1), none, some (Zi v3), some (Zi v4), none, some (Zi v6), none] [Zi v2]) ∧ (¬ v6 ≤ v3 → am_U x m_Mo_off Po σ 141 [some (Zr 147), some (Zi v1), none, some (Zi v3), some (Zi v4), none, some (Zi v6), none] [Zi v5]))) ∧ (¬ (σ.1 147 11) ≤ v7 → (0 ≤ v7 ∧ v7 < 12) ∧ am_r (σ.1 154 v7.toNat) ∧ am_r v1 ∧ ((¬ (σ.1 154 v7.toNat) = v1 → am_U x m_Mo_off Po σ 119 [some (Zr 147), some (Zi v1), some (Zi v2), some (Zi v3), some (Zi v4), some (Zi v5), none, some (Zi v7)] [Zi v6]) ∧ ((σ.1 154 v7.toNat) = v1 → am_U x m_Mo_foretold (fun ro4 so4 σ4 => ∃ z4 : Int, ro4 = some (Zi z4) ∧ so4 = am_SH ∧ (0 ≤ v1 ∧ v1 < 6) ∧ am_U x m_Mo_offOf (fun ro5 so5 σ5 => ∃ z5 : Int, ro5 = some (Zi z5) ∧ so5 = am_SH ∧ am_r z5 ∧ ((¬ z5 = 0 → am_U x m_Mo_off Po σ5 119 [some (Zr 147), some (Zi v1), some (Zi v2), some (Zi v3), some (Zi v4), some (Zi v5), none, some (Zi v7)] [Zi v6]) ∧ (z5 = 0 → am_U x m_Mo_off Po σ5 120 [some (Zr 147), some (Zi v1), some (Zi v2), some (Zi v3), some (Zi v4), some (Zi v5), none, some (Zi v7)] [Zi 1, Zi v6]))) σ4 0 [some (Zr 147), some (Zi v7), some (Zi ((z4 - (σ4.1 151 v1.toNat)) + v5))] []) σ 0 [some (Zr 147), some (Zi v7), none] []))))) : am_U x m_Mo_off Po σ 68 [some (Zr 147), some (Zi v1), some (Zi v2), some (Zi v3), some (Zi v4), some (Zi v5), some (Zi v6), some (Zi v7)] [] := by
  refine V_iload d_Mo_off_68 rfl ?_
  refine V_aload_n d_Mo_off_70 rfl ?_
  refine U_geti d_Mo_off_71 fl_Mo_132 sh_147 ?_
  obtain ⟨h7, h⟩ := h
  obtain ⟨h8, h⟩ := h
  obtain ⟨ht, hf⟩ := h
  refine V_icmp_ge 129 d_Mo_off_74 h7 h8 (fun h19 => ?_) (fun h19 => ?_)
  · have h := ht h19
    refine V_iload d_Mo_off_129 rfl ?_
    refine V_iload_n d_Mo_off_131 rfl ?_
    obtain ⟨h9, h⟩ := h
    obtain ⟨h10, h⟩ := h
    obtain ⟨ht, hf⟩ := h
    refine V_icmp_le 140 d_Mo_off_132 h9 h10 (fun h11 => ?_) (fun h11 => ?_)
    · have h := ht h11
      refine V_iload_n d_Mo_off_140 rfl ?_
      refine V_drop 2 ?_
      refine V_drop 5 ?_
      refine V_drop 7 ?_
      exact h
    · have h := hf h11
      refine V_iload d_Mo_off_135 rfl ?_
      refine V_goto 141 d_Mo_off_137 ?_
      refine V_drop 2 ?_
      refine V_drop 5 ?_
      refine V_drop 7 ?_
      exact h
  · have h := hf h19
    refine V_iload d_Mo_off_77 rfl ?_
    refine V_aload_n d_Mo_off_79 rfl ?_
    refine U_geta d_Mo_off_80 fl_Mo_38 sh_147 rfl ?_
    refine V_iload d_Mo_off_83 rfl ?_
    obtain ⟨h12, h⟩ := h
    refine U_iald d_Mo_off_85 sh_154 h12 ?_
    refine V_iload_n d_Mo_off_86 rfl ?_
    obtain ⟨h13, h⟩ := h
    obtain ⟨h14, h⟩ := h
    obtain ⟨ht, hf⟩ := h
    refine V_icmp_ne 119 d_Mo_off_87 h13 h14 (fun h18 => ?_) (fun h18 => ?_)
    · have h := ht h18
      refine V_drop 6 ?_
      exact h
    · have h := hf h18
      refine V_aload_n d_Mo_off_90 rfl ?_
      refine V_iload d_Mo_off_91 rfl ?_
      refine V_aload_n d_Mo_off_93 rfl ?_
      refine V_iload d_Mo_off_94 rfl ?_
      refine U_iv1 cv_Mo_off_190 d_Mo_off_96 sh_147 rfl rfl (am_mono h ?_)
      rintro ro4 so4 σ4 ⟨z4, rfl, rfl, h⟩
      refine V_aload_n d_Mo_off_99 rfl ?_
      refine U_geta d_Mo_off_100 fl_Mo_29 sh_147 rfl ?_
      refine V_iload_n d_Mo_off_103 rfl ?_
      obtain ⟨h15, h⟩ := h
      refine U_iald d_Mo_off_104 sh_151 h15 ?_
      refine V_isub d_Mo_off_105 ?_
      refine V_iload d_Mo_off_106 rfl ?_
      refine V_iadd d_Mo_off_108 ?_
      refine U_iv2 cv_Mo_off_193 d_Mo_off_109 sh_147 rfl rfl (am_mono h ?_)
      rintro ro5 so5 σ5 ⟨z5, rfl, rfl, h⟩
      obtain ⟨h16, h⟩ := h
      obtain ⟨ht, hf⟩ := h
      refine V_if_ne 119 d_Mo_off_112 h16 (fun h17 => ?_) (fun h17 => ?_)
      · have h := ht h17
        refine V_drop 6 ?_
        exact h
      · have h := hf h17
        refine V_iconst d_Mo_off_115 ?_
        refine V_goto 120 d_Mo_off_116 ?_
        refine V_drop 6 ?_
        exact h
theorem s_Mo_off_141 {x : am_Sc} {Po : Option am_AV → am_Sh → am_St → Prop} {σ : am_St} {v1 v3 v4 v6 vk0 : Int}
    (h : am_r v6 ∧ am_r v3 ∧ ((v6 ≤ v3 → am_U x m_Mo_off Po σ 154 [some (Zr 147), some (Zi v1), some (Zi vk0), none, some (Zi v4), none, none, none] [Zi v3]) ∧ (¬ v6 ≤ v3 → am_U x m_Mo_off Po σ 154 [some (Zr 147), some (Zi v1), some (Zi vk0), none, some (Zi v4), none, none, none] [Zi v6]))) : am_U x m_Mo_off Po σ 141 [some (Zr 147), some (Zi v1), none, some (Zi v3), some (Zi v4), none, some (Zi v6), none] [Zi vk0] := by
  refine V_istore_n d_Mo_off_141 rfl ?_
  refine V_iload d_Mo_off_142 rfl ?_
  refine V_iload_n d_Mo_off_144 rfl ?_
  obtain ⟨h20, h⟩ := h
  obtain ⟨h21, h⟩ := h
  obtain ⟨ht, hf⟩ := h
  refine V_icmp_le 153 d_Mo_off_145 h20 h21 (fun h22 => ?_) (fun h22 => ?_)
  · have h := ht h22
    refine V_iload_n d_Mo_off_153 rfl ?_
    refine V_drop 3 ?_
    refine V_drop 6 ?_
    exact h
  · have h := hf h22
    refine V_iload d_Mo_off_148 rfl ?_
    refine V_goto 154 d_Mo_off_150 ?_
    refine V_drop 3 ?_
    refine V_drop 6 ?_
    exact h
theorem s_Mo_off_119 {x : am_Sc} {Po : Option am_AV → am_Sh → am_St → Prop} {σ : am_St} {v1 v2 v3 v4 v5 v7 vk0 : Int}
    (h : am_U x m_Mo_off Po σ 120 [some (Zr 147), some (Zi v1), some (Zi v2), some (Zi v3), some (Zi v4), some (Zi v5), none, some (Zi v7)] [Zi 0, Zi vk0]) : am_U x m_Mo_off Po σ 119 [some (Zr 147), some (Zi v1), some (Zi v2), some (Zi v3), some (Zi v4), some (Zi v5), none, some (Zi v7)] [Zi vk0] := by
  refine V_iconst d_Mo_off_119 ?_
  exact h
theorem s_Mo_off_120 {x : am_Sc} {Po : Option am_AV → am_Sh → am_St → Prop} {σ : am_St} {v1 v2 v3 v4 v5 v7 vk0 vk1 : Int}
    (h : am_U x m_Mo_off Po σ 68 [some (Zr 147), some (Zi v1), some (Zi v2), some (Zi v3), some (Zi v4), some (Zi v5), some (Zi (vk0 + vk1)), some (Zi (v7 + 1))] []) : am_U x m_Mo_off Po σ 120 [some (Zr 147), some (Zi v1), some (Zi v2), some (Zi v3), some (Zi v4), some (Zi v5), none, some (Zi v7)] [Zi vk1, Zi vk0] := by
  refine V_iadd d_Mo_off_120 ?_
  refine V_istore d_Mo_off_121 rfl ?_
  refine V_iinc d_Mo_off_123 rfl rfl ?_
  refine V_goto 68 d_Mo_off_126 ?_
  exact h
theorem s_Mo_off_154 {x : am_Sc} {Po : Option am_AV → am_Sh → am_St → Prop} {σ : am_St} {v1 v2 v4 vk0 : Int}
    (h : am_U x m_Mo_off Po σ 30 [some (Zr 147), some (Zi v1), some (Zi v2), some (Zi vk0), some (Zi (v4 + 1)), none, none, none] []) : am_U x m_Mo_off Po σ 154 [some (Zr 147), some (Zi v1), some (Zi v2), none, some (Zi v4), none, none, none] [Zi vk0] := by
  refine V_istore_n d_Mo_off_154 rfl ?_
  refine V_iinc d_Mo_off_155 rfl rfl ?_
  refine V_goto 30 d_Mo_off_158 ?_
  exact h
theorem s_Mo_board_0 {x : am_Sc} {Po : Option am_AV → am_Sh → am_St → Prop} {σ : am_St} {v1 v2 v3 : Int}
    (h : am_U x m_Mo_in (fun ro1 so1 σ1 => ∃ z1 : Int, ro1 = some (Zi z1) ∧ so1 = am_SH ∧ am_r z1 ∧ ((z1 = 0 → am_U x m_Mo_board Po σ1 30 [none, none, none, none, none, none] []) ∧ (¬ z1 = 0 → am_U x m_Mo_in (fun ro2 so2 σ2 => ∃ z2 : Int, ro2 = some (Zi z2) ∧ so2 = am_SH ∧ am_r z2 ∧ ((z2 = 0 → am_U x m_Mo_board Po σ2 30 [none, none, none, none, none, none] []) ∧ (¬ z2 = 0 → am_U x m_Mo_in (fun ro3 so3 σ3 => ∃ z3 : Int, ro3 = some (Zi z3) ∧ so3 = am_SH ∧ am_r z3 ∧ ((¬ z3 = 0 → am_U x m_Mo_board Po σ3 36 [some (Zr 147), some (Zi v1), some (Zi v2), some (Zi v3), some (Zi 0), none] []) ∧ (z3 = 0 → am_U x m_Mo_board Po σ3 30 [none, none, none, none, none, none] []))) σ2 0 [some (Zi v3), some (Zi 0), some (Zi 20)] []))) σ1 0 [some (Zi v2), some (Zi 1), some (Zi 60)] []))) σ 0 [some (Zi v1), some (Zi 1), some (Zi 60)] []) : am_U x m_Mo_board Po σ 0 [some (Zr 147), some (Zi v1), some (Zi v2), some (Zi v3), none, none] [] := by
  refine V_iload_n d_Mo_board_0 rfl ?_
  refine V_iconst d_Mo_board_1 ?_
  refine V_bipush d_Mo_board_2 ?_
  refine U_is3 cv_Mo_board_122 d_Mo_board_4  rfl (am_mono h ?_)
  rintro ro1 so1 σ1 ⟨z1, rfl, rfl, h⟩
  obtain ⟨h1, h⟩ := h
  obtain ⟨ht, hf⟩ := h
  refine V_if_eq 30 d_Mo_board_7 h1 (fun h6 => ?_) (fun h6 => ?_)
  · have h := ht h6
    refine V_drop 0 ?_
    refine V_drop 1 ?_
    refine V_drop 2 ?_
    refine V_drop 3 ?_
    exact h
  · have h := hf h6
    refine V_iload_n d_Mo_board_10 rfl ?_
    refine V_iconst d_Mo_board_11 ?_
    refine V_bipush d_Mo_board_12 ?_
    refine U_is3 cv_Mo_board_122 d_Mo_board_14  rfl (am_mono h ?_)
    rintro ro2 so2 σ2 ⟨z2, rfl, rfl, h⟩
    obtain ⟨h2, h⟩ := h
    obtain ⟨ht, hf⟩ := h
    refine V_if_eq 30 d_Mo_board_17 h2 (fun h5 => ?_) (fun h5 => ?_)
    · have h := ht h5
      refine V_drop 0 ?_
      refine V_drop 1 ?_
      refine V_drop 2 ?_
      refine V_drop 3 ?_
      exact h
    · have h := hf h5
      refine V_iload_n d_Mo_board_20 rfl ?_
      refine V_iconst d_Mo_board_21 ?_
      refine V_bipush d_Mo_board_22 ?_
      refine U_is3 cv_Mo_board_122 d_Mo_board_24  rfl (am_mono h ?_)
      rintro ro3 so3 σ3 ⟨z3, rfl, rfl, h⟩
      obtain ⟨h3, h⟩ := h
      obtain ⟨ht, hf⟩ := h
      refine V_if_ne 33 d_Mo_board_27 h3 (fun h4 => ?_) (fun h4 => ?_)
      · have h := ht h4
        refine V_iconst d_Mo_board_33 ?_
        refine V_istore d_Mo_board_34 rfl ?_
        exact h
      · have h := hf h4
        refine V_drop 0 ?_
        refine V_drop 1 ?_
        refine V_drop 2 ?_
        refine V_drop 3 ?_
        exact h
theorem s_Mo_board_30 {x : am_Sc} {Po : Option am_AV → am_Sh → am_St → Prop} {σ : am_St}
    (h : Po (some (Zi (-3))) am_SH σ) : am_U x m_Mo_board Po σ 30 [none, none, none, none, none, none] [] := by
  refine V_bipush d_Mo_board_30 ?_
  exact V_iret d_Mo_board_32 rfl rfl h
theorem s_Mo_board_36 {x : am_Sc} {Po : Option am_AV → am_Sh → am_St → Prop} {σ : am_St} {v1 v2 v3 v4 : Int}
    (h : am_r v4 ∧ ((8 ≤ v4 → am_U x m_Mo_findShakeTimes (fun ro4 so4 σ4 => ro4 = none ∧ so4 = am_SH ∧ am_U x m_Mo_board Po σ4 89 [some (Zr 147), some (Zi v1), some (Zi v2), some (Zi v3), some (Zi 0), none] []) σ 0 [some (Zr 147), none, none] []) ∧ (¬ 8 ≤ v4 → (0 ≤ v4 ∧ v4 < 8) ∧ (∀ σ5 : am_St, σ5 = (am_up σ.1 176 v4.toNat (σ.1 149 v4.toNat), σ.2) → am_r (am_rem v4 2) ∧ ((¬ (am_rem v4 2) = 0 → am_U x m_Mo_board Po σ5 75 [some (Zr 147), some (Zi v1), some (Zi v2), some (Zi v3), some (Zi v4), none] [Zi v2, Zi v4, Zr 149]) ∧ ((am_rem v4 2) = 0 → am_U x m_Mo_board Po σ5 75 [some (Zr 147), some (Zi v1), some (Zi v2), some (Zi v3), some (Zi v4), none] [Zi v1, Zi v4, Zr 149])))))) : am_U x m_Mo_board Po σ 36 [some (Zr 147), some (Zi v1), some (Zi v2), some (Zi v3), some (Zi v4), none] [] := by
  refine V_iload d_Mo_board_36 rfl ?_
  refine V_bipush d_Mo_board_38 ?_
  obtain ⟨h7, h⟩ := h
  obtain ⟨ht, hf⟩ := h
  refine V_icmp_ge 82 d_Mo_board_40 h7 (by decide) (fun h11 => ?_) (fun h11 => ?_)
  · have h := ht h11
    refine V_aload_n d_Mo_board_82 rfl ?_
    refine U_iv0 cv_Mo_board_187 d_Mo_board_83 sh_147 rfl rfl (am_mono h ?_)
    rintro ro4 so4 σ4 ⟨rfl, rfl, h⟩
    refine V_iconst d_Mo_board_86 ?_
    refine V_istore d_Mo_board_87 rfl ?_
    exact h
  · have h := hf h11
    refine V_aload_n d_Mo_board_43 rfl ?_
    refine U_geta d_Mo_board_44 fl_Mo_106 sh_147 rfl ?_
    refine V_iload d_Mo_board_47 rfl ?_
    refine V_aload_n d_Mo_board_49 rfl ?_
    refine U_geta d_Mo_board_50 fl_Mo_20 sh_147 rfl ?_
    refine V_iload d_Mo_board_53 rfl ?_
    obtain ⟨h8, h⟩ := h
    refine U_iald d_Mo_board_55 sh_149 h8 ?_
    refine U_iast d_Mo_board_56 sh_176 h8 ?_
    have h := h _ rfl
    refine V_aload_n d_Mo_board_57 rfl ?_
    refine U_geta d_Mo_board_58 fl_Mo_20 sh_147 rfl ?_
    refine V_iload d_Mo_board_61 rfl ?_
    refine V_iload d_Mo_board_63 rfl ?_
    refine V_iconst d_Mo_board_65 ?_
    refine V_irem d_Mo_board_66 (by decide) (by decide) ?_
    obtain ⟨h9, h⟩ := h
    obtain ⟨ht, hf⟩ := h
    refine V_if_ne 74 d_Mo_board_67 h9 (fun h10 => ?_) (fun h10 => ?_)
    · have h := ht h10
      refine V_iload_n d_Mo_board_74 rfl ?_
      exact h
    · have h := hf h10
      refine V_iload_n d_Mo_board_70 rfl ?_
      refine V_goto 75 d_Mo_board_71 ?_
      exact h
theorem s_Mo_board_89 {x : am_Sc} {Po : Option am_AV → am_Sh → am_St → Prop} {σ : am_St} {v1 v2 v3 v4 : Int}
    (h : am_r v4 ∧ am_r (σ.1 147 11) ∧ (((σ.1 147 11) ≤ v4 → am_U x m_Mo_board Po σ 145 [some (Zr 147), some (Zi v1), some (Zi v2), none, some (Zi 0), none] []) ∧ (¬ (σ.1 147 11) ≤ v4 → (0 ≤ v4 ∧ v4 < 12) ∧ (∀ σ6 : am_St, σ6 = (am_up σ.1 163 v4.toNat 1, σ.2) → am_U x m_Mo_foretold (fun ro7 so7 σ7 => ∃ z7 : Int, ro7 = some (Zi z7) ∧ so7 = am_SH ∧ (∀ σ8 : am_St, σ8 = (am_up σ7.1 161 v4.toNat (z7 - v3), σ7.2) → am_U x m_Mo_foretold (fun ro9 so9 σ9 => ∃ z9 : Int, ro9 = some (Zi z9) ∧ so9 = am_SH ∧ (∀ σ10 : am_St, σ10 = (am_up σ9.1 162 v4.toNat (z9 + v3), σ9.2) → am_U x m_Mo_board Po σ10 89 [some (Zr 147), some (Zi v1), some (Zi v2), some (Zi v3), some (Zi (v4 + 1)), none] [])) σ8 0 [some (Zr 147), some (Zi v4), none] [])) σ6 0 [some (Zr 147), some (Zi v4), none] [])))) : am_U x m_Mo_board Po σ 89 [some (Zr 147), some (Zi v1), some (Zi v2), some (Zi v3), some (Zi v4), none] [] := by
  refine V_iload d_Mo_board_89 rfl ?_
  refine V_aload_n d_Mo_board_91 rfl ?_
  refine U_geti d_Mo_board_92 fl_Mo_132 sh_147 ?_
  obtain ⟨h12, h⟩ := h
  obtain ⟨h13, h⟩ := h
  obtain ⟨ht, hf⟩ := h
  refine V_icmp_ge 142 d_Mo_board_95 h12 h13 (fun h15 => ?_) (fun h15 => ?_)
  · have h := ht h15
    refine V_iconst d_Mo_board_142 ?_
    refine V_istore d_Mo_board_143 rfl ?_
    refine V_drop 3 ?_
    exact h
  · have h := hf h15
    refine V_aload_n d_Mo_board_98 rfl ?_
    refine U_geta d_Mo_board_99 fl_Mo_65 sh_147 rfl ?_
    refine V_iload d_Mo_board_102 rfl ?_
    refine V_iconst d_Mo_board_104 ?_
    obtain ⟨h14, h⟩ := h
    refine U_zast d_Mo_board_105 sh_163 h14 (Or.inr rfl) ?_
    have h := h _ rfl
    refine V_aload_n d_Mo_board_106 rfl ?_
    refine U_geta d_Mo_board_107 fl_Mo_59 sh_147 rfl ?_
    refine V_iload d_Mo_board_110 rfl ?_
    refine V_aload_n d_Mo_board_112 rfl ?_
    refine V_iload d_Mo_board_113 rfl ?_
    refine U_iv1 cv_Mo_board_190 d_Mo_board_115 sh_147 rfl rfl (am_mono h ?_)
    rintro ro7 so7 σ7 ⟨z7, rfl, rfl, h⟩
    refine V_iload_n d_Mo_board_118 rfl ?_
    refine V_isub d_Mo_board_119 ?_
    refine U_iast d_Mo_board_120 sh_161 h14 ?_
    have h := h _ rfl
    refine V_aload_n d_Mo_board_121 rfl ?_
    refine U_geta d_Mo_board_122 fl_Mo_62 sh_147 rfl ?_
    refine V_iload d_Mo_board_125 rfl ?_
    refine V_aload_n d_Mo_board_127 rfl ?_
    refine V_iload d_Mo_board_128 rfl ?_
    refine U_iv1 cv_Mo_board_190 d_Mo_board_130 sh_147 rfl rfl (am_mono h ?_)
    rintro ro9 so9 σ9 ⟨z9, rfl, rfl, h⟩
    refine V_iload_n d_Mo_board_133 rfl ?_
    refine V_iadd d_Mo_board_134 ?_
    refine U_iast d_Mo_board_135 sh_162 h14 ?_
    have h := h _ rfl
    refine V_iinc d_Mo_board_136 rfl rfl ?_
    refine V_goto 89 d_Mo_board_139 ?_
    exact h
theorem s_Mo_board_75 {x : am_Sc} {Po : Option am_AV → am_Sh → am_St → Prop} {σ : am_St} {v1 v2 v3 v4 vk1 vk2 : Int}
    (h : (0 ≤ vk1 ∧ vk1 < 8) ∧ (∀ σ11 : am_St, σ11 = (am_up σ.1 149 vk1.toNat vk2, σ.2) → am_U x m_Mo_board Po σ11 36 [some (Zr 147), some (Zi v1), some (Zi v2), some (Zi v3), some (Zi (v4 + 1)), none] [])) : am_U x m_Mo_board Po σ 75 [some (Zr 147), some (Zi v1), some (Zi v2), some (Zi v3), some (Zi v4), none] [Zi vk2, Zi vk1, Zr 149] := by
  obtain ⟨h16, h⟩ := h
  refine U_iast d_Mo_board_75 sh_149 h16 ?_
  have h := h _ rfl
  refine V_iinc d_Mo_board_76 rfl rfl ?_
  refine V_goto 36 d_Mo_board_79 ?_
  exact h
theorem s_Mo_board_145 {x : am_Sc} {Po : Option am_AV → am_Sh → am_St → Prop} {σ : am_St} {v1 v2 v4 : Int}
    (h : am_r v4 ∧ ((8 ≤ v4 → am_U x m_Mo_fitAll (fun ro12 so12 σ12 => ro12 = none ∧ so12 = am_SH ∧ am_U x m_Mo_board Po σ12 182 [some (Zr 147), some (Zi v1), some (Zi v2), none, some (Zi 0), some (Zi 0)] []) σ 0 [some (Zr 147), some (Zi 10), none, none, none] []) ∧ (¬ 8 ≤ v4 → (0 ≤ v4 ∧ v4 < 8) ∧ (∀ σ13 : am_St, σ13 = (am_up σ.1 149 v4.toNat (am_div (v1 + v2) 2), σ.2) → am_U x m_Mo_board Po σ13 145 [some (Zr 147), some (Zi v1), some (Zi v2), none, some (Zi (v4 + 1)), none] [])))) : am_U x m_Mo_board Po σ 145 [some (Zr 147), some (Zi v1), some (Zi v2), none, some (Zi v4), none] [] := by
  refine V_iload d_Mo_board_145 rfl ?_
  refine V_bipush d_Mo_board_147 ?_
  obtain ⟨h17, h⟩ := h
  obtain ⟨ht, hf⟩ := h
  refine V_icmp_ge 170 d_Mo_board_149 h17 (by decide) (fun h19 => ?_) (fun h19 => ?_)
  · have h := ht h19
    refine V_aload_n d_Mo_board_170 rfl ?_
    refine V_bipush d_Mo_board_171 ?_
    refine U_iv1 cv_Mo_board_206 d_Mo_board_173 sh_147 rfl rfl (am_mono h ?_)
    rintro ro12 so12 σ12 ⟨rfl, rfl, h⟩
    refine V_iconst d_Mo_board_176 ?_
    refine V_istore d_Mo_board_177 rfl ?_
    refine V_iconst d_Mo_board_179 ?_
    refine V_istore d_Mo_board_180 rfl ?_
    exact h
  · have h := hf h19
    refine V_aload_n d_Mo_board_152 rfl ?_
    refine U_geta d_Mo_board_153 fl_Mo_20 sh_147 rfl ?_
    refine V_iload d_Mo_board_156 rfl ?_
    refine V_iload_n d_Mo_board_158 rfl ?_
    refine V_iload_n d_Mo_board_159 rfl ?_
    refine V_iadd d_Mo_board_160 ?_
    refine V_iconst d_Mo_board_161 ?_
    refine V_idiv d_Mo_board_162 (by decide) (by decide) ?_
    obtain ⟨h18, h⟩ := h
    refine U_iast d_Mo_board_163 sh_149 h18 ?_
    have h := h _ rfl
    refine V_iinc d_Mo_board_164 rfl rfl ?_
    refine V_goto 145 d_Mo_board_167 ?_
    exact h
theorem s_Mo_board_182 {x : am_Sc} {Po : Option am_AV → am_Sh → am_St → Prop} {σ : am_St} {v1 v2 v4 v5 : Int}
    (h : am_r v5 ∧ ((8 ≤ v5 → Po (some (Zi v4)) am_SH σ) ∧ (¬ 8 ≤ v5 → am_U x m_Mo_sizeOf (fun ro14 so14 σ14 => ∃ z14 : Int, ro14 = some (Zi z14) ∧ so14 = am_SH ∧ am_r z14 ∧ ((z14 ≤ 0 → am_U x m_Mo_board Po σ14 226 [some (Zr 147), some (Zi v1), some (Zi v2), none, none, some (Zi v5)] [Zi v4]) ∧ (¬ z14 ≤ 0 → (0 ≤ v5 ∧ v5 < 8) ∧ am_r (am_rem v5 2) ∧ ((¬ (am_rem v5 2) = 0 → am_U x m_Mo_board Po σ14 219 [some (Zr 147), some (Zi v1), some (Zi v2), none, none, some (Zi v5)] [Zi v2, Zi (σ14.1 149 v5.toNat), Zi v4]) ∧ ((am_rem v5 2) = 0 → am_U x m_Mo_board Po σ14 219 [some (Zr 147), some (Zi v1), some (Zi v2), none, none, some (Zi v5)] [Zi v1, Zi (σ14.1 149 v5.toNat), Zi v4]))))) σ 0 [some (Zr 147), some (Zi v5), none, none] []))) : am_U x m_Mo_board Po σ 182 [some (Zr 147), some (Zi v1), some (Zi v2), none, some (Zi v4), some (Zi v5)] [] := by
  refine V_iload d_Mo_board_182 rfl ?_
  refine V_bipush d_Mo_board_184 ?_
  obtain ⟨h20, h⟩ := h
  obtain ⟨ht, hf⟩ := h
  refine V_icmp_ge 250 d_Mo_board_186 h20 (by decide) (fun h26 => ?_) (fun h26 => ?_)
  · have h := ht h26
    refine V_iload d_Mo_board_250 rfl ?_
    exact V_iret d_Mo_board_252 rfl rfl h
  · have h := hf h26
    refine V_iload d_Mo_board_189 rfl ?_
    refine V_aload_n d_Mo_board_191 rfl ?_
    refine V_iload d_Mo_board_192 rfl ?_
    refine U_iv1 cv_Mo_board_142 d_Mo_board_194 sh_147 rfl rfl (am_mono h ?_)
    rintro ro14 so14 σ14 ⟨z14, rfl, rfl, h⟩
    obtain ⟨h21, h⟩ := h
    obtain ⟨ht, hf⟩ := h
    refine V_if_le 226 d_Mo_board_197 h21 (fun h25 => ?_) (fun h25 => ?_)
    · have h := ht h25
      refine V_drop 4 ?_
      exact h
    · have h := hf h25
      refine V_aload_n d_Mo_board_200 rfl ?_
      refine U_geta d_Mo_board_201 fl_Mo_20 sh_147 rfl ?_
      refine V_iload d_Mo_board_204 rfl ?_
      obtain ⟨h22, h⟩ := h
      refine U_iald d_Mo_board_206 sh_149 h22 ?_
      refine V_iload d_Mo_board_207 rfl ?_
      refine V_iconst d_Mo_board_209 ?_
      refine V_irem d_Mo_board_210 (by decide) (by decide) ?_
      obtain ⟨h23, h⟩ := h
      obtain ⟨ht, hf⟩ := h
      refine V_if_ne 218 d_Mo_board_211 h23 (fun h24 => ?_) (fun h24 => ?_)
      · have h := ht h24
        refine V_iload_n d_Mo_board_218 rfl ?_
        refine V_drop 4 ?_
        exact h
      · have h := hf h24
        refine V_iload_n d_Mo_board_214 rfl ?_
        refine V_goto 219 d_Mo_board_215 ?_
        refine V_drop 4 ?_
        exact h
theorem s_Mo_board_226 {x : am_Sc} {Po : Option am_AV → am_Sh → am_St → Prop} {σ : am_St} {v1 v2 v5 vk0 : Int}
    (h : am_U x m_Mo_board Po σ 227 [some (Zr 147), some (Zi v1), some (Zi v2), none, none, some (Zi v5)] [Zi 0, Zi vk0]) : am_U x m_Mo_board Po σ 226 [some (Zr 147), some (Zi v1), some (Zi v2), none, none, some (Zi v5)] [Zi vk0] := by
  refine V_iconst d_Mo_board_226 ?_
  exact h
theorem s_Mo_board_219 {x : am_Sc} {Po : Option am_AV → am_Sh → am_St → Prop} {σ : am_St} {v1 v2 v5 vk0 vk1 vk2 : Int}
    (h : am_r vk1 ∧ am_r vk2 ∧ ((¬ vk1 = vk2 → am_U x m_Mo_board Po σ 226 [some (Zr 147), some (Zi v1), some (Zi v2), none, none, some (Zi v5)] [Zi vk0]) ∧ (vk1 = vk2 → am_U x m_Mo_board Po σ 227 [some (Zr 147), some (Zi v1), some (Zi v2), none, none, some (Zi v5)] [Zi 1, Zi vk0]))) : am_U x m_Mo_board Po σ 219 [some (Zr 147), some (Zi v1), some (Zi v2), none, none, some (Zi v5)] [Zi vk2, Zi vk1, Zi vk0] := by
  obtain ⟨h27, h⟩ := h
  obtain ⟨h28, h⟩ := h
  obtain ⟨ht, hf⟩ := h
  refine V_icmp_ne 226 d_Mo_board_219 h27 h28 (fun h29 => ?_) (fun h29 => ?_)
  · have h := ht h29
    exact h
  · have h := hf h29
    refine V_iconst d_Mo_board_222 ?_
    refine V_goto 227 d_Mo_board_223 ?_
    exact h
theorem s_Mo_board_227 {x : am_Sc} {Po : Option am_AV → am_Sh → am_St → Prop} {σ : am_St} {v1 v2 v5 vk0 vk1 : Int}
    (h : (0 ≤ v5 ∧ v5 < 8) ∧ (∀ σ15 : am_St, σ15 = (am_up σ.1 149 v5.toNat (σ.1 176 v5.toNat), σ.2) → am_U x m_Mo_board Po σ15 182 [some (Zr 147), some (Zi v1), some (Zi v2), none, some (Zi (vk0 + vk1)), some (Zi (v5 + 1))] [])) : am_U x m_Mo_board Po σ 227 [some (Zr 147), some (Zi v1), some (Zi v2), none, none, some (Zi v5)] [Zi vk1, Zi vk0] := by
  refine V_iadd d_Mo_board_227 ?_
  refine V_istore d_Mo_board_228 rfl ?_
  refine V_aload_n d_Mo_board_230 rfl ?_
  refine U_geta d_Mo_board_231 fl_Mo_20 sh_147 rfl ?_
  refine V_iload d_Mo_board_234 rfl ?_
  refine V_aload_n d_Mo_board_236 rfl ?_
  refine U_geta d_Mo_board_237 fl_Mo_106 sh_147 rfl ?_
  refine V_iload d_Mo_board_240 rfl ?_
  obtain ⟨h30, h⟩ := h
  refine U_iald d_Mo_board_242 sh_176 h30 ?_
  refine U_iast d_Mo_board_243 sh_149 h30 ?_
  have h := h _ rfl
  refine V_iinc d_Mo_board_244 rfl rfl ?_
  refine V_goto 182 d_Mo_board_247 ?_
  exact h
theorem s_Mo_write_0 {x : am_Sc} {Po : Option am_AV → am_Sh → am_St → Prop} {σ : am_St} {v1 v3 : Int}
    (h : am_U x m_Mo_in (fun ro1 so1 σ1 => ∃ z1 : Int, ro1 = some (Zi z1) ∧ so1 = am_SH ∧ am_r z1 ∧ ((¬ z1 = 0 → am_r ((σ1.1 147 31) + v3) ∧ ((((σ1.1 147 31) + v3) ≤ 160 → am_U x m_Mo_write Po σ1 31 [some (Zr 147), some (Zl v1), none, some (Zi v3), some (Zi 0)] []) ∧ (¬ ((σ1.1 147 31) + v3) ≤ 160 → Po (some (Zi (-5))) am_SH σ1))) ∧ (z1 = 0 → Po (some (Zi (-3))) am_SH σ1))) σ 0 [some (Zi v3), some (Zi 1), some (Zi 8)] []) : am_U x m_Mo_write Po σ 0 [some (Zr 147), some (Zl v1), none, some (Zi v3), none] [] := by
  refine V_iload_n d_Mo_write_0 rfl ?_
  refine V_iconst d_Mo_write_1 ?_
  refine V_bipush d_Mo_write_2 ?_
  refine U_is3 cv_Mo_write_122 d_Mo_write_4  rfl (am_mono h ?_)
  rintro ro1 so1 σ1 ⟨z1, rfl, rfl, h⟩
  obtain ⟨h1, h⟩ := h
  obtain ⟨ht, hf⟩ := h
  refine V_if_ne 13 d_Mo_write_7 h1 (fun h4 => ?_) (fun h4 => ?_)
  · have h := ht h4
    refine V_aload_n d_Mo_write_13 rfl ?_
    refine U_geti d_Mo_write_14 fl_Mo_265 sh_147 ?_
    refine V_iload_n d_Mo_write_17 rfl ?_
    refine V_iadd d_Mo_write_18 ?_
    refine V_sipush d_Mo_write_19 ?_
    obtain ⟨h2, h⟩ := h
    obtain ⟨ht, hf⟩ := h
    refine V_icmp_le 28 d_Mo_write_22 h2 (by decide) (fun h3 => ?_) (fun h3 => ?_)
    · have h := ht h3
      refine V_iconst d_Mo_write_28 ?_
      refine V_istore d_Mo_write_29 rfl ?_
      exact h
    · have h := hf h3
      refine V_bipush d_Mo_write_25 ?_
      exact V_iret d_Mo_write_27 rfl rfl h
  · have h := hf h4
    refine V_bipush d_Mo_write_10 ?_
    exact V_iret d_Mo_write_12 rfl rfl h
theorem s_Mo_write_31 {x : am_Sc} {Po : Option am_AV → am_Sh → am_St → Prop} {σ : am_St} {v1 v3 v4 : Int}
    (h : am_r v4 ∧ am_r v3 ∧ ((v3 ≤ v4 → (∀ σ2 : am_St, σ2 = (am_up σ.1 147 31 ((σ.1 147 31) + v3), σ.2) → Po (some (Zi (σ2.1 147 31))) am_SH σ2)) ∧ (¬ v3 ≤ v4 → (0 ≤ (σ.1 147 31) + v4 ∧ (σ.1 147 31) + v4 < 160) ∧ (∀ σ3 : am_St, σ3 = (am_up σ.1 171 ((σ.1 147 31) + v4).toNat (am_l2i (am_andL (am_shrL v1 (8 * v4)) 255)), σ.2) → am_U x m_Mo_write Po σ3 31 [some (Zr 147), some (Zl v1), none, some (Zi v3), some (Zi (v4 + 1))] [])))) : am_U x m_Mo_write Po σ 31 [some (Zr 147), some (Zl v1), none, some (Zi v3), some (Zi v4)] [] := by
  refine V_iload d_Mo_write_31 rfl ?_
  refine V_iload_n d_Mo_write_33 rfl ?_
  obtain ⟨h5, h⟩ := h
  obtain ⟨h6, h⟩ := h
  obtain ⟨ht, hf⟩ := h
  refine V_icmp_ge 67 d_Mo_write_34 h5 h6 (fun h8 => ?_) (fun h8 => ?_)
  · have h := ht h8
    refine V_aload_n d_Mo_write_67 rfl ?_
    refine V_dup d_Mo_write_68 ?_
    refine U_geti d_Mo_write_69 fl_Mo_265 sh_147 ?_
    refine V_iload_n d_Mo_write_72 rfl ?_
    refine V_iadd d_Mo_write_73 ?_
    refine U_puti d_Mo_write_74 fw_Mo_265 sh_147 ?_
    have h := h _ rfl
    refine V_aload_n d_Mo_write_77 rfl ?_
    refine U_geti d_Mo_write_78 fl_Mo_265 sh_147 ?_
    exact V_iret d_Mo_write_81 rfl rfl h
  · have h := hf h8
    refine V_aload_n d_Mo_write_37 rfl ?_
    refine U_geta d_Mo_write_38 fl_Mo_91 sh_147 rfl ?_
    refine V_aload_n d_Mo_write_41 rfl ?_
    refine U_geti d_Mo_write_42 fl_Mo_265 sh_147 ?_
    refine V_iload d_Mo_write_45 rfl ?_
    refine V_iadd d_Mo_write_47 ?_
    refine V_lload_n d_Mo_write_48 rfl ?_
    refine V_bipush d_Mo_write_49 ?_
    refine V_iload d_Mo_write_51 rfl ?_
    refine V_imul d_Mo_write_53 ?_
    refine V_lshr d_Mo_write_54 ?_
    refine V_ldc2 255 d_Mo_write_55 kc_Mo_268 ?_
    refine V_land d_Mo_write_58 ?_
    refine V_l2i d_Mo_write_59 ?_
    obtain ⟨h7, h⟩ := h
    refine U_iast d_Mo_write_60 sh_171 h7 ?_
    have h := h _ rfl
    refine V_iinc d_Mo_write_61 rfl rfl ?_
    refine V_goto 31 d_Mo_write_64 ?_
    exact h
theorem s_Mo_erase_0 {x : am_Sc} {Po : Option am_AV → am_Sh → am_St → Prop} {σ : am_St}
    (h : (∀ σ1 : am_St, σ1 = (am_up σ.1 147 31 0, σ.2) → Po (some (Zi (σ.1 147 31))) am_SH σ1)) : am_U x m_Mo_erase Po σ 0 [some (Zr 147), none] [] := by
  refine V_aload_n d_Mo_erase_0 rfl ?_
  refine U_geti d_Mo_erase_1 fl_Mo_265 sh_147 ?_
  refine V_istore_n d_Mo_erase_4 rfl ?_
  refine V_aload_n d_Mo_erase_5 rfl ?_
  refine V_iconst d_Mo_erase_6 ?_
  refine U_puti d_Mo_erase_7 fw_Mo_265 sh_147 ?_
  have h := h _ rfl
  refine V_iload_n d_Mo_erase_10 rfl ?_
  exact V_iret d_Mo_erase_11 rfl rfl h
theorem s_Mo_fault_0 {x : am_Sc} {Po : Option am_AV → am_Sh → am_St → Prop} {σ : am_St}
    (h : am_U x m_Mo_isRead (fun ro1 so1 σ1 => ∃ z1 : Int, ro1 = some (Zi z1) ∧ so1 = am_SH ∧ am_r z1 ∧ ((z1 = 0 → am_U x m_Mo_fault Po σ1 15 [none] [Zi (σ1.1 147 38)]) ∧ (¬ z1 = 0 → am_U x m_Mo_fault Po σ1 15 [none] [Zi (-1)]))) σ 0 [some (Zr 147), none] []) : am_U x m_Mo_fault Po σ 0 [some (Zr 147)] [] := by
  refine V_aload_n d_Mo_fault_0 rfl ?_
  refine U_iv0 cv_Mo_fault_341 d_Mo_fault_1 sh_147 rfl rfl (am_mono h ?_)
  rintro ro1 so1 σ1 ⟨z1, rfl, rfl, h⟩
  obtain ⟨h1, h⟩ := h
  obtain ⟨ht, hf⟩ := h
  refine V_if_eq 11 d_Mo_fault_4 h1 (fun h2 => ?_) (fun h2 => ?_)
  · have h := ht h2
    refine V_aload_n d_Mo_fault_11 rfl ?_
    refine U_geti d_Mo_fault_12 fl_Mo_298 sh_147 ?_
    refine V_drop 0 ?_
    exact h
  · have h := hf h2
    refine V_iconst d_Mo_fault_7 ?_
    refine V_goto 15 d_Mo_fault_8 ?_
    refine V_drop 0 ?_
    exact h
theorem s_Mo_fault_15 {x : am_Sc} {Po : Option am_AV → am_Sh → am_St → Prop} {σ : am_St} {vk0 : Int}
    (h : Po (some (Zi vk0)) am_SH σ) : am_U x m_Mo_fault Po σ 15 [none] [Zi vk0] := by
  exact V_iret d_Mo_fault_15 rfl rfl h
theorem s_Mo_isRead_0 {x : am_Sc} {Po : Option am_AV → am_Sh → am_St → Prop} {σ : am_St}
    (h : (∀ σ1 : am_St, σ1 = (am_up σ.1 147 33 0, σ.2) → (∀ σ2 : am_St, σ2 = (am_up σ1.1 147 39 0, σ1.2) → am_U x m_Mo_isRead Po σ2 12 [some (Zr 147), some (Zi 1)] []))) : am_U x m_Mo_isRead Po σ 0 [some (Zr 147), none] [] := by
  refine V_aload_n d_Mo_isRead_0 rfl ?_
  refine V_iconst d_Mo_isRead_1 ?_
  refine U_puti d_Mo_isRead_2 fw_Mo_270 sh_147 ?_
  have h := h _ rfl
  refine V_aload_n d_Mo_isRead_5 rfl ?_
  refine V_iconst d_Mo_isRead_6 ?_
  refine U_puti d_Mo_isRead_7 fw_Mo_301 sh_147 ?_
  have h := h _ rfl
  refine V_iconst d_Mo_isRead_10 ?_
  refine V_istore_n d_Mo_isRead_11 rfl ?_
  exact h
theorem s_Mo_isRead_12 {x : am_Sc} {Po : Option am_AV → am_Sh → am_St → Prop} {σ : am_St} {v1 : Int}
    (h : am_r v1 ∧ ((v1 = 0 → am_rl (σ.2 147 35) ∧ am_r (am_cmp (σ.2 147 35) (-2)) ∧ (((am_cmp (σ.2 147 35) (-2)) = 0 → am_U x m_Mo_isRead Po σ 77 [none, none] []) ∧ (¬ (am_cmp (σ.2 147 35) (-2)) = 0 → am_U x m_Mo_fails (fun ro3 so3 σ3 => ∃ z3 : Int, ro3 = some (Zi z3) ∧ so3 = am_SH ∧ am_r z3 ∧ ((z3 = 0 → am_U x m_Mo_isRead Po σ3 82 [none, none] [Zi 0]) ∧ (¬ z3 = 0 → am_U x m_Mo_isRead Po σ3 77 [none, none] []))) σ 0 [some (Zr 147)] []))) ∧ (¬ v1 = 0 → am_U x m_Mo_nextToken (fun ro4 so4 σ4 => ro4 = none ∧ so4 = am_SH ∧ am_U x m_Mo_isStatement (fun ro5 so5 σ5 => ∃ z5 : Int, ro5 = some (Zi z5) ∧ so5 = am_SH ∧ am_r z5 ∧ ((¬ z5 = 0 → (∀ σ6 : am_St, σ6 = (am_up σ5.1 147 39 ((σ5.1 147 39) + 1), σ5.2) → am_rl (σ6.2 147 35) ∧ am_r (am_cmp (σ6.2 147 35) (-3)) ∧ ((¬ (am_cmp (σ6.2 147 35) (-3)) = 0 → am_U x m_Mo_isRead Po σ6 55 [some (Zr 147), none] [Zi 0]) ∧ ((am_cmp (σ6.2 147 35) (-3)) = 0 → am_U x m_Mo_isRead Po σ6 55 [some (Zr 147), none] [Zi 1])))) ∧ (z5 = 0 → Po (some (Zi 0)) am_SH σ5))) σ4 0 [some (Zr 147)] []) σ 0 [some (Zr 147)] []))) : am_U x m_Mo_isRead Po σ 12 [some (Zr 147), some (Zi v1)] [] := by
  refine V_iload_n d_Mo_isRead_12 rfl ?_
  obtain ⟨h1, h⟩ := h
  obtain ⟨ht, hf⟩ := h
  refine V_if_eq 59 d_Mo_isRead_13 h1 (fun h12 => ?_) (fun h12 => ?_)
  · have h := ht h12
    refine V_aload_n d_Mo_isRead_59 rfl ?_
    refine U_getl d_Mo_isRead_60 fl_Mo_284 sh_147 ?_
    refine V_ldc2 (-2) d_Mo_isRead_63 kc_Mo_282 ?_
    obtain ⟨h2, h⟩ := h
    refine V_lcmp d_Mo_isRead_66 h2 (by decide) ?_
    obtain ⟨h3, h⟩ := h
    obtain ⟨ht, hf⟩ := h
    refine V_if_eq 77 d_Mo_isRead_67 h3 (fun h6 => ?_) (fun h6 => ?_)
    · have h := ht h6
      refine V_drop 0 ?_
      refine V_drop 1 ?_
      exact h
    · have h := hf h6
      refine V_aload_n d_Mo_isRead_70 rfl ?_
      refine U_iv0 cv_Mo_isRead_310 d_Mo_isRead_71 sh_147 rfl rfl (am_mono h ?_)
      rintro ro3 so3 σ3 ⟨z3, rfl, rfl, h⟩
      obtain ⟨h4, h⟩ := h
      obtain ⟨ht, hf⟩ := h
      refine V_if_eq 81 d_Mo_isRead_74 h4 (fun h5 => ?_) (fun h5 => ?_)
      · have h := ht h5
        refine V_iconst d_Mo_isRead_81 ?_
        refine V_drop 0 ?_
        refine V_drop 1 ?_
        exact h
      · have h := hf h5
        refine V_drop 0 ?_
        refine V_drop 1 ?_
        exact h
  · have h := hf h12
    refine V_aload_n d_Mo_isRead_16 rfl ?_
    refine U_iv0 cv_Mo_isRead_304 d_Mo_isRead_17 sh_147 rfl rfl (am_mono h ?_)
    rintro ro4 so4 σ4 ⟨rfl, rfl, h⟩
    refine V_aload_n d_Mo_isRead_20 rfl ?_
    refine U_iv0 cv_Mo_isRead_338 d_Mo_isRead_21 sh_147 rfl rfl (am_mono h ?_)
    rintro ro5 so5 σ5 ⟨z5, rfl, rfl, h⟩
    obtain ⟨h7, h⟩ := h
    obtain ⟨ht, hf⟩ := h
    refine V_if_ne 29 d_Mo_isRead_24 h7 (fun h11 => ?_) (fun h11 => ?_)
    · have h := ht h11
      refine V_aload_n d_Mo_isRead_29 rfl ?_
      refine V_dup d_Mo_isRead_30 ?_
      refine U_geti d_Mo_isRead_31 fl_Mo_301 sh_147 ?_
      refine V_iconst d_Mo_isRead_34 ?_
      refine V_iadd d_Mo_isRead_35 ?_
      refine U_puti d_Mo_isRead_36 fw_Mo_301 sh_147 ?_
      have h := h _ rfl
      refine V_aload_n d_Mo_isRead_39 rfl ?_
      refine U_getl d_Mo_isRead_40 fl_Mo_284 sh_147 ?_
      refine V_ldc2 (-3) d_Mo_isRead_43 kc_Mo_296 ?_
      obtain ⟨h8, h⟩ := h
      refine V_lcmp d_Mo_isRead_46 h8 (by decide) ?_
      obtain ⟨h9, h⟩ := h
      obtain ⟨ht, hf⟩ := h
      refine V_if_ne 54 d_Mo_isRead_47 h9 (fun h10 => ?_) (fun h10 => ?_)
      · have h := ht h10
        refine V_iconst d_Mo_isRead_54 ?_
        refine V_drop 1 ?_
        exact h
      · have h := hf h10
        refine V_iconst d_Mo_isRead_50 ?_
        refine V_goto 55 d_Mo_isRead_51 ?_
        refine V_drop 1 ?_
        exact h
    · have h := hf h11
      refine V_iconst d_Mo_isRead_27 ?_
      exact V_zret d_Mo_isRead_28 rfl rfl (Or.inl rfl) h
theorem s_Mo_isRead_77 {x : am_Sc} {Po : Option am_AV → am_Sh → am_St → Prop} {σ : am_St}
    (h : am_U x m_Mo_isRead Po σ 82 [none, none] [Zi 1]) : am_U x m_Mo_isRead Po σ 77 [none, none] [] := by
  refine V_iconst d_Mo_isRead_77 ?_
  refine V_goto 82 d_Mo_isRead_78 ?_
  exact h
theorem s_Mo_isRead_82 {x : am_Sc} {Po : Option am_AV → am_Sh → am_St → Prop} {σ : am_St} {vk0 : Int}
    (h : (vk0 = 0 ∨ vk0 = 1) ∧ Po (some (Zi vk0)) am_SH σ) : am_U x m_Mo_isRead Po σ 82 [none, none] [Zi vk0] := by
  obtain ⟨h13, h⟩ := h
  exact V_zret d_Mo_isRead_82 rfl rfl h13 h
theorem s_Mo_isRead_55 {x : am_Sc} {Po : Option am_AV → am_Sh → am_St → Prop} {σ : am_St} {vk0 : Int}
    (h : am_U x m_Mo_isRead Po σ 12 [some (Zr 147), some (Zi vk0)] []) : am_U x m_Mo_isRead Po σ 55 [some (Zr 147), none] [Zi vk0] := by
  refine V_istore_n d_Mo_isRead_55 rfl ?_
  refine V_goto 12 d_Mo_isRead_56 ?_
  exact h
theorem s_Mo_nextToken_0 {x : am_Sc} {Po : Option am_AV → am_Sh → am_St → Prop} {σ : am_St}
    (h : am_r (σ.1 147 33) ∧ am_r (σ.1 147 31) ∧ (((σ.1 147 31) ≤ (σ.1 147 33) → am_U x m_Mo_nextToken Po σ 38 [some (Zr 147)] []) ∧ (¬ (σ.1 147 31) ≤ (σ.1 147 33) → (0 ≤ σ.1 147 33 ∧ σ.1 147 33 < 160) ∧ am_r (σ.1 171 (σ.1 147 33).toNat) ∧ ((¬ (σ.1 171 (σ.1 147 33).toNat) = 32 → am_U x m_Mo_nextToken Po σ 38 [some (Zr 147)] []) ∧ ((σ.1 171 (σ.1 147 33).toNat) = 32 → (∀ σ1 : am_St, σ1 = (am_up σ.1 147 33 ((σ.1 147 33) + 1), σ.2) → am_U x m_Mo_nextToken Po σ1 0 [some (Zr 147)] [])))))) : am_U x m_Mo_nextToken Po σ 0 [some (Zr 147)] [] := by
  refine V_aload_n d_Mo_nextToken_0 rfl ?_
  refine U_geti d_Mo_nextToken_1 fl_Mo_270 sh_147 ?_
  refine V_aload_n d_Mo_nextToken_4 rfl ?_
  refine U_geti d_Mo_nextToken_5 fl_Mo_265 sh_147 ?_
  obtain ⟨h1, h⟩ := h
  obtain ⟨h2, h⟩ := h
  obtain ⟨ht, hf⟩ := h
  refine V_icmp_ge 38 d_Mo_nextToken_8 h1 h2 (fun h6 => ?_) (fun h6 => ?_)
  · have h := ht h6
    exact h
  · have h := hf h6
    refine V_aload_n d_Mo_nextToken_11 rfl ?_
    refine U_geta d_Mo_nextToken_12 fl_Mo_91 sh_147 rfl ?_
    refine V_aload_n d_Mo_nextToken_15 rfl ?_
    refine U_geti d_Mo_nextToken_16 fl_Mo_270 sh_147 ?_
    obtain ⟨h3, h⟩ := h
    refine U_iald d_Mo_nextToken_19 sh_171 h3 ?_
    refine V_bipush d_Mo_nextToken_20 ?_
    obtain ⟨h4, h⟩ := h
    obtain ⟨ht, hf⟩ := h
    refine V_icmp_ne 38 d_Mo_nextToken_22 h4 (by decide) (fun h5 => ?_) (fun h5 => ?_)
    · have h := ht h5
      exact h
    · have h := hf h5
      refine V_aload_n d_Mo_nextToken_25 rfl ?_
      refine V_dup d_Mo_nextToken_26 ?_
      refine U_geti d_Mo_nextToken_27 fl_Mo_270 sh_147 ?_
      refine V_iconst d_Mo_nextToken_30 ?_
      refine V_iadd d_Mo_nextToken_31 ?_
      refine U_puti d_Mo_nextToken_32 fw_Mo_270 sh_147 ?_
      have h := h _ rfl
      refine V_goto 0 d_Mo_nextToken_35 ?_
      exact h
theorem s_Mo_nextToken_38 {x : am_Sc} {Po : Option am_AV → am_Sh → am_St → Prop} {σ : am_St}
    (h : (∀ σ2 : am_St, σ2 = (am_up σ.1 147 34 (σ.1 147 33), σ.2) → (∀ σ3 : am_St, σ3 = (am_up σ2.1 147 36 0, σ2.2) → (∀ σ4 : am_St, σ4 = (am_up σ3.1 147 37 0, σ3.2) → am_r (σ4.1 147 33) ∧ am_r (σ4.1 147 31) ∧ ((¬ (σ4.1 147 33) = (σ4.1 147 31) → (0 ≤ σ4.1 147 33 ∧ σ4.1 147 33 < 160) ∧ am_U x m_Mo_in (fun ro5 so5 σ5 => ∃ z5 : Int, ro5 = some (Zi z5) ∧ so5 = am_SH ∧ am_r z5 ∧ ((z5 = 0 → (0 ≤ σ5.1 147 33 ∧ σ5.1 147 33 < 160) ∧ am_U x m_Mo_in (fun ro6 so6 σ6 => ∃ z6 : Int, ro6 = some (Zi z6) ∧ so6 = am_SH ∧ am_r z6 ∧ ((z6 = 0 → (0 ≤ σ6.1 147 33 ∧ σ6.1 147 33 < 160) ∧ am_r (σ6.1 171 (σ6.1 147 33).toNat) ∧ ((¬ (σ6.1 171 (σ6.1 147 33).toNat) = 59 → am_U x m_Mo_nextToken Po σ6 381 [some (Zr 147)] [Zl (-4), Zr 147]) ∧ ((σ6.1 171 (σ6.1 147 33).toNat) = 59 → am_U x m_Mo_nextToken Po σ6 381 [some (Zr 147)] [Zl (-3), Zr 147]))) ∧ (¬ z6 = 0 → am_U x m_Mo_nextToken Po σ6 241 [some (Zr 147)] []))) σ5 0 [some (Zi (σ5.1 171 (σ5.1 147 33).toNat)), some (Zi 48), some (Zi 57)] []) ∧ (¬ z5 = 0 → (∀ σ7 : am_St, σ7 = (σ5.1, am_up σ5.2 147 35 0) → am_U x m_Mo_nextToken Po σ7 101 [some (Zr 147)] [])))) σ4 0 [some (Zi (σ4.1 171 (σ4.1 147 33).toNat)), some (Zi 97), some (Zi 122)] []) ∧ ((σ4.1 147 33) = (σ4.1 147 31) → (∀ σ8 : am_St, σ8 = (σ4.1, am_up σ4.2 147 35 (-2)) → am_U x m_Mo_nextToken Po σ8 394 [none] []))))))) : am_U x m_Mo_nextToken Po σ 38 [some (Zr 147)] [] := by
  refine V_aload_n d_Mo_nextToken_38 rfl ?_
  refine V_aload_n d_Mo_nextToken_39 rfl ?_
  refine U_geti d_Mo_nextToken_40 fl_Mo_270 sh_147 ?_
  refine U_puti d_Mo_nextToken_43 fw_Mo_273 sh_147 ?_
  have h := h _ rfl
  refine V_aload_n d_Mo_nextToken_46 rfl ?_
  refine V_iconst d_Mo_nextToken_47 ?_
  refine U_puti d_Mo_nextToken_48 fw_Mo_276 sh_147 ?_
  have h := h _ rfl
  refine V_aload_n d_Mo_nextToken_51 rfl ?_
  refine V_iconst d_Mo_nextToken_52 ?_
  refine U_puti d_Mo_nextToken_53 fw_Mo_279 sh_147 ?_
  have h := h _ rfl
  refine V_aload_n d_Mo_nextToken_56 rfl ?_
  refine U_geti d_Mo_nextToken_57 fl_Mo_270 sh_147 ?_
  refine V_aload_n d_Mo_nextToken_60 rfl ?_
  refine U_geti d_Mo_nextToken_61 fl_Mo_265 sh_147 ?_
  obtain ⟨h7, h⟩ := h
  obtain ⟨h8, h⟩ := h
  obtain ⟨ht, hf⟩ := h
  refine V_icmp_ne 77 d_Mo_nextToken_64 h7 h8 (fun h18 => ?_) (fun h18 => ?_)
  · have h := ht h18
    refine V_aload_n d_Mo_nextToken_77 rfl ?_
    refine U_geta d_Mo_nextToken_78 fl_Mo_91 sh_147 rfl ?_
    refine V_aload_n d_Mo_nextToken_81 rfl ?_
    refine U_geti d_Mo_nextToken_82 fl_Mo_270 sh_147 ?_
    obtain ⟨h9, h⟩ := h
    refine U_iald d_Mo_nextToken_85 sh_171 h9 ?_
    refine V_bipush d_Mo_nextToken_86 ?_
    refine V_bipush d_Mo_nextToken_88 ?_
    refine U_is3 cv_Mo_nextToken_122 d_Mo_nextToken_90  rfl (am_mono h ?_)
    rintro ro5 so5 σ5 ⟨z5, rfl, rfl, h⟩
    obtain ⟨h10, h⟩ := h
    obtain ⟨ht, hf⟩ := h
    refine V_if_eq 222 d_Mo_nextToken_93 h10 (fun h17 => ?_) (fun h17 => ?_)
    · have h := ht h17
      refine V_aload_n d_Mo_nextToken_222 rfl ?_
      refine U_geta d_Mo_nextToken_223 fl_Mo_91 sh_147 rfl ?_
      refine V_aload_n d_Mo_nextToken_226 rfl ?_
      refine U_geti d_Mo_nextToken_227 fl_Mo_270 sh_147 ?_
      obtain ⟨h11, h⟩ := h
      refine U_iald d_Mo_nextToken_230 sh_171 h11 ?_
      refine V_bipush d_Mo_nextToken_231 ?_
      refine V_bipush d_Mo_nextToken_233 ?_
      refine U_is3 cv_Mo_nextToken_122 d_Mo_nextToken_235  rfl (am_mono h ?_)
      rintro ro6 so6 σ6 ⟨z6, rfl, rfl, h⟩
      obtain ⟨h12, h⟩ := h
      obtain ⟨ht, hf⟩ := h
      refine V_if_eq 357 d_Mo_nextToken_238 h12 (fun h16 => ?_) (fun h16 => ?_)
      · have h := ht h16
        refine V_aload_n d_Mo_nextToken_357 rfl ?_
        refine V_aload_n d_Mo_nextToken_358 rfl ?_
        refine U_geta d_Mo_nextToken_359 fl_Mo_91 sh_147 rfl ?_
        refine V_aload_n d_Mo_nextToken_362 rfl ?_
        refine U_geti d_Mo_nextToken_363 fl_Mo_270 sh_147 ?_
        obtain ⟨h13, h⟩ := h
        refine U_iald d_Mo_nextToken_366 sh_171 h13 ?_
        refine V_bipush d_Mo_nextToken_367 ?_
        obtain ⟨h14, h⟩ := h
        obtain ⟨ht, hf⟩ := h
        refine V_icmp_ne 378 d_Mo_nextToken_369 h14 (by decide) (fun h15 => ?_) (fun h15 => ?_)
        · have h := ht h15
          refine V_ldc2 (-4) d_Mo_nextToken_378 kc_Mo_292 ?_
          exact h
        · have h := hf h15
          refine V_ldc2 (-3) d_Mo_nextToken_372 kc_Mo_296 ?_
          refine V_goto 381 d_Mo_nextToken_375 ?_
          exact h
      · have h := hf h16
        exact h
    · have h := hf h17
      refine V_aload_n d_Mo_nextToken_96 rfl ?_
      refine V_lconst 0 d_Mo_nextToken_97 ?_
      refine U_putl d_Mo_nextToken_98 fw_Mo_284 sh_147 ?_
      have h := h _ rfl
      exact h
  · have h := hf h18
    refine V_aload_n d_Mo_nextToken_67 rfl ?_
    refine V_ldc2 (-2) d_Mo_nextToken_68 kc_Mo_282 ?_
    refine U_putl d_Mo_nextToken_71 fw_Mo_284 sh_147 ?_
    have h := h _ rfl
    refine V_goto 394 d_Mo_nextToken_74 ?_
    refine V_drop 0 ?_
    exact h
theorem s_Mo_nextToken_381 {x : am_Sc} {Po : Option am_AV → am_Sh → am_St → Prop} {σ : am_St} {vk1 : Int}
    (h : (∀ σ9 : am_St, σ9 = (σ.1, am_up σ.2 147 35 vk1) → (∀ σ10 : am_St, σ10 = (am_up σ9.1 147 33 ((σ9.1 147 33) + 1), σ9.2) → am_U x m_Mo_nextToken Po σ10 394 [none] []))) : am_U x m_Mo_nextToken Po σ 381 [some (Zr 147)] [Zl vk1, Zr 147] := by
  refine U_putl d_Mo_nextToken_381 fw_Mo_284 sh_147 ?_
  have h := h _ rfl
  refine V_aload_n d_Mo_nextToken_384 rfl ?_
  refine V_dup d_Mo_nextToken_385 ?_
  refine U_geti d_Mo_nextToken_386 fl_Mo_270 sh_147 ?_
  refine V_iconst d_Mo_nextToken_389 ?_
  refine V_iadd d_Mo_nextToken_390 ?_
  refine U_puti d_Mo_nextToken_391 fw_Mo_270 sh_147 ?_
  have h := h _ rfl
  refine V_drop 0 ?_
  exact h
theorem s_Mo_nextToken_241 {x : am_Sc} {Po : Option am_AV → am_Sh → am_St → Prop} {σ : am_St}
    (h : am_r (σ.1 147 33) ∧ am_r (σ.1 147 31) ∧ (((σ.1 147 31) ≤ (σ.1 147 33) → am_U x m_Mo_nextToken Po σ 333 [some (Zr 147)] []) ∧ (¬ (σ.1 147 31) ≤ (σ.1 147 33) → (0 ≤ σ.1 147 33 ∧ σ.1 147 33 < 160) ∧ am_U x m_Mo_in (fun ro11 so11 σ11 => ∃ z11 : Int, ro11 = some (Zi z11) ∧ so11 = am_SH ∧ am_r z11 ∧ ((z11 = 0 → am_U x m_Mo_nextToken Po σ11 333 [some (Zr 147)] []) ∧ (¬ z11 = 0 → am_r (σ11.1 147 36) ∧ ((4 ≤ (σ11.1 147 36) → am_U x m_Mo_nextToken Po σ11 307 [some (Zr 147)] [Zi (σ11.1 147 37), Zr 147]) ∧ (¬ 4 ≤ (σ11.1 147 36) → (0 ≤ σ11.1 147 33 ∧ σ11.1 147 33 < 160) ∧ am_U x m_Mo_nextToken Po σ11 307 [some (Zr 147)] [Zi (((10 * (σ11.1 147 37)) + (σ11.1 171 (σ11.1 147 33).toNat)) - 48), Zr 147]))))) σ 0 [some (Zi (σ.1 171 (σ.1 147 33).toNat)), some (Zi 48), some (Zi 57)] []))) : am_U x m_Mo_nextToken Po σ 241 [some (Zr 147)] [] := by
  refine V_aload_n d_Mo_nextToken_241 rfl ?_
  refine U_geti d_Mo_nextToken_242 fl_Mo_270 sh_147 ?_
  refine V_aload_n d_Mo_nextToken_245 rfl ?_
  refine U_geti d_Mo_nextToken_246 fl_Mo_265 sh_147 ?_
  obtain ⟨h19, h⟩ := h
  obtain ⟨h20, h⟩ := h
  obtain ⟨ht, hf⟩ := h
  refine V_icmp_ge 333 d_Mo_nextToken_249 h19 h20 (fun h27 => ?_) (fun h27 => ?_)
  · have h := ht h27
    exact h
  · have h := hf h27
    refine V_aload_n d_Mo_nextToken_252 rfl ?_
    refine U_geta d_Mo_nextToken_253 fl_Mo_91 sh_147 rfl ?_
    refine V_aload_n d_Mo_nextToken_256 rfl ?_
    refine U_geti d_Mo_nextToken_257 fl_Mo_270 sh_147 ?_
    obtain ⟨h21, h⟩ := h
    refine U_iald d_Mo_nextToken_260 sh_171 h21 ?_
    refine V_bipush d_Mo_nextToken_261 ?_
    refine V_bipush d_Mo_nextToken_263 ?_
    refine U_is3 cv_Mo_nextToken_122 d_Mo_nextToken_265  rfl (am_mono h ?_)
    rintro ro11 so11 σ11 ⟨z11, rfl, rfl, h⟩
    obtain ⟨h22, h⟩ := h
    obtain ⟨ht, hf⟩ := h
    refine V_if_eq 333 d_Mo_nextToken_268 h22 (fun h26 => ?_) (fun h26 => ?_)
    · have h := ht h26
      exact h
    · have h := hf h26
      refine V_aload_n d_Mo_nextToken_271 rfl ?_
      refine V_aload_n d_Mo_nextToken_272 rfl ?_
      refine U_geti d_Mo_nextToken_273 fl_Mo_276 sh_147 ?_
      refine V_iconst d_Mo_nextToken_276 ?_
      obtain ⟨h23, h⟩ := h
      obtain ⟨ht, hf⟩ := h
      refine V_icmp_ge 303 d_Mo_nextToken_277 h23 (by decide) (fun h25 => ?_) (fun h25 => ?_)
      · have h := ht h25
        refine V_aload_n d_Mo_nextToken_303 rfl ?_
        refine U_geti d_Mo_nextToken_304 fl_Mo_279 sh_147 ?_
        exact h
      · have h := hf h25
        refine V_bipush d_Mo_nextToken_280 ?_
        refine V_aload_n d_Mo_nextToken_282 rfl ?_
        refine U_geti d_Mo_nextToken_283 fl_Mo_279 sh_147 ?_
        refine V_imul d_Mo_nextToken_286 ?_
        refine V_aload_n d_Mo_nextToken_287 rfl ?_
        refine U_geta d_Mo_nextToken_288 fl_Mo_91 sh_147 rfl ?_
        refine V_aload_n d_Mo_nextToken_291 rfl ?_
        refine U_geti d_Mo_nextToken_292 fl_Mo_270 sh_147 ?_
        obtain ⟨h24, h⟩ := h
        refine U_iald d_Mo_nextToken_295 sh_171 h24 ?_
        refine V_iadd d_Mo_nextToken_296 ?_
        refine V_bipush d_Mo_nextToken_297 ?_
        refine V_isub d_Mo_nextToken_299 ?_
        refine V_goto 307 d_Mo_nextToken_300 ?_
        exact h
theorem s_Mo_nextToken_101 {x : am_Sc} {Po : Option am_AV → am_Sh → am_St → Prop} {σ : am_St}
    (h : am_r (σ.1 147 33) ∧ am_r (σ.1 147 31) ∧ (((σ.1 147 31) ≤ (σ.1 147 33) → am_U x m_Mo_nextToken Po σ 191 [some (Zr 147)] []) ∧ (¬ (σ.1 147 31) ≤ (σ.1 147 33) → (0 ≤ σ.1 147 33 ∧ σ.1 147 33 < 160) ∧ am_U x m_Mo_in (fun ro12 so12 σ12 => ∃ z12 : Int, ro12 = some (Zi z12) ∧ so12 = am_SH ∧ am_r z12 ∧ ((z12 = 0 → am_U x m_Mo_nextToken Po σ12 191 [some (Zr 147)] []) ∧ (¬ z12 = 0 → am_r ((σ12.1 147 33) - (σ12.1 147 34)) ∧ ((9 ≤ ((σ12.1 147 33) - (σ12.1 147 34)) → am_U x m_Mo_nextToken Po σ12 175 [some (Zr 147)] [Zl (-4), Zr 147]) ∧ (¬ 9 ≤ ((σ12.1 147 33) - (σ12.1 147 34)) → (0 ≤ σ12.1 147 33 ∧ σ12.1 147 33 < 160) ∧ am_U x m_Mo_nextToken Po σ12 175 [some (Zr 147)] [Zl (((27 * (σ12.2 147 35)) + (am_i2l (σ12.1 171 (σ12.1 147 33).toNat))) - 96), Zr 147]))))) σ 0 [some (Zi (σ.1 171 (σ.1 147 33).toNat)), some (Zi 97), some (Zi 122)] []))) : am_U x m_Mo_nextToken Po σ 101 [some (Zr 147)] [] := by
  refine V_aload_n d_Mo_nextToken_101 rfl ?_
  refine U_geti d_Mo_nextToken_102 fl_Mo_270 sh_147 ?_
  refine V_aload_n d_Mo_nextToken_105 rfl ?_
  refine U_geti d_Mo_nextToken_106 fl_Mo_265 sh_147 ?_
  obtain ⟨h28, h⟩ := h
  obtain ⟨h29, h⟩ := h
  obtain ⟨ht, hf⟩ := h
  refine V_icmp_ge 191 d_Mo_nextToken_109 h28 h29 (fun h36 => ?_) (fun h36 => ?_)
  · have h := ht h36
    exact h
  · have h := hf h36
    refine V_aload_n d_Mo_nextToken_112 rfl ?_
    refine U_geta d_Mo_nextToken_113 fl_Mo_91 sh_147 rfl ?_
    refine V_aload_n d_Mo_nextToken_116 rfl ?_
    refine U_geti d_Mo_nextToken_117 fl_Mo_270 sh_147 ?_
    obtain ⟨h30, h⟩ := h
    refine U_iald d_Mo_nextToken_120 sh_171 h30 ?_
    refine V_bipush d_Mo_nextToken_121 ?_
    refine V_bipush d_Mo_nextToken_123 ?_
    refine U_is3 cv_Mo_nextToken_122 d_Mo_nextToken_125  rfl (am_mono h ?_)
    rintro ro12 so12 σ12 ⟨z12, rfl, rfl, h⟩
    obtain ⟨h31, h⟩ := h
    obtain ⟨ht, hf⟩ := h
    refine V_if_eq 191 d_Mo_nextToken_128 h31 (fun h35 => ?_) (fun h35 => ?_)
    · have h := ht h35
      exact h
    · have h := hf h35
      refine V_aload_n d_Mo_nextToken_131 rfl ?_
      refine V_aload_n d_Mo_nextToken_132 rfl ?_
      refine U_geti d_Mo_nextToken_133 fl_Mo_270 sh_147 ?_
      refine V_aload_n d_Mo_nextToken_136 rfl ?_
      refine U_geti d_Mo_nextToken_137 fl_Mo_273 sh_147 ?_
      refine V_isub d_Mo_nextToken_140 ?_
      refine V_bipush d_Mo_nextToken_141 ?_
      obtain ⟨h32, h⟩ := h
      obtain ⟨ht, hf⟩ := h
      refine V_icmp_ge 172 d_Mo_nextToken_143 h32 (by decide) (fun h34 => ?_) (fun h34 => ?_)
      · have h := ht h34
        refine V_ldc2 (-4) d_Mo_nextToken_172 kc_Mo_292 ?_
        exact h
      · have h := hf h34
        refine V_ldc2 27 d_Mo_nextToken_146 kc_Mo_288 ?_
        refine V_aload_n d_Mo_nextToken_149 rfl ?_
        refine U_getl d_Mo_nextToken_150 fl_Mo_284 sh_147 ?_
        refine V_lmul d_Mo_nextToken_153 ?_
        refine V_aload_n d_Mo_nextToken_154 rfl ?_
        refine U_geta d_Mo_nextToken_155 fl_Mo_91 sh_147 rfl ?_
        refine V_aload_n d_Mo_nextToken_158 rfl ?_
        refine U_geti d_Mo_nextToken_159 fl_Mo_270 sh_147 ?_
        obtain ⟨h33, h⟩ := h
        refine U_iald d_Mo_nextToken_162 sh_171 h33 ?_
        refine V_i2l d_Mo_nextToken_163 ?_
        refine V_ladd d_Mo_nextToken_164 ?_
        refine V_ldc2 96 d_Mo_nextToken_165 kc_Mo_290 ?_
        refine V_lsub d_Mo_nextToken_168 ?_
        refine V_goto 175 d_Mo_nextToken_169 ?_
        exact h
theorem s_Mo_nextToken_394 {x : am_Sc} {Po : Option am_AV → am_Sh → am_St → Prop} {σ : am_St}
    (h : Po none am_SH σ) : am_U x m_Mo_nextToken Po σ 394 [none] [] := by
  exact V_ret d_Mo_nextToken_394 rfl rfl h
theorem s_Mo_nextToken_333 {x : am_Sc} {Po : Option am_AV → am_Sh → am_St → Prop} {σ : am_St}
    (h : am_r (σ.1 147 36) ∧ (((σ.1 147 36) ≤ 4 → am_U x m_Mo_nextToken Po σ 351 [none] [Zl (-1), Zr 147]) ∧ (¬ (σ.1 147 36) ≤ 4 → am_U x m_Mo_nextToken Po σ 351 [none] [Zl (-4), Zr 147]))) : am_U x m_Mo_nextToken Po σ 333 [some (Zr 147)] [] := by
  refine V_aload_n d_Mo_nextToken_333 rfl ?_
  refine V_aload_n d_Mo_nextToken_334 rfl ?_
  refine U_geti d_Mo_nextToken_335 fl_Mo_276 sh_147 ?_
  refine V_iconst d_Mo_nextToken_338 ?_
  obtain ⟨h37, h⟩ := h
  obtain ⟨ht, hf⟩ := h
  refine V_icmp_le 348 d_Mo_nextToken_339 h37 (by decide) (fun h38 => ?_) (fun h38 => ?_)
  · have h := ht h38
    refine V_ldc2 (-1) d_Mo_nextToken_348 kc_Mo_294 ?_
    refine V_drop 0 ?_
    exact h
  · have h := hf h38
    refine V_ldc2 (-4) d_Mo_nextToken_342 kc_Mo_292 ?_
    refine V_goto 351 d_Mo_nextToken_345 ?_
    refine V_drop 0 ?_
    exact h
theorem s_Mo_nextToken_307 {x : am_Sc} {Po : Option am_AV → am_Sh → am_St → Prop} {σ : am_St} {vk1 : Int}
    (h : (∀ σ13 : am_St, σ13 = (am_up σ.1 147 37 vk1, σ.2) → (∀ σ14 : am_St, σ14 = (am_up σ13.1 147 36 ((σ13.1 147 36) + 1), σ13.2) → (∀ σ15 : am_St, σ15 = (am_up σ14.1 147 33 ((σ14.1 147 33) + 1), σ14.2) → am_U x m_Mo_nextToken Po σ15 241 [some (Zr 147)] [])))) : am_U x m_Mo_nextToken Po σ 307 [some (Zr 147)] [Zi vk1, Zr 147] := by
  refine U_puti d_Mo_nextToken_307 fw_Mo_279 sh_147 ?_
  have h := h _ rfl
  refine V_aload_n d_Mo_nextToken_310 rfl ?_
  refine V_dup d_Mo_nextToken_311 ?_
  refine U_geti d_Mo_nextToken_312 fl_Mo_276 sh_147 ?_
  refine V_iconst d_Mo_nextToken_315 ?_
  refine V_iadd d_Mo_nextToken_316 ?_
  refine U_puti d_Mo_nextToken_317 fw_Mo_276 sh_147 ?_
  have h := h _ rfl
  refine V_aload_n d_Mo_nextToken_320 rfl ?_
  refine V_dup d_Mo_nextToken_321 ?_
  refine U_geti d_Mo_nextToken_322 fl_Mo_270 sh_147 ?_
  refine V_iconst d_Mo_nextToken_325 ?_
  refine V_iadd d_Mo_nextToken_326 ?_
  refine U_puti d_Mo_nextToken_327 fw_Mo_270 sh_147 ?_
  have h := h _ rfl
  refine V_goto 241 d_Mo_nextToken_330 ?_
  exact h
theorem s_Mo_nextToken_191 {x : am_Sc} {Po : Option am_AV → am_Sh → am_St → Prop} {σ : am_St}
    (h : am_r ((σ.1 147 33) - (σ.1 147 34)) ∧ ((((σ.1 147 33) - (σ.1 147 34)) ≤ 9 → am_U x m_Mo_nextToken Po σ 216 [none] [Zl (σ.2 147 35), Zr 147]) ∧ (¬ ((σ.1 147 33) - (σ.1 147 34)) ≤ 9 → am_U x m_Mo_nextToken Po σ 216 [none] [Zl (-4), Zr 147]))) : am_U x m_Mo_nextToken Po σ 191 [some (Zr 147)] [] := by
  refine V_aload_n d_Mo_nextToken_191 rfl ?_
  refine V_aload_n d_Mo_nextToken_192 rfl ?_
  refine U_geti d_Mo_nextToken_193 fl_Mo_270 sh_147 ?_
  refine V_aload_n d_Mo_nextToken_196 rfl ?_
  refine U_geti d_Mo_nextToken_197 fl_Mo_273 sh_147 ?_
  refine V_isub d_Mo_nextToken_200 ?_
  refine V_bipush d_Mo_nextToken_201 ?_
  obtain ⟨h39, h⟩ := h
  obtain ⟨ht, hf⟩ := h
  refine V_icmp_le 212 d_Mo_nextToken_203 h39 (by decide) (fun h40 => ?_) (fun h40 => ?_)
  · have h := ht h40
    refine V_aload_n d_Mo_nextToken_212 rfl ?_
    refine U_getl d_Mo_nextToken_213 fl_Mo_284 sh_147 ?_
    refine V_drop 0 ?_
    exact h
  · have h := hf h40
    refine V_ldc2 (-4) d_Mo_nextToken_206 kc_Mo_292 ?_
    refine V_goto 216 d_Mo_nextToken_209 ?_
    refine V_drop 0 ?_
    exact h
theorem s_Mo_nextToken_175 {x : am_Sc} {Po : Option am_AV → am_Sh → am_St → Prop} {σ : am_St} {vk1 : Int}
    (h : (∀ σ16 : am_St, σ16 = (σ.1, am_up σ.2 147 35 vk1) → (∀ σ17 : am_St, σ17 = (am_up σ16.1 147 33 ((σ16.1 147 33) + 1), σ16.2) → am_U x m_Mo_nextToken Po σ17 101 [some (Zr 147)] []))) : am_U x m_Mo_nextToken Po σ 175 [some (Zr 147)] [Zl vk1, Zr 147] := by
  refine U_putl d_Mo_nextToken_175 fw_Mo_284 sh_147 ?_
  have h := h _ rfl
  refine V_aload_n d_Mo_nextToken_178 rfl ?_
  refine V_dup d_Mo_nextToken_179 ?_
  refine U_geti d_Mo_nextToken_180 fl_Mo_270 sh_147 ?_
  refine V_iconst d_Mo_nextToken_183 ?_
  refine V_iadd d_Mo_nextToken_184 ?_
  refine U_puti d_Mo_nextToken_185 fw_Mo_270 sh_147 ?_
  have h := h _ rfl
  refine V_goto 101 d_Mo_nextToken_188 ?_
  exact h
theorem s_Mo_nextToken_351 {x : am_Sc} {Po : Option am_AV → am_Sh → am_St → Prop} {σ : am_St} {vk1 : Int}
    (h : (∀ σ18 : am_St, σ18 = (σ.1, am_up σ.2 147 35 vk1) → am_U x m_Mo_nextToken Po σ18 394 [none] [])) : am_U x m_Mo_nextToken Po σ 351 [none] [Zl vk1, Zr 147] := by
  refine U_putl d_Mo_nextToken_351 fw_Mo_284 sh_147 ?_
  have h := h _ rfl
  refine V_goto 394 d_Mo_nextToken_354 ?_
  exact h
theorem s_Mo_nextToken_216 {x : am_Sc} {Po : Option am_AV → am_Sh → am_St → Prop} {σ : am_St} {vk1 : Int}
    (h : (∀ σ19 : am_St, σ19 = (σ.1, am_up σ.2 147 35 vk1) → am_U x m_Mo_nextToken Po σ19 394 [none] [])) : am_U x m_Mo_nextToken Po σ 216 [none] [Zl vk1, Zr 147] := by
  refine U_putl d_Mo_nextToken_216 fw_Mo_284 sh_147 ?_
  have h := h _ rfl
  refine V_goto 394 d_Mo_nextToken_219 ?_
  exact h
theorem s_Mo_isStatement_0 {x : am_Sc} {Po : Option am_AV → am_Sh → am_St → Prop} {σ : am_St}
    (h : am_rl (σ.2 147 35) ∧ am_r (am_cmp (σ.2 147 35) 383153) ∧ ((¬ (am_cmp (σ.2 147 35) 383153) = 0 → am_r (am_cmp (σ.2 147 35) 4637) ∧ ((¬ (am_cmp (σ.2 147 35) 4637) = 0 → am_r (am_cmp (σ.2 147 35) 267413) ∧ ((¬ (am_cmp (σ.2 147 35) 267413) = 0 → am_r (am_cmp (σ.2 147 35) 1841546) ∧ ((¬ (am_cmp (σ.2 147 35) 1841546) = 0 → am_r (am_cmp (σ.2 147 35) 10421318) ∧ ((¬ (am_cmp (σ.2 147 35) 10421318) = 0 → am_U x m_Mo_fails (fun ro1 so1 σ1 => ∃ z1 : Int, ro1 = some (Zi z1) ∧ so1 = am_SH ∧ am_U x m_Mo_isStatement Po σ1 116 [none] [Zi z1]) σ 0 [some (Zr 147)] []) ∧ ((am_cmp (σ.2 147 35) 10421318) = 0 → am_U x m_Mo_isSplit (fun ro2 so2 σ2 => ∃ z2 : Int, ro2 = some (Zi z2) ∧ so2 = am_SH ∧ am_U x m_Mo_isStatement Po σ2 116 [none] [Zi z2]) σ 0 [some (Zr 147), none] []))) ∧ ((am_cmp (σ.2 147 35) 1841546) = 0 → am_U x m_Mo_isTwo (fun ro3 so3 σ3 => ∃ z3 : Int, ro3 = some (Zi z3) ∧ so3 = am_SH ∧ (z3 = 0 ∨ z3 = 1) ∧ Po (some (Zi z3)) am_SH σ3) σ 0 [some (Zr 147), some (Zi 3), some (Zi ((σ.1 147 5) - 1)), some (Zi 0), some (Zi 99)] []))) ∧ ((am_cmp (σ.2 147 35) 267413) = 0 → am_U x m_Mo_cells (fun ro4 so4 σ4 => ∃ z4 : Int, ro4 = some (Zi z4) ∧ so4 = am_SH ∧ am_U x m_Mo_isTwo (fun ro5 so5 σ5 => ∃ z5 : Int, ro5 = some (Zi z5) ∧ so5 = am_SH ∧ (z5 = 0 ∨ z5 = 1) ∧ Po (some (Zi z5)) am_SH σ5) σ4 0 [some (Zr 147), some (Zi 2), some (Zi ((σ.1 147 8) - 1)), some (Zi 0), some (Zi (z4 - 1))] []) σ 0 [some (Zr 147)] []))) ∧ ((am_cmp (σ.2 147 35) 4637) = 0 → am_U x m_Mo_isFit (fun ro6 so6 σ6 => ∃ z6 : Int, ro6 = some (Zi z6) ∧ so6 = am_SH ∧ (z6 = 0 ∨ z6 = 1) ∧ Po (some (Zi z6)) am_SH σ6) σ 0 [some (Zr 147)] []))) ∧ ((am_cmp (σ.2 147 35) 383153) = 0 → am_U x m_Mo_isTwo (fun ro7 so7 σ7 => ∃ z7 : Int, ro7 = some (Zi z7) ∧ so7 = am_SH ∧ (z7 = 0 ∨ z7 = 1) ∧ Po (some (Zi z7)) am_SH σ7) σ 0 [some (Zr 147), some (Zi 0), some (Zi 7), some (Zi 1), some (Zi 60)] []))) : am_U x m_Mo_isStatement Po σ 0 [some (Zr 147)] [] := by
  refine V_aload_n d_Mo_isStatement_0 rfl ?_
  refine U_getl d_Mo_isStatement_1 fl_Mo_284 sh_147 ?_
  refine V_ldc2 383153 d_Mo_isStatement_4 kc_Mo_318 ?_
  obtain ⟨h1, h⟩ := h
  refine V_lcmp d_Mo_isStatement_7 h1 (by decide) ?_
  obtain ⟨h2, h⟩ := h
  obtain ⟨ht, hf⟩ := h
  refine V_if_ne 22 d_Mo_isStatement_8 h2 (fun h15 => ?_) (fun h15 => ?_)
  · have h := ht h15
    refine V_aload_n d_Mo_isStatement_22 rfl ?_
    refine U_getl d_Mo_isStatement_23 fl_Mo_284 sh_147 ?_
    refine V_ldc2 4637 d_Mo_isStatement_26 kc_Mo_324 ?_
    refine V_lcmp d_Mo_isStatement_29 h1 (by decide) ?_
    obtain ⟨h3, h⟩ := h
    obtain ⟨ht, hf⟩ := h
    refine V_if_ne 38 d_Mo_isStatement_30 h3 (fun h13 => ?_) (fun h13 => ?_)
    · have h := ht h13
      refine V_aload_n d_Mo_isStatement_38 rfl ?_
      refine U_getl d_Mo_isStatement_39 fl_Mo_284 sh_147 ?_
      refine V_ldc2 267413 d_Mo_isStatement_42 kc_Mo_329 ?_
      refine V_lcmp d_Mo_isStatement_45 h1 (by decide) ?_
      obtain ⟨h4, h⟩ := h
      obtain ⟨ht, hf⟩ := h
      refine V_if_ne 68 d_Mo_isStatement_46 h4 (fun h11 => ?_) (fun h11 => ?_)
      · have h := ht h11
        refine V_aload_n d_Mo_isStatement_68 rfl ?_
        refine U_getl d_Mo_isStatement_69 fl_Mo_284 sh_147 ?_
        refine V_ldc2 1841546 d_Mo_isStatement_72 kc_Mo_331 ?_
        refine V_lcmp d_Mo_isStatement_75 h1 (by decide) ?_
        obtain ⟨h5, h⟩ := h
        obtain ⟨ht, hf⟩ := h
        refine V_if_ne 94 d_Mo_isStatement_76 h5 (fun h9 => ?_) (fun h9 => ?_)
        · have h := ht h9
          refine V_aload_n d_Mo_isStatement_94 rfl ?_
          refine U_getl d_Mo_isStatement_95 fl_Mo_284 sh_147 ?_
          refine V_ldc2 10421318 d_Mo_isStatement_98 kc_Mo_333 ?_
          refine V_lcmp d_Mo_isStatement_101 h1 (by decide) ?_
          obtain ⟨h6, h⟩ := h
          obtain ⟨ht, hf⟩ := h
          refine V_if_ne 112 d_Mo_isStatement_102 h6 (fun h7 => ?_) (fun h7 => ?_)
          · have h := ht h7
            refine V_aload_n d_Mo_isStatement_112 rfl ?_
            refine U_iv0 cv_Mo_isStatement_310 d_Mo_isStatement_113 sh_147 rfl rfl (am_mono h ?_)
            rintro ro1 so1 σ1 ⟨z1, rfl, rfl, h⟩
            refine V_drop 0 ?_
            exact h
          · have h := hf h7
            refine V_aload_n d_Mo_isStatement_105 rfl ?_
            refine U_iv0 cv_Mo_isStatement_335 d_Mo_isStatement_106 sh_147 rfl rfl (am_mono h ?_)
            rintro ro2 so2 σ2 ⟨z2, rfl, rfl, h⟩
            refine V_goto 116 d_Mo_isStatement_109 ?_
            refine V_drop 0 ?_
            exact h
        · have h := hf h9
          refine V_aload_n d_Mo_isStatement_79 rfl ?_
          refine V_iconst d_Mo_isStatement_80 ?_
          refine V_aload_n d_Mo_isStatement_81 rfl ?_
          refine U_geti d_Mo_isStatement_82 fl_Mo_126 sh_147 ?_
          refine V_iconst d_Mo_isStatement_85 ?_
          refine V_isub d_Mo_isStatement_86 ?_
          refine V_iconst d_Mo_isStatement_87 ?_
          refine V_bipush d_Mo_isStatement_88 ?_
          refine U_iv4 cv_Mo_isStatement_320 d_Mo_isStatement_90 sh_147 rfl rfl (am_mono h ?_)
          rintro ro3 so3 σ3 ⟨z3, rfl, rfl, h⟩
          obtain ⟨h8, h⟩ := h
          exact V_zret d_Mo_isStatement_93 rfl rfl h8 h
      · have h := hf h11
        refine V_aload_n d_Mo_isStatement_49 rfl ?_
        refine V_iconst d_Mo_isStatement_50 ?_
        refine V_aload_n d_Mo_isStatement_51 rfl ?_
        refine U_geti d_Mo_isStatement_52 fl_Mo_129 sh_147 ?_
        refine V_iconst d_Mo_isStatement_55 ?_
        refine V_isub d_Mo_isStatement_56 ?_
        refine V_iconst d_Mo_isStatement_57 ?_
        refine V_aload_n d_Mo_isStatement_58 rfl ?_
        refine U_iv0 cv_Mo_isStatement_118 d_Mo_isStatement_59 sh_147 rfl rfl (am_mono h ?_)
        rintro ro4 so4 σ4 ⟨z4, rfl, rfl, h⟩
        refine V_iconst d_Mo_isStatement_62 ?_
        refine V_isub d_Mo_isStatement_63 ?_
        refine U_iv4 cv_Mo_isStatement_320 d_Mo_isStatement_64 sh_147 rfl rfl (am_mono h ?_)
        rintro ro5 so5 σ5 ⟨z5, rfl, rfl, h⟩
        obtain ⟨h10, h⟩ := h
        exact V_zret d_Mo_isStatement_67 rfl rfl h10 h
    · have h := hf h13
      refine V_aload_n d_Mo_isStatement_33 rfl ?_
      refine U_iv0 cv_Mo_isStatement_326 d_Mo_isStatement_34 sh_147 rfl rfl (am_mono h ?_)
      rintro ro6 so6 σ6 ⟨z6, rfl, rfl, h⟩
      obtain ⟨h12, h⟩ := h
      exact V_zret d_Mo_isStatement_37 rfl rfl h12 h
  · have h := hf h15
    refine V_aload_n d_Mo_isStatement_11 rfl ?_
    refine V_iconst d_Mo_isStatement_12 ?_
    refine V_bipush d_Mo_isStatement_13 ?_
    refine V_iconst d_Mo_isStatement_15 ?_
    refine V_bipush d_Mo_isStatement_16 ?_
    refine U_iv4 cv_Mo_isStatement_320 d_Mo_isStatement_18 sh_147 rfl rfl (am_mono h ?_)
    rintro ro7 so7 σ7 ⟨z7, rfl, rfl, h⟩
    obtain ⟨h14, h⟩ := h
    exact V_zret d_Mo_isStatement_21 rfl rfl h14 h
theorem s_Mo_isStatement_116 {x : am_Sc} {Po : Option am_AV → am_Sh → am_St → Prop} {σ : am_St} {vk0 : Int}
    (h : (vk0 = 0 ∨ vk0 = 1) ∧ Po (some (Zi vk0)) am_SH σ) : am_U x m_Mo_isStatement Po σ 116 [none] [Zi vk0] := by
  obtain ⟨h16, h⟩ := h
  exact V_zret d_Mo_isStatement_116 rfl rfl h16 h
theorem s_Mo_isTwo_0 {x : am_Sc} {Po : Option am_AV → am_Sh → am_St → Prop} {σ : am_St} {v1 v2 v3 v4 : Int}
    (h : (0 ≤ σ.1 147 39 ∧ σ.1 147 39 < 160) ∧ (∀ σ1 : am_St, σ1 = (am_up σ.1 172 (σ.1 147 39).toNat v1, σ.2) → am_U x m_Mo_nextToken (fun ro2 so2 σ2 => ro2 = none ∧ so2 = am_SH ∧ am_U x m_Mo_isNumber (fun ro3 so3 σ3 => ∃ z3 : Int, ro3 = some (Zi z3) ∧ so3 = am_SH ∧ am_r z3 ∧ ((¬ z3 = 0 → (0 ≤ σ3.1 147 39 ∧ σ3.1 147 39 < 160) ∧ (∀ σ4 : am_St, σ4 = (am_up σ3.1 173 (σ3.1 147 39).toNat (σ3.1 147 37), σ3.2) → am_U x m_Mo_nextToken (fun ro5 so5 σ5 => ro5 = none ∧ so5 = am_SH ∧ am_U x m_Mo_isNumber (fun ro6 so6 σ6 => ∃ z6 : Int, ro6 = some (Zi z6) ∧ so6 = am_SH ∧ am_r z6 ∧ ((¬ z6 = 0 → (0 ≤ σ6.1 147 39 ∧ σ6.1 147 39 < 160) ∧ (∀ σ7 : am_St, σ7 = (am_up σ6.1 174 (σ6.1 147 39).toNat (σ6.1 147 37), σ6.2) → am_U x m_Mo_nextToken (fun ro8 so8 σ8 => ro8 = none ∧ so8 = am_SH ∧ Po (some (Zi 1)) am_SH σ8) σ7 0 [some (Zr 147)] [])) ∧ (z6 = 0 → am_U x m_Mo_fails (fun ro9 so9 σ9 => ∃ z9 : Int, ro9 = some (Zi z9) ∧ so9 = am_SH ∧ (z9 = 0 ∨ z9 = 1) ∧ Po (some (Zi z9)) am_SH σ9) σ6 0 [some (Zr 147)] []))) σ5 0 [some (Zr 147), some (Zi v3), some (Zi v4)] []) σ4 0 [some (Zr 147)] [])) ∧ (z3 = 0 → am_U x m_Mo_fails (fun ro10 so10 σ10 => ∃ z10 : Int, ro10 = some (Zi z10) ∧ so10 = am_SH ∧ (z10 = 0 ∨ z10 = 1) ∧ Po (some (Zi z10)) am_SH σ10) σ3 0 [some (Zr 147)] []))) σ2 0 [some (Zr 147), some (Zi 0), some (Zi v2)] []) σ1 0 [some (Zr 147)] [])) : am_U x m_Mo_isTwo Po σ 0 [some (Zr 147), some (Zi v1), some (Zi v2), some (Zi v3), some (Zi v4)] [] := by
  refine V_aload_n d_Mo_isTwo_0 rfl ?_
  refine U_geta d_Mo_isTwo_1 fl_Mo_94 sh_147 rfl ?_
  refine V_aload_n d_Mo_isTwo_4 rfl ?_
  refine U_geti d_Mo_isTwo_5 fl_Mo_301 sh_147 ?_
  refine V_iload_n d_Mo_isTwo_8 rfl ?_
  obtain ⟨h1, h⟩ := h
  refine U_iast d_Mo_isTwo_9 sh_172 h1 ?_
  have h := h _ rfl
  refine V_aload_n d_Mo_isTwo_10 rfl ?_
  refine U_iv0 cv_Mo_isTwo_304 d_Mo_isTwo_11 sh_147 rfl rfl (am_mono h ?_)
  rintro ro2 so2 σ2 ⟨rfl, rfl, h⟩
  refine V_aload_n d_Mo_isTwo_14 rfl ?_
  refine V_iconst d_Mo_isTwo_15 ?_
  refine V_iload_n d_Mo_isTwo_16 rfl ?_
  refine U_iv2 cv_Mo_isTwo_307 d_Mo_isTwo_17 sh_147 rfl rfl (am_mono h ?_)
  rintro ro3 so3 σ3 ⟨z3, rfl, rfl, h⟩
  obtain ⟨h2, h⟩ := h
  obtain ⟨ht, hf⟩ := h
  refine V_if_ne 28 d_Mo_isTwo_20 h2 (fun h9 => ?_) (fun h9 => ?_)
  · have h := ht h9
    refine V_aload_n d_Mo_isTwo_28 rfl ?_
    refine U_geta d_Mo_isTwo_29 fl_Mo_97 sh_147 rfl ?_
    refine V_aload_n d_Mo_isTwo_32 rfl ?_
    refine U_geti d_Mo_isTwo_33 fl_Mo_301 sh_147 ?_
    refine V_aload_n d_Mo_isTwo_36 rfl ?_
    refine U_geti d_Mo_isTwo_37 fl_Mo_279 sh_147 ?_
    obtain ⟨h3, h⟩ := h
    refine U_iast d_Mo_isTwo_40 sh_173 h3 ?_
    have h := h _ rfl
    refine V_aload_n d_Mo_isTwo_41 rfl ?_
    refine U_iv0 cv_Mo_isTwo_304 d_Mo_isTwo_42 sh_147 rfl rfl (am_mono h ?_)
    rintro ro5 so5 σ5 ⟨rfl, rfl, h⟩
    refine V_aload_n d_Mo_isTwo_45 rfl ?_
    refine V_iload_n d_Mo_isTwo_46 rfl ?_
    refine V_iload d_Mo_isTwo_47 rfl ?_
    refine U_iv2 cv_Mo_isTwo_307 d_Mo_isTwo_49 sh_147 rfl rfl (am_mono h ?_)
    rintro ro6 so6 σ6 ⟨z6, rfl, rfl, h⟩
    obtain ⟨h4, h⟩ := h
    obtain ⟨ht, hf⟩ := h
    refine V_if_ne 60 d_Mo_isTwo_52 h4 (fun h7 => ?_) (fun h7 => ?_)
    · have h := ht h7
      refine V_aload_n d_Mo_isTwo_60 rfl ?_
      refine U_geta d_Mo_isTwo_61 fl_Mo_100 sh_147 rfl ?_
      refine V_aload_n d_Mo_isTwo_64 rfl ?_
      refine U_geti d_Mo_isTwo_65 fl_Mo_301 sh_147 ?_
      refine V_aload_n d_Mo_isTwo_68 rfl ?_
      refine U_geti d_Mo_isTwo_69 fl_Mo_279 sh_147 ?_
      obtain ⟨h5, h⟩ := h
      refine U_iast d_Mo_isTwo_72 sh_174 h5 ?_
      have h := h _ rfl
      refine V_aload_n d_Mo_isTwo_73 rfl ?_
      refine U_iv0 cv_Mo_isTwo_304 d_Mo_isTwo_74 sh_147 rfl rfl (am_mono h ?_)
      rintro ro8 so8 σ8 ⟨rfl, rfl, h⟩
      refine V_iconst d_Mo_isTwo_77 ?_
      exact V_zret d_Mo_isTwo_78 rfl rfl (Or.inr rfl) h
    · have h := hf h7
      refine V_aload_n d_Mo_isTwo_55 rfl ?_
      refine U_iv0 cv_Mo_isTwo_310 d_Mo_isTwo_56 sh_147 rfl rfl (am_mono h ?_)
      rintro ro9 so9 σ9 ⟨z9, rfl, rfl, h⟩
      obtain ⟨h6, h⟩ := h
      exact V_zret d_Mo_isTwo_59 rfl rfl h6 h
  · have h := hf h9
    refine V_aload_n d_Mo_isTwo_23 rfl ?_
    refine U_iv0 cv_Mo_isTwo_310 d_Mo_isTwo_24 sh_147 rfl rfl (am_mono h ?_)
    rintro ro10 so10 σ10 ⟨z10, rfl, rfl, h⟩
    obtain ⟨h8, h⟩ := h
    exact V_zret d_Mo_isTwo_27 rfl rfl h8 h
theorem s_Mo_isNumber_0 {x : am_Sc} {Po : Option am_AV → am_Sh → am_St → Prop} {σ : am_St} {v1 v2 : Int}
    (h : am_rl (σ.2 147 35) ∧ am_r (am_cmp (σ.2 147 35) (-1)) ∧ ((¬ (am_cmp (σ.2 147 35) (-1)) = 0 → am_U x m_Mo_isNumber Po σ 27 [none, none, none] []) ∧ ((am_cmp (σ.2 147 35) (-1)) = 0 → am_U x m_Mo_in (fun ro1 so1 σ1 => ∃ z1 : Int, ro1 = some (Zi z1) ∧ so1 = am_SH ∧ am_r z1 ∧ ((z1 = 0 → am_U x m_Mo_isNumber Po σ1 27 [none, none, none] []) ∧ (¬ z1 = 0 → am_U x m_Mo_isNumber Po σ1 28 [none, none, none] [Zi 1]))) σ 0 [some (Zi (σ.1 147 37)), some (Zi v1), some (Zi v2)] []))) : am_U x m_Mo_isNumber Po σ 0 [some (Zr 147), some (Zi v1), some (Zi v2)] [] := by
  refine V_aload_n d_Mo_isNumber_0 rfl ?_
  refine U_getl d_Mo_isNumber_1 fl_Mo_284 sh_147 ?_
  refine V_ldc2 (-1) d_Mo_isNumber_4 kc_Mo_294 ?_
  obtain ⟨h1, h⟩ := h
  refine V_lcmp d_Mo_isNumber_7 h1 (by decide) ?_
  obtain ⟨h2, h⟩ := h
  obtain ⟨ht, hf⟩ := h
  refine V_if_ne 27 d_Mo_isNumber_8 h2 (fun h5 => ?_) (fun h5 => ?_)
  · have h := ht h5
    refine V_drop 0 ?_
    refine V_drop 1 ?_
    refine V_drop 2 ?_
    exact h
  · have h := hf h5
    refine V_aload_n d_Mo_isNumber_11 rfl ?_
    refine U_geti d_Mo_isNumber_12 fl_Mo_279 sh_147 ?_
    refine V_iload_n d_Mo_isNumber_15 rfl ?_
    refine V_iload_n d_Mo_isNumber_16 rfl ?_
    refine U_is3 cv_Mo_isNumber_122 d_Mo_isNumber_17  rfl (am_mono h ?_)
    rintro ro1 so1 σ1 ⟨z1, rfl, rfl, h⟩
    obtain ⟨h3, h⟩ := h
    obtain ⟨ht, hf⟩ := h
    refine V_if_eq 27 d_Mo_isNumber_20 h3 (fun h4 => ?_) (fun h4 => ?_)
    · have h := ht h4
      refine V_drop 0 ?_
      refine V_drop 1 ?_
      refine V_drop 2 ?_
      exact h
    · have h := hf h4
      refine V_iconst d_Mo_isNumber_23 ?_
      refine V_goto 28 d_Mo_isNumber_24 ?_
      refine V_drop 0 ?_
      refine V_drop 1 ?_
      refine V_drop 2 ?_
      exact h
theorem s_Mo_isNumber_27 {x : am_Sc} {Po : Option am_AV → am_Sh → am_St → Prop} {σ : am_St}
    (h : am_U x m_Mo_isNumber Po σ 28 [none, none, none] [Zi 0]) : am_U x m_Mo_isNumber Po σ 27 [none, none, none] [] := by
  refine V_iconst d_Mo_isNumber_27 ?_
  exact h
theorem s_Mo_isNumber_28 {x : am_Sc} {Po : Option am_AV → am_Sh → am_St → Prop} {σ : am_St} {vk0 : Int}
    (h : (vk0 = 0 ∨ vk0 = 1) ∧ Po (some (Zi vk0)) am_SH σ) : am_U x m_Mo_isNumber Po σ 28 [none, none, none] [Zi vk0] := by
  obtain ⟨h6, h⟩ := h
  exact V_zret d_Mo_isNumber_28 rfl rfl h6 h
theorem s_Mo_fails_0 {x : am_Sc} {Po : Option am_AV → am_Sh → am_St → Prop} {σ : am_St}
    (h : (∀ σ1 : am_St, σ1 = (am_up σ.1 147 38 (σ.1 147 34), σ.2) → Po (some (Zi 0)) am_SH σ1)) : am_U x m_Mo_fails Po σ 0 [some (Zr 147)] [] := by
  refine V_aload_n d_Mo_fails_0 rfl ?_
  refine V_aload_n d_Mo_fails_1 rfl ?_
  refine U_geti d_Mo_fails_2 fl_Mo_273 sh_147 ?_
  refine U_puti d_Mo_fails_5 fw_Mo_298 sh_147 ?_
  have h := h _ rfl
  refine V_iconst d_Mo_fails_8 ?_
  exact V_zret d_Mo_fails_9 rfl rfl (Or.inl rfl) h
theorem s_Mo_isFit_0 {x : am_Sc} {Po : Option am_AV → am_Sh → am_St → Prop} {σ : am_St}
    (h : (0 ≤ σ.1 147 39 ∧ σ.1 147 39 < 160) ∧ (∀ σ1 : am_St, σ1 = (am_up σ.1 172 (σ.1 147 39).toNat 1, σ.2) → am_U x m_Mo_nextToken (fun ro2 so2 σ2 => ro2 = none ∧ so2 = am_SH ∧ am_U x m_Mo_isNumber (fun ro3 so3 σ3 => ∃ z3 : Int, ro3 = some (Zi z3) ∧ so3 = am_SH ∧ am_r z3 ∧ ((¬ z3 = 0 → (0 ≤ σ3.1 147 39 ∧ σ3.1 147 39 < 160) ∧ (∀ σ4 : am_St, σ4 = (am_up σ3.1 173 (σ3.1 147 39).toNat (σ3.1 147 37), σ3.2) → am_U x m_Mo_nextToken (fun ro5 so5 σ5 => ro5 = none ∧ so5 = am_SH ∧ Po (some (Zi 1)) am_SH σ5) σ4 0 [some (Zr 147)] [])) ∧ (z3 = 0 → am_U x m_Mo_fails (fun ro6 so6 σ6 => ∃ z6 : Int, ro6 = some (Zi z6) ∧ so6 = am_SH ∧ (z6 = 0 ∨ z6 = 1) ∧ Po (some (Zi z6)) am_SH σ6) σ3 0 [some (Zr 147)] []))) σ2 0 [some (Zr 147), some (Zi 1), some (Zi 10)] []) σ1 0 [some (Zr 147)] [])) : am_U x m_Mo_isFit Po σ 0 [some (Zr 147)] [] := by
  refine V_aload_n d_Mo_isFit_0 rfl ?_
  refine U_geta d_Mo_isFit_1 fl_Mo_94 sh_147 rfl ?_
  refine V_aload_n d_Mo_isFit_4 rfl ?_
  refine U_geti d_Mo_isFit_5 fl_Mo_301 sh_147 ?_
  refine V_iconst d_Mo_isFit_8 ?_
  obtain ⟨h1, h⟩ := h
  refine U_iast d_Mo_isFit_9 sh_172 h1 ?_
  have h := h _ rfl
  refine V_aload_n d_Mo_isFit_10 rfl ?_
  refine U_iv0 cv_Mo_isFit_304 d_Mo_isFit_11 sh_147 rfl rfl (am_mono h ?_)
  rintro ro2 so2 σ2 ⟨rfl, rfl, h⟩
  refine V_aload_n d_Mo_isFit_14 rfl ?_
  refine V_iconst d_Mo_isFit_15 ?_
  refine V_bipush d_Mo_isFit_16 ?_
  refine U_iv2 cv_Mo_isFit_307 d_Mo_isFit_18 sh_147 rfl rfl (am_mono h ?_)
  rintro ro3 so3 σ3 ⟨z3, rfl, rfl, h⟩
  obtain ⟨h2, h⟩ := h
  obtain ⟨ht, hf⟩ := h
  refine V_if_ne 29 d_Mo_isFit_21 h2 (fun h5 => ?_) (fun h5 => ?_)
  · have h := ht h5
    refine V_aload_n d_Mo_isFit_29 rfl ?_
    refine U_geta d_Mo_isFit_30 fl_Mo_97 sh_147 rfl ?_
    refine V_aload_n d_Mo_isFit_33 rfl ?_
    refine U_geti d_Mo_isFit_34 fl_Mo_301 sh_147 ?_
    refine V_aload_n d_Mo_isFit_37 rfl ?_
    refine U_geti d_Mo_isFit_38 fl_Mo_279 sh_147 ?_
    obtain ⟨h3, h⟩ := h
    refine U_iast d_Mo_isFit_41 sh_173 h3 ?_
    have h := h _ rfl
    refine V_aload_n d_Mo_isFit_42 rfl ?_
    refine U_iv0 cv_Mo_isFit_304 d_Mo_isFit_43 sh_147 rfl rfl (am_mono h ?_)
    rintro ro5 so5 σ5 ⟨rfl, rfl, h⟩
    refine V_iconst d_Mo_isFit_46 ?_
    exact V_zret d_Mo_isFit_47 rfl rfl (Or.inr rfl) h
  · have h := hf h5
    refine V_aload_n d_Mo_isFit_24 rfl ?_
    refine U_iv0 cv_Mo_isFit_310 d_Mo_isFit_25 sh_147 rfl rfl (am_mono h ?_)
    rintro ro6 so6 σ6 ⟨z6, rfl, rfl, h⟩
    obtain ⟨h4, h⟩ := h
    exact V_zret d_Mo_isFit_28 rfl rfl h4 h
theorem s_Mo_isSplit_0 {x : am_Sc} {Po : Option am_AV → am_Sh → am_St → Prop} {σ : am_St}
    (h : (0 ≤ σ.1 147 39 ∧ σ.1 147 39 < 160) ∧ (∀ σ1 : am_St, σ1 = (am_up σ.1 172 (σ.1 147 39).toNat 4, σ.2) → am_U x m_Mo_nextToken (fun ro2 so2 σ2 => ro2 = none ∧ so2 = am_SH ∧ am_U x m_Mo_isNumber (fun ro3 so3 σ3 => ∃ z3 : Int, ro3 = some (Zi z3) ∧ so3 = am_SH ∧ am_r z3 ∧ ((¬ z3 = 0 → (0 ≤ σ3.1 147 39 ∧ σ3.1 147 39 < 160) ∧ (∀ σ4 : am_St, σ4 = (am_up σ3.1 173 (σ3.1 147 39).toNat (σ3.1 147 37), σ3.2) → (0 ≤ σ4.1 147 39 ∧ σ4.1 147 39 < 160) ∧ (∀ σ5 : am_St, σ5 = (am_up σ4.1 174 (σ4.1 147 39).toNat 0, σ4.2) → am_U x m_Mo_nextToken (fun ro6 so6 σ6 => ro6 = none ∧ so6 = am_SH ∧ am_rl (σ6.2 147 35) ∧ am_r (am_cmp (σ6.2 147 35) 79) ∧ (((am_cmp (σ6.2 147 35) 79) = 0 → am_U x m_Mo_isSplit Po σ6 74 [some (Zr 147), some (Zi 1)] []) ∧ (¬ (am_cmp (σ6.2 147 35) 79) = 0 → am_U x m_Mo_fails (fun ro7 so7 σ7 => ∃ z7 : Int, ro7 = some (Zi z7) ∧ so7 = am_SH ∧ (z7 = 0 ∨ z7 = 1) ∧ Po (some (Zi z7)) am_SH σ7) σ6 0 [some (Zr 147)] []))) σ5 0 [some (Zr 147)] []))) ∧ (z3 = 0 → am_U x m_Mo_fails (fun ro8 so8 σ8 => ∃ z8 : Int, ro8 = some (Zi z8) ∧ so8 = am_SH ∧ (z8 = 0 ∨ z8 = 1) ∧ Po (some (Zi z8)) am_SH σ8) σ3 0 [some (Zr 147)] []))) σ2 0 [some (Zr 147), some (Zi 0), some (Zi 7)] []) σ1 0 [some (Zr 147)] [])) : am_U x m_Mo_isSplit Po σ 0 [some (Zr 147), none] [] := by
  refine V_aload_n d_Mo_isSplit_0 rfl ?_
  refine U_geta d_Mo_isSplit_1 fl_Mo_94 sh_147 rfl ?_
  refine V_aload_n d_Mo_isSplit_4 rfl ?_
  refine U_geti d_Mo_isSplit_5 fl_Mo_301 sh_147 ?_
  refine V_iconst d_Mo_isSplit_8 ?_
  obtain ⟨h1, h⟩ := h
  refine U_iast d_Mo_isSplit_9 sh_172 h1 ?_
  have h := h _ rfl
  refine V_aload_n d_Mo_isSplit_10 rfl ?_
  refine U_iv0 cv_Mo_isSplit_304 d_Mo_isSplit_11 sh_147 rfl rfl (am_mono h ?_)
  rintro ro2 so2 σ2 ⟨rfl, rfl, h⟩
  refine V_aload_n d_Mo_isSplit_14 rfl ?_
  refine V_iconst d_Mo_isSplit_15 ?_
  refine V_bipush d_Mo_isSplit_16 ?_
  refine U_iv2 cv_Mo_isSplit_307 d_Mo_isSplit_18 sh_147 rfl rfl (am_mono h ?_)
  rintro ro3 so3 σ3 ⟨z3, rfl, rfl, h⟩
  obtain ⟨h2, h⟩ := h
  obtain ⟨ht, hf⟩ := h
  refine V_if_ne 29 d_Mo_isSplit_21 h2 (fun h10 => ?_) (fun h10 => ?_)
  · have h := ht h10
    refine V_aload_n d_Mo_isSplit_29 rfl ?_
    refine U_geta d_Mo_isSplit_30 fl_Mo_97 sh_147 rfl ?_
    refine V_aload_n d_Mo_isSplit_33 rfl ?_
    refine U_geti d_Mo_isSplit_34 fl_Mo_301 sh_147 ?_
    refine V_aload_n d_Mo_isSplit_37 rfl ?_
    refine U_geti d_Mo_isSplit_38 fl_Mo_279 sh_147 ?_
    obtain ⟨h3, h⟩ := h
    refine U_iast d_Mo_isSplit_41 sh_173 h3 ?_
    have h := h _ rfl
    refine V_aload_n d_Mo_isSplit_42 rfl ?_
    refine U_geta d_Mo_isSplit_43 fl_Mo_100 sh_147 rfl ?_
    refine V_aload_n d_Mo_isSplit_46 rfl ?_
    refine U_geti d_Mo_isSplit_47 fl_Mo_301 sh_147 ?_
    refine V_iconst d_Mo_isSplit_50 ?_
    obtain ⟨h4, h⟩ := h
    refine U_iast d_Mo_isSplit_51 sh_174 h4 ?_
    have h := h _ rfl
    refine V_aload_n d_Mo_isSplit_52 rfl ?_
    refine U_iv0 cv_Mo_isSplit_304 d_Mo_isSplit_53 sh_147 rfl rfl (am_mono h ?_)
    rintro ro6 so6 σ6 ⟨rfl, rfl, h⟩
    refine V_aload_n d_Mo_isSplit_56 rfl ?_
    refine U_getl d_Mo_isSplit_57 fl_Mo_284 sh_147 ?_
    refine V_ldc2 79 d_Mo_isSplit_60 kc_Mo_314 ?_
    obtain ⟨h5, h⟩ := h
    refine V_lcmp d_Mo_isSplit_63 h5 (by decide) ?_
    obtain ⟨h6, h⟩ := h
    obtain ⟨ht, hf⟩ := h
    refine V_if_eq 72 d_Mo_isSplit_64 h6 (fun h8 => ?_) (fun h8 => ?_)
    · have h := ht h8
      refine V_iconst d_Mo_isSplit_72 ?_
      refine V_istore_n d_Mo_isSplit_73 rfl ?_
      exact h
    · have h := hf h8
      refine V_aload_n d_Mo_isSplit_67 rfl ?_
      refine U_iv0 cv_Mo_isSplit_310 d_Mo_isSplit_68 sh_147 rfl rfl (am_mono h ?_)
      rintro ro7 so7 σ7 ⟨z7, rfl, rfl, h⟩
      obtain ⟨h7, h⟩ := h
      exact V_zret d_Mo_isSplit_71 rfl rfl h7 h
  · have h := hf h10
    refine V_aload_n d_Mo_isSplit_24 rfl ?_
    refine U_iv0 cv_Mo_isSplit_310 d_Mo_isSplit_25 sh_147 rfl rfl (am_mono h ?_)
    rintro ro8 so8 σ8 ⟨z8, rfl, rfl, h⟩
    obtain ⟨h9, h⟩ := h
    exact V_zret d_Mo_isSplit_28 rfl rfl h9 h
theorem s_Mo_isSplit_74 {x : am_Sc} {Po : Option am_AV → am_Sh → am_St → Prop} {σ : am_St} {v1 : Int}
    (h : am_r v1 ∧ ((v1 = 0 → Po (some (Zi 1)) am_SH σ) ∧ (¬ v1 = 0 → am_U x m_Mo_nextToken (fun ro9 so9 σ9 => ro9 = none ∧ so9 = am_SH ∧ am_U x m_Mo_cells (fun ro10 so10 σ10 => ∃ z10 : Int, ro10 = some (Zi z10) ∧ so10 = am_SH ∧ am_U x m_Mo_isNumber (fun ro11 so11 σ11 => ∃ z11 : Int, ro11 = some (Zi z11) ∧ so11 = am_SH ∧ am_r z11 ∧ ((¬ z11 = 0 → (0 ≤ σ11.1 147 39 ∧ σ11.1 147 39 < 160) ∧ (∀ σ12 : am_St, σ12 = (am_up σ11.1 174 (σ11.1 147 39).toNat (am_or (σ11.1 174 (σ11.1 147 39).toNat) (am_shl 1 (σ11.1 147 37))), σ11.2) → am_U x m_Mo_nextToken (fun ro13 so13 σ13 => ro13 = none ∧ so13 = am_SH ∧ am_rl (σ13.2 147 35) ∧ am_r (am_cmp (σ13.2 147 35) 1111) ∧ ((¬ (am_cmp (σ13.2 147 35) 1111) = 0 → am_U x m_Mo_isSplit Po σ13 146 [some (Zr 147), none] [Zi 0]) ∧ ((am_cmp (σ13.2 147 35) 1111) = 0 → am_U x m_Mo_isSplit Po σ13 146 [some (Zr 147), none] [Zi 1]))) σ12 0 [some (Zr 147)] [])) ∧ (z11 = 0 → am_U x m_Mo_fails (fun ro14 so14 σ14 => ∃ z14 : Int, ro14 = some (Zi z14) ∧ so14 = am_SH ∧ (z14 = 0 ∨ z14 = 1) ∧ Po (some (Zi z14)) am_SH σ14) σ11 0 [some (Zr 147)] []))) σ10 0 [some (Zr 147), some (Zi 0), some (Zi (z10 - 1))] []) σ9 0 [some (Zr 147)] []) σ 0 [some (Zr 147)] []))) : am_U x m_Mo_isSplit Po σ 74 [some (Zr 147), some (Zi v1)] [] := by
  refine V_iload_n d_Mo_isSplit_74 rfl ?_
  obtain ⟨h11, h⟩ := h
  obtain ⟨ht, hf⟩ := h
  refine V_if_eq 150 d_Mo_isSplit_75 h11 (fun h19 => ?_) (fun h19 => ?_)
  · have h := ht h19
    refine V_iconst d_Mo_isSplit_150 ?_
    exact V_zret d_Mo_isSplit_151 rfl rfl (Or.inr rfl) h
  · have h := hf h19
    refine V_aload_n d_Mo_isSplit_78 rfl ?_
    refine U_iv0 cv_Mo_isSplit_304 d_Mo_isSplit_79 sh_147 rfl rfl (am_mono h ?_)
    rintro ro9 so9 σ9 ⟨rfl, rfl, h⟩
    refine V_aload_n d_Mo_isSplit_82 rfl ?_
    refine V_iconst d_Mo_isSplit_83 ?_
    refine V_aload_n d_Mo_isSplit_84 rfl ?_
    refine U_iv0 cv_Mo_isSplit_118 d_Mo_isSplit_85 sh_147 rfl rfl (am_mono h ?_)
    rintro ro10 so10 σ10 ⟨z10, rfl, rfl, h⟩
    refine V_iconst d_Mo_isSplit_88 ?_
    refine V_isub d_Mo_isSplit_89 ?_
    refine U_iv2 cv_Mo_isSplit_307 d_Mo_isSplit_90 sh_147 rfl rfl (am_mono h ?_)
    rintro ro11 so11 σ11 ⟨z11, rfl, rfl, h⟩
    obtain ⟨h12, h⟩ := h
    obtain ⟨ht, hf⟩ := h
    refine V_if_ne 101 d_Mo_isSplit_93 h12 (fun h18 => ?_) (fun h18 => ?_)
    · have h := ht h18
      refine V_aload_n d_Mo_isSplit_101 rfl ?_
      refine U_geta d_Mo_isSplit_102 fl_Mo_100 sh_147 rfl ?_
      refine V_aload_n d_Mo_isSplit_105 rfl ?_
      refine U_geti d_Mo_isSplit_106 fl_Mo_301 sh_147 ?_
      refine V_aload_n d_Mo_isSplit_109 rfl ?_
      refine U_geta d_Mo_isSplit_110 fl_Mo_100 sh_147 rfl ?_
      refine V_aload_n d_Mo_isSplit_113 rfl ?_
      refine U_geti d_Mo_isSplit_114 fl_Mo_301 sh_147 ?_
      obtain ⟨h13, h⟩ := h
      refine U_iald d_Mo_isSplit_117 sh_174 h13 ?_
      refine V_iconst d_Mo_isSplit_118 ?_
      refine V_aload_n d_Mo_isSplit_119 rfl ?_
      refine U_geti d_Mo_isSplit_120 fl_Mo_279 sh_147 ?_
      refine V_ishl d_Mo_isSplit_123 ?_
      refine V_ior d_Mo_isSplit_124 ?_
      refine U_iast d_Mo_isSplit_125 sh_174 h13 ?_
      have h := h _ rfl
      refine V_aload_n d_Mo_isSplit_126 rfl ?_
      refine U_iv0 cv_Mo_isSplit_304 d_Mo_isSplit_127 sh_147 rfl rfl (am_mono h ?_)
      rintro ro13 so13 σ13 ⟨rfl, rfl, h⟩
      refine V_aload_n d_Mo_isSplit_130 rfl ?_
      refine U_getl d_Mo_isSplit_131 fl_Mo_284 sh_147 ?_
      refine V_ldc2 1111 d_Mo_isSplit_134 kc_Mo_316 ?_
      obtain ⟨h14, h⟩ := h
      refine V_lcmp d_Mo_isSplit_137 h14 (by decide) ?_
      obtain ⟨h15, h⟩ := h
      obtain ⟨ht, hf⟩ := h
      refine V_if_ne 145 d_Mo_isSplit_138 h15 (fun h16 => ?_) (fun h16 => ?_)
      · have h := ht h16
        refine V_iconst d_Mo_isSplit_145 ?_
        refine V_drop 1 ?_
        exact h
      · have h := hf h16
        refine V_iconst d_Mo_isSplit_141 ?_
        refine V_goto 146 d_Mo_isSplit_142 ?_
        refine V_drop 1 ?_
        exact h
    · have h := hf h18
      refine V_aload_n d_Mo_isSplit_96 rfl ?_
      refine U_iv0 cv_Mo_isSplit_310 d_Mo_isSplit_97 sh_147 rfl rfl (am_mono h ?_)
      rintro ro14 so14 σ14 ⟨z14, rfl, rfl, h⟩
      obtain ⟨h17, h⟩ := h
      exact V_zret d_Mo_isSplit_100 rfl rfl h17 h
theorem s_Mo_isSplit_146 {x : am_Sc} {Po : Option am_AV → am_Sh → am_St → Prop} {σ : am_St} {vk0 : Int}
    (h : am_U x m_Mo_isSplit Po σ 74 [some (Zr 147), some (Zi vk0)] []) : am_U x m_Mo_isSplit Po σ 146 [some (Zr 147), none] [Zi vk0] := by
  refine V_istore_n d_Mo_isSplit_146 rfl ?_
  refine V_goto 74 d_Mo_isSplit_147 ?_
  exact h
theorem s_Mo_run_0 {x : am_Sc} {Po : Option am_AV → am_Sh → am_St → Prop} {σ : am_St}
    (h : am_U x m_Mo_isRead (fun ro1 so1 σ1 => ∃ z1 : Int, ro1 = some (Zi z1) ∧ so1 = am_SH ∧ am_r z1 ∧ ((¬ z1 = 0 → am_U x m_Mo_run Po σ1 12 [some (Zr 147), some (Zi 0), none] []) ∧ (z1 = 0 → Po (some (Zi (-4))) am_SH σ1))) σ 0 [some (Zr 147), none] []) : am_U x m_Mo_run Po σ 0 [some (Zr 147), none, none] [] := by
  refine V_aload_n d_Mo_run_0 rfl ?_
  refine U_iv0 cv_Mo_run_341 d_Mo_run_1 sh_147 rfl rfl (am_mono h ?_)
  rintro ro1 so1 σ1 ⟨z1, rfl, rfl, h⟩
  obtain ⟨h1, h⟩ := h
  obtain ⟨ht, hf⟩ := h
  refine V_if_ne 10 d_Mo_run_4 h1 (fun h2 => ?_) (fun h2 => ?_)
  · have h := ht h2
    refine V_iconst d_Mo_run_10 ?_
    refine V_istore_n d_Mo_run_11 rfl ?_
    exact h
  · have h := hf h2
    refine V_bipush d_Mo_run_7 ?_
    exact V_iret d_Mo_run_9 rfl rfl h
theorem s_Mo_run_12 {x : am_Sc} {Po : Option am_AV → am_Sh → am_St → Prop} {σ : am_St} {v1 : Int}
    (h : am_r v1 ∧ ((16 ≤ v1 → am_U x m_Mo_run Po σ 38 [some (Zr 147), some (Zi 0), none] []) ∧ (¬ 16 ≤ v1 → (0 ≤ v1 ∧ v1 < 16) ∧ (∀ σ2 : am_St, σ2 = (am_up σ.1 175 v1.toNat (σ.1 148 v1.toNat), σ.2) → am_U x m_Mo_run Po σ2 12 [some (Zr 147), some (Zi (v1 + 1)), none] [])))) : am_U x m_Mo_run Po σ 12 [some (Zr 147), some (Zi v1), none] [] := by
  refine V_iload_n d_Mo_run_12 rfl ?_
  refine V_bipush d_Mo_run_13 ?_
  obtain ⟨h3, h⟩ := h
  obtain ⟨ht, hf⟩ := h
  refine V_icmp_ge 36 d_Mo_run_15 h3 (by decide) (fun h5 => ?_) (fun h5 => ?_)
  · have h := ht h5
    refine V_iconst d_Mo_run_36 ?_
    refine V_istore_n d_Mo_run_37 rfl ?_
    exact h
  · have h := hf h5
    refine V_aload_n d_Mo_run_18 rfl ?_
    refine U_geta d_Mo_run_19 fl_Mo_103 sh_147 rfl ?_
    refine V_iload_n d_Mo_run_22 rfl ?_
    refine V_aload_n d_Mo_run_23 rfl ?_
    refine U_geta d_Mo_run_24 fl_Mo_16 sh_147 rfl ?_
    refine V_iload_n d_Mo_run_27 rfl ?_
    obtain ⟨h4, h⟩ := h
    refine U_iald d_Mo_run_28 sh_148 h4 ?_
    refine U_iast d_Mo_run_29 sh_175 h4 ?_
    have h := h _ rfl
    refine V_iinc d_Mo_run_30 rfl rfl ?_
    refine V_goto 12 d_Mo_run_33 ?_
    exact h
theorem s_Mo_run_38 {x : am_Sc} {Po : Option am_AV → am_Sh → am_St → Prop} {σ : am_St} {v1 : Int}
    (h : am_r v1 ∧ ((8 ≤ v1 → am_U x m_Mo_run Po σ 64 [some (Zr 147), some (Zi 0), none] []) ∧ (¬ 8 ≤ v1 → (0 ≤ v1 ∧ v1 < 8) ∧ (∀ σ3 : am_St, σ3 = (am_up σ.1 176 v1.toNat (σ.1 149 v1.toNat), σ.2) → am_U x m_Mo_run Po σ3 38 [some (Zr 147), some (Zi (v1 + 1)), none] [])))) : am_U x m_Mo_run Po σ 38 [some (Zr 147), some (Zi v1), none] [] := by
  refine V_iload_n d_Mo_run_38 rfl ?_
  refine V_bipush d_Mo_run_39 ?_
  obtain ⟨h6, h⟩ := h
  obtain ⟨ht, hf⟩ := h
  refine V_icmp_ge 62 d_Mo_run_41 h6 (by decide) (fun h8 => ?_) (fun h8 => ?_)
  · have h := ht h8
    refine V_iconst d_Mo_run_62 ?_
    refine V_istore_n d_Mo_run_63 rfl ?_
    exact h
  · have h := hf h8
    refine V_aload_n d_Mo_run_44 rfl ?_
    refine U_geta d_Mo_run_45 fl_Mo_106 sh_147 rfl ?_
    refine V_iload_n d_Mo_run_48 rfl ?_
    refine V_aload_n d_Mo_run_49 rfl ?_
    refine U_geta d_Mo_run_50 fl_Mo_20 sh_147 rfl ?_
    refine V_iload_n d_Mo_run_53 rfl ?_
    obtain ⟨h7, h⟩ := h
    refine U_iald d_Mo_run_54 sh_149 h7 ?_
    refine U_iast d_Mo_run_55 sh_176 h7 ?_
    have h := h _ rfl
    refine V_iinc d_Mo_run_56 rfl rfl ?_
    refine V_goto 38 d_Mo_run_59 ?_
    exact h
theorem s_Mo_run_64 {x : am_Sc} {Po : Option am_AV → am_Sh → am_St → Prop} {σ : am_St} {v1 : Int}
    (h : am_r v1 ∧ ((6 ≤ v1 → am_U x m_Mo_run Po σ 90 [some (Zr 147), some (Zi 0), none] []) ∧ (¬ 6 ≤ v1 → (0 ≤ v1 ∧ v1 < 6) ∧ (∀ σ4 : am_St, σ4 = (am_up σ.1 177 v1.toNat (σ.1 151 v1.toNat), σ.2) → am_U x m_Mo_run Po σ4 64 [some (Zr 147), some (Zi (v1 + 1)), none] [])))) : am_U x m_Mo_run Po σ 64 [some (Zr 147), some (Zi v1), none] [] := by
  refine V_iload_n d_Mo_run_64 rfl ?_
  refine V_bipush d_Mo_run_65 ?_
  obtain ⟨h9, h⟩ := h
  obtain ⟨ht, hf⟩ := h
  refine V_icmp_ge 88 d_Mo_run_67 h9 (by decide) (fun h11 => ?_) (fun h11 => ?_)
  · have h := ht h11
    refine V_iconst d_Mo_run_88 ?_
    refine V_istore_n d_Mo_run_89 rfl ?_
    exact h
  · have h := hf h11
    refine V_aload_n d_Mo_run_70 rfl ?_
    refine U_geta d_Mo_run_71 fl_Mo_109 sh_147 rfl ?_
    refine V_iload_n d_Mo_run_74 rfl ?_
    refine V_aload_n d_Mo_run_75 rfl ?_
    refine U_geta d_Mo_run_76 fl_Mo_29 sh_147 rfl ?_
    refine V_iload_n d_Mo_run_79 rfl ?_
    obtain ⟨h10, h⟩ := h
    refine U_iald d_Mo_run_80 sh_151 h10 ?_
    refine U_iast d_Mo_run_81 sh_177 h10 ?_
    have h := h _ rfl
    refine V_iinc d_Mo_run_82 rfl rfl ?_
    refine V_goto 64 d_Mo_run_85 ?_
    exact h
theorem s_Mo_run_90 {x : am_Sc} {Po : Option am_AV → am_Sh → am_St → Prop} {σ : am_St} {v1 : Int}
    (h : am_r v1 ∧ ((5 ≤ v1 → am_U x m_Mo_run Po σ 117 [some (Zr 147), some (Zi 1), some (Zi 0)] []) ∧ (¬ 5 ≤ v1 → (0 ≤ v1 ∧ v1 < 5) ∧ (∀ σ5 : am_St, σ5 = (am_up σ.1 178 v1.toNat (σ.1 152 v1.toNat), σ.2) → am_U x m_Mo_run Po σ5 90 [some (Zr 147), some (Zi (v1 + 1)), none] [])))) : am_U x m_Mo_run Po σ 90 [some (Zr 147), some (Zi v1), none] [] := by
  refine V_iload_n d_Mo_run_90 rfl ?_
  refine V_iconst d_Mo_run_91 ?_
  obtain ⟨h12, h⟩ := h
  obtain ⟨ht, hf⟩ := h
  refine V_icmp_ge 113 d_Mo_run_92 h12 (by decide) (fun h14 => ?_) (fun h14 => ?_)
  · have h := ht h14
    refine V_iconst d_Mo_run_113 ?_
    refine V_istore_n d_Mo_run_114 rfl ?_
    refine V_iconst d_Mo_run_115 ?_
    refine V_istore_n d_Mo_run_116 rfl ?_
    exact h
  · have h := hf h14
    refine V_aload_n d_Mo_run_95 rfl ?_
    refine U_geta d_Mo_run_96 fl_Mo_112 sh_147 rfl ?_
    refine V_iload_n d_Mo_run_99 rfl ?_
    refine V_aload_n d_Mo_run_100 rfl ?_
    refine U_geta d_Mo_run_101 fl_Mo_32 sh_147 rfl ?_
    refine V_iload_n d_Mo_run_104 rfl ?_
    obtain ⟨h13, h⟩ := h
    refine U_iald d_Mo_run_105 sh_152 h13 ?_
    refine U_iast d_Mo_run_106 sh_178 h13 ?_
    have h := h _ rfl
    refine V_iinc d_Mo_run_107 rfl rfl ?_
    refine V_goto 90 d_Mo_run_110 ?_
    exact h
theorem s_Mo_run_117 {x : am_Sc} {Po : Option am_AV → am_Sh → am_St → Prop} {σ : am_St} {v1 v2 : Int}
    (h : am_r v2 ∧ am_r (σ.1 147 39) ∧ (((σ.1 147 39) ≤ v2 → am_U x m_Mo_run Po σ 141 [some (Zr 147), some (Zi v1), none] []) ∧ (¬ (σ.1 147 39) ≤ v2 → am_r v1 ∧ ((v1 = 0 → am_U x m_Mo_run Po σ 141 [some (Zr 147), some (Zi v1), none] []) ∧ (¬ v1 = 0 → am_U x m_Mo_isDone (fun ro6 so6 σ6 => ∃ z6 : Int, ro6 = some (Zi z6) ∧ so6 = am_SH ∧ am_U x m_Mo_run Po σ6 117 [some (Zr 147), some (Zi z6), some (Zi (v2 + 1))] []) σ 0 [some (Zr 147), some (Zi v2)] []))))) : am_U x m_Mo_run Po σ 117 [some (Zr 147), some (Zi v1), some (Zi v2)] [] := by
  refine V_iload_n d_Mo_run_117 rfl ?_
  refine V_aload_n d_Mo_run_118 rfl ?_
  refine U_geti d_Mo_run_119 fl_Mo_301 sh_147 ?_
  obtain ⟨h15, h⟩ := h
  obtain ⟨h16, h⟩ := h
  obtain ⟨ht, hf⟩ := h
  refine V_icmp_ge 141 d_Mo_run_122 h15 h16 (fun h19 => ?_) (fun h19 => ?_)
  · have h := ht h19
    refine V_drop 2 ?_
    exact h
  · have h := hf h19
    refine V_iload_n d_Mo_run_125 rfl ?_
    obtain ⟨h17, h⟩ := h
    obtain ⟨ht, hf⟩ := h
    refine V_if_eq 141 d_Mo_run_126 h17 (fun h18 => ?_) (fun h18 => ?_)
    · have h := ht h18
      refine V_drop 2 ?_
      exact h
    · have h := hf h18
      refine V_aload_n d_Mo_run_129 rfl ?_
      refine V_iload_n d_Mo_run_130 rfl ?_
      refine U_iv1 cv_Mo_run_350 d_Mo_run_131 sh_147 rfl rfl (am_mono h ?_)
      rintro ro6 so6 σ6 ⟨z6, rfl, rfl, h⟩
      refine V_istore_n d_Mo_run_134 rfl ?_
      refine V_iinc d_Mo_run_135 rfl rfl ?_
      refine V_goto 117 d_Mo_run_138 ?_
      exact h
theorem s_Mo_run_141 {x : am_Sc} {Po : Option am_AV → am_Sh → am_St → Prop} {σ : am_St} {v1 : Int}
    (h : am_r v1 ∧ ((v1 = 0 → am_U x m_Mo_run Po σ 152 [some (Zr 147), none, some (Zi 0)] []) ∧ (¬ v1 = 0 → Po (some (Zi (σ.1 147 39))) am_SH σ))) : am_U x m_Mo_run Po σ 141 [some (Zr 147), some (Zi v1), none] [] := by
  refine V_iload_n d_Mo_run_141 rfl ?_
  obtain ⟨h20, h⟩ := h
  obtain ⟨ht, hf⟩ := h
  refine V_if_eq 150 d_Mo_run_142 h20 (fun h21 => ?_) (fun h21 => ?_)
  · have h := ht h21
    refine V_iconst d_Mo_run_150 ?_
    refine V_istore_n d_Mo_run_151 rfl ?_
    refine V_drop 1 ?_
    exact h
  · have h := hf h21
    refine V_aload_n d_Mo_run_145 rfl ?_
    refine U_geti d_Mo_run_146 fl_Mo_301 sh_147 ?_
    exact V_iret d_Mo_run_149 rfl rfl h
theorem s_Mo_run_152 {x : am_Sc} {Po : Option am_AV → am_Sh → am_St → Prop} {σ : am_St} {v2 : Int}
    (h : am_r v2 ∧ ((16 ≤ v2 → am_U x m_Mo_run Po σ 178 [some (Zr 147), none, some (Zi 0)] []) ∧ (¬ 16 ≤ v2 → (0 ≤ v2 ∧ v2 < 16) ∧ (∀ σ7 : am_St, σ7 = (am_up σ.1 148 v2.toNat (σ.1 175 v2.toNat), σ.2) → am_U x m_Mo_run Po σ7 152 [some (Zr 147), none, some (Zi (v2 + 1))] [])))) : am_U x m_Mo_run Po σ 152 [some (Zr 147), none, some (Zi v2)] [] := by
  refine V_iload_n d_Mo_run_152 rfl ?_
  refine V_bipush d_Mo_run_153 ?_
  obtain ⟨h22, h⟩ := h
  obtain ⟨ht, hf⟩ := h
  refine V_icmp_ge 176 d_Mo_run_155 h22 (by decide) (fun h24 => ?_) (fun h24 => ?_)
  · have h := ht h24
    refine V_iconst d_Mo_run_176 ?_
    refine V_istore_n d_Mo_run_177 rfl ?_
    exact h
  · have h := hf h24
    refine V_aload_n d_Mo_run_158 rfl ?_
    refine U_geta d_Mo_run_159 fl_Mo_16 sh_147 rfl ?_
    refine V_iload_n d_Mo_run_162 rfl ?_
    refine V_aload_n d_Mo_run_163 rfl ?_
    refine U_geta d_Mo_run_164 fl_Mo_103 sh_147 rfl ?_
    refine V_iload_n d_Mo_run_167 rfl ?_
    obtain ⟨h23, h⟩ := h
    refine U_iald d_Mo_run_168 sh_175 h23 ?_
    refine U_iast d_Mo_run_169 sh_148 h23 ?_
    have h := h _ rfl
    refine V_iinc d_Mo_run_170 rfl rfl ?_
    refine V_goto 152 d_Mo_run_173 ?_
    exact h
theorem s_Mo_run_178 {x : am_Sc} {Po : Option am_AV → am_Sh → am_St → Prop} {σ : am_St} {v2 : Int}
    (h : am_r v2 ∧ ((8 ≤ v2 → am_U x m_Mo_run Po σ 204 [some (Zr 147), none, some (Zi 0)] []) ∧ (¬ 8 ≤ v2 → (0 ≤ v2 ∧ v2 < 8) ∧ (∀ σ8 : am_St, σ8 = (am_up σ.1 149 v2.toNat (σ.1 176 v2.toNat), σ.2) → am_U x m_Mo_run Po σ8 178 [some (Zr 147), none, some (Zi (v2 + 1))] [])))) : am_U x m_Mo_run Po σ 178 [some (Zr 147), none, some (Zi v2)] [] := by
  refine V_iload_n d_Mo_run_178 rfl ?_
  refine V_bipush d_Mo_run_179 ?_
  obtain ⟨h25, h⟩ := h
  obtain ⟨ht, hf⟩ := h
  refine V_icmp_ge 202 d_Mo_run_181 h25 (by decide) (fun h27 => ?_) (fun h27 => ?_)
  · have h := ht h27
    refine V_iconst d_Mo_run_202 ?_
    refine V_istore_n d_Mo_run_203 rfl ?_
    exact h
  · have h := hf h27
    refine V_aload_n d_Mo_run_184 rfl ?_
    refine U_geta d_Mo_run_185 fl_Mo_20 sh_147 rfl ?_
    refine V_iload_n d_Mo_run_188 rfl ?_
    refine V_aload_n d_Mo_run_189 rfl ?_
    refine U_geta d_Mo_run_190 fl_Mo_106 sh_147 rfl ?_
    refine V_iload_n d_Mo_run_193 rfl ?_
    obtain ⟨h26, h⟩ := h
    refine U_iald d_Mo_run_194 sh_176 h26 ?_
    refine U_iast d_Mo_run_195 sh_149 h26 ?_
    have h := h _ rfl
    refine V_iinc d_Mo_run_196 rfl rfl ?_
    refine V_goto 178 d_Mo_run_199 ?_
    exact h
theorem s_Mo_run_204 {x : am_Sc} {Po : Option am_AV → am_Sh → am_St → Prop} {σ : am_St} {v2 : Int}
    (h : am_r v2 ∧ ((6 ≤ v2 → am_U x m_Mo_run Po σ 230 [some (Zr 147), none, some (Zi 0)] []) ∧ (¬ 6 ≤ v2 → (0 ≤ v2 ∧ v2 < 6) ∧ (∀ σ9 : am_St, σ9 = (am_up σ.1 151 v2.toNat (σ.1 177 v2.toNat), σ.2) → am_U x m_Mo_run Po σ9 204 [some (Zr 147), none, some (Zi (v2 + 1))] [])))) : am_U x m_Mo_run Po σ 204 [some (Zr 147), none, some (Zi v2)] [] := by
  refine V_iload_n d_Mo_run_204 rfl ?_
  refine V_bipush d_Mo_run_205 ?_
  obtain ⟨h28, h⟩ := h
  obtain ⟨ht, hf⟩ := h
  refine V_icmp_ge 228 d_Mo_run_207 h28 (by decide) (fun h30 => ?_) (fun h30 => ?_)
  · have h := ht h30
    refine V_iconst d_Mo_run_228 ?_
    refine V_istore_n d_Mo_run_229 rfl ?_
    exact h
  · have h := hf h30
    refine V_aload_n d_Mo_run_210 rfl ?_
    refine U_geta d_Mo_run_211 fl_Mo_29 sh_147 rfl ?_
    refine V_iload_n d_Mo_run_214 rfl ?_
    refine V_aload_n d_Mo_run_215 rfl ?_
    refine U_geta d_Mo_run_216 fl_Mo_109 sh_147 rfl ?_
    refine V_iload_n d_Mo_run_219 rfl ?_
    obtain ⟨h29, h⟩ := h
    refine U_iald d_Mo_run_220 sh_177 h29 ?_
    refine U_iast d_Mo_run_221 sh_151 h29 ?_
    have h := h _ rfl
    refine V_iinc d_Mo_run_222 rfl rfl ?_
    refine V_goto 204 d_Mo_run_225 ?_
    exact h
theorem s_Mo_run_230 {x : am_Sc} {Po : Option am_AV → am_Sh → am_St → Prop} {σ : am_St} {v2 : Int}
    (h : am_r v2 ∧ ((5 ≤ v2 → Po (some (Zi (-4))) am_SH σ) ∧ (¬ 5 ≤ v2 → (0 ≤ v2 ∧ v2 < 5) ∧ (∀ σ10 : am_St, σ10 = (am_up σ.1 152 v2.toNat (σ.1 178 v2.toNat), σ.2) → am_U x m_Mo_run Po σ10 230 [some (Zr 147), none, some (Zi (v2 + 1))] [])))) : am_U x m_Mo_run Po σ 230 [some (Zr 147), none, some (Zi v2)] [] := by
  refine V_iload_n d_Mo_run_230 rfl ?_
  refine V_iconst d_Mo_run_231 ?_
  obtain ⟨h31, h⟩ := h
  obtain ⟨ht, hf⟩ := h
  refine V_icmp_ge 253 d_Mo_run_232 h31 (by decide) (fun h33 => ?_) (fun h33 => ?_)
  · have h := ht h33
    refine V_bipush d_Mo_run_253 ?_
    exact V_iret d_Mo_run_255 rfl rfl h
  · have h := hf h33
    refine V_aload_n d_Mo_run_235 rfl ?_
    refine U_geta d_Mo_run_236 fl_Mo_32 sh_147 rfl ?_
    refine V_iload_n d_Mo_run_239 rfl ?_
    refine V_aload_n d_Mo_run_240 rfl ?_
    refine U_geta d_Mo_run_241 fl_Mo_112 sh_147 rfl ?_
    refine V_iload_n d_Mo_run_244 rfl ?_
    obtain ⟨h32, h⟩ := h
    refine U_iald d_Mo_run_245 sh_178 h32 ?_
    refine U_iast d_Mo_run_246 sh_152 h32 ?_
    have h := h _ rfl
    refine V_iinc d_Mo_run_247 rfl rfl ?_
    refine V_goto 230 d_Mo_run_250 ?_
    exact h
theorem s_Mo_isDone_0 {x : am_Sc} {Po : Option am_AV → am_Sh → am_St → Prop} {σ : am_St} {v1 : Int}
    (h : (0 ≤ v1 ∧ v1 < 160) ∧ am_r (σ.1 172 v1.toNat) ∧ ((((σ.1 172 v1.toNat) < 0 ∨ 3 < (σ.1 172 v1.toNat)) → am_U x m_Mo_split (fun ro1 so1 σ1 => ∃ z1 : Int, ro1 = some (Zi z1) ∧ so1 = am_SH ∧ am_r z1 ∧ ((z1 < 0 → am_U x m_Mo_isDone Po σ1 130 [none, none] [Zi 0]) ∧ (¬ z1 < 0 → am_U x m_Mo_isDone Po σ1 130 [none, none] [Zi 1]))) σ 0 [some (Zr 147), some (Zi (σ.1 173 v1.toNat)), some (Zi (σ.1 174 v1.toNat)), none, none, none] []) ∧ ((σ.1 172 v1.toNat) = 0 → (0 ≤ σ.1 173 v1.toNat ∧ σ.1 173 v1.toNat < 8) ∧ (∀ σ2 : am_St, σ2 = (am_up σ.1 149 (σ.1 173 v1.toNat).toNat (σ.1 174 v1.toNat), σ.2) → Po (some (Zi 1)) am_SH σ2)) ∧ ((σ.1 172 v1.toNat) = 1 → am_U x m_Mo_fit (fun ro3 so3 σ3 => ∃ z3 : Int, ro3 = some (Zi z3) ∧ so3 = am_SH ∧ Po (some (Zi 1)) am_SH σ3) σ 0 [some (Zr 147), some (Zi (σ.1 173 v1.toNat))] []) ∧ ((σ.1 172 v1.toNat) = 2 → (0 ≤ σ.1 173 v1.toNat ∧ σ.1 173 v1.toNat < 5) ∧ (∀ σ4 : am_St, σ4 = (am_up σ.1 152 (σ.1 173 v1.toNat).toNat (σ.1 174 v1.toNat), σ.2) → Po (some (Zi 1)) am_SH σ4)) ∧ ((σ.1 172 v1.toNat) = 3 → (0 ≤ σ.1 173 v1.toNat ∧ σ.1 173 v1.toNat < 6) ∧ (∀ σ5 : am_St, σ5 = (am_up σ.1 151 (σ.1 173 v1.toNat).toNat (σ.1 174 v1.toNat), σ.2) → Po (some (Zi 1)) am_SH σ5)))) : am_U x m_Mo_isDone Po σ 0 [some (Zr 147), some (Zi v1)] [] := by
  refine V_aload_n d_Mo_isDone_0 rfl ?_
  refine U_geta d_Mo_isDone_1 fl_Mo_94 sh_147 rfl ?_
  refine V_iload_n d_Mo_isDone_4 rfl ?_
  obtain ⟨h1, h⟩ := h
  refine U_iald d_Mo_isDone_5 sh_172 h1 ?_
  obtain ⟨h2, h⟩ := h
  obtain ⟨hd9, h⟩ := h
  by_cases hq9 : (σ.1 172 v1.toNat) < 0 ∨ 3 < (σ.1 172 v1.toNat)
  · have h := hd9 hq9
    refine V_tabOut 106 d_Mo_isDone_6 h2 hq9 ?_
    refine V_aload_n d_Mo_isDone_106 rfl ?_
    refine V_aload_n d_Mo_isDone_107 rfl ?_
    refine U_geta d_Mo_isDone_108 fl_Mo_97 sh_147 rfl ?_
    refine V_iload_n d_Mo_isDone_111 rfl ?_
    refine U_iald d_Mo_isDone_112 sh_173 h1 ?_
    refine V_aload_n d_Mo_isDone_113 rfl ?_
    refine U_geta d_Mo_isDone_114 fl_Mo_100 sh_147 rfl ?_
    refine V_iload_n d_Mo_isDone_117 rfl ?_
    refine U_iald d_Mo_isDone_118 sh_174 h1 ?_
    refine U_iv2 cv_Mo_isDone_347 d_Mo_isDone_119 sh_147 rfl rfl (am_mono h ?_)
    rintro ro1 so1 σ1 ⟨z1, rfl, rfl, h⟩
    obtain ⟨h3, h⟩ := h
    obtain ⟨ht, hf⟩ := h
    refine V_if_lt 129 d_Mo_isDone_122 h3 (fun h4 => ?_) (fun h4 => ?_)
    · have h := ht h4
      refine V_iconst d_Mo_isDone_129 ?_
      refine V_drop 0 ?_
      refine V_drop 1 ?_
      exact h
    · have h := hf h4
      refine V_iconst d_Mo_isDone_125 ?_
      refine V_goto 130 d_Mo_isDone_126 ?_
      refine V_drop 0 ?_
      refine V_drop 1 ?_
      exact h
  · have ha9 : (σ.1 172 v1.toNat) = 0 ∨ (σ.1 172 v1.toNat) = 1 ∨ (σ.1 172 v1.toNat) = 2 ∨ (σ.1 172 v1.toNat) = 3 := by omega
    rcases ha9 with hc0 | hc1 | hc2 | hc3
    · have h := h.1 hc0
      refine V_tabIn 36 d_Mo_isDone_6 h2 (by omega) (by omega) (by rw [hc0]; rfl) ?_
      refine V_aload_n d_Mo_isDone_36 rfl ?_
      refine U_geta d_Mo_isDone_37 fl_Mo_20 sh_147 rfl ?_
      refine V_aload_n d_Mo_isDone_40 rfl ?_
      refine U_geta d_Mo_isDone_41 fl_Mo_97 sh_147 rfl ?_
      refine V_iload_n d_Mo_isDone_44 rfl ?_
      refine U_iald d_Mo_isDone_45 sh_173 h1 ?_
      refine V_aload_n d_Mo_isDone_46 rfl ?_
      refine U_geta d_Mo_isDone_47 fl_Mo_100 sh_147 rfl ?_
      refine V_iload_n d_Mo_isDone_50 rfl ?_
      refine U_iald d_Mo_isDone_51 sh_174 h1 ?_
      obtain ⟨h5, h⟩ := h
      refine U_iast d_Mo_isDone_52 sh_149 h5 ?_
      have h := h _ rfl
      refine V_iconst d_Mo_isDone_53 ?_
      exact V_zret d_Mo_isDone_54 rfl rfl (Or.inr rfl) h
    · have h := h.2.1 hc1
      refine V_tabIn 55 d_Mo_isDone_6 h2 (by omega) (by omega) (by rw [hc1]; rfl) ?_
      refine V_aload_n d_Mo_isDone_55 rfl ?_
      refine V_aload_n d_Mo_isDone_56 rfl ?_
      refine U_geta d_Mo_isDone_57 fl_Mo_97 sh_147 rfl ?_
      refine V_iload_n d_Mo_isDone_60 rfl ?_
      refine U_iald d_Mo_isDone_61 sh_173 h1 ?_
      refine U_iv1 cv_Mo_isDone_344 d_Mo_isDone_62 sh_147 rfl rfl (am_mono h ?_)
      rintro ro3 so3 σ3 ⟨z3, rfl, rfl, h⟩
      refine V_pop d_Mo_isDone_65 ?_
      refine V_iconst d_Mo_isDone_66 ?_
      exact V_zret d_Mo_isDone_67 rfl rfl (Or.inr rfl) h
    · have h := h.2.2.1 hc2
      refine V_tabIn 68 d_Mo_isDone_6 h2 (by omega) (by omega) (by rw [hc2]; rfl) ?_
      refine V_aload_n d_Mo_isDone_68 rfl ?_
      refine U_geta d_Mo_isDone_69 fl_Mo_32 sh_147 rfl ?_
      refine V_aload_n d_Mo_isDone_72 rfl ?_
      refine U_geta d_Mo_isDone_73 fl_Mo_97 sh_147 rfl ?_
      refine V_iload_n d_Mo_isDone_76 rfl ?_
      refine U_iald d_Mo_isDone_77 sh_173 h1 ?_
      refine V_aload_n d_Mo_isDone_78 rfl ?_
      refine U_geta d_Mo_isDone_79 fl_Mo_100 sh_147 rfl ?_
      refine V_iload_n d_Mo_isDone_82 rfl ?_
      refine U_iald d_Mo_isDone_83 sh_174 h1 ?_
      obtain ⟨h6, h⟩ := h
      refine U_iast d_Mo_isDone_84 sh_152 h6 ?_
      have h := h _ rfl
      refine V_iconst d_Mo_isDone_85 ?_
      exact V_zret d_Mo_isDone_86 rfl rfl (Or.inr rfl) h
    · have h := h.2.2.2 hc3
      refine V_tabIn 87 d_Mo_isDone_6 h2 (by omega) (by omega) (by rw [hc3]; rfl) ?_
      refine V_aload_n d_Mo_isDone_87 rfl ?_
      refine U_geta d_Mo_isDone_88 fl_Mo_29 sh_147 rfl ?_
      refine V_aload_n d_Mo_isDone_91 rfl ?_
      refine U_geta d_Mo_isDone_92 fl_Mo_97 sh_147 rfl ?_
      refine V_iload_n d_Mo_isDone_95 rfl ?_
      refine U_iald d_Mo_isDone_96 sh_173 h1 ?_
      refine V_aload_n d_Mo_isDone_97 rfl ?_
      refine U_geta d_Mo_isDone_98 fl_Mo_100 sh_147 rfl ?_
      refine V_iload_n d_Mo_isDone_101 rfl ?_
      refine U_iald d_Mo_isDone_102 sh_174 h1 ?_
      obtain ⟨h7, h⟩ := h
      refine U_iast d_Mo_isDone_103 sh_151 h7 ?_
      have h := h _ rfl
      refine V_iconst d_Mo_isDone_104 ?_
      exact V_zret d_Mo_isDone_105 rfl rfl (Or.inr rfl) h
theorem s_Mo_isDone_130 {x : am_Sc} {Po : Option am_AV → am_Sh → am_St → Prop} {σ : am_St} {vk0 : Int}
    (h : (vk0 = 0 ∨ vk0 = 1) ∧ Po (some (Zi vk0)) am_SH σ) : am_U x m_Mo_isDone Po σ 130 [none, none] [Zi vk0] := by
  obtain ⟨h8, h⟩ := h
  exact V_zret d_Mo_isDone_130 rfl rfl h8 h
theorem s_Mo_count_0 {x : am_Sc} {Po : Option am_AV → am_Sh → am_St → Prop} {σ : am_St} {v1 : Int}
    (h : am_r v1 ∧ (((v1 < 0 ∨ 7 < v1) → Po (some (Zi (-3))) am_SH σ) ∧ (v1 = 0 → am_U x m_Mo_cells (fun ro1 so1 σ1 => ∃ z1 : Int, ro1 = some (Zi z1) ∧ so1 = am_SH ∧ Po (some (Zi z1)) am_SH σ1) σ 0 [some (Zr 147)] []) ∧ (v1 = 1 → am_U x m_Mo_count Po σ 55 [some (Zr 147), none, some (Zi 0), some (Zi 0)] []) ∧ (v1 = 2 → Po (some (Zi (σ.1 147 5))) am_SH σ) ∧ (v1 = 3 → Po (some (Zi (σ.1 147 8))) am_SH σ) ∧ (v1 = 4 → Po (some (Zi (σ.1 147 11))) am_SH σ) ∧ (v1 = 5 → Po (some (Zi (σ.1 147 15))) am_SH σ) ∧ (v1 = 6 → Po (some (Zi (σ.1 147 20))) am_SH σ) ∧ (v1 = 7 → Po (some (Zi (σ.1 147 31))) am_SH σ))) : am_U x m_Mo_count Po σ 0 [some (Zr 147), some (Zi v1), none, none] [] := by
  refine V_iconst d_Mo_count_0 ?_
  refine V_istore_n d_Mo_count_1 rfl ?_
  refine V_iload_n d_Mo_count_2 rfl ?_
  obtain ⟨h1, h⟩ := h
  obtain ⟨hd9, h⟩ := h
  by_cases hq9 : v1 < 0 ∨ 7 < v1
  · have h := hd9 hq9
    refine V_tabOut 115 d_Mo_count_3 h1 hq9 ?_
    refine V_bipush d_Mo_count_115 ?_
    exact V_iret d_Mo_count_117 rfl rfl h
  · have ha9 : v1 = 0 ∨ v1 = 1 ∨ v1 = 2 ∨ v1 = 3 ∨ v1 = 4 ∨ v1 = 5 ∨ v1 = 6 ∨ v1 = 7 := by omega
    rcases ha9 with hc0 | hc1 | hc2 | hc3 | hc4 | hc5 | hc6 | hc7
    · have h := h.1 hc0
      refine V_tabIn 48 d_Mo_count_3 h1 (by omega) (by omega) (by rw [hc0]; rfl) ?_
      refine V_aload_n d_Mo_count_48 rfl ?_
      refine U_iv0 cv_Mo_count_118 d_Mo_count_49 sh_147 rfl rfl (am_mono h ?_)
      rintro ro1 so1 σ1 ⟨z1, rfl, rfl, h⟩
      exact V_iret d_Mo_count_52 rfl rfl h
    · have h := h.2.1 hc1
      refine V_tabIn 53 d_Mo_count_3 h1 (by omega) (by omega) (by rw [hc1]; rfl) ?_
      refine V_iconst d_Mo_count_53 ?_
      refine V_istore_n d_Mo_count_54 rfl ?_
      refine V_drop 1 ?_
      exact h
    · have h := h.2.2.1 hc2
      refine V_tabIn 85 d_Mo_count_3 h1 (by omega) (by omega) (by rw [hc2]; rfl) ?_
      refine V_aload_n d_Mo_count_85 rfl ?_
      refine U_geti d_Mo_count_86 fl_Mo_126 sh_147 ?_
      exact V_iret d_Mo_count_89 rfl rfl h
    · have h := h.2.2.2.1 hc3
      refine V_tabIn 90 d_Mo_count_3 h1 (by omega) (by omega) (by rw [hc3]; rfl) ?_
      refine V_aload_n d_Mo_count_90 rfl ?_
      refine U_geti d_Mo_count_91 fl_Mo_129 sh_147 ?_
      exact V_iret d_Mo_count_94 rfl rfl h
    · have h := h.2.2.2.2.1 hc4
      refine V_tabIn 95 d_Mo_count_3 h1 (by omega) (by omega) (by rw [hc4]; rfl) ?_
      refine V_aload_n d_Mo_count_95 rfl ?_
      refine U_geti d_Mo_count_96 fl_Mo_132 sh_147 ?_
      exact V_iret d_Mo_count_99 rfl rfl h
    · have h := h.2.2.2.2.2.1 hc5
      refine V_tabIn 100 d_Mo_count_3 h1 (by omega) (by omega) (by rw [hc5]; rfl) ?_
      refine V_aload_n d_Mo_count_100 rfl ?_
      refine U_geti d_Mo_count_101 fl_Mo_135 sh_147 ?_
      exact V_iret d_Mo_count_104 rfl rfl h
    · have h := h.2.2.2.2.2.2.1 hc6
      refine V_tabIn 105 d_Mo_count_3 h1 (by omega) (by omega) (by rw [hc6]; rfl) ?_
      refine V_aload_n d_Mo_count_105 rfl ?_
      refine U_geti d_Mo_count_106 fl_Mo_174 sh_147 ?_
      exact V_iret d_Mo_count_109 rfl rfl h
    · have h := h.2.2.2.2.2.2.2 hc7
      refine V_tabIn 110 d_Mo_count_3 h1 (by omega) (by omega) (by rw [hc7]; rfl) ?_
      refine V_aload_n d_Mo_count_110 rfl ?_
      refine U_geti d_Mo_count_111 fl_Mo_265 sh_147 ?_
      exact V_iret d_Mo_count_114 rfl rfl h
theorem s_Mo_count_55 {x : am_Sc} {Po : Option am_AV → am_Sh → am_St → Prop} {σ : am_St} {v2 v3 : Int}
    (h : am_r v3 ∧ ((8 ≤ v3 → Po (some (Zi v2)) am_SH σ) ∧ (¬ 8 ≤ v3 → am_U x m_Mo_sizeOf (fun ro2 so2 σ2 => ∃ z2 : Int, ro2 = some (Zi z2) ∧ so2 = am_SH ∧ am_r z2 ∧ ((z2 ≤ 0 → am_U x m_Mo_count Po σ2 75 [some (Zr 147), none, none, some (Zi v3)] [Zi 0, Zi v2]) ∧ (¬ z2 ≤ 0 → am_U x m_Mo_count Po σ2 75 [some (Zr 147), none, none, some (Zi v3)] [Zi 1, Zi v2]))) σ 0 [some (Zr 147), some (Zi v3), none, none] []))) : am_U x m_Mo_count Po σ 55 [some (Zr 147), none, some (Zi v2), some (Zi v3)] [] := by
  refine V_iload_n d_Mo_count_55 rfl ?_
  refine V_bipush d_Mo_count_56 ?_
  obtain ⟨h2, h⟩ := h
  obtain ⟨ht, hf⟩ := h
  refine V_icmp_ge 83 d_Mo_count_58 h2 (by decide) (fun h5 => ?_) (fun h5 => ?_)
  · have h := ht h5
    refine V_iload_n d_Mo_count_83 rfl ?_
    exact V_iret d_Mo_count_84 rfl rfl h
  · have h := hf h5
    refine V_iload_n d_Mo_count_61 rfl ?_
    refine V_aload_n d_Mo_count_62 rfl ?_
    refine V_iload_n d_Mo_count_63 rfl ?_
    refine U_iv1 cv_Mo_count_142 d_Mo_count_64 sh_147 rfl rfl (am_mono h ?_)
    rintro ro2 so2 σ2 ⟨z2, rfl, rfl, h⟩
    obtain ⟨h3, h⟩ := h
    obtain ⟨ht, hf⟩ := h
    refine V_if_le 74 d_Mo_count_67 h3 (fun h4 => ?_) (fun h4 => ?_)
    · have h := ht h4
      refine V_iconst d_Mo_count_74 ?_
      refine V_drop 2 ?_
      exact h
    · have h := hf h4
      refine V_iconst d_Mo_count_70 ?_
      refine V_goto 75 d_Mo_count_71 ?_
      refine V_drop 2 ?_
      exact h
theorem s_Mo_count_75 {x : am_Sc} {Po : Option am_AV → am_Sh → am_St → Prop} {σ : am_St} {v3 vk0 vk1 : Int}
    (h : am_U x m_Mo_count Po σ 55 [some (Zr 147), none, some (Zi (vk0 + vk1)), some (Zi (v3 + 1))] []) : am_U x m_Mo_count Po σ 75 [some (Zr 147), none, none, some (Zi v3)] [Zi vk1, Zi vk0] := by
  refine V_iadd d_Mo_count_75 ?_
  refine V_istore_n d_Mo_count_76 rfl ?_
  refine V_iinc d_Mo_count_77 rfl rfl ?_
  refine V_goto 55 d_Mo_count_80 ?_
  exact h
