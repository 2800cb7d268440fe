theorem s_Sp_ground_0 {x : am_Sc} {Po : Option am_AV → am_Sh → am_St → Prop} {σ : am_St} {v1 v2 : Int}
    (h : am_U x m_Sp_isWithin (fun ro1 so1 σ1 => ∃ z1 : Int, ro1 = some (Zi z1) ∧ so1 = am_SH ∧ am_r z1 ∧ ((z1 = 0 → am_U x m_Sp_ground Po σ1 18 [none, none, none] []) ∧ (¬ z1 = 0 → am_U x m_Sp_isWithin (fun ro2 so2 σ2 => ∃ z2 : Int, ro2 = some (Zi z2) ∧ so2 = am_SH ∧ am_r z2 ∧ ((¬ z2 = 0 → am_U x m_Gr_lay (fun ro3 so3 σ3 => ro3 = none ∧ so3 = am_SH ∧ am_U x m_Bo_forgetAll (fun ro4 so4 σ4 => ro4 = none ∧ so4 = am_SH ∧ Po (some (Zi (σ4.1 1 0))) am_SH σ4) σ3 0 [some (Zr 8)] []) σ2 0 [some (Zr 1), some (Zi v1), some (Zi v2), none, none, none, none] []) ∧ (z2 = 0 → am_U x m_Sp_ground Po σ2 18 [none, none, none] []))) σ1 0 [some (Zi v2), some (Zi 2), some (Zi 4)] []))) σ 0 [some (Zi v1), some (Zi 2), some (Zi 4)] []) : am_U x m_Sp_ground Po σ 0 [some (Zr 0), some (Zi v1), some (Zi v2)] [] := by
  refine V_iload_n d_Sp_ground_0 rfl ?_
  refine V_iconst d_Sp_ground_1 ?_
  refine V_iconst d_Sp_ground_2 ?_
  refine U_is3 cv_Sp_ground_82 d_Sp_ground_3  rfl (am_mono h ?_)
  rintro ro1 so1 σ1 ⟨z1, rfl, rfl, h⟩
  obtain ⟨h1, h⟩ := h
  obtain ⟨ht, hf⟩ := h
  refine V_if_eq 18 d_Sp_ground_6 h1 (fun h4 => ?_) (fun h4 => ?_)
  · have h := ht h4
    refine V_drop 0 ?_
    refine V_drop 1 ?_
    refine V_drop 2 ?_
    exact h
  · have h := hf h4
    refine V_iload_n d_Sp_ground_9 rfl ?_
    refine V_iconst d_Sp_ground_10 ?_
    refine V_iconst d_Sp_ground_11 ?_
    refine U_is3 cv_Sp_ground_82 d_Sp_ground_12  rfl (am_mono h ?_)
    rintro ro2 so2 σ2 ⟨z2, rfl, rfl, h⟩
    obtain ⟨h2, h⟩ := h
    obtain ⟨ht, hf⟩ := h
    refine V_if_ne 21 d_Sp_ground_15 h2 (fun h3 => ?_) (fun h3 => ?_)
    · have h := ht h3
      refine V_aload_n d_Sp_ground_21 rfl ?_
      refine U_geta d_Sp_ground_22 fl_Sp_22 sh_0 rfl ?_
      refine V_iload_n d_Sp_ground_25 rfl ?_
      refine V_iload_n d_Sp_ground_26 rfl ?_
      refine U_iv2 cv_Sp_ground_10 d_Sp_ground_27 sh_1 rfl rfl (am_mono h ?_)
      rintro ro3 so3 σ3 ⟨rfl, rfl, h⟩
      refine V_aload_n d_Sp_ground_30 rfl ?_
      refine U_geta d_Sp_ground_31 fl_Sp_28 sh_0 rfl ?_
      refine U_iv0 cv_Sp_ground_86 d_Sp_ground_34 sh_8 rfl rfl (am_mono h ?_)
      rintro ro4 so4 σ4 ⟨rfl, rfl, h⟩
      refine V_aload_n d_Sp_ground_37 rfl ?_
      refine U_geta d_Sp_ground_38 fl_Sp_22 sh_0 rfl ?_
      refine U_geti d_Sp_ground_41 fl_Sp_89 sh_1 ?_
      exact V_iret d_Sp_ground_44 rfl rfl h
    · have h := hf h3
      refine V_drop 0 ?_
      refine V_drop 1 ?_
      refine V_drop 2 ?_
      exact h
theorem s_Sp_ground_18 {x : am_Sc} {Po : Option am_AV → am_Sh → am_St → Prop} {σ : am_St}
    (h : Po (some (Zi (-3))) am_SH σ) : am_U x m_Sp_ground Po σ 18 [none, none, none] [] := by
  refine V_bipush d_Sp_ground_18 ?_
  exact V_iret d_Sp_ground_20 rfl rfl h
theorem s_Sp_isWithin_0 {x : am_Sc} {Po : Option am_AV → am_Sh → am_St → Prop} {σ : am_St} {v0 v1 v2 : Int}
    (h : am_r v0 ∧ am_r v1 ∧ ((v0 < v1 → am_U x m_Sp_isWithin Po σ 14 [none, none, none] []) ∧ (¬ v0 < v1 → am_r v2 ∧ ((v2 < v0 → am_U x m_Sp_isWithin Po σ 14 [none, none, none] []) ∧ (¬ v2 < v0 → am_U x m_Sp_isWithin Po σ 15 [none, none, none] [Zi 1]))))) : am_U x m_Sp_isWithin Po σ 0 [some (Zi v0), some (Zi v1), some (Zi v2)] [] := by
  refine V_iload_n d_Sp_isWithin_0 rfl ?_
  refine V_iload_n d_Sp_isWithin_1 rfl ?_
  obtain ⟨h1, h⟩ := h
  obtain ⟨h2, h⟩ := h
  obtain ⟨ht, hf⟩ := h
  refine V_icmp_lt 14 d_Sp_isWithin_2 h1 h2 (fun h5 => ?_) (fun h5 => ?_)
  · have h := ht h5
    refine V_drop 0 ?_
    refine V_drop 1 ?_
    refine V_drop 2 ?_
    exact h
  · have h := hf h5
    refine V_iload_n d_Sp_isWithin_5 rfl ?_
    refine V_iload_n d_Sp_isWithin_6 rfl ?_
    obtain ⟨h3, h⟩ := h
    obtain ⟨ht, hf⟩ := h
    refine V_icmp_gt 14 d_Sp_isWithin_7 h1 h3 (fun h4 => ?_) (fun h4 => ?_)
    · have h := ht h4
      refine V_drop 0 ?_
      refine V_drop 1 ?_
      refine V_drop 2 ?_
      exact h
    · have h := hf h4
      refine V_iconst d_Sp_isWithin_10 ?_
      refine V_goto 15 d_Sp_isWithin_11 ?_
      refine V_drop 0 ?_
      refine V_drop 1 ?_
      refine V_drop 2 ?_
      exact h
theorem s_Sp_isWithin_14 {x : am_Sc} {Po : Option am_AV → am_Sh → am_St → Prop} {σ : am_St}
    (h : am_U x m_Sp_isWithin Po σ 15 [none, none, none] [Zi 0]) : am_U x m_Sp_isWithin Po σ 14 [none, none, none] [] := by
  refine V_iconst d_Sp_isWithin_14 ?_
  exact h
theorem s_Sp_isWithin_15 {x : am_Sc} {Po : Option am_AV → am_Sh → am_St → Prop} {σ : am_St} {vk0 : Int}
    (h : (vk0 = 0 ∨ vk0 = 1) ∧ Po (some (Zi vk0)) am_SH σ) : am_U x m_Sp_isWithin Po σ 15 [none, none, none] [Zi vk0] := by
  obtain ⟨h6, h⟩ := h
  exact V_zret d_Sp_isWithin_15 rfl rfl h6 h
theorem s_Sp_ratio_0 {x : am_Sc} {Po : Option am_AV → am_Sh → am_St → Prop} {σ : am_St} {v1 : Int}
    (h : am_U x m_Sp_isWithin (fun ro1 so1 σ1 => ∃ z1 : Int, ro1 = some (Zi z1) ∧ so1 = am_SH ∧ am_r z1 ∧ ((¬ z1 = 0 → (∀ σ2 : am_St, σ2 = (am_up σ1.1 1 1 v1, σ1.2) → Po (some (Zi (σ1.1 1 1))) am_SH σ2)) ∧ (z1 = 0 → Po (some (Zi (-3))) am_SH σ1))) σ 0 [some (Zi v1), some (Zi 10), some (Zi 30)] []) : am_U x m_Sp_ratio Po σ 0 [some (Zr 0), some (Zi v1), none] [] := by
  refine V_iload_n d_Sp_ratio_0 rfl ?_
  refine V_bipush d_Sp_ratio_1 ?_
  refine V_bipush d_Sp_ratio_3 ?_
  refine U_is3 cv_Sp_ratio_82 d_Sp_ratio_5  rfl (am_mono h ?_)
  rintro ro1 so1 σ1 ⟨z1, rfl, rfl, h⟩
  obtain ⟨h1, h⟩ := h
  obtain ⟨ht, hf⟩ := h
  refine V_if_ne 14 d_Sp_ratio_8 h1 (fun h2 => ?_) (fun h2 => ?_)
  · have h := ht h2
    refine V_aload_n d_Sp_ratio_14 rfl ?_
    refine U_geta d_Sp_ratio_15 fl_Sp_22 sh_0 rfl ?_
    refine U_geti d_Sp_ratio_18 fl_Sp_93 sh_1 ?_
    refine V_istore_n d_Sp_ratio_21 rfl ?_
    refine V_aload_n d_Sp_ratio_22 rfl ?_
    refine U_geta d_Sp_ratio_23 fl_Sp_22 sh_0 rfl ?_
    refine V_iload_n d_Sp_ratio_26 rfl ?_
    refine U_puti d_Sp_ratio_27 fw_Sp_93 sh_1 ?_
    have h := h _ rfl
    refine V_iload_n d_Sp_ratio_30 rfl ?_
    exact V_iret d_Sp_ratio_31 rfl rfl h
  · have h := hf h2
    refine V_bipush d_Sp_ratio_11 ?_
    exact V_iret d_Sp_ratio_13 rfl rfl h
theorem s_Sp_slow_0 {x : am_Sc} {Po : Option am_AV → am_Sh → am_St → Prop} {σ : am_St} {v1 v2 : Int}
    (h : am_U x m_Sp_isBlock (fun ro1 so1 σ1 => ∃ z1 : Int, ro1 = some (Zi z1) ∧ so1 = am_SH ∧ am_r z1 ∧ ((¬ z1 = 0 → am_U x m_Sp_isWithin (fun ro2 so2 σ2 => ∃ z2 : Int, ro2 = some (Zi z2) ∧ so2 = am_SH ∧ am_r z2 ∧ ((¬ z2 = 0 → (0 ≤ v1 ∧ v1 < 8) ∧ (∀ σ3 : am_St, σ3 = (am_up σ2.1 3 v1.toNat v2, σ2.2) → Po (some (Zi (σ2.1 3 v1.toNat))) am_SH σ3)) ∧ (z2 = 0 → Po (some (Zi (-3))) am_SH σ2))) σ1 0 [some (Zi v2), some (Zi 1), some (Zi 60)] []) ∧ (z1 = 0 → Po (some (Zi (-2))) am_SH σ1))) σ 0 [some (Zr 0), some (Zi v1)] []) : am_U x m_Sp_slow Po σ 0 [some (Zr 0), some (Zi v1), some (Zi v2), none] [] := by
  refine V_aload_n d_Sp_slow_0 rfl ?_
  refine V_iload_n d_Sp_slow_1 rfl ?_
  refine U_iv1 cv_Sp_slow_96 d_Sp_slow_2 sh_0 rfl rfl (am_mono h ?_)
  rintro ro1 so1 σ1 ⟨z1, rfl, rfl, h⟩
  obtain ⟨h1, h⟩ := h
  obtain ⟨ht, hf⟩ := h
  refine V_if_ne 11 d_Sp_slow_5 h1 (fun h5 => ?_) (fun h5 => ?_)
  · have h := ht h5
    refine V_iload_n d_Sp_slow_11 rfl ?_
    refine V_iconst d_Sp_slow_12 ?_
    refine V_bipush d_Sp_slow_13 ?_
    refine U_is3 cv_Sp_slow_82 d_Sp_slow_15  rfl (am_mono h ?_)
    rintro ro2 so2 σ2 ⟨z2, rfl, rfl, h⟩
    obtain ⟨h2, h⟩ := h
    obtain ⟨ht, hf⟩ := h
    refine V_if_ne 24 d_Sp_slow_18 h2 (fun h4 => ?_) (fun h4 => ?_)
    · have h := ht h4
      refine V_aload_n d_Sp_slow_24 rfl ?_
      refine U_geta d_Sp_slow_25 fl_Sp_22 sh_0 rfl ?_
      refine U_geta d_Sp_slow_28 fl_Sp_100 sh_1 rfl ?_
      refine V_iload_n d_Sp_slow_31 rfl ?_
      obtain ⟨h3, h⟩ := h
      refine U_iald d_Sp_slow_32 sh_3 h3 ?_
      refine V_istore_n d_Sp_slow_33 rfl ?_
      refine V_aload_n d_Sp_slow_34 rfl ?_
      refine U_geta d_Sp_slow_35 fl_Sp_22 sh_0 rfl ?_
      refine U_geta d_Sp_slow_38 fl_Sp_100 sh_1 rfl ?_
      refine V_iload_n d_Sp_slow_41 rfl ?_
      refine V_iload_n d_Sp_slow_42 rfl ?_
      refine U_iast d_Sp_slow_43 sh_3 h3 ?_
      have h := h _ rfl
      refine V_iload_n d_Sp_slow_44 rfl ?_
      exact V_iret d_Sp_slow_45 rfl rfl h
    · have h := hf h4
      refine V_bipush d_Sp_slow_21 ?_
      exact V_iret d_Sp_slow_23 rfl rfl h
  · have h := hf h5
    refine V_bipush d_Sp_slow_8 ?_
    exact V_iret d_Sp_slow_10 rfl rfl h
theorem s_Sp_isBlock_0 {x : am_Sc} {Po : Option am_AV → am_Sh → am_St → Prop} {σ : am_St} {v1 : Int}
    (h : am_U x m_Sp_isWithin (fun ro1 so1 σ1 => ∃ z1 : Int, ro1 = some (Zi z1) ∧ so1 = am_SH ∧ (z1 = 0 ∨ z1 = 1) ∧ Po (some (Zi z1)) am_SH σ1) σ 0 [some (Zi v1), some (Zi 0), some (Zi 7)] []) : am_U x m_Sp_isBlock Po σ 0 [some (Zr 0), some (Zi v1)] [] := by
  refine V_iload_n d_Sp_isBlock_0 rfl ?_
  refine V_iconst d_Sp_isBlock_1 ?_
  refine V_bipush d_Sp_isBlock_2 ?_
  refine U_is3 cv_Sp_isBlock_82 d_Sp_isBlock_4  rfl (am_mono h ?_)
  rintro ro1 so1 σ1 ⟨z1, rfl, rfl, h⟩
  obtain ⟨h1, h⟩ := h
  exact V_zret d_Sp_isBlock_7 rfl rfl h1 h
theorem s_Sp_split_0 {x : am_Sc} {Po : Option am_AV → am_Sh → am_St → Prop} {σ : am_St} {v1 v2 : Int}
    (h : am_U x m_Sp_isBlock (fun ro1 so1 σ1 => ∃ z1 : Int, ro1 = some (Zi z1) ∧ so1 = am_SH ∧ am_r z1 ∧ ((¬ z1 = 0 → am_U x m_Gr_allCells (fun ro2 so2 σ2 => ∃ z2 : Int, ro2 = some (Zi z2) ∧ so2 = am_SH ∧ am_r (am_and v2 (am_xor z2 (-1))) ∧ (((am_and v2 (am_xor z2 (-1))) = 0 → am_U x m_Gr_splitBlock (fun ro3 so3 σ3 => ∃ z3 : Int, ro3 = some (Zi z3) ∧ so3 = am_SH ∧ Po (some (Zi z3)) am_SH σ3) σ2 0 [some (Zr 1), some (Zi v1), some (Zi v2), none, none] []) ∧ (¬ (am_and v2 (am_xor z2 (-1))) = 0 → Po (some (Zi (-3))) am_SH σ2))) σ1 0 [some (Zr 1)] []) ∧ (z1 = 0 → Po (some (Zi (-2))) am_SH σ1))) σ 0 [some (Zr 0), some (Zi v1)] []) : am_U x m_Sp_split Po σ 0 [some (Zr 0), some (Zi v1), some (Zi v2)] [] := by
  refine V_aload_n d_Sp_split_0 rfl ?_
  refine V_iload_n d_Sp_split_1 rfl ?_
  refine U_iv1 cv_Sp_split_96 d_Sp_split_2 sh_0 rfl rfl (am_mono h ?_)
  rintro ro1 so1 σ1 ⟨z1, rfl, rfl, h⟩
  obtain ⟨h1, h⟩ := h
  obtain ⟨ht, hf⟩ := h
  refine V_if_ne 11 d_Sp_split_5 h1 (fun h4 => ?_) (fun h4 => ?_)
  · have h := ht h4
    refine V_iload_n d_Sp_split_11 rfl ?_
    refine V_aload_n d_Sp_split_12 rfl ?_
    refine U_geta d_Sp_split_13 fl_Sp_22 sh_0 rfl ?_
    refine U_iv0 cv_Sp_split_104 d_Sp_split_16 sh_1 rfl rfl (am_mono h ?_)
    rintro ro2 so2 σ2 ⟨z2, rfl, rfl, h⟩
    refine V_iconst d_Sp_split_19 ?_
    refine V_ixor d_Sp_split_20 ?_
    refine V_iand d_Sp_split_21 ?_
    obtain ⟨h2, h⟩ := h
    obtain ⟨ht, hf⟩ := h
    refine V_if_eq 28 d_Sp_split_22 h2 (fun h3 => ?_) (fun h3 => ?_)
    · have h := ht h3
      refine V_aload_n d_Sp_split_28 rfl ?_
      refine U_geta d_Sp_split_29 fl_Sp_22 sh_0 rfl ?_
      refine V_iload_n d_Sp_split_32 rfl ?_
      refine V_iload_n d_Sp_split_33 rfl ?_
      refine U_iv2 cv_Sp_split_108 d_Sp_split_34 sh_1 rfl rfl (am_mono h ?_)
      rintro ro3 so3 σ3 ⟨z3, rfl, rfl, h⟩
      exact V_iret d_Sp_split_37 rfl rfl h
    · have h := hf h3
      refine V_bipush d_Sp_split_25 ?_
      exact V_iret d_Sp_split_27 rfl rfl h
  · have h := hf h4
    refine V_bipush d_Sp_split_8 ?_
    exact V_iret d_Sp_split_10 rfl rfl h
theorem s_Sp_join_0 {x : am_Sc} {Po : Option am_AV → am_Sh → am_St → Prop} {σ : am_St} {v1 v2 : Int}
    (h : am_U x m_Sp_isBlock (fun ro1 so1 σ1 => ∃ z1 : Int, ro1 = some (Zi z1) ∧ so1 = am_SH ∧ am_r z1 ∧ ((z1 = 0 → am_U x m_Sp_join Po σ1 16 [none, none, none] []) ∧ (¬ z1 = 0 → am_U x m_Sp_isBlock (fun ro2 so2 σ2 => ∃ z2 : Int, ro2 = some (Zi z2) ∧ so2 = am_SH ∧ am_r z2 ∧ ((¬ z2 = 0 → am_r v1 ∧ am_r v2 ∧ ((¬ v1 = v2 → am_U x m_Gr_allCells (fun ro3 so3 σ3 => ∃ z3 : Int, ro3 = some (Zi z3) ∧ so3 = am_SH ∧ am_U x m_Gr_moveCells (fun ro4 so4 σ4 => ro4 = none ∧ so4 = am_SH ∧ am_U x m_Gr_cellsIn (fun ro5 so5 σ5 => ∃ z5 : Int, ro5 = some (Zi z5) ∧ so5 = am_SH ∧ Po (some (Zi z5)) am_SH σ5) σ4 0 [some (Zr 1), some (Zi v1)] []) σ3 0 [some (Zr 1), some (Zi v2), some (Zi z3), some (Zi v1), none] []) σ2 0 [some (Zr 1)] []) ∧ (v1 = v2 → Po (some (Zi (-3))) am_SH σ2))) ∧ (z2 = 0 → am_U x m_Sp_join Po σ2 16 [none, none, none] []))) σ1 0 [some (Zr 0), some (Zi v2)] []))) σ 0 [some (Zr 0), some (Zi v1)] []) : am_U x m_Sp_join Po σ 0 [some (Zr 0), some (Zi v1), some (Zi v2)] [] := by
  refine V_aload_n d_Sp_join_0 rfl ?_
  refine V_iload_n d_Sp_join_1 rfl ?_
  refine U_iv1 cv_Sp_join_96 d_Sp_join_2 sh_0 rfl rfl (am_mono h ?_)
  rintro ro1 so1 σ1 ⟨z1, rfl, rfl, h⟩
  obtain ⟨h1, h⟩ := h
  obtain ⟨ht, hf⟩ := h
  refine V_if_eq 16 d_Sp_join_5 h1 (fun h7 => ?_) (fun h7 => ?_)
  · have h := ht h7
    refine V_drop 0 ?_
    refine V_drop 1 ?_
    refine V_drop 2 ?_
    exact h
  · have h := hf h7
    refine V_aload_n d_Sp_join_8 rfl ?_
    refine V_iload_n d_Sp_join_9 rfl ?_
    refine U_iv1 cv_Sp_join_96 d_Sp_join_10 sh_0 rfl rfl (am_mono h ?_)
    rintro ro2 so2 σ2 ⟨z2, rfl, rfl, h⟩
    obtain ⟨h2, h⟩ := h
    obtain ⟨ht, hf⟩ := h
    refine V_if_ne 19 d_Sp_join_13 h2 (fun h6 => ?_) (fun h6 => ?_)
    · have h := ht h6
      refine V_iload_n d_Sp_join_19 rfl ?_
      refine V_iload_n d_Sp_join_20 rfl ?_
      obtain ⟨h3, h⟩ := h
      obtain ⟨h4, h⟩ := h
      obtain ⟨ht, hf⟩ := h
      refine V_icmp_ne 27 d_Sp_join_21 h3 h4 (fun h5 => ?_) (fun h5 => ?_)
      · have h := ht h5
        refine V_aload_n d_Sp_join_27 rfl ?_
        refine U_geta d_Sp_join_28 fl_Sp_22 sh_0 rfl ?_
        refine V_iload_n d_Sp_join_31 rfl ?_
        refine V_aload_n d_Sp_join_32 rfl ?_
        refine U_geta d_Sp_join_33 fl_Sp_22 sh_0 rfl ?_
        refine U_iv0 cv_Sp_join_104 d_Sp_join_36 sh_1 rfl rfl (am_mono h ?_)
        rintro ro3 so3 σ3 ⟨z3, rfl, rfl, h⟩
        refine V_iload_n d_Sp_join_39 rfl ?_
        refine U_iv3 cv_Sp_join_112 d_Sp_join_40 sh_1 rfl rfl (am_mono h ?_)
        rintro ro4 so4 σ4 ⟨rfl, rfl, h⟩
        refine V_aload_n d_Sp_join_43 rfl ?_
        refine U_geta d_Sp_join_44 fl_Sp_22 sh_0 rfl ?_
        refine V_iload_n d_Sp_join_47 rfl ?_
        refine U_iv1 cv_Sp_join_116 d_Sp_join_48 sh_1 rfl rfl (am_mono h ?_)
        rintro ro5 so5 σ5 ⟨z5, rfl, rfl, h⟩
        exact V_iret d_Sp_join_51 rfl rfl h
      · have h := hf h5
        refine V_bipush d_Sp_join_24 ?_
        exact V_iret d_Sp_join_26 rfl rfl h
    · have h := hf h6
      refine V_drop 0 ?_
      refine V_drop 1 ?_
      refine V_drop 2 ?_
      exact h
theorem s_Sp_join_16 {x : am_Sc} {Po : Option am_AV → am_Sh → am_St → Prop} {σ : am_St}
    (h : Po (some (Zi (-2))) am_SH σ) : am_U x m_Sp_join Po σ 16 [none, none, none] [] := by
  refine V_bipush d_Sp_join_16 ?_
  exact V_iret d_Sp_join_18 rfl rfl h
theorem s_Sp_at_0 {x : am_Sc} {Po : Option am_AV → am_Sh → am_St → Prop} {σ : am_St} {v1 v2 : Int}
    (h : am_U x m_Sp_isCell (fun ro1 so1 σ1 => ∃ z1 : Int, ro1 = some (Zi z1) ∧ so1 = am_SH ∧ am_r z1 ∧ ((¬ z1 = 0 → am_U x m_Sp_isWithin (fun ro2 so2 σ2 => ∃ z2 : Int, ro2 = some (Zi z2) ∧ so2 = am_SH ∧ am_r z2 ∧ ((¬ z2 = 0 → (0 ≤ v1 ∧ v1 < 16) ∧ am_r v2 ∧ ((¬ v2 = 0 → (0 ≤ σ2.1 2 v1.toNat ∧ σ2.1 2 v1.toNat < 8) ∧ am_U x m_Sp_at Po σ2 50 [none, none, none, none] [Zi (σ2.1 3 (σ2.1 2 v1.toNat).toNat)]) ∧ (v2 = 0 → am_U x m_Sp_at Po σ2 50 [none, none, none, none] [Zi (σ2.1 2 v1.toNat)]))) ∧ (z2 = 0 → Po (some (Zi (-3))) am_SH σ2))) σ1 0 [some (Zi v2), some (Zi 0), some (Zi 1)] []) ∧ (z1 = 0 → Po (some (Zi (-2))) am_SH σ1))) σ 0 [some (Zr 0), some (Zi v1)] []) : am_U x m_Sp_at Po σ 0 [some (Zr 0), some (Zi v1), some (Zi v2), none] [] := by
  refine V_aload_n d_Sp_at_0 rfl ?_
  refine V_iload_n d_Sp_at_1 rfl ?_
  refine U_iv1 cv_Sp_at_120 d_Sp_at_2 sh_0 rfl rfl (am_mono h ?_)
  rintro ro1 so1 σ1 ⟨z1, rfl, rfl, h⟩
  obtain ⟨h1, h⟩ := h
  obtain ⟨ht, hf⟩ := h
  refine V_if_ne 11 d_Sp_at_5 h1 (fun h8 => ?_) (fun h8 => ?_)
  · have h := ht h8
    refine V_iload_n d_Sp_at_11 rfl ?_
    refine V_iconst d_Sp_at_12 ?_
    refine V_iconst d_Sp_at_13 ?_
    refine U_is3 cv_Sp_at_82 d_Sp_at_14  rfl (am_mono h ?_)
    rintro ro2 so2 σ2 ⟨z2, rfl, rfl, h⟩
    obtain ⟨h2, h⟩ := h
    obtain ⟨ht, hf⟩ := h
    refine V_if_ne 23 d_Sp_at_17 h2 (fun h7 => ?_) (fun h7 => ?_)
    · have h := ht h7
      refine V_aload_n d_Sp_at_23 rfl ?_
      refine U_geta d_Sp_at_24 fl_Sp_22 sh_0 rfl ?_
      refine U_geta d_Sp_at_27 fl_Sp_123 sh_1 rfl ?_
      refine V_iload_n d_Sp_at_30 rfl ?_
      obtain ⟨h3, h⟩ := h
      refine U_iald d_Sp_at_31 sh_2 h3 ?_
      refine V_istore_n d_Sp_at_32 rfl ?_
      refine V_iload_n d_Sp_at_33 rfl ?_
      obtain ⟨h4, h⟩ := h
      obtain ⟨ht, hf⟩ := h
      refine V_if_ne 41 d_Sp_at_34 h4 (fun h6 => ?_) (fun h6 => ?_)
      · have h := ht h6
        refine V_aload_n d_Sp_at_41 rfl ?_
        refine U_geta d_Sp_at_42 fl_Sp_22 sh_0 rfl ?_
        refine U_geta d_Sp_at_45 fl_Sp_100 sh_1 rfl ?_
        refine V_iload_n d_Sp_at_48 rfl ?_
        obtain ⟨h5, h⟩ := h
        refine U_iald d_Sp_at_49 sh_3 h5 ?_
        refine V_drop 0 ?_
        refine V_drop 1 ?_
        refine V_drop 2 ?_
        refine V_drop 3 ?_
        exact h
      · have h := hf h6
        refine V_iload_n d_Sp_at_37 rfl ?_
        refine V_goto 50 d_Sp_at_38 ?_
        refine V_drop 0 ?_
        refine V_drop 1 ?_
        refine V_drop 2 ?_
        refine V_drop 3 ?_
        exact h
    · have h := hf h7
      refine V_bipush d_Sp_at_20 ?_
      exact V_iret d_Sp_at_22 rfl rfl h
  · have h := hf h8
    refine V_bipush d_Sp_at_8 ?_
    exact V_iret d_Sp_at_10 rfl rfl h
theorem s_Sp_at_50 {x : am_Sc} {Po : Option am_AV → am_Sh → am_St → Prop} {σ : am_St} {vk0 : Int}
    (h : Po (some (Zi vk0)) am_SH σ) : am_U x m_Sp_at Po σ 50 [none, none, none, none] [Zi vk0] := by
  exact V_iret d_Sp_at_50 rfl rfl h
theorem s_Sp_isCell_0 {x : am_Sc} {Po : Option am_AV → am_Sh → am_St → Prop} {σ : am_St} {v1 : Int}
    (h : am_U x m_Sp_isWithin (fun ro1 so1 σ1 => ∃ z1 : Int, ro1 = some (Zi z1) ∧ so1 = am_SH ∧ (z1 = 0 ∨ z1 = 1) ∧ Po (some (Zi z1)) am_SH σ1) σ 0 [some (Zi v1), some (Zi 0), some (Zi ((σ.1 1 0) - 1))] []) : am_U x m_Sp_isCell Po σ 0 [some (Zr 0), some (Zi v1)] [] := by
  refine V_iload_n d_Sp_isCell_0 rfl ?_
  refine V_iconst d_Sp_isCell_1 ?_
  refine V_aload_n d_Sp_isCell_2 rfl ?_
  refine U_geta d_Sp_isCell_3 fl_Sp_22 sh_0 rfl ?_
  refine U_geti d_Sp_isCell_6 fl_Sp_89 sh_1 ?_
  refine V_iconst d_Sp_isCell_9 ?_
  refine V_isub d_Sp_isCell_10 ?_
  refine U_is3 cv_Sp_isCell_82 d_Sp_isCell_11  rfl (am_mono h ?_)
  rintro ro1 so1 σ1 ⟨z1, rfl, rfl, h⟩
  obtain ⟨h1, h⟩ := h
  exact V_zret d_Sp_isCell_14 rfl rfl h1 h
theorem s_Sp_time_0 {x : am_Sc} {Po : Option am_AV → am_Sh → am_St → Prop} {σ : am_St} {v1 v2 v3 : Int}
    (h : am_U x m_Sp_isCell (fun ro1 so1 σ1 => ∃ z1 : Int, ro1 = some (Zi z1) ∧ so1 = am_SH ∧ am_r z1 ∧ ((z1 = 0 → am_U x m_Sp_time Po σ1 16 [none, none, none, none] []) ∧ (¬ z1 = 0 → am_U x m_Sp_isCell (fun ro2 so2 σ2 => ∃ z2 : Int, ro2 = some (Zi z2) ∧ so2 = am_SH ∧ am_r z2 ∧ ((¬ z2 = 0 → am_U x m_Sp_isKind (fun ro3 so3 σ3 => ∃ z3 : Int, ro3 = some (Zi z3) ∧ so3 = am_SH ∧ am_r z3 ∧ ((¬ z3 = 0 → am_U x m_Gr_spread (fun ro4 so4 σ4 => ro4 = none ∧ so4 = am_SH ∧ (0 ≤ v2 ∧ v2 < 16) ∧ Po (some (Zi (σ4.1 6 v2.toNat))) am_SH σ4) σ3 0 [some (Zr 1), some (Zi v1), some (Zi v3), none, none, none, none] []) ∧ (z3 = 0 → Po (some (Zi (-3))) am_SH σ3))) σ2 0 [some (Zi v3)] []) ∧ (z2 = 0 → am_U x m_Sp_time Po σ2 16 [none, none, none, none] []))) σ1 0 [some (Zr 0), some (Zi v2)] []))) σ 0 [some (Zr 0), some (Zi v1)] []) : am_U x m_Sp_time Po σ 0 [some (Zr 0), some (Zi v1), some (Zi v2), some (Zi v3)] [] := by
  refine V_aload_n d_Sp_time_0 rfl ?_
  refine V_iload_n d_Sp_time_1 rfl ?_
  refine U_iv1 cv_Sp_time_120 d_Sp_time_2 sh_0 rfl rfl (am_mono h ?_)
  rintro ro1 so1 σ1 ⟨z1, rfl, rfl, h⟩
  obtain ⟨h1, h⟩ := h
  obtain ⟨ht, hf⟩ := h
  refine V_if_eq 16 d_Sp_time_5 h1 (fun h7 => ?_) (fun h7 => ?_)
  · have h := ht h7
    refine V_drop 0 ?_
    refine V_drop 1 ?_
    refine V_drop 2 ?_
    refine V_drop 3 ?_
    exact h
  · have h := hf h7
    refine V_aload_n d_Sp_time_8 rfl ?_
    refine V_iload_n d_Sp_time_9 rfl ?_
    refine U_iv1 cv_Sp_time_120 d_Sp_time_10 sh_0 rfl rfl (am_mono h ?_)
    rintro ro2 so2 σ2 ⟨z2, rfl, rfl, h⟩
    obtain ⟨h2, h⟩ := h
    obtain ⟨ht, hf⟩ := h
    refine V_if_ne 19 d_Sp_time_13 h2 (fun h6 => ?_) (fun h6 => ?_)
    · have h := ht h6
      refine V_iload_n d_Sp_time_19 rfl ?_
      refine U_is1 cv_Sp_time_126 d_Sp_time_20  rfl (am_mono h ?_)
      rintro ro3 so3 σ3 ⟨z3, rfl, rfl, h⟩
      obtain ⟨h3, h⟩ := h
      obtain ⟨ht, hf⟩ := h
      refine V_if_ne 29 d_Sp_time_23 h3 (fun h5 => ?_) (fun h5 => ?_)
      · have h := ht h5
        refine V_aload_n d_Sp_time_29 rfl ?_
        refine U_geta d_Sp_time_30 fl_Sp_22 sh_0 rfl ?_
        refine V_iload_n d_Sp_time_33 rfl ?_
        refine V_iload_n d_Sp_time_34 rfl ?_
        refine U_iv2 cv_Sp_time_129 d_Sp_time_35 sh_1 rfl rfl (am_mono h ?_)
        rintro ro4 so4 σ4 ⟨rfl, rfl, h⟩
        refine V_aload_n d_Sp_time_38 rfl ?_
        refine U_geta d_Sp_time_39 fl_Sp_22 sh_0 rfl ?_
        refine U_geta d_Sp_time_42 fl_Sp_132 sh_1 rfl ?_
        refine V_iload_n d_Sp_time_45 rfl ?_
        obtain ⟨h4, h⟩ := h
        refine U_iald d_Sp_time_46 sh_6 h4 ?_
        exact V_iret d_Sp_time_47 rfl rfl h
      · have h := hf h5
        refine V_bipush d_Sp_time_26 ?_
        exact V_iret d_Sp_time_28 rfl rfl h
    · have h := hf h6
      refine V_drop 0 ?_
      refine V_drop 1 ?_
      refine V_drop 2 ?_
      refine V_drop 3 ?_
      exact h
theorem s_Sp_time_16 {x : am_Sc} {Po : Option am_AV → am_Sh → am_St → Prop} {σ : am_St}
    (h : Po (some (Zi (-2))) am_SH σ) : am_U x m_Sp_time Po σ 16 [none, none, none, none] [] := by
  refine V_bipush d_Sp_time_16 ?_
  exact V_iret d_Sp_time_18 rfl rfl h
theorem s_Sp_isKind_0 {x : am_Sc} {Po : Option am_AV → am_Sh → am_St → Prop} {σ : am_St} {v0 : Int}
    (h : am_U x m_Sp_isWithin (fun ro1 so1 σ1 => ∃ z1 : Int, ro1 = some (Zi z1) ∧ so1 = am_SH ∧ (z1 = 0 ∨ z1 = 1) ∧ Po (some (Zi z1)) am_SH σ1) σ 0 [some (Zi v0), some (Zi 0), some (Zi 1)] []) : am_U x m_Sp_isKind Po σ 0 [some (Zi v0)] [] := by
  refine V_iload_n d_Sp_isKind_0 rfl ?_
  refine V_iconst d_Sp_isKind_1 ?_
  refine V_iconst d_Sp_isKind_2 ?_
  refine U_is3 cv_Sp_isKind_82 d_Sp_isKind_3  rfl (am_mono h ?_)
  rintro ro1 so1 σ1 ⟨z1, rfl, rfl, h⟩
  obtain ⟨h1, h⟩ := h
  exact V_zret d_Sp_isKind_6 rfl rfl h1 h
theorem s_Sp_way_0 {x : am_Sc} {Po : Option am_AV → am_Sh → am_St → Prop} {σ : am_St} {v1 v2 v3 v4 : Int}
    (h : am_U x m_Sp_isCell (fun ro1 so1 σ1 => ∃ z1 : Int, ro1 = some (Zi z1) ∧ so1 = am_SH ∧ am_r z1 ∧ ((z1 = 0 → am_U x m_Sp_way Po σ1 16 [none, none, none, none, none] []) ∧ (¬ z1 = 0 → am_U x m_Sp_isCell (fun ro2 so2 σ2 => ∃ z2 : Int, ro2 = some (Zi z2) ∧ so2 = am_SH ∧ am_r z2 ∧ ((¬ z2 = 0 → am_U x m_Sp_isKind (fun ro3 so3 σ3 => ∃ z3 : Int, ro3 = some (Zi z3) ∧ so3 = am_SH ∧ am_r z3 ∧ ((z3 = 0 → am_U x m_Sp_way Po σ3 31 [none, none, none, none, none] []) ∧ (¬ z3 = 0 → am_r v4 ∧ ((0 ≤ v4 → am_U x m_Gr_spread (fun ro4 so4 σ4 => ro4 = none ∧ so4 = am_SH ∧ am_U x m_Gr_trace (fun ro5 so5 σ5 => ro5 = none ∧ so5 = am_SH ∧ am_r (σ5.1 1 8) ∧ (((σ5.1 1 8) ≤ v4 → am_U x m_Sp_way Po σ5 77 [none, none, none, none, none] [Zi (-1)]) ∧ (¬ (σ5.1 1 8) ≤ v4 → (0 ≤ v4 ∧ v4 < 16) ∧ am_U x m_Sp_way Po σ5 77 [none, none, none, none, none] [Zi (σ5.1 7 v4.toNat)]))) σ4 0 [some (Zr 1), some (Zi v1), none] []) σ3 0 [some (Zr 1), some (Zi v2), some (Zi v3), none, none, none, none] []) ∧ (¬ 0 ≤ v4 → am_U x m_Sp_way Po σ3 31 [none, none, none, none, none] []))))) σ2 0 [some (Zi v3)] []) ∧ (z2 = 0 → am_U x m_Sp_way Po σ2 16 [none, none, none, none, none] []))) σ1 0 [some (Zr 0), some (Zi v2)] []))) σ 0 [some (Zr 0), some (Zi v1)] []) : am_U x m_Sp_way Po σ 0 [some (Zr 0), some (Zi v1), some (Zi v2), some (Zi v3), some (Zi v4)] [] := by
  refine V_aload_n d_Sp_way_0 rfl ?_
  refine V_iload_n d_Sp_way_1 rfl ?_
  refine U_iv1 cv_Sp_way_120 d_Sp_way_2 sh_0 rfl rfl (am_mono h ?_)
  rintro ro1 so1 σ1 ⟨z1, rfl, rfl, h⟩
  obtain ⟨h1, h⟩ := h
  obtain ⟨ht, hf⟩ := h
  refine V_if_eq 16 d_Sp_way_5 h1 (fun h11 => ?_) (fun h11 => ?_)
  · have h := ht h11
    refine V_drop 0 ?_
    refine V_drop 1 ?_
    refine V_drop 2 ?_
    refine V_drop 3 ?_
    refine V_drop 4 ?_
    exact h
  · have h := hf h11
    refine V_aload_n d_Sp_way_8 rfl ?_
    refine V_iload_n d_Sp_way_9 rfl ?_
    refine U_iv1 cv_Sp_way_120 d_Sp_way_10 sh_0 rfl rfl (am_mono h ?_)
    rintro ro2 so2 σ2 ⟨z2, rfl, rfl, h⟩
    obtain ⟨h2, h⟩ := h
    obtain ⟨ht, hf⟩ := h
    refine V_if_ne 19 d_Sp_way_13 h2 (fun h10 => ?_) (fun h10 => ?_)
    · have h := ht h10
      refine V_iload_n d_Sp_way_19 rfl ?_
      refine U_is1 cv_Sp_way_126 d_Sp_way_20  rfl (am_mono h ?_)
      rintro ro3 so3 σ3 ⟨z3, rfl, rfl, h⟩
      obtain ⟨h3, h⟩ := h
      obtain ⟨ht, hf⟩ := h
      refine V_if_eq 31 d_Sp_way_23 h3 (fun h9 => ?_) (fun h9 => ?_)
      · have h := ht h9
        refine V_drop 0 ?_
        refine V_drop 1 ?_
        refine V_drop 2 ?_
        refine V_drop 3 ?_
        refine V_drop 4 ?_
        exact h
      · have h := hf h9
        refine V_iload d_Sp_way_26 rfl ?_
        obtain ⟨h4, h⟩ := h
        obtain ⟨ht, hf⟩ := h
        refine V_if_ge 34 d_Sp_way_28 h4 (fun h8 => ?_) (fun h8 => ?_)
        · have h := ht h8
          refine V_aload_n d_Sp_way_34 rfl ?_
          refine U_geta d_Sp_way_35 fl_Sp_22 sh_0 rfl ?_
          refine V_iload_n d_Sp_way_38 rfl ?_
          refine V_iload_n d_Sp_way_39 rfl ?_
          refine U_iv2 cv_Sp_way_129 d_Sp_way_40 sh_1 rfl rfl (am_mono h ?_)
          rintro ro4 so4 σ4 ⟨rfl, rfl, h⟩
          refine V_aload_n d_Sp_way_43 rfl ?_
          refine U_geta d_Sp_way_44 fl_Sp_22 sh_0 rfl ?_
          refine V_iload_n d_Sp_way_47 rfl ?_
          refine U_iv1 cv_Sp_way_135 d_Sp_way_48 sh_1 rfl rfl (am_mono h ?_)
          rintro ro5 so5 σ5 ⟨rfl, rfl, h⟩
          refine V_iload d_Sp_way_51 rfl ?_
          refine V_aload_n d_Sp_way_53 rfl ?_
          refine U_geta d_Sp_way_54 fl_Sp_22 sh_0 rfl ?_
          refine U_geti d_Sp_way_57 fl_Sp_139 sh_1 ?_
          obtain ⟨h5, h⟩ := h
          obtain ⟨ht, hf⟩ := h
          refine V_icmp_ge 76 d_Sp_way_60 h4 h5 (fun h7 => ?_) (fun h7 => ?_)
          · have h := ht h7
            refine V_iconst d_Sp_way_76 ?_
            refine V_drop 0 ?_
            refine V_drop 1 ?_
            refine V_drop 2 ?_
            refine V_drop 3 ?_
            refine V_drop 4 ?_
            exact h
          · have h := hf h7
            refine V_aload_n d_Sp_way_63 rfl ?_
            refine U_geta d_Sp_way_64 fl_Sp_22 sh_0 rfl ?_
            refine U_geta d_Sp_way_67 fl_Sp_142 sh_1 rfl ?_
            refine V_iload d_Sp_way_70 rfl ?_
            obtain ⟨h6, h⟩ := h
            refine U_iald d_Sp_way_72 sh_7 h6 ?_
            refine V_goto 77 d_Sp_way_73 ?_
            refine V_drop 0 ?_
            refine V_drop 1 ?_
            refine V_drop 2 ?_
            refine V_drop 3 ?_
            refine V_drop 4 ?_
            exact h
        · have h := hf h8
          refine V_drop 0 ?_
          refine V_drop 1 ?_
          refine V_drop 2 ?_
          refine V_drop 3 ?_
          refine V_drop 4 ?_
          exact h
    · have h := hf h10
      refine V_drop 0 ?_
      refine V_drop 1 ?_
      refine V_drop 2 ?_
      refine V_drop 3 ?_
      refine V_drop 4 ?_
      exact h
theorem s_Sp_way_16 {x : am_Sc} {Po : Option am_AV → am_Sh → am_St → Prop} {σ : am_St}
    (h : Po (some (Zi (-2))) am_SH σ) : am_U x m_Sp_way Po σ 16 [none, none, none, none, none] [] := by
  refine V_bipush d_Sp_way_16 ?_
  exact V_iret d_Sp_way_18 rfl rfl h
theorem s_Sp_way_31 {x : am_Sc} {Po : Option am_AV → am_Sh → am_St → Prop} {σ : am_St}
    (h : Po (some (Zi (-3))) am_SH σ) : am_U x m_Sp_way Po σ 31 [none, none, none, none, none] [] := by
  refine V_bipush d_Sp_way_31 ?_
  exact V_iret d_Sp_way_33 rfl rfl h
theorem s_Sp_way_77 {x : am_Sc} {Po : Option am_AV → am_Sh → am_St → Prop} {σ : am_St} {vk0 : Int}
    (h : Po (some (Zi vk0)) am_SH σ) : am_U x m_Sp_way Po σ 77 [none, none, none, none, none] [Zi vk0] := by
  exact V_iret d_Sp_way_77 rfl rfl h
theorem s_Sp_ear_0 {x : am_Sc} {Po : Option am_AV → am_Sh → am_St → Prop} {σ : am_St} {v1 : Int}
    (h : am_U x m_Sp_isCell (fun ro1 so1 σ1 => ∃ z1 : Int, ro1 = some (Zi z1) ∧ so1 = am_SH ∧ am_r z1 ∧ ((¬ z1 = 0 → am_r (σ1.1 8 0) ∧ (((σ1.1 8 0) < 6 → am_U x m_Bo_addEar (fun ro2 so2 σ2 => ∃ z2 : Int, ro2 = some (Zi z2) ∧ so2 = am_SH ∧ Po (some (Zi z2)) am_SH σ2) σ1 0 [some (Zr 8), some (Zi v1)] []) ∧ (¬ (σ1.1 8 0) < 6 → Po (some (Zi (-5))) am_SH σ1))) ∧ (z1 = 0 → Po (some (Zi (-2))) am_SH σ1))) σ 0 [some (Zr 0), some (Zi v1)] []) : am_U x m_Sp_ear Po σ 0 [some (Zr 0), some (Zi v1)] [] := by
  refine V_aload_n d_Sp_ear_0 rfl ?_
  refine V_iload_n d_Sp_ear_1 rfl ?_
  refine U_iv1 cv_Sp_ear_120 d_Sp_ear_2 sh_0 rfl rfl (am_mono h ?_)
  rintro ro1 so1 σ1 ⟨z1, rfl, rfl, h⟩
  obtain ⟨h1, h⟩ := h
  obtain ⟨ht, hf⟩ := h
  refine V_if_ne 11 d_Sp_ear_5 h1 (fun h4 => ?_) (fun h4 => ?_)
  · have h := ht h4
    refine V_aload_n d_Sp_ear_11 rfl ?_
    refine U_geta d_Sp_ear_12 fl_Sp_28 sh_0 rfl ?_
    refine U_geti d_Sp_ear_15 fl_Sp_145 sh_8 ?_
    refine V_bipush d_Sp_ear_18 ?_
    obtain ⟨h2, h⟩ := h
    obtain ⟨ht, hf⟩ := h
    refine V_icmp_lt 26 d_Sp_ear_20 h2 (by decide) (fun h3 => ?_) (fun h3 => ?_)
    · have h := ht h3
      refine V_aload_n d_Sp_ear_26 rfl ?_
      refine U_geta d_Sp_ear_27 fl_Sp_28 sh_0 rfl ?_
      refine V_iload_n d_Sp_ear_30 rfl ?_
      refine U_iv1 cv_Sp_ear_148 d_Sp_ear_31 sh_8 rfl rfl (am_mono h ?_)
      rintro ro2 so2 σ2 ⟨z2, rfl, rfl, h⟩
      exact V_iret d_Sp_ear_34 rfl rfl h
    · have h := hf h3
      refine V_bipush d_Sp_ear_23 ?_
      exact V_iret d_Sp_ear_25 rfl rfl h
  · have h := hf h4
    refine V_bipush d_Sp_ear_8 ?_
    exact V_iret d_Sp_ear_10 rfl rfl h
theorem s_Sp_clock_0 {x : am_Sc} {Po : Option am_AV → am_Sh → am_St → Prop} {σ : am_St} {v1 v2 : Int}
    (h : am_U x m_Sp_isEar (fun ro1 so1 σ1 => ∃ z1 : Int, ro1 = some (Zi z1) ∧ so1 = am_SH ∧ am_r z1 ∧ ((¬ z1 = 0 → am_U x m_Sp_isWithin (fun ro2 so2 σ2 => ∃ z2 : Int, ro2 = some (Zi z2) ∧ so2 = am_SH ∧ am_r z2 ∧ ((¬ z2 = 0 → (0 ≤ v1 ∧ v1 < 6) ∧ (∀ σ3 : am_St, σ3 = (am_up σ2.1 10 v1.toNat v2, σ2.2) → Po (some (Zi 1)) am_SH σ3)) ∧ (z2 = 0 → Po (some (Zi (-3))) am_SH σ2))) σ1 0 [some (Zi v2), some (Zi (-99)), some (Zi 99)] []) ∧ (z1 = 0 → Po (some (Zi (-2))) am_SH σ1))) σ 0 [some (Zr 0), some (Zi v1)] []) : am_U x m_Sp_clock Po σ 0 [some (Zr 0), some (Zi v1), some (Zi v2)] [] := by
  refine V_aload_n d_Sp_clock_0 rfl ?_
  refine V_iload_n d_Sp_clock_1 rfl ?_
  refine U_iv1 cv_Sp_clock_151 d_Sp_clock_2 sh_0 rfl rfl (am_mono h ?_)
  rintro ro1 so1 σ1 ⟨z1, rfl, rfl, h⟩
  obtain ⟨h1, h⟩ := h
  obtain ⟨ht, hf⟩ := h
  refine V_if_ne 11 d_Sp_clock_5 h1 (fun h5 => ?_) (fun h5 => ?_)
  · have h := ht h5
    refine V_iload_n d_Sp_clock_11 rfl ?_
    refine V_bipush d_Sp_clock_12 ?_
    refine V_bipush d_Sp_clock_14 ?_
    refine U_is3 cv_Sp_clock_82 d_Sp_clock_16  rfl (am_mono h ?_)
    rintro ro2 so2 σ2 ⟨z2, rfl, rfl, h⟩
    obtain ⟨h2, h⟩ := h
    obtain ⟨ht, hf⟩ := h
    refine V_if_ne 25 d_Sp_clock_19 h2 (fun h4 => ?_) (fun h4 => ?_)
    · have h := ht h4
      refine V_aload_n d_Sp_clock_25 rfl ?_
      refine U_geta d_Sp_clock_26 fl_Sp_28 sh_0 rfl ?_
      refine U_geta d_Sp_clock_29 fl_Sp_154 sh_8 rfl ?_
      refine V_iload_n d_Sp_clock_32 rfl ?_
      refine V_iload_n d_Sp_clock_33 rfl ?_
      obtain ⟨h3, h⟩ := h
      refine U_iast d_Sp_clock_34 sh_10 h3 ?_
      have h := h _ rfl
      refine V_iconst d_Sp_clock_35 ?_
      exact V_iret d_Sp_clock_36 rfl rfl h
    · have h := hf h4
      refine V_bipush d_Sp_clock_22 ?_
      exact V_iret d_Sp_clock_24 rfl rfl h
  · have h := hf h5
    refine V_bipush d_Sp_clock_8 ?_
    exact V_iret d_Sp_clock_10 rfl rfl h
theorem s_Sp_isEar_0 {x : am_Sc} {Po : Option am_AV → am_Sh → am_St → Prop} {σ : am_St} {v1 : Int}
    (h : am_U x m_Sp_isWithin (fun ro1 so1 σ1 => ∃ z1 : Int, ro1 = some (Zi z1) ∧ so1 = am_SH ∧ (z1 = 0 ∨ z1 = 1) ∧ Po (some (Zi z1)) am_SH σ1) σ 0 [some (Zi v1), some (Zi 0), some (Zi ((σ.1 8 0) - 1))] []) : am_U x m_Sp_isEar Po σ 0 [some (Zr 0), some (Zi v1)] [] := by
  refine V_iload_n d_Sp_isEar_0 rfl ?_
  refine V_iconst d_Sp_isEar_1 ?_
  refine V_aload_n d_Sp_isEar_2 rfl ?_
  refine U_geta d_Sp_isEar_3 fl_Sp_28 sh_0 rfl ?_
  refine U_geti d_Sp_isEar_6 fl_Sp_145 sh_8 ?_
  refine V_iconst d_Sp_isEar_9 ?_
  refine V_isub d_Sp_isEar_10 ?_
  refine U_is3 cv_Sp_isEar_82 d_Sp_isEar_11  rfl (am_mono h ?_)
  rintro ro1 so1 σ1 ⟨z1, rfl, rfl, h⟩
  obtain ⟨h1, h⟩ := h
  exact V_zret d_Sp_isEar_14 rfl rfl h1 h
theorem s_Sp_shake_0 {x : am_Sc} {Po : Option am_AV → am_Sh → am_St → Prop} {σ : am_St} {v1 v2 : Int}
    (h : am_U x m_Sp_isCell (fun ro1 so1 σ1 => ∃ z1 : Int, ro1 = some (Zi z1) ∧ so1 = am_SH ∧ am_r z1 ∧ ((¬ z1 = 0 → am_U x m_Sp_isWithin (fun ro2 so2 σ2 => ∃ z2 : Int, ro2 = some (Zi z2) ∧ so2 = am_SH ∧ am_r z2 ∧ ((¬ z2 = 0 → am_r (σ2.1 8 3) ∧ (((σ2.1 8 3) < 5 → am_U x m_Bo_addShake (fun ro3 so3 σ3 => ∃ z3 : Int, ro3 = some (Zi z3) ∧ so3 = am_SH ∧ Po (some (Zi z3)) am_SH σ3) σ2 0 [some (Zr 8), some (Zi v1), some (Zi v2)] []) ∧ (¬ (σ2.1 8 3) < 5 → Po (some (Zi (-5))) am_SH σ2))) ∧ (z2 = 0 → Po (some (Zi (-3))) am_SH σ2))) σ1 0 [some (Zi v2), some (Zi 0), some (Zi 1000)] []) ∧ (z1 = 0 → Po (some (Zi (-2))) am_SH σ1))) σ 0 [some (Zr 0), some (Zi v1)] []) : am_U x m_Sp_shake Po σ 0 [some (Zr 0), some (Zi v1), some (Zi v2)] [] := by
  refine V_aload_n d_Sp_shake_0 rfl ?_
  refine V_iload_n d_Sp_shake_1 rfl ?_
  refine U_iv1 cv_Sp_shake_120 d_Sp_shake_2 sh_0 rfl rfl (am_mono h ?_)
  rintro ro1 so1 σ1 ⟨z1, rfl, rfl, h⟩
  obtain ⟨h1, h⟩ := h
  obtain ⟨ht, hf⟩ := h
  refine V_if_ne 11 d_Sp_shake_5 h1 (fun h6 => ?_) (fun h6 => ?_)
  · have h := ht h6
    refine V_iload_n d_Sp_shake_11 rfl ?_
    refine V_iconst d_Sp_shake_12 ?_
    refine V_sipush d_Sp_shake_13 ?_
    refine U_is3 cv_Sp_shake_82 d_Sp_shake_16  rfl (am_mono h ?_)
    rintro ro2 so2 σ2 ⟨z2, rfl, rfl, h⟩
    obtain ⟨h2, h⟩ := h
    obtain ⟨ht, hf⟩ := h
    refine V_if_ne 25 d_Sp_shake_19 h2 (fun h5 => ?_) (fun h5 => ?_)
    · have h := ht h5
      refine V_aload_n d_Sp_shake_25 rfl ?_
      refine U_geta d_Sp_shake_26 fl_Sp_28 sh_0 rfl ?_
      refine U_geti d_Sp_shake_29 fl_Sp_157 sh_8 ?_
      refine V_iconst d_Sp_shake_32 ?_
      obtain ⟨h3, h⟩ := h
      obtain ⟨ht, hf⟩ := h
      refine V_icmp_lt 39 d_Sp_shake_33 h3 (by decide) (fun h4 => ?_) (fun h4 => ?_)
      · have h := ht h4
        refine V_aload_n d_Sp_shake_39 rfl ?_
        refine U_geta d_Sp_shake_40 fl_Sp_28 sh_0 rfl ?_
        refine V_iload_n d_Sp_shake_43 rfl ?_
        refine V_iload_n d_Sp_shake_44 rfl ?_
        refine U_iv2 cv_Sp_shake_160 d_Sp_shake_45 sh_8 rfl rfl (am_mono h ?_)
        rintro ro3 so3 σ3 ⟨z3, rfl, rfl, h⟩
        exact V_iret d_Sp_shake_48 rfl rfl h
      · have h := hf h4
        refine V_bipush d_Sp_shake_36 ?_
        exact V_iret d_Sp_shake_38 rfl rfl h
    · have h := hf h5
      refine V_bipush d_Sp_shake_22 ?_
      exact V_iret d_Sp_shake_24 rfl rfl h
  · have h := hf h6
    refine V_bipush d_Sp_shake_8 ?_
    exact V_iret d_Sp_shake_10 rfl rfl h
theorem s_Sp_put_0 {x : am_Sc} {Po : Option am_AV → am_Sh → am_St → Prop} {σ : am_St} {v1 v2 v3 : Int}
    (h : am_U x m_Sp_isShake (fun ro1 so1 σ1 => ∃ z1 : Int, ro1 = some (Zi z1) ∧ so1 = am_SH ∧ am_r z1 ∧ ((z1 = 0 → am_U x m_Sp_put Po σ1 16 [none, none, none, none] []) ∧ (¬ z1 = 0 → am_U x m_Sp_isCell (fun ro2 so2 σ2 => ∃ z2 : Int, ro2 = some (Zi z2) ∧ so2 = am_SH ∧ am_r z2 ∧ ((¬ z2 = 0 → am_U x m_Sp_isWithin (fun ro3 so3 σ3 => ∃ z3 : Int, ro3 = some (Zi z3) ∧ so3 = am_SH ∧ am_r z3 ∧ ((¬ z3 = 0 → am_U x m_Bo_placeShake (fun ro4 so4 σ4 => ro4 = none ∧ so4 = am_SH ∧ Po (some (Zi 1)) am_SH σ4) σ3 0 [some (Zr 8), some (Zi v1), some (Zi v2), some (Zi v3)] []) ∧ (z3 = 0 → Po (some (Zi (-3))) am_SH σ3))) σ2 0 [some (Zi v3), some (Zi 0), some (Zi 1000)] []) ∧ (z2 = 0 → am_U x m_Sp_put Po σ2 16 [none, none, none, none] []))) σ1 0 [some (Zr 0), some (Zi v2)] []))) σ 0 [some (Zr 0), some (Zi v1)] []) : am_U x m_Sp_put Po σ 0 [some (Zr 0), some (Zi v1), some (Zi v2), some (Zi v3)] [] := by
  refine V_aload_n d_Sp_put_0 rfl ?_
  refine V_iload_n d_Sp_put_1 rfl ?_
  refine U_iv1 cv_Sp_put_163 d_Sp_put_2 sh_0 rfl rfl (am_mono h ?_)
  rintro ro1 so1 σ1 ⟨z1, rfl, rfl, h⟩
  obtain ⟨h1, h⟩ := h
  obtain ⟨ht, hf⟩ := h
  refine V_if_eq 16 d_Sp_put_5 h1 (fun h6 => ?_) (fun h6 => ?_)
  · have h := ht h6
    refine V_drop 0 ?_
    refine V_drop 1 ?_
    refine V_drop 2 ?_
    refine V_drop 3 ?_
    exact h
  · have h := hf h6
    refine V_aload_n d_Sp_put_8 rfl ?_
    refine V_iload_n d_Sp_put_9 rfl ?_
    refine U_iv1 cv_Sp_put_120 d_Sp_put_10 sh_0 rfl rfl (am_mono h ?_)
    rintro ro2 so2 σ2 ⟨z2, rfl, rfl, h⟩
    obtain ⟨h2, h⟩ := h
    obtain ⟨ht, hf⟩ := h
    refine V_if_ne 19 d_Sp_put_13 h2 (fun h5 => ?_) (fun h5 => ?_)
    · have h := ht h5
      refine V_iload_n d_Sp_put_19 rfl ?_
      refine V_iconst d_Sp_put_20 ?_
      refine V_sipush d_Sp_put_21 ?_
      refine U_is3 cv_Sp_put_82 d_Sp_put_24  rfl (am_mono h ?_)
      rintro ro3 so3 σ3 ⟨z3, rfl, rfl, h⟩
      obtain ⟨h3, h⟩ := h
      obtain ⟨ht, hf⟩ := h
      refine V_if_ne 33 d_Sp_put_27 h3 (fun h4 => ?_) (fun h4 => ?_)
      · have h := ht h4
        refine V_aload_n d_Sp_put_33 rfl ?_
        refine U_geta d_Sp_put_34 fl_Sp_28 sh_0 rfl ?_
        refine V_iload_n d_Sp_put_37 rfl ?_
        refine V_iload_n d_Sp_put_38 rfl ?_
        refine V_iload_n d_Sp_put_39 rfl ?_
        refine U_iv3 cv_Sp_put_166 d_Sp_put_40 sh_8 rfl rfl (am_mono h ?_)
        rintro ro4 so4 σ4 ⟨rfl, rfl, h⟩
        refine V_iconst d_Sp_put_43 ?_
        exact V_iret d_Sp_put_44 rfl rfl h
      · have h := hf h4
        refine V_bipush d_Sp_put_30 ?_
        exact V_iret d_Sp_put_32 rfl rfl h
    · have h := hf h5
      refine V_drop 0 ?_
      refine V_drop 1 ?_
      refine V_drop 2 ?_
      refine V_drop 3 ?_
      exact h
theorem s_Sp_put_16 {x : am_Sc} {Po : Option am_AV → am_Sh → am_St → Prop} {σ : am_St}
    (h : Po (some (Zi (-2))) am_SH σ) : am_U x m_Sp_put Po σ 16 [none, none, none, none] [] := by
  refine V_bipush d_Sp_put_16 ?_
  exact V_iret d_Sp_put_18 rfl rfl h
theorem s_Sp_isShake_0 {x : am_Sc} {Po : Option am_AV → am_Sh → am_St → Prop} {σ : am_St} {v1 : Int}
    (h : am_U x m_Sp_isWithin (fun ro1 so1 σ1 => ∃ z1 : Int, ro1 = some (Zi z1) ∧ so1 = am_SH ∧ (z1 = 0 ∨ z1 = 1) ∧ Po (some (Zi z1)) am_SH σ1) σ 0 [some (Zi v1), some (Zi 0), some (Zi ((σ.1 8 3) - 1))] []) : am_U x m_Sp_isShake Po σ 0 [some (Zr 0), some (Zi v1)] [] := by
  refine V_iload_n d_Sp_isShake_0 rfl ?_
  refine V_iconst d_Sp_isShake_1 ?_
  refine V_aload_n d_Sp_isShake_2 rfl ?_
  refine U_geta d_Sp_isShake_3 fl_Sp_28 sh_0 rfl ?_
  refine U_geti d_Sp_isShake_6 fl_Sp_157 sh_8 ?_
  refine V_iconst d_Sp_isShake_9 ?_
  refine V_isub d_Sp_isShake_10 ?_
  refine U_is3 cv_Sp_isShake_82 d_Sp_isShake_11  rfl (am_mono h ?_)
  rintro ro1 so1 σ1 ⟨z1, rfl, rfl, h⟩
  obtain ⟨h1, h⟩ := h
  exact V_zret d_Sp_isShake_14 rfl rfl h1 h
theorem s_Sp_pick_0 {x : am_Sc} {Po : Option am_AV → am_Sh → am_St → Prop} {σ : am_St} {v1 v2 v3 v4 v5 : Int}
    (h : am_U x m_Sp_isEar (fun ro1 so1 σ1 => ∃ z1 : Int, ro1 = some (Zi z1) ∧ so1 = am_SH ∧ am_r z1 ∧ ((z1 = 0 → am_U x m_Sp_pick Po σ1 16 [none, none, none, none, none, none, none] []) ∧ (¬ z1 = 0 → am_U x m_Sp_isShake (fun ro2 so2 σ2 => ∃ z2 : Int, ro2 = some (Zi z2) ∧ so2 = am_SH ∧ am_r z2 ∧ ((¬ z2 = 0 → am_U x m_Sp_isKind (fun ro3 so3 σ3 => ∃ z3 : Int, ro3 = some (Zi z3) ∧ so3 = am_SH ∧ am_r z3 ∧ ((z3 = 0 → am_U x m_Sp_pick Po σ3 36 [none, none, none, none, none, none, none] []) ∧ (¬ z3 = 0 → am_U x m_Sp_isSpan (fun ro4 so4 σ4 => ∃ z4 : Int, ro4 = some (Zi z4) ∧ so4 = am_SH ∧ am_r z4 ∧ ((¬ z4 = 0 → am_r (σ4.1 8 6) ∧ ((12 ≤ (σ4.1 8 6) → am_U x m_Sp_pick Po σ4 63 [none, none, none, none, none, none, none] []) ∧ (¬ 12 ≤ (σ4.1 8 6) → am_r (σ4.1 8 10) ∧ (((σ4.1 8 10) < 40 → am_U x m_Bo_addPick (fun ro5 so5 σ5 => ∃ z5 : Int, ro5 = some (Zi z5) ∧ so5 = am_SH ∧ am_U x m_Bo_addTelling (fun ro6 so6 σ6 => ro6 = none ∧ so6 = am_SH ∧ Po (some (Zi z5)) am_SH σ6) σ5 0 [some (Zr 8), some (Zi z5), some (Zi v4), some (Zi v5)] []) σ4 0 [some (Zr 8), some (Zi v1), some (Zi v2), some (Zi v3)] []) ∧ (¬ (σ4.1 8 10) < 40 → am_U x m_Sp_pick Po σ4 63 [none, none, none, none, none, none, none] []))))) ∧ (z4 = 0 → am_U x m_Sp_pick Po σ4 36 [none, none, none, none, none, none, none] []))) σ3 0 [some (Zi v4), some (Zi v5)] []))) σ2 0 [some (Zi v3)] []) ∧ (z2 = 0 → am_U x m_Sp_pick Po σ2 16 [none, none, none, none, none, none, none] []))) σ1 0 [some (Zr 0), some (Zi v2)] []))) σ 0 [some (Zr 0), some (Zi v1)] []) : am_U x m_Sp_pick Po σ 0 [some (Zr 0), some (Zi v1), some (Zi v2), some (Zi v3), some (Zi v4), some (Zi v5), none] [] := by
  refine V_aload_n d_Sp_pick_0 rfl ?_
  refine V_iload_n d_Sp_pick_1 rfl ?_
  refine U_iv1 cv_Sp_pick_151 d_Sp_pick_2 sh_0 rfl rfl (am_mono h ?_)
  rintro ro1 so1 σ1 ⟨z1, rfl, rfl, h⟩
  obtain ⟨h1, h⟩ := h
  obtain ⟨ht, hf⟩ := h
  refine V_if_eq 16 d_Sp_pick_5 h1 (fun h12 => ?_) (fun h12 => ?_)
  · have h := ht h12
    refine V_drop 0 ?_
    refine V_drop 1 ?_
    refine V_drop 2 ?_
    refine V_drop 3 ?_
    refine V_drop 4 ?_
    refine V_drop 5 ?_
    exact h
  · have h := hf h12
    refine V_aload_n d_Sp_pick_8 rfl ?_
    refine V_iload_n d_Sp_pick_9 rfl ?_
    refine U_iv1 cv_Sp_pick_163 d_Sp_pick_10 sh_0 rfl rfl (am_mono h ?_)
    rintro ro2 so2 σ2 ⟨z2, rfl, rfl, h⟩
    obtain ⟨h2, h⟩ := h
    obtain ⟨ht, hf⟩ := h
    refine V_if_ne 19 d_Sp_pick_13 h2 (fun h11 => ?_) (fun h11 => ?_)
    · have h := ht h11
      refine V_iload_n d_Sp_pick_19 rfl ?_
      refine U_is1 cv_Sp_pick_126 d_Sp_pick_20  rfl (am_mono h ?_)
      rintro ro3 so3 σ3 ⟨z3, rfl, rfl, h⟩
      obtain ⟨h3, h⟩ := h
      obtain ⟨ht, hf⟩ := h
      refine V_if_eq 36 d_Sp_pick_23 h3 (fun h10 => ?_) (fun h10 => ?_)
      · have h := ht h10
        refine V_drop 0 ?_
        refine V_drop 1 ?_
        refine V_drop 2 ?_
        refine V_drop 3 ?_
        refine V_drop 4 ?_
        refine V_drop 5 ?_
        exact h
      · have h := hf h10
        refine V_iload d_Sp_pick_26 rfl ?_
        refine V_iload d_Sp_pick_28 rfl ?_
        refine U_is2 cv_Sp_pick_169 d_Sp_pick_30  rfl (am_mono h ?_)
        rintro ro4 so4 σ4 ⟨z4, rfl, rfl, h⟩
        obtain ⟨h4, h⟩ := h
        obtain ⟨ht, hf⟩ := h
        refine V_if_ne 39 d_Sp_pick_33 h4 (fun h9 => ?_) (fun h9 => ?_)
        · have h := ht h9
          refine V_aload_n d_Sp_pick_39 rfl ?_
          refine U_geta d_Sp_pick_40 fl_Sp_28 sh_0 rfl ?_
          refine U_geti d_Sp_pick_43 fl_Sp_173 sh_8 ?_
          refine V_bipush d_Sp_pick_46 ?_
          obtain ⟨h5, h⟩ := h
          obtain ⟨ht, hf⟩ := h
          refine V_icmp_ge 63 d_Sp_pick_48 h5 (by decide) (fun h8 => ?_) (fun h8 => ?_)
          · have h := ht h8
            refine V_drop 0 ?_
            refine V_drop 1 ?_
            refine V_drop 2 ?_
            refine V_drop 3 ?_
            refine V_drop 4 ?_
            refine V_drop 5 ?_
            exact h
          · have h := hf h8
            refine V_aload_n d_Sp_pick_51 rfl ?_
            refine U_geta d_Sp_pick_52 fl_Sp_28 sh_0 rfl ?_
            refine U_geti d_Sp_pick_55 fl_Sp_176 sh_8 ?_
            refine V_bipush d_Sp_pick_58 ?_
            obtain ⟨h6, h⟩ := h
            obtain ⟨ht, hf⟩ := h
            refine V_icmp_lt 66 d_Sp_pick_60 h6 (by decide) (fun h7 => ?_) (fun h7 => ?_)
            · have h := ht h7
              refine V_aload_n d_Sp_pick_66 rfl ?_
              refine U_geta d_Sp_pick_67 fl_Sp_28 sh_0 rfl ?_
              refine V_iload_n d_Sp_pick_70 rfl ?_
              refine V_iload_n d_Sp_pick_71 rfl ?_
              refine V_iload_n d_Sp_pick_72 rfl ?_
              refine U_iv3 cv_Sp_pick_179 d_Sp_pick_73 sh_8 rfl rfl (am_mono h ?_)
              rintro ro5 so5 σ5 ⟨z5, rfl, rfl, h⟩
              refine V_istore d_Sp_pick_76 rfl ?_
              refine V_aload_n d_Sp_pick_78 rfl ?_
              refine U_geta d_Sp_pick_79 fl_Sp_28 sh_0 rfl ?_
              refine V_iload d_Sp_pick_82 rfl ?_
              refine V_iload d_Sp_pick_84 rfl ?_
              refine V_iload d_Sp_pick_86 rfl ?_
              refine U_iv3 cv_Sp_pick_183 d_Sp_pick_88 sh_8 rfl rfl (am_mono h ?_)
              rintro ro6 so6 σ6 ⟨rfl, rfl, h⟩
              refine V_iload d_Sp_pick_91 rfl ?_
              exact V_iret d_Sp_pick_93 rfl rfl h
            · have h := hf h7
              refine V_drop 0 ?_
              refine V_drop 1 ?_
              refine V_drop 2 ?_
              refine V_drop 3 ?_
              refine V_drop 4 ?_
              refine V_drop 5 ?_
              exact h
        · have h := hf h9
          refine V_drop 0 ?_
          refine V_drop 1 ?_
          refine V_drop 2 ?_
          refine V_drop 3 ?_
          refine V_drop 4 ?_
          refine V_drop 5 ?_
          exact h
    · have h := hf h11
      refine V_drop 0 ?_
      refine V_drop 1 ?_
      refine V_drop 2 ?_
      refine V_drop 3 ?_
      refine V_drop 4 ?_
      refine V_drop 5 ?_
      exact h
theorem s_Sp_pick_16 {x : am_Sc} {Po : Option am_AV → am_Sh → am_St → Prop} {σ : am_St}
    (h : Po (some (Zi (-2))) am_SH σ) : am_U x m_Sp_pick Po σ 16 [none, none, none, none, none, none, none] [] := by
  refine V_bipush d_Sp_pick_16 ?_
  exact V_iret d_Sp_pick_18 rfl rfl h
theorem s_Sp_pick_36 {x : am_Sc} {Po : Option am_AV → am_Sh → am_St → Prop} {σ : am_St}
    (h : Po (some (Zi (-3))) am_SH σ) : am_U x m_Sp_pick Po σ 36 [none, none, none, none, none, none, none] [] := by
  refine V_bipush d_Sp_pick_36 ?_
  exact V_iret d_Sp_pick_38 rfl rfl h
theorem s_Sp_pick_63 {x : am_Sc} {Po : Option am_AV → am_Sh → am_St → Prop} {σ : am_St}
    (h : Po (some (Zi (-5))) am_SH σ) : am_U x m_Sp_pick Po σ 63 [none, none, none, none, none, none, none] [] := by
  refine V_bipush d_Sp_pick_63 ?_
  exact V_iret d_Sp_pick_65 rfl rfl h
theorem s_Sp_isSpan_0 {x : am_Sc} {Po : Option am_AV → am_Sh → am_St → Prop} {σ : am_St} {v0 v1 : Int}
    (h : am_r v0 ∧ ((v0 < 0 → am_U x m_Sp_isSpan Po σ 20 [none, none] []) ∧ (¬ v0 < 0 → am_r v1 ∧ ((v1 < v0 → am_U x m_Sp_isSpan Po σ 20 [none, none] []) ∧ (¬ v1 < v0 → ((3000 < v1 → am_U x m_Sp_isSpan Po σ 20 [none, none] []) ∧ (¬ 3000 < v1 → am_U x m_Sp_isSpan Po σ 21 [none, none] [Zi 1]))))))) : am_U x m_Sp_isSpan Po σ 0 [some (Zi v0), some (Zi v1)] [] := by
  refine V_iload_n d_Sp_isSpan_0 rfl ?_
  obtain ⟨h1, h⟩ := h
  obtain ⟨ht, hf⟩ := h
  refine V_if_lt 20 d_Sp_isSpan_1 h1 (fun h5 => ?_) (fun h5 => ?_)
  · have h := ht h5
    refine V_drop 0 ?_
    refine V_drop 1 ?_
    exact h
  · have h := hf h5
    refine V_iload_n d_Sp_isSpan_4 rfl ?_
    refine V_iload_n d_Sp_isSpan_5 rfl ?_
    obtain ⟨h2, h⟩ := h
    obtain ⟨ht, hf⟩ := h
    refine V_icmp_gt 20 d_Sp_isSpan_6 h1 h2 (fun h4 => ?_) (fun h4 => ?_)
    · have h := ht h4
      refine V_drop 0 ?_
      refine V_drop 1 ?_
      exact h
    · have h := hf h4
      refine V_iload_n d_Sp_isSpan_9 rfl ?_
      refine V_sipush d_Sp_isSpan_10 ?_
      obtain ⟨ht, hf⟩ := h
      refine V_icmp_gt 20 d_Sp_isSpan_13 h2 (by decide) (fun h3 => ?_) (fun h3 => ?_)
      · have h := ht h3
        refine V_drop 0 ?_
        refine V_drop 1 ?_
        exact h
      · have h := hf h3
        refine V_iconst d_Sp_isSpan_16 ?_
        refine V_goto 21 d_Sp_isSpan_17 ?_
        refine V_drop 0 ?_
        refine V_drop 1 ?_
        exact h
theorem s_Sp_isSpan_20 {x : am_Sc} {Po : Option am_AV → am_Sh → am_St → Prop} {σ : am_St}
    (h : am_U x m_Sp_isSpan Po σ 21 [none, none] [Zi 0]) : am_U x m_Sp_isSpan Po σ 20 [none, none] [] := by
  refine V_iconst d_Sp_isSpan_20 ?_
  exact h
theorem s_Sp_isSpan_21 {x : am_Sc} {Po : Option am_AV → am_Sh → am_St → Prop} {σ : am_St} {vk0 : Int}
    (h : (vk0 = 0 ∨ vk0 = 1) ∧ Po (some (Zi vk0)) am_SH σ) : am_U x m_Sp_isSpan Po σ 21 [none, none] [Zi vk0] := by
  obtain ⟨h6, h⟩ := h
  exact V_zret d_Sp_isSpan_21 rfl rfl h6 h
theorem s_Sp_tell_0 {x : am_Sc} {Po : Option am_AV → am_Sh → am_St → Prop} {σ : am_St} {v1 v2 v3 : Int}
    (h : am_U x m_Sp_isPick (fun ro1 so1 σ1 => ∃ z1 : Int, ro1 = some (Zi z1) ∧ so1 = am_SH ∧ am_r z1 ∧ ((¬ z1 = 0 → am_U x m_Sp_isSpan (fun ro2 so2 σ2 => ∃ z2 : Int, ro2 = some (Zi z2) ∧ so2 = am_SH ∧ am_r z2 ∧ ((¬ z2 = 0 → am_r (σ2.1 8 10) ∧ (((σ2.1 8 10) < 40 → am_U x m_Bo_addTelling (fun ro3 so3 σ3 => ro3 = none ∧ so3 = am_SH ∧ Po (some (Zi (σ3.1 8 10))) am_SH σ3) σ2 0 [some (Zr 8), some (Zi v1), some (Zi v2), some (Zi v3)] []) ∧ (¬ (σ2.1 8 10) < 40 → Po (some (Zi (-5))) am_SH σ2))) ∧ (z2 = 0 → Po (some (Zi (-3))) am_SH σ2))) σ1 0 [some (Zi v2), some (Zi v3)] []) ∧ (z1 = 0 → Po (some (Zi (-2))) am_SH σ1))) σ 0 [some (Zr 0), some (Zi v1)] []) : am_U x m_Sp_tell Po σ 0 [some (Zr 0), some (Zi v1), some (Zi v2), some (Zi v3)] [] := by
  refine V_aload_n d_Sp_tell_0 rfl ?_
  refine V_iload_n d_Sp_tell_1 rfl ?_
  refine U_iv1 cv_Sp_tell_186 d_Sp_tell_2 sh_0 rfl rfl (am_mono h ?_)
  rintro ro1 so1 σ1 ⟨z1, rfl, rfl, h⟩
  obtain ⟨h1, h⟩ := h
  obtain ⟨ht, hf⟩ := h
  refine V_if_ne 11 d_Sp_tell_5 h1 (fun h6 => ?_) (fun h6 => ?_)
  · have h := ht h6
    refine V_iload_n d_Sp_tell_11 rfl ?_
    refine V_iload_n d_Sp_tell_12 rfl ?_
    refine U_is2 cv_Sp_tell_169 d_Sp_tell_13  rfl (am_mono h ?_)
    rintro ro2 so2 σ2 ⟨z2, rfl, rfl, h⟩
    obtain ⟨h2, h⟩ := h
    obtain ⟨ht, hf⟩ := h
    refine V_if_ne 22 d_Sp_tell_16 h2 (fun h5 => ?_) (fun h5 => ?_)
    · have h := ht h5
      refine V_aload_n d_Sp_tell_22 rfl ?_
      refine U_geta d_Sp_tell_23 fl_Sp_28 sh_0 rfl ?_
      refine U_geti d_Sp_tell_26 fl_Sp_176 sh_8 ?_
      refine V_bipush d_Sp_tell_29 ?_
      obtain ⟨h3, h⟩ := h
      obtain ⟨ht, hf⟩ := h
      refine V_icmp_lt 37 d_Sp_tell_31 h3 (by decide) (fun h4 => ?_) (fun h4 => ?_)
      · have h := ht h4
        refine V_aload_n d_Sp_tell_37 rfl ?_
        refine U_geta d_Sp_tell_38 fl_Sp_28 sh_0 rfl ?_
        refine V_iload_n d_Sp_tell_41 rfl ?_
        refine V_iload_n d_Sp_tell_42 rfl ?_
        refine V_iload_n d_Sp_tell_43 rfl ?_
        refine U_iv3 cv_Sp_tell_183 d_Sp_tell_44 sh_8 rfl rfl (am_mono h ?_)
        rintro ro3 so3 σ3 ⟨rfl, rfl, h⟩
        refine V_aload_n d_Sp_tell_47 rfl ?_
        refine U_geta d_Sp_tell_48 fl_Sp_28 sh_0 rfl ?_
        refine U_geti d_Sp_tell_51 fl_Sp_176 sh_8 ?_
        exact V_iret d_Sp_tell_54 rfl rfl h
      · have h := hf h4
        refine V_bipush d_Sp_tell_34 ?_
        exact V_iret d_Sp_tell_36 rfl rfl h
    · have h := hf h5
      refine V_bipush d_Sp_tell_19 ?_
      exact V_iret d_Sp_tell_21 rfl rfl h
  · have h := hf h6
    refine V_bipush d_Sp_tell_8 ?_
    exact V_iret d_Sp_tell_10 rfl rfl h
theorem s_Sp_isPick_0 {x : am_Sc} {Po : Option am_AV → am_Sh → am_St → Prop} {σ : am_St} {v1 : Int}
    (h : am_U x m_Sp_isWithin (fun ro1 so1 σ1 => ∃ z1 : Int, ro1 = some (Zi z1) ∧ so1 = am_SH ∧ (z1 = 0 ∨ z1 = 1) ∧ Po (some (Zi z1)) am_SH σ1) σ 0 [some (Zi v1), some (Zi 0), some (Zi ((σ.1 8 6) - 1))] []) : am_U x m_Sp_isPick Po σ 0 [some (Zr 0), some (Zi v1)] [] := by
  refine V_iload_n d_Sp_isPick_0 rfl ?_
  refine V_iconst d_Sp_isPick_1 ?_
  refine V_aload_n d_Sp_isPick_2 rfl ?_
  refine U_geta d_Sp_isPick_3 fl_Sp_28 sh_0 rfl ?_
  refine U_geti d_Sp_isPick_6 fl_Sp_173 sh_8 ?_
  refine V_iconst d_Sp_isPick_9 ?_
  refine V_isub d_Sp_isPick_10 ?_
  refine U_is3 cv_Sp_isPick_82 d_Sp_isPick_11  rfl (am_mono h ?_)
  rintro ro1 so1 σ1 ⟨z1, rfl, rfl, h⟩
  obtain ⟨h1, h⟩ := h
  exact V_zret d_Sp_isPick_14 rfl rfl h1 h
theorem s_Sp_days_0 {x : am_Sc} {Po : Option am_AV → am_Sh → am_St → Prop} {σ : am_St} {v1 : Int}
    (h : am_U x m_Sp_isWithin (fun ro1 so1 σ1 => ∃ z1 : Int, ro1 = some (Zi z1) ∧ so1 = am_SH ∧ am_r z1 ∧ ((z1 = 0 → am_U x m_Sp_days Po σ1 25 [none, none] []) ∧ (¬ z1 = 0 → am_r ((σ1.1 8 15) + v1) ∧ ((((σ1.1 8 15) + v1) ≤ 500 → (∀ σ2 : am_St, σ2 = (am_up σ1.1 8 15 ((σ1.1 8 15) + v1), σ1.2) → Po (some (Zi (σ2.1 8 15))) am_SH σ2)) ∧ (¬ ((σ1.1 8 15) + v1) ≤ 500 → am_U x m_Sp_days Po σ1 25 [none, none] []))))) σ 0 [some (Zi v1), some (Zi 1), some (Zi 50)] []) : am_U x m_Sp_days Po σ 0 [some (Zr 0), some (Zi v1)] [] := by
  refine V_iload_n d_Sp_days_0 rfl ?_
  refine V_iconst d_Sp_days_1 ?_
  refine V_bipush d_Sp_days_2 ?_
  refine U_is3 cv_Sp_days_82 d_Sp_days_4  rfl (am_mono h ?_)
  rintro ro1 so1 σ1 ⟨z1, rfl, rfl, h⟩
  obtain ⟨h1, h⟩ := h
  obtain ⟨ht, hf⟩ := h
  refine V_if_eq 25 d_Sp_days_7 h1 (fun h4 => ?_) (fun h4 => ?_)
  · have h := ht h4
    refine V_drop 0 ?_
    refine V_drop 1 ?_
    exact h
  · have h := hf h4
    refine V_aload_n d_Sp_days_10 rfl ?_
    refine U_geta d_Sp_days_11 fl_Sp_28 sh_0 rfl ?_
    refine U_geti d_Sp_days_14 fl_Sp_189 sh_8 ?_
    refine V_iload_n d_Sp_days_17 rfl ?_
    refine V_iadd d_Sp_days_18 ?_
    refine V_sipush d_Sp_days_19 ?_
    obtain ⟨h2, h⟩ := h
    obtain ⟨ht, hf⟩ := h
    refine V_icmp_le 28 d_Sp_days_22 h2 (by decide) (fun h3 => ?_) (fun h3 => ?_)
    · have h := ht h3
      refine V_aload_n d_Sp_days_28 rfl ?_
      refine U_geta d_Sp_days_29 fl_Sp_28 sh_0 rfl ?_
      refine V_dup d_Sp_days_32 ?_
      refine U_geti d_Sp_days_33 fl_Sp_189 sh_8 ?_
      refine V_iload_n d_Sp_days_36 rfl ?_
      refine V_iadd d_Sp_days_37 ?_
      refine U_puti d_Sp_days_38 fw_Sp_189 sh_8 ?_
      have h := h _ rfl
      refine V_aload_n d_Sp_days_41 rfl ?_
      refine U_geta d_Sp_days_42 fl_Sp_28 sh_0 rfl ?_
      refine U_geti d_Sp_days_45 fl_Sp_189 sh_8 ?_
      exact V_iret d_Sp_days_48 rfl rfl h
    · have h := hf h3
      refine V_drop 0 ?_
      refine V_drop 1 ?_
      exact h
theorem s_Sp_days_25 {x : am_Sc} {Po : Option am_AV → am_Sh → am_St → Prop} {σ : am_St}
    (h : Po (some (Zi (-3))) am_SH σ) : am_U x m_Sp_days Po σ 25 [none, none] [] := by
  refine V_bipush d_Sp_days_25 ?_
  exact V_iret d_Sp_days_27 rfl rfl h
theorem s_Sp_of_0 {x : am_Sc} {Po : Option am_AV → am_Sh → am_St → Prop} {σ : am_St} {v1 v2 : Int}
    (h : am_U x m_Sp_isPick (fun ro1 so1 σ1 => ∃ z1 : Int, ro1 = some (Zi z1) ∧ so1 = am_SH ∧ am_r z1 ∧ ((¬ z1 = 0 → am_r v2 ∧ (((v2 < 0 ∨ 4 < v2) → Po (some (Zi (-3))) am_SH σ1) ∧ (v2 = 0 → am_U x m_Ft_foretold (fun ro2 so2 σ2 => ∃ z2 : Int, ro2 = some (Zi z2) ∧ so2 = am_SH ∧ Po (some (Zi z2)) am_SH σ2) σ1 0 [some (Zr 35), some (Zi v1)] []) ∧ (v2 = 1 → am_U x m_Ft_foretold (fun ro3 so3 σ3 => ∃ z3 : Int, ro3 = some (Zi z3) ∧ so3 = am_SH ∧ am_U x m_Bo_lowNow (fun ro4 so4 σ4 => ∃ z4 : Int, ro4 = some (Zi z4) ∧ so4 = am_SH ∧ am_U x m_Bo_highNow (fun ro5 so5 σ5 => ∃ z5 : Int, ro5 = some (Zi z5) ∧ so5 = am_SH ∧ am_U x m_Sp_missedBy (fun ro6 so6 σ6 => ∃ z6 : Int, ro6 = some (Zi z6) ∧ so6 = am_SH ∧ Po (some (Zi z6)) am_SH σ6) σ5 0 [some (Zi z3), some (Zi z4), some (Zi z5)] []) σ4 0 [some (Zr 8), some (Zi v1), none] []) σ3 0 [some (Zr 8), some (Zi v1), none] []) σ1 0 [some (Zr 35), some (Zi v1)] []) ∧ (v2 = 2 → am_U x m_Bo_lowNow (fun ro7 so7 σ7 => ∃ z7 : Int, ro7 = some (Zi z7) ∧ so7 = am_SH ∧ Po (some (Zi z7)) am_SH σ7) σ1 0 [some (Zr 8), some (Zi v1), none] []) ∧ (v2 = 3 → am_U x m_Bo_highNow (fun ro8 so8 σ8 => ∃ z8 : Int, ro8 = some (Zi z8) ∧ so8 = am_SH ∧ Po (some (Zi z8)) am_SH σ8) σ1 0 [some (Zr 8), some (Zi v1), none] []) ∧ (v2 = 4 → am_U x m_Bo_cellOfEar (fun ro9 so9 σ9 => ∃ z9 : Int, ro9 = some (Zi z9) ∧ so9 = am_SH ∧ (0 ≤ v1 ∧ v1 < 12) ∧ am_U x m_Gr_spread (fun ro10 so10 σ10 => ro10 = none ∧ so10 = am_SH ∧ am_U x m_Bo_cellOfShake (fun ro11 so11 σ11 => ∃ z11 : Int, ro11 = some (Zi z11) ∧ so11 = am_SH ∧ am_U x m_Gr_trace (fun ro12 so12 σ12 => ro12 = none ∧ so12 = am_SH ∧ Po (some (Zi (σ12.1 1 8))) am_SH σ12) σ11 0 [some (Zr 1), some (Zi z11), none] []) σ10 0 [some (Zr 8), some (Zi v1)] []) σ9 0 [some (Zr 1), some (Zi z9), some (Zi (σ9.1 15 v1.toNat)), none, none, none, none] []) σ1 0 [some (Zr 8), some (Zi v1)] []))) ∧ (z1 = 0 → Po (some (Zi (-2))) am_SH σ1))) σ 0 [some (Zr 0), some (Zi v1)] []) : am_U x m_Sp_of Po σ 0 [some (Zr 0), some (Zi v1), some (Zi v2)] [] := by
  refine V_aload_n d_Sp_of_0 rfl ?_
  refine V_iload_n d_Sp_of_1 rfl ?_
  refine U_iv1 cv_Sp_of_186 d_Sp_of_2 sh_0 rfl rfl (am_mono h ?_)
  rintro ro1 so1 σ1 ⟨z1, rfl, rfl, h⟩
  obtain ⟨h1, h⟩ := h
  obtain ⟨ht, hf⟩ := h
  refine V_if_ne 11 d_Sp_of_5 h1 (fun h4 => ?_) (fun h4 => ?_)
  · have h := ht h4
    refine V_iload_n d_Sp_of_11 rfl ?_
    obtain ⟨h2, h⟩ := h
    obtain ⟨hd9, h⟩ := h
    by_cases hq9 : v2 < 0 ∨ 4 < v2
    · have h := hd9 hq9
      refine V_tabOut 150 d_Sp_of_12 h2 hq9 ?_
      refine V_bipush d_Sp_of_150 ?_
      exact V_iret d_Sp_of_152 rfl rfl h
    · have ha9 : v2 = 0 ∨ v2 = 1 ∨ v2 = 2 ∨ v2 = 3 ∨ v2 = 4 := by omega
      rcases ha9 with hc0 | hc1 | hc2 | hc3 | hc4
      · have h := h.1 hc0
        refine V_tabIn 48 d_Sp_of_12 h2 (by omega) (by omega) (by rw [hc0]; rfl) ?_
        refine V_aload_n d_Sp_of_48 rfl ?_
        refine U_geta d_Sp_of_49 fl_Sp_39 sh_0 rfl ?_
        refine V_iload_n d_Sp_of_52 rfl ?_
        refine U_iv1 cv_Sp_of_192 d_Sp_of_53 sh_35 rfl rfl (am_mono h ?_)
        rintro ro2 so2 σ2 ⟨z2, rfl, rfl, h⟩
        exact V_iret d_Sp_of_56 rfl rfl h
      · have h := h.2.1 hc1
        refine V_tabIn 57 d_Sp_of_12 h2 (by omega) (by omega) (by rw [hc1]; rfl) ?_
        refine V_aload_n d_Sp_of_57 rfl ?_
        refine U_geta d_Sp_of_58 fl_Sp_39 sh_0 rfl ?_
        refine V_iload_n d_Sp_of_61 rfl ?_
        refine U_iv1 cv_Sp_of_192 d_Sp_of_62 sh_35 rfl rfl (am_mono h ?_)
        rintro ro3 so3 σ3 ⟨z3, rfl, rfl, h⟩
        refine V_aload_n d_Sp_of_65 rfl ?_
        refine U_geta d_Sp_of_66 fl_Sp_28 sh_0 rfl ?_
        refine V_iload_n d_Sp_of_69 rfl ?_
        refine U_iv1 cv_Sp_of_195 d_Sp_of_70 sh_8 rfl rfl (am_mono h ?_)
        rintro ro4 so4 σ4 ⟨z4, rfl, rfl, h⟩
        refine V_aload_n d_Sp_of_73 rfl ?_
        refine U_geta d_Sp_of_74 fl_Sp_28 sh_0 rfl ?_
        refine V_iload_n d_Sp_of_77 rfl ?_
        refine U_iv1 cv_Sp_of_198 d_Sp_of_78 sh_8 rfl rfl (am_mono h ?_)
        rintro ro5 so5 σ5 ⟨z5, rfl, rfl, h⟩
        refine U_is3 cv_Sp_of_201 d_Sp_of_81  rfl (am_mono h ?_)
        rintro ro6 so6 σ6 ⟨z6, rfl, rfl, h⟩
        exact V_iret d_Sp_of_84 rfl rfl h
      · have h := h.2.2.1 hc2
        refine V_tabIn 85 d_Sp_of_12 h2 (by omega) (by omega) (by rw [hc2]; rfl) ?_
        refine V_aload_n d_Sp_of_85 rfl ?_
        refine U_geta d_Sp_of_86 fl_Sp_28 sh_0 rfl ?_
        refine V_iload_n d_Sp_of_89 rfl ?_
        refine U_iv1 cv_Sp_of_195 d_Sp_of_90 sh_8 rfl rfl (am_mono h ?_)
        rintro ro7 so7 σ7 ⟨z7, rfl, rfl, h⟩
        exact V_iret d_Sp_of_93 rfl rfl h
      · have h := h.2.2.2.1 hc3
        refine V_tabIn 94 d_Sp_of_12 h2 (by omega) (by omega) (by rw [hc3]; rfl) ?_
        refine V_aload_n d_Sp_of_94 rfl ?_
        refine U_geta d_Sp_of_95 fl_Sp_28 sh_0 rfl ?_
        refine V_iload_n d_Sp_of_98 rfl ?_
        refine U_iv1 cv_Sp_of_198 d_Sp_of_99 sh_8 rfl rfl (am_mono h ?_)
        rintro ro8 so8 σ8 ⟨z8, rfl, rfl, h⟩
        exact V_iret d_Sp_of_102 rfl rfl h
      · have h := h.2.2.2.2 hc4
        refine V_tabIn 103 d_Sp_of_12 h2 (by omega) (by omega) (by rw [hc4]; rfl) ?_
        refine V_aload_n d_Sp_of_103 rfl ?_
        refine U_geta d_Sp_of_104 fl_Sp_22 sh_0 rfl ?_
        refine V_aload_n d_Sp_of_107 rfl ?_
        refine U_geta d_Sp_of_108 fl_Sp_28 sh_0 rfl ?_
        refine V_iload_n d_Sp_of_111 rfl ?_
        refine U_iv1 cv_Sp_of_204 d_Sp_of_112 sh_8 rfl rfl (am_mono h ?_)
        rintro ro9 so9 σ9 ⟨z9, rfl, rfl, h⟩
        refine V_aload_n d_Sp_of_115 rfl ?_
        refine U_geta d_Sp_of_116 fl_Sp_28 sh_0 rfl ?_
        refine U_geta d_Sp_of_119 fl_Sp_207 sh_8 rfl ?_
        refine V_iload_n d_Sp_of_122 rfl ?_
        obtain ⟨h3, h⟩ := h
        refine U_iald d_Sp_of_123 sh_15 h3 ?_
        refine U_iv2 cv_Sp_of_129 d_Sp_of_124 sh_1 rfl rfl (am_mono h ?_)
        rintro ro10 so10 σ10 ⟨rfl, rfl, h⟩
        refine V_aload_n d_Sp_of_127 rfl ?_
        refine U_geta d_Sp_of_128 fl_Sp_22 sh_0 rfl ?_
        refine V_aload_n d_Sp_of_131 rfl ?_
        refine U_geta d_Sp_of_132 fl_Sp_28 sh_0 rfl ?_
        refine V_iload_n d_Sp_of_135 rfl ?_
        refine U_iv1 cv_Sp_of_210 d_Sp_of_136 sh_8 rfl rfl (am_mono h ?_)
        rintro ro11 so11 σ11 ⟨z11, rfl, rfl, h⟩
        refine U_iv1 cv_Sp_of_135 d_Sp_of_139 sh_1 rfl rfl (am_mono h ?_)
        rintro ro12 so12 σ12 ⟨rfl, rfl, h⟩
        refine V_aload_n d_Sp_of_142 rfl ?_
        refine U_geta d_Sp_of_143 fl_Sp_22 sh_0 rfl ?_
        refine U_geti d_Sp_of_146 fl_Sp_139 sh_1 ?_
        exact V_iret d_Sp_of_149 rfl rfl h
  · have h := hf h4
    refine V_bipush d_Sp_of_8 ?_
    exact V_iret d_Sp_of_10 rfl rfl h
theorem s_Sp_missedBy_0 {x : am_Sc} {Po : Option am_AV → am_Sh → am_St → Prop} {σ : am_St} {v0 v1 v2 : Int}
    (h : am_U x m_Ma_max (fun ro1 so1 σ1 => ∃ z1 : Int, ro1 = some (Zi z1) ∧ so1 = am_SH ∧ am_U x m_Ma_max (fun ro2 so2 σ2 => ∃ z2 : Int, ro2 = some (Zi z2) ∧ so2 = am_SH ∧ Po (some (Zi z2)) am_SH σ2) σ1 0 [some (Zi 0), some (Zi z1)] []) σ 0 [some (Zi (v1 - v0)), some (Zi (v0 - v2))] []) : am_U x m_Sp_missedBy Po σ 0 [some (Zi v0), some (Zi v1), some (Zi v2)] [] := by
  refine V_iconst d_Sp_missedBy_0 ?_
  refine V_iload_n d_Sp_missedBy_1 rfl ?_
  refine V_iload_n d_Sp_missedBy_2 rfl ?_
  refine V_isub d_Sp_missedBy_3 ?_
  refine V_iload_n d_Sp_missedBy_4 rfl ?_
  refine V_iload_n d_Sp_missedBy_5 rfl ?_
  refine V_isub d_Sp_missedBy_6 ?_
  refine U_is2 cv_Sp_missedBy_349 d_Sp_missedBy_7  rfl (am_mono h ?_)
  rintro ro1 so1 σ1 ⟨z1, rfl, rfl, h⟩
  refine U_is2 cv_Sp_missedBy_349 d_Sp_missedBy_10  rfl (am_mono h ?_)
  rintro ro2 so2 σ2 ⟨z2, rfl, rfl, h⟩
  exact V_iret d_Sp_missedBy_13 rfl rfl h
theorem s_Sp_misfit_0 {x : am_Sc} {Po : Option am_AV → am_Sh → am_St → Prop} {σ : am_St} {v1 v2 : Int}
    (h : am_U x m_Sp_isWithin (fun ro1 so1 σ1 => ∃ z1 : Int, ro1 = some (Zi z1) ∧ so1 = am_SH ∧ am_r z1 ∧ ((z1 = 0 → am_U x m_Sp_misfit Po σ1 24 [none, none, none, none, none, none, none, none] []) ∧ (¬ z1 = 0 → am_U x m_Sp_isWithin (fun ro2 so2 σ2 => ∃ z2 : Int, ro2 = some (Zi z2) ∧ so2 = am_SH ∧ am_r z2 ∧ ((¬ z2 = 0 → am_U x m_Sp_misfit Po σ2 35 [some (Zr 0), some (Zi v1), some (Zi v2), some (Zi 0), some (Zi 0), some (Zi 0), none, none] []) ∧ (z2 = 0 → am_U x m_Sp_misfit Po σ2 24 [none, none, none, none, none, none, none, none] []))) σ1 0 [some (Zi v2), some (Zi 0), some (Zi 1)] []))) σ 0 [some (Zi v1), some (Zi 0), some (Zi (σ.1 8 15))] []) : am_U x m_Sp_misfit Po σ 0 [some (Zr 0), some (Zi v1), some (Zi v2), none, none, none, none, none] [] := by
  refine V_iload_n d_Sp_misfit_0 rfl ?_
  refine V_iconst d_Sp_misfit_1 ?_
  refine V_aload_n d_Sp_misfit_2 rfl ?_
  refine U_geta d_Sp_misfit_3 fl_Sp_28 sh_0 rfl ?_
  refine U_geti d_Sp_misfit_6 fl_Sp_189 sh_8 ?_
  refine U_is3 cv_Sp_misfit_82 d_Sp_misfit_9  rfl (am_mono h ?_)
  rintro ro1 so1 σ1 ⟨z1, rfl, rfl, h⟩
  obtain ⟨h1, h⟩ := h
  obtain ⟨ht, hf⟩ := h
  refine V_if_eq 24 d_Sp_misfit_12 h1 (fun h4 => ?_) (fun h4 => ?_)
  · have h := ht h4
    refine V_drop 0 ?_
    refine V_drop 1 ?_
    refine V_drop 2 ?_
    exact h
  · have h := hf h4
    refine V_iload_n d_Sp_misfit_15 rfl ?_
    refine V_iconst d_Sp_misfit_16 ?_
    refine V_iconst d_Sp_misfit_17 ?_
    refine U_is3 cv_Sp_misfit_82 d_Sp_misfit_18  rfl (am_mono h ?_)
    rintro ro2 so2 σ2 ⟨z2, rfl, rfl, h⟩
    obtain ⟨h2, h⟩ := h
    obtain ⟨ht, hf⟩ := h
    refine V_if_ne 27 d_Sp_misfit_21 h2 (fun h3 => ?_) (fun h3 => ?_)
    · have h := ht h3
      refine V_iconst d_Sp_misfit_27 ?_
      refine V_istore_n d_Sp_misfit_28 rfl ?_
      refine V_iconst d_Sp_misfit_29 ?_
      refine V_istore d_Sp_misfit_30 rfl ?_
      refine V_iconst d_Sp_misfit_32 ?_
      refine V_istore d_Sp_misfit_33 rfl ?_
      exact h
    · have h := hf h3
      refine V_drop 0 ?_
      refine V_drop 1 ?_
      refine V_drop 2 ?_
      exact h
theorem s_Sp_misfit_24 {x : am_Sc} {Po : Option am_AV → am_Sh → am_St → Prop} {σ : am_St}
    (h : Po (some (Zi (-3))) am_SH σ) : am_U x m_Sp_misfit Po σ 24 [none, none, none, none, none, none, none, none] [] := by
  refine V_bipush d_Sp_misfit_24 ?_
  exact V_iret d_Sp_misfit_26 rfl rfl h
theorem s_Sp_misfit_35 {x : am_Sc} {Po : Option am_AV → am_Sh → am_St → Prop} {σ : am_St} {v1 v2 v3 v4 v5 : Int}
    (h : am_r v5 ∧ am_r (σ.1 8 6) ∧ (((σ.1 8 6) ≤ v5 → am_r v2 ∧ ((¬ v2 = 0 → am_U x m_Sp_misfit Po σ 134 [none, none, none, none, none, none, none, none] [Zi v4]) ∧ (v2 = 0 → am_U x m_Sp_misfit Po σ 134 [none, none, none, none, none, none, none, none] [Zi v3]))) ∧ (¬ (σ.1 8 6) ≤ v5 → am_U x m_Bo_lastTelling (fun ro3 so3 σ3 => ∃ z3 : Int, ro3 = some (Zi z3) ∧ so3 = am_SH ∧ am_r z3 ∧ ((z3 < 0 → am_U x m_Sp_misfit Po σ3 118 [some (Zr 0), some (Zi v1), some (Zi v2), some (Zi v3), some (Zi v4), some (Zi v5), none, none] []) ∧ (¬ z3 < 0 → am_U x m_Ft_foretold (fun ro4 so4 σ4 => ∃ z4 : Int, ro4 = some (Zi z4) ∧ so4 = am_SH ∧ (0 ≤ z3 ∧ z3 < 40) ∧ am_U x m_Sp_missedBy (fun ro5 so5 σ5 => ∃ z5 : Int, ro5 = some (Zi z5) ∧ so5 = am_SH ∧ am_r z5 ∧ ((¬ z5 = 0 → am_U x m_Sp_misfit Po σ5 115 [some (Zr 0), some (Zi v1), some (Zi v2), some (Zi (v3 + z5)), none, some (Zi v5), none, none] [Zi 0, Zi v4]) ∧ (z5 = 0 → am_U x m_Sp_misfit Po σ5 115 [some (Zr 0), some (Zi v1), some (Zi v2), some (Zi (v3 + z5)), none, some (Zi v5), none, none] [Zi 1, Zi v4]))) σ4 0 [some (Zi z4), some (Zi (σ4.1 18 z3.toNat)), some (Zi (σ4.1 19 z3.toNat))] []) σ3 0 [some (Zr 35), some (Zi v5)] []))) σ 0 [some (Zr 8), some (Zi v5), some (Zi v1), none] []))) : am_U x m_Sp_misfit Po σ 35 [some (Zr 0), some (Zi v1), some (Zi v2), some (Zi v3), some (Zi v4), some (Zi v5), none, none] [] := by
  refine V_iload d_Sp_misfit_35 rfl ?_
  refine V_aload_n d_Sp_misfit_37 rfl ?_
  refine U_geta d_Sp_misfit_38 fl_Sp_28 sh_0 rfl ?_
  refine U_geti d_Sp_misfit_41 fl_Sp_173 sh_8 ?_
  obtain ⟨h5, h⟩ := h
  obtain ⟨h6, h⟩ := h
  obtain ⟨ht, hf⟩ := h
  refine V_icmp_ge 124 d_Sp_misfit_44 h5 h6 (fun h14 => ?_) (fun h14 => ?_)
  · have h := ht h14
    refine V_iload_n d_Sp_misfit_124 rfl ?_
    obtain ⟨h7, h⟩ := h
    obtain ⟨ht, hf⟩ := h
    refine V_if_ne 132 d_Sp_misfit_125 h7 (fun h8 => ?_) (fun h8 => ?_)
    · have h := ht h8
      refine V_iload d_Sp_misfit_132 rfl ?_
      refine V_drop 0 ?_
      refine V_drop 1 ?_
      refine V_drop 2 ?_
      refine V_drop 3 ?_
      refine V_drop 4 ?_
      refine V_drop 5 ?_
      exact h
    · have h := hf h8
      refine V_iload_n d_Sp_misfit_128 rfl ?_
      refine V_goto 134 d_Sp_misfit_129 ?_
      refine V_drop 0 ?_
      refine V_drop 1 ?_
      refine V_drop 2 ?_
      refine V_drop 3 ?_
      refine V_drop 4 ?_
      refine V_drop 5 ?_
      exact h
  · have h := hf h14
    refine V_aload_n d_Sp_misfit_47 rfl ?_
    refine U_geta d_Sp_misfit_48 fl_Sp_28 sh_0 rfl ?_
    refine V_iload d_Sp_misfit_51 rfl ?_
    refine V_iload_n d_Sp_misfit_53 rfl ?_
    refine U_iv2 cv_Sp_misfit_213 d_Sp_misfit_54 sh_8 rfl rfl (am_mono h ?_)
    rintro ro3 so3 σ3 ⟨z3, rfl, rfl, h⟩
    refine V_istore d_Sp_misfit_57 rfl ?_
    refine V_iload d_Sp_misfit_59 rfl ?_
    obtain ⟨h9, h⟩ := h
    obtain ⟨ht, hf⟩ := h
    refine V_if_lt 118 d_Sp_misfit_61 h9 (fun h13 => ?_) (fun h13 => ?_)
    · have h := ht h13
      refine V_drop 6 ?_
      exact h
    · have h := hf h13
      refine V_aload_n d_Sp_misfit_64 rfl ?_
      refine U_geta d_Sp_misfit_65 fl_Sp_39 sh_0 rfl ?_
      refine V_iload d_Sp_misfit_68 rfl ?_
      refine U_iv1 cv_Sp_misfit_192 d_Sp_misfit_70 sh_35 rfl rfl (am_mono h ?_)
      rintro ro4 so4 σ4 ⟨z4, rfl, rfl, h⟩
      refine V_aload_n d_Sp_misfit_73 rfl ?_
      refine U_geta d_Sp_misfit_74 fl_Sp_28 sh_0 rfl ?_
      refine U_geta d_Sp_misfit_77 fl_Sp_216 sh_8 rfl ?_
      refine V_iload d_Sp_misfit_80 rfl ?_
      obtain ⟨h10, h⟩ := h
      refine U_iald d_Sp_misfit_82 sh_18 h10 ?_
      refine V_aload_n d_Sp_misfit_83 rfl ?_
      refine U_geta d_Sp_misfit_84 fl_Sp_28 sh_0 rfl ?_
      refine U_geta d_Sp_misfit_87 fl_Sp_219 sh_8 rfl ?_
      refine V_iload d_Sp_misfit_90 rfl ?_
      refine U_iald d_Sp_misfit_92 sh_19 h10 ?_
      refine U_is3 cv_Sp_misfit_201 d_Sp_misfit_93  rfl (am_mono h ?_)
      rintro ro5 so5 σ5 ⟨z5, rfl, rfl, h⟩
      refine V_istore d_Sp_misfit_96 rfl ?_
      refine V_iload_n d_Sp_misfit_98 rfl ?_
      refine V_iload d_Sp_misfit_99 rfl ?_
      refine V_iadd d_Sp_misfit_101 ?_
      refine V_istore_n d_Sp_misfit_102 rfl ?_
      refine V_iload d_Sp_misfit_103 rfl ?_
      refine V_iload d_Sp_misfit_105 rfl ?_
      obtain ⟨h11, h⟩ := h
      obtain ⟨ht, hf⟩ := h
      refine V_if_ne 114 d_Sp_misfit_107 h11 (fun h12 => ?_) (fun h12 => ?_)
      · have h := ht h12
        refine V_iconst d_Sp_misfit_114 ?_
        refine V_drop 4 ?_
        refine V_drop 6 ?_
        refine V_drop 7 ?_
        exact h
      · have h := hf h12
        refine V_iconst d_Sp_misfit_110 ?_
        refine V_goto 115 d_Sp_misfit_111 ?_
        refine V_drop 4 ?_
        refine V_drop 6 ?_
        refine V_drop 7 ?_
        exact h
theorem s_Sp_misfit_134 {x : am_Sc} {Po : Option am_AV → am_Sh → am_St → Prop} {σ : am_St} {vk0 : Int}
    (h : Po (some (Zi vk0)) am_SH σ) : am_U x m_Sp_misfit Po σ 134 [none, none, none, none, none, none, none, none] [Zi vk0] := by
  exact V_iret d_Sp_misfit_134 rfl rfl h
theorem s_Sp_misfit_118 {x : am_Sc} {Po : Option am_AV → am_Sh → am_St → Prop} {σ : am_St} {v1 v2 v3 v4 v5 : Int}
    (h : am_U x m_Sp_misfit Po σ 35 [some (Zr 0), some (Zi v1), some (Zi v2), some (Zi v3), some (Zi v4), some (Zi (v5 + 1)), none, none] []) : am_U x m_Sp_misfit Po σ 118 [some (Zr 0), some (Zi v1), some (Zi v2), some (Zi v3), some (Zi v4), some (Zi v5), none, none] [] := by
  refine V_iinc d_Sp_misfit_118 rfl rfl ?_
  refine V_goto 35 d_Sp_misfit_121 ?_
  exact h
theorem s_Sp_misfit_115 {x : am_Sc} {Po : Option am_AV → am_Sh → am_St → Prop} {σ : am_St} {v1 v2 v3 v5 vk0 vk1 : Int}
    (h : am_U x m_Sp_misfit Po σ 118 [some (Zr 0), some (Zi v1), some (Zi v2), some (Zi v3), some (Zi (vk0 + vk1)), some (Zi v5), none, none] []) : am_U x m_Sp_misfit Po σ 115 [some (Zr 0), some (Zi v1), some (Zi v2), some (Zi v3), none, some (Zi v5), none, none] [Zi vk1, Zi vk0] := by
  refine V_iadd d_Sp_misfit_115 ?_
  refine V_istore d_Sp_misfit_116 rfl ?_
  exact h
theorem s_Sp_fit_0 {x : am_Sc} {Po : Option am_AV → am_Sh → am_St → Prop} {σ : am_St} {v1 : Int}
    (h : am_U x m_Sp_isWithin (fun ro1 so1 σ1 => ∃ z1 : Int, ro1 = some (Zi z1) ∧ so1 = am_SH ∧ am_r z1 ∧ ((¬ z1 = 0 → am_U x m_Ft_aimAtTold (fun ro2 so2 σ2 => ro2 = none ∧ so2 = am_SH ∧ am_U x m_Ft_sweep (fun ro3 so3 σ3 => ∃ z3 : Int, ro3 = some (Zi z3) ∧ so3 = am_SH ∧ Po (some (Zi z3)) am_SH σ3) σ2 0 [some (Zr 35), some (Zi v1), none, none, none, none, none, none] []) σ1 0 [some (Zr 35), none] []) ∧ (z1 = 0 → Po (some (Zi (-3))) am_SH σ1))) σ 0 [some (Zi v1), some (Zi 1), some (Zi 10)] []) : am_U x m_Sp_fit Po σ 0 [some (Zr 0), some (Zi v1)] [] := by
  refine V_iload_n d_Sp_fit_0 rfl ?_
  refine V_iconst d_Sp_fit_1 ?_
  refine V_bipush d_Sp_fit_2 ?_
  refine U_is3 cv_Sp_fit_82 d_Sp_fit_4  rfl (am_mono h ?_)
  rintro ro1 so1 σ1 ⟨z1, rfl, rfl, h⟩
  obtain ⟨h1, h⟩ := h
  obtain ⟨ht, hf⟩ := h
  refine V_if_ne 13 d_Sp_fit_7 h1 (fun h2 => ?_) (fun h2 => ?_)
  · have h := ht h2
    refine V_aload_n d_Sp_fit_13 rfl ?_
    refine U_geta d_Sp_fit_14 fl_Sp_39 sh_0 rfl ?_
    refine U_iv0 cv_Sp_fit_222 d_Sp_fit_17 sh_35 rfl rfl (am_mono h ?_)
    rintro ro2 so2 σ2 ⟨rfl, rfl, h⟩
    refine V_aload_n d_Sp_fit_20 rfl ?_
    refine U_geta d_Sp_fit_21 fl_Sp_39 sh_0 rfl ?_
    refine V_iload_n d_Sp_fit_24 rfl ?_
    refine U_iv1 cv_Sp_fit_225 d_Sp_fit_25 sh_35 rfl rfl (am_mono h ?_)
    rintro ro3 so3 σ3 ⟨z3, rfl, rfl, h⟩
    exact V_iret d_Sp_fit_28 rfl rfl h
  · have h := hf h2
    refine V_bipush d_Sp_fit_10 ?_
    exact V_iret d_Sp_fit_12 rfl rfl h
theorem s_Sp_span_0 {x : am_Sc} {Po : Option am_AV → am_Sh → am_St → Prop} {σ : am_St} {v1 v2 : Int}
    (h : am_U x m_Sp_isBlock (fun ro1 so1 σ1 => ∃ z1 : Int, ro1 = some (Zi z1) ∧ so1 = am_SH ∧ am_r z1 ∧ ((¬ z1 = 0 → am_U x m_Sp_isWithin (fun ro2 so2 σ2 => ∃ z2 : Int, ro2 = some (Zi z2) ∧ so2 = am_SH ∧ am_r z2 ∧ ((¬ z2 = 0 → am_U x m_Ra_gather (fun ro3 so3 σ3 => ro3 = none ∧ so3 = am_SH ∧ am_U x m_Pr_setBounds (fun ro4 so4 σ4 => ro4 = none ∧ so4 = am_SH ∧ am_U x m_Ra_allRows (fun ro5 so5 σ5 => ∃ z5 : Int, ro5 = some (Zi z5) ∧ so5 = am_SH ∧ am_U x m_Pr_quarrels (fun ro6 so6 σ6 => ∃ z6 : Int, ro6 = some (Zi z6) ∧ so6 = am_SH ∧ am_r z6 ∧ ((z6 = 0 → am_r v2 ∧ ((¬ v2 = 0 → (0 ≤ v1 ∧ v1 < 8) ∧ am_U x m_Sp_span Po σ6 81 [none, none, none] [Zi (σ6.1 107 v1.toNat)]) ∧ (v2 = 0 → (0 ≤ v1 ∧ v1 < 8) ∧ am_U x m_Sp_span Po σ6 81 [none, none, none] [Zi (σ6.1 106 v1.toNat)]))) ∧ (¬ z6 = 0 → Po (some (Zi (-1))) am_SH σ6))) σ5 0 [some (Zr 103), some (Zi z5), none, none, none] []) σ4 0 [some (Zr 20)] []) σ3 0 [some (Zr 103), none, none, none] []) σ2 0 [some (Zr 20), none] []) ∧ (z2 = 0 → Po (some (Zi (-3))) am_SH σ2))) σ1 0 [some (Zi v2), some (Zi 0), some (Zi 1)] []) ∧ (z1 = 0 → Po (some (Zi (-2))) am_SH σ1))) σ 0 [some (Zr 0), some (Zi v1)] []) : am_U x m_Sp_span Po σ 0 [some (Zr 0), some (Zi v1), some (Zi v2)] [] := by
  refine V_aload_n d_Sp_span_0 rfl ?_
  refine V_iload_n d_Sp_span_1 rfl ?_
  refine U_iv1 cv_Sp_span_96 d_Sp_span_2 sh_0 rfl rfl (am_mono h ?_)
  rintro ro1 so1 σ1 ⟨z1, rfl, rfl, h⟩
  obtain ⟨h1, h⟩ := h
  obtain ⟨ht, hf⟩ := h
  refine V_if_ne 11 d_Sp_span_5 h1 (fun h10 => ?_) (fun h10 => ?_)
  · have h := ht h10
    refine V_iload_n d_Sp_span_11 rfl ?_
    refine V_iconst d_Sp_span_12 ?_
    refine V_iconst d_Sp_span_13 ?_
    refine U_is3 cv_Sp_span_82 d_Sp_span_14  rfl (am_mono h ?_)
    rintro ro2 so2 σ2 ⟨z2, rfl, rfl, h⟩
    obtain ⟨h2, h⟩ := h
    obtain ⟨ht, hf⟩ := h
    refine V_if_ne 23 d_Sp_span_17 h2 (fun h9 => ?_) (fun h9 => ?_)
    · have h := ht h9
      refine V_aload_n d_Sp_span_23 rfl ?_
      refine U_geta d_Sp_span_24 fl_Sp_32 sh_0 rfl ?_
      refine U_iv0 cv_Sp_span_228 d_Sp_span_27 sh_20 rfl rfl (am_mono h ?_)
      rintro ro3 so3 σ3 ⟨rfl, rfl, h⟩
      refine V_aload_n d_Sp_span_30 rfl ?_
      refine U_geta d_Sp_span_31 fl_Sp_48 sh_0 rfl ?_
      refine U_iv0 cv_Sp_span_231 d_Sp_span_34 sh_103 rfl rfl (am_mono h ?_)
      rintro ro4 so4 σ4 ⟨rfl, rfl, h⟩
      refine V_aload_n d_Sp_span_37 rfl ?_
      refine U_geta d_Sp_span_38 fl_Sp_48 sh_0 rfl ?_
      refine V_aload_n d_Sp_span_41 rfl ?_
      refine U_geta d_Sp_span_42 fl_Sp_32 sh_0 rfl ?_
      refine U_iv0 cv_Sp_span_234 d_Sp_span_45 sh_20 rfl rfl (am_mono h ?_)
      rintro ro5 so5 σ5 ⟨z5, rfl, rfl, h⟩
      refine U_iv1 cv_Sp_span_237 d_Sp_span_48 sh_103 rfl rfl (am_mono h ?_)
      rintro ro6 so6 σ6 ⟨z6, rfl, rfl, h⟩
      obtain ⟨h3, h⟩ := h
      obtain ⟨ht, hf⟩ := h
      refine V_if_eq 56 d_Sp_span_51 h3 (fun h8 => ?_) (fun h8 => ?_)
      · have h := ht h8
        refine V_iload_n d_Sp_span_56 rfl ?_
        obtain ⟨h4, h⟩ := h
        obtain ⟨ht, hf⟩ := h
        refine V_if_ne 72 d_Sp_span_57 h4 (fun h7 => ?_) (fun h7 => ?_)
        · have h := ht h7
          refine V_aload_n d_Sp_span_72 rfl ?_
          refine U_geta d_Sp_span_73 fl_Sp_48 sh_0 rfl ?_
          refine U_geta d_Sp_span_76 fl_Sp_243 sh_103 rfl ?_
          refine V_iload_n d_Sp_span_79 rfl ?_
          obtain ⟨h5, h⟩ := h
          refine U_iald d_Sp_span_80 sh_107 h5 ?_
          refine V_drop 0 ?_
          refine V_drop 1 ?_
          refine V_drop 2 ?_
          exact h
        · have h := hf h7
          refine V_aload_n d_Sp_span_60 rfl ?_
          refine U_geta d_Sp_span_61 fl_Sp_48 sh_0 rfl ?_
          refine U_geta d_Sp_span_64 fl_Sp_240 sh_103 rfl ?_
          refine V_iload_n d_Sp_span_67 rfl ?_
          obtain ⟨h6, h⟩ := h
          refine U_iald d_Sp_span_68 sh_106 h6 ?_
          refine V_goto 81 d_Sp_span_69 ?_
          refine V_drop 0 ?_
          refine V_drop 1 ?_
          refine V_drop 2 ?_
          exact h
      · have h := hf h8
        refine V_iconst d_Sp_span_54 ?_
        exact V_iret d_Sp_span_55 rfl rfl h
    · have h := hf h9
      refine V_bipush d_Sp_span_20 ?_
      exact V_iret d_Sp_span_22 rfl rfl h
  · have h := hf h10
    refine V_bipush d_Sp_span_8 ?_
    exact V_iret d_Sp_span_10 rfl rfl h
theorem s_Sp_span_81 {x : am_Sc} {Po : Option am_AV → am_Sh → am_St → Prop} {σ : am_St} {vk0 : Int}
    (h : Po (some (Zi vk0)) am_SH σ) : am_U x m_Sp_span Po σ 81 [none, none, none] [Zi vk0] := by
  exact V_iret d_Sp_span_81 rfl rfl h
theorem s_Sp_quarrel_0 {x : am_Sc} {Po : Option am_AV → am_Sh → am_St → Prop} {σ : am_St}
    (h : am_U x m_Ra_gather (fun ro1 so1 σ1 => ro1 = none ∧ so1 = am_SH ∧ am_U x m_Pr_setBounds (fun ro2 so2 σ2 => ro2 = none ∧ so2 = am_SH ∧ am_U x m_Pr_leastQuarrel (fun ro3 so3 σ3 => ∃ z3 : Int, ro3 = some (Zi z3) ∧ so3 = am_SH ∧ am_U x m_Ra_picksOf (fun ro4 so4 σ4 => ∃ z4 : Int, ro4 = some (Zi z4) ∧ so4 = am_SH ∧ Po (some (Zi z4)) am_SH σ4) σ3 0 [some (Zr 20), some (Zi z3), none, none] []) σ2 0 [some (Zr 103), none, none, none] []) σ1 0 [some (Zr 103), none, none, none] []) σ 0 [some (Zr 20), none] []) : am_U x m_Sp_quarrel Po σ 0 [some (Zr 0)] [] := by
  refine V_aload_n d_Sp_quarrel_0 rfl ?_
  refine U_geta d_Sp_quarrel_1 fl_Sp_32 sh_0 rfl ?_
  refine U_iv0 cv_Sp_quarrel_228 d_Sp_quarrel_4 sh_20 rfl rfl (am_mono h ?_)
  rintro ro1 so1 σ1 ⟨rfl, rfl, h⟩
  refine V_aload_n d_Sp_quarrel_7 rfl ?_
  refine U_geta d_Sp_quarrel_8 fl_Sp_48 sh_0 rfl ?_
  refine U_iv0 cv_Sp_quarrel_231 d_Sp_quarrel_11 sh_103 rfl rfl (am_mono h ?_)
  rintro ro2 so2 σ2 ⟨rfl, rfl, h⟩
  refine V_aload_n d_Sp_quarrel_14 rfl ?_
  refine U_geta d_Sp_quarrel_15 fl_Sp_32 sh_0 rfl ?_
  refine V_aload_n d_Sp_quarrel_18 rfl ?_
  refine U_geta d_Sp_quarrel_19 fl_Sp_48 sh_0 rfl ?_
  refine U_iv0 cv_Sp_quarrel_246 d_Sp_quarrel_22 sh_103 rfl rfl (am_mono h ?_)
  rintro ro3 so3 σ3 ⟨z3, rfl, rfl, h⟩
  refine U_iv1 cv_Sp_quarrel_249 d_Sp_quarrel_25 sh_20 rfl rfl (am_mono h ?_)
  rintro ro4 so4 σ4 ⟨z4, rfl, rfl, h⟩
  exact V_iret d_Sp_quarrel_28 rfl rfl h
theorem s_Sp_rank_0 {x : am_Sc} {Po : Option am_AV → am_Sh → am_St → Prop} {σ : am_St}
    (h : am_U x m_Ra_gather (fun ro1 so1 σ1 => ro1 = none ∧ so1 = am_SH ∧ am_U x m_Re_takePicks (fun ro2 so2 σ2 => ro2 = none ∧ so2 = am_SH ∧ Po (some (Zi (σ2.1 109 0))) am_SH σ2) σ1 0 [some (Zr 108), none] []) σ 0 [some (Zr 20), none] []) : am_U x m_Sp_rank Po σ 0 [some (Zr 0)] [] := by
  refine V_aload_n d_Sp_rank_0 rfl ?_
  refine U_geta d_Sp_rank_1 fl_Sp_32 sh_0 rfl ?_
  refine U_iv0 cv_Sp_rank_228 d_Sp_rank_4 sh_20 rfl rfl (am_mono h ?_)
  rintro ro1 so1 σ1 ⟨rfl, rfl, h⟩
  refine V_aload_n d_Sp_rank_7 rfl ?_
  refine U_geta d_Sp_rank_8 fl_Sp_57 sh_0 rfl ?_
  refine U_iv0 cv_Sp_rank_252 d_Sp_rank_11 sh_108 rfl rfl (am_mono h ?_)
  rintro ro2 so2 σ2 ⟨rfl, rfl, h⟩
  refine V_aload_n d_Sp_rank_14 rfl ?_
  refine U_geta d_Sp_rank_15 fl_Sp_57 sh_0 rfl ?_
  refine U_geta d_Sp_rank_18 fl_Sp_255 sh_108 rfl ?_
  refine U_geti d_Sp_rank_21 fl_Sp_259 sh_109 ?_
  exact V_iret d_Sp_rank_24 rfl rfl h
theorem s_Sp_resolved_0 {x : am_Sc} {Po : Option am_AV → am_Sh → am_St → Prop} {σ : am_St} {v1 : Int}
    (h : am_U x m_Sp_isBlock (fun ro1 so1 σ1 => ∃ z1 : Int, ro1 = some (Zi z1) ∧ so1 = am_SH ∧ am_r z1 ∧ ((¬ z1 = 0 → am_U x m_Gr_cellsIn (fun ro2 so2 σ2 => ∃ z2 : Int, ro2 = some (Zi z2) ∧ so2 = am_SH ∧ am_r z2 ∧ ((¬ z2 = 0 → am_U x m_Ra_gather (fun ro3 so3 σ3 => ro3 = none ∧ so3 = am_SH ∧ am_U x m_Re_takePicks (fun ro4 so4 σ4 => ro4 = none ∧ so4 = am_SH ∧ am_U x m_Ba_isResolved (fun ro5 so5 σ5 => ∃ z5 : Int, ro5 = some (Zi z5) ∧ so5 = am_SH ∧ am_r z5 ∧ ((z5 = 0 → am_U x m_Ra_isTouched (fun ro6 so6 σ6 => ∃ z6 : Int, ro6 = some (Zi z6) ∧ so6 = am_SH ∧ am_r z6 ∧ ((z6 = 0 → am_U x m_Sp_resolved Po σ6 70 [none, none] [Zi 0]) ∧ (¬ z6 = 0 → am_U x m_Sp_resolved Po σ6 70 [none, none] [Zi 1]))) σ5 0 [some (Zr 20), some (Zi v1), none] []) ∧ (¬ z5 = 0 → Po (some (Zi 2)) am_SH σ5))) σ4 0 [some (Zr 109), some (Zi v1), none] []) σ3 0 [some (Zr 108), none] []) σ2 0 [some (Zr 20), none] []) ∧ (z2 = 0 → Po (some (Zi (-1))) am_SH σ2))) σ1 0 [some (Zr 1), some (Zi v1)] []) ∧ (z1 = 0 → Po (some (Zi (-2))) am_SH σ1))) σ 0 [some (Zr 0), some (Zi v1)] []) : am_U x m_Sp_resolved Po σ 0 [some (Zr 0), some (Zi v1)] [] := by
  refine V_aload_n d_Sp_resolved_0 rfl ?_
  refine V_iload_n d_Sp_resolved_1 rfl ?_
  refine U_iv1 cv_Sp_resolved_96 d_Sp_resolved_2 sh_0 rfl rfl (am_mono h ?_)
  rintro ro1 so1 σ1 ⟨z1, rfl, rfl, h⟩
  obtain ⟨h1, h⟩ := h
  obtain ⟨ht, hf⟩ := h
  refine V_if_ne 11 d_Sp_resolved_5 h1 (fun h8 => ?_) (fun h8 => ?_)
  · have h := ht h8
    refine V_aload_n d_Sp_resolved_11 rfl ?_
    refine U_geta d_Sp_resolved_12 fl_Sp_22 sh_0 rfl ?_
    refine V_iload_n d_Sp_resolved_15 rfl ?_
    refine U_iv1 cv_Sp_resolved_116 d_Sp_resolved_16 sh_1 rfl rfl (am_mono h ?_)
    rintro ro2 so2 σ2 ⟨z2, rfl, rfl, h⟩
    obtain ⟨h2, h⟩ := h
    obtain ⟨ht, hf⟩ := h
    refine V_if_ne 24 d_Sp_resolved_19 h2 (fun h7 => ?_) (fun h7 => ?_)
    · have h := ht h7
      refine V_aload_n d_Sp_resolved_24 rfl ?_
      refine U_geta d_Sp_resolved_25 fl_Sp_32 sh_0 rfl ?_
      refine U_iv0 cv_Sp_resolved_228 d_Sp_resolved_28 sh_20 rfl rfl (am_mono h ?_)
      rintro ro3 so3 σ3 ⟨rfl, rfl, h⟩
      refine V_aload_n d_Sp_resolved_31 rfl ?_
      refine U_geta d_Sp_resolved_32 fl_Sp_57 sh_0 rfl ?_
      refine U_iv0 cv_Sp_resolved_252 d_Sp_resolved_35 sh_108 rfl rfl (am_mono h ?_)
      rintro ro4 so4 σ4 ⟨rfl, rfl, h⟩
      refine V_aload_n d_Sp_resolved_38 rfl ?_
      refine U_geta d_Sp_resolved_39 fl_Sp_57 sh_0 rfl ?_
      refine U_geta d_Sp_resolved_42 fl_Sp_255 sh_108 rfl ?_
      refine V_iload_n d_Sp_resolved_45 rfl ?_
      refine U_iv1 cv_Sp_resolved_264 d_Sp_resolved_46 sh_109 rfl rfl (am_mono h ?_)
      rintro ro5 so5 σ5 ⟨z5, rfl, rfl, h⟩
      obtain ⟨h3, h⟩ := h
      obtain ⟨ht, hf⟩ := h
      refine V_if_eq 54 d_Sp_resolved_49 h3 (fun h6 => ?_) (fun h6 => ?_)
      · have h := ht h6
        refine V_aload_n d_Sp_resolved_54 rfl ?_
        refine U_geta d_Sp_resolved_55 fl_Sp_32 sh_0 rfl ?_
        refine V_iload_n d_Sp_resolved_58 rfl ?_
        refine U_iv1 cv_Sp_resolved_267 d_Sp_resolved_59 sh_20 rfl rfl (am_mono h ?_)
        rintro ro6 so6 σ6 ⟨z6, rfl, rfl, h⟩
        obtain ⟨h4, h⟩ := h
        obtain ⟨ht, hf⟩ := h
        refine V_if_eq 69 d_Sp_resolved_62 h4 (fun h5 => ?_) (fun h5 => ?_)
        · have h := ht h5
          refine V_iconst d_Sp_resolved_69 ?_
          refine V_drop 0 ?_
          refine V_drop 1 ?_
          exact h
        · have h := hf h5
          refine V_iconst d_Sp_resolved_65 ?_
          refine V_goto 70 d_Sp_resolved_66 ?_
          refine V_drop 0 ?_
          refine V_drop 1 ?_
          exact h
      · have h := hf h6
        refine V_iconst d_Sp_resolved_52 ?_
        exact V_iret d_Sp_resolved_53 rfl rfl h
    · have h := hf h7
      refine V_iconst d_Sp_resolved_22 ?_
      exact V_iret d_Sp_resolved_23 rfl rfl h
  · have h := hf h8
    refine V_bipush d_Sp_resolved_8 ?_
    exact V_iret d_Sp_resolved_10 rfl rfl h
theorem s_Sp_resolved_70 {x : am_Sc} {Po : Option am_AV → am_Sh → am_St → Prop} {σ : am_St} {vk0 : Int}
    (h : Po (some (Zi vk0)) am_SH σ) : am_U x m_Sp_resolved Po σ 70 [none, none] [Zi vk0] := by
  exact V_iret d_Sp_resolved_70 rfl rfl h
theorem s_Sp_best_0 {x : am_Sc} {Po : Option am_AV → am_Sh → am_St → Prop} {σ : am_St} {v1 : Int}
    (h : am_U x m_Sp_isWithin (fun ro1 so1 σ1 => ∃ z1 : Int, ro1 = some (Zi z1) ∧ so1 = am_SH ∧ am_r z1 ∧ ((¬ z1 = 0 → am_r (σ1.1 8 3) ∧ ((¬ (σ1.1 8 3) = 0 → am_U x m_Ra_gather (fun ro2 so2 σ2 => ro2 = none ∧ so2 = am_SH ∧ am_U x m_Re_takePicks (fun ro3 so3 σ3 => ro3 = none ∧ so3 = am_SH ∧ am_U x m_Re_findBestEar (fun ro4 so4 σ4 => ro4 = none ∧ so4 = am_SH ∧ am_r v1 ∧ ((¬ v1 = 0 → am_U x m_Sp_best Po σ4 67 [none, none] [Zi (σ4.1 108 7)]) ∧ (v1 = 0 → am_U x m_Sp_best Po σ4 67 [none, none] [Zi (σ4.1 108 6)]))) σ3 0 [some (Zr 108), none, none] []) σ2 0 [some (Zr 108), none] []) σ1 0 [some (Zr 20), none] []) ∧ ((σ1.1 8 3) = 0 → Po (some (Zi (-4))) am_SH σ1))) ∧ (z1 = 0 → Po (some (Zi (-3))) am_SH σ1))) σ 0 [some (Zi v1), some (Zi 0), some (Zi 1)] []) : am_U x m_Sp_best Po σ 0 [some (Zr 0), some (Zi v1)] [] := by
  refine V_iload_n d_Sp_best_0 rfl ?_
  refine V_iconst d_Sp_best_1 ?_
  refine V_iconst d_Sp_best_2 ?_
  refine U_is3 cv_Sp_best_82 d_Sp_best_3  rfl (am_mono h ?_)
  rintro ro1 so1 σ1 ⟨z1, rfl, rfl, h⟩
  obtain ⟨h1, h⟩ := h
  obtain ⟨ht, hf⟩ := h
  refine V_if_ne 12 d_Sp_best_6 h1 (fun h6 => ?_) (fun h6 => ?_)
  · have h := ht h6
    refine V_aload_n d_Sp_best_12 rfl ?_
    refine U_geta d_Sp_best_13 fl_Sp_28 sh_0 rfl ?_
    refine U_geti d_Sp_best_16 fl_Sp_157 sh_8 ?_
    obtain ⟨h2, h⟩ := h
    obtain ⟨ht, hf⟩ := h
    refine V_if_ne 25 d_Sp_best_19 h2 (fun h5 => ?_) (fun h5 => ?_)
    · have h := ht h5
      refine V_aload_n d_Sp_best_25 rfl ?_
      refine U_geta d_Sp_best_26 fl_Sp_32 sh_0 rfl ?_
      refine U_iv0 cv_Sp_best_228 d_Sp_best_29 sh_20 rfl rfl (am_mono h ?_)
      rintro ro2 so2 σ2 ⟨rfl, rfl, h⟩
      refine V_aload_n d_Sp_best_32 rfl ?_
      refine U_geta d_Sp_best_33 fl_Sp_57 sh_0 rfl ?_
      refine U_iv0 cv_Sp_best_252 d_Sp_best_36 sh_108 rfl rfl (am_mono h ?_)
      rintro ro3 so3 σ3 ⟨rfl, rfl, h⟩
      refine V_aload_n d_Sp_best_39 rfl ?_
      refine U_geta d_Sp_best_40 fl_Sp_57 sh_0 rfl ?_
      refine U_iv0 cv_Sp_best_270 d_Sp_best_43 sh_108 rfl rfl (am_mono h ?_)
      rintro ro4 so4 σ4 ⟨rfl, rfl, h⟩
      refine V_iload_n d_Sp_best_46 rfl ?_
      obtain ⟨h3, h⟩ := h
      obtain ⟨ht, hf⟩ := h
      refine V_if_ne 60 d_Sp_best_47 h3 (fun h4 => ?_) (fun h4 => ?_)
      · have h := ht h4
        refine V_aload_n d_Sp_best_60 rfl ?_
        refine U_geta d_Sp_best_61 fl_Sp_57 sh_0 rfl ?_
        refine U_geti d_Sp_best_64 fl_Sp_276 sh_108 ?_
        refine V_drop 0 ?_
        refine V_drop 1 ?_
        exact h
      · have h := hf h4
        refine V_aload_n d_Sp_best_50 rfl ?_
        refine U_geta d_Sp_best_51 fl_Sp_57 sh_0 rfl ?_
        refine U_geti d_Sp_best_54 fl_Sp_273 sh_108 ?_
        refine V_goto 67 d_Sp_best_57 ?_
        refine V_drop 0 ?_
        refine V_drop 1 ?_
        exact h
    · have h := hf h5
      refine V_bipush d_Sp_best_22 ?_
      exact V_iret d_Sp_best_24 rfl rfl h
  · have h := hf h6
    refine V_bipush d_Sp_best_9 ?_
    exact V_iret d_Sp_best_11 rfl rfl h
theorem s_Sp_best_67 {x : am_Sc} {Po : Option am_AV → am_Sh → am_St → Prop} {σ : am_St} {vk0 : Int}
    (h : Po (some (Zi vk0)) am_SH σ) : am_U x m_Sp_best Po σ 67 [none, none] [Zi vk0] := by
  exact V_iret d_Sp_best_67 rfl rfl h
theorem s_Sp_heap_0 {x : am_Sc} {Po : Option am_AV → am_Sh → am_St → Prop} {σ : am_St} {v1 v2 v3 : Int}
    (h : am_U x m_Sp_isShake (fun ro1 so1 σ1 => ∃ z1 : Int, ro1 = some (Zi z1) ∧ so1 = am_SH ∧ am_r z1 ∧ ((z1 = 0 → am_U x m_Sp_heap Po σ1 16 [none, none, none, none] []) ∧ (¬ z1 = 0 → am_U x m_Sp_isCell (fun ro2 so2 σ2 => ∃ z2 : Int, ro2 = some (Zi z2) ∧ so2 = am_SH ∧ am_r z2 ∧ ((¬ z2 = 0 → am_U x m_Sp_isWithin (fun ro3 so3 σ3 => ∃ z3 : Int, ro3 = some (Zi z3) ∧ so3 = am_SH ∧ am_r z3 ∧ ((¬ z3 = 0 → am_U x m_Fi_heapUp (fun ro4 so4 σ4 => ro4 = none ∧ so4 = am_SH ∧ am_r v3 ∧ ((¬ v3 = 0 → am_U x m_Sp_heap Po σ4 61 [none, none, none, none] [Zi (σ4.1 134 6)]) ∧ (v3 = 0 → am_U x m_Sp_heap Po σ4 61 [none, none, none, none] [Zi (σ4.1 134 5)]))) σ3 0 [some (Zr 134), some (Zi v1), some (Zi v2), none, none, none] []) ∧ (z3 = 0 → Po (some (Zi (-3))) am_SH σ3))) σ2 0 [some (Zi v3), some (Zi 0), some (Zi 1)] []) ∧ (z2 = 0 → am_U x m_Sp_heap Po σ2 16 [none, none, none, none] []))) σ1 0 [some (Zr 0), some (Zi v2)] []))) σ 0 [some (Zr 0), some (Zi v1)] []) : am_U x m_Sp_heap Po σ 0 [some (Zr 0), some (Zi v1), some (Zi v2), some (Zi v3)] [] := by
  refine V_aload_n d_Sp_heap_0 rfl ?_
  refine V_iload_n d_Sp_heap_1 rfl ?_
  refine U_iv1 cv_Sp_heap_163 d_Sp_heap_2 sh_0 rfl rfl (am_mono h ?_)
  rintro ro1 so1 σ1 ⟨z1, rfl, rfl, h⟩
  obtain ⟨h1, h⟩ := h
  obtain ⟨ht, hf⟩ := h
  refine V_if_eq 16 d_Sp_heap_5 h1 (fun h8 => ?_) (fun h8 => ?_)
  · have h := ht h8
    refine V_drop 0 ?_
    refine V_drop 1 ?_
    refine V_drop 2 ?_
    refine V_drop 3 ?_
    exact h
  · have h := hf h8
    refine V_aload_n d_Sp_heap_8 rfl ?_
    refine V_iload_n d_Sp_heap_9 rfl ?_
    refine U_iv1 cv_Sp_heap_120 d_Sp_heap_10 sh_0 rfl rfl (am_mono h ?_)
    rintro ro2 so2 σ2 ⟨z2, rfl, rfl, h⟩
    obtain ⟨h2, h⟩ := h
    obtain ⟨ht, hf⟩ := h
    refine V_if_ne 19 d_Sp_heap_13 h2 (fun h7 => ?_) (fun h7 => ?_)
    · have h := ht h7
      refine V_iload_n d_Sp_heap_19 rfl ?_
      refine V_iconst d_Sp_heap_20 ?_
      refine V_iconst d_Sp_heap_21 ?_
      refine U_is3 cv_Sp_heap_82 d_Sp_heap_22  rfl (am_mono h ?_)
      rintro ro3 so3 σ3 ⟨z3, rfl, rfl, h⟩
      obtain ⟨h3, h⟩ := h
      obtain ⟨ht, hf⟩ := h
      refine V_if_ne 31 d_Sp_heap_25 h3 (fun h6 => ?_) (fun h6 => ?_)
      · have h := ht h6
        refine V_aload_n d_Sp_heap_31 rfl ?_
        refine U_geta d_Sp_heap_32 fl_Sp_64 sh_0 rfl ?_
        refine V_iload_n d_Sp_heap_35 rfl ?_
        refine V_iload_n d_Sp_heap_36 rfl ?_
        refine U_iv2 cv_Sp_heap_279 d_Sp_heap_37 sh_134 rfl rfl (am_mono h ?_)
        rintro ro4 so4 σ4 ⟨rfl, rfl, h⟩
        refine V_iload_n d_Sp_heap_40 rfl ?_
        obtain ⟨h4, h⟩ := h
        obtain ⟨ht, hf⟩ := h
        refine V_if_ne 54 d_Sp_heap_41 h4 (fun h5 => ?_) (fun h5 => ?_)
        · have h := ht h5
          refine V_aload_n d_Sp_heap_54 rfl ?_
          refine U_geta d_Sp_heap_55 fl_Sp_64 sh_0 rfl ?_
          refine U_geti d_Sp_heap_58 fl_Sp_285 sh_134 ?_
          refine V_drop 0 ?_
          refine V_drop 1 ?_
          refine V_drop 2 ?_
          refine V_drop 3 ?_
          exact h
        · have h := hf h5
          refine V_aload_n d_Sp_heap_44 rfl ?_
          refine U_geta d_Sp_heap_45 fl_Sp_64 sh_0 rfl ?_
          refine U_geti d_Sp_heap_48 fl_Sp_282 sh_134 ?_
          refine V_goto 61 d_Sp_heap_51 ?_
          refine V_drop 0 ?_
          refine V_drop 1 ?_
          refine V_drop 2 ?_
          refine V_drop 3 ?_
          exact h
      · have h := hf h6
        refine V_bipush d_Sp_heap_28 ?_
        exact V_iret d_Sp_heap_30 rfl rfl h
    · have h := hf h7
      refine V_drop 0 ?_
      refine V_drop 1 ?_
      refine V_drop 2 ?_
      refine V_drop 3 ?_
      exact h
theorem s_Sp_heap_16 {x : am_Sc} {Po : Option am_AV → am_Sh → am_St → Prop} {σ : am_St}
    (h : Po (some (Zi (-2))) am_SH σ) : am_U x m_Sp_heap Po σ 16 [none, none, none, none] [] := by
  refine V_bipush d_Sp_heap_16 ?_
  exact V_iret d_Sp_heap_18 rfl rfl h
theorem s_Sp_heap_61 {x : am_Sc} {Po : Option am_AV → am_Sh → am_St → Prop} {σ : am_St} {vk0 : Int}
    (h : Po (some (Zi vk0)) am_SH σ) : am_U x m_Sp_heap Po σ 61 [none, none, none, none] [Zi vk0] := by
  exact V_iret d_Sp_heap_61 rfl rfl h
theorem s_Sp_move_0 {x : am_Sc} {Po : Option am_AV → am_Sh → am_St → Prop} {σ : am_St} {v1 : Int}
    (h : am_U x m_Sp_isShake (fun ro1 so1 σ1 => ∃ z1 : Int, ro1 = some (Zi z1) ∧ so1 = am_SH ∧ am_r z1 ∧ ((¬ z1 = 0 → am_U x m_Bo_hasPicks (fun ro2 so2 σ2 => ∃ z2 : Int, ro2 = some (Zi z2) ∧ so2 = am_SH ∧ am_r z2 ∧ ((¬ z2 = 0 → am_U x m_Fi_moveShake (fun ro3 so3 σ3 => ∃ z3 : Int, ro3 = some (Zi z3) ∧ so3 = am_SH ∧ Po (some (Zi z3)) am_SH σ3) σ2 0 [some (Zr 134), some (Zi v1), none, none, none, none] []) ∧ (z2 = 0 → Po (some (Zi (-4))) am_SH σ2))) σ1 0 [some (Zr 8), some (Zi v1), none] []) ∧ (z1 = 0 → Po (some (Zi (-2))) am_SH σ1))) σ 0 [some (Zr 0), some (Zi v1)] []) : am_U x m_Sp_move Po σ 0 [some (Zr 0), some (Zi v1)] [] := by
  refine V_aload_n d_Sp_move_0 rfl ?_
  refine V_iload_n d_Sp_move_1 rfl ?_
  refine U_iv1 cv_Sp_move_163 d_Sp_move_2 sh_0 rfl rfl (am_mono h ?_)
  rintro ro1 so1 σ1 ⟨z1, rfl, rfl, h⟩
  obtain ⟨h1, h⟩ := h
  obtain ⟨ht, hf⟩ := h
  refine V_if_ne 11 d_Sp_move_5 h1 (fun h4 => ?_) (fun h4 => ?_)
  · have h := ht h4
    refine V_aload_n d_Sp_move_11 rfl ?_
    refine U_geta d_Sp_move_12 fl_Sp_28 sh_0 rfl ?_
    refine V_iload_n d_Sp_move_15 rfl ?_
    refine U_iv1 cv_Sp_move_288 d_Sp_move_16 sh_8 rfl rfl (am_mono h ?_)
    rintro ro2 so2 σ2 ⟨z2, rfl, rfl, h⟩
    obtain ⟨h2, h⟩ := h
    obtain ⟨ht, hf⟩ := h
    refine V_if_ne 25 d_Sp_move_19 h2 (fun h3 => ?_) (fun h3 => ?_)
    · have h := ht h3
      refine V_aload_n d_Sp_move_25 rfl ?_
      refine U_geta d_Sp_move_26 fl_Sp_64 sh_0 rfl ?_
      refine V_iload_n d_Sp_move_29 rfl ?_
      refine U_iv1 cv_Sp_move_291 d_Sp_move_30 sh_134 rfl rfl (am_mono h ?_)
      rintro ro3 so3 σ3 ⟨z3, rfl, rfl, h⟩
      exact V_iret d_Sp_move_33 rfl rfl h
    · have h := hf h3
      refine V_bipush d_Sp_move_22 ?_
      exact V_iret d_Sp_move_24 rfl rfl h
  · have h := hf h4
    refine V_bipush d_Sp_move_8 ?_
    exact V_iret d_Sp_move_10 rfl rfl h
theorem s_Sp_off_0 {x : am_Sc} {Po : Option am_AV → am_Sh → am_St → Prop} {σ : am_St} {v1 : Int}
    (h : am_U x m_Sp_isEar (fun ro1 so1 σ1 => ∃ z1 : Int, ro1 = some (Zi z1) ∧ so1 = am_SH ∧ am_r z1 ∧ ((z1 = 0 → am_U x m_Sp_off Po σ1 21 [none, none] [Zi (-102)]) ∧ (¬ z1 = 0 → am_U x m_Fi_clockOff (fun ro2 so2 σ2 => ∃ z2 : Int, ro2 = some (Zi z2) ∧ so2 = am_SH ∧ am_U x m_Sp_off Po σ2 21 [none, none] [Zi z2]) σ1 0 [some (Zr 134), some (Zi v1), none, none, none, none, none] []))) σ 0 [some (Zr 0), some (Zi v1)] []) : am_U x m_Sp_off Po σ 0 [some (Zr 0), some (Zi v1)] [] := by
  refine V_aload_n d_Sp_off_0 rfl ?_
  refine V_iload_n d_Sp_off_1 rfl ?_
  refine U_iv1 cv_Sp_off_151 d_Sp_off_2 sh_0 rfl rfl (am_mono h ?_)
  rintro ro1 so1 σ1 ⟨z1, rfl, rfl, h⟩
  obtain ⟨h1, h⟩ := h
  obtain ⟨ht, hf⟩ := h
  refine V_if_eq 19 d_Sp_off_5 h1 (fun h2 => ?_) (fun h2 => ?_)
  · have h := ht h2
    refine V_bipush d_Sp_off_19 ?_
    refine V_drop 0 ?_
    refine V_drop 1 ?_
    exact h
  · have h := hf h2
    refine V_aload_n d_Sp_off_8 rfl ?_
    refine U_geta d_Sp_off_9 fl_Sp_64 sh_0 rfl ?_
    refine V_iload_n d_Sp_off_12 rfl ?_
    refine U_iv1 cv_Sp_off_294 d_Sp_off_13 sh_134 rfl rfl (am_mono h ?_)
    rintro ro2 so2 σ2 ⟨z2, rfl, rfl, h⟩
    refine V_goto 21 d_Sp_off_16 ?_
    refine V_drop 0 ?_
    refine V_drop 1 ?_
    exact h
theorem s_Sp_off_21 {x : am_Sc} {Po : Option am_AV → am_Sh → am_St → Prop} {σ : am_St} {vk0 : Int}
    (h : Po (some (Zi vk0)) am_SH σ) : am_U x m_Sp_off Po σ 21 [none, none] [Zi vk0] := by
  exact V_iret d_Sp_off_21 rfl rfl h
theorem s_Sp_board_0 {x : am_Sc} {Po : Option am_AV → am_Sh → am_St → Prop} {σ : am_St} {v1 v2 v3 : Int}
    (h : am_U x m_Sp_isWithin (fun ro1 so1 σ1 => ∃ z1 : Int, ro1 = some (Zi z1) ∧ so1 = am_SH ∧ am_r z1 ∧ ((z1 = 0 → am_U x m_Sp_board Po σ1 30 [none, none, none, none, none] []) ∧ (¬ z1 = 0 → am_U x m_Sp_isWithin (fun ro2 so2 σ2 => ∃ z2 : Int, ro2 = some (Zi z2) ∧ so2 = am_SH ∧ am_r z2 ∧ ((z2 = 0 → am_U x m_Sp_board Po σ2 30 [none, none, none, none, none] []) ∧ (¬ z2 = 0 → am_U x m_Sp_isWithin (fun ro3 so3 σ3 => ∃ z3 : Int, ro3 = some (Zi z3) ∧ so3 = am_SH ∧ am_r z3 ∧ ((¬ z3 = 0 → am_U x m_Me_keep (fun ro4 so4 σ4 => ro4 = none ∧ so4 = am_SH ∧ am_U x m_Gr_paintBoard (fun ro5 so5 σ5 => ro5 = none ∧ so5 = am_SH ∧ am_U x m_Ft_aimAtForetold (fun ro6 so6 σ6 => ro6 = none ∧ so6 = am_SH ∧ am_U x m_Ar_fill (fun ro7 so7 σ7 => ro7 = none ∧ so7 = am_SH ∧ am_U x m_Ft_sweep (fun ro8 so8 σ8 => ∃ z8 : Int, ro8 = some (Zi z8) ∧ so8 = am_SH ∧ am_U x m_Gr_countAsOnBoard (fun ro9 so9 σ9 => ∃ z9 : Int, ro9 = some (Zi z9) ∧ so9 = am_SH ∧ am_U x m_Me_bringBack (fun ro10 so10 σ10 => ro10 = none ∧ so10 = am_SH ∧ Po (some (Zi z9)) am_SH σ10) σ9 0 [some (Zr 142)] []) σ8 0 [some (Zr 1), some (Zi v1), some (Zi v2), none, none] []) σ7 0 [some (Zr 35), some (Zi 10), none, none, none, none, none, none] []) σ6 0 [some (Zr 3), some (Zi (am_div (v1 + v2) 2)), none, none] []) σ5 0 [some (Zr 35), some (Zi v3), none, none] []) σ4 0 [some (Zr 1), some (Zi v1), some (Zi v2), none] []) σ3 0 [some (Zr 142)] []) ∧ (z3 = 0 → am_U x m_Sp_board Po σ3 30 [none, none, none, none, none] []))) σ2 0 [some (Zi v3), some (Zi 0), some (Zi 20)] []))) σ1 0 [some (Zi v2), some (Zi 1), some (Zi 60)] []))) σ 0 [some (Zi v1), some (Zi 1), some (Zi 60)] []) : am_U x m_Sp_board Po σ 0 [some (Zr 0), some (Zi v1), some (Zi v2), some (Zi v3), none] [] := by
  refine V_iload_n d_Sp_board_0 rfl ?_
  refine V_iconst d_Sp_board_1 ?_
  refine V_bipush d_Sp_board_2 ?_
  refine U_is3 cv_Sp_board_82 d_Sp_board_4  rfl (am_mono h ?_)
  rintro ro1 so1 σ1 ⟨z1, rfl, rfl, h⟩
  obtain ⟨h1, h⟩ := h
  obtain ⟨ht, hf⟩ := h
  refine V_if_eq 30 d_Sp_board_7 h1 (fun h6 => ?_) (fun h6 => ?_)
  · have h := ht h6
    refine V_drop 0 ?_
    refine V_drop 1 ?_
    refine V_drop 2 ?_
    refine V_drop 3 ?_
    exact h
  · have h := hf h6
    refine V_iload_n d_Sp_board_10 rfl ?_
    refine V_iconst d_Sp_board_11 ?_
    refine V_bipush d_Sp_board_12 ?_
    refine U_is3 cv_Sp_board_82 d_Sp_board_14  rfl (am_mono h ?_)
    rintro ro2 so2 σ2 ⟨z2, rfl, rfl, h⟩
    obtain ⟨h2, h⟩ := h
    obtain ⟨ht, hf⟩ := h
    refine V_if_eq 30 d_Sp_board_17 h2 (fun h5 => ?_) (fun h5 => ?_)
    · have h := ht h5
      refine V_drop 0 ?_
      refine V_drop 1 ?_
      refine V_drop 2 ?_
      refine V_drop 3 ?_
      exact h
    · have h := hf h5
      refine V_iload_n d_Sp_board_20 rfl ?_
      refine V_iconst d_Sp_board_21 ?_
      refine V_bipush d_Sp_board_22 ?_
      refine U_is3 cv_Sp_board_82 d_Sp_board_24  rfl (am_mono h ?_)
      rintro ro3 so3 σ3 ⟨z3, rfl, rfl, h⟩
      obtain ⟨h3, h⟩ := h
      obtain ⟨ht, hf⟩ := h
      refine V_if_ne 33 d_Sp_board_27 h3 (fun h4 => ?_) (fun h4 => ?_)
      · have h := ht h4
        refine V_aload_n d_Sp_board_33 rfl ?_
        refine U_geta d_Sp_board_34 fl_Sp_78 sh_0 rfl ?_
        refine U_iv0 cv_Sp_board_297 d_Sp_board_37 sh_142 rfl rfl (am_mono h ?_)
        rintro ro4 so4 σ4 ⟨rfl, rfl, h⟩
        refine V_aload_n d_Sp_board_40 rfl ?_
        refine U_geta d_Sp_board_41 fl_Sp_22 sh_0 rfl ?_
        refine V_iload_n d_Sp_board_44 rfl ?_
        refine V_iload_n d_Sp_board_45 rfl ?_
        refine U_iv2 cv_Sp_board_300 d_Sp_board_46 sh_1 rfl rfl (am_mono h ?_)
        rintro ro5 so5 σ5 ⟨rfl, rfl, h⟩
        refine V_aload_n d_Sp_board_49 rfl ?_
        refine U_geta d_Sp_board_50 fl_Sp_39 sh_0 rfl ?_
        refine V_iload_n d_Sp_board_53 rfl ?_
        refine U_iv1 cv_Sp_board_303 d_Sp_board_54 sh_35 rfl rfl (am_mono h ?_)
        rintro ro6 so6 σ6 ⟨rfl, rfl, h⟩
        refine V_aload_n d_Sp_board_57 rfl ?_
        refine U_geta d_Sp_board_58 fl_Sp_22 sh_0 rfl ?_
        refine U_geta d_Sp_board_61 fl_Sp_100 sh_1 rfl ?_
        refine V_iload_n d_Sp_board_64 rfl ?_
        refine V_iload_n d_Sp_board_65 rfl ?_
        refine V_iadd d_Sp_board_66 ?_
        refine V_iconst d_Sp_board_67 ?_
        refine V_idiv d_Sp_board_68 (by decide) (by decide) ?_
        refine U_is2 cv_Sp_board_306 d_Sp_board_69  rfl (am_mono h ?_)
        rintro ro7 so7 σ7 ⟨rfl, rfl, h⟩
        refine V_aload_n d_Sp_board_72 rfl ?_
        refine U_geta d_Sp_board_73 fl_Sp_39 sh_0 rfl ?_
        refine V_bipush d_Sp_board_76 ?_
        refine U_iv1 cv_Sp_board_225 d_Sp_board_78 sh_35 rfl rfl (am_mono h ?_)
        rintro ro8 so8 σ8 ⟨z8, rfl, rfl, h⟩
        refine V_pop d_Sp_board_81 ?_
        refine V_aload_n d_Sp_board_82 rfl ?_
        refine U_geta d_Sp_board_83 fl_Sp_22 sh_0 rfl ?_
        refine V_iload_n d_Sp_board_86 rfl ?_
        refine V_iload_n d_Sp_board_87 rfl ?_
        refine U_iv2 cv_Sp_board_312 d_Sp_board_88 sh_1 rfl rfl (am_mono h ?_)
        rintro ro9 so9 σ9 ⟨z9, rfl, rfl, h⟩
        refine V_istore d_Sp_board_91 rfl ?_
        refine V_aload_n d_Sp_board_93 rfl ?_
        refine U_geta d_Sp_board_94 fl_Sp_78 sh_0 rfl ?_
        refine U_iv0 cv_Sp_board_315 d_Sp_board_97 sh_142 rfl rfl (am_mono h ?_)
        rintro ro10 so10 σ10 ⟨rfl, rfl, h⟩
        refine V_iload d_Sp_board_100 rfl ?_
        exact V_iret d_Sp_board_102 rfl rfl h
      · have h := hf h4
        refine V_drop 0 ?_
        refine V_drop 1 ?_
        refine V_drop 2 ?_
        refine V_drop 3 ?_
        exact h
theorem s_Sp_board_30 {x : am_Sc} {Po : Option am_AV → am_Sh → am_St → Prop} {σ : am_St}
    (h : Po (some (Zi (-3))) am_SH σ) : am_U x m_Sp_board Po σ 30 [none, none, none, none, none] [] := by
  refine V_bipush d_Sp_board_30 ?_
  exact V_iret d_Sp_board_32 rfl rfl h
theorem s_Sp_write_0 {x : am_Sc} {Po : Option am_AV → am_Sh → am_St → Prop} {σ : am_St} {v1 v3 : Int}
    (h : am_U x m_Sp_isWithin (fun ro1 so1 σ1 => ∃ z1 : Int, ro1 = some (Zi z1) ∧ so1 = am_SH ∧ am_r z1 ∧ ((¬ z1 = 0 → am_r ((σ1.1 137 3) + v3) ∧ ((((σ1.1 137 3) + v3) ≤ 160 → am_U x m_Sc_append (fun ro2 so2 σ2 => ro2 = none ∧ so2 = am_SH ∧ Po (some (Zi (σ2.1 137 3))) am_SH σ2) σ1 0 [some (Zr 137), some (Zl v1), none, some (Zi v3), none] []) ∧ (¬ ((σ1.1 137 3) + v3) ≤ 160 → Po (some (Zi (-5))) am_SH σ1))) ∧ (z1 = 0 → Po (some (Zi (-3))) am_SH σ1))) σ 0 [some (Zi v3), some (Zi 1), some (Zi 8)] []) : am_U x m_Sp_write Po σ 0 [some (Zr 0), some (Zl v1), none, some (Zi v3)] [] := by
  refine V_iload_n d_Sp_write_0 rfl ?_
  refine V_iconst d_Sp_write_1 ?_
  refine V_bipush d_Sp_write_2 ?_
  refine U_is3 cv_Sp_write_82 d_Sp_write_4  rfl (am_mono h ?_)
  rintro ro1 so1 σ1 ⟨z1, rfl, rfl, h⟩
  obtain ⟨h1, h⟩ := h
  obtain ⟨ht, hf⟩ := h
  refine V_if_ne 13 d_Sp_write_7 h1 (fun h4 => ?_) (fun h4 => ?_)
  · have h := ht h4
    refine V_aload_n d_Sp_write_13 rfl ?_
    refine U_geta d_Sp_write_14 fl_Sp_71 sh_0 rfl ?_
    refine U_geti d_Sp_write_17 fl_Sp_318 sh_137 ?_
    refine V_iload_n d_Sp_write_20 rfl ?_
    refine V_iadd d_Sp_write_21 ?_
    refine V_sipush d_Sp_write_22 ?_
    obtain ⟨h2, h⟩ := h
    obtain ⟨ht, hf⟩ := h
    refine V_icmp_le 31 d_Sp_write_25 h2 (by decide) (fun h3 => ?_) (fun h3 => ?_)
    · have h := ht h3
      refine V_aload_n d_Sp_write_31 rfl ?_
      refine U_geta d_Sp_write_32 fl_Sp_71 sh_0 rfl ?_
      refine V_lload_n d_Sp_write_35 rfl ?_
      refine V_iload_n d_Sp_write_36 rfl ?_
      refine U_iv2 cv_Sp_write_321 d_Sp_write_37 sh_137 rfl rfl (am_mono h ?_)
      rintro ro2 so2 σ2 ⟨rfl, rfl, h⟩
      refine V_aload_n d_Sp_write_40 rfl ?_
      refine U_geta d_Sp_write_41 fl_Sp_71 sh_0 rfl ?_
      refine U_geti d_Sp_write_44 fl_Sp_318 sh_137 ?_
      exact V_iret d_Sp_write_47 rfl rfl h
    · have h := hf h3
      refine V_bipush d_Sp_write_28 ?_
      exact V_iret d_Sp_write_30 rfl rfl h
  · have h := hf h4
    refine V_bipush d_Sp_write_10 ?_
    exact V_iret d_Sp_write_12 rfl rfl h
theorem s_Sp_erase_0 {x : am_Sc} {Po : Option am_AV → am_Sh → am_St → Prop} {σ : am_St}
    (h : (∀ σ1 : am_St, σ1 = (am_up σ.1 137 3 0, σ.2) → Po (some (Zi (σ.1 137 3))) am_SH σ1)) : am_U x m_Sp_erase Po σ 0 [some (Zr 0), none] [] := by
  refine V_aload_n d_Sp_erase_0 rfl ?_
  refine U_geta d_Sp_erase_1 fl_Sp_71 sh_0 rfl ?_
  refine U_geti d_Sp_erase_4 fl_Sp_318 sh_137 ?_
  refine V_istore_n d_Sp_erase_7 rfl ?_
  refine V_aload_n d_Sp_erase_8 rfl ?_
  refine U_geta d_Sp_erase_9 fl_Sp_71 sh_0 rfl ?_
  refine V_iconst d_Sp_erase_12 ?_
  refine U_puti d_Sp_erase_13 fw_Sp_318 sh_137 ?_
  have h := h _ rfl
  refine V_iload_n d_Sp_erase_16 rfl ?_
  exact V_iret d_Sp_erase_17 rfl rfl h
theorem s_Sp_fault_0 {x : am_Sc} {Po : Option am_AV → am_Sh → am_St → Prop} {σ : am_St}
    (h : am_U x m_Sc_read (fun ro1 so1 σ1 => ∃ z1 : Int, ro1 = some (Zi z1) ∧ so1 = am_SH ∧ Po (some (Zi z1)) am_SH σ1) σ 0 [some (Zr 137)] []) : am_U x m_Sp_fault Po σ 0 [some (Zr 0)] [] := by
  refine V_aload_n d_Sp_fault_0 rfl ?_
  refine U_geta d_Sp_fault_1 fl_Sp_71 sh_0 rfl ?_
  refine U_iv0 cv_Sp_fault_325 d_Sp_fault_4 sh_137 rfl rfl (am_mono h ?_)
  rintro ro1 so1 σ1 ⟨z1, rfl, rfl, h⟩
  exact V_iret d_Sp_fault_7 rfl rfl h
theorem s_Sp_run_0 {x : am_Sc} {Po : Option am_AV → am_Sh → am_St → Prop} {σ : am_St}
    (h : am_U x m_Sc_read (fun ro1 so1 σ1 => ∃ z1 : Int, ro1 = some (Zi z1) ∧ so1 = am_SH ∧ am_r z1 ∧ ((z1 = (-1) → am_U x m_Me_keep (fun ro2 so2 σ2 => ro2 = none ∧ so2 = am_SH ∧ am_U x m_Sp_run Po σ2 23 [some (Zr 0), some (Zi 0)] []) σ1 0 [some (Zr 142)] []) ∧ (¬ z1 = (-1) → Po (some (Zi (-4))) am_SH σ1))) σ 0 [some (Zr 137)] []) : am_U x m_Sp_run Po σ 0 [some (Zr 0), none] [] := by
  refine V_aload_n d_Sp_run_0 rfl ?_
  refine U_geta d_Sp_run_1 fl_Sp_71 sh_0 rfl ?_
  refine U_iv0 cv_Sp_run_325 d_Sp_run_4 sh_137 rfl rfl (am_mono h ?_)
  rintro ro1 so1 σ1 ⟨z1, rfl, rfl, h⟩
  refine V_iconst d_Sp_run_7 ?_
  obtain ⟨h1, h⟩ := h
  obtain ⟨ht, hf⟩ := h
  refine V_icmp_eq 14 d_Sp_run_8 h1 (by decide) (fun h2 => ?_) (fun h2 => ?_)
  · have h := ht h2
    refine V_aload_n d_Sp_run_14 rfl ?_
    refine U_geta d_Sp_run_15 fl_Sp_78 sh_0 rfl ?_
    refine U_iv0 cv_Sp_run_297 d_Sp_run_18 sh_142 rfl rfl (am_mono h ?_)
    rintro ro2 so2 σ2 ⟨rfl, rfl, h⟩
    refine V_iconst d_Sp_run_21 ?_
    refine V_istore_n d_Sp_run_22 rfl ?_
    exact h
  · have h := hf h2
    refine V_bipush d_Sp_run_11 ?_
    exact V_iret d_Sp_run_13 rfl rfl h
theorem s_Sp_run_23 {x : am_Sc} {Po : Option am_AV → am_Sh → am_St → Prop} {σ : am_St} {v1 : Int}
    (h : am_r v1 ∧ am_r (σ.1 137 8) ∧ (((σ.1 137 8) ≤ v1 → Po (some (Zi (σ.1 137 8))) am_SH σ) ∧ (¬ (σ.1 137 8) ≤ v1 → (0 ≤ v1 ∧ v1 < 40) ∧ am_U x m_Sp_obey (fun ro3 so3 σ3 => ∃ z3 : Int, ro3 = some (Zi z3) ∧ so3 = am_SH ∧ am_r z3 ∧ ((¬ z3 = 0 → am_U x m_Sp_run Po σ3 23 [some (Zr 0), some (Zi (v1 + 1))] []) ∧ (z3 = 0 → am_U x m_Me_bringBack (fun ro4 so4 σ4 => ro4 = none ∧ so4 = am_SH ∧ Po (some (Zi (-4))) am_SH σ4) σ3 0 [some (Zr 142)] []))) σ 0 [some (Zr 0), some (Zi (σ.1 139 v1.toNat)), some (Zi (σ.1 140 v1.toNat)), some (Zi (σ.1 141 v1.toNat))] []))) : am_U x m_Sp_run Po σ 23 [some (Zr 0), some (Zi v1)] [] := by
  refine V_iload_n d_Sp_run_23 rfl ?_
  refine V_aload_n d_Sp_run_24 rfl ?_
  refine U_geta d_Sp_run_25 fl_Sp_71 sh_0 rfl ?_
  refine U_geti d_Sp_run_28 fl_Sp_328 sh_137 ?_
  obtain ⟨h3, h⟩ := h
  obtain ⟨h4, h⟩ := h
  obtain ⟨ht, hf⟩ := h
  refine V_icmp_ge 84 d_Sp_run_31 h3 h4 (fun h8 => ?_) (fun h8 => ?_)
  · have h := ht h8
    refine V_aload_n d_Sp_run_84 rfl ?_
    refine U_geta d_Sp_run_85 fl_Sp_71 sh_0 rfl ?_
    refine U_geti d_Sp_run_88 fl_Sp_328 sh_137 ?_
    exact V_iret d_Sp_run_91 rfl rfl h
  · have h := hf h8
    refine V_aload_n d_Sp_run_34 rfl ?_
    refine V_aload_n d_Sp_run_35 rfl ?_
    refine U_geta d_Sp_run_36 fl_Sp_71 sh_0 rfl ?_
    refine U_geta d_Sp_run_39 fl_Sp_331 sh_137 rfl ?_
    refine V_iload_n d_Sp_run_42 rfl ?_
    obtain ⟨h5, h⟩ := h
    refine U_iald d_Sp_run_43 sh_139 h5 ?_
    refine V_aload_n d_Sp_run_44 rfl ?_
    refine U_geta d_Sp_run_45 fl_Sp_71 sh_0 rfl ?_
    refine U_geta d_Sp_run_48 fl_Sp_334 sh_137 rfl ?_
    refine V_iload_n d_Sp_run_51 rfl ?_
    refine U_iald d_Sp_run_52 sh_140 h5 ?_
    refine V_aload_n d_Sp_run_53 rfl ?_
    refine U_geta d_Sp_run_54 fl_Sp_71 sh_0 rfl ?_
    refine U_geta d_Sp_run_57 fl_Sp_337 sh_137 rfl ?_
    refine V_iload_n d_Sp_run_60 rfl ?_
    refine U_iald d_Sp_run_61 sh_141 h5 ?_
    refine U_iv3 cv_Sp_run_340 d_Sp_run_62 sh_0 rfl rfl (am_mono h ?_)
    rintro ro3 so3 σ3 ⟨z3, rfl, rfl, h⟩
    obtain ⟨h6, h⟩ := h
    obtain ⟨ht, hf⟩ := h
    refine V_if_ne 78 d_Sp_run_65 h6 (fun h7 => ?_) (fun h7 => ?_)
    · have h := ht h7
      refine V_iinc d_Sp_run_78 rfl rfl ?_
      refine V_goto 23 d_Sp_run_81 ?_
      exact h
    · have h := hf h7
      refine V_aload_n d_Sp_run_68 rfl ?_
      refine U_geta d_Sp_run_69 fl_Sp_78 sh_0 rfl ?_
      refine U_iv0 cv_Sp_run_315 d_Sp_run_72 sh_142 rfl rfl (am_mono h ?_)
      rintro ro4 so4 σ4 ⟨rfl, rfl, h⟩
      refine V_bipush d_Sp_run_75 ?_
      exact V_iret d_Sp_run_77 rfl rfl h
theorem s_Sp_obey_0 {x : am_Sc} {Po : Option am_AV → am_Sh → am_St → Prop} {σ : am_St} {v1 v2 v3 : Int}
    (h : am_r v1 ∧ (((v1 < 0 ∨ 3 < v1) → am_U x m_Gr_splitBlock (fun ro1 so1 σ1 => ∃ z1 : Int, ro1 = some (Zi z1) ∧ so1 = am_SH ∧ am_r z1 ∧ ((z1 < 0 → am_U x m_Sp_obey Po σ1 103 [none, none, none, none] [Zi 0]) ∧ (¬ z1 < 0 → am_U x m_Sp_obey Po σ1 103 [none, none, none, none] [Zi 1]))) σ 0 [some (Zr 1), some (Zi v2), some (Zi v3), none, none] []) ∧ (v1 = 0 → (0 ≤ v2 ∧ v2 < 8) ∧ (∀ σ2 : am_St, σ2 = (am_up σ.1 3 v2.toNat v3, σ.2) → Po (some (Zi 1)) am_SH σ2)) ∧ (v1 = 1 → am_U x m_Ft_aimAtTold (fun ro3 so3 σ3 => ro3 = none ∧ so3 = am_SH ∧ am_U x m_Ft_sweep (fun ro4 so4 σ4 => ∃ z4 : Int, ro4 = some (Zi z4) ∧ so4 = am_SH ∧ Po (some (Zi 1)) am_SH σ4) σ3 0 [some (Zr 35), some (Zi v2), none, none, none, none, none, none] []) σ 0 [some (Zr 35), none] []) ∧ (v1 = 2 → (0 ≤ v2 ∧ v2 < 5) ∧ (∀ σ5 : am_St, σ5 = (am_up σ.1 11 v2.toNat v3, σ.2) → Po (some (Zi 1)) am_SH σ5)) ∧ (v1 = 3 → (0 ≤ v2 ∧ v2 < 6) ∧ (∀ σ6 : am_St, σ6 = (am_up σ.1 10 v2.toNat v3, σ.2) → Po (some (Zi 1)) am_SH σ6)))) : am_U x m_Sp_obey Po σ 0 [some (Zr 0), some (Zi v1), some (Zi v2), some (Zi v3)] [] := by
  refine V_iload_n d_Sp_obey_0 rfl ?_
  obtain ⟨h1, h⟩ := h
  obtain ⟨hd9, h⟩ := h
  by_cases hq9 : v1 < 0 ∨ 3 < v1
  · have h := hd9 hq9
    refine V_tabOut 86 d_Sp_obey_1 h1 hq9 ?_
    refine V_aload_n d_Sp_obey_86 rfl ?_
    refine U_geta d_Sp_obey_87 fl_Sp_22 sh_0 rfl ?_
    refine V_iload_n d_Sp_obey_90 rfl ?_
    refine V_iload_n d_Sp_obey_91 rfl ?_
    refine U_iv2 cv_Sp_obey_108 d_Sp_obey_92 sh_1 rfl rfl (am_mono h ?_)
    rintro ro1 so1 σ1 ⟨z1, rfl, rfl, h⟩
    obtain ⟨h2, h⟩ := h
    obtain ⟨ht, hf⟩ := h
    refine V_if_lt 102 d_Sp_obey_95 h2 (fun h3 => ?_) (fun h3 => ?_)
    · have h := ht h3
      refine V_iconst d_Sp_obey_102 ?_
      refine V_drop 0 ?_
      refine V_drop 1 ?_
      refine V_drop 2 ?_
      refine V_drop 3 ?_
      exact h
    · have h := hf h3
      refine V_iconst d_Sp_obey_98 ?_
      refine V_goto 103 d_Sp_obey_99 ?_
      refine V_drop 0 ?_
      refine V_drop 1 ?_
      refine V_drop 2 ?_
      refine V_drop 3 ?_
      exact h
  · have ha9 : v1 = 0 ∨ v1 = 1 ∨ v1 = 2 ∨ v1 = 3 := by omega
    rcases ha9 with hc0 | hc1 | hc2 | hc3
    · have h := h.1 hc0
      refine V_tabIn 32 d_Sp_obey_1 h1 (by omega) (by omega) (by rw [hc0]; rfl) ?_
      refine V_aload_n d_Sp_obey_32 rfl ?_
      refine U_geta d_Sp_obey_33 fl_Sp_22 sh_0 rfl ?_
      refine U_geta d_Sp_obey_36 fl_Sp_100 sh_1 rfl ?_
      refine V_iload_n d_Sp_obey_39 rfl ?_
      refine V_iload_n d_Sp_obey_40 rfl ?_
      obtain ⟨h4, h⟩ := h
      refine U_iast d_Sp_obey_41 sh_3 h4 ?_
      have h := h _ rfl
      refine V_iconst d_Sp_obey_42 ?_
      exact V_zret d_Sp_obey_43 rfl rfl (Or.inr rfl) h
    · have h := h.2.1 hc1
      refine V_tabIn 44 d_Sp_obey_1 h1 (by omega) (by omega) (by rw [hc1]; rfl) ?_
      refine V_aload_n d_Sp_obey_44 rfl ?_
      refine U_geta d_Sp_obey_45 fl_Sp_39 sh_0 rfl ?_
      refine U_iv0 cv_Sp_obey_222 d_Sp_obey_48 sh_35 rfl rfl (am_mono h ?_)
      rintro ro3 so3 σ3 ⟨rfl, rfl, h⟩
      refine V_aload_n d_Sp_obey_51 rfl ?_
      refine U_geta d_Sp_obey_52 fl_Sp_39 sh_0 rfl ?_
      refine V_iload_n d_Sp_obey_55 rfl ?_
      refine U_iv1 cv_Sp_obey_225 d_Sp_obey_56 sh_35 rfl rfl (am_mono h ?_)
      rintro ro4 so4 σ4 ⟨z4, rfl, rfl, h⟩
      refine V_pop d_Sp_obey_59 ?_
      refine V_iconst d_Sp_obey_60 ?_
      exact V_zret d_Sp_obey_61 rfl rfl (Or.inr rfl) h
    · have h := h.2.2.1 hc2
      refine V_tabIn 62 d_Sp_obey_1 h1 (by omega) (by omega) (by rw [hc2]; rfl) ?_
      refine V_aload_n d_Sp_obey_62 rfl ?_
      refine U_geta d_Sp_obey_63 fl_Sp_28 sh_0 rfl ?_
      refine U_geta d_Sp_obey_66 fl_Sp_346 sh_8 rfl ?_
      refine V_iload_n d_Sp_obey_69 rfl ?_
      refine V_iload_n d_Sp_obey_70 rfl ?_
      obtain ⟨h5, h⟩ := h
      refine U_iast d_Sp_obey_71 sh_11 h5 ?_
      have h := h _ rfl
      refine V_iconst d_Sp_obey_72 ?_
      exact V_zret d_Sp_obey_73 rfl rfl (Or.inr rfl) h
    · have h := h.2.2.2 hc3
      refine V_tabIn 74 d_Sp_obey_1 h1 (by omega) (by omega) (by rw [hc3]; rfl) ?_
      refine V_aload_n d_Sp_obey_74 rfl ?_
      refine U_geta d_Sp_obey_75 fl_Sp_28 sh_0 rfl ?_
      refine U_geta d_Sp_obey_78 fl_Sp_154 sh_8 rfl ?_
      refine V_iload_n d_Sp_obey_81 rfl ?_
      refine V_iload_n d_Sp_obey_82 rfl ?_
      obtain ⟨h6, h⟩ := h
      refine U_iast d_Sp_obey_83 sh_10 h6 ?_
      have h := h _ rfl
      refine V_iconst d_Sp_obey_84 ?_
      exact V_zret d_Sp_obey_85 rfl rfl (Or.inr rfl) h
theorem s_Sp_obey_103 {x : am_Sc} {Po : Option am_AV → am_Sh → am_St → Prop} {σ : am_St} {vk0 : Int}
    (h : (vk0 = 0 ∨ vk0 = 1) ∧ Po (some (Zi vk0)) am_SH σ) : am_U x m_Sp_obey Po σ 103 [none, none, none, none] [Zi vk0] := by
  obtain ⟨h7, h⟩ := h
  exact V_zret d_Sp_obey_103 rfl rfl h7 h
theorem s_Sp_count_0 {x : am_Sc} {Po : Option am_AV → am_Sh → am_St → Prop} {σ : am_St} {v1 : Int}
    (h : am_r v1 ∧ (((v1 < 0 ∨ 7 < v1) → Po (some (Zi (-3))) am_SH σ) ∧ (v1 = 0 → Po (some (Zi (σ.1 1 0))) am_SH σ) ∧ (v1 = 1 → am_U x m_Gr_blocksInUse (fun ro1 so1 σ1 => ∃ z1 : Int, ro1 = some (Zi z1) ∧ so1 = am_SH ∧ Po (some (Zi z1)) am_SH σ1) σ 0 [some (Zr 1), none, none] []) ∧ (v1 = 2 → Po (some (Zi (σ.1 8 0))) am_SH σ) ∧ (v1 = 3 → Po (some (Zi (σ.1 8 3))) am_SH σ) ∧ (v1 = 4 → Po (some (Zi (σ.1 8 6))) am_SH σ) ∧ (v1 = 5 → Po (some (Zi (σ.1 8 10))) am_SH σ) ∧ (v1 = 6 → Po (some (Zi (σ.1 8 15))) am_SH σ) ∧ (v1 = 7 → Po (some (Zi (σ.1 137 3))) am_SH σ))) : am_U x m_Sp_count Po σ 0 [some (Zr 0), some (Zi v1)] [] := by
  refine V_iload_n d_Sp_count_0 rfl ?_
  obtain ⟨h1, h⟩ := h
  obtain ⟨hd9, h⟩ := h
  by_cases hq9 : v1 < 0 ∨ 7 < v1
  · have h := hd9 hq9
    refine V_tabOut 112 d_Sp_count_1 h1 hq9 ?_
    refine V_bipush d_Sp_count_112 ?_
    exact V_iret d_Sp_count_114 rfl rfl h
  · have ha9 : v1 = 0 ∨ v1 = 1 ∨ v1 = 2 ∨ v1 = 3 ∨ v1 = 4 ∨ v1 = 5 ∨ v1 = 6 ∨ v1 = 7 := by omega
    rcases ha9 with hc0 | hc1 | hc2 | hc3 | hc4 | hc5 | hc6 | hc7
    · have h := h.1 hc0
      refine V_tabIn 48 d_Sp_count_1 h1 (by omega) (by omega) (by rw [hc0]; rfl) ?_
      refine V_aload_n d_Sp_count_48 rfl ?_
      refine U_geta d_Sp_count_49 fl_Sp_22 sh_0 rfl ?_
      refine U_geti d_Sp_count_52 fl_Sp_89 sh_1 ?_
      exact V_iret d_Sp_count_55 rfl rfl h
    · have h := h.2.1 hc1
      refine V_tabIn 56 d_Sp_count_1 h1 (by omega) (by omega) (by rw [hc1]; rfl) ?_
      refine V_aload_n d_Sp_count_56 rfl ?_
      refine U_geta d_Sp_count_57 fl_Sp_22 sh_0 rfl ?_
      refine U_iv0 cv_Sp_count_343 d_Sp_count_60 sh_1 rfl rfl (am_mono h ?_)
      rintro ro1 so1 σ1 ⟨z1, rfl, rfl, h⟩
      exact V_iret d_Sp_count_63 rfl rfl h
    · have h := h.2.2.1 hc2
      refine V_tabIn 64 d_Sp_count_1 h1 (by omega) (by omega) (by rw [hc2]; rfl) ?_
      refine V_aload_n d_Sp_count_64 rfl ?_
      refine U_geta d_Sp_count_65 fl_Sp_28 sh_0 rfl ?_
      refine U_geti d_Sp_count_68 fl_Sp_145 sh_8 ?_
      exact V_iret d_Sp_count_71 rfl rfl h
    · have h := h.2.2.2.1 hc3
      refine V_tabIn 72 d_Sp_count_1 h1 (by omega) (by omega) (by rw [hc3]; rfl) ?_
      refine V_aload_n d_Sp_count_72 rfl ?_
      refine U_geta d_Sp_count_73 fl_Sp_28 sh_0 rfl ?_
      refine U_geti d_Sp_count_76 fl_Sp_157 sh_8 ?_
      exact V_iret d_Sp_count_79 rfl rfl h
    · have h := h.2.2.2.2.1 hc4
      refine V_tabIn 80 d_Sp_count_1 h1 (by omega) (by omega) (by rw [hc4]; rfl) ?_
      refine V_aload_n d_Sp_count_80 rfl ?_
      refine U_geta d_Sp_count_81 fl_Sp_28 sh_0 rfl ?_
      refine U_geti d_Sp_count_84 fl_Sp_173 sh_8 ?_
      exact V_iret d_Sp_count_87 rfl rfl h
    · have h := h.2.2.2.2.2.1 hc5
      refine V_tabIn 88 d_Sp_count_1 h1 (by omega) (by omega) (by rw [hc5]; rfl) ?_
      refine V_aload_n d_Sp_count_88 rfl ?_
      refine U_geta d_Sp_count_89 fl_Sp_28 sh_0 rfl ?_
      refine U_geti d_Sp_count_92 fl_Sp_176 sh_8 ?_
      exact V_iret d_Sp_count_95 rfl rfl h
    · have h := h.2.2.2.2.2.2.1 hc6
      refine V_tabIn 96 d_Sp_count_1 h1 (by omega) (by omega) (by rw [hc6]; rfl) ?_
      refine V_aload_n d_Sp_count_96 rfl ?_
      refine U_geta d_Sp_count_97 fl_Sp_28 sh_0 rfl ?_
      refine U_geti d_Sp_count_100 fl_Sp_189 sh_8 ?_
      exact V_iret d_Sp_count_103 rfl rfl h
    · have h := h.2.2.2.2.2.2.2 hc7
      refine V_tabIn 104 d_Sp_count_1 h1 (by omega) (by omega) (by rw [hc7]; rfl) ?_
      refine V_aload_n d_Sp_count_104 rfl ?_
      refine U_geta d_Sp_count_105 fl_Sp_71 sh_0 rfl ?_
      refine U_geti d_Sp_count_108 fl_Sp_318 sh_137 ?_
      exact V_iret d_Sp_count_111 rfl rfl h
