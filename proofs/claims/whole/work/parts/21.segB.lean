theorem s_Ft_foretold_0 {x : am_Sc} {Po : Option am_AV → am_Sh → am_St → Prop} {σ : am_St} {v1 : Int}
    (h : am_U x m_Bo_cellOfShake (fun ro1 so1 σ1 => ∃ z1 : Int, ro1 = some (Zi z1) ∧ so1 = am_SH ∧ (0 ≤ v1 ∧ v1 < 12) ∧ am_U x m_Gr_spread (fun ro2 so2 σ2 => ro2 = none ∧ so2 = am_SH ∧ am_U x m_Bo_begunOf (fun ro3 so3 σ3 => ∃ z3 : Int, ro3 = some (Zi z3) ∧ so3 = am_SH ∧ am_U x m_Bo_cellOfEar (fun ro4 so4 σ4 => ∃ z4 : Int, ro4 = some (Zi z4) ∧ so4 = am_SH ∧ (0 ≤ z4 ∧ z4 < 16) ∧ am_U x m_Bo_clockOf (fun ro5 so5 σ5 => ∃ z5 : Int, ro5 = some (Zi z5) ∧ so5 = am_SH ∧ Po (some (Zi ((z3 + (σ4.1 6 z4.toNat)) + z5))) am_SH σ5) σ4 0 [some (Zr 8), some (Zi v1)] []) σ3 0 [some (Zr 8), some (Zi v1)] []) σ2 0 [some (Zr 8), some (Zi v1)] []) σ1 0 [some (Zr 1), some (Zi z1), some (Zi (σ1.1 15 v1.toNat)), none, none, none, none] []) σ 0 [some (Zr 8), some (Zi v1)] []) : am_U x m_Ft_foretold Po σ 0 [some (Zr 35), some (Zi v1)] [] := by
  refine V_aload_n d_Ft_foretold_0 rfl ?_
  refine U_geta d_Ft_foretold_1 fl_Ft_32 sh_35 rfl ?_
  refine V_aload_n d_Ft_foretold_4 rfl ?_
  refine U_geta d_Ft_foretold_5 fl_Ft_36 sh_35 rfl ?_
  refine V_iload_n d_Ft_foretold_8 rfl ?_
  refine U_iv1 cv_Ft_foretold_40 d_Ft_foretold_9 sh_8 rfl rfl (am_mono h ?_)
  rintro ro1 so1 σ1 ⟨z1, rfl, rfl, h⟩
  refine V_aload_n d_Ft_foretold_12 rfl ?_
  refine U_geta d_Ft_foretold_13 fl_Ft_36 sh_35 rfl ?_
  refine U_geta d_Ft_foretold_16 fl_Ft_46 sh_8 rfl ?_
  refine V_iload_n d_Ft_foretold_19 rfl ?_
  obtain ⟨h1, h⟩ := h
  refine U_iald d_Ft_foretold_20 sh_15 h1 ?_
  refine U_iv2 cv_Ft_foretold_49 d_Ft_foretold_21 sh_1 rfl rfl (am_mono h ?_)
  rintro ro2 so2 σ2 ⟨rfl, rfl, h⟩
  refine V_aload_n d_Ft_foretold_24 rfl ?_
  refine U_geta d_Ft_foretold_25 fl_Ft_36 sh_35 rfl ?_
  refine V_iload_n d_Ft_foretold_28 rfl ?_
  refine U_iv1 cv_Ft_foretold_55 d_Ft_foretold_29 sh_8 rfl rfl (am_mono h ?_)
  rintro ro3 so3 σ3 ⟨z3, rfl, rfl, h⟩
  refine V_aload_n d_Ft_foretold_32 rfl ?_
  refine U_geta d_Ft_foretold_33 fl_Ft_32 sh_35 rfl ?_
  refine U_geta d_Ft_foretold_36 fl_Ft_58 sh_1 rfl ?_
  refine V_aload_n d_Ft_foretold_39 rfl ?_
  refine U_geta d_Ft_foretold_40 fl_Ft_36 sh_35 rfl ?_
  refine V_iload_n d_Ft_foretold_43 rfl ?_
  refine U_iv1 cv_Ft_foretold_61 d_Ft_foretold_44 sh_8 rfl rfl (am_mono h ?_)
  rintro ro4 so4 σ4 ⟨z4, rfl, rfl, h⟩
  obtain ⟨h2, h⟩ := h
  refine U_iald d_Ft_foretold_47 sh_6 h2 ?_
  refine V_iadd d_Ft_foretold_48 ?_
  refine V_aload_n d_Ft_foretold_49 rfl ?_
  refine U_geta d_Ft_foretold_50 fl_Ft_36 sh_35 rfl ?_
  refine V_iload_n d_Ft_foretold_53 rfl ?_
  refine U_iv1 cv_Ft_foretold_64 d_Ft_foretold_54 sh_8 rfl rfl (am_mono h ?_)
  rintro ro5 so5 σ5 ⟨z5, rfl, rfl, h⟩
  refine V_iadd d_Ft_foretold_57 ?_
  exact V_iret d_Ft_foretold_58 rfl rfl h
theorem s_Ft_aimAtTold_0 {x : am_Sc} {Po : Option am_AV → am_Sh → am_St → Prop} {σ : am_St}
    (h : am_U x m_Ft_aimAtTold Po σ 2 [some (Zr 35), some (Zi 0)] []) : am_U x m_Ft_aimAtTold Po σ 0 [some (Zr 35), none] [] := by
  refine V_iconst d_Ft_aimAtTold_0 ?_
  refine V_istore_n d_Ft_aimAtTold_1 rfl ?_
  exact h
theorem s_Ft_aimAtTold_2 {x : am_Sc} {Po : Option am_AV → am_Sh → am_St → Prop} {σ : am_St} {v1 : Int}
    (h : am_r v1 ∧ am_r (σ.1 8 6) ∧ (((σ.1 8 6) ≤ v1 → Po none am_SH σ) ∧ (¬ (σ.1 8 6) ≤ v1 → am_U x m_Bo_lowNow (fun ro1 so1 σ1 => ∃ z1 : Int, ro1 = some (Zi z1) ∧ so1 = am_SH ∧ (0 ≤ v1 ∧ v1 < 12) ∧ (∀ σ2 : am_St, σ2 = (am_up σ1.1 36 v1.toNat z1, σ1.2) → am_U x m_Bo_highNow (fun ro3 so3 σ3 => ∃ z3 : Int, ro3 = some (Zi z3) ∧ so3 = am_SH ∧ (∀ σ4 : am_St, σ4 = (am_up σ3.1 37 v1.toNat z3, σ3.2) → am_U x m_Ft_aimAtTold Po σ4 2 [some (Zr 35), some (Zi (v1 + 1))] [])) σ2 0 [some (Zr 8), some (Zi v1), none] [])) σ 0 [some (Zr 8), some (Zi v1), none] []))) : am_U x m_Ft_aimAtTold Po σ 2 [some (Zr 35), some (Zi v1)] [] := by
  refine V_iload_n d_Ft_aimAtTold_2 rfl ?_
  refine V_aload_n d_Ft_aimAtTold_3 rfl ?_
  refine U_geta d_Ft_aimAtTold_4 fl_Ft_36 sh_35 rfl ?_
  refine U_geti d_Ft_aimAtTold_7 fl_Ft_67 sh_8 ?_
  obtain ⟨h1, h⟩ := h
  obtain ⟨h2, h⟩ := h
  obtain ⟨ht, hf⟩ := h
  refine V_icmp_ge 47 d_Ft_aimAtTold_10 h1 h2 (fun h4 => ?_) (fun h4 => ?_)
  · have h := ht h4
    exact V_ret d_Ft_aimAtTold_47 rfl rfl h
  · have h := hf h4
    refine V_aload_n d_Ft_aimAtTold_13 rfl ?_
    refine U_geta d_Ft_aimAtTold_14 fl_Ft_9 sh_35 rfl ?_
    refine V_iload_n d_Ft_aimAtTold_17 rfl ?_
    refine V_aload_n d_Ft_aimAtTold_18 rfl ?_
    refine U_geta d_Ft_aimAtTold_19 fl_Ft_36 sh_35 rfl ?_
    refine V_iload_n d_Ft_aimAtTold_22 rfl ?_
    refine U_iv1 cv_Ft_aimAtTold_71 d_Ft_aimAtTold_23 sh_8 rfl rfl (am_mono h ?_)
    rintro ro1 so1 σ1 ⟨z1, rfl, rfl, h⟩
    obtain ⟨h3, h⟩ := h
    refine U_iast d_Ft_aimAtTold_26 sh_36 h3 ?_
    have h := h _ rfl
    refine V_aload_n d_Ft_aimAtTold_27 rfl ?_
    refine U_geta d_Ft_aimAtTold_28 fl_Ft_15 sh_35 rfl ?_
    refine V_iload_n d_Ft_aimAtTold_31 rfl ?_
    refine V_aload_n d_Ft_aimAtTold_32 rfl ?_
    refine U_geta d_Ft_aimAtTold_33 fl_Ft_36 sh_35 rfl ?_
    refine V_iload_n d_Ft_aimAtTold_36 rfl ?_
    refine U_iv1 cv_Ft_aimAtTold_74 d_Ft_aimAtTold_37 sh_8 rfl rfl (am_mono h ?_)
    rintro ro3 so3 σ3 ⟨z3, rfl, rfl, h⟩
    refine U_iast d_Ft_aimAtTold_40 sh_37 h3 ?_
    have h := h _ rfl
    refine V_iinc d_Ft_aimAtTold_41 rfl rfl ?_
    refine V_goto 2 d_Ft_aimAtTold_44 ?_
    exact h
theorem s_Ft_sweep_0 {x : am_Sc} {Po : Option am_AV → am_Sh → am_St → Prop} {σ : am_St} {v1 : Int}
    (h : am_U x m_Gr_blocksInUse (fun ro1 so1 σ1 => ∃ z1 : Int, ro1 = some (Zi z1) ∧ so1 = am_SH ∧ am_U x m_Ft_sweep Po σ1 16 [some (Zr 35), some (Zi v1), some (Zi z1), some (Zi 0), some (Zi 0), some (Zi 0), none, none] []) σ 0 [some (Zr 1), none, none] []) : am_U x m_Ft_sweep Po σ 0 [some (Zr 35), some (Zi v1), none, none, none, none, none, none] [] := by
  refine V_aload_n d_Ft_sweep_0 rfl ?_
  refine U_geta d_Ft_sweep_1 fl_Ft_32 sh_35 rfl ?_
  refine U_iv0 cv_Ft_sweep_80 d_Ft_sweep_4 sh_1 rfl rfl (am_mono h ?_)
  rintro ro1 so1 σ1 ⟨z1, rfl, rfl, h⟩
  refine V_istore_n d_Ft_sweep_7 rfl ?_
  refine V_iconst d_Ft_sweep_8 ?_
  refine V_istore_n d_Ft_sweep_9 rfl ?_
  refine V_iconst d_Ft_sweep_10 ?_
  refine V_istore d_Ft_sweep_11 rfl ?_
  refine V_iconst d_Ft_sweep_13 ?_
  refine V_istore d_Ft_sweep_14 rfl ?_
  exact h
theorem s_Ft_sweep_16 {x : am_Sc} {Po : Option am_AV → am_Sh → am_St → Prop} {σ : am_St} {v1 v2 v3 v4 v5 : Int}
    (h : am_r v5 ∧ am_r v1 ∧ ((v1 ≤ v5 → am_U x m_Ft_sweep Po σ 124 [none, none, none, some (Zi v3), none, none, none, none] []) ∧ (¬ v1 ≤ v5 → am_r v4 ∧ am_r v2 ∧ ((v2 ≤ v4 → am_U x m_Ft_sweep Po σ 124 [none, none, none, some (Zi v3), none, none, none, none] []) ∧ (¬ v2 ≤ v4 → am_U x m_Ft_sweep Po σ 31 [some (Zr 35), some (Zi v1), some (Zi v2), some (Zi v3), some (Zi v4), some (Zi v5), some (Zi 0), none] []))))) : am_U x m_Ft_sweep Po σ 16 [some (Zr 35), some (Zi v1), some (Zi v2), some (Zi v3), some (Zi v4), some (Zi v5), none, none] [] := by
  refine V_iload d_Ft_sweep_16 rfl ?_
  refine V_iload_n d_Ft_sweep_18 rfl ?_
  obtain ⟨h1, h⟩ := h
  obtain ⟨h2, h⟩ := h
  obtain ⟨ht, hf⟩ := h
  refine V_icmp_ge 124 d_Ft_sweep_19 h1 h2 (fun h6 => ?_) (fun h6 => ?_)
  · have h := ht h6
    refine V_drop 0 ?_
    refine V_drop 1 ?_
    refine V_drop 2 ?_
    refine V_drop 4 ?_
    refine V_drop 5 ?_
    exact h
  · have h := hf h6
    refine V_iload d_Ft_sweep_22 rfl ?_
    refine V_iload_n d_Ft_sweep_24 rfl ?_
    obtain ⟨h3, h⟩ := h
    obtain ⟨h4, h⟩ := h
    obtain ⟨ht, hf⟩ := h
    refine V_icmp_ge 124 d_Ft_sweep_25 h3 h4 (fun h5 => ?_) (fun h5 => ?_)
    · have h := ht h5
      refine V_drop 0 ?_
      refine V_drop 1 ?_
      refine V_drop 2 ?_
      refine V_drop 4 ?_
      refine V_drop 5 ?_
      exact h
    · have h := hf h5
      refine V_iconst d_Ft_sweep_28 ?_
      refine V_istore d_Ft_sweep_29 rfl ?_
      exact h
theorem s_Ft_sweep_124 {x : am_Sc} {Po : Option am_AV → am_Sh → am_St → Prop} {σ : am_St} {v3 : Int}
    (h : Po (some (Zi v3)) am_SH σ) : am_U x m_Ft_sweep Po σ 124 [none, none, none, some (Zi v3), none, none, none, none] [] := by
  refine V_iload_n d_Ft_sweep_124 rfl ?_
  exact V_iret d_Ft_sweep_125 rfl rfl h
theorem s_Ft_sweep_31 {x : am_Sc} {Po : Option am_AV → am_Sh → am_St → Prop} {σ : am_St} {v1 v2 v3 v4 v5 v6 : Int}
    (h : am_r v6 ∧ ((8 ≤ v6 → am_U x m_Ft_sweep Po σ 118 [some (Zr 35), some (Zi v1), some (Zi v2), some (Zi v3), some (Zi v4), some (Zi v5), none, none] []) ∧ (¬ 8 ≤ v6 → am_r v4 ∧ am_r v2 ∧ ((v2 ≤ v4 → am_U x m_Ft_sweep Po σ 118 [some (Zr 35), some (Zi v1), some (Zi v2), some (Zi v3), some (Zi v4), some (Zi v5), none, none] []) ∧ (¬ v2 ≤ v4 → am_U x m_Gr_cellsOf (fun ro2 so2 σ2 => ∃ z2 : Int, ro2 = some (Zi z2) ∧ so2 = am_SH ∧ am_r z2 ∧ ((z2 = 0 → am_U x m_Ft_sweep Po σ2 112 [some (Zr 35), some (Zi v1), some (Zi v2), some (Zi v3), some (Zi v4), some (Zi v5), some (Zi v6), none] []) ∧ (¬ z2 = 0 → (0 ≤ v6 ∧ v6 < 8) ∧ am_U x m_Ft_improve (fun ro3 so3 σ3 => ∃ z3 : Int, ro3 = some (Zi z3) ∧ so3 = am_SH ∧ am_r (σ3.1 3 v6.toNat) ∧ am_r (σ2.1 3 v6.toNat) ∧ (((σ3.1 3 v6.toNat) = (σ2.1 3 v6.toNat) → am_U x m_Ft_sweep Po σ3 98 [some (Zr 35), some (Zi v1), some (Zi v2), some (Zi z3), none, some (Zi v5), some (Zi v6), none] [Zi (v4 + 1)]) ∧ (¬ (σ3.1 3 v6.toNat) = (σ2.1 3 v6.toNat) → am_U x m_Ft_sweep Po σ3 98 [some (Zr 35), some (Zi v1), some (Zi v2), some (Zi z3), none, some (Zi v5), some (Zi v6), none] [Zi 1]))) σ2 0 [some (Zr 35), some (Zi v6), none, none] []))) σ 0 [some (Zr 1), some (Zi v6), none, none] []))))) : am_U x m_Ft_sweep Po σ 31 [some (Zr 35), some (Zi v1), some (Zi v2), some (Zi v3), some (Zi v4), some (Zi v5), some (Zi v6), none] [] := by
  refine V_iload d_Ft_sweep_31 rfl ?_
  refine V_bipush d_Ft_sweep_33 ?_
  obtain ⟨h7, h⟩ := h
  obtain ⟨ht, hf⟩ := h
  refine V_icmp_ge 118 d_Ft_sweep_35 h7 (by decide) (fun h17 => ?_) (fun h17 => ?_)
  · have h := ht h17
    refine V_drop 6 ?_
    exact h
  · have h := hf h17
    refine V_iload d_Ft_sweep_38 rfl ?_
    refine V_iload_n d_Ft_sweep_40 rfl ?_
    obtain ⟨h8, h⟩ := h
    obtain ⟨h9, h⟩ := h
    obtain ⟨ht, hf⟩ := h
    refine V_icmp_ge 118 d_Ft_sweep_41 h8 h9 (fun h16 => ?_) (fun h16 => ?_)
    · have h := ht h16
      refine V_drop 6 ?_
      exact h
    · have h := hf h16
      refine V_aload_n d_Ft_sweep_44 rfl ?_
      refine U_geta d_Ft_sweep_45 fl_Ft_32 sh_35 rfl ?_
      refine V_iload d_Ft_sweep_48 rfl ?_
      refine U_iv1 cv_Ft_sweep_84 d_Ft_sweep_50 sh_1 rfl rfl (am_mono h ?_)
      rintro ro2 so2 σ2 ⟨z2, rfl, rfl, h⟩
      obtain ⟨h10, h⟩ := h
      obtain ⟨ht, hf⟩ := h
      refine V_if_eq 112 d_Ft_sweep_53 h10 (fun h15 => ?_) (fun h15 => ?_)
      · have h := ht h15
        exact h
      · have h := hf h15
        refine V_aload_n d_Ft_sweep_56 rfl ?_
        refine U_geta d_Ft_sweep_57 fl_Ft_32 sh_35 rfl ?_
        refine U_geta d_Ft_sweep_60 fl_Ft_87 sh_1 rfl ?_
        refine V_iload d_Ft_sweep_63 rfl ?_
        obtain ⟨h11, h⟩ := h
        refine U_iald d_Ft_sweep_65 sh_3 h11 ?_
        refine V_istore d_Ft_sweep_66 rfl ?_
        refine V_aload_n d_Ft_sweep_68 rfl ?_
        refine V_iload d_Ft_sweep_69 rfl ?_
        refine U_iv1 cv_Ft_sweep_90 d_Ft_sweep_71 sh_35 rfl rfl (am_mono h ?_)
        rintro ro3 so3 σ3 ⟨z3, rfl, rfl, h⟩
        refine V_istore_n d_Ft_sweep_74 rfl ?_
        refine V_aload_n d_Ft_sweep_75 rfl ?_
        refine U_geta d_Ft_sweep_76 fl_Ft_32 sh_35 rfl ?_
        refine U_geta d_Ft_sweep_79 fl_Ft_87 sh_1 rfl ?_
        refine V_iload d_Ft_sweep_82 rfl ?_
        refine U_iald d_Ft_sweep_84 sh_3 h11 ?_
        refine V_iload d_Ft_sweep_85 rfl ?_
        obtain ⟨h12, h⟩ := h
        obtain ⟨h13, h⟩ := h
        obtain ⟨ht, hf⟩ := h
        refine V_icmp_eq 94 d_Ft_sweep_87 h12 h13 (fun h14 => ?_) (fun h14 => ?_)
        · have h := ht h14
          refine V_iload d_Ft_sweep_94 rfl ?_
          refine V_iconst d_Ft_sweep_96 ?_
          refine V_iadd d_Ft_sweep_97 ?_
          refine V_drop 4 ?_
          refine V_drop 7 ?_
          exact h
        · have h := hf h14
          refine V_iconst d_Ft_sweep_90 ?_
          refine V_goto 98 d_Ft_sweep_91 ?_
          refine V_drop 4 ?_
          refine V_drop 7 ?_
          exact h
theorem s_Ft_sweep_118 {x : am_Sc} {Po : Option am_AV → am_Sh → am_St → Prop} {σ : am_St} {v1 v2 v3 v4 v5 : Int}
    (h : am_U x m_Ft_sweep Po σ 16 [some (Zr 35), some (Zi v1), some (Zi v2), some (Zi v3), some (Zi v4), some (Zi (v5 + 1)), none, none] []) : am_U x m_Ft_sweep Po σ 118 [some (Zr 35), some (Zi v1), some (Zi v2), some (Zi v3), some (Zi v4), some (Zi v5), none, none] [] := by
  refine V_iinc d_Ft_sweep_118 rfl rfl ?_
  refine V_goto 16 d_Ft_sweep_121 ?_
  exact h
theorem s_Ft_sweep_112 {x : am_Sc} {Po : Option am_AV → am_Sh → am_St → Prop} {σ : am_St} {v1 v2 v3 v4 v5 v6 : Int}
    (h : am_U x m_Ft_sweep Po σ 31 [some (Zr 35), some (Zi v1), some (Zi v2), some (Zi v3), some (Zi v4), some (Zi v5), some (Zi (v6 + 1)), none] []) : am_U x m_Ft_sweep Po σ 112 [some (Zr 35), some (Zi v1), some (Zi v2), some (Zi v3), some (Zi v4), some (Zi v5), some (Zi v6), none] [] := by
  refine V_iinc d_Ft_sweep_112 rfl rfl ?_
  refine V_goto 31 d_Ft_sweep_115 ?_
  exact h
theorem s_Ft_sweep_98 {x : am_Sc} {Po : Option am_AV → am_Sh → am_St → Prop} {σ : am_St} {v1 v2 v3 v5 v6 vk0 : Int}
    (h : am_r v3 ∧ ((¬ v3 = 0 → am_U x m_Ft_sweep Po σ 110 [some (Zr 35), some (Zi v1), some (Zi v2), some (Zi v3), none, some (Zi v5), some (Zi v6), none] [Zi vk0]) ∧ (v3 = 0 → am_U x m_Ft_sweep Po σ 110 [some (Zr 35), some (Zi v1), some (Zi v2), some (Zi v3), none, some (Zi v5), some (Zi v6), none] [Zi v2]))) : am_U x m_Ft_sweep Po σ 98 [some (Zr 35), some (Zi v1), some (Zi v2), some (Zi v3), none, some (Zi v5), some (Zi v6), none] [Zi vk0] := by
  refine V_istore d_Ft_sweep_98 rfl ?_
  refine V_iload_n d_Ft_sweep_100 rfl ?_
  obtain ⟨h18, h⟩ := h
  obtain ⟨ht, hf⟩ := h
  refine V_if_ne 108 d_Ft_sweep_101 h18 (fun h19 => ?_) (fun h19 => ?_)
  · have h := ht h19
    refine V_iload d_Ft_sweep_108 rfl ?_
    refine V_drop 4 ?_
    exact h
  · have h := hf h19
    refine V_iload_n d_Ft_sweep_104 rfl ?_
    refine V_goto 110 d_Ft_sweep_105 ?_
    refine V_drop 4 ?_
    exact h
theorem s_Ft_sweep_110 {x : am_Sc} {Po : Option am_AV → am_Sh → am_St → Prop} {σ : am_St} {v1 v2 v3 v5 v6 vk0 : Int}
    (h : am_U x m_Ft_sweep Po σ 112 [some (Zr 35), some (Zi v1), some (Zi v2), some (Zi v3), some (Zi vk0), some (Zi v5), some (Zi v6), none] []) : am_U x m_Ft_sweep Po σ 110 [some (Zr 35), some (Zi v1), some (Zi v2), some (Zi v3), none, some (Zi v5), some (Zi v6), none] [Zi vk0] := by
  refine V_istore d_Ft_sweep_110 rfl ?_
  exact h
theorem s_Ft_improve_0 {x : am_Sc} {Po : Option am_AV → am_Sh → am_St → Prop} {σ : am_St} {v1 : Int}
    (h : am_U x m_Ar_fill (fun ro1 so1 σ1 => ro1 = none ∧ so1 = am_SH ∧ am_U x m_Ft_improve Po σ1 10 [some (Zr 35), some (Zi v1), some (Zi 0), none] []) σ 0 [some (Zr 38), some (Zi 0), none, none] []) : am_U x m_Ft_improve Po σ 0 [some (Zr 35), some (Zi v1), none, none] [] := by
  refine V_aload_n d_Ft_improve_0 rfl ?_
  refine U_geta d_Ft_improve_1 fl_Ft_18 sh_35 rfl ?_
  refine V_iconst d_Ft_improve_4 ?_
  refine U_is2 cv_Ft_improve_93 d_Ft_improve_5  rfl (am_mono h ?_)
  rintro ro1 so1 σ1 ⟨rfl, rfl, h⟩
  refine V_iconst d_Ft_improve_8 ?_
  refine V_istore_n d_Ft_improve_9 rfl ?_
  exact h
theorem s_Ft_improve_10 {x : am_Sc} {Po : Option am_AV → am_Sh → am_St → Prop} {σ : am_St} {v1 v2 : Int}
    (h : am_r v2 ∧ am_r (σ.1 8 3) ∧ (((σ.1 8 3) ≤ v2 → (0 ≤ v1 ∧ v1 < 8) ∧ am_U x m_Ft_improve Po σ 77 [some (Zr 35), some (Zi v1), some (Zi (σ.1 3 v1.toNat)), some (Zi 1)] []) ∧ (¬ (σ.1 8 3) ≤ v2 → am_U x m_Ft_improve Po σ 23 [some (Zr 35), some (Zi v1), some (Zi v2), some (Zi 0)] []))) : am_U x m_Ft_improve Po σ 10 [some (Zr 35), some (Zi v1), some (Zi v2), none] [] := by
  refine V_iload_n d_Ft_improve_10 rfl ?_
  refine V_aload_n d_Ft_improve_11 rfl ?_
  refine U_geta d_Ft_improve_12 fl_Ft_36 sh_35 rfl ?_
  refine U_geti d_Ft_improve_15 fl_Ft_99 sh_8 ?_
  obtain ⟨h1, h⟩ := h
  obtain ⟨h2, h⟩ := h
  obtain ⟨ht, hf⟩ := h
  refine V_icmp_ge 65 d_Ft_improve_18 h1 h2 (fun h4 => ?_) (fun h4 => ?_)
  · have h := ht h4
    refine V_aload_n d_Ft_improve_65 rfl ?_
    refine U_geta d_Ft_improve_66 fl_Ft_32 sh_35 rfl ?_
    refine U_geta d_Ft_improve_69 fl_Ft_87 sh_1 rfl ?_
    refine V_iload_n d_Ft_improve_72 rfl ?_
    obtain ⟨h3, h⟩ := h
    refine U_iald d_Ft_improve_73 sh_3 h3 ?_
    refine V_istore_n d_Ft_improve_74 rfl ?_
    refine V_iconst d_Ft_improve_75 ?_
    refine V_istore_n d_Ft_improve_76 rfl ?_
    exact h
  · have h := hf h4
    refine V_iconst d_Ft_improve_21 ?_
    refine V_istore_n d_Ft_improve_22 rfl ?_
    exact h
theorem s_Ft_improve_77 {x : am_Sc} {Po : Option am_AV → am_Sh → am_St → Prop} {σ : am_St} {v1 v2 v3 : Int}
    (h : am_r v3 ∧ ((60 < v3 → (0 ≤ v1 ∧ v1 < 8) ∧ (∀ σ2 : am_St, σ2 = (am_up σ.1 3 v1.toNat v2, σ.2) → (0 ≤ v2 ∧ v2 < 61) ∧ Po (some (Zi (σ2.1 38 v2.toNat))) am_SH σ2)) ∧ (¬ 60 < v3 → (0 ≤ v3 ∧ v3 < 61) ∧ (0 ≤ v2 ∧ v2 < 61) ∧ am_r (σ.1 38 v3.toNat) ∧ am_r (σ.1 38 v2.toNat) ∧ (((σ.1 38 v2.toNat) ≤ (σ.1 38 v3.toNat) → am_U x m_Ft_improve Po σ 100 [some (Zr 35), some (Zi v1), some (Zi v2), some (Zi v3)] []) ∧ (¬ (σ.1 38 v2.toNat) ≤ (σ.1 38 v3.toNat) → am_U x m_Ft_improve Po σ 100 [some (Zr 35), some (Zi v1), some (Zi v3), some (Zi v3)] []))))) : am_U x m_Ft_improve Po σ 77 [some (Zr 35), some (Zi v1), some (Zi v2), some (Zi v3)] [] := by
  refine V_iload_n d_Ft_improve_77 rfl ?_
  refine V_bipush d_Ft_improve_78 ?_
  obtain ⟨h5, h⟩ := h
  obtain ⟨ht, hf⟩ := h
  refine V_icmp_gt 106 d_Ft_improve_80 h5 (by decide) (fun h13 => ?_) (fun h13 => ?_)
  · have h := ht h13
    refine V_aload_n d_Ft_improve_106 rfl ?_
    refine U_geta d_Ft_improve_107 fl_Ft_32 sh_35 rfl ?_
    refine U_geta d_Ft_improve_110 fl_Ft_87 sh_1 rfl ?_
    refine V_iload_n d_Ft_improve_113 rfl ?_
    refine V_iload_n d_Ft_improve_114 rfl ?_
    obtain ⟨h6, h⟩ := h
    refine U_iast d_Ft_improve_115 sh_3 h6 ?_
    have h := h _ rfl
    refine V_aload_n d_Ft_improve_116 rfl ?_
    refine U_geta d_Ft_improve_117 fl_Ft_18 sh_35 rfl ?_
    refine V_iload_n d_Ft_improve_120 rfl ?_
    obtain ⟨h7, h⟩ := h
    refine U_iald d_Ft_improve_121 sh_38 h7 ?_
    exact V_iret d_Ft_improve_122 rfl rfl h
  · have h := hf h13
    refine V_aload_n d_Ft_improve_83 rfl ?_
    refine U_geta d_Ft_improve_84 fl_Ft_18 sh_35 rfl ?_
    refine V_iload_n d_Ft_improve_87 rfl ?_
    obtain ⟨h8, h⟩ := h
    refine U_iald d_Ft_improve_88 sh_38 h8 ?_
    refine V_aload_n d_Ft_improve_89 rfl ?_
    refine U_geta d_Ft_improve_90 fl_Ft_18 sh_35 rfl ?_
    refine V_iload_n d_Ft_improve_93 rfl ?_
    obtain ⟨h9, h⟩ := h
    refine U_iald d_Ft_improve_94 sh_38 h9 ?_
    obtain ⟨h10, h⟩ := h
    obtain ⟨h11, h⟩ := h
    obtain ⟨ht, hf⟩ := h
    refine V_icmp_ge 100 d_Ft_improve_95 h10 h11 (fun h12 => ?_) (fun h12 => ?_)
    · have h := ht h12
      exact h
    · have h := hf h12
      refine V_iload_n d_Ft_improve_98 rfl ?_
      refine V_istore_n d_Ft_improve_99 rfl ?_
      exact h
theorem s_Ft_improve_23 {x : am_Sc} {Po : Option am_AV → am_Sh → am_St → Prop} {σ : am_St} {v1 v2 v3 : Int}
    (h : am_r v3 ∧ ((2 ≤ v3 → am_U x m_Ft_improve Po σ 10 [some (Zr 35), some (Zi v1), some (Zi (v2 + 1)), none] []) ∧ (¬ 2 ≤ v3 → am_U x m_Ft_gatherMembers (fun ro3 so3 σ3 => ro3 = none ∧ so3 = am_SH ∧ am_r (σ3.1 35 6) ∧ (((σ3.1 35 6) ≤ 0 → am_U x m_Ft_improve Po σ3 53 [some (Zr 35), some (Zi v1), some (Zi v2), some (Zi v3)] []) ∧ (¬ (σ3.1 35 6) ≤ 0 → am_U x m_Ft_tabulate (fun ro4 so4 σ4 => ro4 = none ∧ so4 = am_SH ∧ am_U x m_Ft_addMisfits (fun ro5 so5 σ5 => ro5 = none ∧ so5 = am_SH ∧ am_U x m_Ft_improve Po σ5 53 [some (Zr 35), some (Zi v1), some (Zi v2), some (Zi v3)] []) σ4 0 [some (Zr 35), some (Zi v2), none, none, none, none, none] []) σ3 0 [some (Zr 35), some (Zi v1), some (Zi v2), some (Zi v3), none, none, none, none, none, none, none] []))) σ 0 [some (Zr 35), some (Zi v2), some (Zi v3), none] []))) : am_U x m_Ft_improve Po σ 23 [some (Zr 35), some (Zi v1), some (Zi v2), some (Zi v3)] [] := by
  refine V_iload_n d_Ft_improve_23 rfl ?_
  refine V_iconst d_Ft_improve_24 ?_
  obtain ⟨h14, h⟩ := h
  obtain ⟨ht, hf⟩ := h
  refine V_icmp_ge 59 d_Ft_improve_25 h14 (by decide) (fun h17 => ?_) (fun h17 => ?_)
  · have h := ht h17
    refine V_iinc d_Ft_improve_59 rfl rfl ?_
    refine V_goto 10 d_Ft_improve_62 ?_
    refine V_drop 3 ?_
    exact h
  · have h := hf h17
    refine V_aload_n d_Ft_improve_28 rfl ?_
    refine V_iload_n d_Ft_improve_29 rfl ?_
    refine V_iload_n d_Ft_improve_30 rfl ?_
    refine U_iv2 cv_Ft_improve_102 d_Ft_improve_31 sh_35 rfl rfl (am_mono h ?_)
    rintro ro3 so3 σ3 ⟨rfl, rfl, h⟩
    refine V_aload_n d_Ft_improve_34 rfl ?_
    refine U_geti d_Ft_improve_35 fl_Ft_105 sh_35 ?_
    obtain ⟨h15, h⟩ := h
    obtain ⟨ht, hf⟩ := h
    refine V_if_le 53 d_Ft_improve_38 h15 (fun h16 => ?_) (fun h16 => ?_)
    · have h := ht h16
      exact h
    · have h := hf h16
      refine V_aload_n d_Ft_improve_41 rfl ?_
      refine V_iload_n d_Ft_improve_42 rfl ?_
      refine V_iload_n d_Ft_improve_43 rfl ?_
      refine V_iload_n d_Ft_improve_44 rfl ?_
      refine U_iv3 cv_Ft_improve_108 d_Ft_improve_45 sh_35 rfl rfl (am_mono h ?_)
      rintro ro4 so4 σ4 ⟨rfl, rfl, h⟩
      refine V_aload_n d_Ft_improve_48 rfl ?_
      refine V_iload_n d_Ft_improve_49 rfl ?_
      refine U_iv1 cv_Ft_improve_112 d_Ft_improve_50 sh_35 rfl rfl (am_mono h ?_)
      rintro ro5 so5 σ5 ⟨rfl, rfl, h⟩
      exact h
theorem s_Ft_improve_100 {x : am_Sc} {Po : Option am_AV → am_Sh → am_St → Prop} {σ : am_St} {v1 v2 v3 : Int}
    (h : am_U x m_Ft_improve Po σ 77 [some (Zr 35), some (Zi v1), some (Zi v2), some (Zi (v3 + 1))] []) : am_U x m_Ft_improve Po σ 100 [some (Zr 35), some (Zi v1), some (Zi v2), some (Zi v3)] [] := by
  refine V_iinc d_Ft_improve_100 rfl rfl ?_
  refine V_goto 77 d_Ft_improve_103 ?_
  exact h
theorem s_Ft_improve_53 {x : am_Sc} {Po : Option am_AV → am_Sh → am_St → Prop} {σ : am_St} {v1 v2 v3 : Int}
    (h : am_U x m_Ft_improve Po σ 23 [some (Zr 35), some (Zi v1), some (Zi v2), some (Zi (v3 + 1))] []) : am_U x m_Ft_improve Po σ 53 [some (Zr 35), some (Zi v1), some (Zi v2), some (Zi v3)] [] := by
  refine V_iinc d_Ft_improve_53 rfl rfl ?_
  refine V_goto 23 d_Ft_improve_56 ?_
  exact h
theorem s_Ft_gatherMembers_0 {x : am_Sc} {Po : Option am_AV → am_Sh → am_St → Prop} {σ : am_St} {v1 v2 : Int}
    (h : (∀ σ1 : am_St, σ1 = (am_up σ.1 35 6 0, σ.2) → am_U x m_Ft_gatherMembers Po σ1 7 [some (Zr 35), some (Zi v1), some (Zi v2), some (Zi 0)] [])) : am_U x m_Ft_gatherMembers Po σ 0 [some (Zr 35), some (Zi v1), some (Zi v2), none] [] := by
  refine V_aload_n d_Ft_gatherMembers_0 rfl ?_
  refine V_iconst d_Ft_gatherMembers_1 ?_
  refine U_puti d_Ft_gatherMembers_2 fw_Ft_105 sh_35 ?_
  have h := h _ rfl
  refine V_iconst d_Ft_gatherMembers_5 ?_
  refine V_istore_n d_Ft_gatherMembers_6 rfl ?_
  exact h
theorem s_Ft_gatherMembers_7 {x : am_Sc} {Po : Option am_AV → am_Sh → am_St → Prop} {σ : am_St} {v1 v2 v3 : Int}
    (h : am_r v3 ∧ am_r (σ.1 8 6) ∧ (((σ.1 8 6) ≤ v3 → Po none am_SH σ) ∧ (¬ (σ.1 8 6) ≤ v3 → (0 ≤ v3 ∧ v3 < 12) ∧ am_r (σ.1 14 v3.toNat) ∧ am_r v1 ∧ ((¬ (σ.1 14 v3.toNat) = v1 → am_U x m_Ft_gatherMembers Po σ 64 [some (Zr 35), some (Zi v1), some (Zi v2), some (Zi v3)] []) ∧ ((σ.1 14 v3.toNat) = v1 → am_r (σ.1 15 v3.toNat) ∧ am_r v2 ∧ ((¬ (σ.1 15 v3.toNat) = v2 → am_U x m_Ft_gatherMembers Po σ 64 [some (Zr 35), some (Zi v1), some (Zi v2), some (Zi v3)] []) ∧ ((σ.1 15 v3.toNat) = v2 → (0 ≤ σ.1 35 6 ∧ σ.1 35 6 < 12) ∧ (∀ σ2 : am_St, σ2 = (am_up σ.1 39 (σ.1 35 6).toNat v3, σ.2) → (∀ σ3 : am_St, σ3 = (am_up σ2.1 35 6 ((σ2.1 35 6) + 1), σ2.2) → am_U x m_Ft_gatherMembers Po σ3 64 [some (Zr 35), some (Zi v1), some (Zi v2), some (Zi v3)] []))))))))) : am_U x m_Ft_gatherMembers Po σ 7 [some (Zr 35), some (Zi v1), some (Zi v2), some (Zi v3)] [] := by
  refine V_iload_n d_Ft_gatherMembers_7 rfl ?_
  refine V_aload_n d_Ft_gatherMembers_8 rfl ?_
  refine U_geta d_Ft_gatherMembers_9 fl_Ft_36 sh_35 rfl ?_
  refine U_geti d_Ft_gatherMembers_12 fl_Ft_67 sh_8 ?_
  obtain ⟨h1, h⟩ := h
  obtain ⟨h2, h⟩ := h
  obtain ⟨ht, hf⟩ := h
  refine V_icmp_ge 70 d_Ft_gatherMembers_15 h1 h2 (fun h11 => ?_) (fun h11 => ?_)
  · have h := ht h11
    exact V_ret d_Ft_gatherMembers_70 rfl rfl h
  · have h := hf h11
    refine V_aload_n d_Ft_gatherMembers_18 rfl ?_
    refine U_geta d_Ft_gatherMembers_19 fl_Ft_36 sh_35 rfl ?_
    refine U_geta d_Ft_gatherMembers_22 fl_Ft_116 sh_8 rfl ?_
    refine V_iload_n d_Ft_gatherMembers_25 rfl ?_
    obtain ⟨h3, h⟩ := h
    refine U_iald d_Ft_gatherMembers_26 sh_14 h3 ?_
    refine V_iload_n d_Ft_gatherMembers_27 rfl ?_
    obtain ⟨h4, h⟩ := h
    obtain ⟨h5, h⟩ := h
    obtain ⟨ht, hf⟩ := h
    refine V_icmp_ne 64 d_Ft_gatherMembers_28 h4 h5 (fun h10 => ?_) (fun h10 => ?_)
    · have h := ht h10
      exact h
    · have h := hf h10
      refine V_aload_n d_Ft_gatherMembers_31 rfl ?_
      refine U_geta d_Ft_gatherMembers_32 fl_Ft_36 sh_35 rfl ?_
      refine U_geta d_Ft_gatherMembers_35 fl_Ft_46 sh_8 rfl ?_
      refine V_iload_n d_Ft_gatherMembers_38 rfl ?_
      refine U_iald d_Ft_gatherMembers_39 sh_15 h3 ?_
      refine V_iload_n d_Ft_gatherMembers_40 rfl ?_
      obtain ⟨h6, h⟩ := h
      obtain ⟨h7, h⟩ := h
      obtain ⟨ht, hf⟩ := h
      refine V_icmp_ne 64 d_Ft_gatherMembers_41 h6 h7 (fun h9 => ?_) (fun h9 => ?_)
      · have h := ht h9
        exact h
      · have h := hf h9
        refine V_aload_n d_Ft_gatherMembers_44 rfl ?_
        refine U_geta d_Ft_gatherMembers_45 fl_Ft_21 sh_35 rfl ?_
        refine V_aload_n d_Ft_gatherMembers_48 rfl ?_
        refine U_geti d_Ft_gatherMembers_49 fl_Ft_105 sh_35 ?_
        refine V_iload_n d_Ft_gatherMembers_52 rfl ?_
        obtain ⟨h8, h⟩ := h
        refine U_iast d_Ft_gatherMembers_53 sh_39 h8 ?_
        have h := h _ rfl
        refine V_aload_n d_Ft_gatherMembers_54 rfl ?_
        refine V_dup d_Ft_gatherMembers_55 ?_
        refine U_geti d_Ft_gatherMembers_56 fl_Ft_105 sh_35 ?_
        refine V_iconst d_Ft_gatherMembers_59 ?_
        refine V_iadd d_Ft_gatherMembers_60 ?_
        refine U_puti d_Ft_gatherMembers_61 fw_Ft_105 sh_35 ?_
        have h := h _ rfl
        exact h
theorem s_Ft_gatherMembers_64 {x : am_Sc} {Po : Option am_AV → am_Sh → am_St → Prop} {σ : am_St} {v1 v2 v3 : Int}
    (h : am_U x m_Ft_gatherMembers Po σ 7 [some (Zr 35), some (Zi v1), some (Zi v2), some (Zi (v3 + 1))] []) : am_U x m_Ft_gatherMembers Po σ 64 [some (Zr 35), some (Zi v1), some (Zi v2), some (Zi v3)] [] := by
  refine V_iinc d_Ft_gatherMembers_64 rfl rfl ?_
  refine V_goto 7 d_Ft_gatherMembers_67 ?_
  exact h
theorem s_Ft_tabulate_0 {x : am_Sc} {Po : Option am_AV → am_Sh → am_St → Prop} {σ : am_St} {v1 v2 v3 : Int}
    (h : (0 ≤ v1 ∧ v1 < 8) ∧ (0 ≤ v2 ∧ v2 < 5) ∧ am_U x m_Ft_measure (fun ro1 so1 σ1 => ro1 = none ∧ so1 = am_SH ∧ am_U x m_Ft_measure (fun ro2 so2 σ2 => ro2 = none ∧ so2 = am_SH ∧ (∀ σ3 : am_St, σ3 = (am_up σ2.1 102 (0 : Int).toNat 60, σ2.2) → am_U x m_Ft_tabulate Po σ3 59 [some (Zr 35), some (Zi v1), none, some (Zi v3), some (Zi (σ.1 3 v1.toNat)), some (Zi (σ.1 11 v2.toNat)), some (Zi 1), some (Zi 0), some (Zi 0), none, none] [])) σ1 0 [some (Zr 35), some (Zi v1), some (Zi 60), some (Zi (σ.1 11 v2.toNat)), some (Zi v3), none] []) σ 0 [some (Zr 35), some (Zi v1), some (Zi 1), some (Zi (σ.1 11 v2.toNat)), some (Zi v3), none] []) : am_U x m_Ft_tabulate Po σ 0 [some (Zr 35), some (Zi v1), some (Zi v2), some (Zi v3), none, none, none, none, none, none, none] [] := by
  refine V_aload_n d_Ft_tabulate_0 rfl ?_
  refine U_geta d_Ft_tabulate_1 fl_Ft_32 sh_35 rfl ?_
  refine U_geta d_Ft_tabulate_4 fl_Ft_87 sh_1 rfl ?_
  refine V_iload_n d_Ft_tabulate_7 rfl ?_
  obtain ⟨h1, h⟩ := h
  refine U_iald d_Ft_tabulate_8 sh_3 h1 ?_
  refine V_istore d_Ft_tabulate_9 rfl ?_
  refine V_aload_n d_Ft_tabulate_11 rfl ?_
  refine U_geta d_Ft_tabulate_12 fl_Ft_36 sh_35 rfl ?_
  refine U_geta d_Ft_tabulate_15 fl_Ft_126 sh_8 rfl ?_
  refine V_iload_n d_Ft_tabulate_18 rfl ?_
  obtain ⟨h2, h⟩ := h
  refine U_iald d_Ft_tabulate_19 sh_11 h2 ?_
  refine V_istore d_Ft_tabulate_20 rfl ?_
  refine V_aload_n d_Ft_tabulate_22 rfl ?_
  refine V_iload_n d_Ft_tabulate_23 rfl ?_
  refine V_iconst d_Ft_tabulate_24 ?_
  refine V_iload d_Ft_tabulate_25 rfl ?_
  refine V_iload_n d_Ft_tabulate_27 rfl ?_
  refine U_iv4 cv_Ft_tabulate_129 d_Ft_tabulate_28 sh_35 rfl rfl (am_mono h ?_)
  rintro ro1 so1 σ1 ⟨rfl, rfl, h⟩
  refine V_aload_n d_Ft_tabulate_31 rfl ?_
  refine V_iload_n d_Ft_tabulate_32 rfl ?_
  refine V_bipush d_Ft_tabulate_33 ?_
  refine V_iload d_Ft_tabulate_35 rfl ?_
  refine V_iload_n d_Ft_tabulate_37 rfl ?_
  refine U_iv4 cv_Ft_tabulate_129 d_Ft_tabulate_38 sh_35 rfl rfl (am_mono h ?_)
  rintro ro2 so2 σ2 ⟨rfl, rfl, h⟩
  refine V_iconst d_Ft_tabulate_41 ?_
  refine V_istore d_Ft_tabulate_42 rfl ?_
  refine V_iconst d_Ft_tabulate_44 ?_
  refine V_istore d_Ft_tabulate_45 rfl ?_
  refine V_aload_n d_Ft_tabulate_47 rfl ?_
  refine U_geta d_Ft_tabulate_48 fl_Ft_29 sh_35 rfl ?_
  refine V_iload d_Ft_tabulate_51 rfl ?_
  refine V_bipush d_Ft_tabulate_53 ?_
  refine U_iast d_Ft_tabulate_55 sh_102 (by decide) ?_
  have h := h _ rfl
  refine V_iconst d_Ft_tabulate_56 ?_
  refine V_istore d_Ft_tabulate_57 rfl ?_
  refine V_drop 2 ?_
  exact h
theorem s_Ft_tabulate_59 {x : am_Sc} {Po : Option am_AV → am_Sh → am_St → Prop} {σ : am_St} {v1 v3 v4 v5 v6 v7 v8 : Int}
    (h : am_r v8 ∧ ((120 ≤ v8 → am_U x m_Ft_tabulate Po σ 171 [some (Zr 35), some (Zi v1), none, none, some (Zi v4), none, none, none, none, none, none] []) ∧ (¬ 120 ≤ v8 → am_r v7 ∧ ((v7 < 0 → am_U x m_Ft_tabulate Po σ 171 [some (Zr 35), some (Zi v1), none, none, some (Zi v4), none, none, none, none, none, none] []) ∧ (¬ v7 < 0 → ((60 ≤ v7 → am_U x m_Ft_tabulate Po σ 171 [some (Zr 35), some (Zi v1), none, none, some (Zi v4), none, none, none, none, none, none] []) ∧ (¬ 60 ≤ v7 → (0 ≤ v7 ∧ v7 < 61) ∧ am_r (am_div (v6 + (σ.1 102 v7.toNat)) 2) ∧ am_r v6 ∧ (((am_div (v6 + (σ.1 102 v7.toNat)) 2) ≤ v6 → am_U x m_Ft_tabulate Po σ 113 [some (Zr 35), some (Zi v1), none, some (Zi v3), some (Zi v4), some (Zi v5), some (Zi v6), some (Zi v7), some (Zi v8), some (Zi (σ.1 102 v7.toNat)), some (Zi (am_div (v6 + (σ.1 102 v7.toNat)) 2))] []) ∧ (¬ (am_div (v6 + (σ.1 102 v7.toNat)) 2) ≤ v6 → am_U x m_Ft_measure (fun ro4 so4 σ4 => ro4 = none ∧ so4 = am_SH ∧ am_U x m_Ft_tabulate Po σ4 113 [some (Zr 35), some (Zi v1), none, some (Zi v3), some (Zi v4), some (Zi v5), some (Zi v6), some (Zi v7), some (Zi v8), some (Zi (σ.1 102 v7.toNat)), some (Zi (am_div (v6 + (σ.1 102 v7.toNat)) 2))] []) σ 0 [some (Zr 35), some (Zi v1), some (Zi (am_div (v6 + (σ.1 102 v7.toNat)) 2)), some (Zi v5), some (Zi v3), none] []))))))))) : am_U x m_Ft_tabulate Po σ 59 [some (Zr 35), some (Zi v1), none, some (Zi v3), some (Zi v4), some (Zi v5), some (Zi v6), some (Zi v7), some (Zi v8), none, none] [] := by
  refine V_iload d_Ft_tabulate_59 rfl ?_
  refine V_bipush d_Ft_tabulate_61 ?_
  obtain ⟨h3, h⟩ := h
  obtain ⟨ht, hf⟩ := h
  refine V_icmp_ge 171 d_Ft_tabulate_63 h3 (by decide) (fun h11 => ?_) (fun h11 => ?_)
  · have h := ht h11
    refine V_drop 3 ?_
    refine V_drop 5 ?_
    refine V_drop 6 ?_
    refine V_drop 7 ?_
    refine V_drop 8 ?_
    exact h
  · have h := hf h11
    refine V_iload d_Ft_tabulate_66 rfl ?_
    obtain ⟨h4, h⟩ := h
    obtain ⟨ht, hf⟩ := h
    refine V_if_lt 171 d_Ft_tabulate_68 h4 (fun h10 => ?_) (fun h10 => ?_)
    · have h := ht h10
      refine V_drop 3 ?_
      refine V_drop 5 ?_
      refine V_drop 6 ?_
      refine V_drop 7 ?_
      refine V_drop 8 ?_
      exact h
    · have h := hf h10
      refine V_iload d_Ft_tabulate_71 rfl ?_
      refine V_bipush d_Ft_tabulate_73 ?_
      obtain ⟨ht, hf⟩ := h
      refine V_icmp_ge 171 d_Ft_tabulate_75 h4 (by decide) (fun h9 => ?_) (fun h9 => ?_)
      · have h := ht h9
        refine V_drop 3 ?_
        refine V_drop 5 ?_
        refine V_drop 6 ?_
        refine V_drop 7 ?_
        refine V_drop 8 ?_
        exact h
      · have h := hf h9
        refine V_aload_n d_Ft_tabulate_78 rfl ?_
        refine U_geta d_Ft_tabulate_79 fl_Ft_29 sh_35 rfl ?_
        refine V_iload d_Ft_tabulate_82 rfl ?_
        obtain ⟨h5, h⟩ := h
        refine U_iald d_Ft_tabulate_84 sh_102 h5 ?_
        refine V_istore d_Ft_tabulate_85 rfl ?_
        refine V_iload d_Ft_tabulate_87 rfl ?_
        refine V_iload d_Ft_tabulate_89 rfl ?_
        refine V_iadd d_Ft_tabulate_91 ?_
        refine V_iconst d_Ft_tabulate_92 ?_
        refine V_idiv d_Ft_tabulate_93 (by decide) (by decide) ?_
        refine V_istore d_Ft_tabulate_94 rfl ?_
        refine V_iload d_Ft_tabulate_96 rfl ?_
        refine V_iload d_Ft_tabulate_98 rfl ?_
        obtain ⟨h6, h⟩ := h
        obtain ⟨h7, h⟩ := h
        obtain ⟨ht, hf⟩ := h
        refine V_icmp_le 113 d_Ft_tabulate_100 h6 h7 (fun h8 => ?_) (fun h8 => ?_)
        · have h := ht h8
          exact h
        · have h := hf h8
          refine V_aload_n d_Ft_tabulate_103 rfl ?_
          refine V_iload_n d_Ft_tabulate_104 rfl ?_
          refine V_iload d_Ft_tabulate_105 rfl ?_
          refine V_iload d_Ft_tabulate_107 rfl ?_
          refine V_iload_n d_Ft_tabulate_109 rfl ?_
          refine U_iv4 cv_Ft_tabulate_129 d_Ft_tabulate_110 sh_35 rfl rfl (am_mono h ?_)
          rintro ro4 so4 σ4 ⟨rfl, rfl, h⟩
          exact h
theorem s_Ft_tabulate_171 {x : am_Sc} {Po : Option am_AV → am_Sh → am_St → Prop} {σ : am_St} {v1 v4 : Int}
    (h : (0 ≤ v1 ∧ v1 < 8) ∧ (∀ σ5 : am_St, σ5 = (am_up σ.1 3 v1.toNat v4, σ.2) → Po none am_SH σ5)) : am_U x m_Ft_tabulate Po σ 171 [some (Zr 35), some (Zi v1), none, none, some (Zi v4), none, none, none, none, none, none] [] := by
  refine V_aload_n d_Ft_tabulate_171 rfl ?_
  refine U_geta d_Ft_tabulate_172 fl_Ft_32 sh_35 rfl ?_
  refine U_geta d_Ft_tabulate_175 fl_Ft_87 sh_1 rfl ?_
  refine V_iload_n d_Ft_tabulate_178 rfl ?_
  refine V_iload d_Ft_tabulate_179 rfl ?_
  obtain ⟨h12, h⟩ := h
  refine U_iast d_Ft_tabulate_181 sh_3 h12 ?_
  have h := h _ rfl
  exact V_ret d_Ft_tabulate_182 rfl rfl h
theorem s_Ft_tabulate_113 {x : am_Sc} {Po : Option am_AV → am_Sh → am_St → Prop} {σ : am_St} {v1 v3 v4 v5 v6 v7 v8 v9 v10 : Int}
    (h : am_r v10 ∧ am_r v6 ∧ ((v10 = v6 → am_U x m_Ft_tabulate Po σ 134 [some (Zr 35), some (Zi v1), none, some (Zi v3), some (Zi v4), some (Zi v5), some (Zi v6), some (Zi v7), some (Zi v8), some (Zi v9), none] []) ∧ (¬ v10 = v6 → am_U x m_Ft_isStraight (fun ro6 so6 σ6 => ∃ z6 : Int, ro6 = some (Zi z6) ∧ so6 = am_SH ∧ am_r z6 ∧ ((z6 = 0 → (0 ≤ v7 + 1 ∧ v7 + 1 < 61) ∧ (∀ σ7 : am_St, σ7 = (am_up σ6.1 102 (v7 + 1).toNat v10, σ6.2) → am_U x m_Ft_tabulate Po σ7 165 [some (Zr 35), some (Zi v1), none, some (Zi v3), some (Zi v4), some (Zi v5), some (Zi v6), some (Zi (v7 + 1)), some (Zi v8), none, none] [])) ∧ (¬ z6 = 0 → am_U x m_Ft_tabulate Po σ6 134 [some (Zr 35), some (Zi v1), none, some (Zi v3), some (Zi v4), some (Zi v5), some (Zi v6), some (Zi v7), some (Zi v8), some (Zi v9), none] []))) σ 0 [some (Zr 35), some (Zi v6), some (Zi v10), some (Zi v9), some (Zi v3), none, none, none, none, none] []))) : am_U x m_Ft_tabulate Po σ 113 [some (Zr 35), some (Zi v1), none, some (Zi v3), some (Zi v4), some (Zi v5), some (Zi v6), some (Zi v7), some (Zi v8), some (Zi v9), some (Zi v10)] [] := by
  refine V_iload d_Ft_tabulate_113 rfl ?_
  refine V_iload d_Ft_tabulate_115 rfl ?_
  obtain ⟨h13, h⟩ := h
  obtain ⟨h14, h⟩ := h
  obtain ⟨ht, hf⟩ := h
  refine V_icmp_eq 134 d_Ft_tabulate_117 h13 h14 (fun h18 => ?_) (fun h18 => ?_)
  · have h := ht h18
    refine V_drop 10 ?_
    exact h
  · have h := hf h18
    refine V_aload_n d_Ft_tabulate_120 rfl ?_
    refine V_iload d_Ft_tabulate_121 rfl ?_
    refine V_iload d_Ft_tabulate_123 rfl ?_
    refine V_iload d_Ft_tabulate_125 rfl ?_
    refine V_iload_n d_Ft_tabulate_127 rfl ?_
    refine U_iv4 cv_Ft_tabulate_133 d_Ft_tabulate_128 sh_35 rfl rfl (am_mono h ?_)
    rintro ro6 so6 σ6 ⟨z6, rfl, rfl, h⟩
    obtain ⟨h15, h⟩ := h
    obtain ⟨ht, hf⟩ := h
    refine V_if_eq 153 d_Ft_tabulate_131 h15 (fun h17 => ?_) (fun h17 => ?_)
    · have h := ht h17
      refine V_iinc d_Ft_tabulate_153 rfl rfl ?_
      refine V_aload_n d_Ft_tabulate_156 rfl ?_
      refine U_geta d_Ft_tabulate_157 fl_Ft_29 sh_35 rfl ?_
      refine V_iload d_Ft_tabulate_160 rfl ?_
      refine V_iload d_Ft_tabulate_162 rfl ?_
      obtain ⟨h16, h⟩ := h
      refine U_iast d_Ft_tabulate_164 sh_102 h16 ?_
      have h := h _ rfl
      refine V_drop 9 ?_
      refine V_drop 10 ?_
      exact h
    · have h := hf h17
      refine V_drop 10 ?_
      exact h
theorem s_Ft_tabulate_134 {x : am_Sc} {Po : Option am_AV → am_Sh → am_St → Prop} {σ : am_St} {v1 v3 v4 v5 v6 v7 v8 v9 : Int}
    (h : am_U x m_Ft_fillLine (fun ro8 so8 σ8 => ro8 = none ∧ so8 = am_SH ∧ am_U x m_Ft_tabulate Po σ8 165 [some (Zr 35), some (Zi v1), none, some (Zi v3), some (Zi v4), some (Zi v5), some (Zi v9), some (Zi (v7 + (-1))), some (Zi v8), none, none] []) σ 0 [some (Zr 35), some (Zi v6), some (Zi v9), some (Zi v3), none, none, none, none, none, none] []) : am_U x m_Ft_tabulate Po σ 134 [some (Zr 35), some (Zi v1), none, some (Zi v3), some (Zi v4), some (Zi v5), some (Zi v6), some (Zi v7), some (Zi v8), some (Zi v9), none] [] := by
  refine V_aload_n d_Ft_tabulate_134 rfl ?_
  refine V_iload d_Ft_tabulate_135 rfl ?_
  refine V_iload d_Ft_tabulate_137 rfl ?_
  refine V_iload_n d_Ft_tabulate_139 rfl ?_
  refine U_iv3 cv_Ft_tabulate_137 d_Ft_tabulate_140 sh_35 rfl rfl (am_mono h ?_)
  rintro ro8 so8 σ8 ⟨rfl, rfl, h⟩
  refine V_iload d_Ft_tabulate_143 rfl ?_
  refine V_istore d_Ft_tabulate_145 rfl ?_
  refine V_iinc d_Ft_tabulate_147 rfl rfl ?_
  refine V_goto 165 d_Ft_tabulate_150 ?_
  refine V_drop 9 ?_
  exact h
theorem s_Ft_tabulate_165 {x : am_Sc} {Po : Option am_AV → am_Sh → am_St → Prop} {σ : am_St} {v1 v3 v4 v5 v6 v7 v8 : Int}
    (h : am_U x m_Ft_tabulate Po σ 59 [some (Zr 35), some (Zi v1), none, some (Zi v3), some (Zi v4), some (Zi v5), some (Zi v6), some (Zi v7), some (Zi (v8 + 1)), none, none] []) : am_U x m_Ft_tabulate Po σ 165 [some (Zr 35), some (Zi v1), none, some (Zi v3), some (Zi v4), some (Zi v5), some (Zi v6), some (Zi v7), some (Zi v8), none, none] [] := by
  refine V_iinc d_Ft_tabulate_165 rfl rfl ?_
  refine V_goto 59 d_Ft_tabulate_168 ?_
  exact h
theorem s_Ft_measure_0 {x : am_Sc} {Po : Option am_AV → am_Sh → am_St → Prop} {σ : am_St} {v1 v2 v3 v4 : Int}
    (h : (0 ≤ v1 ∧ v1 < 8) ∧ (∀ σ1 : am_St, σ1 = (am_up σ.1 3 v1.toNat v2, σ.2) → am_U x m_Gr_spread (fun ro2 so2 σ2 => ro2 = none ∧ so2 = am_SH ∧ am_U x m_Ft_measure Po σ2 23 [some (Zr 35), none, some (Zi v2), none, none, some (Zi 0)] []) σ1 0 [some (Zr 1), some (Zi v3), some (Zi v4), none, none, none, none] [])) : am_U x m_Ft_measure Po σ 0 [some (Zr 35), some (Zi v1), some (Zi v2), some (Zi v3), some (Zi v4), none] [] := by
  refine V_aload_n d_Ft_measure_0 rfl ?_
  refine U_geta d_Ft_measure_1 fl_Ft_32 sh_35 rfl ?_
  refine U_geta d_Ft_measure_4 fl_Ft_87 sh_1 rfl ?_
  refine V_iload_n d_Ft_measure_7 rfl ?_
  refine V_iload_n d_Ft_measure_8 rfl ?_
  obtain ⟨h1, h⟩ := h
  refine U_iast d_Ft_measure_9 sh_3 h1 ?_
  have h := h _ rfl
  refine V_aload_n d_Ft_measure_10 rfl ?_
  refine U_geta d_Ft_measure_11 fl_Ft_32 sh_35 rfl ?_
  refine V_iload_n d_Ft_measure_14 rfl ?_
  refine V_iload d_Ft_measure_15 rfl ?_
  refine U_iv2 cv_Ft_measure_49 d_Ft_measure_17 sh_1 rfl rfl (am_mono h ?_)
  rintro ro2 so2 σ2 ⟨rfl, rfl, h⟩
  refine V_iconst d_Ft_measure_20 ?_
  refine V_istore d_Ft_measure_21 rfl ?_
  refine V_drop 1 ?_
  refine V_drop 3 ?_
  refine V_drop 4 ?_
  exact h
theorem s_Ft_measure_23 {x : am_Sc} {Po : Option am_AV → am_Sh → am_St → Prop} {σ : am_St} {v2 v5 : Int}
    (h : am_r v5 ∧ am_r (σ.1 35 6) ∧ (((σ.1 35 6) ≤ v5 → Po none am_SH σ) ∧ (¬ (σ.1 35 6) ≤ v5 → (0 ≤ v2 ∧ v2 < 61) ∧ (0 ≤ v5 ∧ v5 < 12) ∧ am_U x m_Bo_cellOfEar (fun ro3 so3 σ3 => ∃ z3 : Int, ro3 = some (Zi z3) ∧ so3 = am_SH ∧ (0 ≤ z3 ∧ z3 < 16) ∧ (∀ σ4 : am_St, σ4 = (am_up σ3.1 (41 + v2.toNat) v5.toNat (σ3.1 6 z3.toNat), σ3.2) → am_U x m_Ft_measure Po σ4 23 [some (Zr 35), none, some (Zi v2), none, none, some (Zi (v5 + 1))] [])) σ 0 [some (Zr 8), some (Zi (σ.1 39 v5.toNat))] []))) : am_U x m_Ft_measure Po σ 23 [some (Zr 35), none, some (Zi v2), none, none, some (Zi v5)] [] := by
  refine V_iload d_Ft_measure_23 rfl ?_
  refine V_aload_n d_Ft_measure_25 rfl ?_
  refine U_geti d_Ft_measure_26 fl_Ft_105 sh_35 ?_
  obtain ⟨h2, h⟩ := h
  obtain ⟨h3, h⟩ := h
  obtain ⟨ht, hf⟩ := h
  refine V_icmp_ge 69 d_Ft_measure_29 h2 h3 (fun h7 => ?_) (fun h7 => ?_)
  · have h := ht h7
    exact V_ret d_Ft_measure_69 rfl rfl h
  · have h := hf h7
    refine V_aload_n d_Ft_measure_32 rfl ?_
    refine U_geta d_Ft_measure_33 fl_Ft_26 sh_35 rfl ?_
    refine V_iload_n d_Ft_measure_36 rfl ?_
    obtain ⟨h4, h⟩ := h
    refine U_aald d_Ft_measure_37 sh_40 (by decide) h4 (shO_40 _ (am_tn h4)) ?_
    refine V_iload d_Ft_measure_38 rfl ?_
    refine V_aload_n d_Ft_measure_40 rfl ?_
    refine U_geta d_Ft_measure_41 fl_Ft_32 sh_35 rfl ?_
    refine U_geta d_Ft_measure_44 fl_Ft_58 sh_1 rfl ?_
    refine V_aload_n d_Ft_measure_47 rfl ?_
    refine U_geta d_Ft_measure_48 fl_Ft_36 sh_35 rfl ?_
    refine V_aload_n d_Ft_measure_51 rfl ?_
    refine U_geta d_Ft_measure_52 fl_Ft_21 sh_35 rfl ?_
    refine V_iload d_Ft_measure_55 rfl ?_
    obtain ⟨h5, h⟩ := h
    refine U_iald d_Ft_measure_57 sh_39 h5 ?_
    refine U_iv1 cv_Ft_measure_61 d_Ft_measure_58 sh_8 rfl rfl (am_mono h ?_)
    rintro ro3 so3 σ3 ⟨z3, rfl, rfl, h⟩
    obtain ⟨h6, h⟩ := h
    refine U_iald d_Ft_measure_61 sh_6 h6 ?_
    refine U_iast d_Ft_measure_62 (shR_40 _ (am_tn h4)) h5 ?_
    have h := h _ rfl
    refine V_iinc d_Ft_measure_63 rfl rfl ?_
    refine V_goto 23 d_Ft_measure_66 ?_
    exact h
theorem s_Ft_isStraight_0 {x : am_Sc} {Po : Option am_AV → am_Sh → am_St → Prop} {σ : am_St} {v1 v2 v3 v4 : Int}
    (h : am_U x m_Gr_price (fun ro1 so1 σ1 => ∃ z1 : Int, ro1 = some (Zi z1) ∧ so1 = am_SH ∧ am_U x m_Gr_price (fun ro2 so2 σ2 => ∃ z2 : Int, ro2 = some (Zi z2) ∧ so2 = am_SH ∧ am_U x m_Gr_price (fun ro3 so3 σ3 => ∃ z3 : Int, ro3 = some (Zi z3) ∧ so3 = am_SH ∧ am_U x m_Gr_price (fun ro4 so4 σ4 => ∃ z4 : Int, ro4 = some (Zi z4) ∧ so4 = am_SH ∧ am_U x m_Ft_isStraight Po σ4 49 [some (Zr 35), some (Zi v1), some (Zi v2), some (Zi v3), none, some (Zi (z1 - z2)), some (Zi (z3 - z4)), some (Zi 0), none, none] []) σ3 0 [some (Zr 1), some (Zi v1), some (Zi v4)] []) σ2 0 [some (Zr 1), some (Zi v3), some (Zi v4)] []) σ1 0 [some (Zr 1), some (Zi v1), some (Zi v4)] []) σ 0 [some (Zr 1), some (Zi v2), some (Zi v4)] []) : am_U x m_Ft_isStraight Po σ 0 [some (Zr 35), some (Zi v1), some (Zi v2), some (Zi v3), some (Zi v4), none, none, none, none, none] [] := by
  refine V_aload_n d_Ft_isStraight_0 rfl ?_
  refine U_geta d_Ft_isStraight_1 fl_Ft_32 sh_35 rfl ?_
  refine V_iload_n d_Ft_isStraight_4 rfl ?_
  refine V_iload d_Ft_isStraight_5 rfl ?_
  refine U_iv2 cv_Ft_isStraight_140 d_Ft_isStraight_7 sh_1 rfl rfl (am_mono h ?_)
  rintro ro1 so1 σ1 ⟨z1, rfl, rfl, h⟩
  refine V_aload_n d_Ft_isStraight_10 rfl ?_
  refine U_geta d_Ft_isStraight_11 fl_Ft_32 sh_35 rfl ?_
  refine V_iload_n d_Ft_isStraight_14 rfl ?_
  refine V_iload d_Ft_isStraight_15 rfl ?_
  refine U_iv2 cv_Ft_isStraight_140 d_Ft_isStraight_17 sh_1 rfl rfl (am_mono h ?_)
  rintro ro2 so2 σ2 ⟨z2, rfl, rfl, h⟩
  refine V_isub d_Ft_isStraight_20 ?_
  refine V_istore d_Ft_isStraight_21 rfl ?_
  refine V_aload_n d_Ft_isStraight_23 rfl ?_
  refine U_geta d_Ft_isStraight_24 fl_Ft_32 sh_35 rfl ?_
  refine V_iload_n d_Ft_isStraight_27 rfl ?_
  refine V_iload d_Ft_isStraight_28 rfl ?_
  refine U_iv2 cv_Ft_isStraight_140 d_Ft_isStraight_30 sh_1 rfl rfl (am_mono h ?_)
  rintro ro3 so3 σ3 ⟨z3, rfl, rfl, h⟩
  refine V_aload_n d_Ft_isStraight_33 rfl ?_
  refine U_geta d_Ft_isStraight_34 fl_Ft_32 sh_35 rfl ?_
  refine V_iload_n d_Ft_isStraight_37 rfl ?_
  refine V_iload d_Ft_isStraight_38 rfl ?_
  refine U_iv2 cv_Ft_isStraight_140 d_Ft_isStraight_40 sh_1 rfl rfl (am_mono h ?_)
  rintro ro4 so4 σ4 ⟨z4, rfl, rfl, h⟩
  refine V_isub d_Ft_isStraight_43 ?_
  refine V_istore d_Ft_isStraight_44 rfl ?_
  refine V_iconst d_Ft_isStraight_46 ?_
  refine V_istore d_Ft_isStraight_47 rfl ?_
  refine V_drop 4 ?_
  exact h
theorem s_Ft_isStraight_49 {x : am_Sc} {Po : Option am_AV → am_Sh → am_St → Prop} {σ : am_St} {v1 v2 v3 v5 v6 v7 : Int}
    (h : am_r v7 ∧ am_r (σ.1 35 6) ∧ (((σ.1 35 6) ≤ v7 → Po (some (Zi 1)) am_SH σ) ∧ (¬ (σ.1 35 6) ≤ v7 → (0 ≤ v2 ∧ v2 < 61) ∧ (0 ≤ v7 ∧ v7 < 12) ∧ (0 ≤ v1 ∧ v1 < 61) ∧ (0 ≤ v3 ∧ v3 < 61) ∧ am_r (((σ.1 (41 + v2.toNat) v7.toNat) - (σ.1 (41 + v1.toNat) v7.toNat)) * v6) ∧ am_r (((σ.1 (41 + v3.toNat) v7.toNat) - (σ.1 (41 + v1.toNat) v7.toNat)) * v5) ∧ (((((σ.1 (41 + v2.toNat) v7.toNat) - (σ.1 (41 + v1.toNat) v7.toNat)) * v6) = (((σ.1 (41 + v3.toNat) v7.toNat) - (σ.1 (41 + v1.toNat) v7.toNat)) * v5) → am_U x m_Ft_isStraight Po σ 49 [some (Zr 35), some (Zi v1), some (Zi v2), some (Zi v3), none, some (Zi v5), some (Zi v6), some (Zi (v7 + 1)), none, none] []) ∧ (¬ (((σ.1 (41 + v2.toNat) v7.toNat) - (σ.1 (41 + v1.toNat) v7.toNat)) * v6) = (((σ.1 (41 + v3.toNat) v7.toNat) - (σ.1 (41 + v1.toNat) v7.toNat)) * v5) → Po (some (Zi 0)) am_SH σ))))) : am_U x m_Ft_isStraight Po σ 49 [some (Zr 35), some (Zi v1), some (Zi v2), some (Zi v3), none, some (Zi v5), some (Zi v6), some (Zi v7), none, none] [] := by
  refine V_iload d_Ft_isStraight_49 rfl ?_
  refine V_aload_n d_Ft_isStraight_51 rfl ?_
  refine U_geti d_Ft_isStraight_52 fl_Ft_105 sh_35 ?_
  obtain ⟨h1, h⟩ := h
  obtain ⟨h2, h⟩ := h
  obtain ⟨ht, hf⟩ := h
  refine V_icmp_ge 121 d_Ft_isStraight_55 h1 h2 (fun h10 => ?_) (fun h10 => ?_)
  · have h := ht h10
    refine V_iconst d_Ft_isStraight_121 ?_
    exact V_zret d_Ft_isStraight_122 rfl rfl (Or.inr rfl) h
  · have h := hf h10
    refine V_aload_n d_Ft_isStraight_58 rfl ?_
    refine U_geta d_Ft_isStraight_59 fl_Ft_26 sh_35 rfl ?_
    refine V_iload_n d_Ft_isStraight_62 rfl ?_
    obtain ⟨h3, h⟩ := h
    refine U_aald d_Ft_isStraight_63 sh_40 (by decide) h3 (shO_40 _ (am_tn h3)) ?_
    refine V_iload d_Ft_isStraight_64 rfl ?_
    obtain ⟨h4, h⟩ := h
    refine U_iald d_Ft_isStraight_66 (shR_40 _ (am_tn h3)) h4 ?_
    refine V_aload_n d_Ft_isStraight_67 rfl ?_
    refine U_geta d_Ft_isStraight_68 fl_Ft_26 sh_35 rfl ?_
    refine V_iload_n d_Ft_isStraight_71 rfl ?_
    obtain ⟨h5, h⟩ := h
    refine U_aald d_Ft_isStraight_72 sh_40 (by decide) h5 (shO_40 _ (am_tn h5)) ?_
    refine V_iload d_Ft_isStraight_73 rfl ?_
    refine U_iald d_Ft_isStraight_75 (shR_40 _ (am_tn h5)) h4 ?_
    refine V_isub d_Ft_isStraight_76 ?_
    refine V_istore d_Ft_isStraight_77 rfl ?_
    refine V_aload_n d_Ft_isStraight_79 rfl ?_
    refine U_geta d_Ft_isStraight_80 fl_Ft_26 sh_35 rfl ?_
    refine V_iload_n d_Ft_isStraight_83 rfl ?_
    obtain ⟨h6, h⟩ := h
    refine U_aald d_Ft_isStraight_84 sh_40 (by decide) h6 (shO_40 _ (am_tn h6)) ?_
    refine V_iload d_Ft_isStraight_85 rfl ?_
    refine U_iald d_Ft_isStraight_87 (shR_40 _ (am_tn h6)) h4 ?_
    refine V_aload_n d_Ft_isStraight_88 rfl ?_
    refine U_geta d_Ft_isStraight_89 fl_Ft_26 sh_35 rfl ?_
    refine V_iload_n d_Ft_isStraight_92 rfl ?_
    refine U_aald d_Ft_isStraight_93 sh_40 (by decide) h5 (shO_40 _ (am_tn h5)) ?_
    refine V_iload d_Ft_isStraight_94 rfl ?_
    refine U_iald d_Ft_isStraight_96 (shR_40 _ (am_tn h5)) h4 ?_
    refine V_isub d_Ft_isStraight_97 ?_
    refine V_istore d_Ft_isStraight_98 rfl ?_
    refine V_iload d_Ft_isStraight_100 rfl ?_
    refine V_iload d_Ft_isStraight_102 rfl ?_
    refine V_imul d_Ft_isStraight_104 ?_
    refine V_iload d_Ft_isStraight_105 rfl ?_
    refine V_iload d_Ft_isStraight_107 rfl ?_
    refine V_imul d_Ft_isStraight_109 ?_
    obtain ⟨h7, h⟩ := h
    obtain ⟨h8, h⟩ := h
    obtain ⟨ht, hf⟩ := h
    refine V_icmp_eq 115 d_Ft_isStraight_110 h7 h8 (fun h9 => ?_) (fun h9 => ?_)
    · have h := ht h9
      refine V_iinc d_Ft_isStraight_115 rfl rfl ?_
      refine V_goto 49 d_Ft_isStraight_118 ?_
      refine V_drop 8 ?_
      refine V_drop 9 ?_
      exact h
    · have h := hf h9
      refine V_iconst d_Ft_isStraight_113 ?_
      exact V_zret d_Ft_isStraight_114 rfl rfl (Or.inl rfl) h
theorem s_Ft_fillLine_0 {x : am_Sc} {Po : Option am_AV → am_Sh → am_St → Prop} {σ : am_St} {v1 v2 v3 : Int}
    (h : am_U x m_Gr_price (fun ro1 so1 σ1 => ∃ z1 : Int, ro1 = some (Zi z1) ∧ so1 = am_SH ∧ am_U x m_Gr_price (fun ro2 so2 σ2 => ∃ z2 : Int, ro2 = some (Zi z2) ∧ so2 = am_SH ∧ am_r (z2 - z1) ∧ ((0 < (z2 - z1) → am_U x m_Ft_fillLine Po σ2 36 [some (Zr 35), some (Zi v1), some (Zi v2), some (Zi v3), some (Zi z1), some (Zi (z2 - z1)), some (Zi (v1 + 1)), none, none, none] []) ∧ (¬ 0 < (z2 - z1) → Po none am_SH σ2))) σ1 0 [some (Zr 1), some (Zi v2), some (Zi v3)] []) σ 0 [some (Zr 1), some (Zi v1), some (Zi v3)] []) : am_U x m_Ft_fillLine Po σ 0 [some (Zr 35), some (Zi v1), some (Zi v2), some (Zi v3), none, none, none, none, none, none] [] := by
  refine V_aload_n d_Ft_fillLine_0 rfl ?_
  refine U_geta d_Ft_fillLine_1 fl_Ft_32 sh_35 rfl ?_
  refine V_iload_n d_Ft_fillLine_4 rfl ?_
  refine V_iload_n d_Ft_fillLine_5 rfl ?_
  refine U_iv2 cv_Ft_fillLine_140 d_Ft_fillLine_6 sh_1 rfl rfl (am_mono h ?_)
  rintro ro1 so1 σ1 ⟨z1, rfl, rfl, h⟩
  refine V_istore d_Ft_fillLine_9 rfl ?_
  refine V_aload_n d_Ft_fillLine_11 rfl ?_
  refine U_geta d_Ft_fillLine_12 fl_Ft_32 sh_35 rfl ?_
  refine V_iload_n d_Ft_fillLine_15 rfl ?_
  refine V_iload_n d_Ft_fillLine_16 rfl ?_
  refine U_iv2 cv_Ft_fillLine_140 d_Ft_fillLine_17 sh_1 rfl rfl (am_mono h ?_)
  rintro ro2 so2 σ2 ⟨z2, rfl, rfl, h⟩
  refine V_iload d_Ft_fillLine_20 rfl ?_
  refine V_isub d_Ft_fillLine_22 ?_
  refine V_istore d_Ft_fillLine_23 rfl ?_
  refine V_iload d_Ft_fillLine_25 rfl ?_
  obtain ⟨h1, h⟩ := h
  obtain ⟨ht, hf⟩ := h
  refine V_if_gt 31 d_Ft_fillLine_27 h1 (fun h2 => ?_) (fun h2 => ?_)
  · have h := ht h2
    refine V_iload_n d_Ft_fillLine_31 rfl ?_
    refine V_iconst d_Ft_fillLine_32 ?_
    refine V_iadd d_Ft_fillLine_33 ?_
    refine V_istore d_Ft_fillLine_34 rfl ?_
    exact h
  · have h := hf h2
    exact V_ret d_Ft_fillLine_30 rfl rfl h
theorem s_Ft_fillLine_36 {x : am_Sc} {Po : Option am_AV → am_Sh → am_St → Prop} {σ : am_St} {v1 v2 v3 v4 v5 v6 : Int}
    (h : am_r v6 ∧ am_r v2 ∧ ((v2 ≤ v6 → Po none am_SH σ) ∧ (¬ v2 ≤ v6 → am_U x m_Gr_price (fun ro3 so3 σ3 => ∃ z3 : Int, ro3 = some (Zi z3) ∧ so3 = am_SH ∧ am_U x m_Ft_fillLine Po σ3 60 [some (Zr 35), some (Zi v1), some (Zi v2), some (Zi v3), some (Zi v4), some (Zi v5), some (Zi v6), some (Zi (z3 - v4)), some (Zi 0), none] []) σ 0 [some (Zr 1), some (Zi v6), some (Zi v3)] []))) : am_U x m_Ft_fillLine Po σ 36 [some (Zr 35), some (Zi v1), some (Zi v2), some (Zi v3), some (Zi v4), some (Zi v5), some (Zi v6), none, none, none] [] := by
  refine V_iload d_Ft_fillLine_36 rfl ?_
  refine V_iload_n d_Ft_fillLine_38 rfl ?_
  obtain ⟨h3, h⟩ := h
  obtain ⟨h4, h⟩ := h
  obtain ⟨ht, hf⟩ := h
  refine V_icmp_ge 130 d_Ft_fillLine_39 h3 h4 (fun h5 => ?_) (fun h5 => ?_)
  · have h := ht h5
    exact V_ret d_Ft_fillLine_130 rfl rfl h
  · have h := hf h5
    refine V_aload_n d_Ft_fillLine_42 rfl ?_
    refine U_geta d_Ft_fillLine_43 fl_Ft_32 sh_35 rfl ?_
    refine V_iload d_Ft_fillLine_46 rfl ?_
    refine V_iload_n d_Ft_fillLine_48 rfl ?_
    refine U_iv2 cv_Ft_fillLine_140 d_Ft_fillLine_49 sh_1 rfl rfl (am_mono h ?_)
    rintro ro3 so3 σ3 ⟨z3, rfl, rfl, h⟩
    refine V_iload d_Ft_fillLine_52 rfl ?_
    refine V_isub d_Ft_fillLine_54 ?_
    refine V_istore d_Ft_fillLine_55 rfl ?_
    refine V_iconst d_Ft_fillLine_57 ?_
    refine V_istore d_Ft_fillLine_58 rfl ?_
    exact h
theorem s_Ft_fillLine_60 {x : am_Sc} {Po : Option am_AV → am_Sh → am_St → Prop} {σ : am_St} {v1 v2 v3 v4 v5 v6 v7 v8 : Int}
    (h : am_r v8 ∧ am_r (σ.1 35 6) ∧ (((σ.1 35 6) ≤ v8 → am_U x m_Ft_fillLine Po σ 36 [some (Zr 35), some (Zi v1), some (Zi v2), some (Zi v3), some (Zi v4), some (Zi v5), some (Zi (v6 + 1)), none, none, none] []) ∧ (¬ (σ.1 35 6) ≤ v8 → (0 ≤ v2 ∧ v2 < 61) ∧ (0 ≤ v8 ∧ v8 < 12) ∧ (0 ≤ v1 ∧ v1 < 61) ∧ am_r v5 ∧ v5 ≠ 0 ∧ (0 ≤ v6 ∧ v6 < 61) ∧ (∀ σ4 : am_St, σ4 = (am_up σ.1 (41 + v6.toNat) v8.toNat ((σ.1 (41 + v1.toNat) v8.toNat) + ((am_div ((σ.1 (41 + v2.toNat) v8.toNat) - (σ.1 (41 + v1.toNat) v8.toNat)) v5) * v7)), σ.2) → am_U x m_Ft_fillLine Po σ4 60 [some (Zr 35), some (Zi v1), some (Zi v2), some (Zi v3), some (Zi v4), some (Zi v5), some (Zi v6), some (Zi v7), some (Zi (v8 + 1)), none] [])))) : am_U x m_Ft_fillLine Po σ 60 [some (Zr 35), some (Zi v1), some (Zi v2), some (Zi v3), some (Zi v4), some (Zi v5), some (Zi v6), some (Zi v7), some (Zi v8), none] [] := by
  refine V_iload d_Ft_fillLine_60 rfl ?_
  refine V_aload_n d_Ft_fillLine_62 rfl ?_
  refine U_geti d_Ft_fillLine_63 fl_Ft_105 sh_35 ?_
  obtain ⟨h6, h⟩ := h
  obtain ⟨h7, h⟩ := h
  obtain ⟨ht, hf⟩ := h
  refine V_icmp_ge 124 d_Ft_fillLine_66 h6 h7 (fun h14 => ?_) (fun h14 => ?_)
  · have h := ht h14
    refine V_iinc d_Ft_fillLine_124 rfl rfl ?_
    refine V_goto 36 d_Ft_fillLine_127 ?_
    refine V_drop 7 ?_
    refine V_drop 8 ?_
    exact h
  · have h := hf h14
    refine V_aload_n d_Ft_fillLine_69 rfl ?_
    refine U_geta d_Ft_fillLine_70 fl_Ft_26 sh_35 rfl ?_
    refine V_iload_n d_Ft_fillLine_73 rfl ?_
    obtain ⟨h8, h⟩ := h
    refine U_aald d_Ft_fillLine_74 sh_40 (by decide) h8 (shO_40 _ (am_tn h8)) ?_
    refine V_iload d_Ft_fillLine_75 rfl ?_
    obtain ⟨h9, h⟩ := h
    refine U_iald d_Ft_fillLine_77 (shR_40 _ (am_tn h8)) h9 ?_
    refine V_aload_n d_Ft_fillLine_78 rfl ?_
    refine U_geta d_Ft_fillLine_79 fl_Ft_26 sh_35 rfl ?_
    refine V_iload_n d_Ft_fillLine_82 rfl ?_
    obtain ⟨h10, h⟩ := h
    refine U_aald d_Ft_fillLine_83 sh_40 (by decide) h10 (shO_40 _ (am_tn h10)) ?_
    refine V_iload d_Ft_fillLine_84 rfl ?_
    refine U_iald d_Ft_fillLine_86 (shR_40 _ (am_tn h10)) h9 ?_
    refine V_isub d_Ft_fillLine_87 ?_
    refine V_iload d_Ft_fillLine_88 rfl ?_
    obtain ⟨h11, h⟩ := h
    obtain ⟨h12, h⟩ := h
    refine V_idiv d_Ft_fillLine_90 h11 h12 ?_
    refine V_istore d_Ft_fillLine_91 rfl ?_
    refine V_aload_n d_Ft_fillLine_93 rfl ?_
    refine U_geta d_Ft_fillLine_94 fl_Ft_26 sh_35 rfl ?_
    refine V_iload d_Ft_fillLine_97 rfl ?_
    obtain ⟨h13, h⟩ := h
    refine U_aald d_Ft_fillLine_99 sh_40 (by decide) h13 (shO_40 _ (am_tn h13)) ?_
    refine V_iload d_Ft_fillLine_100 rfl ?_
    refine V_aload_n d_Ft_fillLine_102 rfl ?_
    refine U_geta d_Ft_fillLine_103 fl_Ft_26 sh_35 rfl ?_
    refine V_iload_n d_Ft_fillLine_106 rfl ?_
    refine U_aald d_Ft_fillLine_107 sh_40 (by decide) h10 (shO_40 _ (am_tn h10)) ?_
    refine V_iload d_Ft_fillLine_108 rfl ?_
    refine U_iald d_Ft_fillLine_110 (shR_40 _ (am_tn h10)) h9 ?_
    refine V_iload d_Ft_fillLine_111 rfl ?_
    refine V_iload d_Ft_fillLine_113 rfl ?_
    refine V_imul d_Ft_fillLine_115 ?_
    refine V_iadd d_Ft_fillLine_116 ?_
    refine U_iast d_Ft_fillLine_117 (shR_40 _ (am_tn h13)) h9 ?_
    have h := h _ rfl
    refine V_iinc d_Ft_fillLine_118 rfl rfl ?_
    refine V_goto 60 d_Ft_fillLine_121 ?_
    refine V_drop 9 ?_
    exact h
theorem s_Ft_addMisfits_0 {x : am_Sc} {Po : Option am_AV → am_Sh → am_St → Prop} {σ : am_St} {v1 : Int}
    (h : (0 ≤ v1 ∧ v1 < 5) ∧ am_U x m_Ft_addMisfits Po σ 12 [some (Zr 35), none, some (Zi (σ.1 12 v1.toNat)), some (Zi 0), none, none, none] []) : am_U x m_Ft_addMisfits Po σ 0 [some (Zr 35), some (Zi v1), none, none, none, none, none] [] := by
  refine V_aload_n d_Ft_addMisfits_0 rfl ?_
  refine U_geta d_Ft_addMisfits_1 fl_Ft_36 sh_35 rfl ?_
  refine U_geta d_Ft_addMisfits_4 fl_Ft_119 sh_8 rfl ?_
  refine V_iload_n d_Ft_addMisfits_7 rfl ?_
  obtain ⟨h1, h⟩ := h
  refine U_iald d_Ft_addMisfits_8 sh_12 h1 ?_
  refine V_istore_n d_Ft_addMisfits_9 rfl ?_
  refine V_iconst d_Ft_addMisfits_10 ?_
  refine V_istore_n d_Ft_addMisfits_11 rfl ?_
  refine V_drop 1 ?_
  exact h
theorem s_Ft_addMisfits_12 {x : am_Sc} {Po : Option am_AV → am_Sh → am_St → Prop} {σ : am_St} {v2 v3 : Int}
    (h : am_r v3 ∧ am_r (σ.1 35 6) ∧ (((σ.1 35 6) ≤ v3 → Po none am_SH σ) ∧ (¬ (σ.1 35 6) ≤ v3 → (0 ≤ v3 ∧ v3 < 12) ∧ am_U x m_Bo_clockOf (fun ro1 so1 σ1 => ∃ z1 : Int, ro1 = some (Zi z1) ∧ so1 = am_SH ∧ am_U x m_Ft_addMisfits Po σ1 44 [some (Zr 35), none, some (Zi v2), some (Zi v3), some (Zi (σ.1 39 v3.toNat)), some (Zi (v2 + z1)), some (Zi 1)] []) σ 0 [some (Zr 8), some (Zi (σ.1 39 v3.toNat))] []))) : am_U x m_Ft_addMisfits Po σ 12 [some (Zr 35), none, some (Zi v2), some (Zi v3), none, none, none] [] := by
  refine V_iload_n d_Ft_addMisfits_12 rfl ?_
  refine V_aload_n d_Ft_addMisfits_13 rfl ?_
  refine U_geti d_Ft_addMisfits_14 fl_Ft_105 sh_35 ?_
  obtain ⟨h2, h⟩ := h
  obtain ⟨h3, h⟩ := h
  obtain ⟨ht, hf⟩ := h
  refine V_icmp_ge 102 d_Ft_addMisfits_17 h2 h3 (fun h5 => ?_) (fun h5 => ?_)
  · have h := ht h5
    exact V_ret d_Ft_addMisfits_102 rfl rfl h
  · have h := hf h5
    refine V_aload_n d_Ft_addMisfits_20 rfl ?_
    refine U_geta d_Ft_addMisfits_21 fl_Ft_21 sh_35 rfl ?_
    refine V_iload_n d_Ft_addMisfits_24 rfl ?_
    obtain ⟨h4, h⟩ := h
    refine U_iald d_Ft_addMisfits_25 sh_39 h4 ?_
    refine V_istore d_Ft_addMisfits_26 rfl ?_
    refine V_iload_n d_Ft_addMisfits_28 rfl ?_
    refine V_aload_n d_Ft_addMisfits_29 rfl ?_
    refine U_geta d_Ft_addMisfits_30 fl_Ft_36 sh_35 rfl ?_
    refine V_iload d_Ft_addMisfits_33 rfl ?_
    refine U_iv1 cv_Ft_addMisfits_64 d_Ft_addMisfits_35 sh_8 rfl rfl (am_mono h ?_)
    rintro ro1 so1 σ1 ⟨z1, rfl, rfl, h⟩
    refine V_iadd d_Ft_addMisfits_38 ?_
    refine V_istore d_Ft_addMisfits_39 rfl ?_
    refine V_iconst d_Ft_addMisfits_41 ?_
    refine V_istore d_Ft_addMisfits_42 rfl ?_
    exact h
theorem s_Ft_addMisfits_44 {x : am_Sc} {Po : Option am_AV → am_Sh → am_St → Prop} {σ : am_St} {v2 v3 v4 v5 v6 : Int}
    (h : am_r v6 ∧ ((60 < v6 → am_U x m_Ft_addMisfits Po σ 12 [some (Zr 35), none, some (Zi v2), some (Zi (v3 + 1)), none, none, none] []) ∧ (¬ 60 < v6 → (0 ≤ v6 ∧ v6 < 61) ∧ (0 ≤ v3 ∧ v3 < 12) ∧ (0 ≤ v4 ∧ v4 < 12) ∧ am_U x m_Sp_missedBy (fun ro2 so2 σ2 => ∃ z2 : Int, ro2 = some (Zi z2) ∧ so2 = am_SH ∧ (∀ σ3 : am_St, σ3 = (am_up σ2.1 38 v6.toNat ((σ.1 38 v6.toNat) + z2), σ2.2) → am_U x m_Ft_addMisfits Po σ3 44 [some (Zr 35), none, some (Zi v2), some (Zi v3), some (Zi v4), some (Zi v5), some (Zi (v6 + 1))] [])) σ 0 [some (Zi (v5 + (σ.1 (41 + v6.toNat) v3.toNat))), some (Zi (σ.1 36 v4.toNat)), some (Zi (σ.1 37 v4.toNat))] []))) : am_U x m_Ft_addMisfits Po σ 44 [some (Zr 35), none, some (Zi v2), some (Zi v3), some (Zi v4), some (Zi v5), some (Zi v6)] [] := by
  refine V_iload d_Ft_addMisfits_44 rfl ?_
  refine V_bipush d_Ft_addMisfits_46 ?_
  obtain ⟨h6, h⟩ := h
  obtain ⟨ht, hf⟩ := h
  refine V_icmp_gt 96 d_Ft_addMisfits_48 h6 (by decide) (fun h10 => ?_) (fun h10 => ?_)
  · have h := ht h10
    refine V_iinc d_Ft_addMisfits_96 rfl rfl ?_
    refine V_goto 12 d_Ft_addMisfits_99 ?_
    refine V_drop 4 ?_
    refine V_drop 5 ?_
    refine V_drop 6 ?_
    exact h
  · have h := hf h10
    refine V_aload_n d_Ft_addMisfits_51 rfl ?_
    refine U_geta d_Ft_addMisfits_52 fl_Ft_18 sh_35 rfl ?_
    refine V_iload d_Ft_addMisfits_55 rfl ?_
    refine V_dup2 d_Ft_addMisfits_57 ?_
    obtain ⟨h7, h⟩ := h
    refine U_iald d_Ft_addMisfits_58 sh_38 h7 ?_
    refine V_iload d_Ft_addMisfits_59 rfl ?_
    refine V_aload_n d_Ft_addMisfits_61 rfl ?_
    refine U_geta d_Ft_addMisfits_62 fl_Ft_26 sh_35 rfl ?_
    refine V_iload d_Ft_addMisfits_65 rfl ?_
    refine U_aald d_Ft_addMisfits_67 sh_40 (by decide) h7 (shO_40 _ (am_tn h7)) ?_
    refine V_iload_n d_Ft_addMisfits_68 rfl ?_
    obtain ⟨h8, h⟩ := h
    refine U_iald d_Ft_addMisfits_69 (shR_40 _ (am_tn h7)) h8 ?_
    refine V_iadd d_Ft_addMisfits_70 ?_
    refine V_aload_n d_Ft_addMisfits_71 rfl ?_
    refine U_geta d_Ft_addMisfits_72 fl_Ft_9 sh_35 rfl ?_
    refine V_iload d_Ft_addMisfits_75 rfl ?_
    obtain ⟨h9, h⟩ := h
    refine U_iald d_Ft_addMisfits_77 sh_36 h9 ?_
    refine V_aload_n d_Ft_addMisfits_78 rfl ?_
    refine U_geta d_Ft_addMisfits_79 fl_Ft_15 sh_35 rfl ?_
    refine V_iload d_Ft_addMisfits_82 rfl ?_
    refine U_iald d_Ft_addMisfits_84 sh_37 h9 ?_
    refine U_isN3 cv_Ft_addMisfits_122 d_Ft_addMisfits_85  rfl (am_mono h ?_)
    rintro ro2 so2 σ2 ⟨z2, rfl, rfl, h⟩
    refine V_iadd d_Ft_addMisfits_88 ?_
    refine U_iast d_Ft_addMisfits_89 sh_38 h7 ?_
    have h := h _ rfl
    refine V_iinc d_Ft_addMisfits_90 rfl rfl ?_
    refine V_goto 44 d_Ft_addMisfits_93 ?_
    exact h
theorem s_Ra_gather_0 {x : am_Sc} {Po : Option am_AV → am_Sh → am_St → Prop} {σ : am_St}
    (h : (∀ σ1 : am_St, σ1 = (am_up σ.1 20 2 0, σ.2) → am_U x m_Ra_gather Po σ1 7 [some (Zr 20), some (Zi 0)] [])) : am_U x m_Ra_gather Po σ 0 [some (Zr 20), none] [] := by
  refine V_aload_n d_Ra_gather_0 rfl ?_
  refine V_iconst d_Ra_gather_1 ?_
  refine U_puti d_Ra_gather_2 fw_Ra_28 sh_20 ?_
  have h := h _ rfl
  refine V_iconst d_Ra_gather_5 ?_
  refine V_istore_n d_Ra_gather_6 rfl ?_
  exact h
theorem s_Ra_gather_7 {x : am_Sc} {Po : Option am_AV → am_Sh → am_St → Prop} {σ : am_St} {v1 : Int}
    (h : am_r v1 ∧ am_r (σ.1 8 6) ∧ (((σ.1 8 6) ≤ v1 → Po none am_SH σ) ∧ (¬ (σ.1 8 6) ≤ v1 → (0 ≤ v1 ∧ v1 < 12) ∧ am_r (σ.1 15 v1.toNat) ∧ ((¬ (σ.1 15 v1.toNat) = 0 → am_U x m_Ra_gather Po σ 97 [some (Zr 20), some (Zi v1)] []) ∧ ((σ.1 15 v1.toNat) = 0 → am_U x m_Bo_cellOfEar (fun ro2 so2 σ2 => ∃ z2 : Int, ro2 = some (Zi z2) ∧ so2 = am_SH ∧ am_U x m_Gr_spread (fun ro3 so3 σ3 => ro3 = none ∧ so3 = am_SH ∧ am_U x m_Bo_cellOfShake (fun ro4 so4 σ4 => ∃ z4 : Int, ro4 = some (Zi z4) ∧ so4 = am_SH ∧ am_U x m_Gr_trace (fun ro5 so5 σ5 => ro5 = none ∧ so5 = am_SH ∧ (0 ≤ σ5.1 20 2 ∧ σ5.1 20 2 < 12) ∧ am_U x m_Gr_countRays (fun ro6 so6 σ6 => ro6 = none ∧ so6 = am_SH ∧ (0 ≤ σ6.1 20 2 ∧ σ6.1 20 2 < 12) ∧ (∀ σ7 : am_St, σ7 = (am_up σ6.1 21 (σ6.1 20 2).toNat v1, σ6.2) → (∀ σ8 : am_St, σ8 = (am_up σ7.1 20 2 ((σ7.1 20 2) + 1), σ7.2) → am_U x m_Ra_gather Po σ8 97 [some (Zr 20), some (Zi v1)] []))) σ5 0 [some (Zr 1), some (Zr (23 + (σ5.1 20 2).toNat)), none] []) σ4 0 [some (Zr 1), some (Zi z4), none] []) σ3 0 [some (Zr 8), some (Zi v1)] []) σ2 0 [some (Zr 1), some (Zi z2), some (Zi 0), none, none, none, none] []) σ 0 [some (Zr 8), some (Zi v1)] []))))) : am_U x m_Ra_gather Po σ 7 [some (Zr 20), some (Zi v1)] [] := by
  refine V_iload_n d_Ra_gather_7 rfl ?_
  refine V_aload_n d_Ra_gather_8 rfl ?_
  refine U_geta d_Ra_gather_9 fl_Ra_24 sh_20 rfl ?_
  refine U_geti d_Ra_gather_12 fl_Ra_32 sh_8 ?_
  obtain ⟨h1, h⟩ := h
  obtain ⟨h2, h⟩ := h
  obtain ⟨ht, hf⟩ := h
  refine V_icmp_ge 103 d_Ra_gather_15 h1 h2 (fun h8 => ?_) (fun h8 => ?_)
  · have h := ht h8
    exact V_ret d_Ra_gather_103 rfl rfl h
  · have h := hf h8
    refine V_aload_n d_Ra_gather_18 rfl ?_
    refine U_geta d_Ra_gather_19 fl_Ra_24 sh_20 rfl ?_
    refine U_geta d_Ra_gather_22 fl_Ra_37 sh_8 rfl ?_
    refine V_iload_n d_Ra_gather_25 rfl ?_
    obtain ⟨h3, h⟩ := h
    refine U_iald d_Ra_gather_26 sh_15 h3 ?_
    obtain ⟨h4, h⟩ := h
    obtain ⟨ht, hf⟩ := h
    refine V_if_ne 97 d_Ra_gather_27 h4 (fun h7 => ?_) (fun h7 => ?_)
    · have h := ht h7
      exact h
    · have h := hf h7
      refine V_aload_n d_Ra_gather_30 rfl ?_
      refine U_geta d_Ra_gather_31 fl_Ra_20 sh_20 rfl ?_
      refine V_aload_n d_Ra_gather_34 rfl ?_
      refine U_geta d_Ra_gather_35 fl_Ra_24 sh_20 rfl ?_
      refine V_iload_n d_Ra_gather_38 rfl ?_
      refine U_iv1 cv_Ra_gather_40 d_Ra_gather_39 sh_8 rfl rfl (am_mono h ?_)
      rintro ro2 so2 σ2 ⟨z2, rfl, rfl, h⟩
      refine V_iconst d_Ra_gather_42 ?_
      refine U_iv2 cv_Ra_gather_44 d_Ra_gather_43 sh_1 rfl rfl (am_mono h ?_)
      rintro ro3 so3 σ3 ⟨rfl, rfl, h⟩
      refine V_aload_n d_Ra_gather_46 rfl ?_
      refine U_geta d_Ra_gather_47 fl_Ra_20 sh_20 rfl ?_
      refine V_aload_n d_Ra_gather_50 rfl ?_
      refine U_geta d_Ra_gather_51 fl_Ra_24 sh_20 rfl ?_
      refine V_iload_n d_Ra_gather_54 rfl ?_
      refine U_iv1 cv_Ra_gather_50 d_Ra_gather_55 sh_8 rfl rfl (am_mono h ?_)
      rintro ro4 so4 σ4 ⟨z4, rfl, rfl, h⟩
      refine U_iv1 cv_Ra_gather_53 d_Ra_gather_58 sh_1 rfl rfl (am_mono h ?_)
      rintro ro5 so5 σ5 ⟨rfl, rfl, h⟩
      refine V_aload_n d_Ra_gather_61 rfl ?_
      refine U_geta d_Ra_gather_62 fl_Ra_20 sh_20 rfl ?_
      refine V_aload_n d_Ra_gather_65 rfl ?_
      refine U_geta d_Ra_gather_66 fl_Ra_17 sh_20 rfl ?_
      refine V_aload_n d_Ra_gather_69 rfl ?_
      refine U_geti d_Ra_gather_70 fl_Ra_28 sh_20 ?_
      obtain ⟨h5, h⟩ := h
      refine U_aald d_Ra_gather_73 sh_22 (by decide) h5 (shO_22 _ (am_tn h5)) ?_
      refine U_iv1 cv_Ra_gather_57 d_Ra_gather_74 sh_1 rfl rfl (am_mono h ?_)
      rintro ro6 so6 σ6 ⟨rfl, rfl, h⟩
      refine V_aload_n d_Ra_gather_77 rfl ?_
      refine U_geta d_Ra_gather_78 fl_Ra_9 sh_20 rfl ?_
      refine V_aload_n d_Ra_gather_81 rfl ?_
      refine U_geti d_Ra_gather_82 fl_Ra_28 sh_20 ?_
      refine V_iload_n d_Ra_gather_85 rfl ?_
      obtain ⟨h6, h⟩ := h
      refine U_iast d_Ra_gather_86 sh_21 h6 ?_
      have h := h _ rfl
      refine V_aload_n d_Ra_gather_87 rfl ?_
      refine V_dup d_Ra_gather_88 ?_
      refine U_geti d_Ra_gather_89 fl_Ra_28 sh_20 ?_
      refine V_iconst d_Ra_gather_92 ?_
      refine V_iadd d_Ra_gather_93 ?_
      refine U_puti d_Ra_gather_94 fw_Ra_28 sh_20 ?_
      have h := h _ rfl
      exact h
theorem s_Ra_gather_97 {x : am_Sc} {Po : Option am_AV → am_Sh → am_St → Prop} {σ : am_St} {v1 : Int}
    (h : am_U x m_Ra_gather Po σ 7 [some (Zr 20), some (Zi (v1 + 1))] []) : am_U x m_Ra_gather Po σ 97 [some (Zr 20), some (Zi v1)] [] := by
  refine V_iinc d_Ra_gather_97 rfl rfl ?_
  refine V_goto 7 d_Ra_gather_100 ?_
  exact h
theorem s_Pr_setBounds_0 {x : am_Sc} {Po : Option am_AV → am_Sh → am_St → Prop} {σ : am_St}
    (h : am_U x m_Pr_setBounds Po σ 2 [some (Zr 103), some (Zi 0), none, none] []) : am_U x m_Pr_setBounds Po σ 0 [some (Zr 103), none, none, none] [] := by
  refine V_iconst d_Pr_setBounds_0 ?_
  refine V_istore_n d_Pr_setBounds_1 rfl ?_
  exact h
theorem s_Pr_setBounds_2 {x : am_Sc} {Po : Option am_AV → am_Sh → am_St → Prop} {σ : am_St} {v1 : Int}
    (h : am_r v1 ∧ am_r (σ.1 20 2) ∧ (((σ.1 20 2) ≤ v1 → Po none am_SH σ) ∧ (¬ (σ.1 20 2) ≤ v1 → (0 ≤ v1 ∧ v1 < 12) ∧ am_U x m_Bo_begunOf (fun ro1 so1 σ1 => ∃ z1 : Int, ro1 = some (Zi z1) ∧ so1 = am_SH ∧ am_U x m_Bo_clockOf (fun ro2 so2 σ2 => ∃ z2 : Int, ro2 = some (Zi z2) ∧ so2 = am_SH ∧ am_U x m_Bo_lowNow (fun ro3 so3 σ3 => ∃ z3 : Int, ro3 = some (Zi z3) ∧ so3 = am_SH ∧ (∀ σ4 : am_St, σ4 = (am_up σ3.1 104 v1.toNat (z3 - (z1 + z2)), σ3.2) → am_U x m_Bo_highNow (fun ro5 so5 σ5 => ∃ z5 : Int, ro5 = some (Zi z5) ∧ so5 = am_SH ∧ (∀ σ6 : am_St, σ6 = (am_up σ5.1 105 v1.toNat (z5 - (z1 + z2)), σ5.2) → am_U x m_Pr_setBounds Po σ6 2 [some (Zr 103), some (Zi (v1 + 1)), none, none] [])) σ4 0 [some (Zr 8), some (Zi (σ.1 21 v1.toNat)), none] [])) σ2 0 [some (Zr 8), some (Zi (σ.1 21 v1.toNat)), none] []) σ1 0 [some (Zr 8), some (Zi (σ.1 21 v1.toNat))] []) σ 0 [some (Zr 8), some (Zi (σ.1 21 v1.toNat))] []))) : am_U x m_Pr_setBounds Po σ 2 [some (Zr 103), some (Zi v1), none, none] [] := by
  refine V_iload_n d_Pr_setBounds_2 rfl ?_
  refine V_aload_n d_Pr_setBounds_3 rfl ?_
  refine U_geta d_Pr_setBounds_4 fl_Pr_24 sh_103 rfl ?_
  refine U_geti d_Pr_setBounds_7 fl_Pr_32 sh_20 ?_
  obtain ⟨h1, h⟩ := h
  obtain ⟨h2, h⟩ := h
  obtain ⟨ht, hf⟩ := h
  refine V_icmp_ge 79 d_Pr_setBounds_10 h1 h2 (fun h4 => ?_) (fun h4 => ?_)
  · have h := ht h4
    exact V_ret d_Pr_setBounds_79 rfl rfl h
  · have h := hf h4
    refine V_aload_n d_Pr_setBounds_13 rfl ?_
    refine U_geta d_Pr_setBounds_14 fl_Pr_24 sh_103 rfl ?_
    refine U_geta d_Pr_setBounds_17 fl_Pr_38 sh_20 rfl ?_
    refine V_iload_n d_Pr_setBounds_20 rfl ?_
    obtain ⟨h3, h⟩ := h
    refine U_iald d_Pr_setBounds_21 sh_21 h3 ?_
    refine V_istore_n d_Pr_setBounds_22 rfl ?_
    refine V_aload_n d_Pr_setBounds_23 rfl ?_
    refine U_geta d_Pr_setBounds_24 fl_Pr_28 sh_103 rfl ?_
    refine V_iload_n d_Pr_setBounds_27 rfl ?_
    refine U_iv1 cv_Pr_setBounds_41 d_Pr_setBounds_28 sh_8 rfl rfl (am_mono h ?_)
    rintro ro1 so1 σ1 ⟨z1, rfl, rfl, h⟩
    refine V_aload_n d_Pr_setBounds_31 rfl ?_
    refine U_geta d_Pr_setBounds_32 fl_Pr_28 sh_103 rfl ?_
    refine V_iload_n d_Pr_setBounds_35 rfl ?_
    refine U_iv1 cv_Pr_setBounds_47 d_Pr_setBounds_36 sh_8 rfl rfl (am_mono h ?_)
    rintro ro2 so2 σ2 ⟨z2, rfl, rfl, h⟩
    refine V_iadd d_Pr_setBounds_39 ?_
    refine V_istore_n d_Pr_setBounds_40 rfl ?_
    refine V_aload_n d_Pr_setBounds_41 rfl ?_
    refine U_geta d_Pr_setBounds_42 fl_Pr_9 sh_103 rfl ?_
    refine V_iload_n d_Pr_setBounds_45 rfl ?_
    refine V_aload_n d_Pr_setBounds_46 rfl ?_
    refine U_geta d_Pr_setBounds_47 fl_Pr_28 sh_103 rfl ?_
    refine V_iload_n d_Pr_setBounds_50 rfl ?_
    refine U_iv1 cv_Pr_setBounds_50 d_Pr_setBounds_51 sh_8 rfl rfl (am_mono h ?_)
    rintro ro3 so3 σ3 ⟨z3, rfl, rfl, h⟩
    refine V_iload_n d_Pr_setBounds_54 rfl ?_
    refine V_isub d_Pr_setBounds_55 ?_
    refine U_iast d_Pr_setBounds_56 sh_104 h3 ?_
    have h := h _ rfl
    refine V_aload_n d_Pr_setBounds_57 rfl ?_
    refine U_geta d_Pr_setBounds_58 fl_Pr_15 sh_103 rfl ?_
    refine V_iload_n d_Pr_setBounds_61 rfl ?_
    refine V_aload_n d_Pr_setBounds_62 rfl ?_
    refine U_geta d_Pr_setBounds_63 fl_Pr_28 sh_103 rfl ?_
    refine V_iload_n d_Pr_setBounds_66 rfl ?_
    refine U_iv1 cv_Pr_setBounds_53 d_Pr_setBounds_67 sh_8 rfl rfl (am_mono h ?_)
    rintro ro5 so5 σ5 ⟨z5, rfl, rfl, h⟩
    refine V_iload_n d_Pr_setBounds_70 rfl ?_
    refine V_isub d_Pr_setBounds_71 ?_
    refine U_iast d_Pr_setBounds_72 sh_105 h3 ?_
    have h := h _ rfl
    refine V_iinc d_Pr_setBounds_73 rfl rfl ?_
    refine V_goto 2 d_Pr_setBounds_76 ?_
    refine V_drop 2 ?_
    refine V_drop 3 ?_
    exact h
theorem s_Ra_allRows_0 {x : am_Sc} {Po : Option am_AV → am_Sh → am_St → Prop} {σ : am_St}
    (h : Po (some (Zi ((am_shl 1 (σ.1 20 2)) - 1))) am_SH σ) : am_U x m_Ra_allRows Po σ 0 [some (Zr 20)] [] := by
  refine V_iconst d_Ra_allRows_0 ?_
  refine V_aload_n d_Ra_allRows_1 rfl ?_
  refine U_geti d_Ra_allRows_2 fl_Ra_28 sh_20 ?_
  refine V_ishl d_Ra_allRows_5 ?_
  refine V_iconst d_Ra_allRows_6 ?_
  refine V_isub d_Ra_allRows_7 ?_
  exact V_iret d_Ra_allRows_8 rfl rfl h
theorem s_Pr_quarrels_0 {x : am_Sc} {Po : Option am_AV → am_Sh → am_St → Prop} {σ : am_St} {v1 : Int}
    (h : am_U x m_Ar_fill (fun ro1 so1 σ1 => ro1 = none ∧ so1 = am_SH ∧ am_U x m_Ar_fill (fun ro2 so2 σ2 => ro2 = none ∧ so2 = am_SH ∧ (∀ σ3 : am_St, σ3 = (am_up σ2.1 103 6 0, σ2.2) → am_U x m_Pr_quarrels Po σ3 26 [some (Zr 103), some (Zi v1), some (Zi 1), some (Zi 0), none] [])) σ1 0 [some (Zr 107), some (Zi 60), none, none] []) σ 0 [some (Zr 106), some (Zi 1), none, none] []) : am_U x m_Pr_quarrels Po σ 0 [some (Zr 103), some (Zi v1), none, none, none] [] := by
  refine V_aload_n d_Pr_quarrels_0 rfl ?_
  refine U_geta d_Pr_quarrels_1 fl_Pr_18 sh_103 rfl ?_
  refine V_iconst d_Pr_quarrels_4 ?_
  refine U_is2 cv_Pr_quarrels_69 d_Pr_quarrels_5  rfl (am_mono h ?_)
  rintro ro1 so1 σ1 ⟨rfl, rfl, h⟩
  refine V_aload_n d_Pr_quarrels_8 rfl ?_
  refine U_geta d_Pr_quarrels_9 fl_Pr_21 sh_103 rfl ?_
  refine V_bipush d_Pr_quarrels_12 ?_
  refine U_is2 cv_Pr_quarrels_69 d_Pr_quarrels_14  rfl (am_mono h ?_)
  rintro ro2 so2 σ2 ⟨rfl, rfl, h⟩
  refine V_aload_n d_Pr_quarrels_17 rfl ?_
  refine V_iconst d_Pr_quarrels_18 ?_
  refine U_putz d_Pr_quarrels_19 fw_Pr_75 sh_103 (Or.inl rfl) ?_
  have h := h _ rfl
  refine V_iconst d_Pr_quarrels_22 ?_
  refine V_istore_n d_Pr_quarrels_23 rfl ?_
  refine V_iconst d_Pr_quarrels_24 ?_
  refine V_istore_n d_Pr_quarrels_25 rfl ?_
  exact h
theorem s_Pr_quarrels_26 {x : am_Sc} {Po : Option am_AV → am_Sh → am_St → Prop} {σ : am_St} {v1 v2 v3 : Int}
    (h : am_r v3 ∧ ((480 < v3 → am_U x m_Pr_quarrels Po σ 101 [some (Zr 103), none, none, none, none] []) ∧ (¬ 480 < v3 → am_r v2 ∧ ((v2 = 0 → am_U x m_Pr_quarrels Po σ 101 [some (Zr 103), none, none, none, none] []) ∧ (¬ v2 = 0 → am_r (σ.1 103 6) ∧ ((¬ (σ.1 103 6) = 0 → am_U x m_Pr_quarrels Po σ 101 [some (Zr 103), none, none, none, none] []) ∧ ((σ.1 103 6) = 0 → am_U x m_Pr_quarrels Po σ 49 [some (Zr 103), some (Zi v1), some (Zi 0), some (Zi v3), some (Zi 0)] []))))))) : am_U x m_Pr_quarrels Po σ 26 [some (Zr 103), some (Zi v1), some (Zi v2), some (Zi v3), none] [] := by
  refine V_iload_n d_Pr_quarrels_26 rfl ?_
  refine V_sipush d_Pr_quarrels_27 ?_
  obtain ⟨h1, h⟩ := h
  obtain ⟨ht, hf⟩ := h
  refine V_icmp_gt 101 d_Pr_quarrels_30 h1 (by decide) (fun h6 => ?_) (fun h6 => ?_)
  · have h := ht h6
    refine V_drop 1 ?_
    refine V_drop 2 ?_
    refine V_drop 3 ?_
    exact h
  · have h := hf h6
    refine V_iload_n d_Pr_quarrels_33 rfl ?_
    obtain ⟨h2, h⟩ := h
    obtain ⟨ht, hf⟩ := h
    refine V_if_eq 101 d_Pr_quarrels_34 h2 (fun h5 => ?_) (fun h5 => ?_)
    · have h := ht h5
      refine V_drop 1 ?_
      refine V_drop 2 ?_
      refine V_drop 3 ?_
      exact h
    · have h := hf h5
      refine V_aload_n d_Pr_quarrels_37 rfl ?_
      refine U_geti d_Pr_quarrels_38 fl_Pr_75 sh_103 ?_
      obtain ⟨h3, h⟩ := h
      obtain ⟨ht, hf⟩ := h
      refine V_if_ne 101 d_Pr_quarrels_41 h3 (fun h4 => ?_) (fun h4 => ?_)
      · have h := ht h4
        refine V_drop 1 ?_
        refine V_drop 2 ?_
        refine V_drop 3 ?_
        exact h
      · have h := hf h4
        refine V_iconst d_Pr_quarrels_44 ?_
        refine V_istore_n d_Pr_quarrels_45 rfl ?_
        refine V_iconst d_Pr_quarrels_46 ?_
        refine V_istore d_Pr_quarrels_47 rfl ?_
        exact h
theorem s_Pr_quarrels_101 {x : am_Sc} {Po : Option am_AV → am_Sh → am_St → Prop} {σ : am_St}
    (h : (σ.1 103 6 = 0 ∨ σ.1 103 6 = 1) ∧ Po (some (Zi (σ.1 103 6))) am_SH σ) : am_U x m_Pr_quarrels Po σ 101 [some (Zr 103), none, none, none, none] [] := by
  refine V_aload_n d_Pr_quarrels_101 rfl ?_
  refine U_geti d_Pr_quarrels_102 fl_Pr_75 sh_103 ?_
  obtain ⟨h7, h⟩ := h
  exact V_zret d_Pr_quarrels_105 rfl rfl h7 h
theorem s_Pr_quarrels_49 {x : am_Sc} {Po : Option am_AV → am_Sh → am_St → Prop} {σ : am_St} {v1 v2 v3 v4 : Int}
    (h : am_r v4 ∧ am_r (σ.1 20 2) ∧ (((σ.1 20 2) ≤ v4 → am_U x m_Pr_quarrels Po σ 95 [some (Zr 103), some (Zi v1), some (Zi v2), some (Zi v3), none] []) ∧ (¬ (σ.1 20 2) ≤ v4 → am_r (σ.1 103 6) ∧ ((¬ (σ.1 103 6) = 0 → am_U x m_Pr_quarrels Po σ 95 [some (Zr 103), some (Zi v1), some (Zi v2), some (Zi v3), none] []) ∧ ((σ.1 103 6) = 0 → am_r (am_and (am_shr v1 v4) 1) ∧ ((¬ (am_and (am_shr v1 v4) 1) = 1 → am_U x m_Pr_quarrels Po σ 89 [some (Zr 103), some (Zi v1), some (Zi v2), some (Zi v3), some (Zi v4)] []) ∧ ((am_and (am_shr v1 v4) 1) = 1 → am_U x m_Pr_narrow (fun ro4 so4 σ4 => ∃ z4 : Int, ro4 = some (Zi z4) ∧ so4 = am_SH ∧ am_r z4 ∧ ((z4 = 0 → am_U x m_Pr_quarrels Po σ4 89 [some (Zr 103), some (Zi v1), some (Zi v2), some (Zi v3), some (Zi v4)] []) ∧ (¬ z4 = 0 → am_U x m_Pr_quarrels Po σ4 89 [some (Zr 103), some (Zi v1), some (Zi 1), some (Zi v3), some (Zi v4)] []))) σ 0 [some (Zr 103), some (Zi v4), none, none, none, none, none, none, none, none] []))))))) : am_U x m_Pr_quarrels Po σ 49 [some (Zr 103), some (Zi v1), some (Zi v2), some (Zi v3), some (Zi v4)] [] := by
  refine V_iload d_Pr_quarrels_49 rfl ?_
  refine V_aload_n d_Pr_quarrels_51 rfl ?_
  refine U_geta d_Pr_quarrels_52 fl_Pr_24 sh_103 rfl ?_
  refine U_geti d_Pr_quarrels_55 fl_Pr_32 sh_20 ?_
  obtain ⟨h8, h⟩ := h
  obtain ⟨h9, h⟩ := h
  obtain ⟨ht, hf⟩ := h
  refine V_icmp_ge 95 d_Pr_quarrels_58 h8 h9 (fun h16 => ?_) (fun h16 => ?_)
  · have h := ht h16
    refine V_drop 4 ?_
    exact h
  · have h := hf h16
    refine V_aload_n d_Pr_quarrels_61 rfl ?_
    refine U_geti d_Pr_quarrels_62 fl_Pr_75 sh_103 ?_
    obtain ⟨h10, h⟩ := h
    obtain ⟨ht, hf⟩ := h
    refine V_if_ne 95 d_Pr_quarrels_65 h10 (fun h15 => ?_) (fun h15 => ?_)
    · have h := ht h15
      refine V_drop 4 ?_
      exact h
    · have h := hf h15
      refine V_iload_n d_Pr_quarrels_68 rfl ?_
      refine V_iload d_Pr_quarrels_69 rfl ?_
      refine V_ishr d_Pr_quarrels_71 ?_
      refine V_iconst d_Pr_quarrels_72 ?_
      refine V_iand d_Pr_quarrels_73 ?_
      refine V_iconst d_Pr_quarrels_74 ?_
      obtain ⟨h11, h⟩ := h
      obtain ⟨ht, hf⟩ := h
      refine V_icmp_ne 89 d_Pr_quarrels_75 h11 (by decide) (fun h14 => ?_) (fun h14 => ?_)
      · have h := ht h14
        exact h
      · have h := hf h14
        refine V_aload_n d_Pr_quarrels_78 rfl ?_
        refine V_iload d_Pr_quarrels_79 rfl ?_
        refine U_iv1 cv_Pr_quarrels_79 d_Pr_quarrels_81 sh_103 rfl rfl (am_mono h ?_)
        rintro ro4 so4 σ4 ⟨z4, rfl, rfl, h⟩
        obtain ⟨h12, h⟩ := h
        obtain ⟨ht, hf⟩ := h
        refine V_if_eq 89 d_Pr_quarrels_84 h12 (fun h13 => ?_) (fun h13 => ?_)
        · have h := ht h13
          exact h
        · have h := hf h13
          refine V_iconst d_Pr_quarrels_87 ?_
          refine V_istore_n d_Pr_quarrels_88 rfl ?_
          exact h
theorem s_Pr_quarrels_95 {x : am_Sc} {Po : Option am_AV → am_Sh → am_St → Prop} {σ : am_St} {v1 v2 v3 : Int}
    (h : am_U x m_Pr_quarrels Po σ 26 [some (Zr 103), some (Zi v1), some (Zi v2), some (Zi (v3 + 1)), none] []) : am_U x m_Pr_quarrels Po σ 95 [some (Zr 103), some (Zi v1), some (Zi v2), some (Zi v3), none] [] := by
  refine V_iinc d_Pr_quarrels_95 rfl rfl ?_
  refine V_goto 26 d_Pr_quarrels_98 ?_
  exact h
theorem s_Pr_quarrels_89 {x : am_Sc} {Po : Option am_AV → am_Sh → am_St → Prop} {σ : am_St} {v1 v2 v3 v4 : Int}
    (h : am_U x m_Pr_quarrels Po σ 49 [some (Zr 103), some (Zi v1), some (Zi v2), some (Zi v3), some (Zi (v4 + 1))] []) : am_U x m_Pr_quarrels Po σ 89 [some (Zr 103), some (Zi v1), some (Zi v2), some (Zi v3), some (Zi v4)] [] := by
  refine V_iinc d_Pr_quarrels_89 rfl rfl ?_
  refine V_goto 49 d_Pr_quarrels_92 ?_
  exact h
theorem s_Pr_narrow_0 {x : am_Sc} {Po : Option am_AV → am_Sh → am_St → Prop} {σ : am_St} {v1 : Int}
    (h : (0 ≤ v1 ∧ v1 < 12) ∧ am_U x m_Pr_weigh (fun ro1 so1 σ1 => ∃ z1 : Int, ro1 = some (Zi z1) ∧ so1 = am_SH ∧ am_U x m_Pr_weigh (fun ro2 so2 σ2 => ∃ z2 : Int, ro2 = some (Zi z2) ∧ so2 = am_SH ∧ am_U x m_Pr_narrow Po σ2 35 [some (Zr 103), some (Zi v1), some (Zr (23 + v1.toNat)), some (Zi z1), some (Zi z2), some (Zi 0), some (Zi 0), none, none, none] []) σ1 0 [some (Zr (23 + v1.toNat)), some (Zr 107), none, none] []) σ 0 [some (Zr (23 + v1.toNat)), some (Zr 106), none, none] []) : am_U x m_Pr_narrow Po σ 0 [some (Zr 103), some (Zi v1), none, none, none, none, none, none, none, none] [] := by
  refine V_aload_n d_Pr_narrow_0 rfl ?_
  refine U_geta d_Pr_narrow_1 fl_Pr_24 sh_103 rfl ?_
  refine U_geta d_Pr_narrow_4 fl_Pr_82 sh_20 rfl ?_
  refine V_iload_n d_Pr_narrow_7 rfl ?_
  obtain ⟨h1, h⟩ := h
  refine U_aald d_Pr_narrow_8 sh_22 (by decide) h1 (shO_22 _ (am_tn h1)) ?_
  refine V_astore_n d_Pr_narrow_9 rfl ?_
  refine V_aload_n d_Pr_narrow_10 rfl ?_
  refine V_aload_n d_Pr_narrow_11 rfl ?_
  refine U_geta d_Pr_narrow_12 fl_Pr_18 sh_103 rfl ?_
  refine U_is2 cv_Pr_narrow_86 d_Pr_narrow_15  rfl (am_mono h ?_)
  rintro ro1 so1 σ1 ⟨z1, rfl, rfl, h⟩
  refine V_istore_n d_Pr_narrow_18 rfl ?_
  refine V_aload_n d_Pr_narrow_19 rfl ?_
  refine V_aload_n d_Pr_narrow_20 rfl ?_
  refine U_geta d_Pr_narrow_21 fl_Pr_21 sh_103 rfl ?_
  refine U_is2 cv_Pr_narrow_86 d_Pr_narrow_24  rfl (am_mono h ?_)
  rintro ro2 so2 σ2 ⟨z2, rfl, rfl, h⟩
  refine V_istore d_Pr_narrow_27 rfl ?_
  refine V_iconst d_Pr_narrow_29 ?_
  refine V_istore d_Pr_narrow_30 rfl ?_
  refine V_iconst d_Pr_narrow_32 ?_
  refine V_istore d_Pr_narrow_33 rfl ?_
  exact h
theorem s_Pr_narrow_35 {x : am_Sc} {Po : Option am_AV → am_Sh → am_St → Prop} {σ : am_St} {r2 : Nat} {v1 v3 v4 v5 v6 : Int} (hr2 : am_SH[r2]? = some (12, 8, []))
    (h : am_r v6 ∧ ((8 ≤ v6 → am_U x m_Pr_narrow Po σ 228 [none, none, none, none, none, some (Zi v5), none, none, none, none] []) ∧ (¬ 8 ≤ v6 → am_r (σ.1 103 6) ∧ ((¬ (σ.1 103 6) = 0 → am_U x m_Pr_narrow Po σ 228 [none, none, none, none, none, some (Zi v5), none, none, none, none] []) ∧ ((σ.1 103 6) = 0 → (0 ≤ v6 ∧ v6 < 8) ∧ am_r (σ.1 r2 v6.toNat) ∧ (((σ.1 r2 v6.toNat) ≤ 0 → am_U x m_Pr_narrow Po σ 222 [some (Zr 103), some (Zi v1), some (Zr r2), some (Zi v3), some (Zi v4), some (Zi v5), some (Zi v6), none, none, none] []) ∧ (¬ (σ.1 r2 v6.toNat) ≤ 0 → (0 ≤ v1 ∧ v1 < 12) ∧ am_U x m_Ma_floorDiv (fun ro3 so3 σ3 => ∃ z3 : Int, ro3 = some (Zi z3) ∧ so3 = am_SH ∧ am_r z3 ∧ am_r (σ3.1 107 v6.toNat) ∧ (((σ3.1 107 v6.toNat) ≤ z3 → am_U x m_Pr_narrow Po σ3 128 [some (Zr 103), some (Zi v1), some (Zr r2), some (Zi v3), some (Zi v4), some (Zi v5), some (Zi v6), some (Zi (σ.1 r2 v6.toNat)), none, none] []) ∧ (¬ (σ3.1 107 v6.toNat) ≤ z3 → (∀ σ4 : am_St, σ4 = (am_up σ3.1 107 v6.toNat z3, σ3.2) → am_U x m_Pr_narrow Po σ4 128 [some (Zr 103), some (Zi v1), some (Zr r2), some (Zi v3), some (Zi (v4 - ((σ.1 r2 v6.toNat) * ((σ3.1 107 v6.toNat) - z3)))), some (Zi 1), some (Zi v6), some (Zi (σ.1 r2 v6.toNat)), none, none] [])))) σ 0 [some (Zi ((σ.1 105 v1.toNat) - (v3 - ((σ.1 r2 v6.toNat) * (σ.1 106 v6.toNat))))), some (Zi (σ.1 r2 v6.toNat)), none] []))))))) : am_U x m_Pr_narrow Po σ 35 [some (Zr 103), some (Zi v1), some (Zr r2), some (Zi v3), some (Zi v4), some (Zi v5), some (Zi v6), none, none, none] [] := by
  refine V_iload d_Pr_narrow_35 rfl ?_
  refine V_bipush d_Pr_narrow_37 ?_
  obtain ⟨h2, h⟩ := h
  obtain ⟨ht, hf⟩ := h
  refine V_icmp_ge 228 d_Pr_narrow_39 h2 (by decide) (fun h12 => ?_) (fun h12 => ?_)
  · have h := ht h12
    refine V_drop 0 ?_
    refine V_drop 1 ?_
    refine V_drop 2 ?_
    refine V_drop 3 ?_
    refine V_drop 4 ?_
    refine V_drop 6 ?_
    exact h
  · have h := hf h12
    refine V_aload_n d_Pr_narrow_42 rfl ?_
    refine U_geti d_Pr_narrow_43 fl_Pr_75 sh_103 ?_
    obtain ⟨h3, h⟩ := h
    obtain ⟨ht, hf⟩ := h
    refine V_if_ne 228 d_Pr_narrow_46 h3 (fun h11 => ?_) (fun h11 => ?_)
    · have h := ht h11
      refine V_drop 0 ?_
      refine V_drop 1 ?_
      refine V_drop 2 ?_
      refine V_drop 3 ?_
      refine V_drop 4 ?_
      refine V_drop 6 ?_
      exact h
    · have h := hf h11
      refine V_aload_n d_Pr_narrow_49 rfl ?_
      refine V_iload d_Pr_narrow_50 rfl ?_
      obtain ⟨h4, h⟩ := h
      refine U_iald d_Pr_narrow_52 hr2 h4 ?_
      refine V_istore d_Pr_narrow_53 rfl ?_
      refine V_iload d_Pr_narrow_55 rfl ?_
      obtain ⟨h5, h⟩ := h
      obtain ⟨ht, hf⟩ := h
      refine V_if_le 222 d_Pr_narrow_57 h5 (fun h10 => ?_) (fun h10 => ?_)
      · have h := ht h10
        refine V_drop 7 ?_
        exact h
      · have h := hf h10
        refine V_aload_n d_Pr_narrow_60 rfl ?_
        refine U_geta d_Pr_narrow_61 fl_Pr_15 sh_103 rfl ?_
        refine V_iload_n d_Pr_narrow_64 rfl ?_
        obtain ⟨h6, h⟩ := h
        refine U_iald d_Pr_narrow_65 sh_105 h6 ?_
        refine V_iload_n d_Pr_narrow_66 rfl ?_
        refine V_iload d_Pr_narrow_67 rfl ?_
        refine V_aload_n d_Pr_narrow_69 rfl ?_
        refine U_geta d_Pr_narrow_70 fl_Pr_18 sh_103 rfl ?_
        refine V_iload d_Pr_narrow_73 rfl ?_
        refine U_iald d_Pr_narrow_75 sh_106 h4 ?_
        refine V_imul d_Pr_narrow_76 ?_
        refine V_isub d_Pr_narrow_77 ?_
        refine V_isub d_Pr_narrow_78 ?_
        refine V_iload d_Pr_narrow_79 rfl ?_
        refine U_is2 cv_Pr_narrow_90 d_Pr_narrow_81  rfl (am_mono h ?_)
        rintro ro3 so3 σ3 ⟨z3, rfl, rfl, h⟩
        refine V_istore d_Pr_narrow_84 rfl ?_
        refine V_iload d_Pr_narrow_86 rfl ?_
        refine V_aload_n d_Pr_narrow_88 rfl ?_
        refine U_geta d_Pr_narrow_89 fl_Pr_21 sh_103 rfl ?_
        refine V_iload d_Pr_narrow_92 rfl ?_
        refine U_iald d_Pr_narrow_94 sh_107 h4 ?_
        obtain ⟨h7, h⟩ := h
        obtain ⟨h8, h⟩ := h
        obtain ⟨ht, hf⟩ := h
        refine V_icmp_ge 128 d_Pr_narrow_95 h7 h8 (fun h9 => ?_) (fun h9 => ?_)
        · have h := ht h9
          refine V_drop 8 ?_
          exact h
        · have h := hf h9
          refine V_iload d_Pr_narrow_98 rfl ?_
          refine V_iload d_Pr_narrow_100 rfl ?_
          refine V_aload_n d_Pr_narrow_102 rfl ?_
          refine U_geta d_Pr_narrow_103 fl_Pr_21 sh_103 rfl ?_
          refine V_iload d_Pr_narrow_106 rfl ?_
          refine U_iald d_Pr_narrow_108 sh_107 h4 ?_
          refine V_iload d_Pr_narrow_109 rfl ?_
          refine V_isub d_Pr_narrow_111 ?_
          refine V_imul d_Pr_narrow_112 ?_
          refine V_isub d_Pr_narrow_113 ?_
          refine V_istore d_Pr_narrow_114 rfl ?_
          refine V_aload_n d_Pr_narrow_116 rfl ?_
          refine U_geta d_Pr_narrow_117 fl_Pr_21 sh_103 rfl ?_
          refine V_iload d_Pr_narrow_120 rfl ?_
          refine V_iload d_Pr_narrow_122 rfl ?_
          refine U_iast d_Pr_narrow_124 sh_107 h4 ?_
          have h := h _ rfl
          refine V_iconst d_Pr_narrow_125 ?_
          refine V_istore d_Pr_narrow_126 rfl ?_
          refine V_drop 8 ?_
          exact h
theorem s_Pr_narrow_228 {x : am_Sc} {Po : Option am_AV → am_Sh → am_St → Prop} {σ : am_St} {v5 : Int}
    (h : (v5 = 0 ∨ v5 = 1) ∧ Po (some (Zi v5)) am_SH σ) : am_U x m_Pr_narrow Po σ 228 [none, none, none, none, none, some (Zi v5), none, none, none, none] [] := by
  refine V_iload d_Pr_narrow_228 rfl ?_
  obtain ⟨h13, h⟩ := h
  exact V_zret d_Pr_narrow_230 rfl rfl h13 h
theorem s_Pr_narrow_222 {x : am_Sc} {Po : Option am_AV → am_Sh → am_St → Prop} {σ : am_St} {r2 : Nat} {v1 v3 v4 v5 v6 : Int} (hr2 : am_SH[r2]? = some (12, 8, []))
    (h : am_U x m_Pr_narrow Po σ 35 [some (Zr 103), some (Zi v1), some (Zr r2), some (Zi v3), some (Zi v4), some (Zi v5), some (Zi (v6 + 1)), none, none, none] []) : am_U x m_Pr_narrow Po σ 222 [some (Zr 103), some (Zi v1), some (Zr r2), some (Zi v3), some (Zi v4), some (Zi v5), some (Zi v6), none, none, none] [] := by
  refine V_iinc d_Pr_narrow_222 rfl rfl ?_
  refine V_goto 35 d_Pr_narrow_225 ?_
  exact h
theorem s_Pr_narrow_128 {x : am_Sc} {Po : Option am_AV → am_Sh → am_St → Prop} {σ : am_St} {r2 : Nat} {v1 v3 v4 v5 v6 v7 : Int} (hr2 : am_SH[r2]? = some (12, 8, []))
    (h : (0 ≤ v6 ∧ v6 < 8) ∧ (0 ≤ v1 ∧ v1 < 12) ∧ am_U x m_Ma_floorDiv (fun ro5 so5 σ5 => ∃ z5 : Int, ro5 = some (Zi z5) ∧ so5 = am_SH ∧ am_r (-z5) ∧ am_r (σ5.1 106 v6.toNat) ∧ (((-z5) ≤ (σ5.1 106 v6.toNat) → am_U x m_Pr_narrow Po σ5 196 [some (Zr 103), some (Zi v1), some (Zr r2), some (Zi v3), some (Zi v4), some (Zi v5), some (Zi v6), none, none, none] []) ∧ (¬ (-z5) ≤ (σ5.1 106 v6.toNat) → (∀ σ6 : am_St, σ6 = (am_up σ5.1 106 v6.toNat (-z5), σ5.2) → am_U x m_Pr_narrow Po σ6 196 [some (Zr 103), some (Zi v1), some (Zr r2), some (Zi (v3 + (v7 * ((-z5) - (σ5.1 106 v6.toNat))))), some (Zi v4), some (Zi 1), some (Zi v6), none, none, none] [])))) σ 0 [some (Zi ((v4 - (v7 * (σ.1 107 v6.toNat))) - (σ.1 104 v1.toNat))), some (Zi v7), none] []) : am_U x m_Pr_narrow Po σ 128 [some (Zr 103), some (Zi v1), some (Zr r2), some (Zi v3), some (Zi v4), some (Zi v5), some (Zi v6), some (Zi v7), none, none] [] := by
  refine V_iload d_Pr_narrow_128 rfl ?_
  refine V_iload d_Pr_narrow_130 rfl ?_
  refine V_aload_n d_Pr_narrow_132 rfl ?_
  refine U_geta d_Pr_narrow_133 fl_Pr_21 sh_103 rfl ?_
  refine V_iload d_Pr_narrow_136 rfl ?_
  obtain ⟨h14, h⟩ := h
  refine U_iald d_Pr_narrow_138 sh_107 h14 ?_
  refine V_imul d_Pr_narrow_139 ?_
  refine V_isub d_Pr_narrow_140 ?_
  refine V_aload_n d_Pr_narrow_141 rfl ?_
  refine U_geta d_Pr_narrow_142 fl_Pr_9 sh_103 rfl ?_
  refine V_iload_n d_Pr_narrow_145 rfl ?_
  obtain ⟨h15, h⟩ := h
  refine U_iald d_Pr_narrow_146 sh_104 h15 ?_
  refine V_isub d_Pr_narrow_147 ?_
  refine V_iload d_Pr_narrow_148 rfl ?_
  refine U_is2 cv_Pr_narrow_90 d_Pr_narrow_150  rfl (am_mono h ?_)
  rintro ro5 so5 σ5 ⟨z5, rfl, rfl, h⟩
  refine V_ineg d_Pr_narrow_153 ?_
  refine V_istore d_Pr_narrow_154 rfl ?_
  refine V_iload d_Pr_narrow_156 rfl ?_
  refine V_aload_n d_Pr_narrow_158 rfl ?_
  refine U_geta d_Pr_narrow_159 fl_Pr_18 sh_103 rfl ?_
  refine V_iload d_Pr_narrow_162 rfl ?_
  refine U_iald d_Pr_narrow_164 sh_106 h14 ?_
  obtain ⟨h16, h⟩ := h
  obtain ⟨h17, h⟩ := h
  obtain ⟨ht, hf⟩ := h
  refine V_icmp_le 196 d_Pr_narrow_165 h16 h17 (fun h18 => ?_) (fun h18 => ?_)
  · have h := ht h18
    refine V_drop 7 ?_
    refine V_drop 9 ?_
    exact h
  · have h := hf h18
    refine V_iload_n d_Pr_narrow_168 rfl ?_
    refine V_iload d_Pr_narrow_169 rfl ?_
    refine V_iload d_Pr_narrow_171 rfl ?_
    refine V_aload_n d_Pr_narrow_173 rfl ?_
    refine U_geta d_Pr_narrow_174 fl_Pr_18 sh_103 rfl ?_
    refine V_iload d_Pr_narrow_177 rfl ?_
    refine U_iald d_Pr_narrow_179 sh_106 h14 ?_
    refine V_isub d_Pr_narrow_180 ?_
    refine V_imul d_Pr_narrow_181 ?_
    refine V_iadd d_Pr_narrow_182 ?_
    refine V_istore_n d_Pr_narrow_183 rfl ?_
    refine V_aload_n d_Pr_narrow_184 rfl ?_
    refine U_geta d_Pr_narrow_185 fl_Pr_18 sh_103 rfl ?_
    refine V_iload d_Pr_narrow_188 rfl ?_
    refine V_iload d_Pr_narrow_190 rfl ?_
    refine U_iast d_Pr_narrow_192 sh_106 h14 ?_
    have h := h _ rfl
    refine V_iconst d_Pr_narrow_193 ?_
    refine V_istore d_Pr_narrow_194 rfl ?_
    refine V_drop 7 ?_
    refine V_drop 9 ?_
    exact h
theorem s_Pr_narrow_196 {x : am_Sc} {Po : Option am_AV → am_Sh → am_St → Prop} {σ : am_St} {r2 : Nat} {v1 v3 v4 v5 v6 : Int} (hr2 : am_SH[r2]? = some (12, 8, []))
    (h : (0 ≤ v6 ∧ v6 < 8) ∧ am_r (σ.1 106 v6.toNat) ∧ am_r (σ.1 107 v6.toNat) ∧ (((σ.1 106 v6.toNat) ≤ (σ.1 107 v6.toNat) → am_U x m_Pr_narrow Po σ 219 [some (Zr 103), some (Zi v1), some (Zr r2), some (Zi v3), some (Zi v4), some (Zi v5), some (Zi v6), none, none, none] [Zi 0, Zr 103]) ∧ (¬ (σ.1 106 v6.toNat) ≤ (σ.1 107 v6.toNat) → am_U x m_Pr_narrow Po σ 219 [some (Zr 103), some (Zi v1), some (Zr r2), some (Zi v3), some (Zi v4), some (Zi v5), some (Zi v6), none, none, none] [Zi 1, Zr 103]))) : am_U x m_Pr_narrow Po σ 196 [some (Zr 103), some (Zi v1), some (Zr r2), some (Zi v3), some (Zi v4), some (Zi v5), some (Zi v6), none, none, none] [] := by
  refine V_aload_n d_Pr_narrow_196 rfl ?_
  refine V_aload_n d_Pr_narrow_197 rfl ?_
  refine U_geta d_Pr_narrow_198 fl_Pr_18 sh_103 rfl ?_
  refine V_iload d_Pr_narrow_201 rfl ?_
  obtain ⟨h19, h⟩ := h
  refine U_iald d_Pr_narrow_203 sh_106 h19 ?_
  refine V_aload_n d_Pr_narrow_204 rfl ?_
  refine U_geta d_Pr_narrow_205 fl_Pr_21 sh_103 rfl ?_
  refine V_iload d_Pr_narrow_208 rfl ?_
  refine U_iald d_Pr_narrow_210 sh_107 h19 ?_
  obtain ⟨h20, h⟩ := h
  obtain ⟨h21, h⟩ := h
  obtain ⟨ht, hf⟩ := h
  refine V_icmp_le 218 d_Pr_narrow_211 h20 h21 (fun h22 => ?_) (fun h22 => ?_)
  · have h := ht h22
    refine V_iconst d_Pr_narrow_218 ?_
    exact h
  · have h := hf h22
    refine V_iconst d_Pr_narrow_214 ?_
    refine V_goto 219 d_Pr_narrow_215 ?_
    exact h
theorem s_Pr_narrow_219 {x : am_Sc} {Po : Option am_AV → am_Sh → am_St → Prop} {σ : am_St} {r2 : Nat} {v1 v3 v4 v5 v6 vk1 : Int} (hr2 : am_SH[r2]? = some (12, 8, []))
    (h : (vk1 = 0 ∨ vk1 = 1) ∧ (∀ σ7 : am_St, σ7 = (am_up σ.1 103 6 vk1, σ.2) → am_U x m_Pr_narrow Po σ7 222 [some (Zr 103), some (Zi v1), some (Zr r2), some (Zi v3), some (Zi v4), some (Zi v5), some (Zi v6), none, none, none] [])) : am_U x m_Pr_narrow Po σ 219 [some (Zr 103), some (Zi v1), some (Zr r2), some (Zi v3), some (Zi v4), some (Zi v5), some (Zi v6), none, none, none] [Zi vk1, Zr 103] := by
  obtain ⟨h23, h⟩ := h
  refine U_putz d_Pr_narrow_219 fw_Pr_75 sh_103 h23 ?_
  have h := h _ rfl
  exact h
theorem s_Pr_weigh_0 {x : am_Sc} {Po : Option am_AV → am_Sh → am_St → Prop} {σ : am_St} {r0 r1 : Nat} (hr0 : am_SH[r0]? = some (12, 8, [])) (hr1 : am_SH[r1]? = some (12, 8, []))
    (h : am_U x m_Pr_weigh Po σ 4 [some (Zr r0), some (Zr r1), some (Zi 0), some (Zi 0)] []) : am_U x m_Pr_weigh Po σ 0 [some (Zr r0), some (Zr r1), none, none] [] := by
  refine V_iconst d_Pr_weigh_0 ?_
  refine V_istore_n d_Pr_weigh_1 rfl ?_
  refine V_iconst d_Pr_weigh_2 ?_
  refine V_istore_n d_Pr_weigh_3 rfl ?_
  exact h
theorem s_Pr_weigh_4 {x : am_Sc} {Po : Option am_AV → am_Sh → am_St → Prop} {σ : am_St} {r0 r1 : Nat} {v2 v3 : Int} (hr0 : am_SH[r0]? = some (12, 8, [])) (hr1 : am_SH[r1]? = some (12, 8, []))
    (h : am_r v3 ∧ ((8 ≤ v3 → Po (some (Zi v2)) am_SH σ) ∧ (¬ 8 ≤ v3 → (0 ≤ v3 ∧ v3 < 8) ∧ am_U x m_Pr_weigh Po σ 4 [some (Zr r0), some (Zr r1), some (Zi (v2 + ((σ.1 r0 v3.toNat) * (σ.1 r1 v3.toNat)))), some (Zi (v3 + 1))] []))) : am_U x m_Pr_weigh Po σ 4 [some (Zr r0), some (Zr r1), some (Zi v2), some (Zi v3)] [] := by
  refine V_iload_n d_Pr_weigh_4 rfl ?_
  refine V_bipush d_Pr_weigh_5 ?_
  obtain ⟨h1, h⟩ := h
  obtain ⟨ht, hf⟩ := h
  refine V_icmp_ge 26 d_Pr_weigh_7 h1 (by decide) (fun h3 => ?_) (fun h3 => ?_)
  · have h := ht h3
    refine V_iload_n d_Pr_weigh_26 rfl ?_
    exact V_iret d_Pr_weigh_27 rfl rfl h
  · have h := hf h3
    refine V_iload_n d_Pr_weigh_10 rfl ?_
    refine V_aload_n d_Pr_weigh_11 rfl ?_
    refine V_iload_n d_Pr_weigh_12 rfl ?_
    obtain ⟨h2, h⟩ := h
    refine U_iald d_Pr_weigh_13 hr0 h2 ?_
    refine V_aload_n d_Pr_weigh_14 rfl ?_
    refine V_iload_n d_Pr_weigh_15 rfl ?_
    refine U_iald d_Pr_weigh_16 hr1 h2 ?_
    refine V_imul d_Pr_weigh_17 ?_
    refine V_iadd d_Pr_weigh_18 ?_
    refine V_istore_n d_Pr_weigh_19 rfl ?_
    refine V_iinc d_Pr_weigh_20 rfl rfl ?_
    refine V_goto 4 d_Pr_weigh_23 ?_
    exact h
theorem s_Pr_leastQuarrel_0 {x : am_Sc} {Po : Option am_AV → am_Sh → am_St → Prop} {σ : am_St}
    (h : am_U x m_Ra_allRows (fun ro1 so1 σ1 => ∃ z1 : Int, ro1 = some (Zi z1) ∧ so1 = am_SH ∧ am_U x m_Pr_quarrels (fun ro2 so2 σ2 => ∃ z2 : Int, ro2 = some (Zi z2) ∧ so2 = am_SH ∧ am_r z2 ∧ ((¬ z2 = 0 → am_U x m_Pr_leastQuarrel Po σ2 20 [some (Zr 103), some (Zi z1), some (Zi 1), none] []) ∧ (z2 = 0 → Po (some (Zi 0)) am_SH σ2))) σ1 0 [some (Zr 103), some (Zi z1), none, none, none] []) σ 0 [some (Zr 20)] []) : am_U x m_Pr_leastQuarrel Po σ 0 [some (Zr 103), none, none, none] [] := by
  refine V_aload_n d_Pr_leastQuarrel_0 rfl ?_
  refine U_geta d_Pr_leastQuarrel_1 fl_Pr_24 sh_103 rfl ?_
  refine U_iv0 cv_Pr_leastQuarrel_56 d_Pr_leastQuarrel_4 sh_20 rfl rfl (am_mono h ?_)
  rintro ro1 so1 σ1 ⟨z1, rfl, rfl, h⟩
  refine V_istore_n d_Pr_leastQuarrel_7 rfl ?_
  refine V_aload_n d_Pr_leastQuarrel_8 rfl ?_
  refine V_iload_n d_Pr_leastQuarrel_9 rfl ?_
  refine U_iv1 cv_Pr_leastQuarrel_60 d_Pr_leastQuarrel_10 sh_103 rfl rfl (am_mono h ?_)
  rintro ro2 so2 σ2 ⟨z2, rfl, rfl, h⟩
  obtain ⟨h1, h⟩ := h
  obtain ⟨ht, hf⟩ := h
  refine V_if_ne 18 d_Pr_leastQuarrel_13 h1 (fun h2 => ?_) (fun h2 => ?_)
  · have h := ht h2
    refine V_iconst d_Pr_leastQuarrel_18 ?_
    refine V_istore_n d_Pr_leastQuarrel_19 rfl ?_
    exact h
  · have h := hf h2
    refine V_iconst d_Pr_leastQuarrel_16 ?_
    exact V_iret d_Pr_leastQuarrel_17 rfl rfl h
theorem s_Pr_leastQuarrel_20 {x : am_Sc} {Po : Option am_AV → am_Sh → am_St → Prop} {σ : am_St} {v1 v2 : Int}
    (h : am_r v2 ∧ am_r (σ.1 20 2) ∧ (((σ.1 20 2) ≤ v2 → Po (some (Zi v1)) am_SH σ) ∧ (¬ (σ.1 20 2) ≤ v2 → am_U x m_Pr_leastQuarrel Po σ 33 [some (Zr 103), some (Zi v1), some (Zi v2), some (Zi 1)] []))) : am_U x m_Pr_leastQuarrel Po σ 20 [some (Zr 103), some (Zi v1), some (Zi v2), none] [] := by
  refine V_iload_n d_Pr_leastQuarrel_20 rfl ?_
  refine V_aload_n d_Pr_leastQuarrel_21 rfl ?_
  refine U_geta d_Pr_leastQuarrel_22 fl_Pr_24 sh_103 rfl ?_
  refine U_geti d_Pr_leastQuarrel_25 fl_Pr_32 sh_20 ?_
  obtain ⟨h3, h⟩ := h
  obtain ⟨h4, h⟩ := h
  obtain ⟨ht, hf⟩ := h
  refine V_icmp_ge 68 d_Pr_leastQuarrel_28 h3 h4 (fun h5 => ?_) (fun h5 => ?_)
  · have h := ht h5
    refine V_iload_n d_Pr_leastQuarrel_68 rfl ?_
    exact V_iret d_Pr_leastQuarrel_69 rfl rfl h
  · have h := hf h5
    refine V_iconst d_Pr_leastQuarrel_31 ?_
    refine V_istore_n d_Pr_leastQuarrel_32 rfl ?_
    exact h
theorem s_Pr_leastQuarrel_33 {x : am_Sc} {Po : Option am_AV → am_Sh → am_St → Prop} {σ : am_St} {v1 v2 v3 : Int}
    (h : am_r v3 ∧ am_r v1 ∧ ((v1 ≤ v3 → am_U x m_Pr_leastQuarrel Po σ 20 [some (Zr 103), some (Zi v1), some (Zi (v2 + 1)), none] []) ∧ (¬ v1 ≤ v3 → am_U x m_In_bitCount (fun ro3 so3 σ3 => ∃ z3 : Int, ro3 = some (Zi z3) ∧ so3 = am_SH ∧ am_r z3 ∧ am_r v2 ∧ ((¬ z3 = v2 → am_U x m_Pr_leastQuarrel Po σ3 56 [some (Zr 103), some (Zi v1), some (Zi v2), some (Zi v3)] []) ∧ (z3 = v2 → am_U x m_Pr_quarrels (fun ro4 so4 σ4 => ∃ z4 : Int, ro4 = some (Zi z4) ∧ so4 = am_SH ∧ am_r z4 ∧ ((z4 = 0 → am_U x m_Pr_leastQuarrel Po σ4 56 [some (Zr 103), some (Zi v1), some (Zi v2), some (Zi v3)] []) ∧ (¬ z4 = 0 → Po (some (Zi v3)) am_SH σ4))) σ3 0 [some (Zr 103), some (Zi v3), none, none, none] []))) σ 0 [some (Zi v3)] []))) : am_U x m_Pr_leastQuarrel Po σ 33 [some (Zr 103), some (Zi v1), some (Zi v2), some (Zi v3)] [] := by
  refine V_iload_n d_Pr_leastQuarrel_33 rfl ?_
  refine V_iload_n d_Pr_leastQuarrel_34 rfl ?_
  obtain ⟨h6, h⟩ := h
  obtain ⟨h7, h⟩ := h
  obtain ⟨ht, hf⟩ := h
  refine V_icmp_ge 62 d_Pr_leastQuarrel_35 h6 h7 (fun h13 => ?_) (fun h13 => ?_)
  · have h := ht h13
    refine V_iinc d_Pr_leastQuarrel_62 rfl rfl ?_
    refine V_goto 20 d_Pr_leastQuarrel_65 ?_
    refine V_drop 3 ?_
    exact h
  · have h := hf h13
    refine V_iload_n d_Pr_leastQuarrel_38 rfl ?_
    refine U_is1 cv_Pr_leastQuarrel_64 d_Pr_leastQuarrel_39  rfl (am_mono h ?_)
    rintro ro3 so3 σ3 ⟨z3, rfl, rfl, h⟩
    refine V_iload_n d_Pr_leastQuarrel_42 rfl ?_
    obtain ⟨h8, h⟩ := h
    obtain ⟨h9, h⟩ := h
    obtain ⟨ht, hf⟩ := h
    refine V_icmp_ne 56 d_Pr_leastQuarrel_43 h8 h9 (fun h12 => ?_) (fun h12 => ?_)
    · have h := ht h12
      exact h
    · have h := hf h12
      refine V_aload_n d_Pr_leastQuarrel_46 rfl ?_
      refine V_iload_n d_Pr_leastQuarrel_47 rfl ?_
      refine U_iv1 cv_Pr_leastQuarrel_60 d_Pr_leastQuarrel_48 sh_103 rfl rfl (am_mono h ?_)
      rintro ro4 so4 σ4 ⟨z4, rfl, rfl, h⟩
      obtain ⟨h10, h⟩ := h
      obtain ⟨ht, hf⟩ := h
      refine V_if_eq 56 d_Pr_leastQuarrel_51 h10 (fun h11 => ?_) (fun h11 => ?_)
      · have h := ht h11
        exact h
      · have h := hf h11
        refine V_iload_n d_Pr_leastQuarrel_54 rfl ?_
        exact V_iret d_Pr_leastQuarrel_55 rfl rfl h
theorem s_Pr_leastQuarrel_56 {x : am_Sc} {Po : Option am_AV → am_Sh → am_St → Prop} {σ : am_St} {v1 v2 v3 : Int}
    (h : am_U x m_Pr_leastQuarrel Po σ 33 [some (Zr 103), some (Zi v1), some (Zi v2), some (Zi (v3 + 1))] []) : am_U x m_Pr_leastQuarrel Po σ 56 [some (Zr 103), some (Zi v1), some (Zi v2), some (Zi v3)] [] := by
  refine V_iinc d_Pr_leastQuarrel_56 rfl rfl ?_
  refine V_goto 33 d_Pr_leastQuarrel_59 ?_
  exact h
theorem s_Ra_picksOf_0 {x : am_Sc} {Po : Option am_AV → am_Sh → am_St → Prop} {σ : am_St} {v1 : Int}
    (h : am_U x m_Ra_picksOf Po σ 4 [some (Zr 20), some (Zi v1), some (Zi 0), some (Zi 0)] []) : am_U x m_Ra_picksOf Po σ 0 [some (Zr 20), some (Zi v1), none, none] [] := by
  refine V_iconst d_Ra_picksOf_0 ?_
  refine V_istore_n d_Ra_picksOf_1 rfl ?_
  refine V_iconst d_Ra_picksOf_2 ?_
  refine V_istore_n d_Ra_picksOf_3 rfl ?_
  exact h
theorem s_Ra_picksOf_4 {x : am_Sc} {Po : Option am_AV → am_Sh → am_St → Prop} {σ : am_St} {v1 v2 v3 : Int}
    (h : am_r v3 ∧ am_r (σ.1 20 2) ∧ (((σ.1 20 2) ≤ v3 → Po (some (Zi v2)) am_SH σ) ∧ (¬ (σ.1 20 2) ≤ v3 → am_r (am_and (am_shr v1 v3) 1) ∧ ((¬ (am_and (am_shr v1 v3) 1) = 1 → am_U x m_Ra_picksOf Po σ 32 [some (Zr 20), some (Zi v1), some (Zi v2), some (Zi v3)] []) ∧ ((am_and (am_shr v1 v3) 1) = 1 → (0 ≤ v3 ∧ v3 < 12) ∧ am_U x m_Ra_picksOf Po σ 32 [some (Zr 20), some (Zi v1), some (Zi (am_or v2 (am_shl 1 (σ.1 21 v3.toNat)))), some (Zi v3)] []))))) : am_U x m_Ra_picksOf Po σ 4 [some (Zr 20), some (Zi v1), some (Zi v2), some (Zi v3)] [] := by
  refine V_iload_n d_Ra_picksOf_4 rfl ?_
  refine V_aload_n d_Ra_picksOf_5 rfl ?_
  refine U_geti d_Ra_picksOf_6 fl_Ra_28 sh_20 ?_
  obtain ⟨h1, h⟩ := h
  obtain ⟨h2, h⟩ := h
  obtain ⟨ht, hf⟩ := h
  refine V_icmp_ge 38 d_Ra_picksOf_9 h1 h2 (fun h6 => ?_) (fun h6 => ?_)
  · have h := ht h6
    refine V_iload_n d_Ra_picksOf_38 rfl ?_
    exact V_iret d_Ra_picksOf_39 rfl rfl h
  · have h := hf h6
    refine V_iload_n d_Ra_picksOf_12 rfl ?_
    refine V_iload_n d_Ra_picksOf_13 rfl ?_
    refine V_ishr d_Ra_picksOf_14 ?_
    refine V_iconst d_Ra_picksOf_15 ?_
    refine V_iand d_Ra_picksOf_16 ?_
    refine V_iconst d_Ra_picksOf_17 ?_
    obtain ⟨h3, h⟩ := h
    obtain ⟨ht, hf⟩ := h
    refine V_icmp_ne 32 d_Ra_picksOf_18 h3 (by decide) (fun h5 => ?_) (fun h5 => ?_)
    · have h := ht h5
      exact h
    · have h := hf h5
      refine V_iload_n d_Ra_picksOf_21 rfl ?_
      refine V_iconst d_Ra_picksOf_22 ?_
      refine V_aload_n d_Ra_picksOf_23 rfl ?_
      refine U_geta d_Ra_picksOf_24 fl_Ra_9 sh_20 rfl ?_
      refine V_iload_n d_Ra_picksOf_27 rfl ?_
      obtain ⟨h4, h⟩ := h
      refine U_iald d_Ra_picksOf_28 sh_21 h4 ?_
      refine V_ishl d_Ra_picksOf_29 ?_
      refine V_ior d_Ra_picksOf_30 ?_
      refine V_istore_n d_Ra_picksOf_31 rfl ?_
      exact h
theorem s_Ra_picksOf_32 {x : am_Sc} {Po : Option am_AV → am_Sh → am_St → Prop} {σ : am_St} {v1 v2 v3 : Int}
    (h : am_U x m_Ra_picksOf Po σ 4 [some (Zr 20), some (Zi v1), some (Zi v2), some (Zi (v3 + 1))] []) : am_U x m_Ra_picksOf Po σ 32 [some (Zr 20), some (Zi v1), some (Zi v2), some (Zi v3)] [] := by
  refine V_iinc d_Ra_picksOf_32 rfl rfl ?_
  refine V_goto 4 d_Ra_picksOf_35 ?_
  exact h
theorem s_Ra_isTouched_0 {x : am_Sc} {Po : Option am_AV → am_Sh → am_St → Prop} {σ : am_St} {v1 : Int}
    (h : am_U x m_Ra_isTouched Po σ 2 [some (Zr 20), some (Zi v1), some (Zi 0)] []) : am_U x m_Ra_isTouched Po σ 0 [some (Zr 20), some (Zi v1), none] [] := by
  refine V_iconst d_Ra_isTouched_0 ?_
  refine V_istore_n d_Ra_isTouched_1 rfl ?_
  exact h
theorem s_Ra_isTouched_2 {x : am_Sc} {Po : Option am_AV → am_Sh → am_St → Prop} {σ : am_St} {v1 v2 : Int}
    (h : am_r v2 ∧ am_r (σ.1 20 2) ∧ (((σ.1 20 2) ≤ v2 → Po (some (Zi 0)) am_SH σ) ∧ (¬ (σ.1 20 2) ≤ v2 → (0 ≤ v2 ∧ v2 < 12) ∧ (0 ≤ v1 ∧ v1 < 8) ∧ am_r (σ.1 (23 + v2.toNat) v1.toNat) ∧ (((σ.1 (23 + v2.toNat) v1.toNat) ≤ 0 → am_U x m_Ra_isTouched Po σ 2 [some (Zr 20), some (Zi v1), some (Zi (v2 + 1))] []) ∧ (¬ (σ.1 (23 + v2.toNat) v1.toNat) ≤ 0 → Po (some (Zi 1)) am_SH σ))))) : am_U x m_Ra_isTouched Po σ 2 [some (Zr 20), some (Zi v1), some (Zi v2)] [] := by
  refine V_iload_n d_Ra_isTouched_2 rfl ?_
  refine V_aload_n d_Ra_isTouched_3 rfl ?_
  refine U_geti d_Ra_isTouched_4 fl_Ra_28 sh_20 ?_
  obtain ⟨h1, h⟩ := h
  obtain ⟨h2, h⟩ := h
  obtain ⟨ht, hf⟩ := h
  refine V_icmp_ge 29 d_Ra_isTouched_7 h1 h2 (fun h7 => ?_) (fun h7 => ?_)
  · have h := ht h7
    refine V_iconst d_Ra_isTouched_29 ?_
    exact V_zret d_Ra_isTouched_30 rfl rfl (Or.inl rfl) h
  · have h := hf h7
    refine V_aload_n d_Ra_isTouched_10 rfl ?_
    refine U_geta d_Ra_isTouched_11 fl_Ra_17 sh_20 rfl ?_
    refine V_iload_n d_Ra_isTouched_14 rfl ?_
    obtain ⟨h3, h⟩ := h
    refine U_aald d_Ra_isTouched_15 sh_22 (by decide) h3 (shO_22 _ (am_tn h3)) ?_
    refine V_iload_n d_Ra_isTouched_16 rfl ?_
    obtain ⟨h4, h⟩ := h
    refine U_iald d_Ra_isTouched_17 (shR_22 _ (am_tn h3)) h4 ?_
    obtain ⟨h5, h⟩ := h
    obtain ⟨ht, hf⟩ := h
    refine V_if_le 23 d_Ra_isTouched_18 h5 (fun h6 => ?_) (fun h6 => ?_)
    · have h := ht h6
      refine V_iinc d_Ra_isTouched_23 rfl rfl ?_
      refine V_goto 2 d_Ra_isTouched_26 ?_
      exact h
    · have h := hf h6
      refine V_iconst d_Ra_isTouched_21 ?_
      exact V_zret d_Ra_isTouched_22 rfl rfl (Or.inr rfl) h
theorem s_Ft_aimAtForetold_0 {x : am_Sc} {Po : Option am_AV → am_Sh → am_St → Prop} {σ : am_St} {v1 : Int}
    (h : am_U x m_Ft_aimAtForetold Po σ 2 [some (Zr 35), some (Zi v1), some (Zi 0), none] []) : am_U x m_Ft_aimAtForetold Po σ 0 [some (Zr 35), some (Zi v1), none, none] [] := by
  refine V_iconst d_Ft_aimAtForetold_0 ?_
  refine V_istore_n d_Ft_aimAtForetold_1 rfl ?_
  exact h
theorem s_Ft_aimAtForetold_2 {x : am_Sc} {Po : Option am_AV → am_Sh → am_St → Prop} {σ : am_St} {v1 v2 : Int}
    (h : am_r v2 ∧ am_r (σ.1 8 6) ∧ (((σ.1 8 6) ≤ v2 → Po none am_SH σ) ∧ (¬ (σ.1 8 6) ≤ v2 → am_U x m_Ft_foretold (fun ro1 so1 σ1 => ∃ z1 : Int, ro1 = some (Zi z1) ∧ so1 = am_SH ∧ (0 ≤ v2 ∧ v2 < 12) ∧ (∀ σ2 : am_St, σ2 = (am_up σ1.1 36 v2.toNat (z1 - v1), σ1.2) → (∀ σ3 : am_St, σ3 = (am_up σ2.1 37 v2.toNat (z1 + v1), σ2.2) → am_U x m_Ft_aimAtForetold Po σ3 2 [some (Zr 35), some (Zi v1), some (Zi (v2 + 1)), none] []))) σ 0 [some (Zr 35), some (Zi v2)] []))) : am_U x m_Ft_aimAtForetold Po σ 2 [some (Zr 35), some (Zi v1), some (Zi v2), none] [] := by
  refine V_iload_n d_Ft_aimAtForetold_2 rfl ?_
  refine V_aload_n d_Ft_aimAtForetold_3 rfl ?_
  refine U_geta d_Ft_aimAtForetold_4 fl_Ft_36 sh_35 rfl ?_
  refine U_geti d_Ft_aimAtForetold_7 fl_Ft_67 sh_8 ?_
  obtain ⟨h1, h⟩ := h
  obtain ⟨h2, h⟩ := h
  obtain ⟨ht, hf⟩ := h
  refine V_icmp_ge 43 d_Ft_aimAtForetold_10 h1 h2 (fun h4 => ?_) (fun h4 => ?_)
  · have h := ht h4
    exact V_ret d_Ft_aimAtForetold_43 rfl rfl h
  · have h := hf h4
    refine V_aload_n d_Ft_aimAtForetold_13 rfl ?_
    refine V_iload_n d_Ft_aimAtForetold_14 rfl ?_
    refine U_iv1 cv_Ft_aimAtForetold_77 d_Ft_aimAtForetold_15 sh_35 rfl rfl (am_mono h ?_)
    rintro ro1 so1 σ1 ⟨z1, rfl, rfl, h⟩
    refine V_istore_n d_Ft_aimAtForetold_18 rfl ?_
    refine V_aload_n d_Ft_aimAtForetold_19 rfl ?_
    refine U_geta d_Ft_aimAtForetold_20 fl_Ft_9 sh_35 rfl ?_
    refine V_iload_n d_Ft_aimAtForetold_23 rfl ?_
    refine V_iload_n d_Ft_aimAtForetold_24 rfl ?_
    refine V_iload_n d_Ft_aimAtForetold_25 rfl ?_
    refine V_isub d_Ft_aimAtForetold_26 ?_
    obtain ⟨h3, h⟩ := h
    refine U_iast d_Ft_aimAtForetold_27 sh_36 h3 ?_
    have h := h _ rfl
    refine V_aload_n d_Ft_aimAtForetold_28 rfl ?_
    refine U_geta d_Ft_aimAtForetold_29 fl_Ft_15 sh_35 rfl ?_
    refine V_iload_n d_Ft_aimAtForetold_32 rfl ?_
    refine V_iload_n d_Ft_aimAtForetold_33 rfl ?_
    refine V_iload_n d_Ft_aimAtForetold_34 rfl ?_
    refine V_iadd d_Ft_aimAtForetold_35 ?_
    refine U_iast d_Ft_aimAtForetold_36 sh_37 h3 ?_
    have h := h _ rfl
    refine V_iinc d_Ft_aimAtForetold_37 rfl rfl ?_
    refine V_goto 2 d_Ft_aimAtForetold_40 ?_
    refine V_drop 3 ?_
    exact h
