theorem s_Re_takePicks_0 {x : am_Sc} {Po : Option am_AV → am_Sh → am_St → Prop} {σ : am_St}
    (h : am_U x m_Ba_clear (fun ro1 so1 σ1 => ro1 = none ∧ so1 = am_SH ∧ am_U x m_Re_takePicks Po σ1 9 [some (Zr 108), some (Zi 0)] []) σ 0 [some (Zr 109), none] []) : am_U x m_Re_takePicks Po σ 0 [some (Zr 108), none] [] := by
  refine V_aload_n d_Re_takePicks_0 rfl ?_
  refine U_geta d_Re_takePicks_1 fl_Re_12 sh_108 rfl ?_
  refine U_iv0 cv_Re_takePicks_37 d_Re_takePicks_4 sh_109 rfl rfl (am_mono h ?_)
  rintro ro1 so1 σ1 ⟨rfl, rfl, h⟩
  refine V_iconst d_Re_takePicks_7 ?_
  refine V_istore_n d_Re_takePicks_8 rfl ?_
  exact h
theorem s_Re_takePicks_9 {x : am_Sc} {Po : Option am_AV → am_Sh → am_St → Prop} {σ : am_St} {v1 : Int}
    (h : am_r v1 ∧ am_r (σ.1 20 2) ∧ (((σ.1 20 2) ≤ v1 → Po none am_SH σ) ∧ (¬ (σ.1 20 2) ≤ v1 → (0 ≤ v1 ∧ v1 < 12) ∧ am_U x m_Ba_add (fun ro2 so2 σ2 => ro2 = none ∧ so2 = am_SH ∧ am_U x m_Re_takePicks Po σ2 9 [some (Zr 108), some (Zi (v1 + 1))] []) σ 0 [some (Zr 109), some (Zr (23 + v1.toNat)), none, none] []))) : am_U x m_Re_takePicks Po σ 9 [some (Zr 108), some (Zi v1)] [] := by
  refine V_iload_n d_Re_takePicks_9 rfl ?_
  refine V_aload_n d_Re_takePicks_10 rfl ?_
  refine U_geta d_Re_takePicks_11 fl_Re_33 sh_108 rfl ?_
  refine U_geti d_Re_takePicks_14 fl_Re_40 sh_20 ?_
  obtain ⟨h1, h⟩ := h
  obtain ⟨h2, h⟩ := h
  obtain ⟨ht, hf⟩ := h
  refine V_icmp_ge 42 d_Re_takePicks_17 h1 h2 (fun h4 => ?_) (fun h4 => ?_)
  · have h := ht h4
    exact V_ret d_Re_takePicks_42 rfl rfl h
  · have h := hf h4
    refine V_aload_n d_Re_takePicks_20 rfl ?_
    refine U_geta d_Re_takePicks_21 fl_Re_12 sh_108 rfl ?_
    refine V_aload_n d_Re_takePicks_24 rfl ?_
    refine U_geta d_Re_takePicks_25 fl_Re_33 sh_108 rfl ?_
    refine U_geta d_Re_takePicks_28 fl_Re_46 sh_20 rfl ?_
    refine V_iload_n d_Re_takePicks_31 rfl ?_
    obtain ⟨h3, h⟩ := h
    refine U_aald d_Re_takePicks_32 sh_22 (by decide) h3 (shO_22 _ (am_tn h3)) ?_
    refine U_iv1 cv_Re_takePicks_49 d_Re_takePicks_33 sh_109 rfl rfl (am_mono h ?_)
    rintro ro2 so2 σ2 ⟨rfl, rfl, h⟩
    refine V_iinc d_Re_takePicks_36 rfl rfl ?_
    refine V_goto 9 d_Re_takePicks_39 ?_
    exact h
theorem s_Ba_clear_0 {x : am_Sc} {Po : Option am_AV → am_Sh → am_St → Prop} {σ : am_St} {b : Nat} (hb : b = 109 ∨ b = 121)
    (h : (∀ σ1 : am_St, σ1 = (am_up σ.1 b 0 0, σ.2) → am_U x m_Ba_clear Po σ1 7 [some (Zr b), some (Zi 0)] [])) : am_U x m_Ba_clear Po σ 0 [some (Zr b), none] [] := by
  refine V_aload_n d_Ba_clear_0 rfl ?_
  refine V_iconst d_Ba_clear_1 ?_
  refine U_puti d_Ba_clear_2 fw_Ba_24 (shB_0 hb) ?_
  have h := h _ rfl
  refine V_iconst d_Ba_clear_5 ?_
  refine V_istore_n d_Ba_clear_6 rfl ?_
  exact h
theorem s_Ba_clear_7 {x : am_Sc} {Po : Option am_AV → am_Sh → am_St → Prop} {σ : am_St} {b : Nat} {v1 : Int} (hb : b = 109 ∨ b = 121)
    (h : am_r v1 ∧ ((8 ≤ v1 → Po none am_SH σ) ∧ (¬ 8 ≤ v1 → (0 ≤ v1 ∧ v1 < 8) ∧ (∀ σ2 : am_St, σ2 = (am_up σ.1 (b + 1) v1.toNat 0, σ.2) → am_U x m_Ba_clear Po σ2 7 [some (Zr b), some (Zi (v1 + 1))] [])))) : am_U x m_Ba_clear Po σ 7 [some (Zr b), some (Zi v1)] [] := by
  refine V_iload_n d_Ba_clear_7 rfl ?_
  refine V_bipush d_Ba_clear_8 ?_
  obtain ⟨h1, h⟩ := h
  obtain ⟨ht, hf⟩ := h
  refine V_icmp_ge 26 d_Ba_clear_10 h1 (by decide) (fun h3 => ?_) (fun h3 => ?_)
  · have h := ht h3
    exact V_ret d_Ba_clear_26 rfl rfl h
  · have h := hf h3
    refine V_aload_n d_Ba_clear_13 rfl ?_
    refine U_geta d_Ba_clear_14 fl_Ba_9 (shB_0 hb) rfl ?_
    refine V_iload_n d_Ba_clear_17 rfl ?_
    refine V_iconst d_Ba_clear_18 ?_
    obtain ⟨h2, h⟩ := h
    refine U_zast d_Ba_clear_19 (shB_1 hb) h2 (Or.inl rfl) ?_
    have h := h _ rfl
    refine V_iinc d_Ba_clear_20 rfl rfl ?_
    refine V_goto 7 d_Ba_clear_23 ?_
    exact h
theorem s_Ba_add_0 {x : am_Sc} {Po : Option am_AV → am_Sh → am_St → Prop} {σ : am_St} {b r1 : Nat} (hb : b = 109 ∨ b = 121) (hr1 : am_SH[r1]? = some (12, 8, []))
    (h : am_U x m_Ba_add Po σ 2 [some (Zr b), some (Zr r1), some (Zi 0), none] []) : am_U x m_Ba_add Po σ 0 [some (Zr b), some (Zr r1), none, none] [] := by
  refine V_iconst d_Ba_add_0 ?_
  refine V_istore_n d_Ba_add_1 rfl ?_
  exact h
theorem s_Ba_add_2 {x : am_Sc} {Po : Option am_AV → am_Sh → am_St → Prop} {σ : am_St} {b r1 : Nat} {v2 : Int} (hb : b = 109 ∨ b = 121) (hr1 : am_SH[r1]? = some (12, 8, []))
    (h : am_r v2 ∧ ((8 ≤ v2 → am_U x m_Ba_add Po σ 26 [some (Zr b), none, some (Zi 0), none] []) ∧ (¬ 8 ≤ v2 → (0 ≤ v2 ∧ v2 < 8) ∧ (∀ σ1 : am_St, σ1 = (σ.1, am_up σ.2 (b + 11) v2.toNat (am_i2l (σ.1 r1 v2.toNat))) → am_U x m_Ba_add Po σ1 2 [some (Zr b), some (Zr r1), some (Zi (v2 + 1)), none] [])))) : am_U x m_Ba_add Po σ 2 [some (Zr b), some (Zr r1), some (Zi v2), none] [] := by
  refine V_iload_n d_Ba_add_2 rfl ?_
  refine V_bipush d_Ba_add_3 ?_
  obtain ⟨h1, h⟩ := h
  obtain ⟨ht, hf⟩ := h
  refine V_icmp_ge 24 d_Ba_add_5 h1 (by decide) (fun h3 => ?_) (fun h3 => ?_)
  · have h := ht h3
    refine V_iconst d_Ba_add_24 ?_
    refine V_istore_n d_Ba_add_25 rfl ?_
    refine V_drop 1 ?_
    exact h
  · have h := hf h3
    refine V_aload_n d_Ba_add_8 rfl ?_
    refine U_geta d_Ba_add_9 fl_Ba_20 (shB_0 hb) rfl ?_
    refine V_iload_n d_Ba_add_12 rfl ?_
    refine V_aload_n d_Ba_add_13 rfl ?_
    refine V_iload_n d_Ba_add_14 rfl ?_
    obtain ⟨h2, h⟩ := h
    refine U_iald d_Ba_add_15 hr1 h2 ?_
    refine V_i2l d_Ba_add_16 ?_
    refine U_last d_Ba_add_17 (shB_11 hb) h2 ?_
    have h := h _ rfl
    refine V_iinc d_Ba_add_18 rfl rfl ?_
    refine V_goto 2 d_Ba_add_21 ?_
    exact h
theorem s_Ba_add_26 {x : am_Sc} {Po : Option am_AV → am_Sh → am_St → Prop} {σ : am_St} {b : Nat} {v2 : Int} (hb : b = 109 ∨ b = 121)
    (h : am_r v2 ∧ ((8 ≤ v2 → am_U x m_Ba_firstColumn (fun ro2 so2 σ2 => ∃ z2 : Int, ro2 = some (Zi z2) ∧ so2 = am_SH ∧ am_r z2 ∧ ((0 ≤ z2 → am_U x m_Ba_add Po σ2 73 [some (Zr b), none, some (Zi z2), some (Zi 0)] []) ∧ (¬ 0 ≤ z2 → Po none am_SH σ2))) σ 0 [some (Zr b), none] []) ∧ (¬ 8 ≤ v2 → (0 ≤ v2 ∧ v2 < 8) ∧ am_r (σ.1 (b + 1) v2.toNat) ∧ (((σ.1 (b + 1) v2.toNat) = 0 → am_U x m_Ba_add Po σ 55 [some (Zr b), none, some (Zi v2), none] []) ∧ (¬ (σ.1 (b + 1) v2.toNat) = 0 → am_U x m_Ba_clearColumn (fun ro3 so3 σ3 => ro3 = none ∧ so3 = am_SH ∧ am_U x m_Ba_add Po σ3 55 [some (Zr b), none, some (Zi v2), none] []) σ 0 [some (Zr (b + 11)), some (Zr (b + 3 + v2.toNat)), some (Zi v2), none, none, none, none, none] []))))) : am_U x m_Ba_add Po σ 26 [some (Zr b), none, some (Zi v2), none] [] := by
  refine V_iload_n d_Ba_add_26 rfl ?_
  refine V_bipush d_Ba_add_27 ?_
  obtain ⟨h4, h⟩ := h
  obtain ⟨ht, hf⟩ := h
  refine V_icmp_ge 61 d_Ba_add_29 h4 (by decide) (fun h10 => ?_) (fun h10 => ?_)
  · have h := ht h10
    refine V_aload_n d_Ba_add_61 rfl ?_
    refine U_iv0 cv_Ba_add_38 d_Ba_add_62 (shB_0 hb) rfl rfl (am_mono h ?_)
    rintro ro2 so2 σ2 ⟨z2, rfl, rfl, h⟩
    refine V_istore_n d_Ba_add_65 rfl ?_
    refine V_iload_n d_Ba_add_66 rfl ?_
    obtain ⟨h5, h⟩ := h
    obtain ⟨ht, hf⟩ := h
    refine V_if_ge 71 d_Ba_add_67 h5 (fun h6 => ?_) (fun h6 => ?_)
    · have h := ht h6
      refine V_iconst d_Ba_add_71 ?_
      refine V_istore_n d_Ba_add_72 rfl ?_
      exact h
    · have h := hf h6
      exact V_ret d_Ba_add_70 rfl rfl h
  · have h := hf h10
    refine V_aload_n d_Ba_add_32 rfl ?_
    refine U_geta d_Ba_add_33 fl_Ba_9 (shB_0 hb) rfl ?_
    refine V_iload_n d_Ba_add_36 rfl ?_
    obtain ⟨h7, h⟩ := h
    refine U_zald d_Ba_add_37 (shB_1 hb) h7 ?_
    obtain ⟨h8, h⟩ := h
    obtain ⟨ht, hf⟩ := h
    refine V_if_eq 55 d_Ba_add_38 h8 (fun h9 => ?_) (fun h9 => ?_)
    · have h := ht h9
      exact h
    · have h := hf h9
      refine V_aload_n d_Ba_add_41 rfl ?_
      refine U_geta d_Ba_add_42 fl_Ba_20 (shB_0 hb) rfl ?_
      refine V_aload_n d_Ba_add_45 rfl ?_
      refine U_geta d_Ba_add_46 fl_Ba_17 (shB_0 hb) rfl ?_
      refine V_iload_n d_Ba_add_49 rfl ?_
      refine U_aald d_Ba_add_50 (shB_2 hb) (by decide) h7 (shB_O hb _ (am_tn h7)) ?_
      refine V_iload_n d_Ba_add_51 rfl ?_
      refine U_is3 cv_Ba_add_34 d_Ba_add_52  rfl (am_mono h ?_)
      rintro ro3 so3 σ3 ⟨rfl, rfl, h⟩
      exact h
theorem s_Ba_add_73 {x : am_Sc} {Po : Option am_AV → am_Sh → am_St → Prop} {σ : am_St} {b : Nat} {v2 v3 : Int} (hb : b = 109 ∨ b = 121)
    (h : am_r v3 ∧ ((8 ≤ v3 → (0 ≤ v2 ∧ v2 < 8) ∧ (∀ σ4 : am_St, σ4 = (σ.1, am_cp σ.2 (b + 11) (b + 3 + v2.toNat) 8) → (∀ σ5 : am_St, σ5 = (am_up σ4.1 (b + 1) v2.toNat 1, σ4.2) → (∀ σ6 : am_St, σ6 = (am_up σ5.1 b 0 ((σ5.1 b 0) + 1), σ5.2) → Po none am_SH σ6)))) ∧ (¬ 8 ≤ v3 → (0 ≤ v3 ∧ v3 < 8) ∧ am_r (σ.1 (b + 1) v3.toNat) ∧ (((σ.1 (b + 1) v3.toNat) = 0 → am_U x m_Ba_add Po σ 102 [some (Zr b), none, some (Zi v2), some (Zi v3)] []) ∧ (¬ (σ.1 (b + 1) v3.toNat) = 0 → am_U x m_Ba_clearColumn (fun ro7 so7 σ7 => ro7 = none ∧ so7 = am_SH ∧ am_U x m_Ba_add Po σ7 102 [some (Zr b), none, some (Zi v2), some (Zi v3)] []) σ 0 [some (Zr (b + 3 + v3.toNat)), some (Zr (b + 11)), some (Zi v2), none, none, none, none, none] []))))) : am_U x m_Ba_add Po σ 73 [some (Zr b), none, some (Zi v2), some (Zi v3)] [] := by
  refine V_iload_n d_Ba_add_73 rfl ?_
  refine V_bipush d_Ba_add_74 ?_
  obtain ⟨h11, h⟩ := h
  obtain ⟨ht, hf⟩ := h
  refine V_icmp_ge 108 d_Ba_add_76 h11 (by decide) (fun h16 => ?_) (fun h16 => ?_)
  · have h := ht h16
    refine V_aload_n d_Ba_add_108 rfl ?_
    refine U_geta d_Ba_add_109 fl_Ba_20 (shB_0 hb) rfl ?_
    refine V_iconst d_Ba_add_112 ?_
    refine V_aload_n d_Ba_add_113 rfl ?_
    refine U_geta d_Ba_add_114 fl_Ba_17 (shB_0 hb) rfl ?_
    refine V_iload_n d_Ba_add_117 rfl ?_
    obtain ⟨h12, h⟩ := h
    refine U_aald d_Ba_add_118 (shB_2 hb) (by decide) h12 (shB_O hb _ (am_tn h12)) ?_
    refine V_iconst d_Ba_add_119 ?_
    refine V_bipush d_Ba_add_120 ?_
    refine U_cpyL 8 d_Ba_add_122 cy_Ba_add_28 (shB_11 hb) (shB_R hb _ (am_tn h12)) rfl rfl rfl ?_
    have h := h _ rfl
    refine V_aload_n d_Ba_add_125 rfl ?_
    refine U_geta d_Ba_add_126 fl_Ba_9 (shB_0 hb) rfl ?_
    refine V_iload_n d_Ba_add_129 rfl ?_
    refine V_iconst d_Ba_add_130 ?_
    refine U_zast d_Ba_add_131 (shB_1 hb) h12 (Or.inr rfl) ?_
    have h := h _ rfl
    refine V_aload_n d_Ba_add_132 rfl ?_
    refine V_dup d_Ba_add_133 ?_
    refine U_geti d_Ba_add_134 fl_Ba_24 (shB_0 hb) ?_
    refine V_iconst d_Ba_add_137 ?_
    refine V_iadd d_Ba_add_138 ?_
    refine U_puti d_Ba_add_139 fw_Ba_24 (shB_0 hb) ?_
    have h := h _ rfl
    exact V_ret d_Ba_add_142 rfl rfl h
  · have h := hf h16
    refine V_aload_n d_Ba_add_79 rfl ?_
    refine U_geta d_Ba_add_80 fl_Ba_9 (shB_0 hb) rfl ?_
    refine V_iload_n d_Ba_add_83 rfl ?_
    obtain ⟨h13, h⟩ := h
    refine U_zald d_Ba_add_84 (shB_1 hb) h13 ?_
    obtain ⟨h14, h⟩ := h
    obtain ⟨ht, hf⟩ := h
    refine V_if_eq 102 d_Ba_add_85 h14 (fun h15 => ?_) (fun h15 => ?_)
    · have h := ht h15
      exact h
    · have h := hf h15
      refine V_aload_n d_Ba_add_88 rfl ?_
      refine U_geta d_Ba_add_89 fl_Ba_17 (shB_0 hb) rfl ?_
      refine V_iload_n d_Ba_add_92 rfl ?_
      refine U_aald d_Ba_add_93 (shB_2 hb) (by decide) h13 (shB_O hb _ (am_tn h13)) ?_
      refine V_aload_n d_Ba_add_94 rfl ?_
      refine U_geta d_Ba_add_95 fl_Ba_20 (shB_0 hb) rfl ?_
      refine V_iload_n d_Ba_add_98 rfl ?_
      refine U_is3 cv_Ba_add_34 d_Ba_add_99  rfl (am_mono h ?_)
      rintro ro7 so7 σ7 ⟨rfl, rfl, h⟩
      exact h
theorem s_Ba_add_55 {x : am_Sc} {Po : Option am_AV → am_Sh → am_St → Prop} {σ : am_St} {b : Nat} {v2 : Int} (hb : b = 109 ∨ b = 121)
    (h : am_U x m_Ba_add Po σ 26 [some (Zr b), none, some (Zi (v2 + 1)), none] []) : am_U x m_Ba_add Po σ 55 [some (Zr b), none, some (Zi v2), none] [] := by
  refine V_iinc d_Ba_add_55 rfl rfl ?_
  refine V_goto 26 d_Ba_add_58 ?_
  exact h
theorem s_Ba_add_102 {x : am_Sc} {Po : Option am_AV → am_Sh → am_St → Prop} {σ : am_St} {b : Nat} {v2 v3 : Int} (hb : b = 109 ∨ b = 121)
    (h : am_U x m_Ba_add Po σ 73 [some (Zr b), none, some (Zi v2), some (Zi (v3 + 1))] []) : am_U x m_Ba_add Po σ 102 [some (Zr b), none, some (Zi v2), some (Zi v3)] [] := by
  refine V_iinc d_Ba_add_102 rfl rfl ?_
  refine V_goto 73 d_Ba_add_105 ?_
  exact h
theorem s_Ba_clearColumn_0 {x : am_Sc} {Po : Option am_AV → am_Sh → am_St → Prop} {σ : am_St} {r0 r1 : Nat} {v2 : Int} (hr0 : am_SH[r0]? = some (13, 8, [])) (hr1 : am_SH[r1]? = some (13, 8, []))
    (h : (0 ≤ v2 ∧ v2 < 8) ∧ am_rl (σ.2 r0 v2.toNat) ∧ am_r (am_cmp (σ.2 r0 v2.toNat) 0) ∧ ((¬ (am_cmp (σ.2 r0 v2.toNat) 0) = 0 → am_U x m_Ba_clearColumn Po σ 19 [some (Zr r0), some (Zr r1), none, some (Zl (σ.2 r0 v2.toNat)), none, some (Zl (σ.2 r1 v2.toNat)), none, some (Zi 0)] []) ∧ ((am_cmp (σ.2 r0 v2.toNat) 0) = 0 → Po none am_SH σ))) : am_U x m_Ba_clearColumn Po σ 0 [some (Zr r0), some (Zr r1), some (Zi v2), none, none, none, none, none] [] := by
  refine V_aload_n d_Ba_clearColumn_0 rfl ?_
  refine V_iload_n d_Ba_clearColumn_1 rfl ?_
  obtain ⟨h1, h⟩ := h
  refine U_lald d_Ba_clearColumn_2 hr0 h1 ?_
  refine V_lstore_n d_Ba_clearColumn_3 rfl ?_
  refine V_aload_n d_Ba_clearColumn_4 rfl ?_
  refine V_iload_n d_Ba_clearColumn_5 rfl ?_
  refine U_lald d_Ba_clearColumn_6 hr1 h1 ?_
  refine V_lstore d_Ba_clearColumn_7 rfl ?_
  refine V_lload_n d_Ba_clearColumn_9 rfl ?_
  refine V_lconst 0 d_Ba_clearColumn_10 ?_
  obtain ⟨h2, h⟩ := h
  refine V_lcmp d_Ba_clearColumn_11 h2 (by decide) ?_
  obtain ⟨h3, h⟩ := h
  obtain ⟨ht, hf⟩ := h
  refine V_if_ne 16 d_Ba_clearColumn_12 h3 (fun h4 => ?_) (fun h4 => ?_)
  · have h := ht h4
    refine V_iconst d_Ba_clearColumn_16 ?_
    refine V_istore d_Ba_clearColumn_17 rfl ?_
    refine V_drop 2 ?_
    exact h
  · have h := hf h4
    exact V_ret d_Ba_clearColumn_15 rfl rfl h
theorem s_Ba_clearColumn_19 {x : am_Sc} {Po : Option am_AV → am_Sh → am_St → Prop} {σ : am_St} {r0 r1 : Nat} {v3 v5 v7 : Int} (hr0 : am_SH[r0]? = some (13, 8, [])) (hr1 : am_SH[r1]? = some (13, 8, []))
    (h : am_r v7 ∧ ((8 ≤ v7 → Po none am_SH σ) ∧ (¬ 8 ≤ v7 → (0 ≤ v7 ∧ v7 < 8) ∧ am_U x m_Ma_floorMod (fun ro1 so1 σ1 => ∃ z1 : Int, ro1 = some (Zl z1) ∧ so1 = am_SH ∧ (∀ σ2 : am_St, σ2 = (σ1.1, am_up σ1.2 r0 v7.toNat z1) → am_U x m_Ba_clearColumn Po σ2 19 [some (Zr r0), some (Zr r1), none, some (Zl v3), none, some (Zl v5), none, some (Zi (v7 + 1))] [])) σ 0 [some (Zl ((am_remL ((σ.2 r0 v7.toNat) * v5) 2147483647) - (am_remL ((σ.2 r1 v7.toNat) * v3) 2147483647))), none, some (Zl 2147483647), none, none, none] []))) : am_U x m_Ba_clearColumn Po σ 19 [some (Zr r0), some (Zr r1), none, some (Zl v3), none, some (Zl v5), none, some (Zi v7)] [] := by
  refine V_iload d_Ba_clearColumn_19 rfl ?_
  refine V_bipush d_Ba_clearColumn_21 ?_
  obtain ⟨h5, h⟩ := h
  obtain ⟨ht, hf⟩ := h
  refine V_icmp_ge 64 d_Ba_clearColumn_23 h5 (by decide) (fun h7 => ?_) (fun h7 => ?_)
  · have h := ht h7
    exact V_ret d_Ba_clearColumn_64 rfl rfl h
  · have h := hf h7
    refine V_aload_n d_Ba_clearColumn_26 rfl ?_
    refine V_iload d_Ba_clearColumn_27 rfl ?_
    refine V_aload_n d_Ba_clearColumn_29 rfl ?_
    refine V_iload d_Ba_clearColumn_30 rfl ?_
    obtain ⟨h6, h⟩ := h
    refine U_lald d_Ba_clearColumn_32 hr0 h6 ?_
    refine V_lload d_Ba_clearColumn_33 rfl ?_
    refine V_lmul d_Ba_clearColumn_35 ?_
    refine V_ldc2 2147483647 d_Ba_clearColumn_36 kc_Ba_42 ?_
    refine V_lrem d_Ba_clearColumn_39 (by decide) (by decide) ?_
    refine V_aload_n d_Ba_clearColumn_40 rfl ?_
    refine V_iload d_Ba_clearColumn_41 rfl ?_
    refine U_lald d_Ba_clearColumn_43 hr1 h6 ?_
    refine V_lload_n d_Ba_clearColumn_44 rfl ?_
    refine V_lmul d_Ba_clearColumn_45 ?_
    refine V_ldc2 2147483647 d_Ba_clearColumn_46 kc_Ba_42 ?_
    refine V_lrem d_Ba_clearColumn_49 (by decide) (by decide) ?_
    refine V_lsub d_Ba_clearColumn_50 ?_
    refine V_ldc2 2147483647 d_Ba_clearColumn_51 kc_Ba_42 ?_
    refine U_is2 cv_Ba_clearColumn_44 d_Ba_clearColumn_54  rfl (am_mono h ?_)
    rintro ro1 so1 σ1 ⟨z1, rfl, rfl, h⟩
    refine U_last d_Ba_clearColumn_57 hr0 h6 ?_
    have h := h _ rfl
    refine V_iinc d_Ba_clearColumn_58 rfl rfl ?_
    refine V_goto 19 d_Ba_clearColumn_61 ?_
    exact h
theorem s_Ba_firstColumn_0 {x : am_Sc} {Po : Option am_AV → am_Sh → am_St → Prop} {σ : am_St} {b : Nat} (hb : b = 109 ∨ b = 121)
    (h : am_U x m_Ba_firstColumn Po σ 2 [some (Zr b), some (Zi 0)] []) : am_U x m_Ba_firstColumn Po σ 0 [some (Zr b), none] [] := by
  refine V_iconst d_Ba_firstColumn_0 ?_
  refine V_istore_n d_Ba_firstColumn_1 rfl ?_
  exact h
theorem s_Ba_firstColumn_2 {x : am_Sc} {Po : Option am_AV → am_Sh → am_St → Prop} {σ : am_St} {b : Nat} {v1 : Int} (hb : b = 109 ∨ b = 121)
    (h : am_r v1 ∧ ((8 ≤ v1 → Po (some (Zi (-1))) am_SH σ) ∧ (¬ 8 ≤ v1 → (0 ≤ v1 ∧ v1 < 8) ∧ am_rl (σ.2 (b + 11) v1.toNat) ∧ am_r (am_cmp (σ.2 (b + 11) v1.toNat) 0) ∧ (((am_cmp (σ.2 (b + 11) v1.toNat) 0) = 0 → am_U x m_Ba_firstColumn Po σ 2 [some (Zr b), some (Zi (v1 + 1))] []) ∧ (¬ (am_cmp (σ.2 (b + 11) v1.toNat) 0) = 0 → Po (some (Zi v1)) am_SH σ))))) : am_U x m_Ba_firstColumn Po σ 2 [some (Zr b), some (Zi v1)] [] := by
  refine V_iload_n d_Ba_firstColumn_2 rfl ?_
  refine V_bipush d_Ba_firstColumn_3 ?_
  obtain ⟨h1, h⟩ := h
  obtain ⟨ht, hf⟩ := h
  refine V_icmp_ge 27 d_Ba_firstColumn_5 h1 (by decide) (fun h6 => ?_) (fun h6 => ?_)
  · have h := ht h6
    refine V_iconst d_Ba_firstColumn_27 ?_
    exact V_iret d_Ba_firstColumn_28 rfl rfl h
  · have h := hf h6
    refine V_aload_n d_Ba_firstColumn_8 rfl ?_
    refine U_geta d_Ba_firstColumn_9 fl_Ba_20 (shB_0 hb) rfl ?_
    refine V_iload_n d_Ba_firstColumn_12 rfl ?_
    obtain ⟨h2, h⟩ := h
    refine U_lald d_Ba_firstColumn_13 (shB_11 hb) h2 ?_
    refine V_lconst 0 d_Ba_firstColumn_14 ?_
    obtain ⟨h3, h⟩ := h
    refine V_lcmp d_Ba_firstColumn_15 h3 (by decide) ?_
    obtain ⟨h4, h⟩ := h
    obtain ⟨ht, hf⟩ := h
    refine V_if_eq 21 d_Ba_firstColumn_16 h4 (fun h5 => ?_) (fun h5 => ?_)
    · have h := ht h5
      refine V_iinc d_Ba_firstColumn_21 rfl rfl ?_
      refine V_goto 2 d_Ba_firstColumn_24 ?_
      exact h
    · have h := hf h5
      refine V_iload_n d_Ba_firstColumn_19 rfl ?_
      exact V_iret d_Ba_firstColumn_20 rfl rfl h
theorem s_Ba_isResolved_0 {x : am_Sc} {Po : Option am_AV → am_Sh → am_St → Prop} {σ : am_St} {b : Nat} {v1 : Int} (hb : b = 109 ∨ b = 121)
    (h : (0 ≤ v1 ∧ v1 < 8) ∧ am_r (σ.1 (b + 1) v1.toNat) ∧ ((¬ (σ.1 (b + 1) v1.toNat) = 0 → am_U x m_Ba_isResolved Po σ 13 [some (Zr b), some (Zi v1), some (Zi 0)] []) ∧ ((σ.1 (b + 1) v1.toNat) = 0 → Po (some (Zi 0)) am_SH σ))) : am_U x m_Ba_isResolved Po σ 0 [some (Zr b), some (Zi v1), none] [] := by
  refine V_aload_n d_Ba_isResolved_0 rfl ?_
  refine U_geta d_Ba_isResolved_1 fl_Ba_9 (shB_0 hb) rfl ?_
  refine V_iload_n d_Ba_isResolved_4 rfl ?_
  obtain ⟨h1, h⟩ := h
  refine U_zald d_Ba_isResolved_5 (shB_1 hb) h1 ?_
  obtain ⟨h2, h⟩ := h
  obtain ⟨ht, hf⟩ := h
  refine V_if_ne 11 d_Ba_isResolved_6 h2 (fun h3 => ?_) (fun h3 => ?_)
  · have h := ht h3
    refine V_iconst d_Ba_isResolved_11 ?_
    refine V_istore_n d_Ba_isResolved_12 rfl ?_
    exact h
  · have h := hf h3
    refine V_iconst d_Ba_isResolved_9 ?_
    exact V_zret d_Ba_isResolved_10 rfl rfl (Or.inl rfl) h
theorem s_Ba_isResolved_13 {x : am_Sc} {Po : Option am_AV → am_Sh → am_St → Prop} {σ : am_St} {b : Nat} {v1 v2 : Int} (hb : b = 109 ∨ b = 121)
    (h : am_r v2 ∧ ((8 ≤ v2 → Po (some (Zi 1)) am_SH σ) ∧ (¬ 8 ≤ v2 → am_r v1 ∧ ((v2 = v1 → am_U x m_Ba_isResolved Po σ 39 [some (Zr b), some (Zi v1), some (Zi v2)] []) ∧ (¬ v2 = v1 → (0 ≤ v1 ∧ v1 < 8) ∧ (0 ≤ v2 ∧ v2 < 8) ∧ am_rl (σ.2 (b + 3 + v1.toNat) v2.toNat) ∧ am_r (am_cmp (σ.2 (b + 3 + v1.toNat) v2.toNat) 0) ∧ (((am_cmp (σ.2 (b + 3 + v1.toNat) v2.toNat) 0) = 0 → am_U x m_Ba_isResolved Po σ 39 [some (Zr b), some (Zi v1), some (Zi v2)] []) ∧ (¬ (am_cmp (σ.2 (b + 3 + v1.toNat) v2.toNat) 0) = 0 → Po (some (Zi 0)) am_SH σ))))))) : am_U x m_Ba_isResolved Po σ 13 [some (Zr b), some (Zi v1), some (Zi v2)] [] := by
  refine V_iload_n d_Ba_isResolved_13 rfl ?_
  refine V_bipush d_Ba_isResolved_14 ?_
  obtain ⟨h4, h⟩ := h
  obtain ⟨ht, hf⟩ := h
  refine V_icmp_ge 45 d_Ba_isResolved_16 h4 (by decide) (fun h12 => ?_) (fun h12 => ?_)
  · have h := ht h12
    refine V_iconst d_Ba_isResolved_45 ?_
    exact V_zret d_Ba_isResolved_46 rfl rfl (Or.inr rfl) h
  · have h := hf h12
    refine V_iload_n d_Ba_isResolved_19 rfl ?_
    refine V_iload_n d_Ba_isResolved_20 rfl ?_
    obtain ⟨h5, h⟩ := h
    obtain ⟨ht, hf⟩ := h
    refine V_icmp_eq 39 d_Ba_isResolved_21 h4 h5 (fun h11 => ?_) (fun h11 => ?_)
    · have h := ht h11
      exact h
    · have h := hf h11
      refine V_aload_n d_Ba_isResolved_24 rfl ?_
      refine U_geta d_Ba_isResolved_25 fl_Ba_17 (shB_0 hb) rfl ?_
      refine V_iload_n d_Ba_isResolved_28 rfl ?_
      obtain ⟨h6, h⟩ := h
      refine U_aald d_Ba_isResolved_29 (shB_2 hb) (by decide) h6 (shB_O hb _ (am_tn h6)) ?_
      refine V_iload_n d_Ba_isResolved_30 rfl ?_
      obtain ⟨h7, h⟩ := h
      refine U_lald d_Ba_isResolved_31 (shB_R hb _ (am_tn h6)) h7 ?_
      refine V_lconst 0 d_Ba_isResolved_32 ?_
      obtain ⟨h8, h⟩ := h
      refine V_lcmp d_Ba_isResolved_33 h8 (by decide) ?_
      obtain ⟨h9, h⟩ := h
      obtain ⟨ht, hf⟩ := h
      refine V_if_eq 39 d_Ba_isResolved_34 h9 (fun h10 => ?_) (fun h10 => ?_)
      · have h := ht h10
        exact h
      · have h := hf h10
        refine V_iconst d_Ba_isResolved_37 ?_
        exact V_zret d_Ba_isResolved_38 rfl rfl (Or.inl rfl) h
theorem s_Ba_isResolved_39 {x : am_Sc} {Po : Option am_AV → am_Sh → am_St → Prop} {σ : am_St} {b : Nat} {v1 v2 : Int} (hb : b = 109 ∨ b = 121)
    (h : am_U x m_Ba_isResolved Po σ 13 [some (Zr b), some (Zi v1), some (Zi (v2 + 1))] []) : am_U x m_Ba_isResolved Po σ 39 [some (Zr b), some (Zi v1), some (Zi v2)] [] := by
  refine V_iinc d_Ba_isResolved_39 rfl rfl ?_
  refine V_goto 13 d_Ba_isResolved_42 ?_
  exact h
theorem s_Re_findBestEar_0 {x : am_Sc} {Po : Option am_AV → am_Sh → am_St → Prop} {σ : am_St}
    (h : (∀ σ1 : am_St, σ1 = (am_up σ.1 108 6 0, σ.2) → (∀ σ2 : am_St, σ2 = (am_up σ1.1 108 7 (-1), σ1.2) → am_U x m_Re_findBestEar Po σ2 12 [some (Zr 108), some (Zi 0), none] []))) : am_U x m_Re_findBestEar Po σ 0 [some (Zr 108), none, none] [] := by
  refine V_aload_n d_Re_findBestEar_0 rfl ?_
  refine V_iconst d_Re_findBestEar_1 ?_
  refine U_puti d_Re_findBestEar_2 fw_Re_53 sh_108 ?_
  have h := h _ rfl
  refine V_aload_n d_Re_findBestEar_5 rfl ?_
  refine V_iconst d_Re_findBestEar_6 ?_
  refine U_puti d_Re_findBestEar_7 fw_Re_56 sh_108 ?_
  have h := h _ rfl
  refine V_iconst d_Re_findBestEar_10 ?_
  refine V_istore_n d_Re_findBestEar_11 rfl ?_
  exact h
theorem s_Re_findBestEar_12 {x : am_Sc} {Po : Option am_AV → am_Sh → am_St → Prop} {σ : am_St} {v1 : Int}
    (h : am_r v1 ∧ am_r (σ.1 1 0) ∧ (((σ.1 1 0) ≤ v1 → Po none am_SH σ) ∧ (¬ (σ.1 1 0) ≤ v1 → am_U x m_Re_resolvedWith (fun ro3 so3 σ3 => ∃ z3 : Int, ro3 = some (Zi z3) ∧ so3 = am_SH ∧ am_r z3 ∧ am_r (σ3.1 108 7) ∧ ((z3 ≤ (σ3.1 108 7) → am_U x m_Re_findBestEar Po σ3 47 [some (Zr 108), some (Zi v1), none] []) ∧ (¬ z3 ≤ (σ3.1 108 7) → (∀ σ4 : am_St, σ4 = (am_up σ3.1 108 7 z3, σ3.2) → (∀ σ5 : am_St, σ5 = (am_up σ4.1 108 6 v1, σ4.2) → am_U x m_Re_findBestEar Po σ5 47 [some (Zr 108), some (Zi v1), none] []))))) σ 0 [some (Zr 108), some (Zi v1), none] []))) : am_U x m_Re_findBestEar Po σ 12 [some (Zr 108), some (Zi v1), none] [] := by
  refine V_iload_n d_Re_findBestEar_12 rfl ?_
  refine V_aload_n d_Re_findBestEar_13 rfl ?_
  refine U_geta d_Re_findBestEar_14 fl_Re_25 sh_108 rfl ?_
  refine U_geti d_Re_findBestEar_17 fl_Re_59 sh_1 ?_
  obtain ⟨h1, h⟩ := h
  obtain ⟨h2, h⟩ := h
  obtain ⟨ht, hf⟩ := h
  refine V_icmp_ge 53 d_Re_findBestEar_20 h1 h2 (fun h6 => ?_) (fun h6 => ?_)
  · have h := ht h6
    exact V_ret d_Re_findBestEar_53 rfl rfl h
  · have h := hf h6
    refine V_aload_n d_Re_findBestEar_23 rfl ?_
    refine V_iload_n d_Re_findBestEar_24 rfl ?_
    refine U_iv1 cv_Re_findBestEar_64 d_Re_findBestEar_25 sh_108 rfl rfl (am_mono h ?_)
    rintro ro3 so3 σ3 ⟨z3, rfl, rfl, h⟩
    refine V_istore_n d_Re_findBestEar_28 rfl ?_
    refine V_iload_n d_Re_findBestEar_29 rfl ?_
    refine V_aload_n d_Re_findBestEar_30 rfl ?_
    refine U_geti d_Re_findBestEar_31 fl_Re_56 sh_108 ?_
    obtain ⟨h3, h⟩ := h
    obtain ⟨h4, h⟩ := h
    obtain ⟨ht, hf⟩ := h
    refine V_icmp_le 47 d_Re_findBestEar_34 h3 h4 (fun h5 => ?_) (fun h5 => ?_)
    · have h := ht h5
      refine V_drop 2 ?_
      exact h
    · have h := hf h5
      refine V_aload_n d_Re_findBestEar_37 rfl ?_
      refine V_iload_n d_Re_findBestEar_38 rfl ?_
      refine U_puti d_Re_findBestEar_39 fw_Re_56 sh_108 ?_
      have h := h _ rfl
      refine V_aload_n d_Re_findBestEar_42 rfl ?_
      refine V_iload_n d_Re_findBestEar_43 rfl ?_
      refine U_puti d_Re_findBestEar_44 fw_Re_53 sh_108 ?_
      have h := h _ rfl
      refine V_drop 2 ?_
      exact h
theorem s_Re_findBestEar_47 {x : am_Sc} {Po : Option am_AV → am_Sh → am_St → Prop} {σ : am_St} {v1 : Int}
    (h : am_U x m_Re_findBestEar Po σ 12 [some (Zr 108), some (Zi (v1 + 1)), none] []) : am_U x m_Re_findBestEar Po σ 47 [some (Zr 108), some (Zi v1), none] [] := by
  refine V_iinc d_Re_findBestEar_47 rfl rfl ?_
  refine V_goto 12 d_Re_findBestEar_50 ?_
  exact h
theorem s_Re_resolvedWith_0 {x : am_Sc} {Po : Option am_AV → am_Sh → am_St → Prop} {σ : am_St} {v1 : Int}
    (h : am_U x m_Ba_copyFrom (fun ro1 so1 σ1 => ro1 = none ∧ so1 = am_SH ∧ am_U x m_Gr_spread (fun ro2 so2 σ2 => ro2 = none ∧ so2 = am_SH ∧ am_U x m_Re_resolvedWith Po σ2 22 [some (Zr 108), none, some (Zi 0)] []) σ1 0 [some (Zr 1), some (Zi v1), some (Zi 0), none, none, none, none] []) σ 0 [some (Zr 121), some (Zr 109), none] []) : am_U x m_Re_resolvedWith Po σ 0 [some (Zr 108), some (Zi v1), none] [] := by
  refine V_aload_n d_Re_resolvedWith_0 rfl ?_
  refine U_geta d_Re_resolvedWith_1 fl_Re_18 sh_108 rfl ?_
  refine V_aload_n d_Re_resolvedWith_4 rfl ?_
  refine U_geta d_Re_resolvedWith_5 fl_Re_12 sh_108 rfl ?_
  refine U_iv1 cv_Re_resolvedWith_68 d_Re_resolvedWith_8 sh_121 rfl rfl (am_mono h ?_)
  rintro ro1 so1 σ1 ⟨rfl, rfl, h⟩
  refine V_aload_n d_Re_resolvedWith_11 rfl ?_
  refine U_geta d_Re_resolvedWith_12 fl_Re_25 sh_108 rfl ?_
  refine V_iload_n d_Re_resolvedWith_15 rfl ?_
  refine V_iconst d_Re_resolvedWith_16 ?_
  refine U_iv2 cv_Re_resolvedWith_72 d_Re_resolvedWith_17 sh_1 rfl rfl (am_mono h ?_)
  rintro ro2 so2 σ2 ⟨rfl, rfl, h⟩
  refine V_iconst d_Re_resolvedWith_20 ?_
  refine V_istore_n d_Re_resolvedWith_21 rfl ?_
  refine V_drop 1 ?_
  exact h
theorem s_Re_resolvedWith_22 {x : am_Sc} {Po : Option am_AV → am_Sh → am_St → Prop} {σ : am_St} {v2 : Int}
    (h : am_r v2 ∧ am_r (σ.1 8 3) ∧ (((σ.1 8 3) ≤ v2 → am_U x m_Ba_countResolved (fun ro3 so3 σ3 => ∃ z3 : Int, ro3 = some (Zi z3) ∧ so3 = am_SH ∧ Po (some (Zi z3)) am_SH σ3) σ 0 [some (Zr 121), none, none] []) ∧ (¬ (σ.1 8 3) ≤ v2 → (0 ≤ v2 ∧ v2 < 5) ∧ am_U x m_Gr_trace (fun ro4 so4 σ4 => ro4 = none ∧ so4 = am_SH ∧ am_U x m_Gr_countRays (fun ro5 so5 σ5 => ro5 = none ∧ so5 = am_SH ∧ am_U x m_Ba_add (fun ro6 so6 σ6 => ro6 = none ∧ so6 = am_SH ∧ am_U x m_Re_resolvedWith Po σ6 22 [some (Zr 108), none, some (Zi (v2 + 1))] []) σ5 0 [some (Zr 121), some (Zr 133), none, none] []) σ4 0 [some (Zr 1), some (Zr 133), none] []) σ 0 [some (Zr 1), some (Zi (σ.1 11 v2.toNat)), none] []))) : am_U x m_Re_resolvedWith Po σ 22 [some (Zr 108), none, some (Zi v2)] [] := by
  refine V_iload_n d_Re_resolvedWith_22 rfl ?_
  refine V_aload_n d_Re_resolvedWith_23 rfl ?_
  refine U_geta d_Re_resolvedWith_24 fl_Re_29 sh_108 rfl ?_
  refine U_geti d_Re_resolvedWith_27 fl_Re_76 sh_8 ?_
  obtain ⟨h1, h⟩ := h
  obtain ⟨h2, h⟩ := h
  obtain ⟨ht, hf⟩ := h
  refine V_icmp_ge 77 d_Re_resolvedWith_30 h1 h2 (fun h4 => ?_) (fun h4 => ?_)
  · have h := ht h4
    refine V_aload_n d_Re_resolvedWith_77 rfl ?_
    refine U_geta d_Re_resolvedWith_78 fl_Re_18 sh_108 rfl ?_
    refine U_iv0 cv_Re_resolvedWith_91 d_Re_resolvedWith_81 sh_121 rfl rfl (am_mono h ?_)
    rintro ro3 so3 σ3 ⟨z3, rfl, rfl, h⟩
    exact V_iret d_Re_resolvedWith_84 rfl rfl h
  · have h := hf h4
    refine V_aload_n d_Re_resolvedWith_33 rfl ?_
    refine U_geta d_Re_resolvedWith_34 fl_Re_25 sh_108 rfl ?_
    refine V_aload_n d_Re_resolvedWith_37 rfl ?_
    refine U_geta d_Re_resolvedWith_38 fl_Re_29 sh_108 rfl ?_
    refine U_geta d_Re_resolvedWith_41 fl_Re_81 sh_8 rfl ?_
    refine V_iload_n d_Re_resolvedWith_44 rfl ?_
    obtain ⟨h3, h⟩ := h
    refine U_iald d_Re_resolvedWith_45 sh_11 h3 ?_
    refine U_iv1 cv_Re_resolvedWith_84 d_Re_resolvedWith_46 sh_1 rfl rfl (am_mono h ?_)
    rintro ro4 so4 σ4 ⟨rfl, rfl, h⟩
    refine V_aload_n d_Re_resolvedWith_49 rfl ?_
    refine U_geta d_Re_resolvedWith_50 fl_Re_25 sh_108 rfl ?_
    refine V_aload_n d_Re_resolvedWith_53 rfl ?_
    refine U_geta d_Re_resolvedWith_54 fl_Re_21 sh_108 rfl ?_
    refine U_iv1 cv_Re_resolvedWith_88 d_Re_resolvedWith_57 sh_1 rfl rfl (am_mono h ?_)
    rintro ro5 so5 σ5 ⟨rfl, rfl, h⟩
    refine V_aload_n d_Re_resolvedWith_60 rfl ?_
    refine U_geta d_Re_resolvedWith_61 fl_Re_18 sh_108 rfl ?_
    refine V_aload_n d_Re_resolvedWith_64 rfl ?_
    refine U_geta d_Re_resolvedWith_65 fl_Re_21 sh_108 rfl ?_
    refine U_iv1 cv_Re_resolvedWith_49 d_Re_resolvedWith_68 sh_121 rfl rfl (am_mono h ?_)
    rintro ro6 so6 σ6 ⟨rfl, rfl, h⟩
    refine V_iinc d_Re_resolvedWith_71 rfl rfl ?_
    refine V_goto 22 d_Re_resolvedWith_74 ?_
    exact h
theorem s_Ba_copyFrom_0 {x : am_Sc} {Po : Option am_AV → am_Sh → am_St → Prop} {σ : am_St} {b b2 : Nat} (hb : b = 109 ∨ b = 121) (hb2 : b2 = 109 ∨ b2 = 121)
    (h : (∀ σ1 : am_St, σ1 = (am_up σ.1 b 0 (σ.1 b2 0), σ.2) → am_U x m_Ba_copyFrom Po σ1 10 [some (Zr b), some (Zr b2), some (Zi 0)] [])) : am_U x m_Ba_copyFrom Po σ 0 [some (Zr b), some (Zr b2), none] [] := by
  refine V_aload_n d_Ba_copyFrom_0 rfl ?_
  refine V_aload_n d_Ba_copyFrom_1 rfl ?_
  refine U_geti d_Ba_copyFrom_2 fl_Ba_24 (shB_0 hb2) ?_
  refine U_puti d_Ba_copyFrom_5 fw_Ba_24 (shB_0 hb) ?_
  have h := h _ rfl
  refine V_iconst d_Ba_copyFrom_8 ?_
  refine V_istore_n d_Ba_copyFrom_9 rfl ?_
  exact h
theorem s_Ba_copyFrom_10 {x : am_Sc} {Po : Option am_AV → am_Sh → am_St → Prop} {σ : am_St} {b b2 : Nat} {v2 : Int} (hb : b = 109 ∨ b = 121) (hb2 : b2 = 109 ∨ b2 = 121)
    (h : am_r v2 ∧ ((8 ≤ v2 → Po none am_SH σ) ∧ (¬ 8 ≤ v2 → (0 ≤ v2 ∧ v2 < 8) ∧ (σ.1 (b2 + 1) v2.toNat = 0 ∨ σ.1 (b2 + 1) v2.toNat = 1) ∧ (∀ σ2 : am_St, σ2 = (am_up σ.1 (b + 1) v2.toNat (σ.1 (b2 + 1) v2.toNat), σ.2) → (∀ σ3 : am_St, σ3 = (σ2.1, am_cp σ2.2 (b2 + 3 + v2.toNat) (b + 3 + v2.toNat) 8) → am_U x m_Ba_copyFrom Po σ3 10 [some (Zr b), some (Zr b2), some (Zi (v2 + 1))] []))))) : am_U x m_Ba_copyFrom Po σ 10 [some (Zr b), some (Zr b2), some (Zi v2)] [] := by
  refine V_iload_n d_Ba_copyFrom_10 rfl ?_
  refine V_bipush d_Ba_copyFrom_11 ?_
  obtain ⟨h1, h⟩ := h
  obtain ⟨ht, hf⟩ := h
  refine V_icmp_ge 53 d_Ba_copyFrom_13 h1 (by decide) (fun h4 => ?_) (fun h4 => ?_)
  · have h := ht h4
    exact V_ret d_Ba_copyFrom_53 rfl rfl h
  · have h := hf h4
    refine V_aload_n d_Ba_copyFrom_16 rfl ?_
    refine U_geta d_Ba_copyFrom_17 fl_Ba_9 (shB_0 hb) rfl ?_
    refine V_iload_n d_Ba_copyFrom_20 rfl ?_
    refine V_aload_n d_Ba_copyFrom_21 rfl ?_
    refine U_geta d_Ba_copyFrom_22 fl_Ba_9 (shB_0 hb2) rfl ?_
    refine V_iload_n d_Ba_copyFrom_25 rfl ?_
    obtain ⟨h2, h⟩ := h
    refine U_zald d_Ba_copyFrom_26 (shB_1 hb2) h2 ?_
    obtain ⟨h3, h⟩ := h
    refine U_zast d_Ba_copyFrom_27 (shB_1 hb) h2 h3 ?_
    have h := h _ rfl
    refine V_aload_n d_Ba_copyFrom_28 rfl ?_
    refine U_geta d_Ba_copyFrom_29 fl_Ba_17 (shB_0 hb2) rfl ?_
    refine V_iload_n d_Ba_copyFrom_32 rfl ?_
    refine U_aald d_Ba_copyFrom_33 (shB_2 hb2) (by decide) h2 (shB_O hb2 _ (am_tn h2)) ?_
    refine V_iconst d_Ba_copyFrom_34 ?_
    refine V_aload_n d_Ba_copyFrom_35 rfl ?_
    refine U_geta d_Ba_copyFrom_36 fl_Ba_17 (shB_0 hb) rfl ?_
    refine V_iload_n d_Ba_copyFrom_39 rfl ?_
    refine U_aald d_Ba_copyFrom_40 (shB_2 hb) (by decide) h2 (shB_O hb _ (am_tn h2)) ?_
    refine V_iconst d_Ba_copyFrom_41 ?_
    refine V_bipush d_Ba_copyFrom_42 ?_
    refine U_cpyL 8 d_Ba_copyFrom_44 cy_Ba_copyFrom_28 (shB_R hb2 _ (am_tn h2)) (shB_R hb _ (am_tn h2)) rfl rfl rfl ?_
    have h := h _ rfl
    refine V_iinc d_Ba_copyFrom_47 rfl rfl ?_
    refine V_goto 10 d_Ba_copyFrom_50 ?_
    exact h
theorem s_Ba_countResolved_0 {x : am_Sc} {Po : Option am_AV → am_Sh → am_St → Prop} {σ : am_St} {b : Nat} (hb : b = 109 ∨ b = 121)
    (h : am_U x m_Ba_countResolved Po σ 4 [some (Zr b), some (Zi 0), some (Zi 0)] []) : am_U x m_Ba_countResolved Po σ 0 [some (Zr b), none, none] [] := by
  refine V_iconst d_Ba_countResolved_0 ?_
  refine V_istore_n d_Ba_countResolved_1 rfl ?_
  refine V_iconst d_Ba_countResolved_2 ?_
  refine V_istore_n d_Ba_countResolved_3 rfl ?_
  exact h
theorem s_Ba_countResolved_4 {x : am_Sc} {Po : Option am_AV → am_Sh → am_St → Prop} {σ : am_St} {b : Nat} {v1 v2 : Int} (hb : b = 109 ∨ b = 121)
    (h : am_r v2 ∧ ((8 ≤ v2 → Po (some (Zi v1)) am_SH σ) ∧ (¬ 8 ≤ v2 → am_U x m_Ba_isResolved (fun ro1 so1 σ1 => ∃ z1 : Int, ro1 = some (Zi z1) ∧ so1 = am_SH ∧ am_r z1 ∧ ((z1 = 0 → am_U x m_Ba_countResolved Po σ1 24 [some (Zr b), none, some (Zi v2)] [Zi 0, Zi v1]) ∧ (¬ z1 = 0 → am_U x m_Ba_countResolved Po σ1 24 [some (Zr b), none, some (Zi v2)] [Zi 1, Zi v1]))) σ 0 [some (Zr b), some (Zi v2), none] []))) : am_U x m_Ba_countResolved Po σ 4 [some (Zr b), some (Zi v1), some (Zi v2)] [] := by
  refine V_iload_n d_Ba_countResolved_4 rfl ?_
  refine V_bipush d_Ba_countResolved_5 ?_
  obtain ⟨h1, h⟩ := h
  obtain ⟨ht, hf⟩ := h
  refine V_icmp_ge 32 d_Ba_countResolved_7 h1 (by decide) (fun h4 => ?_) (fun h4 => ?_)
  · have h := ht h4
    refine V_iload_n d_Ba_countResolved_32 rfl ?_
    exact V_iret d_Ba_countResolved_33 rfl rfl h
  · have h := hf h4
    refine V_iload_n d_Ba_countResolved_10 rfl ?_
    refine V_aload_n d_Ba_countResolved_11 rfl ?_
    refine V_iload_n d_Ba_countResolved_12 rfl ?_
    refine U_iv1 cv_Ba_countResolved_50 d_Ba_countResolved_13 (shB_0 hb) rfl rfl (am_mono h ?_)
    rintro ro1 so1 σ1 ⟨z1, rfl, rfl, h⟩
    obtain ⟨h2, h⟩ := h
    obtain ⟨ht, hf⟩ := h
    refine V_if_eq 23 d_Ba_countResolved_16 h2 (fun h3 => ?_) (fun h3 => ?_)
    · have h := ht h3
      refine V_iconst d_Ba_countResolved_23 ?_
      refine V_drop 1 ?_
      exact h
    · have h := hf h3
      refine V_iconst d_Ba_countResolved_19 ?_
      refine V_goto 24 d_Ba_countResolved_20 ?_
      refine V_drop 1 ?_
      exact h
theorem s_Ba_countResolved_24 {x : am_Sc} {Po : Option am_AV → am_Sh → am_St → Prop} {σ : am_St} {b : Nat} {v2 vk0 vk1 : Int} (hb : b = 109 ∨ b = 121)
    (h : am_U x m_Ba_countResolved Po σ 4 [some (Zr b), some (Zi (vk0 + vk1)), some (Zi (v2 + 1))] []) : am_U x m_Ba_countResolved Po σ 24 [some (Zr b), none, some (Zi v2)] [Zi vk1, Zi vk0] := by
  refine V_iadd d_Ba_countResolved_24 ?_
  refine V_istore_n d_Ba_countResolved_25 rfl ?_
  refine V_iinc d_Ba_countResolved_26 rfl rfl ?_
  refine V_goto 4 d_Ba_countResolved_29 ?_
  exact h
theorem s_Fi_heapUp_0 {x : am_Sc} {Po : Option am_AV → am_Sh → am_St → Prop} {σ : am_St} {v1 v2 : Int}
    (h : am_U x m_Fi_gatherBegun (fun ro1 so1 σ1 => ro1 = none ∧ so1 = am_SH ∧ (∀ σ2 : am_St, σ2 = (am_up σ1.1 134 6 0, σ1.2) → am_U x m_Fi_countFitting (fun ro3 so3 σ3 => ∃ z3 : Int, ro3 = some (Zi z3) ∧ so3 = am_SH ∧ (∀ σ4 : am_St, σ4 = (am_up σ3.1 134 5 z3, σ3.2) → am_U x m_Fi_heapUp Po σ4 22 [some (Zr 134), none, none, some (Zi 0), none, none] [])) σ2 0 [some (Zr 134), some (Zi 0), none, none] [])) σ 0 [some (Zr 134), some (Zi v1), some (Zi v2), none, none] []) : am_U x m_Fi_heapUp Po σ 0 [some (Zr 134), some (Zi v1), some (Zi v2), none, none, none] [] := by
  refine V_aload_n d_Fi_heapUp_0 rfl ?_
  refine V_iload_n d_Fi_heapUp_1 rfl ?_
  refine V_iload_n d_Fi_heapUp_2 rfl ?_
  refine U_iv2 cv_Fi_heapUp_26 d_Fi_heapUp_3 sh_134 rfl rfl (am_mono h ?_)
  rintro ro1 so1 σ1 ⟨rfl, rfl, h⟩
  refine V_aload_n d_Fi_heapUp_6 rfl ?_
  refine V_iconst d_Fi_heapUp_7 ?_
  refine U_puti d_Fi_heapUp_8 fw_Fi_30 sh_134 ?_
  have h := h _ rfl
  refine V_aload_n d_Fi_heapUp_11 rfl ?_
  refine V_aload_n d_Fi_heapUp_12 rfl ?_
  refine V_iconst d_Fi_heapUp_13 ?_
  refine U_iv1 cv_Fi_heapUp_34 d_Fi_heapUp_14 sh_134 rfl rfl (am_mono h ?_)
  rintro ro3 so3 σ3 ⟨z3, rfl, rfl, h⟩
  refine U_puti d_Fi_heapUp_17 fw_Fi_38 sh_134 ?_
  have h := h _ rfl
  refine V_iconst d_Fi_heapUp_20 ?_
  refine V_istore_n d_Fi_heapUp_21 rfl ?_
  refine V_drop 1 ?_
  refine V_drop 2 ?_
  exact h
theorem s_Fi_heapUp_22 {x : am_Sc} {Po : Option am_AV → am_Sh → am_St → Prop} {σ : am_St} {v3 : Int}
    (h : am_r v3 ∧ am_r (σ.1 134 4) ∧ (((σ.1 134 4) ≤ v3 → Po none am_SH σ) ∧ (¬ (σ.1 134 4) ≤ v3 → (0 ≤ v3 ∧ v3 < 12) ∧ am_r (σ.1 135 v3.toNat) ∧ (((σ.1 135 v3.toNat) ≤ 0 → am_U x m_Fi_heapUp Po σ 98 [some (Zr 134), none, none, some (Zi v3), none, none] []) ∧ (¬ (σ.1 135 v3.toNat) ≤ 0 → ((1000 < (σ.1 135 v3.toNat) → am_U x m_Fi_heapUp Po σ 98 [some (Zr 134), none, none, some (Zi v3), none, none] []) ∧ (¬ 1000 < (σ.1 135 v3.toNat) → am_U x m_Fi_countFitting (fun ro5 so5 σ5 => ∃ z5 : Int, ro5 = some (Zi z5) ∧ so5 = am_SH ∧ am_r z5 ∧ am_r (σ5.1 134 5) ∧ (((σ5.1 134 5) < z5 → am_U x m_Fi_heapUp Po σ5 86 [some (Zr 134), none, none, some (Zi v3), some (Zi (σ.1 135 v3.toNat)), some (Zi z5)] []) ∧ (¬ (σ5.1 134 5) < z5 → ((¬ z5 = (σ5.1 134 5) → am_U x m_Fi_heapUp Po σ5 98 [some (Zr 134), none, none, some (Zi v3), none, none] []) ∧ (z5 = (σ5.1 134 5) → am_r (σ5.1 134 6) ∧ (((σ5.1 134 6) ≤ (σ.1 135 v3.toNat) → am_U x m_Fi_heapUp Po σ5 98 [some (Zr 134), none, none, some (Zi v3), none, none] []) ∧ (¬ (σ5.1 134 6) ≤ (σ.1 135 v3.toNat) → am_U x m_Fi_heapUp Po σ5 86 [some (Zr 134), none, none, some (Zi v3), some (Zi (σ.1 135 v3.toNat)), some (Zi z5)] []))))))) σ 0 [some (Zr 134), some (Zi (σ.1 135 v3.toNat)), none, none] []))))))) : am_U x m_Fi_heapUp Po σ 22 [some (Zr 134), none, none, some (Zi v3), none, none] [] := by
  refine V_iload_n d_Fi_heapUp_22 rfl ?_
  refine V_aload_n d_Fi_heapUp_23 rfl ?_
  refine U_geti d_Fi_heapUp_24 fl_Fi_41 sh_134 ?_
  obtain ⟨h1, h⟩ := h
  obtain ⟨h2, h⟩ := h
  obtain ⟨ht, hf⟩ := h
  refine V_icmp_ge 104 d_Fi_heapUp_27 h1 h2 (fun h13 => ?_) (fun h13 => ?_)
  · have h := ht h13
    exact V_ret d_Fi_heapUp_104 rfl rfl h
  · have h := hf h13
    refine V_aload_n d_Fi_heapUp_30 rfl ?_
    refine U_geta d_Fi_heapUp_31 fl_Fi_9 sh_134 rfl ?_
    refine V_iload_n d_Fi_heapUp_34 rfl ?_
    obtain ⟨h3, h⟩ := h
    refine U_iald d_Fi_heapUp_35 sh_135 h3 ?_
    refine V_istore d_Fi_heapUp_36 rfl ?_
    refine V_iload d_Fi_heapUp_38 rfl ?_
    obtain ⟨h4, h⟩ := h
    obtain ⟨ht, hf⟩ := h
    refine V_if_le 98 d_Fi_heapUp_40 h4 (fun h12 => ?_) (fun h12 => ?_)
    · have h := ht h12
      refine V_drop 4 ?_
      exact h
    · have h := hf h12
      refine V_iload d_Fi_heapUp_43 rfl ?_
      refine V_sipush d_Fi_heapUp_45 ?_
      obtain ⟨ht, hf⟩ := h
      refine V_icmp_gt 98 d_Fi_heapUp_48 h4 (by decide) (fun h11 => ?_) (fun h11 => ?_)
      · have h := ht h11
        refine V_drop 4 ?_
        exact h
      · have h := hf h11
        refine V_aload_n d_Fi_heapUp_51 rfl ?_
        refine V_iload d_Fi_heapUp_52 rfl ?_
        refine U_iv1 cv_Fi_heapUp_34 d_Fi_heapUp_54 sh_134 rfl rfl (am_mono h ?_)
        rintro ro5 so5 σ5 ⟨z5, rfl, rfl, h⟩
        refine V_istore d_Fi_heapUp_57 rfl ?_
        refine V_iload d_Fi_heapUp_59 rfl ?_
        refine V_aload_n d_Fi_heapUp_61 rfl ?_
        refine U_geti d_Fi_heapUp_62 fl_Fi_38 sh_134 ?_
        obtain ⟨h5, h⟩ := h
        obtain ⟨h6, h⟩ := h
        obtain ⟨ht, hf⟩ := h
        refine V_icmp_gt 86 d_Fi_heapUp_65 h5 h6 (fun h10 => ?_) (fun h10 => ?_)
        · have h := ht h10
          exact h
        · have h := hf h10
          refine V_iload d_Fi_heapUp_68 rfl ?_
          refine V_aload_n d_Fi_heapUp_70 rfl ?_
          refine U_geti d_Fi_heapUp_71 fl_Fi_38 sh_134 ?_
          obtain ⟨ht, hf⟩ := h
          refine V_icmp_ne 98 d_Fi_heapUp_74 h5 h6 (fun h9 => ?_) (fun h9 => ?_)
          · have h := ht h9
            refine V_drop 4 ?_
            refine V_drop 5 ?_
            exact h
          · have h := hf h9
            refine V_iload d_Fi_heapUp_77 rfl ?_
            refine V_aload_n d_Fi_heapUp_79 rfl ?_
            refine U_geti d_Fi_heapUp_80 fl_Fi_30 sh_134 ?_
            obtain ⟨h7, h⟩ := h
            obtain ⟨ht, hf⟩ := h
            refine V_icmp_ge 98 d_Fi_heapUp_83 h4 h7 (fun h8 => ?_) (fun h8 => ?_)
            · have h := ht h8
              refine V_drop 4 ?_
              refine V_drop 5 ?_
              exact h
            · have h := hf h8
              exact h
theorem s_Fi_heapUp_98 {x : am_Sc} {Po : Option am_AV → am_Sh → am_St → Prop} {σ : am_St} {v3 : Int}
    (h : am_U x m_Fi_heapUp Po σ 22 [some (Zr 134), none, none, some (Zi (v3 + 1)), none, none] []) : am_U x m_Fi_heapUp Po σ 98 [some (Zr 134), none, none, some (Zi v3), none, none] [] := by
  refine V_iinc d_Fi_heapUp_98 rfl rfl ?_
  refine V_goto 22 d_Fi_heapUp_101 ?_
  exact h
theorem s_Fi_heapUp_86 {x : am_Sc} {Po : Option am_AV → am_Sh → am_St → Prop} {σ : am_St} {v3 v4 v5 : Int}
    (h : (∀ σ6 : am_St, σ6 = (am_up σ.1 134 5 v5, σ.2) → (∀ σ7 : am_St, σ7 = (am_up σ6.1 134 6 v4, σ6.2) → am_U x m_Fi_heapUp Po σ7 98 [some (Zr 134), none, none, some (Zi v3), none, none] []))) : am_U x m_Fi_heapUp Po σ 86 [some (Zr 134), none, none, some (Zi v3), some (Zi v4), some (Zi v5)] [] := by
  refine V_aload_n d_Fi_heapUp_86 rfl ?_
  refine V_iload d_Fi_heapUp_87 rfl ?_
  refine U_puti d_Fi_heapUp_89 fw_Fi_38 sh_134 ?_
  have h := h _ rfl
  refine V_aload_n d_Fi_heapUp_92 rfl ?_
  refine V_iload d_Fi_heapUp_93 rfl ?_
  refine U_puti d_Fi_heapUp_95 fw_Fi_30 sh_134 ?_
  have h := h _ rfl
  refine V_drop 4 ?_
  refine V_drop 5 ?_
  exact h
theorem s_Fi_gatherBegun_0 {x : am_Sc} {Po : Option am_AV → am_Sh → am_St → Prop} {σ : am_St} {v1 v2 : Int}
    (h : (∀ σ1 : am_St, σ1 = (am_up σ.1 134 4 0, σ.2) → am_U x m_Fi_gatherBegun Po σ1 7 [some (Zr 134), some (Zi v1), some (Zi v2), some (Zi 0), none] [])) : am_U x m_Fi_gatherBegun Po σ 0 [some (Zr 134), some (Zi v1), some (Zi v2), none, none] [] := by
  refine V_aload_n d_Fi_gatherBegun_0 rfl ?_
  refine V_iconst d_Fi_gatherBegun_1 ?_
  refine U_puti d_Fi_gatherBegun_2 fw_Fi_41 sh_134 ?_
  have h := h _ rfl
  refine V_iconst d_Fi_gatherBegun_5 ?_
  refine V_istore_n d_Fi_gatherBegun_6 rfl ?_
  exact h
theorem s_Fi_gatherBegun_7 {x : am_Sc} {Po : Option am_AV → am_Sh → am_St → Prop} {σ : am_St} {v1 v2 v3 : Int}
    (h : am_r v3 ∧ ((2 ≤ v3 → Po none am_SH σ) ∧ (¬ 2 ≤ v3 → am_U x m_Gr_spread (fun ro2 so2 σ2 => ro2 = none ∧ so2 = am_SH ∧ am_U x m_Fi_gatherBegun Po σ2 24 [some (Zr 134), some (Zi v1), some (Zi v2), some (Zi v3), some (Zi 0)] []) σ 0 [some (Zr 1), some (Zi v2), some (Zi v3), none, none, none, none] []))) : am_U x m_Fi_gatherBegun Po σ 7 [some (Zr 134), some (Zi v1), some (Zi v2), some (Zi v3), none] [] := by
  refine V_iload_n d_Fi_gatherBegun_7 rfl ?_
  refine V_iconst d_Fi_gatherBegun_8 ?_
  obtain ⟨h1, h⟩ := h
  obtain ⟨ht, hf⟩ := h
  refine V_icmp_ge 109 d_Fi_gatherBegun_9 h1 (by decide) (fun h2 => ?_) (fun h2 => ?_)
  · have h := ht h2
    exact V_ret d_Fi_gatherBegun_109 rfl rfl h
  · have h := hf h2
    refine V_aload_n d_Fi_gatherBegun_12 rfl ?_
    refine U_geta d_Fi_gatherBegun_13 fl_Fi_18 sh_134 rfl ?_
    refine V_iload_n d_Fi_gatherBegun_16 rfl ?_
    refine V_iload_n d_Fi_gatherBegun_17 rfl ?_
    refine U_iv2 cv_Fi_gatherBegun_44 d_Fi_gatherBegun_18 sh_1 rfl rfl (am_mono h ?_)
    rintro ro2 so2 σ2 ⟨rfl, rfl, h⟩
    refine V_iconst d_Fi_gatherBegun_21 ?_
    refine V_istore d_Fi_gatherBegun_22 rfl ?_
    exact h
theorem s_Fi_gatherBegun_24 {x : am_Sc} {Po : Option am_AV → am_Sh → am_St → Prop} {σ : am_St} {v1 v2 v3 v4 : Int}
    (h : am_r v4 ∧ am_r (σ.1 8 6) ∧ (((σ.1 8 6) ≤ v4 → am_U x m_Fi_gatherBegun Po σ 7 [some (Zr 134), some (Zi v1), some (Zi v2), some (Zi (v3 + 1)), none] []) ∧ (¬ (σ.1 8 6) ≤ v4 → (0 ≤ v4 ∧ v4 < 12) ∧ am_r (σ.1 14 v4.toNat) ∧ am_r v1 ∧ ((¬ (σ.1 14 v4.toNat) = v1 → am_U x m_Fi_gatherBegun Po σ 97 [some (Zr 134), some (Zi v1), some (Zi v2), some (Zi v3), some (Zi v4)] []) ∧ ((σ.1 14 v4.toNat) = v1 → am_r (σ.1 15 v4.toNat) ∧ am_r v3 ∧ ((¬ (σ.1 15 v4.toNat) = v3 → am_U x m_Fi_gatherBegun Po σ 97 [some (Zr 134), some (Zi v1), some (Zi v2), some (Zi v3), some (Zi v4)] []) ∧ ((σ.1 15 v4.toNat) = v3 → am_U x m_Bo_cellOfEar (fun ro3 so3 σ3 => ∃ z3 : Int, ro3 = some (Zi z3) ∧ so3 = am_SH ∧ (0 ≤ z3 ∧ z3 < 16) ∧ am_U x m_Bo_clockOf (fun ro4 so4 σ4 => ∃ z4 : Int, ro4 = some (Zi z4) ∧ so4 = am_SH ∧ am_U x m_Fi_addSpan (fun ro5 so5 σ5 => ro5 = none ∧ so5 = am_SH ∧ am_U x m_Fi_gatherBegun Po σ5 97 [some (Zr 134), some (Zi v1), some (Zi v2), some (Zi v3), some (Zi v4)] []) σ4 0 [some (Zr 134), some (Zi v4), some (Zi ((σ3.1 6 z3.toNat) + z4))] []) σ3 0 [some (Zr 8), some (Zi v4)] []) σ 0 [some (Zr 8), some (Zi v4)] []))))))) : am_U x m_Fi_gatherBegun Po σ 24 [some (Zr 134), some (Zi v1), some (Zi v2), some (Zi v3), some (Zi v4)] [] := by
  refine V_iload d_Fi_gatherBegun_24 rfl ?_
  refine V_aload_n d_Fi_gatherBegun_26 rfl ?_
  refine U_geta d_Fi_gatherBegun_27 fl_Fi_22 sh_134 rfl ?_
  refine U_geti d_Fi_gatherBegun_30 fl_Fi_49 sh_8 ?_
  obtain ⟨h3, h⟩ := h
  obtain ⟨h4, h⟩ := h
  obtain ⟨ht, hf⟩ := h
  refine V_icmp_ge 103 d_Fi_gatherBegun_33 h3 h4 (fun h13 => ?_) (fun h13 => ?_)
  · have h := ht h13
    refine V_iinc d_Fi_gatherBegun_103 rfl rfl ?_
    refine V_goto 7 d_Fi_gatherBegun_106 ?_
    refine V_drop 4 ?_
    exact h
  · have h := hf h13
    refine V_aload_n d_Fi_gatherBegun_36 rfl ?_
    refine U_geta d_Fi_gatherBegun_37 fl_Fi_22 sh_134 rfl ?_
    refine U_geta d_Fi_gatherBegun_40 fl_Fi_54 sh_8 rfl ?_
    refine V_iload d_Fi_gatherBegun_43 rfl ?_
    obtain ⟨h5, h⟩ := h
    refine U_iald d_Fi_gatherBegun_45 sh_14 h5 ?_
    refine V_iload_n d_Fi_gatherBegun_46 rfl ?_
    obtain ⟨h6, h⟩ := h
    obtain ⟨h7, h⟩ := h
    obtain ⟨ht, hf⟩ := h
    refine V_icmp_ne 97 d_Fi_gatherBegun_47 h6 h7 (fun h12 => ?_) (fun h12 => ?_)
    · have h := ht h12
      exact h
    · have h := hf h12
      refine V_aload_n d_Fi_gatherBegun_50 rfl ?_
      refine U_geta d_Fi_gatherBegun_51 fl_Fi_22 sh_134 rfl ?_
      refine U_geta d_Fi_gatherBegun_54 fl_Fi_57 sh_8 rfl ?_
      refine V_iload d_Fi_gatherBegun_57 rfl ?_
      refine U_iald d_Fi_gatherBegun_59 sh_15 h5 ?_
      refine V_iload_n d_Fi_gatherBegun_60 rfl ?_
      obtain ⟨h8, h⟩ := h
      obtain ⟨h9, h⟩ := h
      obtain ⟨ht, hf⟩ := h
      refine V_icmp_ne 97 d_Fi_gatherBegun_61 h8 h9 (fun h11 => ?_) (fun h11 => ?_)
      · have h := ht h11
        exact h
      · have h := hf h11
        refine V_aload_n d_Fi_gatherBegun_64 rfl ?_
        refine V_iload d_Fi_gatherBegun_65 rfl ?_
        refine V_aload_n d_Fi_gatherBegun_67 rfl ?_
        refine U_geta d_Fi_gatherBegun_68 fl_Fi_18 sh_134 rfl ?_
        refine U_geta d_Fi_gatherBegun_71 fl_Fi_60 sh_1 rfl ?_
        refine V_aload_n d_Fi_gatherBegun_74 rfl ?_
        refine U_geta d_Fi_gatherBegun_75 fl_Fi_22 sh_134 rfl ?_
        refine V_iload d_Fi_gatherBegun_78 rfl ?_
        refine U_iv1 cv_Fi_gatherBegun_63 d_Fi_gatherBegun_80 sh_8 rfl rfl (am_mono h ?_)
        rintro ro3 so3 σ3 ⟨z3, rfl, rfl, h⟩
        obtain ⟨h10, h⟩ := h
        refine U_iald d_Fi_gatherBegun_83 sh_6 h10 ?_
        refine V_aload_n d_Fi_gatherBegun_84 rfl ?_
        refine U_geta d_Fi_gatherBegun_85 fl_Fi_22 sh_134 rfl ?_
        refine V_iload d_Fi_gatherBegun_88 rfl ?_
        refine U_iv1 cv_Fi_gatherBegun_66 d_Fi_gatherBegun_90 sh_8 rfl rfl (am_mono h ?_)
        rintro ro4 so4 σ4 ⟨z4, rfl, rfl, h⟩
        refine V_iadd d_Fi_gatherBegun_93 ?_
        refine U_iv2 cv_Fi_gatherBegun_69 d_Fi_gatherBegun_94 sh_134 rfl rfl (am_mono h ?_)
        rintro ro5 so5 σ5 ⟨rfl, rfl, h⟩
        exact h
theorem s_Fi_gatherBegun_97 {x : am_Sc} {Po : Option am_AV → am_Sh → am_St → Prop} {σ : am_St} {v1 v2 v3 v4 : Int}
    (h : am_U x m_Fi_gatherBegun Po σ 24 [some (Zr 134), some (Zi v1), some (Zi v2), some (Zi v3), some (Zi (v4 + 1))] []) : am_U x m_Fi_gatherBegun Po σ 97 [some (Zr 134), some (Zi v1), some (Zi v2), some (Zi v3), some (Zi v4)] [] := by
  refine V_iinc d_Fi_gatherBegun_97 rfl rfl ?_
  refine V_goto 24 d_Fi_gatherBegun_100 ?_
  exact h
theorem s_Fi_addSpan_0 {x : am_Sc} {Po : Option am_AV → am_Sh → am_St → Prop} {σ : am_St} {v1 v2 : Int}
    (h : am_U x m_Bo_lowNow (fun ro1 so1 σ1 => ∃ z1 : Int, ro1 = some (Zi z1) ∧ so1 = am_SH ∧ (0 ≤ σ.1 134 4 ∧ σ.1 134 4 < 12) ∧ (∀ σ2 : am_St, σ2 = (am_up σ1.1 135 (σ.1 134 4).toNat (z1 - v2), σ1.2) → am_U x m_Bo_highNow (fun ro3 so3 σ3 => ∃ z3 : Int, ro3 = some (Zi z3) ∧ so3 = am_SH ∧ (0 ≤ σ2.1 134 4 ∧ σ2.1 134 4 < 12) ∧ (∀ σ4 : am_St, σ4 = (am_up σ3.1 136 (σ2.1 134 4).toNat (z3 - v2), σ3.2) → (∀ σ5 : am_St, σ5 = (am_up σ4.1 134 4 ((σ4.1 134 4) + 1), σ4.2) → Po none am_SH σ5))) σ2 0 [some (Zr 8), some (Zi v1), none] [])) σ 0 [some (Zr 8), some (Zi v1), none] []) : am_U x m_Fi_addSpan Po σ 0 [some (Zr 134), some (Zi v1), some (Zi v2)] [] := by
  refine V_aload_n d_Fi_addSpan_0 rfl ?_
  refine U_geta d_Fi_addSpan_1 fl_Fi_9 sh_134 rfl ?_
  refine V_aload_n d_Fi_addSpan_4 rfl ?_
  refine U_geti d_Fi_addSpan_5 fl_Fi_41 sh_134 ?_
  refine V_aload_n d_Fi_addSpan_8 rfl ?_
  refine U_geta d_Fi_addSpan_9 fl_Fi_22 sh_134 rfl ?_
  refine V_iload_n d_Fi_addSpan_12 rfl ?_
  refine U_iv1 cv_Fi_addSpan_72 d_Fi_addSpan_13 sh_8 rfl rfl (am_mono h ?_)
  rintro ro1 so1 σ1 ⟨z1, rfl, rfl, h⟩
  refine V_iload_n d_Fi_addSpan_16 rfl ?_
  refine V_isub d_Fi_addSpan_17 ?_
  obtain ⟨h1, h⟩ := h
  refine U_iast d_Fi_addSpan_18 sh_135 h1 ?_
  have h := h _ rfl
  refine V_aload_n d_Fi_addSpan_19 rfl ?_
  refine U_geta d_Fi_addSpan_20 fl_Fi_15 sh_134 rfl ?_
  refine V_aload_n d_Fi_addSpan_23 rfl ?_
  refine U_geti d_Fi_addSpan_24 fl_Fi_41 sh_134 ?_
  refine V_aload_n d_Fi_addSpan_27 rfl ?_
  refine U_geta d_Fi_addSpan_28 fl_Fi_22 sh_134 rfl ?_
  refine V_iload_n d_Fi_addSpan_31 rfl ?_
  refine U_iv1 cv_Fi_addSpan_75 d_Fi_addSpan_32 sh_8 rfl rfl (am_mono h ?_)
  rintro ro3 so3 σ3 ⟨z3, rfl, rfl, h⟩
  refine V_iload_n d_Fi_addSpan_35 rfl ?_
  refine V_isub d_Fi_addSpan_36 ?_
  obtain ⟨h2, h⟩ := h
  refine U_iast d_Fi_addSpan_37 sh_136 h2 ?_
  have h := h _ rfl
  refine V_aload_n d_Fi_addSpan_38 rfl ?_
  refine V_dup d_Fi_addSpan_39 ?_
  refine U_geti d_Fi_addSpan_40 fl_Fi_41 sh_134 ?_
  refine V_iconst d_Fi_addSpan_43 ?_
  refine V_iadd d_Fi_addSpan_44 ?_
  refine U_puti d_Fi_addSpan_45 fw_Fi_41 sh_134 ?_
  have h := h _ rfl
  exact V_ret d_Fi_addSpan_48 rfl rfl h
theorem s_Fi_countFitting_0 {x : am_Sc} {Po : Option am_AV → am_Sh → am_St → Prop} {σ : am_St} {v1 : Int}
    (h : am_U x m_Fi_countFitting Po σ 4 [some (Zr 134), some (Zi v1), some (Zi 0), some (Zi 0)] []) : am_U x m_Fi_countFitting Po σ 0 [some (Zr 134), some (Zi v1), none, none] [] := by
  refine V_iconst d_Fi_countFitting_0 ?_
  refine V_istore_n d_Fi_countFitting_1 rfl ?_
  refine V_iconst d_Fi_countFitting_2 ?_
  refine V_istore_n d_Fi_countFitting_3 rfl ?_
  exact h
theorem s_Fi_countFitting_4 {x : am_Sc} {Po : Option am_AV → am_Sh → am_St → Prop} {σ : am_St} {v1 v2 v3 : Int}
    (h : am_r v3 ∧ am_r (σ.1 134 4) ∧ (((σ.1 134 4) ≤ v3 → Po (some (Zi v2)) am_SH σ) ∧ (¬ (σ.1 134 4) ≤ v3 → (0 ≤ v3 ∧ v3 < 12) ∧ am_r v1 ∧ am_r (σ.1 135 v3.toNat) ∧ ((v1 < (σ.1 135 v3.toNat) → am_U x m_Fi_countFitting Po σ 37 [some (Zr 134), some (Zi v1), none, some (Zi v3)] [Zi v2]) ∧ (¬ v1 < (σ.1 135 v3.toNat) → am_r (σ.1 136 v3.toNat) ∧ (((σ.1 136 v3.toNat) < v1 → am_U x m_Fi_countFitting Po σ 37 [some (Zr 134), some (Zi v1), none, some (Zi v3)] [Zi v2]) ∧ (¬ (σ.1 136 v3.toNat) < v1 → am_U x m_Fi_countFitting Po σ 38 [some (Zr 134), some (Zi v1), none, some (Zi v3)] [Zi 1, Zi v2]))))))) : am_U x m_Fi_countFitting Po σ 4 [some (Zr 134), some (Zi v1), some (Zi v2), some (Zi v3)] [] := by
  refine V_iload_n d_Fi_countFitting_4 rfl ?_
  refine V_aload_n d_Fi_countFitting_5 rfl ?_
  refine U_geti d_Fi_countFitting_6 fl_Fi_41 sh_134 ?_
  obtain ⟨h1, h⟩ := h
  obtain ⟨h2, h⟩ := h
  obtain ⟨ht, hf⟩ := h
  refine V_icmp_ge 46 d_Fi_countFitting_9 h1 h2 (fun h9 => ?_) (fun h9 => ?_)
  · have h := ht h9
    refine V_iload_n d_Fi_countFitting_46 rfl ?_
    exact V_iret d_Fi_countFitting_47 rfl rfl h
  · have h := hf h9
    refine V_iload_n d_Fi_countFitting_12 rfl ?_
    refine V_iload_n d_Fi_countFitting_13 rfl ?_
    refine V_aload_n d_Fi_countFitting_14 rfl ?_
    refine U_geta d_Fi_countFitting_15 fl_Fi_9 sh_134 rfl ?_
    refine V_iload_n d_Fi_countFitting_18 rfl ?_
    obtain ⟨h3, h⟩ := h
    refine U_iald d_Fi_countFitting_19 sh_135 h3 ?_
    obtain ⟨h4, h⟩ := h
    obtain ⟨h5, h⟩ := h
    obtain ⟨ht, hf⟩ := h
    refine V_icmp_lt 37 d_Fi_countFitting_20 h4 h5 (fun h8 => ?_) (fun h8 => ?_)
    · have h := ht h8
      refine V_drop 2 ?_
      exact h
    · have h := hf h8
      refine V_iload_n d_Fi_countFitting_23 rfl ?_
      refine V_aload_n d_Fi_countFitting_24 rfl ?_
      refine U_geta d_Fi_countFitting_25 fl_Fi_15 sh_134 rfl ?_
      refine V_iload_n d_Fi_countFitting_28 rfl ?_
      refine U_iald d_Fi_countFitting_29 sh_136 h3 ?_
      obtain ⟨h6, h⟩ := h
      obtain ⟨ht, hf⟩ := h
      refine V_icmp_gt 37 d_Fi_countFitting_30 h4 h6 (fun h7 => ?_) (fun h7 => ?_)
      · have h := ht h7
        refine V_drop 2 ?_
        exact h
      · have h := hf h7
        refine V_iconst d_Fi_countFitting_33 ?_
        refine V_goto 38 d_Fi_countFitting_34 ?_
        refine V_drop 2 ?_
        exact h
theorem s_Fi_countFitting_37 {x : am_Sc} {Po : Option am_AV → am_Sh → am_St → Prop} {σ : am_St} {v1 v3 vk0 : Int}
    (h : am_U x m_Fi_countFitting Po σ 38 [some (Zr 134), some (Zi v1), none, some (Zi v3)] [Zi 0, Zi vk0]) : am_U x m_Fi_countFitting Po σ 37 [some (Zr 134), some (Zi v1), none, some (Zi v3)] [Zi vk0] := by
  refine V_iconst d_Fi_countFitting_37 ?_
  exact h
theorem s_Fi_countFitting_38 {x : am_Sc} {Po : Option am_AV → am_Sh → am_St → Prop} {σ : am_St} {v1 v3 vk0 vk1 : Int}
    (h : am_U x m_Fi_countFitting Po σ 4 [some (Zr 134), some (Zi v1), some (Zi (vk0 + vk1)), some (Zi (v3 + 1))] []) : am_U x m_Fi_countFitting Po σ 38 [some (Zr 134), some (Zi v1), none, some (Zi v3)] [Zi vk1, Zi vk0] := by
  refine V_iadd d_Fi_countFitting_38 ?_
  refine V_istore_n d_Fi_countFitting_39 rfl ?_
  refine V_iinc d_Fi_countFitting_40 rfl rfl ?_
  refine V_goto 4 d_Fi_countFitting_43 ?_
  exact h
theorem s_Fi_moveShake_0 {x : am_Sc} {Po : Option am_AV → am_Sh → am_St → Prop} {σ : am_St} {v1 : Int}
    (h : am_U x m_Fi_moveShake Po σ 10 [some (Zr 134), some (Zi v1), some (Zi 0), some (Zi (-1)), some (Zi 0), some (Zi 0)] []) : am_U x m_Fi_moveShake Po σ 0 [some (Zr 134), some (Zi v1), none, none, none, none] [] := by
  refine V_iconst d_Fi_moveShake_0 ?_
  refine V_istore_n d_Fi_moveShake_1 rfl ?_
  refine V_iconst d_Fi_moveShake_2 ?_
  refine V_istore_n d_Fi_moveShake_3 rfl ?_
  refine V_iconst d_Fi_moveShake_4 ?_
  refine V_istore d_Fi_moveShake_5 rfl ?_
  refine V_iconst d_Fi_moveShake_7 ?_
  refine V_istore d_Fi_moveShake_8 rfl ?_
  exact h
theorem s_Fi_moveShake_10 {x : am_Sc} {Po : Option am_AV → am_Sh → am_St → Prop} {σ : am_St} {v1 v2 v3 v4 v5 : Int}
    (h : am_r v5 ∧ am_r (σ.1 1 0) ∧ (((σ.1 1 0) ≤ v5 → am_U x m_Bo_placeShake (fun ro1 so1 σ1 => ro1 = none ∧ so1 = am_SH ∧ Po (some (Zi v2)) am_SH σ1) σ 0 [some (Zr 8), some (Zi v1), some (Zi v2), some (Zi v4)] []) ∧ (¬ (σ.1 1 0) ≤ v5 → am_U x m_Fi_heapUp (fun ro2 so2 σ2 => ro2 = none ∧ so2 = am_SH ∧ am_r (σ2.1 134 5) ∧ am_r v3 ∧ (((σ2.1 134 5) ≤ v3 → am_U x m_Fi_moveShake Po σ2 51 [some (Zr 134), some (Zi v1), some (Zi v2), some (Zi v3), some (Zi v4), some (Zi v5)] []) ∧ (¬ (σ2.1 134 5) ≤ v3 → am_U x m_Fi_moveShake Po σ2 51 [some (Zr 134), some (Zi v1), some (Zi v5), some (Zi (σ2.1 134 5)), some (Zi (σ2.1 134 6)), some (Zi v5)] []))) σ 0 [some (Zr 134), some (Zi v1), some (Zi v5), none, none, none] []))) : am_U x m_Fi_moveShake Po σ 10 [some (Zr 134), some (Zi v1), some (Zi v2), some (Zi v3), some (Zi v4), some (Zi v5)] [] := by
  refine V_iload d_Fi_moveShake_10 rfl ?_
  refine V_aload_n d_Fi_moveShake_12 rfl ?_
  refine U_geta d_Fi_moveShake_13 fl_Fi_18 sh_134 rfl ?_
  refine U_geti d_Fi_moveShake_16 fl_Fi_78 sh_1 ?_
  obtain ⟨h1, h⟩ := h
  obtain ⟨h2, h⟩ := h
  obtain ⟨ht, hf⟩ := h
  refine V_icmp_ge 57 d_Fi_moveShake_19 h1 h2 (fun h6 => ?_) (fun h6 => ?_)
  · have h := ht h6
    refine V_aload_n d_Fi_moveShake_57 rfl ?_
    refine U_geta d_Fi_moveShake_58 fl_Fi_22 sh_134 rfl ?_
    refine V_iload_n d_Fi_moveShake_61 rfl ?_
    refine V_iload_n d_Fi_moveShake_62 rfl ?_
    refine V_iload d_Fi_moveShake_63 rfl ?_
    refine U_iv3 cv_Fi_moveShake_84 d_Fi_moveShake_65 sh_8 rfl rfl (am_mono h ?_)
    rintro ro1 so1 σ1 ⟨rfl, rfl, h⟩
    refine V_iload_n d_Fi_moveShake_68 rfl ?_
    exact V_iret d_Fi_moveShake_69 rfl rfl h
  · have h := hf h6
    refine V_aload_n d_Fi_moveShake_22 rfl ?_
    refine V_iload_n d_Fi_moveShake_23 rfl ?_
    refine V_iload d_Fi_moveShake_24 rfl ?_
    refine U_iv2 cv_Fi_moveShake_81 d_Fi_moveShake_26 sh_134 rfl rfl (am_mono h ?_)
    rintro ro2 so2 σ2 ⟨rfl, rfl, h⟩
    refine V_aload_n d_Fi_moveShake_29 rfl ?_
    refine U_geti d_Fi_moveShake_30 fl_Fi_38 sh_134 ?_
    refine V_iload_n d_Fi_moveShake_33 rfl ?_
    obtain ⟨h3, h⟩ := h
    obtain ⟨h4, h⟩ := h
    obtain ⟨ht, hf⟩ := h
    refine V_icmp_le 51 d_Fi_moveShake_34 h3 h4 (fun h5 => ?_) (fun h5 => ?_)
    · have h := ht h5
      exact h
    · have h := hf h5
      refine V_aload_n d_Fi_moveShake_37 rfl ?_
      refine U_geti d_Fi_moveShake_38 fl_Fi_38 sh_134 ?_
      refine V_istore_n d_Fi_moveShake_41 rfl ?_
      refine V_iload d_Fi_moveShake_42 rfl ?_
      refine V_istore_n d_Fi_moveShake_44 rfl ?_
      refine V_aload_n d_Fi_moveShake_45 rfl ?_
      refine U_geti d_Fi_moveShake_46 fl_Fi_30 sh_134 ?_
      refine V_istore d_Fi_moveShake_49 rfl ?_
      exact h
theorem s_Fi_moveShake_51 {x : am_Sc} {Po : Option am_AV → am_Sh → am_St → Prop} {σ : am_St} {v1 v2 v3 v4 v5 : Int}
    (h : am_U x m_Fi_moveShake Po σ 10 [some (Zr 134), some (Zi v1), some (Zi v2), some (Zi v3), some (Zi v4), some (Zi (v5 + 1))] []) : am_U x m_Fi_moveShake Po σ 51 [some (Zr 134), some (Zi v1), some (Zi v2), some (Zi v3), some (Zi v4), some (Zi v5)] [] := by
  refine V_iinc d_Fi_moveShake_51 rfl rfl ?_
  refine V_goto 10 d_Fi_moveShake_54 ?_
  exact h
theorem s_Fi_clockOff_0 {x : am_Sc} {Po : Option am_AV → am_Sh → am_St → Prop} {σ : am_St} {v1 : Int}
    (h : (∀ σ1 : am_St, σ1 = (am_up σ.1 134 4 0, σ.2) → am_U x m_Fi_clockOff Po σ1 7 [some (Zr 134), some (Zi v1), some (Zi 0), none, none, none, none] [])) : am_U x m_Fi_clockOff Po σ 0 [some (Zr 134), some (Zi v1), none, none, none, none, none] [] := by
  refine V_aload_n d_Fi_clockOff_0 rfl ?_
  refine V_iconst d_Fi_clockOff_1 ?_
  refine U_puti d_Fi_clockOff_2 fw_Fi_41 sh_134 ?_
  have h := h _ rfl
  refine V_iconst d_Fi_clockOff_5 ?_
  refine V_istore_n d_Fi_clockOff_6 rfl ?_
  exact h
theorem s_Fi_clockOff_7 {x : am_Sc} {Po : Option am_AV → am_Sh → am_St → Prop} {σ : am_St} {v1 v2 : Int}
    (h : am_r v2 ∧ am_r (σ.1 8 6) ∧ (((σ.1 8 6) ≤ v2 → am_U x m_Fi_countFitting (fun ro2 so2 σ2 => ∃ z2 : Int, ro2 = some (Zi z2) ∧ so2 = am_SH ∧ am_U x m_Fi_clockOff Po σ2 103 [some (Zr 134), none, some (Zi 0), some (Zi z2), some (Zi 1), none, none] []) σ 0 [some (Zr 134), some (Zi 0), none, none] []) ∧ (¬ (σ.1 8 6) ≤ v2 → (0 ≤ v2 ∧ v2 < 12) ∧ am_r (σ.1 13 v2.toNat) ∧ am_r v1 ∧ ((¬ (σ.1 13 v2.toNat) = v1 → am_U x m_Fi_clockOff Po σ 86 [some (Zr 134), some (Zi v1), some (Zi v2), none, none, none, none] []) ∧ ((σ.1 13 v2.toNat) = v1 → am_U x m_Bo_cellOfShake (fun ro3 so3 σ3 => ∃ z3 : Int, ro3 = some (Zi z3) ∧ so3 = am_SH ∧ am_U x m_Gr_spread (fun ro4 so4 σ4 => ro4 = none ∧ so4 = am_SH ∧ am_U x m_Bo_begunOf (fun ro5 so5 σ5 => ∃ z5 : Int, ro5 = some (Zi z5) ∧ so5 = am_SH ∧ (0 ≤ v1 ∧ v1 < 6) ∧ (0 ≤ σ5.1 9 v1.toNat ∧ σ5.1 9 v1.toNat < 16) ∧ am_U x m_Fi_addSpan (fun ro6 so6 σ6 => ro6 = none ∧ so6 = am_SH ∧ am_U x m_Fi_clockOff Po σ6 86 [some (Zr 134), some (Zi v1), some (Zi v2), none, none, none, none] []) σ5 0 [some (Zr 134), some (Zi v2), some (Zi (z5 + (σ5.1 6 (σ5.1 9 v1.toNat).toNat)))] []) σ4 0 [some (Zr 8), some (Zi v2)] []) σ3 0 [some (Zr 1), some (Zi z3), some (Zi (σ3.1 15 v2.toNat)), none, none, none, none] []) σ 0 [some (Zr 8), some (Zi v2)] []))))) : am_U x m_Fi_clockOff Po σ 7 [some (Zr 134), some (Zi v1), some (Zi v2), none, none, none, none] [] := by
  refine V_iload_n d_Fi_clockOff_7 rfl ?_
  refine V_aload_n d_Fi_clockOff_8 rfl ?_
  refine U_geta d_Fi_clockOff_9 fl_Fi_22 sh_134 rfl ?_
  refine U_geti d_Fi_clockOff_12 fl_Fi_49 sh_8 ?_
  obtain ⟨h1, h⟩ := h
  obtain ⟨h2, h⟩ := h
  obtain ⟨ht, hf⟩ := h
  refine V_icmp_ge 92 d_Fi_clockOff_15 h1 h2 (fun h9 => ?_) (fun h9 => ?_)
  · have h := ht h9
    refine V_iconst d_Fi_clockOff_92 ?_
    refine V_istore_n d_Fi_clockOff_93 rfl ?_
    refine V_aload_n d_Fi_clockOff_94 rfl ?_
    refine V_iconst d_Fi_clockOff_95 ?_
    refine U_iv1 cv_Fi_clockOff_34 d_Fi_clockOff_96 sh_134 rfl rfl (am_mono h ?_)
    rintro ro2 so2 σ2 ⟨z2, rfl, rfl, h⟩
    refine V_istore_n d_Fi_clockOff_99 rfl ?_
    refine V_iconst d_Fi_clockOff_100 ?_
    refine V_istore d_Fi_clockOff_101 rfl ?_
    refine V_drop 1 ?_
    exact h
  · have h := hf h9
    refine V_aload_n d_Fi_clockOff_18 rfl ?_
    refine U_geta d_Fi_clockOff_19 fl_Fi_22 sh_134 rfl ?_
    refine U_geta d_Fi_clockOff_22 fl_Fi_88 sh_8 rfl ?_
    refine V_iload_n d_Fi_clockOff_25 rfl ?_
    obtain ⟨h3, h⟩ := h
    refine U_iald d_Fi_clockOff_26 sh_13 h3 ?_
    refine V_iload_n d_Fi_clockOff_27 rfl ?_
    obtain ⟨h4, h⟩ := h
    obtain ⟨h5, h⟩ := h
    obtain ⟨ht, hf⟩ := h
    refine V_icmp_ne 86 d_Fi_clockOff_28 h4 h5 (fun h8 => ?_) (fun h8 => ?_)
    · have h := ht h8
      exact h
    · have h := hf h8
      refine V_aload_n d_Fi_clockOff_31 rfl ?_
      refine U_geta d_Fi_clockOff_32 fl_Fi_18 sh_134 rfl ?_
      refine V_aload_n d_Fi_clockOff_35 rfl ?_
      refine U_geta d_Fi_clockOff_36 fl_Fi_22 sh_134 rfl ?_
      refine V_iload_n d_Fi_clockOff_39 rfl ?_
      refine U_iv1 cv_Fi_clockOff_91 d_Fi_clockOff_40 sh_8 rfl rfl (am_mono h ?_)
      rintro ro3 so3 σ3 ⟨z3, rfl, rfl, h⟩
      refine V_aload_n d_Fi_clockOff_43 rfl ?_
      refine U_geta d_Fi_clockOff_44 fl_Fi_22 sh_134 rfl ?_
      refine U_geta d_Fi_clockOff_47 fl_Fi_57 sh_8 rfl ?_
      refine V_iload_n d_Fi_clockOff_50 rfl ?_
      refine U_iald d_Fi_clockOff_51 sh_15 h3 ?_
      refine U_iv2 cv_Fi_clockOff_44 d_Fi_clockOff_52 sh_1 rfl rfl (am_mono h ?_)
      rintro ro4 so4 σ4 ⟨rfl, rfl, h⟩
      refine V_aload_n d_Fi_clockOff_55 rfl ?_
      refine V_iload_n d_Fi_clockOff_56 rfl ?_
      refine V_aload_n d_Fi_clockOff_57 rfl ?_
      refine U_geta d_Fi_clockOff_58 fl_Fi_22 sh_134 rfl ?_
      refine V_iload_n d_Fi_clockOff_61 rfl ?_
      refine U_iv1 cv_Fi_clockOff_94 d_Fi_clockOff_62 sh_8 rfl rfl (am_mono h ?_)
      rintro ro5 so5 σ5 ⟨z5, rfl, rfl, h⟩
      refine V_aload_n d_Fi_clockOff_65 rfl ?_
      refine U_geta d_Fi_clockOff_66 fl_Fi_18 sh_134 rfl ?_
      refine U_geta d_Fi_clockOff_69 fl_Fi_60 sh_1 rfl ?_
      refine V_aload_n d_Fi_clockOff_72 rfl ?_
      refine U_geta d_Fi_clockOff_73 fl_Fi_22 sh_134 rfl ?_
      refine U_geta d_Fi_clockOff_76 fl_Fi_97 sh_8 rfl ?_
      refine V_iload_n d_Fi_clockOff_79 rfl ?_
      obtain ⟨h6, h⟩ := h
      refine U_iald d_Fi_clockOff_80 sh_9 h6 ?_
      obtain ⟨h7, h⟩ := h
      refine U_iald d_Fi_clockOff_81 sh_6 h7 ?_
      refine V_iadd d_Fi_clockOff_82 ?_
      refine U_iv2 cv_Fi_clockOff_69 d_Fi_clockOff_83 sh_134 rfl rfl (am_mono h ?_)
      rintro ro6 so6 σ6 ⟨rfl, rfl, h⟩
      exact h
theorem s_Fi_clockOff_103 {x : am_Sc} {Po : Option am_AV → am_Sh → am_St → Prop} {σ : am_St} {v2 v3 v4 : Int}
    (h : am_r v4 ∧ ((99 < v4 → Po (some (Zi v2)) am_SH σ) ∧ (¬ 99 < v4 → am_U x m_Fi_clockOff Po σ 115 [some (Zr 134), none, some (Zi v2), some (Zi v3), some (Zi v4), some (Zi (-v4)), none] []))) : am_U x m_Fi_clockOff Po σ 103 [some (Zr 134), none, some (Zi v2), some (Zi v3), some (Zi v4), none, none] [] := by
  refine V_iload d_Fi_clockOff_103 rfl ?_
  refine V_bipush d_Fi_clockOff_105 ?_
  obtain ⟨h10, h⟩ := h
  obtain ⟨ht, hf⟩ := h
  refine V_icmp_gt 160 d_Fi_clockOff_107 h10 (by decide) (fun h11 => ?_) (fun h11 => ?_)
  · have h := ht h11
    refine V_iload_n d_Fi_clockOff_160 rfl ?_
    exact V_iret d_Fi_clockOff_161 rfl rfl h
  · have h := hf h11
    refine V_iload d_Fi_clockOff_110 rfl ?_
    refine V_ineg d_Fi_clockOff_112 ?_
    refine V_istore d_Fi_clockOff_113 rfl ?_
    exact h
theorem s_Fi_clockOff_86 {x : am_Sc} {Po : Option am_AV → am_Sh → am_St → Prop} {σ : am_St} {v1 v2 : Int}
    (h : am_U x m_Fi_clockOff Po σ 7 [some (Zr 134), some (Zi v1), some (Zi (v2 + 1)), none, none, none, none] []) : am_U x m_Fi_clockOff Po σ 86 [some (Zr 134), some (Zi v1), some (Zi v2), none, none, none, none] [] := by
  refine V_iinc d_Fi_clockOff_86 rfl rfl ?_
  refine V_goto 7 d_Fi_clockOff_89 ?_
  exact h
theorem s_Fi_clockOff_115 {x : am_Sc} {Po : Option am_AV → am_Sh → am_St → Prop} {σ : am_St} {v2 v3 v4 v5 : Int}
    (h : am_r v5 ∧ am_r v4 ∧ ((v4 < v5 → am_U x m_Fi_clockOff Po σ 103 [some (Zr 134), none, some (Zi v2), some (Zi v3), some (Zi (v4 + 1)), none, none] []) ∧ (¬ v4 < v5 → am_U x m_Fi_countFitting (fun ro7 so7 σ7 => ∃ z7 : Int, ro7 = some (Zi z7) ∧ so7 = am_SH ∧ am_r z7 ∧ am_r v3 ∧ ((z7 ≤ v3 → am_U x m_Fi_clockOff Po σ7 142 [some (Zr 134), none, some (Zi v2), some (Zi v3), some (Zi v4), some (Zi v5), none] []) ∧ (¬ z7 ≤ v3 → am_U x m_Fi_clockOff Po σ7 142 [some (Zr 134), none, some (Zi v5), some (Zi z7), some (Zi v4), some (Zi v5), none] []))) σ 0 [some (Zr 134), some (Zi v5), none, none] []))) : am_U x m_Fi_clockOff Po σ 115 [some (Zr 134), none, some (Zi v2), some (Zi v3), some (Zi v4), some (Zi v5), none] [] := by
  refine V_iload d_Fi_clockOff_115 rfl ?_
  refine V_iload d_Fi_clockOff_117 rfl ?_
  obtain ⟨h12, h⟩ := h
  obtain ⟨h13, h⟩ := h
  obtain ⟨ht, hf⟩ := h
  refine V_icmp_gt 154 d_Fi_clockOff_119 h12 h13 (fun h17 => ?_) (fun h17 => ?_)
  · have h := ht h17
    refine V_iinc d_Fi_clockOff_154 rfl rfl ?_
    refine V_goto 103 d_Fi_clockOff_157 ?_
    refine V_drop 5 ?_
    exact h
  · have h := hf h17
    refine V_aload_n d_Fi_clockOff_122 rfl ?_
    refine V_iload d_Fi_clockOff_123 rfl ?_
    refine U_iv1 cv_Fi_clockOff_34 d_Fi_clockOff_125 sh_134 rfl rfl (am_mono h ?_)
    rintro ro7 so7 σ7 ⟨z7, rfl, rfl, h⟩
    refine V_istore d_Fi_clockOff_128 rfl ?_
    refine V_iload d_Fi_clockOff_130 rfl ?_
    refine V_iload_n d_Fi_clockOff_132 rfl ?_
    obtain ⟨h14, h⟩ := h
    obtain ⟨h15, h⟩ := h
    obtain ⟨ht, hf⟩ := h
    refine V_icmp_le 142 d_Fi_clockOff_133 h14 h15 (fun h16 => ?_) (fun h16 => ?_)
    · have h := ht h16
      refine V_drop 6 ?_
      exact h
    · have h := hf h16
      refine V_iload d_Fi_clockOff_136 rfl ?_
      refine V_istore_n d_Fi_clockOff_138 rfl ?_
      refine V_iload d_Fi_clockOff_139 rfl ?_
      refine V_istore_n d_Fi_clockOff_141 rfl ?_
      refine V_drop 6 ?_
      exact h
theorem s_Fi_clockOff_142 {x : am_Sc} {Po : Option am_AV → am_Sh → am_St → Prop} {σ : am_St} {v2 v3 v4 v5 : Int}
    (h : am_U x m_Fi_clockOff Po σ 115 [some (Zr 134), none, some (Zi v2), some (Zi v3), some (Zi v4), some (Zi (v5 + (2 * v4))), none] []) : am_U x m_Fi_clockOff Po σ 142 [some (Zr 134), none, some (Zi v2), some (Zi v3), some (Zi v4), some (Zi v5), none] [] := by
  refine V_iload d_Fi_clockOff_142 rfl ?_
  refine V_iconst d_Fi_clockOff_144 ?_
  refine V_iload d_Fi_clockOff_145 rfl ?_
  refine V_imul d_Fi_clockOff_147 ?_
  refine V_iadd d_Fi_clockOff_148 ?_
  refine V_istore d_Fi_clockOff_149 rfl ?_
  refine V_goto 115 d_Fi_clockOff_151 ?_
  exact h
theorem s_Me_keep_0 {x : am_Sc} {Po : Option am_AV → am_Sh → am_St → Prop} {σ : am_St}
    (h : (∀ σ1 : am_St, σ1 = (am_cp σ.1 2 143 16, σ.2) → (∀ σ2 : am_St, σ2 = (am_cp σ1.1 3 144 8, σ1.2) → (∀ σ3 : am_St, σ3 = (am_cp σ2.1 11 145 5, σ2.2) → (∀ σ4 : am_St, σ4 = (am_cp σ3.1 10 146 6, σ3.2) → Po none am_SH σ4))))) : am_U x m_Me_keep Po σ 0 [some (Zr 142)] [] := by
  refine V_aload_n d_Me_keep_0 rfl ?_
  refine U_geta d_Me_keep_1 fl_Me_24 sh_142 rfl ?_
  refine U_geta d_Me_keep_4 fl_Me_32 sh_1 rfl ?_
  refine V_iconst d_Me_keep_7 ?_
  refine V_aload_n d_Me_keep_8 rfl ?_
  refine U_geta d_Me_keep_9 fl_Me_9 sh_142 rfl ?_
  refine V_iconst d_Me_keep_12 ?_
  refine V_bipush d_Me_keep_13 ?_
  refine U_cpyI 16 d_Me_keep_15 cy_Me_keep_35 sh_2 sh_143 rfl rfl rfl ?_
  have h := h _ rfl
  refine V_aload_n d_Me_keep_18 rfl ?_
  refine U_geta d_Me_keep_19 fl_Me_24 sh_142 rfl ?_
  refine U_geta d_Me_keep_22 fl_Me_41 sh_1 rfl ?_
  refine V_iconst d_Me_keep_25 ?_
  refine V_aload_n d_Me_keep_26 rfl ?_
  refine U_geta d_Me_keep_27 fl_Me_15 sh_142 rfl ?_
  refine V_iconst d_Me_keep_30 ?_
  refine V_bipush d_Me_keep_31 ?_
  refine U_cpyI 8 d_Me_keep_33 cy_Me_keep_35 sh_3 sh_144 rfl rfl rfl ?_
  have h := h _ rfl
  refine V_aload_n d_Me_keep_36 rfl ?_
  refine U_geta d_Me_keep_37 fl_Me_28 sh_142 rfl ?_
  refine U_geta d_Me_keep_40 fl_Me_42 sh_8 rfl ?_
  refine V_iconst d_Me_keep_43 ?_
  refine V_aload_n d_Me_keep_44 rfl ?_
  refine U_geta d_Me_keep_45 fl_Me_18 sh_142 rfl ?_
  refine V_iconst d_Me_keep_48 ?_
  refine V_iconst d_Me_keep_49 ?_
  refine U_cpyI 5 d_Me_keep_50 cy_Me_keep_35 sh_11 sh_145 rfl rfl rfl ?_
  have h := h _ rfl
  refine V_aload_n d_Me_keep_53 rfl ?_
  refine U_geta d_Me_keep_54 fl_Me_28 sh_142 rfl ?_
  refine U_geta d_Me_keep_57 fl_Me_45 sh_8 rfl ?_
  refine V_iconst d_Me_keep_60 ?_
  refine V_aload_n d_Me_keep_61 rfl ?_
  refine U_geta d_Me_keep_62 fl_Me_21 sh_142 rfl ?_
  refine V_iconst d_Me_keep_65 ?_
  refine V_bipush d_Me_keep_66 ?_
  refine U_cpyI 6 d_Me_keep_68 cy_Me_keep_35 sh_10 sh_146 rfl rfl rfl ?_
  have h := h _ rfl
  exact V_ret d_Me_keep_71 rfl rfl h
theorem s_Me_bringBack_0 {x : am_Sc} {Po : Option am_AV → am_Sh → am_St → Prop} {σ : am_St}
    (h : (∀ σ1 : am_St, σ1 = (am_cp σ.1 143 2 16, σ.2) → (∀ σ2 : am_St, σ2 = (am_cp σ1.1 144 3 8, σ1.2) → (∀ σ3 : am_St, σ3 = (am_cp σ2.1 145 11 5, σ2.2) → (∀ σ4 : am_St, σ4 = (am_cp σ3.1 146 10 6, σ3.2) → Po none am_SH σ4))))) : am_U x m_Me_bringBack Po σ 0 [some (Zr 142)] [] := by
  refine V_aload_n d_Me_bringBack_0 rfl ?_
  refine U_geta d_Me_bringBack_1 fl_Me_9 sh_142 rfl ?_
  refine V_iconst d_Me_bringBack_4 ?_
  refine V_aload_n d_Me_bringBack_5 rfl ?_
  refine U_geta d_Me_bringBack_6 fl_Me_24 sh_142 rfl ?_
  refine U_geta d_Me_bringBack_9 fl_Me_32 sh_1 rfl ?_
  refine V_iconst d_Me_bringBack_12 ?_
  refine V_bipush d_Me_bringBack_13 ?_
  refine U_cpyI 16 d_Me_bringBack_15 cy_Me_bringBack_35 sh_143 sh_2 rfl rfl rfl ?_
  have h := h _ rfl
  refine V_aload_n d_Me_bringBack_18 rfl ?_
  refine U_geta d_Me_bringBack_19 fl_Me_15 sh_142 rfl ?_
  refine V_iconst d_Me_bringBack_22 ?_
  refine V_aload_n d_Me_bringBack_23 rfl ?_
  refine U_geta d_Me_bringBack_24 fl_Me_24 sh_142 rfl ?_
  refine U_geta d_Me_bringBack_27 fl_Me_41 sh_1 rfl ?_
  refine V_iconst d_Me_bringBack_30 ?_
  refine V_bipush d_Me_bringBack_31 ?_
  refine U_cpyI 8 d_Me_bringBack_33 cy_Me_bringBack_35 sh_144 sh_3 rfl rfl rfl ?_
  have h := h _ rfl
  refine V_aload_n d_Me_bringBack_36 rfl ?_
  refine U_geta d_Me_bringBack_37 fl_Me_18 sh_142 rfl ?_
  refine V_iconst d_Me_bringBack_40 ?_
  refine V_aload_n d_Me_bringBack_41 rfl ?_
  refine U_geta d_Me_bringBack_42 fl_Me_28 sh_142 rfl ?_
  refine U_geta d_Me_bringBack_45 fl_Me_42 sh_8 rfl ?_
  refine V_iconst d_Me_bringBack_48 ?_
  refine V_iconst d_Me_bringBack_49 ?_
  refine U_cpyI 5 d_Me_bringBack_50 cy_Me_bringBack_35 sh_145 sh_11 rfl rfl rfl ?_
  have h := h _ rfl
  refine V_aload_n d_Me_bringBack_53 rfl ?_
  refine U_geta d_Me_bringBack_54 fl_Me_21 sh_142 rfl ?_
  refine V_iconst d_Me_bringBack_57 ?_
  refine V_aload_n d_Me_bringBack_58 rfl ?_
  refine U_geta d_Me_bringBack_59 fl_Me_28 sh_142 rfl ?_
  refine U_geta d_Me_bringBack_62 fl_Me_45 sh_8 rfl ?_
  refine V_iconst d_Me_bringBack_65 ?_
  refine V_bipush d_Me_bringBack_66 ?_
  refine U_cpyI 6 d_Me_bringBack_68 cy_Me_bringBack_35 sh_146 sh_10 rfl rfl rfl ?_
  have h := h _ rfl
  exact V_ret d_Me_bringBack_71 rfl rfl h
theorem s_Sc_append_0 {x : am_Sc} {Po : Option am_AV → am_Sh → am_St → Prop} {σ : am_St} {v1 v3 : Int}
    (h : am_U x m_Sc_append Po σ 3 [some (Zr 137), some (Zl v1), none, some (Zi v3), some (Zi 0)] []) : am_U x m_Sc_append Po σ 0 [some (Zr 137), some (Zl v1), none, some (Zi v3), none] [] := by
  refine V_iconst d_Sc_append_0 ?_
  refine V_istore d_Sc_append_1 rfl ?_
  exact h
theorem s_Sc_append_3 {x : am_Sc} {Po : Option am_AV → am_Sh → am_St → Prop} {σ : am_St} {v1 v3 v4 : Int}
    (h : am_r v4 ∧ am_r v3 ∧ ((v3 ≤ v4 → am_U x m_Sc_append Po σ 56 [none, none, none, none, none] []) ∧ (¬ v3 ≤ v4 → am_r (σ.1 137 3) ∧ ((160 ≤ (σ.1 137 3) → am_U x m_Sc_append Po σ 56 [none, none, none, none, none] []) ∧ (¬ 160 ≤ (σ.1 137 3) → (0 ≤ σ.1 137 3 ∧ σ.1 137 3 < 160) ∧ (∀ σ1 : am_St, σ1 = (am_up σ.1 138 (σ.1 137 3).toNat (am_l2i (am_andL (am_shrL v1 (8 * v4)) 255)), σ.2) → (∀ σ2 : am_St, σ2 = (am_up σ1.1 137 3 ((σ1.1 137 3) + 1), σ1.2) → am_U x m_Sc_append Po σ2 3 [some (Zr 137), some (Zl v1), none, some (Zi v3), some (Zi (v4 + 1))] []))))))) : am_U x m_Sc_append Po σ 3 [some (Zr 137), some (Zl v1), none, some (Zi v3), some (Zi v4)] [] := by
  refine V_iload d_Sc_append_3 rfl ?_
  refine V_iload_n d_Sc_append_5 rfl ?_
  obtain ⟨h1, h⟩ := h
  obtain ⟨h2, h⟩ := h
  obtain ⟨ht, hf⟩ := h
  refine V_icmp_ge 56 d_Sc_append_6 h1 h2 (fun h6 => ?_) (fun h6 => ?_)
  · have h := ht h6
    refine V_drop 0 ?_
    refine V_drop 1 ?_
    refine V_drop 3 ?_
    refine V_drop 4 ?_
    exact h
  · have h := hf h6
    refine V_aload_n d_Sc_append_9 rfl ?_
    refine U_geti d_Sc_append_10 fl_Sc_32 sh_137 ?_
    refine V_sipush d_Sc_append_13 ?_
    obtain ⟨h3, h⟩ := h
    obtain ⟨ht, hf⟩ := h
    refine V_icmp_ge 56 d_Sc_append_16 h3 (by decide) (fun h5 => ?_) (fun h5 => ?_)
    · have h := ht h5
      refine V_drop 0 ?_
      refine V_drop 1 ?_
      refine V_drop 3 ?_
      refine V_drop 4 ?_
      exact h
    · have h := hf h5
      refine V_aload_n d_Sc_append_19 rfl ?_
      refine U_geta d_Sc_append_20 fl_Sc_9 sh_137 rfl ?_
      refine V_aload_n d_Sc_append_23 rfl ?_
      refine U_geti d_Sc_append_24 fl_Sc_32 sh_137 ?_
      refine V_lload_n d_Sc_append_27 rfl ?_
      refine V_bipush d_Sc_append_28 ?_
      refine V_iload d_Sc_append_30 rfl ?_
      refine V_imul d_Sc_append_32 ?_
      refine V_lshr d_Sc_append_33 ?_
      refine V_ldc2 255 d_Sc_append_34 kc_Sc_36 ?_
      refine V_land d_Sc_append_37 ?_
      refine V_l2i d_Sc_append_38 ?_
      obtain ⟨h4, h⟩ := h
      refine U_iast d_Sc_append_39 sh_138 h4 ?_
      have h := h _ rfl
      refine V_aload_n d_Sc_append_40 rfl ?_
      refine V_dup d_Sc_append_41 ?_
      refine U_geti d_Sc_append_42 fl_Sc_32 sh_137 ?_
      refine V_iconst d_Sc_append_45 ?_
      refine V_iadd d_Sc_append_46 ?_
      refine U_puti d_Sc_append_47 fw_Sc_32 sh_137 ?_
      have h := h _ rfl
      refine V_iinc d_Sc_append_50 rfl rfl ?_
      refine V_goto 3 d_Sc_append_53 ?_
      exact h
theorem s_Sc_append_56 {x : am_Sc} {Po : Option am_AV → am_Sh → am_St → Prop} {σ : am_St}
    (h : Po none am_SH σ) : am_U x m_Sc_append Po σ 56 [none, none, none, none, none] [] := by
  exact V_ret d_Sc_append_56 rfl rfl h
theorem s_Sc_read_0 {x : am_Sc} {Po : Option am_AV → am_Sh → am_St → Prop} {σ : am_St}
    (h : (∀ σ1 : am_St, σ1 = (am_up σ.1 137 6 0, σ.2) → (∀ σ2 : am_St, σ2 = (am_up σ1.1 137 8 0, σ1.2) → am_U x m_Sc_advance (fun ro3 so3 σ3 => ro3 = none ∧ so3 = am_SH ∧ am_U x m_Sc_read Po σ3 14 [some (Zr 137)] []) σ2 0 [some (Zr 137)] []))) : am_U x m_Sc_read Po σ 0 [some (Zr 137)] [] := by
  refine V_aload_n d_Sc_read_0 rfl ?_
  refine V_iconst d_Sc_read_1 ?_
  refine U_puti d_Sc_read_2 fw_Sc_38 sh_137 ?_
  have h := h _ rfl
  refine V_aload_n d_Sc_read_5 rfl ?_
  refine V_iconst d_Sc_read_6 ?_
  refine U_puti d_Sc_read_7 fw_Sc_41 sh_137 ?_
  have h := h _ rfl
  refine V_aload_n d_Sc_read_10 rfl ?_
  refine U_iv0 cv_Sc_read_44 d_Sc_read_11 sh_137 rfl rfl (am_mono h ?_)
  rintro ro3 so3 σ3 ⟨rfl, rfl, h⟩
  exact h
theorem s_Sc_read_14 {x : am_Sc} {Po : Option am_AV → am_Sh → am_St → Prop} {σ : am_St}
    (h : am_r (σ.1 137 8) ∧ ((40 ≤ (σ.1 137 8) → Po (some (Zi (σ.1 137 5))) am_SH σ) ∧ (¬ 40 ≤ (σ.1 137 8) → am_U x m_Sc_readStatement (fun ro4 so4 σ4 => ∃ z4 : Int, ro4 = some (Zi z4) ∧ so4 = am_SH ∧ am_r z4 ∧ ((¬ z4 = 0 → (∀ σ5 : am_St, σ5 = (am_up σ4.1 137 8 ((σ4.1 137 8) + 1), σ4.2) → am_r (σ5.1 137 4) ∧ ((¬ (σ5.1 137 4) = 0 → ((¬ (σ5.1 137 4) = 3 → am_U x m_Sc_read Po σ5 76 [some (Zr 137)] []) ∧ ((σ5.1 137 4) = 3 → (0 ≤ σ5.1 137 5 ∧ σ5.1 137 5 < 160) ∧ am_r (σ5.1 138 (σ5.1 137 5).toNat) ∧ (((σ5.1 138 (σ5.1 137 5).toNat) = 59 → am_U x m_Sc_advance (fun ro6 so6 σ6 => ro6 = none ∧ so6 = am_SH ∧ am_U x m_Sc_read Po σ6 14 [some (Zr 137)] []) σ5 0 [some (Zr 137)] []) ∧ (¬ (σ5.1 138 (σ5.1 137 5).toNat) = 59 → am_U x m_Sc_read Po σ5 76 [some (Zr 137)] []))))) ∧ ((σ5.1 137 4) = 0 → Po (some (Zi (-1))) am_SH σ5)))) ∧ (z4 = 0 → Po (some (Zi (σ4.1 137 5))) am_SH σ4))) σ 0 [some (Zr 137), none] []))) : am_U x m_Sc_read Po σ 14 [some (Zr 137)] [] := by
  refine V_aload_n d_Sc_read_14 rfl ?_
  refine U_geti d_Sc_read_15 fl_Sc_41 sh_137 ?_
  refine V_bipush d_Sc_read_18 ?_
  obtain ⟨h1, h⟩ := h
  obtain ⟨ht, hf⟩ := h
  refine V_icmp_ge 88 d_Sc_read_20 h1 (by decide) (fun h10 => ?_) (fun h10 => ?_)
  · have h := ht h10
    refine V_aload_n d_Sc_read_88 rfl ?_
    refine U_geti d_Sc_read_89 fl_Sc_51 sh_137 ?_
    exact V_iret d_Sc_read_92 rfl rfl h
  · have h := hf h10
    refine V_aload_n d_Sc_read_23 rfl ?_
    refine U_iv0 cv_Sc_read_47 d_Sc_read_24 sh_137 rfl rfl (am_mono h ?_)
    rintro ro4 so4 σ4 ⟨z4, rfl, rfl, h⟩
    obtain ⟨h2, h⟩ := h
    obtain ⟨ht, hf⟩ := h
    refine V_if_ne 35 d_Sc_read_27 h2 (fun h9 => ?_) (fun h9 => ?_)
    · have h := ht h9
      refine V_aload_n d_Sc_read_35 rfl ?_
      refine V_dup d_Sc_read_36 ?_
      refine U_geti d_Sc_read_37 fl_Sc_41 sh_137 ?_
      refine V_iconst d_Sc_read_40 ?_
      refine V_iadd d_Sc_read_41 ?_
      refine U_puti d_Sc_read_42 fw_Sc_41 sh_137 ?_
      have h := h _ rfl
      refine V_aload_n d_Sc_read_45 rfl ?_
      refine U_geti d_Sc_read_46 fl_Sc_54 sh_137 ?_
      obtain ⟨h3, h⟩ := h
      obtain ⟨ht, hf⟩ := h
      refine V_if_ne 54 d_Sc_read_49 h3 (fun h8 => ?_) (fun h8 => ?_)
      · have h := ht h8
        refine V_aload_n d_Sc_read_54 rfl ?_
        refine U_geti d_Sc_read_55 fl_Sc_54 sh_137 ?_
        refine V_iconst d_Sc_read_58 ?_
        obtain ⟨ht, hf⟩ := h
        refine V_icmp_ne 76 d_Sc_read_59 h3 (by decide) (fun h7 => ?_) (fun h7 => ?_)
        · have h := ht h7
          exact h
        · have h := hf h7
          refine V_aload_n d_Sc_read_62 rfl ?_
          refine U_geta d_Sc_read_63 fl_Sc_9 sh_137 rfl ?_
          refine V_aload_n d_Sc_read_66 rfl ?_
          refine U_geti d_Sc_read_67 fl_Sc_51 sh_137 ?_
          obtain ⟨h4, h⟩ := h
          refine U_iald d_Sc_read_70 sh_138 h4 ?_
          refine V_bipush d_Sc_read_71 ?_
          obtain ⟨h5, h⟩ := h
          obtain ⟨ht, hf⟩ := h
          refine V_icmp_eq 81 d_Sc_read_73 h5 (by decide) (fun h6 => ?_) (fun h6 => ?_)
          · have h := ht h6
            refine V_aload_n d_Sc_read_81 rfl ?_
            refine U_iv0 cv_Sc_read_44 d_Sc_read_82 sh_137 rfl rfl (am_mono h ?_)
            rintro ro6 so6 σ6 ⟨rfl, rfl, h⟩
            refine V_goto 14 d_Sc_read_85 ?_
            exact h
          · have h := hf h6
            exact h
      · have h := hf h8
        refine V_iconst d_Sc_read_52 ?_
        exact V_iret d_Sc_read_53 rfl rfl h
    · have h := hf h9
      refine V_aload_n d_Sc_read_30 rfl ?_
      refine U_geti d_Sc_read_31 fl_Sc_51 sh_137 ?_
      exact V_iret d_Sc_read_34 rfl rfl h
theorem s_Sc_read_76 {x : am_Sc} {Po : Option am_AV → am_Sh → am_St → Prop} {σ : am_St}
    (h : Po (some (Zi (σ.1 137 5))) am_SH σ) : am_U x m_Sc_read Po σ 76 [some (Zr 137)] [] := by
  refine V_aload_n d_Sc_read_76 rfl ?_
  refine U_geti d_Sc_read_77 fl_Sc_51 sh_137 ?_
  exact V_iret d_Sc_read_80 rfl rfl h
theorem s_Sc_advance_0 {x : am_Sc} {Po : Option am_AV → am_Sh → am_St → Prop} {σ : am_St}
    (h : (∀ σ1 : am_St, σ1 = (am_up σ.1 137 5 (σ.1 137 6), σ.2) → am_U x m_Sc_advance Po σ1 8 [some (Zr 137)] [])) : am_U x m_Sc_advance Po σ 0 [some (Zr 137)] [] := by
  refine V_aload_n d_Sc_advance_0 rfl ?_
  refine V_aload_n d_Sc_advance_1 rfl ?_
  refine U_geti d_Sc_advance_2 fl_Sc_38 sh_137 ?_
  refine U_puti d_Sc_advance_5 fw_Sc_51 sh_137 ?_
  have h := h _ rfl
  exact h
theorem s_Sc_advance_8 {x : am_Sc} {Po : Option am_AV → am_Sh → am_St → Prop} {σ : am_St}
    (h : am_r (σ.1 137 5) ∧ am_r (σ.1 137 3) ∧ (((σ.1 137 3) ≤ (σ.1 137 5) → am_U x m_Sc_advance Po σ 46 [some (Zr 137)] []) ∧ (¬ (σ.1 137 3) ≤ (σ.1 137 5) → (0 ≤ σ.1 137 5 ∧ σ.1 137 5 < 160) ∧ am_r (σ.1 138 (σ.1 137 5).toNat) ∧ ((¬ (σ.1 138 (σ.1 137 5).toNat) = 32 → am_U x m_Sc_advance Po σ 46 [some (Zr 137)] []) ∧ ((σ.1 138 (σ.1 137 5).toNat) = 32 → (∀ σ2 : am_St, σ2 = (am_up σ.1 137 5 ((σ.1 137 5) + 1), σ.2) → am_U x m_Sc_advance Po σ2 8 [some (Zr 137)] [])))))) : am_U x m_Sc_advance Po σ 8 [some (Zr 137)] [] := by
  refine V_aload_n d_Sc_advance_8 rfl ?_
  refine U_geti d_Sc_advance_9 fl_Sc_51 sh_137 ?_
  refine V_aload_n d_Sc_advance_12 rfl ?_
  refine U_geti d_Sc_advance_13 fl_Sc_32 sh_137 ?_
  obtain ⟨h1, h⟩ := h
  obtain ⟨h2, h⟩ := h
  obtain ⟨ht, hf⟩ := h
  refine V_icmp_ge 46 d_Sc_advance_16 h1 h2 (fun h6 => ?_) (fun h6 => ?_)
  · have h := ht h6
    exact h
  · have h := hf h6
    refine V_aload_n d_Sc_advance_19 rfl ?_
    refine U_geta d_Sc_advance_20 fl_Sc_9 sh_137 rfl ?_
    refine V_aload_n d_Sc_advance_23 rfl ?_
    refine U_geti d_Sc_advance_24 fl_Sc_51 sh_137 ?_
    obtain ⟨h3, h⟩ := h
    refine U_iald d_Sc_advance_27 sh_138 h3 ?_
    refine V_bipush d_Sc_advance_28 ?_
    obtain ⟨h4, h⟩ := h
    obtain ⟨ht, hf⟩ := h
    refine V_icmp_ne 46 d_Sc_advance_30 h4 (by decide) (fun h5 => ?_) (fun h5 => ?_)
    · have h := ht h5
      exact h
    · have h := hf h5
      refine V_aload_n d_Sc_advance_33 rfl ?_
      refine V_dup d_Sc_advance_34 ?_
      refine U_geti d_Sc_advance_35 fl_Sc_51 sh_137 ?_
      refine V_iconst d_Sc_advance_38 ?_
      refine V_iadd d_Sc_advance_39 ?_
      refine U_puti d_Sc_advance_40 fw_Sc_51 sh_137 ?_
      have h := h _ rfl
      refine V_goto 8 d_Sc_advance_43 ?_
      exact h
theorem s_Sc_advance_46 {x : am_Sc} {Po : Option am_AV → am_Sh → am_St → Prop} {σ : am_St}
    (h : am_U x m_Sc_sortAt (fun ro3 so3 σ3 => ∃ z3 : Int, ro3 = some (Zi z3) ∧ so3 = am_SH ∧ (∀ σ4 : am_St, σ4 = (am_up σ3.1 137 4 z3, σ3.2) → am_r (σ4.1 137 5) ∧ am_r (σ4.1 137 3) ∧ (((σ4.1 137 3) ≤ (σ4.1 137 5) → am_U x m_Sc_advance Po σ4 83 [some (Zr 137)] [Zi (σ4.1 137 5), Zr 137]) ∧ (¬ (σ4.1 137 3) ≤ (σ4.1 137 5) → am_U x m_Sc_advance Po σ4 83 [some (Zr 137)] [Zi ((σ4.1 137 5) + 1), Zr 137])))) σ 0 [some (Zr 137), some (Zi (σ.1 137 5)), none] []) : am_U x m_Sc_advance Po σ 46 [some (Zr 137)] [] := by
  refine V_aload_n d_Sc_advance_46 rfl ?_
  refine V_aload_n d_Sc_advance_47 rfl ?_
  refine V_aload_n d_Sc_advance_48 rfl ?_
  refine U_geti d_Sc_advance_49 fl_Sc_51 sh_137 ?_
  refine U_iv1 cv_Sc_advance_120 d_Sc_advance_52 sh_137 rfl rfl (am_mono h ?_)
  rintro ro3 so3 σ3 ⟨z3, rfl, rfl, h⟩
  refine U_puti d_Sc_advance_55 fw_Sc_54 sh_137 ?_
  have h := h _ rfl
  refine V_aload_n d_Sc_advance_58 rfl ?_
  refine V_aload_n d_Sc_advance_59 rfl ?_
  refine U_geti d_Sc_advance_60 fl_Sc_51 sh_137 ?_
  refine V_aload_n d_Sc_advance_63 rfl ?_
  refine U_geti d_Sc_advance_64 fl_Sc_32 sh_137 ?_
  obtain ⟨h7, h⟩ := h
  obtain ⟨h8, h⟩ := h
  obtain ⟨ht, hf⟩ := h
  refine V_icmp_ge 79 d_Sc_advance_67 h7 h8 (fun h9 => ?_) (fun h9 => ?_)
  · have h := ht h9
    refine V_aload_n d_Sc_advance_79 rfl ?_
    refine U_geti d_Sc_advance_80 fl_Sc_51 sh_137 ?_
    exact h
  · have h := hf h9
    refine V_aload_n d_Sc_advance_70 rfl ?_
    refine U_geti d_Sc_advance_71 fl_Sc_51 sh_137 ?_
    refine V_iconst d_Sc_advance_74 ?_
    refine V_iadd d_Sc_advance_75 ?_
    refine V_goto 83 d_Sc_advance_76 ?_
    exact h
theorem s_Sc_advance_83 {x : am_Sc} {Po : Option am_AV → am_Sh → am_St → Prop} {σ : am_St} {vk1 : Int}
    (h : (∀ σ5 : am_St, σ5 = (am_up σ.1 137 6 vk1, σ.2) → am_U x m_Sc_advance Po σ5 86 [some (Zr 137)] [])) : am_U x m_Sc_advance Po σ 83 [some (Zr 137)] [Zi vk1, Zr 137] := by
  refine U_puti d_Sc_advance_83 fw_Sc_38 sh_137 ?_
  have h := h _ rfl
  exact h
theorem s_Sc_advance_86 {x : am_Sc} {Po : Option am_AV → am_Sh → am_St → Prop} {σ : am_St}
    (h : am_r (σ.1 137 4) ∧ (((σ.1 137 4) = 3 → am_U x m_Sc_advance Po σ 133 [some (Zr 137)] []) ∧ (¬ (σ.1 137 4) = 3 → am_r (σ.1 137 6) ∧ am_r (σ.1 137 3) ∧ (((σ.1 137 3) ≤ (σ.1 137 6) → am_U x m_Sc_advance Po σ 133 [some (Zr 137)] []) ∧ (¬ (σ.1 137 3) ≤ (σ.1 137 6) → am_U x m_Sc_sortAt (fun ro6 so6 σ6 => ∃ z6 : Int, ro6 = some (Zi z6) ∧ so6 = am_SH ∧ am_r z6 ∧ am_r (σ6.1 137 4) ∧ ((¬ z6 = (σ6.1 137 4) → am_U x m_Sc_advance Po σ6 133 [some (Zr 137)] []) ∧ (z6 = (σ6.1 137 4) → (∀ σ7 : am_St, σ7 = (am_up σ6.1 137 6 ((σ6.1 137 6) + 1), σ6.2) → am_U x m_Sc_advance Po σ7 86 [some (Zr 137)] [])))) σ 0 [some (Zr 137), some (Zi (σ.1 137 6)), none] []))))) : am_U x m_Sc_advance Po σ 86 [some (Zr 137)] [] := by
  refine V_aload_n d_Sc_advance_86 rfl ?_
  refine U_geti d_Sc_advance_87 fl_Sc_54 sh_137 ?_
  refine V_iconst d_Sc_advance_90 ?_
  obtain ⟨h10, h⟩ := h
  obtain ⟨ht, hf⟩ := h
  refine V_icmp_eq 133 d_Sc_advance_91 h10 (by decide) (fun h17 => ?_) (fun h17 => ?_)
  · have h := ht h17
    exact h
  · have h := hf h17
    refine V_aload_n d_Sc_advance_94 rfl ?_
    refine U_geti d_Sc_advance_95 fl_Sc_38 sh_137 ?_
    refine V_aload_n d_Sc_advance_98 rfl ?_
    refine U_geti d_Sc_advance_99 fl_Sc_32 sh_137 ?_
    obtain ⟨h11, h⟩ := h
    obtain ⟨h12, h⟩ := h
    obtain ⟨ht, hf⟩ := h
    refine V_icmp_ge 133 d_Sc_advance_102 h11 h12 (fun h16 => ?_) (fun h16 => ?_)
    · have h := ht h16
      exact h
    · have h := hf h16
      refine V_aload_n d_Sc_advance_105 rfl ?_
      refine V_aload_n d_Sc_advance_106 rfl ?_
      refine U_geti d_Sc_advance_107 fl_Sc_38 sh_137 ?_
      refine U_iv1 cv_Sc_advance_120 d_Sc_advance_110 sh_137 rfl rfl (am_mono h ?_)
      rintro ro6 so6 σ6 ⟨z6, rfl, rfl, h⟩
      refine V_aload_n d_Sc_advance_113 rfl ?_
      refine U_geti d_Sc_advance_114 fl_Sc_54 sh_137 ?_
      obtain ⟨h13, h⟩ := h
      obtain ⟨h14, h⟩ := h
      obtain ⟨ht, hf⟩ := h
      refine V_icmp_ne 133 d_Sc_advance_117 h13 h14 (fun h15 => ?_) (fun h15 => ?_)
      · have h := ht h15
        exact h
      · have h := hf h15
        refine V_aload_n d_Sc_advance_120 rfl ?_
        refine V_dup d_Sc_advance_121 ?_
        refine U_geti d_Sc_advance_122 fl_Sc_38 sh_137 ?_
        refine V_iconst d_Sc_advance_125 ?_
        refine V_iadd d_Sc_advance_126 ?_
        refine U_puti d_Sc_advance_127 fw_Sc_38 sh_137 ?_
        have h := h _ rfl
        refine V_goto 86 d_Sc_advance_130 ?_
        exact h
theorem s_Sc_advance_133 {x : am_Sc} {Po : Option am_AV → am_Sh → am_St → Prop} {σ : am_St}
    (h : am_r (σ.1 137 4) ∧ ((¬ (σ.1 137 4) = 2 → am_U x m_Sc_advance Po σ 150 [none] [Zi (-1), Zr 137]) ∧ ((σ.1 137 4) = 2 → am_U x m_Sc_numberHere (fun ro8 so8 σ8 => ∃ z8 : Int, ro8 = some (Zi z8) ∧ so8 = am_SH ∧ am_U x m_Sc_advance Po σ8 150 [none] [Zi z8, Zr 137]) σ 0 [some (Zr 137), none, none] []))) : am_U x m_Sc_advance Po σ 133 [some (Zr 137)] [] := by
  refine V_aload_n d_Sc_advance_133 rfl ?_
  refine V_aload_n d_Sc_advance_134 rfl ?_
  refine U_geti d_Sc_advance_135 fl_Sc_54 sh_137 ?_
  refine V_iconst d_Sc_advance_138 ?_
  obtain ⟨h18, h⟩ := h
  obtain ⟨ht, hf⟩ := h
  refine V_icmp_ne 149 d_Sc_advance_139 h18 (by decide) (fun h19 => ?_) (fun h19 => ?_)
  · have h := ht h19
    refine V_iconst d_Sc_advance_149 ?_
    refine V_drop 0 ?_
    exact h
  · have h := hf h19
    refine V_aload_n d_Sc_advance_142 rfl ?_
    refine U_iv0 cv_Sc_advance_124 d_Sc_advance_143 sh_137 rfl rfl (am_mono h ?_)
    rintro ro8 so8 σ8 ⟨z8, rfl, rfl, h⟩
    refine V_goto 150 d_Sc_advance_146 ?_
    refine V_drop 0 ?_
    exact h
theorem s_Sc_advance_150 {x : am_Sc} {Po : Option am_AV → am_Sh → am_St → Prop} {σ : am_St} {vk1 : Int}
    (h : (∀ σ9 : am_St, σ9 = (am_up σ.1 137 7 vk1, σ.2) → Po none am_SH σ9)) : am_U x m_Sc_advance Po σ 150 [none] [Zi vk1, Zr 137] := by
  refine U_puti d_Sc_advance_150 fw_Sc_102 sh_137 ?_
  have h := h _ rfl
  exact V_ret d_Sc_advance_153 rfl rfl h
theorem s_Sc_sortAt_0 {x : am_Sc} {Po : Option am_AV → am_Sh → am_St → Prop} {σ : am_St} {v1 : Int}
    (h : am_r v1 ∧ am_r (σ.1 137 3) ∧ ((v1 < (σ.1 137 3) → (0 ≤ v1 ∧ v1 < 160) ∧ am_r (σ.1 138 v1.toNat) ∧ (((σ.1 138 v1.toNat) < 97 → am_U x m_Sc_sortAt Po σ 31 [none, none, some (Zi (σ.1 138 v1.toNat))] []) ∧ (¬ (σ.1 138 v1.toNat) < 97 → ((122 < (σ.1 138 v1.toNat) → am_U x m_Sc_sortAt Po σ 31 [none, none, some (Zi (σ.1 138 v1.toNat))] []) ∧ (¬ 122 < (σ.1 138 v1.toNat) → Po (some (Zi 1)) am_SH σ))))) ∧ (¬ v1 < (σ.1 137 3) → Po (some (Zi 0)) am_SH σ))) : am_U x m_Sc_sortAt Po σ 0 [some (Zr 137), some (Zi v1), none] [] := by
  refine V_iload_n d_Sc_sortAt_0 rfl ?_
  refine V_aload_n d_Sc_sortAt_1 rfl ?_
  refine U_geti d_Sc_sortAt_2 fl_Sc_32 sh_137 ?_
  obtain ⟨h1, h⟩ := h
  obtain ⟨h2, h⟩ := h
  obtain ⟨ht, hf⟩ := h
  refine V_icmp_lt 10 d_Sc_sortAt_5 h1 h2 (fun h7 => ?_) (fun h7 => ?_)
  · have h := ht h7
    refine V_aload_n d_Sc_sortAt_10 rfl ?_
    refine U_geta d_Sc_sortAt_11 fl_Sc_9 sh_137 rfl ?_
    refine V_iload_n d_Sc_sortAt_14 rfl ?_
    obtain ⟨h3, h⟩ := h
    refine U_iald d_Sc_sortAt_15 sh_138 h3 ?_
    refine V_istore_n d_Sc_sortAt_16 rfl ?_
    refine V_iload_n d_Sc_sortAt_17 rfl ?_
    refine V_bipush d_Sc_sortAt_18 ?_
    obtain ⟨h4, h⟩ := h
    obtain ⟨ht, hf⟩ := h
    refine V_icmp_lt 31 d_Sc_sortAt_20 h4 (by decide) (fun h6 => ?_) (fun h6 => ?_)
    · have h := ht h6
      refine V_drop 0 ?_
      refine V_drop 1 ?_
      exact h
    · have h := hf h6
      refine V_iload_n d_Sc_sortAt_23 rfl ?_
      refine V_bipush d_Sc_sortAt_24 ?_
      obtain ⟨ht, hf⟩ := h
      refine V_icmp_gt 31 d_Sc_sortAt_26 h4 (by decide) (fun h5 => ?_) (fun h5 => ?_)
      · have h := ht h5
        refine V_drop 0 ?_
        refine V_drop 1 ?_
        exact h
      · have h := hf h5
        refine V_iconst d_Sc_sortAt_29 ?_
        exact V_iret d_Sc_sortAt_30 rfl rfl h
  · have h := hf h7
    refine V_iconst d_Sc_sortAt_8 ?_
    exact V_iret d_Sc_sortAt_9 rfl rfl h
theorem s_Sc_sortAt_31 {x : am_Sc} {Po : Option am_AV → am_Sh → am_St → Prop} {σ : am_St} {v2 : Int}
    (h : am_r v2 ∧ ((v2 < 48 → am_U x m_Sc_sortAt Po σ 47 [none, none, none] []) ∧ (¬ v2 < 48 → ((57 < v2 → am_U x m_Sc_sortAt Po σ 47 [none, none, none] []) ∧ (¬ 57 < v2 → am_U x m_Sc_sortAt Po σ 48 [none, none, none] [Zi 2]))))) : am_U x m_Sc_sortAt Po σ 31 [none, none, some (Zi v2)] [] := by
  refine V_iload_n d_Sc_sortAt_31 rfl ?_
  refine V_bipush d_Sc_sortAt_32 ?_
  obtain ⟨h8, h⟩ := h
  obtain ⟨ht, hf⟩ := h
  refine V_icmp_lt 47 d_Sc_sortAt_34 h8 (by decide) (fun h10 => ?_) (fun h10 => ?_)
  · have h := ht h10
    refine V_drop 2 ?_
    exact h
  · have h := hf h10
    refine V_iload_n d_Sc_sortAt_37 rfl ?_
    refine V_bipush d_Sc_sortAt_38 ?_
    obtain ⟨ht, hf⟩ := h
    refine V_icmp_gt 47 d_Sc_sortAt_40 h8 (by decide) (fun h9 => ?_) (fun h9 => ?_)
    · have h := ht h9
      refine V_drop 2 ?_
      exact h
    · have h := hf h9
      refine V_iconst d_Sc_sortAt_43 ?_
      refine V_goto 48 d_Sc_sortAt_44 ?_
      refine V_drop 2 ?_
      exact h
theorem s_Sc_sortAt_47 {x : am_Sc} {Po : Option am_AV → am_Sh → am_St → Prop} {σ : am_St}
    (h : am_U x m_Sc_sortAt Po σ 48 [none, none, none] [Zi 3]) : am_U x m_Sc_sortAt Po σ 47 [none, none, none] [] := by
  refine V_iconst d_Sc_sortAt_47 ?_
  exact h
theorem s_Sc_sortAt_48 {x : am_Sc} {Po : Option am_AV → am_Sh → am_St → Prop} {σ : am_St} {vk0 : Int}
    (h : Po (some (Zi vk0)) am_SH σ) : am_U x m_Sc_sortAt Po σ 48 [none, none, none] [Zi vk0] := by
  exact V_iret d_Sc_sortAt_48 rfl rfl h
theorem s_Sc_numberHere_0 {x : am_Sc} {Po : Option am_AV → am_Sh → am_St → Prop} {σ : am_St}
    (h : am_r ((σ.1 137 6) - (σ.1 137 5)) ∧ ((((σ.1 137 6) - (σ.1 137 5)) ≤ 4 → am_U x m_Sc_numberHere Po σ 22 [some (Zr 137), some (Zi 0), some (Zi (σ.1 137 5))] []) ∧ (¬ ((σ.1 137 6) - (σ.1 137 5)) ≤ 4 → Po (some (Zi (-1))) am_SH σ))) : am_U x m_Sc_numberHere Po σ 0 [some (Zr 137), none, none] [] := by
  refine V_aload_n d_Sc_numberHere_0 rfl ?_
  refine U_geti d_Sc_numberHere_1 fl_Sc_38 sh_137 ?_
  refine V_aload_n d_Sc_numberHere_4 rfl ?_
  refine U_geti d_Sc_numberHere_5 fl_Sc_51 sh_137 ?_
  refine V_isub d_Sc_numberHere_8 ?_
  refine V_iconst d_Sc_numberHere_9 ?_
  obtain ⟨h1, h⟩ := h
  obtain ⟨ht, hf⟩ := h
  refine V_icmp_le 15 d_Sc_numberHere_10 h1 (by decide) (fun h2 => ?_) (fun h2 => ?_)
  · have h := ht h2
    refine V_iconst d_Sc_numberHere_15 ?_
    refine V_istore_n d_Sc_numberHere_16 rfl ?_
    refine V_aload_n d_Sc_numberHere_17 rfl ?_
    refine U_geti d_Sc_numberHere_18 fl_Sc_51 sh_137 ?_
    refine V_istore_n d_Sc_numberHere_21 rfl ?_
    exact h
  · have h := hf h2
    refine V_iconst d_Sc_numberHere_13 ?_
    exact V_iret d_Sc_numberHere_14 rfl rfl h
theorem s_Sc_numberHere_22 {x : am_Sc} {Po : Option am_AV → am_Sh → am_St → Prop} {σ : am_St} {v1 v2 : Int}
    (h : am_r v2 ∧ am_r (σ.1 137 6) ∧ (((σ.1 137 6) ≤ v2 → Po (some (Zi v1)) am_SH σ) ∧ (¬ (σ.1 137 6) ≤ v2 → (0 ≤ v2 ∧ v2 < 160) ∧ am_U x m_Sc_numberHere Po σ 22 [some (Zr 137), some (Zi (((10 * v1) + (σ.1 138 v2.toNat)) - 48)), some (Zi (v2 + 1))] []))) : am_U x m_Sc_numberHere Po σ 22 [some (Zr 137), some (Zi v1), some (Zi v2)] [] := by
  refine V_iload_n d_Sc_numberHere_22 rfl ?_
  refine V_aload_n d_Sc_numberHere_23 rfl ?_
  refine U_geti d_Sc_numberHere_24 fl_Sc_38 sh_137 ?_
  obtain ⟨h3, h⟩ := h
  obtain ⟨h4, h⟩ := h
  obtain ⟨ht, hf⟩ := h
  refine V_icmp_ge 51 d_Sc_numberHere_27 h3 h4 (fun h6 => ?_) (fun h6 => ?_)
  · have h := ht h6
    refine V_iload_n d_Sc_numberHere_51 rfl ?_
    exact V_iret d_Sc_numberHere_52 rfl rfl h
  · have h := hf h6
    refine V_bipush d_Sc_numberHere_30 ?_
    refine V_iload_n d_Sc_numberHere_32 rfl ?_
    refine V_imul d_Sc_numberHere_33 ?_
    refine V_aload_n d_Sc_numberHere_34 rfl ?_
    refine U_geta d_Sc_numberHere_35 fl_Sc_9 sh_137 rfl ?_
    refine V_iload_n d_Sc_numberHere_38 rfl ?_
    obtain ⟨h5, h⟩ := h
    refine U_iald d_Sc_numberHere_39 sh_138 h5 ?_
    refine V_iadd d_Sc_numberHere_40 ?_
    refine V_bipush d_Sc_numberHere_41 ?_
    refine V_isub d_Sc_numberHere_43 ?_
    refine V_istore_n d_Sc_numberHere_44 rfl ?_
    refine V_iinc d_Sc_numberHere_45 rfl rfl ?_
    refine V_goto 22 d_Sc_numberHere_48 ?_
    exact h
theorem s_Sc_readStatement_0 {x : am_Sc} {Po : Option am_AV → am_Sh → am_St → Prop} {σ : am_St}
    (h : am_U x m_Sc_verbHere (fun ro1 so1 σ1 => ∃ z1 : Int, ro1 = some (Zi z1) ∧ so1 = am_SH ∧ am_r z1 ∧ ((¬ z1 = (-1) → (0 ≤ σ1.1 137 8 ∧ σ1.1 137 8 < 40) ∧ (∀ σ2 : am_St, σ2 = (am_up σ1.1 139 (σ1.1 137 8).toNat z1, σ1.2) → am_U x m_Sc_advance (fun ro3 so3 σ3 => ro3 = none ∧ so3 = am_SH ∧ (((z1 < 0 ∨ 3 < z1) → am_U x m_Sc_readFirst (fun ro4 so4 σ4 => ∃ z4 : Int, ro4 = some (Zi z4) ∧ so4 = am_SH ∧ am_r z4 ∧ ((z4 = 0 → am_U x m_Sc_readStatement Po σ4 184 [none, none] []) ∧ (¬ z4 = 0 → am_U x m_Sc_readCells (fun ro5 so5 σ5 => ∃ z5 : Int, ro5 = some (Zi z5) ∧ so5 = am_SH ∧ am_r z5 ∧ ((z5 = 0 → am_U x m_Sc_readStatement Po σ5 184 [none, none] []) ∧ (¬ z5 = 0 → am_U x m_Sc_readStatement Po σ5 185 [none, none] [Zi 1]))) σ4 0 [some (Zr 137), none, none, none, none] []))) σ3 0 [some (Zr 137), some (Zi 0), some (Zi 7)] []) ∧ (z1 = 0 → am_U x m_Sc_readFirst (fun ro6 so6 σ6 => ∃ z6 : Int, ro6 = some (Zi z6) ∧ so6 = am_SH ∧ am_r z6 ∧ ((z6 = 0 → am_U x m_Sc_readStatement Po σ6 80 [none, none] []) ∧ (¬ z6 = 0 → am_U x m_Sc_readSecond (fun ro7 so7 σ7 => ∃ z7 : Int, ro7 = some (Zi z7) ∧ so7 = am_SH ∧ am_r z7 ∧ ((z7 = 0 → am_U x m_Sc_readStatement Po σ7 80 [none, none] []) ∧ (¬ z7 = 0 → am_U x m_Sc_readStatement Po σ7 81 [none, none] [Zi 1]))) σ6 0 [some (Zr 137), some (Zi 1), some (Zi 60)] []))) σ3 0 [some (Zr 137), some (Zi 0), some (Zi 7)] []) ∧ (z1 = 1 → am_U x m_Sc_readFirst (fun ro8 so8 σ8 => ∃ z8 : Int, ro8 = some (Zi z8) ∧ so8 = am_SH ∧ (z8 = 0 ∨ z8 = 1) ∧ Po (some (Zi z8)) am_SH σ8) σ3 0 [some (Zr 137), some (Zi 1), some (Zi 10)] []) ∧ (z1 = 2 → am_U x m_Sc_readFirst (fun ro9 so9 σ9 => ∃ z9 : Int, ro9 = some (Zi z9) ∧ so9 = am_SH ∧ am_r z9 ∧ ((z9 = 0 → am_U x m_Sc_readStatement Po σ9 128 [none, none] []) ∧ (¬ z9 = 0 → am_U x m_Sc_readSecond (fun ro10 so10 σ10 => ∃ z10 : Int, ro10 = some (Zi z10) ∧ so10 = am_SH ∧ am_r z10 ∧ ((z10 = 0 → am_U x m_Sc_readStatement Po σ10 128 [none, none] []) ∧ (¬ z10 = 0 → am_U x m_Sc_readStatement Po σ10 129 [none, none] [Zi 1]))) σ9 0 [some (Zr 137), some (Zi 0), some (Zi ((σ9.1 1 0) - 1))] []))) σ3 0 [some (Zr 137), some (Zi 0), some (Zi ((σ3.1 8 3) - 1))] []) ∧ (z1 = 3 → am_U x m_Sc_readFirst (fun ro11 so11 σ11 => ∃ z11 : Int, ro11 = some (Zi z11) ∧ so11 = am_SH ∧ am_r z11 ∧ ((z11 = 0 → am_U x m_Sc_readStatement Po σ11 161 [none, none] []) ∧ (¬ z11 = 0 → am_U x m_Sc_readSecond (fun ro12 so12 σ12 => ∃ z12 : Int, ro12 = some (Zi z12) ∧ so12 = am_SH ∧ am_r z12 ∧ ((z12 = 0 → am_U x m_Sc_readStatement Po σ12 161 [none, none] []) ∧ (¬ z12 = 0 → am_U x m_Sc_readStatement Po σ12 162 [none, none] [Zi 1]))) σ11 0 [some (Zr 137), some (Zi 0), some (Zi 99)] []))) σ3 0 [some (Zr 137), some (Zi 0), some (Zi ((σ3.1 8 0) - 1))] []))) σ2 0 [some (Zr 137)] [])) ∧ (z1 = (-1) → Po (some (Zi 0)) am_SH σ1))) σ 0 [some (Zr 137), none] []) : am_U x m_Sc_readStatement Po σ 0 [some (Zr 137), none] [] := by
  refine V_aload_n d_Sc_readStatement_0 rfl ?_
  refine U_iv0 cv_Sc_readStatement_57 d_Sc_readStatement_1 sh_137 rfl rfl (am_mono h ?_)
  rintro ro1 so1 σ1 ⟨z1, rfl, rfl, h⟩
  refine V_istore_n d_Sc_readStatement_4 rfl ?_
  refine V_iload_n d_Sc_readStatement_5 rfl ?_
  refine V_iconst d_Sc_readStatement_6 ?_
  obtain ⟨h1, h⟩ := h
  obtain ⟨ht, hf⟩ := h
  refine V_icmp_ne 12 d_Sc_readStatement_7 h1 (by decide) (fun h20 => ?_) (fun h20 => ?_)
  · have h := ht h20
    refine V_aload_n d_Sc_readStatement_12 rfl ?_
    refine U_geta d_Sc_readStatement_13 fl_Sc_15 sh_137 rfl ?_
    refine V_aload_n d_Sc_readStatement_16 rfl ?_
    refine U_geti d_Sc_readStatement_17 fl_Sc_41 sh_137 ?_
    refine V_iload_n d_Sc_readStatement_20 rfl ?_
    obtain ⟨h2, h⟩ := h
    refine U_iast d_Sc_readStatement_21 sh_139 h2 ?_
    have h := h _ rfl
    refine V_aload_n d_Sc_readStatement_22 rfl ?_
    refine U_iv0 cv_Sc_readStatement_44 d_Sc_readStatement_23 sh_137 rfl rfl (am_mono h ?_)
    rintro ro3 so3 σ3 ⟨rfl, rfl, h⟩
    refine V_iload_n d_Sc_readStatement_26 rfl ?_
    obtain ⟨hd9, h⟩ := h
    by_cases hq9 : z1 < 0 ∨ 3 < z1
    · have h := hd9 hq9
      refine V_tabOut 163 d_Sc_readStatement_27 h1 hq9 ?_
      refine V_aload_n d_Sc_readStatement_163 rfl ?_
      refine V_iconst d_Sc_readStatement_164 ?_
      refine V_bipush d_Sc_readStatement_165 ?_
      refine U_iv2 cv_Sc_readStatement_61 d_Sc_readStatement_167 sh_137 rfl rfl (am_mono h ?_)
      rintro ro4 so4 σ4 ⟨z4, rfl, rfl, h⟩
      obtain ⟨h3, h⟩ := h
      obtain ⟨ht, hf⟩ := h
      refine V_if_eq 184 d_Sc_readStatement_170 h3 (fun h6 => ?_) (fun h6 => ?_)
      · have h := ht h6
        refine V_drop 0 ?_
        refine V_drop 1 ?_
        exact h
      · have h := hf h6
        refine V_aload_n d_Sc_readStatement_173 rfl ?_
        refine U_iv0 cv_Sc_readStatement_81 d_Sc_readStatement_174 sh_137 rfl rfl (am_mono h ?_)
        rintro ro5 so5 σ5 ⟨z5, rfl, rfl, h⟩
        obtain ⟨h4, h⟩ := h
        obtain ⟨ht, hf⟩ := h
        refine V_if_eq 184 d_Sc_readStatement_177 h4 (fun h5 => ?_) (fun h5 => ?_)
        · have h := ht h5
          refine V_drop 0 ?_
          refine V_drop 1 ?_
          exact h
        · have h := hf h5
          refine V_iconst d_Sc_readStatement_180 ?_
          refine V_goto 185 d_Sc_readStatement_181 ?_
          refine V_drop 0 ?_
          refine V_drop 1 ?_
          exact h
    · have ha9 : z1 = 0 ∨ z1 = 1 ∨ z1 = 2 ∨ z1 = 3 := by omega
      rcases ha9 with hc0 | hc1 | hc2 | hc3
      · have h := h.1 hc0
        refine V_tabIn 56 d_Sc_readStatement_27 h1 (by omega) (by omega) (by rw [hc0]; rfl) ?_
        refine V_aload_n d_Sc_readStatement_56 rfl ?_
        refine V_iconst d_Sc_readStatement_57 ?_
        refine V_bipush d_Sc_readStatement_58 ?_
        refine U_iv2 cv_Sc_readStatement_61 d_Sc_readStatement_60 sh_137 rfl rfl (am_mono h ?_)
        rintro ro6 so6 σ6 ⟨z6, rfl, rfl, h⟩
        obtain ⟨h7, h⟩ := h
        obtain ⟨ht, hf⟩ := h
        refine V_if_eq 80 d_Sc_readStatement_63 h7 (fun h10 => ?_) (fun h10 => ?_)
        · have h := ht h10
          refine V_drop 0 ?_
          refine V_drop 1 ?_
          exact h
        · have h := hf h10
          refine V_aload_n d_Sc_readStatement_66 rfl ?_
          refine V_iconst d_Sc_readStatement_67 ?_
          refine V_bipush d_Sc_readStatement_68 ?_
          refine U_iv2 cv_Sc_readStatement_65 d_Sc_readStatement_70 sh_137 rfl rfl (am_mono h ?_)
          rintro ro7 so7 σ7 ⟨z7, rfl, rfl, h⟩
          obtain ⟨h8, h⟩ := h
          obtain ⟨ht, hf⟩ := h
          refine V_if_eq 80 d_Sc_readStatement_73 h8 (fun h9 => ?_) (fun h9 => ?_)
          · have h := ht h9
            refine V_drop 0 ?_
            refine V_drop 1 ?_
            exact h
          · have h := hf h9
            refine V_iconst d_Sc_readStatement_76 ?_
            refine V_goto 81 d_Sc_readStatement_77 ?_
            refine V_drop 0 ?_
            refine V_drop 1 ?_
            exact h
      · have h := h.2.1 hc1
        refine V_tabIn 82 d_Sc_readStatement_27 h1 (by omega) (by omega) (by rw [hc1]; rfl) ?_
        refine V_aload_n d_Sc_readStatement_82 rfl ?_
        refine V_iconst d_Sc_readStatement_83 ?_
        refine V_bipush d_Sc_readStatement_84 ?_
        refine U_iv2 cv_Sc_readStatement_61 d_Sc_readStatement_86 sh_137 rfl rfl (am_mono h ?_)
        rintro ro8 so8 σ8 ⟨z8, rfl, rfl, h⟩
        obtain ⟨h11, h⟩ := h
        exact V_zret d_Sc_readStatement_89 rfl rfl h11 h
      · have h := h.2.2.1 hc2
        refine V_tabIn 90 d_Sc_readStatement_27 h1 (by omega) (by omega) (by rw [hc2]; rfl) ?_
        refine V_aload_n d_Sc_readStatement_90 rfl ?_
        refine V_iconst d_Sc_readStatement_91 ?_
        refine V_aload_n d_Sc_readStatement_92 rfl ?_
        refine U_geta d_Sc_readStatement_93 fl_Sc_28 sh_137 rfl ?_
        refine U_geti d_Sc_readStatement_96 fl_Sc_68 sh_8 ?_
        refine V_iconst d_Sc_readStatement_99 ?_
        refine V_isub d_Sc_readStatement_100 ?_
        refine U_iv2 cv_Sc_readStatement_61 d_Sc_readStatement_101 sh_137 rfl rfl (am_mono h ?_)
        rintro ro9 so9 σ9 ⟨z9, rfl, rfl, h⟩
        obtain ⟨h12, h⟩ := h
        obtain ⟨ht, hf⟩ := h
        refine V_if_eq 128 d_Sc_readStatement_104 h12 (fun h15 => ?_) (fun h15 => ?_)
        · have h := ht h15
          refine V_drop 0 ?_
          refine V_drop 1 ?_
          exact h
        · have h := hf h15
          refine V_aload_n d_Sc_readStatement_107 rfl ?_
          refine V_iconst d_Sc_readStatement_108 ?_
          refine V_aload_n d_Sc_readStatement_109 rfl ?_
          refine U_geta d_Sc_readStatement_110 fl_Sc_24 sh_137 rfl ?_
          refine U_geti d_Sc_readStatement_113 fl_Sc_73 sh_1 ?_
          refine V_iconst d_Sc_readStatement_116 ?_
          refine V_isub d_Sc_readStatement_117 ?_
          refine U_iv2 cv_Sc_readStatement_65 d_Sc_readStatement_118 sh_137 rfl rfl (am_mono h ?_)
          rintro ro10 so10 σ10 ⟨z10, rfl, rfl, h⟩
          obtain ⟨h13, h⟩ := h
          obtain ⟨ht, hf⟩ := h
          refine V_if_eq 128 d_Sc_readStatement_121 h13 (fun h14 => ?_) (fun h14 => ?_)
          · have h := ht h14
            refine V_drop 0 ?_
            refine V_drop 1 ?_
            exact h
          · have h := hf h14
            refine V_iconst d_Sc_readStatement_124 ?_
            refine V_goto 129 d_Sc_readStatement_125 ?_
            refine V_drop 0 ?_
            refine V_drop 1 ?_
            exact h
      · have h := h.2.2.2 hc3
        refine V_tabIn 130 d_Sc_readStatement_27 h1 (by omega) (by omega) (by rw [hc3]; rfl) ?_
        refine V_aload_n d_Sc_readStatement_130 rfl ?_
        refine V_iconst d_Sc_readStatement_131 ?_
        refine V_aload_n d_Sc_readStatement_132 rfl ?_
        refine U_geta d_Sc_readStatement_133 fl_Sc_28 sh_137 rfl ?_
        refine U_geti d_Sc_readStatement_136 fl_Sc_78 sh_8 ?_
        refine V_iconst d_Sc_readStatement_139 ?_
        refine V_isub d_Sc_readStatement_140 ?_
        refine U_iv2 cv_Sc_readStatement_61 d_Sc_readStatement_141 sh_137 rfl rfl (am_mono h ?_)
        rintro ro11 so11 σ11 ⟨z11, rfl, rfl, h⟩
        obtain ⟨h16, h⟩ := h
        obtain ⟨ht, hf⟩ := h
        refine V_if_eq 161 d_Sc_readStatement_144 h16 (fun h19 => ?_) (fun h19 => ?_)
        · have h := ht h19
          refine V_drop 0 ?_
          refine V_drop 1 ?_
          exact h
        · have h := hf h19
          refine V_aload_n d_Sc_readStatement_147 rfl ?_
          refine V_iconst d_Sc_readStatement_148 ?_
          refine V_bipush d_Sc_readStatement_149 ?_
          refine U_iv2 cv_Sc_readStatement_65 d_Sc_readStatement_151 sh_137 rfl rfl (am_mono h ?_)
          rintro ro12 so12 σ12 ⟨z12, rfl, rfl, h⟩
          obtain ⟨h17, h⟩ := h
          obtain ⟨ht, hf⟩ := h
          refine V_if_eq 161 d_Sc_readStatement_154 h17 (fun h18 => ?_) (fun h18 => ?_)
          · have h := ht h18
            refine V_drop 0 ?_
            refine V_drop 1 ?_
            exact h
          · have h := hf h18
            refine V_iconst d_Sc_readStatement_157 ?_
            refine V_goto 162 d_Sc_readStatement_158 ?_
            refine V_drop 0 ?_
            refine V_drop 1 ?_
            exact h
  · have h := hf h20
    refine V_iconst d_Sc_readStatement_10 ?_
    exact V_zret d_Sc_readStatement_11 rfl rfl (Or.inl rfl) h
theorem s_Sc_readStatement_184 {x : am_Sc} {Po : Option am_AV → am_Sh → am_St → Prop} {σ : am_St}
    (h : am_U x m_Sc_readStatement Po σ 185 [none, none] [Zi 0]) : am_U x m_Sc_readStatement Po σ 184 [none, none] [] := by
  refine V_iconst d_Sc_readStatement_184 ?_
  exact h
theorem s_Sc_readStatement_185 {x : am_Sc} {Po : Option am_AV → am_Sh → am_St → Prop} {σ : am_St} {vk0 : Int}
    (h : (vk0 = 0 ∨ vk0 = 1) ∧ Po (some (Zi vk0)) am_SH σ) : am_U x m_Sc_readStatement Po σ 185 [none, none] [Zi vk0] := by
  obtain ⟨h21, h⟩ := h
  exact V_zret d_Sc_readStatement_185 rfl rfl h21 h
theorem s_Sc_readStatement_80 {x : am_Sc} {Po : Option am_AV → am_Sh → am_St → Prop} {σ : am_St}
    (h : am_U x m_Sc_readStatement Po σ 81 [none, none] [Zi 0]) : am_U x m_Sc_readStatement Po σ 80 [none, none] [] := by
  refine V_iconst d_Sc_readStatement_80 ?_
  exact h
theorem s_Sc_readStatement_81 {x : am_Sc} {Po : Option am_AV → am_Sh → am_St → Prop} {σ : am_St} {vk0 : Int}
    (h : (vk0 = 0 ∨ vk0 = 1) ∧ Po (some (Zi vk0)) am_SH σ) : am_U x m_Sc_readStatement Po σ 81 [none, none] [Zi vk0] := by
  obtain ⟨h22, h⟩ := h
  exact V_zret d_Sc_readStatement_81 rfl rfl h22 h
theorem s_Sc_readStatement_128 {x : am_Sc} {Po : Option am_AV → am_Sh → am_St → Prop} {σ : am_St}
    (h : am_U x m_Sc_readStatement Po σ 129 [none, none] [Zi 0]) : am_U x m_Sc_readStatement Po σ 128 [none, none] [] := by
  refine V_iconst d_Sc_readStatement_128 ?_
  exact h
theorem s_Sc_readStatement_129 {x : am_Sc} {Po : Option am_AV → am_Sh → am_St → Prop} {σ : am_St} {vk0 : Int}
    (h : (vk0 = 0 ∨ vk0 = 1) ∧ Po (some (Zi vk0)) am_SH σ) : am_U x m_Sc_readStatement Po σ 129 [none, none] [Zi vk0] := by
  obtain ⟨h23, h⟩ := h
  exact V_zret d_Sc_readStatement_129 rfl rfl h23 h
theorem s_Sc_readStatement_161 {x : am_Sc} {Po : Option am_AV → am_Sh → am_St → Prop} {σ : am_St}
    (h : am_U x m_Sc_readStatement Po σ 162 [none, none] [Zi 0]) : am_U x m_Sc_readStatement Po σ 161 [none, none] [] := by
  refine V_iconst d_Sc_readStatement_161 ?_
  exact h
theorem s_Sc_readStatement_162 {x : am_Sc} {Po : Option am_AV → am_Sh → am_St → Prop} {σ : am_St} {vk0 : Int}
    (h : (vk0 = 0 ∨ vk0 = 1) ∧ Po (some (Zi vk0)) am_SH σ) : am_U x m_Sc_readStatement Po σ 162 [none, none] [Zi vk0] := by
  obtain ⟨h24, h⟩ := h
  exact V_zret d_Sc_readStatement_162 rfl rfl h24 h
theorem s_Sc_verbHere_0 {x : am_Sc} {Po : Option am_AV → am_Sh → am_St → Prop} {σ : am_St}
    (h : am_U x m_Sc_verbHere Po σ 2 [some (Zr 137), some (Zi 0)] []) : am_U x m_Sc_verbHere Po σ 0 [some (Zr 137), none] [] := by
  refine V_iconst d_Sc_verbHere_0 ?_
  refine V_istore_n d_Sc_verbHere_1 rfl ?_
  exact h
theorem s_Sc_verbHere_2 {x : am_Sc} {Po : Option am_AV → am_Sh → am_St → Prop} {σ : am_St} {v1 : Int}
    (h : am_r v1 ∧ ((5 ≤ v1 → Po (some (Zi (-1))) am_SH σ) ∧ (¬ 5 ≤ v1 → am_U x m_Sc_wordOf (fun ro1 so1 σ1 => ∃ z1 : Nat, ro1 = some (Zr (1000001 + z1)) ∧ so1 = am_SH ∧ z1 < 7 ∧ am_U x m_Sc_isWord (fun ro2 so2 σ2 => ∃ z2 : Int, ro2 = some (Zi z2) ∧ so2 = am_SH ∧ am_r z2 ∧ ((z2 = 0 → am_U x m_Sc_verbHere Po σ2 2 [some (Zr 137), some (Zi (v1 + 1))] []) ∧ (¬ z2 = 0 → Po (some (Zi v1)) am_SH σ2))) σ1 0 [some (Zr 137), some (Zr (1000001 + z1)), none] []) σ 0 [some (Zi v1)] []))) : am_U x m_Sc_verbHere Po σ 2 [some (Zr 137), some (Zi v1)] [] := by
  refine V_iload_n d_Sc_verbHere_2 rfl ?_
  refine V_iconst d_Sc_verbHere_3 ?_
  obtain ⟨h1, h⟩ := h
  obtain ⟨ht, hf⟩ := h
  refine V_icmp_ge 26 d_Sc_verbHere_4 h1 (by decide) (fun h4 => ?_) (fun h4 => ?_)
  · have h := ht h4
    refine V_iconst d_Sc_verbHere_26 ?_
    exact V_iret d_Sc_verbHere_27 rfl rfl h
  · have h := hf h4
    refine V_aload_n d_Sc_verbHere_7 rfl ?_
    refine V_iload_n d_Sc_verbHere_8 rfl ?_
    refine U_is1 cv_Sc_verbHere_84 d_Sc_verbHere_9  rfl (am_mono h ?_)
    rintro ro1 so1 σ1 ⟨z1, rfl, rfl, hi1, h⟩
    refine U_iv1 cv_Sc_verbHere_88 d_Sc_verbHere_12 sh_137 rfl rfl (am_mono h ?_)
    rintro ro2 so2 σ2 ⟨z2, rfl, rfl, h⟩
    obtain ⟨h2, h⟩ := h
    obtain ⟨ht, hf⟩ := h
    refine V_if_eq 20 d_Sc_verbHere_15 h2 (fun h3 => ?_) (fun h3 => ?_)
    · have h := ht h3
      refine V_iinc d_Sc_verbHere_20 rfl rfl ?_
      refine V_goto 2 d_Sc_verbHere_23 ?_
      exact h
    · have h := hf h3
      refine V_iload_n d_Sc_verbHere_18 rfl ?_
      exact V_iret d_Sc_verbHere_19 rfl rfl h
theorem s_Sc_wordOf_0 {x : am_Sc} {Po : Option am_AV → am_Sh → am_St → Prop} {σ : am_St} {v0 : Int}
    (h : am_r v0 ∧ (((v0 < 0 ∨ 3 < v0) → Po (some (Zr (1000001 + 4))) am_SH σ) ∧ (v0 = 0 → Po (some (Zr (1000001 + 0))) am_SH σ) ∧ (v0 = 1 → Po (some (Zr (1000001 + 1))) am_SH σ) ∧ (v0 = 2 → Po (some (Zr (1000001 + 2))) am_SH σ) ∧ (v0 = 3 → Po (some (Zr (1000001 + 3))) am_SH σ))) : am_U x m_Sc_wordOf Po σ 0 [some (Zi v0)] [] := by
  refine V_iload_n d_Sc_wordOf_0 rfl ?_
  obtain ⟨h1, h⟩ := h
  obtain ⟨hd9, h⟩ := h
  by_cases hq9 : v0 < 0 ∨ 3 < v0
  · have h := hd9 hq9
    refine V_tabOut 44 d_Sc_wordOf_1 h1 hq9 ?_
    refine V_ldcS (i := 4) (tx := "split") d_Sc_wordOf_44 (by decide +kernel) rfl ?_
    exact V_aret d_Sc_wordOf_46 rfl rfl h
  · have ha9 : v0 = 0 ∨ v0 = 1 ∨ v0 = 2 ∨ v0 = 3 := by omega
    rcases ha9 with hc0 | hc1 | hc2 | hc3
    · have h := h.1 hc0
      refine V_tabIn 32 d_Sc_wordOf_1 h1 (by omega) (by omega) (by rw [hc0]; rfl) ?_
      refine V_ldcS (i := 0) (tx := "slow") d_Sc_wordOf_32 (by decide +kernel) rfl ?_
      exact V_aret d_Sc_wordOf_34 rfl rfl h
    · have h := h.2.1 hc1
      refine V_tabIn 35 d_Sc_wordOf_1 h1 (by omega) (by omega) (by rw [hc1]; rfl) ?_
      refine V_ldcS (i := 1) (tx := "fit") d_Sc_wordOf_35 (by decide +kernel) rfl ?_
      exact V_aret d_Sc_wordOf_37 rfl rfl h
    · have h := h.2.2.1 hc2
      refine V_tabIn 38 d_Sc_wordOf_1 h1 (by omega) (by omega) (by rw [hc2]; rfl) ?_
      refine V_ldcS (i := 2) (tx := "move") d_Sc_wordOf_38 (by decide +kernel) rfl ?_
      exact V_aret d_Sc_wordOf_40 rfl rfl h
    · have h := h.2.2.2 hc3
      refine V_tabIn 41 d_Sc_wordOf_1 h1 (by omega) (by omega) (by rw [hc3]; rfl) ?_
      refine V_ldcS (i := 3) (tx := "clock") d_Sc_wordOf_41 (by decide +kernel) rfl ?_
      exact V_aret d_Sc_wordOf_43 rfl rfl h
theorem s_Sc_isWord_0 {x : am_Sc} {Po : Option am_AV → am_Sh → am_St → Prop} {σ : am_St} {i1 : Nat} (hi1 : i1 < 7)
    (h : am_r (σ.1 137 4) ∧ ((¬ (σ.1 137 4) = 1 → am_U x m_Sc_isWord Po σ 24 [none, none, none] []) ∧ ((σ.1 137 4) = 1 → am_U x m_St_length (fun ro1 so1 σ1 => ∃ z1 : Int, ro1 = some (Zi z1) ∧ so1 = am_SH ∧ am_r ((σ.1 137 6) - (σ.1 137 5)) ∧ am_r z1 ∧ ((((σ.1 137 6) - (σ.1 137 5)) = z1 → am_U x m_Sc_isWord Po σ1 28 [some (Zr 137), some (Zr (1000001 + i1)), some (Zi 0)] []) ∧ (¬ ((σ.1 137 6) - (σ.1 137 5)) = z1 → am_U x m_Sc_isWord Po σ1 24 [none, none, none] []))) σ 0 [some (Zr (1000001 + i1))] []))) : am_U x m_Sc_isWord Po σ 0 [some (Zr 137), some (Zr (1000001 + i1)), none] [] := by
  refine V_aload_n d_Sc_isWord_0 rfl ?_
  refine U_geti d_Sc_isWord_1 fl_Sc_54 sh_137 ?_
  refine V_iconst d_Sc_isWord_4 ?_
  obtain ⟨h1, h⟩ := h
  obtain ⟨ht, hf⟩ := h
  refine V_icmp_ne 24 d_Sc_isWord_5 h1 (by decide) (fun h5 => ?_) (fun h5 => ?_)
  · have h := ht h5
    refine V_drop 0 ?_
    refine V_drop 1 ?_
    exact h
  · have h := hf h5
    refine V_aload_n d_Sc_isWord_8 rfl ?_
    refine U_geti d_Sc_isWord_9 fl_Sc_38 sh_137 ?_
    refine V_aload_n d_Sc_isWord_12 rfl ?_
    refine U_geti d_Sc_isWord_13 fl_Sc_51 sh_137 ?_
    refine V_isub d_Sc_isWord_16 ?_
    refine V_aload_n d_Sc_isWord_17 rfl ?_
    refine U_iT0 cv_Sc_isWord_112 d_Sc_isWord_18 hi1 rfl rfl (am_mono h ?_)
    rintro ro1 so1 σ1 ⟨z1, rfl, rfl, h⟩
    obtain ⟨h2, h⟩ := h
    obtain ⟨h3, h⟩ := h
    obtain ⟨ht, hf⟩ := h
    refine V_icmp_eq 26 d_Sc_isWord_21 h2 h3 (fun h4 => ?_) (fun h4 => ?_)
    · have h := ht h4
      refine V_iconst d_Sc_isWord_26 ?_
      refine V_istore_n d_Sc_isWord_27 rfl ?_
      exact h
    · have h := hf h4
      refine V_drop 0 ?_
      refine V_drop 1 ?_
      exact h
theorem s_Sc_isWord_24 {x : am_Sc} {Po : Option am_AV → am_Sh → am_St → Prop} {σ : am_St}
    (h : Po (some (Zi 0)) am_SH σ) : am_U x m_Sc_isWord Po σ 24 [none, none, none] [] := by
  refine V_iconst d_Sc_isWord_24 ?_
  exact V_zret d_Sc_isWord_25 rfl rfl (Or.inl rfl) h
theorem s_Sc_isWord_28 {x : am_Sc} {Po : Option am_AV → am_Sh → am_St → Prop} {σ : am_St} {i1 : Nat} {v2 : Int} (hi1 : i1 < 7)
    (h : am_U x m_St_length (fun ro2 so2 σ2 => ∃ z2 : Int, ro2 = some (Zi z2) ∧ so2 = am_SH ∧ am_r v2 ∧ am_r z2 ∧ ((z2 ≤ v2 → Po (some (Zi 1)) am_SH σ2) ∧ (¬ z2 ≤ v2 → (0 ≤ (σ2.1 137 5) + v2 ∧ (σ2.1 137 5) + v2 < 160) ∧ am_U x m_St_charAt (fun ro3 so3 σ3 => ∃ z3 : Int, ro3 = some (Zi z3) ∧ so3 = am_SH ∧ am_r (σ2.1 138 ((σ2.1 137 5) + v2).toNat) ∧ am_r z3 ∧ (((σ2.1 138 ((σ2.1 137 5) + v2).toNat) = z3 → am_U x m_Sc_isWord Po σ3 28 [some (Zr 137), some (Zr (1000001 + i1)), some (Zi (v2 + 1))] []) ∧ (¬ (σ2.1 138 ((σ2.1 137 5) + v2).toNat) = z3 → Po (some (Zi 0)) am_SH σ3))) σ2 0 [some (Zr (1000001 + i1)), some (Zi v2)] []))) σ 0 [some (Zr (1000001 + i1))] []) : am_U x m_Sc_isWord Po σ 28 [some (Zr 137), some (Zr (1000001 + i1)), some (Zi v2)] [] := by
  refine V_iload_n d_Sc_isWord_28 rfl ?_
  refine V_aload_n d_Sc_isWord_29 rfl ?_
  refine U_iT0 cv_Sc_isWord_112 d_Sc_isWord_30 hi1 rfl rfl (am_mono h ?_)
  rintro ro2 so2 σ2 ⟨z2, rfl, rfl, h⟩
  obtain ⟨h6, h⟩ := h
  obtain ⟨h7, h⟩ := h
  obtain ⟨ht, hf⟩ := h
  refine V_icmp_ge 63 d_Sc_isWord_33 h6 h7 (fun h12 => ?_) (fun h12 => ?_)
  · have h := ht h12
    refine V_iconst d_Sc_isWord_63 ?_
    exact V_zret d_Sc_isWord_64 rfl rfl (Or.inr rfl) h
  · have h := hf h12
    refine V_aload_n d_Sc_isWord_36 rfl ?_
    refine U_geta d_Sc_isWord_37 fl_Sc_9 sh_137 rfl ?_
    refine V_aload_n d_Sc_isWord_40 rfl ?_
    refine U_geti d_Sc_isWord_41 fl_Sc_51 sh_137 ?_
    refine V_iload_n d_Sc_isWord_44 rfl ?_
    refine V_iadd d_Sc_isWord_45 ?_
    obtain ⟨h8, h⟩ := h
    refine U_iald d_Sc_isWord_46 sh_138 h8 ?_
    refine V_aload_n d_Sc_isWord_47 rfl ?_
    refine V_iload_n d_Sc_isWord_48 rfl ?_
    refine U_iT1 cv_Sc_isWord_116 d_Sc_isWord_49 hi1 rfl rfl (am_mono h ?_)
    rintro ro3 so3 σ3 ⟨z3, rfl, rfl, h⟩
    obtain ⟨h9, h⟩ := h
    obtain ⟨h10, h⟩ := h
    obtain ⟨ht, hf⟩ := h
    refine V_icmp_eq 57 d_Sc_isWord_52 h9 h10 (fun h11 => ?_) (fun h11 => ?_)
    · have h := ht h11
      refine V_iinc d_Sc_isWord_57 rfl rfl ?_
      refine V_goto 28 d_Sc_isWord_60 ?_
      exact h
    · have h := hf h11
      refine V_iconst d_Sc_isWord_55 ?_
      exact V_zret d_Sc_isWord_56 rfl rfl (Or.inl rfl) h
theorem s_Sc_readFirst_0 {x : am_Sc} {Po : Option am_AV → am_Sh → am_St → Prop} {σ : am_St} {v1 v2 : Int}
    (h : (0 ≤ σ.1 137 8 ∧ σ.1 137 8 < 40) ∧ (∀ σ1 : am_St, σ1 = (am_up σ.1 140 (σ.1 137 8).toNat (σ.1 137 7), σ.2) → am_U x m_Sc_passNumber (fun ro2 so2 σ2 => ∃ z2 : Int, ro2 = some (Zi z2) ∧ so2 = am_SH ∧ (z2 = 0 ∨ z2 = 1) ∧ Po (some (Zi z2)) am_SH σ2) σ1 0 [some (Zr 137), some (Zi v1), some (Zi v2)] [])) : am_U x m_Sc_readFirst Po σ 0 [some (Zr 137), some (Zi v1), some (Zi v2)] [] := by
  refine V_aload_n d_Sc_readFirst_0 rfl ?_
  refine U_geta d_Sc_readFirst_1 fl_Sc_18 sh_137 rfl ?_
  refine V_aload_n d_Sc_readFirst_4 rfl ?_
  refine U_geti d_Sc_readFirst_5 fl_Sc_41 sh_137 ?_
  refine V_aload_n d_Sc_readFirst_8 rfl ?_
  refine U_geti d_Sc_readFirst_9 fl_Sc_102 sh_137 ?_
  obtain ⟨h1, h⟩ := h
  refine U_iast d_Sc_readFirst_12 sh_140 h1 ?_
  have h := h _ rfl
  refine V_aload_n d_Sc_readFirst_13 rfl ?_
  refine V_iload_n d_Sc_readFirst_14 rfl ?_
  refine V_iload_n d_Sc_readFirst_15 rfl ?_
  refine U_iv2 cv_Sc_readFirst_105 d_Sc_readFirst_16 sh_137 rfl rfl (am_mono h ?_)
  rintro ro2 so2 σ2 ⟨z2, rfl, rfl, h⟩
  obtain ⟨h2, h⟩ := h
  exact V_zret d_Sc_readFirst_19 rfl rfl h2 h
theorem s_Sc_passNumber_0 {x : am_Sc} {Po : Option am_AV → am_Sh → am_St → Prop} {σ : am_St} {v1 v2 : Int}
    (h : am_r (σ.1 137 4) ∧ ((¬ (σ.1 137 4) = 2 → am_U x m_Sc_passNumber Po σ 24 [none, none, none] []) ∧ ((σ.1 137 4) = 2 → am_r (σ.1 137 7) ∧ am_r v1 ∧ (((σ.1 137 7) < v1 → am_U x m_Sc_passNumber Po σ 24 [none, none, none] []) ∧ (¬ (σ.1 137 7) < v1 → am_r v2 ∧ (((σ.1 137 7) ≤ v2 → am_U x m_Sc_advance (fun ro1 so1 σ1 => ro1 = none ∧ so1 = am_SH ∧ Po (some (Zi 1)) am_SH σ1) σ 0 [some (Zr 137)] []) ∧ (¬ (σ.1 137 7) ≤ v2 → am_U x m_Sc_passNumber Po σ 24 [none, none, none] []))))))) : am_U x m_Sc_passNumber Po σ 0 [some (Zr 137), some (Zi v1), some (Zi v2)] [] := by
  refine V_aload_n d_Sc_passNumber_0 rfl ?_
  refine U_geti d_Sc_passNumber_1 fl_Sc_54 sh_137 ?_
  refine V_iconst d_Sc_passNumber_4 ?_
  obtain ⟨h1, h⟩ := h
  obtain ⟨ht, hf⟩ := h
  refine V_icmp_ne 24 d_Sc_passNumber_5 h1 (by decide) (fun h7 => ?_) (fun h7 => ?_)
  · have h := ht h7
    refine V_drop 0 ?_
    refine V_drop 1 ?_
    refine V_drop 2 ?_
    exact h
  · have h := hf h7
    refine V_aload_n d_Sc_passNumber_8 rfl ?_
    refine U_geti d_Sc_passNumber_9 fl_Sc_102 sh_137 ?_
    refine V_iload_n d_Sc_passNumber_12 rfl ?_
    obtain ⟨h2, h⟩ := h
    obtain ⟨h3, h⟩ := h
    obtain ⟨ht, hf⟩ := h
    refine V_icmp_lt 24 d_Sc_passNumber_13 h2 h3 (fun h6 => ?_) (fun h6 => ?_)
    · have h := ht h6
      refine V_drop 0 ?_
      refine V_drop 1 ?_
      refine V_drop 2 ?_
      exact h
    · have h := hf h6
      refine V_aload_n d_Sc_passNumber_16 rfl ?_
      refine U_geti d_Sc_passNumber_17 fl_Sc_102 sh_137 ?_
      refine V_iload_n d_Sc_passNumber_20 rfl ?_
      obtain ⟨h4, h⟩ := h
      obtain ⟨ht, hf⟩ := h
      refine V_icmp_le 26 d_Sc_passNumber_21 h2 h4 (fun h5 => ?_) (fun h5 => ?_)
      · have h := ht h5
        refine V_aload_n d_Sc_passNumber_26 rfl ?_
        refine U_iv0 cv_Sc_passNumber_44 d_Sc_passNumber_27 sh_137 rfl rfl (am_mono h ?_)
        rintro ro1 so1 σ1 ⟨rfl, rfl, h⟩
        refine V_iconst d_Sc_passNumber_30 ?_
        exact V_zret d_Sc_passNumber_31 rfl rfl (Or.inr rfl) h
      · have h := hf h5
        refine V_drop 0 ?_
        refine V_drop 1 ?_
        refine V_drop 2 ?_
        exact h
theorem s_Sc_passNumber_24 {x : am_Sc} {Po : Option am_AV → am_Sh → am_St → Prop} {σ : am_St}
    (h : Po (some (Zi 0)) am_SH σ) : am_U x m_Sc_passNumber Po σ 24 [none, none, none] [] := by
  refine V_iconst d_Sc_passNumber_24 ?_
  exact V_zret d_Sc_passNumber_25 rfl rfl (Or.inl rfl) h
theorem s_Sc_readSecond_0 {x : am_Sc} {Po : Option am_AV → am_Sh → am_St → Prop} {σ : am_St} {v1 v2 : Int}
    (h : (0 ≤ σ.1 137 8 ∧ σ.1 137 8 < 40) ∧ (∀ σ1 : am_St, σ1 = (am_up σ.1 141 (σ.1 137 8).toNat (σ.1 137 7), σ.2) → am_U x m_Sc_passNumber (fun ro2 so2 σ2 => ∃ z2 : Int, ro2 = some (Zi z2) ∧ so2 = am_SH ∧ (z2 = 0 ∨ z2 = 1) ∧ Po (some (Zi z2)) am_SH σ2) σ1 0 [some (Zr 137), some (Zi v1), some (Zi v2)] [])) : am_U x m_Sc_readSecond Po σ 0 [some (Zr 137), some (Zi v1), some (Zi v2)] [] := by
  refine V_aload_n d_Sc_readSecond_0 rfl ?_
  refine U_geta d_Sc_readSecond_1 fl_Sc_21 sh_137 rfl ?_
  refine V_aload_n d_Sc_readSecond_4 rfl ?_
  refine U_geti d_Sc_readSecond_5 fl_Sc_41 sh_137 ?_
  refine V_aload_n d_Sc_readSecond_8 rfl ?_
  refine U_geti d_Sc_readSecond_9 fl_Sc_102 sh_137 ?_
  obtain ⟨h1, h⟩ := h
  refine U_iast d_Sc_readSecond_12 sh_141 h1 ?_
  have h := h _ rfl
  refine V_aload_n d_Sc_readSecond_13 rfl ?_
  refine V_iload_n d_Sc_readSecond_14 rfl ?_
  refine V_iload_n d_Sc_readSecond_15 rfl ?_
  refine U_iv2 cv_Sc_readSecond_105 d_Sc_readSecond_16 sh_137 rfl rfl (am_mono h ?_)
  rintro ro2 so2 σ2 ⟨z2, rfl, rfl, h⟩
  obtain ⟨h2, h⟩ := h
  exact V_zret d_Sc_readSecond_19 rfl rfl h2 h
theorem s_Sc_readCells_0 {x : am_Sc} {Po : Option am_AV → am_Sh → am_St → Prop} {σ : am_St}
    (h : am_U x m_Sc_isWord (fun ro1 so1 σ1 => ∃ z1 : Int, ro1 = some (Zi z1) ∧ so1 = am_SH ∧ am_r z1 ∧ ((¬ z1 = 0 → am_U x m_Sc_readCells Po σ1 17 [some (Zr 137), some (Zi 0), some (Zi z1), some (Zi 0), none] []) ∧ (z1 = 0 → Po (some (Zi 0)) am_SH σ1))) σ 0 [some (Zr 137), some (Zr (1000001 + 5)), none] []) : am_U x m_Sc_readCells Po σ 0 [some (Zr 137), none, none, none, none] [] := by
  refine V_iconst d_Sc_readCells_0 ?_
  refine V_istore_n d_Sc_readCells_1 rfl ?_
  refine V_aload_n d_Sc_readCells_2 rfl ?_
  refine V_ldcS (i := 5) (tx := "by") d_Sc_readCells_3 (by decide +kernel) rfl ?_
  refine U_iv1 cv_Sc_readCells_88 d_Sc_readCells_5 sh_137 rfl rfl (am_mono h ?_)
  rintro ro1 so1 σ1 ⟨z1, rfl, rfl, h⟩
  refine V_istore_n d_Sc_readCells_8 rfl ?_
  refine V_iload_n d_Sc_readCells_9 rfl ?_
  obtain ⟨h1, h⟩ := h
  obtain ⟨ht, hf⟩ := h
  refine V_if_ne 15 d_Sc_readCells_10 h1 (fun h2 => ?_) (fun h2 => ?_)
  · have h := ht h2
    refine V_iconst d_Sc_readCells_15 ?_
    refine V_istore_n d_Sc_readCells_16 rfl ?_
    exact h
  · have h := hf h2
    refine V_iconst d_Sc_readCells_13 ?_
    exact V_zret d_Sc_readCells_14 rfl rfl (Or.inl rfl) h
theorem s_Sc_readCells_17 {x : am_Sc} {Po : Option am_AV → am_Sh → am_St → Prop} {σ : am_St} {v1 v2 v3 : Int}
    (h : am_r v3 ∧ ((160 ≤ v3 → am_U x m_Sc_readCells Po σ 77 [some (Zr 137), some (Zi v1), none, none, none] []) ∧ (¬ 160 ≤ v3 → am_r v2 ∧ ((v2 = 0 → am_U x m_Sc_readCells Po σ 77 [some (Zr 137), some (Zi v1), none, none, none] []) ∧ (¬ v2 = 0 → am_U x m_Sc_advance (fun ro2 so2 σ2 => ro2 = none ∧ so2 = am_SH ∧ am_U x m_Sc_passNumber (fun ro3 so3 σ3 => ∃ z3 : Int, ro3 = some (Zi z3) ∧ so3 = am_SH ∧ am_r z3 ∧ ((¬ z3 = 0 → am_U x m_Sc_isWord (fun ro4 so4 σ4 => ∃ z4 : Int, ro4 = some (Zi z4) ∧ so4 = am_SH ∧ am_U x m_Sc_readCells Po σ4 17 [some (Zr 137), some (Zi (am_or v1 (am_shl 1 (σ2.1 137 7)))), some (Zi z4), some (Zi (v3 + 1)), none] []) σ3 0 [some (Zr 137), some (Zr (1000001 + 6)), none] []) ∧ (z3 = 0 → Po (some (Zi 0)) am_SH σ3))) σ2 0 [some (Zr 137), some (Zi 0), some (Zi ((σ2.1 1 0) - 1))] []) σ 0 [some (Zr 137)] []))))) : am_U x m_Sc_readCells Po σ 17 [some (Zr 137), some (Zi v1), some (Zi v2), some (Zi v3), none] [] := by
  refine V_iload_n d_Sc_readCells_17 rfl ?_
  refine V_sipush d_Sc_readCells_18 ?_
  obtain ⟨h3, h⟩ := h
  obtain ⟨ht, hf⟩ := h
  refine V_icmp_ge 77 d_Sc_readCells_21 h3 (by decide) (fun h8 => ?_) (fun h8 => ?_)
  · have h := ht h8
    refine V_drop 2 ?_
    refine V_drop 3 ?_
    exact h
  · have h := hf h8
    refine V_iload_n d_Sc_readCells_24 rfl ?_
    obtain ⟨h4, h⟩ := h
    obtain ⟨ht, hf⟩ := h
    refine V_if_eq 77 d_Sc_readCells_25 h4 (fun h7 => ?_) (fun h7 => ?_)
    · have h := ht h7
      refine V_drop 2 ?_
      refine V_drop 3 ?_
      exact h
    · have h := hf h7
      refine V_aload_n d_Sc_readCells_28 rfl ?_
      refine U_iv0 cv_Sc_readCells_44 d_Sc_readCells_29 sh_137 rfl rfl (am_mono h ?_)
      rintro ro2 so2 σ2 ⟨rfl, rfl, h⟩
      refine V_aload_n d_Sc_readCells_32 rfl ?_
      refine U_geti d_Sc_readCells_33 fl_Sc_102 sh_137 ?_
      refine V_istore d_Sc_readCells_36 rfl ?_
      refine V_aload_n d_Sc_readCells_38 rfl ?_
      refine V_iconst d_Sc_readCells_39 ?_
      refine V_aload_n d_Sc_readCells_40 rfl ?_
      refine U_geta d_Sc_readCells_41 fl_Sc_24 sh_137 rfl ?_
      refine U_geti d_Sc_readCells_44 fl_Sc_73 sh_1 ?_
      refine V_iconst d_Sc_readCells_47 ?_
      refine V_isub d_Sc_readCells_48 ?_
      refine U_iv2 cv_Sc_readCells_105 d_Sc_readCells_49 sh_137 rfl rfl (am_mono h ?_)
      rintro ro3 so3 σ3 ⟨z3, rfl, rfl, h⟩
      obtain ⟨h5, h⟩ := h
      obtain ⟨ht, hf⟩ := h
      refine V_if_ne 57 d_Sc_readCells_52 h5 (fun h6 => ?_) (fun h6 => ?_)
      · have h := ht h6
        refine V_iload_n d_Sc_readCells_57 rfl ?_
        refine V_iconst d_Sc_readCells_58 ?_
        refine V_iload d_Sc_readCells_59 rfl ?_
        refine V_ishl d_Sc_readCells_61 ?_
        refine V_ior d_Sc_readCells_62 ?_
        refine V_istore_n d_Sc_readCells_63 rfl ?_
        refine V_aload_n d_Sc_readCells_64 rfl ?_
        refine V_ldcS (i := 6) (tx := "and") d_Sc_readCells_65 (by decide +kernel) rfl ?_
        refine U_iv1 cv_Sc_readCells_88 d_Sc_readCells_67 sh_137 rfl rfl (am_mono h ?_)
        rintro ro4 so4 σ4 ⟨z4, rfl, rfl, h⟩
        refine V_istore_n d_Sc_readCells_70 rfl ?_
        refine V_iinc d_Sc_readCells_71 rfl rfl ?_
        refine V_goto 17 d_Sc_readCells_74 ?_
        refine V_drop 4 ?_
        exact h
      · have h := hf h6
        refine V_iconst d_Sc_readCells_55 ?_
        exact V_zret d_Sc_readCells_56 rfl rfl (Or.inl rfl) h
theorem s_Sc_readCells_77 {x : am_Sc} {Po : Option am_AV → am_Sh → am_St → Prop} {σ : am_St} {v1 : Int}
    (h : (0 ≤ σ.1 137 8 ∧ σ.1 137 8 < 40) ∧ (∀ σ5 : am_St, σ5 = (am_up σ.1 141 (σ.1 137 8).toNat v1, σ.2) → Po (some (Zi 1)) am_SH σ5)) : am_U x m_Sc_readCells Po σ 77 [some (Zr 137), some (Zi v1), none, none, none] [] := by
  refine V_aload_n d_Sc_readCells_77 rfl ?_
  refine U_geta d_Sc_readCells_78 fl_Sc_21 sh_137 rfl ?_
  refine V_aload_n d_Sc_readCells_81 rfl ?_
  refine U_geti d_Sc_readCells_82 fl_Sc_41 sh_137 ?_
  refine V_iload_n d_Sc_readCells_85 rfl ?_
  obtain ⟨h9, h⟩ := h
  refine U_iast d_Sc_readCells_86 sh_141 h9 ?_
  have h := h _ rfl
  refine V_iconst d_Sc_readCells_87 ?_
  exact V_zret d_Sc_readCells_88 rfl rfl (Or.inr rfl) h
