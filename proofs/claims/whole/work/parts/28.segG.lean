/-! ===== fill and lay over any shape that has their cells (a constructor calls them before all cells are made) ===== -/
abbrev am_W (sh : am_Sh) (x : am_Sc) (M : am_MT) (Po : Option am_AV → am_Sh → am_St → Prop) (σ : am_St) (pc : Nat) (lv : List (Option am_AV)) (st : List am_AV) : Prop := am_V x M Po (0, 0) sh σ pc lv st
section AMW
variable {sh : am_Sh} {x : am_Sc} {M M' : am_MT} {Po : Option am_AV → am_Sh → am_St → Prop} {σ : am_St} {pc : Nat} {lv : List (Option am_AV)} {st : List am_AV}
theorem S_geta {idx ci j k n r : Nat} {rs : List (Option Nat)} (hl : Nat.ble sh.length 1000000 = true) (hd : decode (am_c M) pc = .ok (.getfield idx, 3)) (hf : am_FL M.1.cls idx ci j 2) (hq : sh[k]? = some (ci, n, rs)) (hr : rs.getD j none = some r) (kk : am_W sh x M Po σ (pc + 3) lv (Zr r :: st)) : am_W sh x M Po σ pc lv (Zr k :: st) := V_geta hd hf hq hl hr kk
theorem S_puti {idx ci j k n : Nat} {rs : List (Option Nat)} {v : Int} (hl : Nat.ble sh.length 1000000 = true) (hd : decode (am_c M) pc = .ok (.putfield idx, 3)) (hf : am_FW M.1.cls idx ci j 0 .int) (hq : sh[k]? = some (ci, n, rs)) (kk : am_W sh x M Po (am_up σ.1 k j v, σ.2) (pc + 3) lv st) : am_W sh x M Po σ pc lv (Zi v :: Zr k :: st) := V_puti hd hf hq hl kk
theorem S_iast {k n : Nat} {z v : Int} {rs : List (Option Nat)} (hl : Nat.ble sh.length 1000000 = true) (hn : Nat.blt n 2147483648 = true) (hd : decode (am_c M) pc = .ok (.iastore, 1)) (hq : sh[k]? = some (12, n, rs)) (hz : 0 ≤ z ∧ z < (n : Int)) (kk : am_W sh x M Po (am_up σ.1 k z.toNat v, σ.2) (pc + 1) lv st) : am_W sh x M Po σ pc lv (Zi v :: Zi z :: Zr k :: st) := V_iast hd hq (by rw [hl, hn]; rfl) (am_tn2 hz) (am_tn hz) kk
theorem S_alen {k n : Nat} {rs : List (Option Nat)} (hl : Nat.ble sh.length 1000000 = true) (hd : decode (am_c M) pc = .ok (.arraylength, 1)) (hq : sh[k]? = some (12, n, rs)) (kk : am_W sh x M Po σ (pc + 1) lv (Zi (n : Int) :: st)) : am_W sh x M Po σ pc lv (Zr k :: st) := V_alen hd hq hl kk
theorem S_is2 {idx : Nat} {a0 a1 : am_AV} (L : am_CS M M' idx 2) (hd : decode (am_c M) pc = .ok (.invokestatic idx, 3)) (hk : am_ck [a0, a1] M' st = true) (K : am_W sh x M' (am_kn x M Po pc lv st) σ 0 (am_lv [a0, a1] M'.2.2.1) []) : am_W sh x M Po σ pc lv (a1 :: a0 :: st) := by
  obtain ⟨h1, h2, h3, h4⟩ := am_c4 hk
  obtain ⟨e1, e2⟩ := am_c0 h3 h4
  refine am_callS (vs := [a0, a1]) L hd rfl (Nat.le_of_ble_eq_true h1) h2 (by rw [e1, e2]; exact ⟨Nat.zero_le _, Nat.zero_le _⟩) K (fun r sh' σ' h => ⟨Or.inl e1, ?_⟩)
  rw [e1, e2]
  exact h
end AMW
theorem t_Ar_fill_0 {sh : am_Sh} (hl : Nat.ble sh.length 1000000 = true) {x : am_Sc} {Po : Option am_AV → am_Sh → am_St → Prop} {σ : am_St} {r0 n : Nat} {v1 : Int} (hr0 : sh[r0]? = some (12, n, [])) (hn : Nat.blt n 2147483648 = true)
    (h : am_W sh x m_Ar_fill Po σ 5 [some (Zr r0), some (Zi v1), some (Zi 0), some (Zi (n : Int))] []) : am_W sh x m_Ar_fill Po σ 0 [some (Zr r0), some (Zi v1), none, none] [] := by
  refine V_iconst d_Ar_fill_0 ?_
  refine V_istore_n d_Ar_fill_1 rfl ?_
  refine V_aload_n d_Ar_fill_2 rfl ?_
  refine S_alen hl d_Ar_fill_3 hr0 ?_
  refine V_istore_n d_Ar_fill_4 rfl ?_
  exact h
theorem t_Ar_fill_5 {sh : am_Sh} (hl : Nat.ble sh.length 1000000 = true) {x : am_Sc} {Po : Option am_AV → am_Sh → am_St → Prop} {σ : am_St} {r0 n : Nat} {v1 v2 v3 : Int} (hr0 : sh[r0]? = some (12, n, [])) (hn : Nat.blt n 2147483648 = true)
    (h : am_r v2 ∧ am_r v3 ∧ ((v3 ≤ v2 → Po none sh σ) ∧ (¬ v3 ≤ v2 → (0 ≤ v2 ∧ v2 < n) ∧ (∀ σ1 : am_St, σ1 = (am_up σ.1 r0 v2.toNat v1, σ.2) → am_W sh x m_Ar_fill Po σ1 5 [some (Zr r0), some (Zi v1), some (Zi (v2 + 1)), some (Zi v3)] [])))) : am_W sh x m_Ar_fill Po σ 5 [some (Zr r0), some (Zi v1), some (Zi v2), some (Zi v3)] [] := by
  refine V_iload_n d_Ar_fill_5 rfl ?_
  refine V_iload_n d_Ar_fill_6 rfl ?_
  obtain ⟨h1, h⟩ := h
  obtain ⟨h2, h⟩ := h
  obtain ⟨ht, hf⟩ := h
  refine V_icmp_ge 20 d_Ar_fill_7 h1 h2 (fun h4 => ?_) (fun h4 => ?_)
  · have h := ht h4
    exact V_ret d_Ar_fill_20 rfl rfl h
  · have h := hf h4
    refine V_aload_n d_Ar_fill_10 rfl ?_
    refine V_iload_n d_Ar_fill_11 rfl ?_
    refine V_iload_n d_Ar_fill_12 rfl ?_
    obtain ⟨h3, h⟩ := h
    refine S_iast hl hn d_Ar_fill_13 hr0 h3 ?_
    have h := h _ rfl
    refine V_iinc d_Ar_fill_14 rfl rfl ?_
    refine V_goto 5 d_Ar_fill_17 ?_
    exact h
theorem t_Gr_lay_0 {sh : am_Sh} (hl : Nat.ble sh.length 1000000 = true) (hs1 : sh[1]? = some (0, 9, [none, none, some 2, some 3, some 4, some 5, some 6, some 7, none])) (hs2 : sh[2]? = some (12, 16, [])) (hs3 : sh[3]? = some (12, 8, [])) (hs4 : sh[4]? = some (12, 64, [])) {x : am_Sc} {Po : Option am_AV → am_Sh → am_St → Prop} {σ : am_St} {v1 v2 : Int}
    (h : (∀ σ1 : am_St, σ1 = (am_up σ.1 1 0 (v1 * v2), σ.2) → am_W sh x m_Ar_fill (fun ro2 so2 σ2 => ro2 = none ∧ so2 = sh ∧ am_W sh x m_Ar_fill (fun ro3 so3 σ3 => ro3 = none ∧ so3 = sh ∧ am_W sh x m_Gr_lay Po σ3 26 [some (Zr 1), some (Zi v1), some (Zi v2), some (Zi 0), none, none, none] []) σ2 0 [some (Zr 3), some (Zi 10), none, none] []) σ1 0 [some (Zr 2), some (Zi 0), none, none] [])) : am_W sh x m_Gr_lay Po σ 0 [some (Zr 1), some (Zi v1), some (Zi v2), none, none, none, none] [] := by
  refine V_aload_n d_Gr_lay_0 rfl ?_
  refine V_iload_n d_Gr_lay_1 rfl ?_
  refine V_iload_n d_Gr_lay_2 rfl ?_
  refine V_imul d_Gr_lay_3 ?_
  refine S_puti hl d_Gr_lay_4 fw_Gr_34 hs1 ?_
  have h := h _ rfl
  refine V_aload_n d_Gr_lay_7 rfl ?_
  refine S_geta hl d_Gr_lay_8 fl_Gr_15 hs1 rfl ?_
  refine V_iconst d_Gr_lay_11 ?_
  refine S_is2 cv_Gr_lay_37 d_Gr_lay_12  rfl (am_mono h ?_)
  rintro ro2 so2 σ2 ⟨rfl, rfl, h⟩
  refine V_aload_n d_Gr_lay_15 rfl ?_
  refine S_geta hl d_Gr_lay_16 fl_Gr_19 hs1 rfl ?_
  refine V_bipush d_Gr_lay_19 ?_
  refine S_is2 cv_Gr_lay_37 d_Gr_lay_21  rfl (am_mono h ?_)
  rintro ro3 so3 σ3 ⟨rfl, rfl, h⟩
  refine V_iconst d_Gr_lay_24 ?_
  refine V_istore_n d_Gr_lay_25 rfl ?_
  exact h
theorem t_Gr_lay_26 {sh : am_Sh} (hl : Nat.ble sh.length 1000000 = true) (hs1 : sh[1]? = some (0, 9, [none, none, some 2, some 3, some 4, some 5, some 6, some 7, none])) (hs2 : sh[2]? = some (12, 16, [])) (hs3 : sh[3]? = some (12, 8, [])) (hs4 : sh[4]? = some (12, 64, [])) {x : am_Sc} {Po : Option am_AV → am_Sh → am_St → Prop} {σ : am_St} {v1 v2 v3 : Int}
    (h : am_r v3 ∧ am_r v2 ∧ ((v2 ≤ v3 → Po none sh σ) ∧ (¬ v2 ≤ v3 → am_W sh x m_Gr_lay Po σ 34 [some (Zr 1), some (Zi v1), some (Zi v2), some (Zi v3), some (Zi 0), none, none] []))) : am_W sh x m_Gr_lay Po σ 26 [some (Zr 1), some (Zi v1), some (Zi v2), some (Zi v3), none, none, none] [] := by
  refine V_iload_n d_Gr_lay_26 rfl ?_
  refine V_iload_n d_Gr_lay_27 rfl ?_
  obtain ⟨h1, h⟩ := h
  obtain ⟨h2, h⟩ := h
  obtain ⟨ht, hf⟩ := h
  refine V_icmp_ge 156 d_Gr_lay_28 h1 h2 (fun h3 => ?_) (fun h3 => ?_)
  · have h := ht h3
    exact V_ret d_Gr_lay_156 rfl rfl h
  · have h := hf h3
    refine V_iconst d_Gr_lay_31 ?_
    refine V_istore d_Gr_lay_32 rfl ?_
    exact h
theorem t_Gr_lay_34 {sh : am_Sh} (hl : Nat.ble sh.length 1000000 = true) (hs1 : sh[1]? = some (0, 9, [none, none, some 2, some 3, some 4, some 5, some 6, some 7, none])) (hs2 : sh[2]? = some (12, 16, [])) (hs3 : sh[3]? = some (12, 8, [])) (hs4 : sh[4]? = some (12, 64, [])) {x : am_Sc} {Po : Option am_AV → am_Sh → am_St → Prop} {σ : am_St} {v1 v2 v3 v4 : Int}
    (h : am_r v4 ∧ am_r v1 ∧ ((v1 ≤ v4 → am_W sh x m_Gr_lay Po σ 26 [some (Zr 1), some (Zi v1), some (Zi v2), some (Zi (v3 + 1)), none, none, none] []) ∧ (¬ v1 ≤ v4 → am_r v3 ∧ ((v3 ≤ 0 → am_W sh x m_Gr_lay Po σ 72 [some (Zr 1), some (Zi v1), some (Zi v2), some (Zi v3), some (Zi v4), some (Zi ((v1 * v3) + v4)), some (Zi (((v1 * v3) + v4) * 4))] [Zi (-1), Zi (((v1 * v3) + v4) * 4), Zr 4]) ∧ (¬ v3 ≤ 0 → am_W sh x m_Gr_lay Po σ 72 [some (Zr 1), some (Zi v1), some (Zi v2), some (Zi v3), some (Zi v4), some (Zi ((v1 * v3) + v4)), some (Zi (((v1 * v3) + v4) * 4))] [Zi (((v1 * v3) + v4) - v1), Zi (((v1 * v3) + v4) * 4), Zr 4]))))) : am_W sh x m_Gr_lay Po σ 34 [some (Zr 1), some (Zi v1), some (Zi v2), some (Zi v3), some (Zi v4), none, none] [] := by
  refine V_iload d_Gr_lay_34 rfl ?_
  refine V_iload_n d_Gr_lay_36 rfl ?_
  obtain ⟨h4, h⟩ := h
  obtain ⟨h5, h⟩ := h
  obtain ⟨ht, hf⟩ := h
  refine V_icmp_ge 150 d_Gr_lay_37 h4 h5 (fun h8 => ?_) (fun h8 => ?_)
  · have h := ht h8
    refine V_iinc d_Gr_lay_150 rfl rfl ?_
    refine V_goto 26 d_Gr_lay_153 ?_
    refine V_drop 4 ?_
    exact h
  · have h := hf h8
    refine V_iload_n d_Gr_lay_40 rfl ?_
    refine V_iload_n d_Gr_lay_41 rfl ?_
    refine V_imul d_Gr_lay_42 ?_
    refine V_iload d_Gr_lay_43 rfl ?_
    refine V_iadd d_Gr_lay_45 ?_
    refine V_istore d_Gr_lay_46 rfl ?_
    refine V_iload d_Gr_lay_48 rfl ?_
    refine V_iconst d_Gr_lay_50 ?_
    refine V_imul d_Gr_lay_51 ?_
    refine V_istore d_Gr_lay_52 rfl ?_
    refine V_aload_n d_Gr_lay_54 rfl ?_
    refine S_geta hl d_Gr_lay_55 fl_Gr_22 hs1 rfl ?_
    refine V_iload d_Gr_lay_58 rfl ?_
    refine V_iload_n d_Gr_lay_60 rfl ?_
    obtain ⟨h6, h⟩ := h
    obtain ⟨ht, hf⟩ := h
    refine V_if_le 71 d_Gr_lay_61 h6 (fun h7 => ?_) (fun h7 => ?_)
    · have h := ht h7
      refine V_iconst d_Gr_lay_71 ?_
      exact h
    · have h := hf h7
      refine V_iload d_Gr_lay_64 rfl ?_
      refine V_iload_n d_Gr_lay_66 rfl ?_
      refine V_isub d_Gr_lay_67 ?_
      refine V_goto 72 d_Gr_lay_68 ?_
      exact h
theorem t_Gr_lay_72 {sh : am_Sh} (hl : Nat.ble sh.length 1000000 = true) (hs1 : sh[1]? = some (0, 9, [none, none, some 2, some 3, some 4, some 5, some 6, some 7, none])) (hs2 : sh[2]? = some (12, 16, [])) (hs3 : sh[3]? = some (12, 8, [])) (hs4 : sh[4]? = some (12, 64, [])) {x : am_Sc} {Po : Option am_AV → am_Sh → am_St → Prop} {σ : am_St} {v1 v2 v3 v4 v5 v6 vk1 vk2 : Int}
    (h : (0 ≤ vk1 ∧ vk1 < 64) ∧ (∀ σ4 : am_St, σ4 = (am_up σ.1 4 vk1.toNat vk2, σ.2) → am_r v4 ∧ ((v4 ≤ 0 → am_W sh x m_Gr_lay Po σ4 94 [some (Zr 1), some (Zi v1), some (Zi v2), some (Zi v3), some (Zi v4), some (Zi v5), some (Zi v6)] [Zi (-1), Zi (v6 + 1), Zr 4]) ∧ (¬ v4 ≤ 0 → am_W sh x m_Gr_lay Po σ4 94 [some (Zr 1), some (Zi v1), some (Zi v2), some (Zi v3), some (Zi v4), some (Zi v5), some (Zi v6)] [Zi (v5 - 1), Zi (v6 + 1), Zr 4])))) : am_W sh x m_Gr_lay Po σ 72 [some (Zr 1), some (Zi v1), some (Zi v2), some (Zi v3), some (Zi v4), some (Zi v5), some (Zi v6)] [Zi vk2, Zi vk1, Zr 4] := by
  obtain ⟨h9, h⟩ := h
  refine S_iast hl rfl d_Gr_lay_72 hs4 h9 ?_
  have h := h _ rfl
  refine V_aload_n d_Gr_lay_73 rfl ?_
  refine S_geta hl d_Gr_lay_74 fl_Gr_22 hs1 rfl ?_
  refine V_iload d_Gr_lay_77 rfl ?_
  refine V_iconst d_Gr_lay_79 ?_
  refine V_iadd d_Gr_lay_80 ?_
  refine V_iload d_Gr_lay_81 rfl ?_
  obtain ⟨h10, h⟩ := h
  obtain ⟨ht, hf⟩ := h
  refine V_if_le 93 d_Gr_lay_83 h10 (fun h11 => ?_) (fun h11 => ?_)
  · have h := ht h11
    refine V_iconst d_Gr_lay_93 ?_
    exact h
  · have h := hf h11
    refine V_iload d_Gr_lay_86 rfl ?_
    refine V_iconst d_Gr_lay_88 ?_
    refine V_isub d_Gr_lay_89 ?_
    refine V_goto 94 d_Gr_lay_90 ?_
    exact h
theorem t_Gr_lay_94 {sh : am_Sh} (hl : Nat.ble sh.length 1000000 = true) (hs1 : sh[1]? = some (0, 9, [none, none, some 2, some 3, some 4, some 5, some 6, some 7, none])) (hs2 : sh[2]? = some (12, 16, [])) (hs3 : sh[3]? = some (12, 8, [])) (hs4 : sh[4]? = some (12, 64, [])) {x : am_Sc} {Po : Option am_AV → am_Sh → am_St → Prop} {σ : am_St} {v1 v2 v3 v4 v5 v6 vk1 vk2 : Int}
    (h : (0 ≤ vk1 ∧ vk1 < 64) ∧ (∀ σ5 : am_St, σ5 = (am_up σ.1 4 vk1.toNat vk2, σ.2) → am_r v4 ∧ am_r (v1 - 1) ∧ (((v1 - 1) ≤ v4 → am_W sh x m_Gr_lay Po σ5 119 [some (Zr 1), some (Zi v1), some (Zi v2), some (Zi v3), some (Zi v4), some (Zi v5), some (Zi v6)] [Zi (-1), Zi (v6 + 2), Zr 4]) ∧ (¬ (v1 - 1) ≤ v4 → am_W sh x m_Gr_lay Po σ5 119 [some (Zr 1), some (Zi v1), some (Zi v2), some (Zi v3), some (Zi v4), some (Zi v5), some (Zi v6)] [Zi (v5 + 1), Zi (v6 + 2), Zr 4])))) : am_W sh x m_Gr_lay Po σ 94 [some (Zr 1), some (Zi v1), some (Zi v2), some (Zi v3), some (Zi v4), some (Zi v5), some (Zi v6)] [Zi vk2, Zi vk1, Zr 4] := by
  obtain ⟨h12, h⟩ := h
  refine S_iast hl rfl d_Gr_lay_94 hs4 h12 ?_
  have h := h _ rfl
  refine V_aload_n d_Gr_lay_95 rfl ?_
  refine S_geta hl d_Gr_lay_96 fl_Gr_22 hs1 rfl ?_
  refine V_iload d_Gr_lay_99 rfl ?_
  refine V_iconst d_Gr_lay_101 ?_
  refine V_iadd d_Gr_lay_102 ?_
  refine V_iload d_Gr_lay_103 rfl ?_
  refine V_iload_n d_Gr_lay_105 rfl ?_
  refine V_iconst d_Gr_lay_106 ?_
  refine V_isub d_Gr_lay_107 ?_
  obtain ⟨h13, h⟩ := h
  obtain ⟨h14, h⟩ := h
  obtain ⟨ht, hf⟩ := h
  refine V_icmp_ge 118 d_Gr_lay_108 h13 h14 (fun h15 => ?_) (fun h15 => ?_)
  · have h := ht h15
    refine V_iconst d_Gr_lay_118 ?_
    exact h
  · have h := hf h15
    refine V_iload d_Gr_lay_111 rfl ?_
    refine V_iconst d_Gr_lay_113 ?_
    refine V_iadd d_Gr_lay_114 ?_
    refine V_goto 119 d_Gr_lay_115 ?_
    exact h
theorem t_Gr_lay_119 {sh : am_Sh} (hl : Nat.ble sh.length 1000000 = true) (hs1 : sh[1]? = some (0, 9, [none, none, some 2, some 3, some 4, some 5, some 6, some 7, none])) (hs2 : sh[2]? = some (12, 16, [])) (hs3 : sh[3]? = some (12, 8, [])) (hs4 : sh[4]? = some (12, 64, [])) {x : am_Sc} {Po : Option am_AV → am_Sh → am_St → Prop} {σ : am_St} {v1 v2 v3 v4 v5 v6 vk1 vk2 : Int}
    (h : (0 ≤ vk1 ∧ vk1 < 64) ∧ (∀ σ6 : am_St, σ6 = (am_up σ.1 4 vk1.toNat vk2, σ.2) → am_r v3 ∧ am_r (v2 - 1) ∧ (((v2 - 1) ≤ v3 → am_W sh x m_Gr_lay Po σ6 143 [some (Zr 1), some (Zi v1), some (Zi v2), some (Zi v3), some (Zi v4), none, none] [Zi (-1), Zi (v6 + 3), Zr 4]) ∧ (¬ (v2 - 1) ≤ v3 → am_W sh x m_Gr_lay Po σ6 143 [some (Zr 1), some (Zi v1), some (Zi v2), some (Zi v3), some (Zi v4), none, none] [Zi (v5 + v1), Zi (v6 + 3), Zr 4])))) : am_W sh x m_Gr_lay Po σ 119 [some (Zr 1), some (Zi v1), some (Zi v2), some (Zi v3), some (Zi v4), some (Zi v5), some (Zi v6)] [Zi vk2, Zi vk1, Zr 4] := by
  obtain ⟨h16, h⟩ := h
  refine S_iast hl rfl d_Gr_lay_119 hs4 h16 ?_
  have h := h _ rfl
  refine V_aload_n d_Gr_lay_120 rfl ?_
  refine S_geta hl d_Gr_lay_121 fl_Gr_22 hs1 rfl ?_
  refine V_iload d_Gr_lay_124 rfl ?_
  refine V_iconst d_Gr_lay_126 ?_
  refine V_iadd d_Gr_lay_127 ?_
  refine V_iload_n d_Gr_lay_128 rfl ?_
  refine V_iload_n d_Gr_lay_129 rfl ?_
  refine V_iconst d_Gr_lay_130 ?_
  refine V_isub d_Gr_lay_131 ?_
  obtain ⟨h17, h⟩ := h
  obtain ⟨h18, h⟩ := h
  obtain ⟨ht, hf⟩ := h
  refine V_icmp_ge 142 d_Gr_lay_132 h17 h18 (fun h19 => ?_) (fun h19 => ?_)
  · have h := ht h19
    refine V_iconst d_Gr_lay_142 ?_
    refine V_drop 5 ?_
    refine V_drop 6 ?_
    exact h
  · have h := hf h19
    refine V_iload d_Gr_lay_135 rfl ?_
    refine V_iload_n d_Gr_lay_137 rfl ?_
    refine V_iadd d_Gr_lay_138 ?_
    refine V_goto 143 d_Gr_lay_139 ?_
    refine V_drop 5 ?_
    refine V_drop 6 ?_
    exact h
theorem t_Gr_lay_143 {sh : am_Sh} (hl : Nat.ble sh.length 1000000 = true) (hs1 : sh[1]? = some (0, 9, [none, none, some 2, some 3, some 4, some 5, some 6, some 7, none])) (hs2 : sh[2]? = some (12, 16, [])) (hs3 : sh[3]? = some (12, 8, [])) (hs4 : sh[4]? = some (12, 64, [])) {x : am_Sc} {Po : Option am_AV → am_Sh → am_St → Prop} {σ : am_St} {v1 v2 v3 v4 vk1 vk2 : Int}
    (h : (0 ≤ vk1 ∧ vk1 < 64) ∧ (∀ σ7 : am_St, σ7 = (am_up σ.1 4 vk1.toNat vk2, σ.2) → am_W sh x m_Gr_lay Po σ7 34 [some (Zr 1), some (Zi v1), some (Zi v2), some (Zi v3), some (Zi (v4 + 1)), none, none] [])) : am_W sh x m_Gr_lay Po σ 143 [some (Zr 1), some (Zi v1), some (Zi v2), some (Zi v3), some (Zi v4), none, none] [Zi vk2, Zi vk1, Zr 4] := by
  obtain ⟨h20, h⟩ := h
  refine S_iast hl rfl d_Gr_lay_143 hs4 h20 ?_
  have h := h _ rfl
  refine V_iinc d_Gr_lay_144 rfl rfl ?_
  refine V_goto 34 d_Gr_lay_147 ?_
  exact h
/-- row r holds v from place i up to n -/
def am_fr (f : Nat → Nat → Int) (r i n : Nat) (v : Int) : Nat → Nat → Int := fun k j => if k = r ∧ i ≤ j ∧ j < n then v else f k j
theorem am_fr_up {f : Nat → Nat → Int} {r i n : Nat} {v : Int} (h : i < n) : am_fr (am_up f r i v) r (i + 1) n v = am_fr f r i n v := by
  funext k j
  unfold am_fr am_up
  by_cases hk : k = r
  · subst hk
    by_cases h1 : j = i
    · subst h1; simp [h]
    · by_cases h2 : i + 1 ≤ j ∧ j < n
      · rw [if_pos ⟨rfl, h2⟩, if_pos ⟨rfl, by omega, h2.2⟩]
      · have h3 : ¬ (i ≤ j ∧ j < n) := by omega
        simp [h1, h2, h3]
  · simp [hk]
theorem am_fr_end {f : Nat → Nat → Int} {r n : Nat} {v : Int} : am_fr f r n n v = f := by
  funext k j
  unfold am_fr
  rw [if_neg (by omega)]
theorem c_fillW {sh : am_Sh} (hl : Nat.ble sh.length 1000000 = true) {x : am_Sc} {Po : Option am_AV → am_Sh → am_St → Prop} {σ : am_St} {r n : Nat} {v : Int} (hr : sh[r]? = some (12, n, [])) (hn : Nat.blt n 2147483648 = true) (h : Po none sh (am_fr σ.1 r 0 n v, σ.2)) : am_W sh x m_Ar_fill Po σ 0 [some (Zr r), some (Zi v), none, none] [] := by
  have hn9 : n < 2147483648 := Nat.le_of_ble_eq_true hn
  refine t_Ar_fill_0 hl hr hn ?_
  have loop : ∀ (d i : Nat) (σ : am_St), i + d = n → Po none sh (am_fr σ.1 r i n v, σ.2) → am_W sh x m_Ar_fill Po σ 5 [some (Zr r), some (Zi v), some (Zi (i : Int)), some (Zi (n : Int))] [] := by
    intro d
    induction d with
    | zero =>
      intro i σ hi hp
      refine t_Ar_fill_5 hl hr hn ⟨by omega, by omega, fun _ => ?_, fun hc => absurd (by omega) hc⟩
      have e : i = n := by omega
      subst e
      rw [am_fr_end] at hp
      exact hp
    | succ d ih =>
      intro i σ hi hp
      refine t_Ar_fill_5 hl hr hn ⟨by omega, by omega, fun hc => absurd hc (by omega), fun hc => ⟨by omega, fun σ1 e => ?_⟩⟩
      have := ih (i + 1) σ1 (by omega) (by subst e; rw [Int.toNat_natCast]; show Po none sh (am_fr (am_up σ.1 r i v) r (i + 1) n v, σ.2); rw [am_fr_up (by omega)]; exact hp)
      rw [show ((i + 1 : Nat) : Int) = (i : Int) + 1 by omega] at this
      exact this
  exact loop n 0 σ (by omega) h
