theorem s_Ar_fill_0 {x : am_Sc} {Po : Option am_AV → am_Sh → am_St → Prop} {σ : am_St} {r0 n : Nat} {v1 : Int} (hr0 : am_SH[r0]? = some (12, n, []))
    (h : am_U x m_Ar_fill Po σ 5 [some (Zr r0), some (Zi v1), some (Zi 0), some (Zi (n : Int))] []) : am_U x m_Ar_fill Po σ 0 [some (Zr r0), some (Zi v1), none, none] [] := by
  refine V_iconst d_Ar_fill_0 ?_
  refine V_istore_n d_Ar_fill_1 rfl ?_
  refine V_aload_n d_Ar_fill_2 rfl ?_
  refine U_alen d_Ar_fill_3 hr0 ?_
  refine V_istore_n d_Ar_fill_4 rfl ?_
  exact h
theorem s_Ar_fill_5 {x : am_Sc} {Po : Option am_AV → am_Sh → am_St → Prop} {σ : am_St} {r0 n : Nat} {v1 v2 v3 : Int} (hr0 : am_SH[r0]? = some (12, n, []))
    (h : am_r v2 ∧ am_r v3 ∧ ((v3 ≤ v2 → Po none am_SH σ) ∧ (¬ v3 ≤ v2 → (0 ≤ v2 ∧ v2 < n) ∧ (∀ σ1 : am_St, σ1 = (am_up σ.1 r0 v2.toNat v1, σ.2) → am_U x m_Ar_fill Po σ1 5 [some (Zr r0), some (Zi v1), some (Zi (v2 + 1)), some (Zi v3)] [])))) : am_U x m_Ar_fill Po σ 5 [some (Zr r0), some (Zi v1), some (Zi v2), some (Zi v3)] [] := by
  refine V_iload_n d_Ar_fill_5 rfl ?_
  refine V_iload_n d_Ar_fill_6 rfl ?_
  obtain ⟨h1, h⟩ := h
  obtain ⟨h2, h⟩ := h
  obtain ⟨ht, hf⟩ := h
  refine V_icmp_ge 20 d_Ar_fill_7 h1 h2 (fun h4 => ?_) (fun h4 => ?_)
  · have h := ht h4
    exact V_ret d_Ar_fill_20 rfl rfl h
  · have h := hf h4
    refine V_aload_n d_Ar_fill_10 rfl ?_
    refine V_iload_n d_Ar_fill_11 rfl ?_
    refine V_iload_n d_Ar_fill_12 rfl ?_
    obtain ⟨h3, h⟩ := h
    refine U_iast d_Ar_fill_13 hr0 h3 ?_
    have h := h _ rfl
    refine V_iinc d_Ar_fill_14 rfl rfl ?_
    refine V_goto 5 d_Ar_fill_17 ?_
    exact h
theorem s_In_bitCount_0 {x : am_Sc} {Po : Option am_AV → am_Sh → am_St → Prop} {σ : am_St} {v0 : Int}
    (h : Po (some (Zi (am_and (((am_and (((am_and (v0 - (am_and (am_ushr v0 1) 1431655765)) 858993459) + (am_and (am_ushr (v0 - (am_and (am_ushr v0 1) 1431655765)) 2) 858993459)) + (am_ushr ((am_and (v0 - (am_and (am_ushr v0 1) 1431655765)) 858993459) + (am_and (am_ushr (v0 - (am_and (am_ushr v0 1) 1431655765)) 2) 858993459)) 4)) 252645135) + (am_ushr (am_and (((am_and (v0 - (am_and (am_ushr v0 1) 1431655765)) 858993459) + (am_and (am_ushr (v0 - (am_and (am_ushr v0 1) 1431655765)) 2) 858993459)) + (am_ushr ((am_and (v0 - (am_and (am_ushr v0 1) 1431655765)) 858993459) + (am_and (am_ushr (v0 - (am_and (am_ushr v0 1) 1431655765)) 2) 858993459)) 4)) 252645135) 8)) + (am_ushr ((am_and (((am_and (v0 - (am_and (am_ushr v0 1) 1431655765)) 858993459) + (am_and (am_ushr (v0 - (am_and (am_ushr v0 1) 1431655765)) 2) 858993459)) + (am_ushr ((am_and (v0 - (am_and (am_ushr v0 1) 1431655765)) 858993459) + (am_and (am_ushr (v0 - (am_and (am_ushr v0 1) 1431655765)) 2) 858993459)) 4)) 252645135) + (am_ushr (am_and (((am_and (v0 - (am_and (am_ushr v0 1) 1431655765)) 858993459) + (am_and (am_ushr (v0 - (am_and (am_ushr v0 1) 1431655765)) 2) 858993459)) + (am_ushr ((am_and (v0 - (am_and (am_ushr v0 1) 1431655765)) 858993459) + (am_and (am_ushr (v0 - (am_and (am_ushr v0 1) 1431655765)) 2) 858993459)) 4)) 252645135) 8)) 16)) 63))) am_SH σ) : am_U x m_In_bitCount Po σ 0 [some (Zi v0)] [] := by
  refine V_iload_n d_In_bitCount_0 rfl ?_
  refine V_iload_n d_In_bitCount_1 rfl ?_
  refine V_iconst d_In_bitCount_2 ?_
  refine V_iushr d_In_bitCount_3 ?_
  refine V_ldcw 1431655765 d_In_bitCount_4 kc_In_265 ?_
  refine V_iand d_In_bitCount_7 ?_
  refine V_isub d_In_bitCount_8 ?_
  refine V_istore_n d_In_bitCount_9 rfl ?_
  refine V_iload_n d_In_bitCount_10 rfl ?_
  refine V_ldcw 858993459 d_In_bitCount_11 kc_In_266 ?_
  refine V_iand d_In_bitCount_14 ?_
  refine V_iload_n d_In_bitCount_15 rfl ?_
  refine V_iconst d_In_bitCount_16 ?_
  refine V_iushr d_In_bitCount_17 ?_
  refine V_ldcw 858993459 d_In_bitCount_18 kc_In_266 ?_
  refine V_iand d_In_bitCount_21 ?_
  refine V_iadd d_In_bitCount_22 ?_
  refine V_istore_n d_In_bitCount_23 rfl ?_
  refine V_iload_n d_In_bitCount_24 rfl ?_
  refine V_iload_n d_In_bitCount_25 rfl ?_
  refine V_iconst d_In_bitCount_26 ?_
  refine V_iushr d_In_bitCount_27 ?_
  refine V_iadd d_In_bitCount_28 ?_
  refine V_ldcw 252645135 d_In_bitCount_29 kc_In_267 ?_
  refine V_iand d_In_bitCount_32 ?_
  refine V_istore_n d_In_bitCount_33 rfl ?_
  refine V_iload_n d_In_bitCount_34 rfl ?_
  refine V_iload_n d_In_bitCount_35 rfl ?_
  refine V_bipush d_In_bitCount_36 ?_
  refine V_iushr d_In_bitCount_38 ?_
  refine V_iadd d_In_bitCount_39 ?_
  refine V_istore_n d_In_bitCount_40 rfl ?_
  refine V_iload_n d_In_bitCount_41 rfl ?_
  refine V_iload_n d_In_bitCount_42 rfl ?_
  refine V_bipush d_In_bitCount_43 ?_
  refine V_iushr d_In_bitCount_45 ?_
  refine V_iadd d_In_bitCount_46 ?_
  refine V_istore_n d_In_bitCount_47 rfl ?_
  refine V_iload_n d_In_bitCount_48 rfl ?_
  refine V_bipush d_In_bitCount_49 ?_
  refine V_iand d_In_bitCount_51 ?_
  exact V_iret d_In_bitCount_52 rfl rfl h
theorem s_Ma_max_0 {x : am_Sc} {Po : Option am_AV → am_Sh → am_St → Prop} {σ : am_St} {v0 v1 : Int}
    (h : am_r v0 ∧ am_r v1 ∧ ((v0 < v1 → am_U x m_Ma_max Po σ 10 [none, none] [Zi v1]) ∧ (¬ v0 < v1 → am_U x m_Ma_max Po σ 10 [none, none] [Zi v0]))) : am_U x m_Ma_max Po σ 0 [some (Zi v0), some (Zi v1)] [] := by
  refine V_iload_n d_Ma_max_0 rfl ?_
  refine V_iload_n d_Ma_max_1 rfl ?_
  obtain ⟨h1, h⟩ := h
  obtain ⟨h2, h⟩ := h
  obtain ⟨ht, hf⟩ := h
  refine V_icmp_lt 9 d_Ma_max_2 h1 h2 (fun h3 => ?_) (fun h3 => ?_)
  · have h := ht h3
    refine V_iload_n d_Ma_max_9 rfl ?_
    refine V_drop 0 ?_
    refine V_drop 1 ?_
    exact h
  · have h := hf h3
    refine V_iload_n d_Ma_max_5 rfl ?_
    refine V_goto 10 d_Ma_max_6 ?_
    refine V_drop 0 ?_
    refine V_drop 1 ?_
    exact h
theorem s_Ma_max_10 {x : am_Sc} {Po : Option am_AV → am_Sh → am_St → Prop} {σ : am_St} {vk0 : Int}
    (h : Po (some (Zi vk0)) am_SH σ) : am_U x m_Ma_max Po σ 10 [none, none] [Zi vk0] := by
  exact V_iret d_Ma_max_10 rfl rfl h
theorem s_Ma_floorDiv_0 {x : am_Sc} {Po : Option am_AV → am_Sh → am_St → Prop} {σ : am_St} {v0 v1 : Int}
    (h : am_r v1 ∧ v1 ≠ 0 ∧ am_r (am_xor v0 v1) ∧ ((0 ≤ (am_xor v0 v1) → am_U x m_Ma_floorDiv Po σ 21 [none, none, some (Zi (am_div v0 v1))] []) ∧ (¬ 0 ≤ (am_xor v0 v1) → am_r ((am_div v0 v1) * v1) ∧ am_r v0 ∧ ((((am_div v0 v1) * v1) = v0 → am_U x m_Ma_floorDiv Po σ 21 [none, none, some (Zi (am_div v0 v1))] []) ∧ (¬ ((am_div v0 v1) * v1) = v0 → Po (some (Zi ((am_div v0 v1) - 1))) am_SH σ))))) : am_U x m_Ma_floorDiv Po σ 0 [some (Zi v0), some (Zi v1), none] [] := by
  refine V_iload_n d_Ma_floorDiv_0 rfl ?_
  refine V_iload_n d_Ma_floorDiv_1 rfl ?_
  obtain ⟨h1, h⟩ := h
  obtain ⟨h2, h⟩ := h
  refine V_idiv d_Ma_floorDiv_2 h1 h2 ?_
  refine V_istore_n d_Ma_floorDiv_3 rfl ?_
  refine V_iload_n d_Ma_floorDiv_4 rfl ?_
  refine V_iload_n d_Ma_floorDiv_5 rfl ?_
  refine V_ixor d_Ma_floorDiv_6 ?_
  obtain ⟨h3, h⟩ := h
  obtain ⟨ht, hf⟩ := h
  refine V_if_ge 21 d_Ma_floorDiv_7 h3 (fun h7 => ?_) (fun h7 => ?_)
  · have h := ht h7
    refine V_drop 0 ?_
    refine V_drop 1 ?_
    exact h
  · have h := hf h7
    refine V_iload_n d_Ma_floorDiv_10 rfl ?_
    refine V_iload_n d_Ma_floorDiv_11 rfl ?_
    refine V_imul d_Ma_floorDiv_12 ?_
    refine V_iload_n d_Ma_floorDiv_13 rfl ?_
    obtain ⟨h4, h⟩ := h
    obtain ⟨h5, h⟩ := h
    obtain ⟨ht, hf⟩ := h
    refine V_icmp_eq 21 d_Ma_floorDiv_14 h4 h5 (fun h6 => ?_) (fun h6 => ?_)
    · have h := ht h6
      refine V_drop 0 ?_
      refine V_drop 1 ?_
      exact h
    · have h := hf h6
      refine V_iload_n d_Ma_floorDiv_17 rfl ?_
      refine V_iconst d_Ma_floorDiv_18 ?_
      refine V_isub d_Ma_floorDiv_19 ?_
      exact V_iret d_Ma_floorDiv_20 rfl rfl h
theorem s_Ma_floorDiv_21 {x : am_Sc} {Po : Option am_AV → am_Sh → am_St → Prop} {σ : am_St} {v2 : Int}
    (h : Po (some (Zi v2)) am_SH σ) : am_U x m_Ma_floorDiv Po σ 21 [none, none, some (Zi v2)] [] := by
  refine V_iload_n d_Ma_floorDiv_21 rfl ?_
  exact V_iret d_Ma_floorDiv_22 rfl rfl h
theorem s_Ma_floorMod_0 {x : am_Sc} {Po : Option am_AV → am_Sh → am_St → Prop} {σ : am_St} {v0 v2 : Int}
    (h : am_rl v2 ∧ v2 ≠ 0 ∧ am_rl (am_xorL v0 v2) ∧ am_r (am_cmp (am_xorL v0 v2) 0) ∧ ((0 ≤ (am_cmp (am_xorL v0 v2) 0) → am_U x m_Ma_floorMod Po σ 25 [none, none, none, none, some (Zl (am_remL v0 v2)), none] []) ∧ (¬ 0 ≤ (am_cmp (am_xorL v0 v2) 0) → am_rl (am_remL v0 v2) ∧ am_r (am_cmp (am_remL v0 v2) 0) ∧ (((am_cmp (am_remL v0 v2) 0) = 0 → am_U x m_Ma_floorMod Po σ 25 [none, none, none, none, some (Zl (am_remL v0 v2)), none] []) ∧ (¬ (am_cmp (am_remL v0 v2) 0) = 0 → Po (some (Zl ((am_remL v0 v2) + v2))) am_SH σ))))) : am_U x m_Ma_floorMod Po σ 0 [some (Zl v0), none, some (Zl v2), none, none, none] [] := by
  refine V_lload_n d_Ma_floorMod_0 rfl ?_
  refine V_lload_n d_Ma_floorMod_1 rfl ?_
  obtain ⟨h1, h⟩ := h
  obtain ⟨h2, h⟩ := h
  refine V_lrem d_Ma_floorMod_2 h1 h2 ?_
  refine V_lstore d_Ma_floorMod_3 rfl ?_
  refine V_lload_n d_Ma_floorMod_5 rfl ?_
  refine V_lload_n d_Ma_floorMod_6 rfl ?_
  refine V_lxor d_Ma_floorMod_7 ?_
  refine V_lconst 0 d_Ma_floorMod_8 ?_
  obtain ⟨h3, h⟩ := h
  refine V_lcmp d_Ma_floorMod_9 h3 (by decide) ?_
  obtain ⟨h4, h⟩ := h
  obtain ⟨ht, hf⟩ := h
  refine V_if_ge 25 d_Ma_floorMod_10 h4 (fun h8 => ?_) (fun h8 => ?_)
  · have h := ht h8
    refine V_drop 0 ?_
    refine V_drop 2 ?_
    exact h
  · have h := hf h8
    refine V_lload d_Ma_floorMod_13 rfl ?_
    refine V_lconst 0 d_Ma_floorMod_15 ?_
    obtain ⟨h5, h⟩ := h
    refine V_lcmp d_Ma_floorMod_16 h5 (by decide) ?_
    obtain ⟨h6, h⟩ := h
    obtain ⟨ht, hf⟩ := h
    refine V_if_eq 25 d_Ma_floorMod_17 h6 (fun h7 => ?_) (fun h7 => ?_)
    · have h := ht h7
      refine V_drop 0 ?_
      refine V_drop 2 ?_
      exact h
    · have h := hf h7
      refine V_lload d_Ma_floorMod_20 rfl ?_
      refine V_lload_n d_Ma_floorMod_22 rfl ?_
      refine V_ladd d_Ma_floorMod_23 ?_
      exact V_lret d_Ma_floorMod_24 rfl rfl h
theorem s_Ma_floorMod_25 {x : am_Sc} {Po : Option am_AV → am_Sh → am_St → Prop} {σ : am_St} {v4 : Int}
    (h : Po (some (Zl v4)) am_SH σ) : am_U x m_Ma_floorMod Po σ 25 [none, none, none, none, some (Zl v4), none] [] := by
  refine V_lload d_Ma_floorMod_25 rfl ?_
  exact V_lret d_Ma_floorMod_27 rfl rfl h
