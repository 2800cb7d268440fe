/-! ===== the law from its entry to its loop ===== -/
/-- the store behind the two constructors, over what lay left -/
def am_S0 (τ : am_St) : am_St := (am_up (am_up (am_up (am_up (am_up (am_up (am_up (am_up (am_up (am_up (am_up τ.1 147 0 4) 147 1 3) 147 4 17) 149 0 10) 149 1 10) 149 2 10) 149 3 10) 149 4 10) 149 5 10) 149 6 10) 149 7 10, τ.2)
def am_zero : am_St := (fun _ _ => 0, fun _ _ => 0)
theorem am_zero_Z (n : Nat) : am_Z n am_zero := fun _ _ _ => ⟨rfl, rfl⟩
set_option maxRecDepth 100000 in
theorem law_start {x : am_Sc} {Po : Option am_AV → am_Sh → am_St → Prop} (h : ∀ τ, am_layP 4 3 (am_up am_zero.1 1 1 17, am_zero.2) τ → am_UL x m_La_law Po (am_S0 τ) 18 [some (Zr 1000000), some (Zr 0), some (Zr 147), some (Zi 0)] []) : am_V x m_La_law Po (0, 0) [] am_zero 0 [some (Zr 1000000), none, none, none] [] := by
  have hz := am_zero_Z 0
  refine Y_new 9 hz d_La_law_0 nl_La_7 rfl rfl rfl rfl ?_
  refine V_dup d_La_law_3 ?_
  show am_V x m_La_law Po (1, 9) y_0 _ _ _ _
  refine am_callI (vs := []) cv_La_law_9 d_La_law_4 rfl (by decide) rfl (by decide) rfl (by decide) (c_Sp_init (Po := fun r s' t' => r = none ∧ s' = y_23 ∧ am_layP 4 3 (am_up am_zero.1 1 1 17, am_zero.2) t') (hz.mono (by decide)) (fun τ ht => ⟨rfl, rfl, ht⟩)) ?_
  rintro r s' τ ⟨rfl, rfl, hlay⟩
  refine ⟨Or.inr rfl, ?_⟩
  have hzl : am_Z 147 τ := fun k hk j => ⟨by rw [hlay.2.1 k (by omega) (by omega) (by omega) (by omega)]; show am_up _ _ _ _ _ _ = _; simp [am_up, am_zero, show k ≠ 1 by omega], by rw [hlay.1]; rfl⟩
  show am_V x m_La_law Po (147, 2084) y_23 _ 7 _ _
  refine V_astore_n d_La_law_7 rfl ?_
  refine Y_new 51 hzl d_La_law_8 nl_La_10 rfl rfl rfl rfl ?_
  refine V_dup d_La_law_11 ?_
  show am_V x m_La_law Po (148, 2135) y_24 _ _ _ _
  refine am_callI (vs := []) cv_La_law_12 d_La_law_12 rfl (by decide) rfl (by decide) rfl (by decide) (c_Mo_init (Po := fun r s' t' => r = none ∧ s' = y_25 ∧ t' = am_S0 τ) (hzl.mono (by decide)) ⟨rfl, rfl, rfl⟩) ?_
  rintro r s' t' ⟨rfl, rfl, e3⟩
  refine ⟨Or.inr rfl, ?_⟩
  rw [e3, y_end]
  show am_V x m_La_law Po (180, 3584) am_SH _ 15 _ _
  refine V_astore_n d_La_law_15 rfl ?_
  refine V_iconst d_La_law_16 ?_
  refine V_istore_n d_La_law_17 rfl ?_
  exact h τ hlay
