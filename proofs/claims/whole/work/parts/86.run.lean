/-! ===== run: the statements are obeyed ===== -/
section AMRU
variable {x : am_Sc} {Po : Option am_AV → am_Sh → am_St → Prop} {σ : am_St} {w h w2 h2 : Nat} {s s2 : Nat → Nat → Int}
theorem am_RM.hi {σ' : am_St} (hM : am_RM w h s σ) (hf : ∀ k j, 147 ≤ k → σ'.1 k j = σ.1 k j) : am_RM w h s σ' := by
  refine ⟨⟨fun q hq j hj => ?_, fun q hq => ?_⟩, by rw [hf 147 0 (by decide)]; exact hM.2.1, by rw [hf 147 1 (by decide)]; exact hM.2.2⟩
  · have : ∀ q ∈ am_MR, 147 ≤ q.1 := by decide
    rw [hf _ _ (this q hq)]; exact hM.1.1 q hq j hj
  · have : ∀ q ∈ am_MS, 147 ≤ q.1 := by decide
    rw [hf _ _ (this q hq)]; exact hM.1.2 q hq
theorem am_RX.lw {σ' : am_St} (hX : am_RX w h s σ) (hf : ∀ k j, k < 147 → σ'.1 k j = σ.1 k j) : am_RX w h s σ' := by
  refine ⟨⟨fun q hq j hj => ?_, fun q hq => ?_⟩, by rw [hf 1 0 (by decide)]; exact hX.2.1, fun c i hc hi => by rw [hf 4 _ (by decide)]; exact hX.2.2 c i hc hi⟩
  · have : ∀ q ∈ am_XR, q.1 < 147 := by decide
    rw [hf _ _ (this q hq)]; exact hX.1.1 q hq j hj
  · have : ∀ q ∈ am_XS, q.1 < 147 := by decide
    rw [hf _ _ (this q hq)]; exact hX.1.2 q hq
theorem am_OK_456 {s' : Nat → Nat → Int} (hO : am_OK w h s) (e : ∀ r j, r ≠ 4 → r ≠ 5 → r ≠ 6 → s' r j = s r j) (h4 : ∀ e, e < 6 → -99 ≤ s' 4 e ∧ s' 4 e ≤ 99) (h5 : ∀ k : Nat, (k : Int) < s 0 3 → 0 ≤ s' 5 k ∧ s' 5 k < ((w * h : Nat) : Int)) (h6 : ∀ k, k < 5 → 0 ≤ s' 6 k ∧ s' 6 k ≤ 1000) : am_OK w h s' := by
  obtain ⟨o1, o2, o3, o4, o5, o6, o7, o8, o9, o10, o11, o12, o13, o14, o15, o16, o17, o18, o19⟩ := hO
  unfold am_OK
  simp only [e 0 _ (by decide) (by decide) (by decide), e 1 _ (by decide) (by decide) (by decide), e 2 _ (by decide) (by decide) (by decide), e 3 _ (by decide) (by decide) (by decide), e 7 _ (by decide) (by decide) (by decide), e 8 _ (by decide) (by decide) (by decide), e 9 _ (by decide) (by decide) (by decide), e 10 _ (by decide) (by decide) (by decide), e 11 _ (by decide) (by decide) (by decide), e 12 _ (by decide) (by decide) (by decide), e 13 _ (by decide) (by decide) (by decide), e 14 _ (by decide) (by decide) (by decide)]
  exact ⟨o1, o2, o3, o4, o5, o6, o7, o8, o9, o10, o11, h4, h5, h6, o15, o16, o17, o18, o19⟩
theorem am_up_v {f : Nat → Nat → Int} {k j j' : Nat} {v : Int} : am_up f k j v k j' = if j' = j then v else f k j' := by rw [am_up_row]
theorem am_OK_u2 (hO : am_OK w h s) {b : Nat} {v : Int} (hv : 1 ≤ v ∧ v ≤ 60) : am_OK w h (am_up s 2 b v) := am_OK_row2 hO (fun r j hr => by rw [am_up_o hr]) (fun j hj => by
  rw [am_up_v]
  by_cases e : j = b
  · rw [if_pos e]; exact hv
  · rw [if_neg e]; exact hO.2.2.2.2.2.2.2.2.2.1 j hj)
theorem am_OK_u4 (hO : am_OK w h s) {b : Nat} {v : Int} (hv : -99 ≤ v ∧ v ≤ 99) : am_OK w h (am_up s 4 b v) := by
  obtain ⟨o1, o2, o3, o4, o5, o6, o7, o8, o9, o10, o11, o12, o13, o14, -⟩ := id hO
  refine am_OK_456 hO (fun r j hr _ _ => by rw [am_up_o hr]) (fun j hj => ?_) (by rw [am_up_o (by decide)]; exact o13) (by rw [am_up_o (by decide)]; exact o14)
  rw [am_up_v]
  by_cases e : j = b
  · rw [if_pos e]; exact hv
  · rw [if_neg e]; exact o12 j hj
theorem am_OK_u5 (hO : am_OK w h s) {b : Nat} {v : Int} (hv : 0 ≤ v ∧ v < ((w * h : Nat) : Int)) : am_OK w h (am_up s 5 b v) := by
  obtain ⟨o1, o2, o3, o4, o5, o6, o7, o8, o9, o10, o11, o12, o13, o14, -⟩ := id hO
  refine am_OK_456 hO (fun r j _ hr _ => by rw [am_up_o hr]) (by rw [am_up_o (by decide)]; exact o12) (fun j hj => ?_) (by rw [am_up_o (by decide)]; exact o14)
  rw [am_up_v]
  by_cases e : j = b
  · rw [if_pos e]; exact hv
  · rw [if_neg e]; exact o13 j hj
theorem am_OK_u6 (hO : am_OK w h s) {b : Nat} {v : Int} (hv : 0 ≤ v ∧ v ≤ 1000) : am_OK w h (am_up s 6 b v) := by
  obtain ⟨o1, o2, o3, o4, o5, o6, o7, o8, o9, o10, o11, o12, o13, o14, -⟩ := id hO
  refine am_OK_456 hO (fun r j _ _ hr => by rw [am_up_o hr]) (by rw [am_up_o (by decide)]; exact o12) (by rw [am_up_o (by decide)]; exact o13) (fun j hj => ?_)
  rw [am_up_v]
  by_cases e : j = b
  · rw [if_pos e]; exact hv
  · rw [if_neg e]; exact o14 j hj
theorem am_OK_sb (hO : am_OK w h s) {b v : Nat} (hb : b < 8) : am_OK w h (N_sb w h s b v) := by
  unfold N_sb
  by_cases q : am_ov w h s b v = 0 ∨ am_ov w h s b v = am_bsz w h s b
  · rw [if_pos q]; exact hO
  · rw [if_neg q]
    by_cases q2 : am_free w h s < 8
    · rw [if_pos q2]; exact am_OK_u2 (am_OK_mv hO q2) (hO.2.2.2.2.2.2.2.2.2.1 b hb)
    · rw [if_neg q2]; exact hO
theorem am_sb_o {b v r j : Nat} (h1 : r ≠ 1) (h2 : r ≠ 2) : N_sb w h s b v r j = s r j := by
  unfold N_sb
  by_cases q : am_ov w h s b v = 0 ∨ am_ov w h s b v = am_bsz w h s b
  · rw [if_pos q]
  · rw [if_neg q]
    by_cases q2 : am_free w h s < 8
    · rw [if_pos q2, am_up_o h2]; unfold am_mv; rw [if_neg (fun z => h1 z.1)]
    · rw [if_neg q2]
theorem am_sb_neg {b v : Nat} (hn : A_sb w h s b v < 0) : N_sb w h s b v = s := by
  unfold A_sb at hn
  unfold N_sb
  by_cases q : am_ov w h s b v = 0 ∨ am_ov w h s b v = am_bsz w h s b
  · rw [if_pos q]
  · rw [if_neg q] at hn ⊢
    by_cases q2 : am_free w h s < 8
    · rw [if_pos q2] at hn; omega
    · rw [if_neg q2]
theorem am_sb_r {b v : Nat} : am_r (A_sb w h s b v) := by
  unfold A_sb
  by_cases q : am_ov w h s b v = 0 ∨ am_ov w h s b v = am_bsz w h s b
  · rw [if_pos q]; decide
  · rw [if_neg q]
    by_cases q2 : am_free w h s < 8
    · rw [if_pos q2]; unfold am_r; omega
    · rw [if_neg q2]; decide
/-- one statement -/
noncomputable def am_obey (w h : Nat) (t : am_T3) (s : Nat → Nat → Int) : Option (Nat → Nat → Int) := if t.1 = 0 then some (am_up s 2 t.2.1.toNat t.2.2) else if t.1 = 1 then some (am_fitN w h s t.2.1.toNat) else if t.1 = 2 then some (am_up s 5 t.2.1.toNat t.2.2) else if t.1 = 3 then some (am_up s 4 t.2.1.toNat t.2.2) else if A_sb w h s t.2.1.toNat t.2.2.toNat < 0 then none else some (N_sb w h s t.2.1.toNat t.2.2.toNat)
noncomputable def am_ex (w h : Nat) : List am_T3 → (Nat → Nat → Int) → Option (Nat → Nat → Int)
  | [], s => some s
  | t :: L, s => (am_obey w h t s).bind (am_ex w h L)
theorem am_obey_ok {t : am_T3} {s' : Nat → Nat → Int} (hO : am_OK w h s) (hV : am_VS w h s t) (hs : am_obey w h t s = some s') : am_OK w h s' ∧ ∀ r j, r ≠ 1 → r ≠ 2 → r ≠ 4 → r ≠ 5 → s' r j = s r j := by
  unfold am_obey at hs
  rcases hV with ⟨e, a, b⟩ | ⟨e, a⟩ | ⟨e, a, b⟩ | ⟨e, a, b⟩ | ⟨e, a, b⟩
  · rw [if_pos e, Option.some.injEq] at hs
    rw [← hs]; exact ⟨am_OK_u2 hO b, fun r j _ h2 _ _ => by rw [am_up_o h2]⟩
  · rw [if_neg (by omega), if_pos e, Option.some.injEq] at hs
    rw [← hs]; exact ⟨am_OK_fitN hO _, fun r j _ h2 _ _ => am_rn_o h2 _⟩
  · rw [if_neg (by omega), if_neg (by omega), if_pos e, Option.some.injEq] at hs
    rw [← hs]; exact ⟨am_OK_u5 hO b, fun r j _ _ _ h2 => by rw [am_up_o h2]⟩
  · rw [if_neg (by omega), if_neg (by omega), if_neg (by omega), if_pos e, Option.some.injEq] at hs
    rw [← hs]; exact ⟨am_OK_u4 hO (by omega), fun r j _ _ h2 _ => by rw [am_up_o h2]⟩
  · rw [if_neg (by omega), if_neg (by omega), if_neg (by omega), if_neg (by omega)] at hs
    by_cases q : A_sb w h s t.2.1.toNat t.2.2.toNat < 0
    · rw [if_pos q] at hs; cases hs
    · rw [if_neg q, Option.some.injEq] at hs
      rw [← hs]; exact ⟨am_OK_sb hO (by omega), fun r j h1 h2 _ _ => am_sb_o h1 h2⟩
theorem am_VS.k {t : am_T3} {s' : Nat → Nat → Int} (hV : am_VS w h s t) (e : ∀ j, s' 0 j = s 0 j) : am_VS w h s' t := by
  unfold am_VS at hV ⊢
  rw [e 2, e 3]; exact hV
theorem x_obey {t : am_T3} {v3 : Int} (hX : am_RX w h s σ) (hO : am_OK w h s) (hV : am_VS w h s t) (h3 : t.1 ≠ 1 → v3 = t.2.2)
    (k1 : ∀ s' σ', am_obey w h t s = some s' → (∀ k j, 137 ≤ k → σ'.1 k j = σ.1 k j) → am_RX w h s' σ' → Po (some (Zi 1)) am_SH σ') (k0 : am_obey w h t s = none → ∀ σ', (∀ k j, 137 ≤ k → σ'.1 k j = σ.1 k j) → am_RX w h s σ' → Po (some (Zi 0)) am_SH σ') : am_U x m_Sp_obey Po σ 0 [some (Zr 0), some (Zi t.1), some (Zi t.2.1), some (Zi v3)] [] := by
  obtain ⟨bP, -, -, bE, bS⟩ := am_OKb hO
  have hwh := am_wh hO
  have hi : ∀ {ks : List Nat} {ps : List (Nat × Nat)} {σ' : am_St}, am_fx ks ps σ σ' → (∀ k ∈ ks, k < 137) → (∀ p ∈ ps, p.1 < 137) → ∀ k j, 137 ≤ k → σ'.1 k j = σ.1 k j := fun {ks ps σ'} f a b k j hk => f k j (fun z => by have := a k z; omega) (fun z => by have := b _ z; omega)
  have est : am_obey w h t s = if t.1 = 0 then some (am_up s 2 t.2.1.toNat t.2.2) else if t.1 = 1 then some (am_fitN w h s t.2.1.toNat) else if t.1 = 2 then some (am_up s 5 t.2.1.toNat t.2.2) else if t.1 = 3 then some (am_up s 4 t.2.1.toNat t.2.2) else if A_sb w h s t.2.1.toNat t.2.2.toNat < 0 then none else some (N_sb w h s t.2.1.toNat t.2.2.toNat) := rfl
  have hv1 : 0 ≤ t.1 ∧ t.1 ≤ 4 := by rcases hV with ⟨e, _⟩ | ⟨e, _⟩ | ⟨e, _⟩ | ⟨e, _⟩ | ⟨e, _⟩ <;> omega
  refine s_Sp_obey_0 ⟨by omega, fun q => ?_, fun q => ?_, fun q => ?_, fun q => ?_, fun q => ?_⟩
  · have e4 : t.1 = 4 := by omega
    rw [h3 (by omega)]
    rw [if_neg (by omega), if_neg (by omega), if_neg (by omega), if_neg (by omega)] at est
    have hb : (0 ≤ t.2.1 ∧ t.2.1 ≤ 7) ∧ (0 ≤ t.2.2 ∧ t.2.2 < 2 ^ (w * h)) := by
      rcases hV with ⟨e, _⟩ | ⟨e, _⟩ | ⟨e, _⟩ | ⟨e, _⟩ | ⟨e, z⟩
      · omega
      · omega
      · omega
      · omega
      · exact z
    have p1 : (2 : Int) ^ (w * h) ≤ 65536 := by have := am_pow_le (show w * h ≤ 16 by omega); exact this
    have hs := x_splitBlock (x := x) (Po := fun ro1 so1 σ1 => ∃ z1 : Int, ro1 = some (Zi z1) ∧ so1 = am_SH ∧ am_r z1 ∧ ((z1 < 0 → am_U x m_Sp_obey Po σ1 103 [none, none, none, none] [Zi 0]) ∧ (¬ z1 < 0 → am_U x m_Sp_obey Po σ1 103 [none, none, none, none] [Zi 1]))) (b := t.2.1.toNat) (v := t.2.2.toNat) hX hO (by omega) (by omega) (fun σ' f' hX' => ⟨_, rfl, rfl, am_sb_r, fun qn => s_Sp_obey_103 ⟨Or.inl rfl, k0 (by rw [est, if_pos qn]) σ' (hi f' (by decide) (by decide)) (by rw [am_sb_neg qn] at hX'; exact hX')⟩, fun qn => s_Sp_obey_103 ⟨Or.inr rfl, k1 _ σ' (by rw [est, if_neg qn]) (hi f' (by decide) (by decide)) hX'⟩⟩)
    rw [Int.toNat_of_nonneg hb.1.1, Int.toNat_of_nonneg hb.2.1] at hs
    exact hs
  · have hb : (0 ≤ t.2.1 ∧ t.2.1 ≤ 7) := by
      rcases hV with ⟨e, z, _⟩ | ⟨e, _⟩ | ⟨e, _⟩ | ⟨e, _⟩ | ⟨e, _⟩
      · exact z
      · omega
      · omega
      · omega
      · omega
    rw [h3 (by omega)]
    rw [if_pos q] at est
    exact ⟨by omega, fun σ2 f2 => k1 _ σ2 est (hi (am_fx.o1 f2) (by decide) (by decide)) (by rw [f2]; exact hX.row (by decide))⟩
  · have hb : (1 ≤ t.2.1 ∧ t.2.1 ≤ 10) := by
      rcases hV with ⟨e, _⟩ | ⟨e, z⟩ | ⟨e, _⟩ | ⟨e, _⟩ | ⟨e, _⟩
      · omega
      · exact z
      · omega
      · omega
      · omega
    rw [if_neg (by omega), if_pos q] at est
    have hs := x_fitG (x := x) (n := t.2.1.toNat) (Po' := fun ro4 so4 σ4 => ∃ z4 : Int, ro4 = some (Zi z4) ∧ so4 = am_SH ∧ Po (some (Zi 1)) am_SH σ4) hX hO (by omega) (fun σ' f' hX' => ⟨_, rfl, rfl, k1 _ σ' est (hi f' (by decide +kernel) (by decide)) hX'⟩)
    rw [Int.toNat_of_nonneg (by omega)] at hs
    exact hs
  · have hb : (0 ≤ t.2.1 ∧ t.2.1 < s 0 3) := by
      rcases hV with ⟨e, _⟩ | ⟨e, _⟩ | ⟨e, z, _⟩ | ⟨e, _⟩ | ⟨e, _⟩
      · omega
      · omega
      · exact z
      · omega
      · omega
    rw [h3 (by omega)]
    rw [if_neg (by omega), if_neg (by omega), if_pos q] at est
    exact ⟨by omega, fun σ2 f2 => k1 _ σ2 est (hi (am_fx.o1 f2) (by decide) (by decide)) (by rw [f2]; exact hX.row (by decide))⟩
  · have hb : (0 ≤ t.2.1 ∧ t.2.1 < s 0 2) := by
      rcases hV with ⟨e, _⟩ | ⟨e, _⟩ | ⟨e, _⟩ | ⟨e, z, _⟩ | ⟨e, _⟩
      · omega
      · omega
      · omega
      · exact z
      · omega
    rw [h3 (by omega)]
    rw [if_neg (by omega), if_neg (by omega), if_neg (by omega), if_pos q] at est
    exact ⟨by omega, fun σ2 f2 => k1 _ σ2 est (hi (am_fx.o1 f2) (by decide) (by decide)) (by rw [f2]; exact hX.row (by decide))⟩
theorem m_isDone {t : am_T3} {k : Nat} (hM : am_RM w h s σ) (hO : am_OK w h s) (hV : am_VS w h s t) (hk : k < 160) (e1 : σ.1 172 k = t.1) (e2 : σ.1 173 k = t.2.1) (h3 : t.1 ≠ 1 → σ.1 174 k = t.2.2)
    (k1 : ∀ s' σ', am_obey w h t s = some s' → (∀ k j, (k < 148 ∨ 171 ≤ k) → σ'.1 k j = σ.1 k j) → am_RM w h s' σ' → Po (some (Zi 1)) am_SH σ') (k0 : am_obey w h t s = none → ∀ σ', (∀ k j, (k < 148 ∨ 171 ≤ k) → σ'.1 k j = σ.1 k j) → am_RM w h s σ' → Po (some (Zi 0)) am_SH σ') : am_U x m_Mo_isDone Po σ 0 [some (Zr 147), some (Zi (k : Int))] [] := by
  obtain ⟨bP, -, -, bE, bS⟩ := am_OKb hO
  have hwh := am_wh hO
  have hi : ∀ {ks : List Nat} {σ' : am_St}, am_fx ks [] σ σ' → (∀ k ∈ ks, 148 ≤ k ∧ k < 171) → ∀ k j, (k < 148 ∨ 171 ≤ k) → σ'.1 k j = σ.1 k j := fun {ks σ'} f a k j hk => f k j (fun z => by have := a k z; omega) (by simp)
  have est : am_obey w h t s = if t.1 = 0 then some (am_up s 2 t.2.1.toNat t.2.2) else if t.1 = 1 then some (am_fitN w h s t.2.1.toNat) else if t.1 = 2 then some (am_up s 5 t.2.1.toNat t.2.2) else if t.1 = 3 then some (am_up s 4 t.2.1.toNat t.2.2) else if A_sb w h s t.2.1.toNat t.2.2.toNat < 0 then none else some (N_sb w h s t.2.1.toNat t.2.2.toNat) := rfl
  have hv1 : 0 ≤ t.1 ∧ t.1 ≤ 4 := by rcases hV with ⟨e, _⟩ | ⟨e, _⟩ | ⟨e, _⟩ | ⟨e, _⟩ | ⟨e, _⟩ <;> omega
  refine s_Mo_isDone_0 ?_
  rw [Int.toNat_natCast, e1, e2]
  refine ⟨by omega, by omega, fun q => ?_, fun q => ?_, fun q => ?_, fun q => ?_, fun q => ?_⟩
  · have e4 : t.1 = 4 := by omega
    rw [h3 (by omega)]
    rw [if_neg (by omega), if_neg (by omega), if_neg (by omega), if_neg (by omega)] at est
    have hb : (0 ≤ t.2.1 ∧ t.2.1 ≤ 7) ∧ (0 ≤ t.2.2 ∧ t.2.2 < 2 ^ (w * h)) := by
      rcases hV with ⟨e, _⟩ | ⟨e, _⟩ | ⟨e, _⟩ | ⟨e, _⟩ | ⟨e, z⟩
      · omega
      · omega
      · omega
      · omega
      · exact z
    have p1 : (2 : Int) ^ (w * h) ≤ 65536 := by have := am_pow_le (show w * h ≤ 16 by omega); exact this
    have eA : A_split w h s t.2.1 t.2.2 = A_sb w h s t.2.1.toNat t.2.2.toNat := by unfold A_split; rw [if_pos (by omega), if_pos hb.2]
    have eN : N_split w h s t.2.1 t.2.2 = N_sb w h s t.2.1.toNat t.2.2.toNat := by unfold N_split; rw [if_pos ⟨by omega, hb.2⟩]
    refine m_splitG hM hO (by omega) (by omega) (fun σ' f' hM' => ?_)
    rw [eN] at hM'
    rw [eA]
    exact ⟨_, rfl, rfl, am_sb_r, fun qn => s_Mo_isDone_130 ⟨Or.inl rfl, k0 (by rw [est, if_pos qn]) σ' (hi f' (by decide)) (by rw [am_sb_neg qn] at hM'; exact hM')⟩, fun qn => s_Mo_isDone_130 ⟨Or.inr rfl, k1 _ σ' (by rw [est, if_neg qn]) (hi f' (by decide)) hM'⟩⟩
  · have hb : (0 ≤ t.2.1 ∧ t.2.1 ≤ 7) := by
      rcases hV with ⟨e, z, _⟩ | ⟨e, _⟩ | ⟨e, _⟩ | ⟨e, _⟩ | ⟨e, _⟩
      · exact z
      · omega
      · omega
      · omega
      · omega
    rw [h3 (by omega)]
    rw [if_pos q] at est
    exact ⟨by omega, fun σ2 f2 => k1 _ σ2 est (hi (am_fx.o1 f2) (by decide)) (by rw [f2]; exact hM.row (by decide))⟩
  · have hb : (1 ≤ t.2.1 ∧ t.2.1 ≤ 10) := by
      rcases hV with ⟨e, _⟩ | ⟨e, z⟩ | ⟨e, _⟩ | ⟨e, _⟩ | ⟨e, _⟩
      · omega
      · exact z
      · omega
      · omega
      · omega
    rw [if_neg (by omega), if_pos q] at est
    have eN : N_fit w h s t.2.1 = am_fitN w h s t.2.1.toNat := by unfold N_fit; rw [if_pos hb]
    refine m_fitG hM hO (by omega) (fun σ' f' hM' => ?_)
    rw [eN] at hM'
    exact ⟨_, rfl, rfl, k1 _ σ' est (hi f' (by decide)) hM'⟩
  · have hb : (0 ≤ t.2.1 ∧ t.2.1 < s 0 3) := by
      rcases hV with ⟨e, _⟩ | ⟨e, _⟩ | ⟨e, z, _⟩ | ⟨e, _⟩ | ⟨e, _⟩
      · omega
      · omega
      · exact z
      · omega
      · omega
    rw [h3 (by omega)]
    rw [if_neg (by omega), if_neg (by omega), if_pos q] at est
    exact ⟨by omega, fun σ2 f2 => k1 _ σ2 est (hi (am_fx.o1 f2) (by decide)) (by rw [f2]; exact hM.row (by decide))⟩
  · have hb : (0 ≤ t.2.1 ∧ t.2.1 < s 0 2) := by
      rcases hV with ⟨e, _⟩ | ⟨e, _⟩ | ⟨e, _⟩ | ⟨e, z, _⟩ | ⟨e, _⟩
      · omega
      · omega
      · omega
      · exact z
      · omega
    rw [h3 (by omega)]
    rw [if_neg (by omega), if_neg (by omega), if_neg (by omega), if_pos q] at est
    exact ⟨by omega, fun σ2 f2 => k1 _ σ2 est (hi (am_fx.o1 f2) (by decide)) (by rw [f2]; exact hM.row (by decide))⟩
end AMRU
