/-! ===== of, misfit ===== -/
section AMF
variable {x : am_Sc} {Po : Option am_AV → am_Sh → am_St → Prop} {σ : am_St} {w h w2 h2 : Nat} {s s2 : Nat → Nat → Int}
noncomputable def A_of (w h : Nat) (s : Nat → Nat → Int) (p v : Int) : Int := if 0 ≤ p ∧ p < s 0 4 then (if v = 0 then am_ft w h s p.toNat else if v = 1 then am_off (am_lo s p.toNat) (am_hi s p.toNat) (am_ft w h s p.toNat) else if v = 2 then am_lo s p.toNat else if v = 3 then am_hi s p.toNat else if v = 4 then ((am_wn w h (am_cost s (s 9 p.toNat)) (am_eC s p.toNat) (am_sC s p.toNat) + 1 : Nat) : Int) else -3) else -2
theorem x_of {p v : Int} (hX : am_RX w h s σ) (hM : am_RM w2 h2 s2 σ) (hO : am_OK w h s) (rp : am_r p) (rv : am_r v) (kk : ∀ σ', am_RX w h s σ' → am_RM w2 h2 s2 σ' → Po (some (Zi (A_of w h s p v))) am_SH σ') : am_U x m_Sp_of Po σ 0 [some (Zr 0), some (Zi p), some (Zi v)] [] := by
  obtain ⟨bP, bT, bD, -⟩ := am_OKb hO
  refine s_Sp_of_0 (x_isPick hX bP rp (fun q => br1n ?_) (fun q => br0n (am_fX kk (by simp only [A_of]; rw [if_neg q]) rfl hX hM)))
  have hp : p.toNat < am_P s := by unfold am_P; omega
  have ep : p = ((p.toNat : Nat) : Int) := by omega
  obtain ⟨a, b, c, d, e, f, g, i, -⟩ := am_OKp hO hp
  have lh := am_lohi hO hp
  have fb := am_ft_b hO hp
  refine ⟨rv, fun qv => am_fX kk ?_ rfl hX hM, fun qv => ?_, fun qv => ?_, fun qv => ?_, fun qv => ?_, fun qv => ?_⟩
  · simp only [A_of]; rw [if_pos q, if_neg (by omega), if_neg (by omega), if_neg (by omega), if_neg (by omega), if_neg (by omega)]
  · rw [ep]
    refine x_foretold hX hO hp (fun σ1 hf => ⟨_, rfl, rfl, am_fX kk ?_ rfl (hX.fx hf (by decide)) (hM.fx hf (by decide))⟩)
    simp only [A_of]; rw [if_pos q, if_pos qv]
  · rw [ep]
    refine x_foretold hX hO hp (fun σ1 hf => ⟨_, rfl, rfl, ?_⟩)
    have hX1 := hX.fx hf (by decide)
    have hM1 := hM.fx hf (by decide)
    refine x_lowNow hX1 hO hp ⟨_, rfl, rfl, x_highNow hX1 hO hp ⟨_, rfl, rfl, c_missed (by omega) (by omega) (by omega) (by omega) ⟨_, rfl, rfl, am_fX kk ?_ rfl hX1 hM1⟩⟩⟩
    simp only [A_of]; rw [if_pos q, if_neg (by omega), if_pos qv]
  · rw [ep]
    refine x_lowNow hX hO hp ⟨_, rfl, rfl, am_fX kk ?_ rfl hX hM⟩
    simp only [A_of]; rw [if_pos q, if_neg (by omega), if_neg (by omega), if_pos qv]
  · rw [ep]
    refine x_highNow hX hO hp ⟨_, rfl, rfl, am_fX kk ?_ rfl hX hM⟩
    simp only [A_of]; rw [if_pos q, if_neg (by omega), if_neg (by omega), if_neg (by omega), if_pos qv]
  · rw [ep]
    refine x_cellOfEar hX hO hp ⟨_, rfl, rfl, by omega, ?_⟩
    rw [Int.toNat_natCast, hX.1.at 15 9 12 (by decide) a]
    refine x_spread hX hO e.2 d (fun σ1 hf h5 h6 => ⟨rfl, rfl, ?_⟩)
    have hX1 := hX.fx hf (by decide)
    have hM1 := hM.fx hf (by decide)
    refine x_cellOfShake hX1 hO hp ⟨_, rfl, rfl, x_trace hX1 hO e.2 h5 h6 f.2 (fun σ2 hf2 h8 h7 => ⟨rfl, rfl, am_fX kk ?_ rfl (hX1.fx hf2 (by decide)) (hM1.fx hf2 (by decide))⟩)⟩
    simp only [A_of]; rw [if_pos q, if_neg (by omega), if_neg (by omega), if_neg (by omega), if_neg (by omega), if_pos qv, h8]
theorem m_of {p v : Int} (hM : am_RM w h s σ) (hX : am_RX w2 h2 s2 σ) (hO : am_OK w h s) (rp : am_r p) (rv : am_r v) (kk : ∀ σ', am_RM w h s σ' → am_RX w2 h2 s2 σ' → Po (some (Zi (A_of w h s p v))) am_SH σ') : am_U x m_Mo_of Po σ 0 [some (Zr 147), some (Zi p), some (Zi v), none, none] [] := by
  obtain ⟨bP, bT, bD, -⟩ := am_OKb hO
  refine s_Mo_of_0 (m_isPick hM bP rp (fun q => br1n (c_in rv (by decide) (by decide) (fun qv => br1n ?_) (fun qv => br0n (am_fM kk (by simp only [A_of]; rw [if_pos q, if_neg (by omega), if_neg (by omega), if_neg (by omega), if_neg (by omega), if_neg (by omega)]) rfl hM hX)))) (fun q => br0n (am_fM kk (by simp only [A_of]; rw [if_neg q]) rfl hM hX)))
  have hp : p.toNat < am_P s := by unfold am_P; omega
  have ep : p = ((p.toNat : Nat) : Int) := by omega
  have hwh := am_wh hO
  obtain ⟨a, b, c, d, e, f, g, i, -⟩ := am_OKp hO hp
  have lh := am_lohi hO hp
  have ld := am_lst_day hO hp
  have fb := am_ft_b hO hp
  rw [hM.1.as 147 20 1 (by decide)]
  refine m_findSpans hM hO (by omega) (fun σ1 f1 hSP => ⟨rfl, rfl, ?_⟩)
  have hM1 := hM.fx f1 (by decide)
  refine m_shakeTimes hM1 hO (fun σ2 f2 hST => ⟨rfl, rfl, ?_⟩)
  have hM2 := hM1.fx f2 (by decide)
  rw [hM2.1.at 154 7 12 (by decide) a, hM2.1.at 156 9 12 (by decide) a, hM2.1.at 150 3 6 (by decide) (show (s 7 p.toNat).toNat < 6 by omega), e.1]
  refine ⟨by omega, by omega, m_findTimes hM2 hO e.2 d (fun σ3 f3 h6 => ⟨rfl, rfl, ?_⟩)⟩
  have hM3 := hM2.fx f3 (by decide)
  have hX3 : am_RX w2 h2 s2 σ3 := ((hX.fx f1 (by decide)).fx f2 (by decide)).fx f3 (by decide)
  have hST3 : am_ST w h s (2 * (s 0 3).toNat) σ3 := fun sh kd c h4 h5 h6 => by rw [f3.g 165 (by decide)]; exact hST sh kd c h4 h5 h6
  have elo : σ3.1 161 p.toNat = am_lo s p.toNat := by rw [f3.g 161 (by decide), f2.g 161 (by decide)]; exact ((hSP _ hp).2 ld).1
  have ehi : σ3.1 162 p.toNat = am_hi s p.toNat := by rw [f3.g 162 (by decide), f2.g 162 (by decide)]; exact ((hSP _ hp).2 ld).2
  rw [hM3.1.at 155 8 12 (by decide) a, hM3.1.at 152 5 5 (by decide) (show (s 8 p.toNat).toNat < 5 by omega), f.1]
  refine ⟨by omega, ?_⟩
  obtain ⟨n1, n2, n3, n4⟩ := am_wn_of (k := s 9 p.toNat) hO e.2 f.2
  have loop : ∀ (dd j : Nat), j + dd = am_wn w h (am_cost s (s 9 p.toNat)) (am_eC s p.toNat) (am_sC s p.toNat) → am_U x m_Mo_of Po σ3 71 [some (Zr 147), some (Zi p), some (Zi v), some (Zi ((j : Int) + 1)), some (Zi ((am_wp w h (am_cost s (s 9 p.toNat)) (am_eC s p.toNat) (am_sC s p.toNat) j : Nat) : Int))] [] := by
    intro dd
    induction dd with
    | zero =>
      intro j hj
      have ej : j = am_wn w h (am_cost s (s 9 p.toNat)) (am_eC s p.toNat) (am_sC s p.toNat) := by omega
      have en : am_wp w h (am_cost s (s 9 p.toNat)) (am_eC s p.toNat) (am_sC s p.toNat) j = am_eC s p.toNat := by rw [ej]; exact n2
      refine s_Mo_of_71 ?_
      rw [hM3.1.at 154 7 12 (by decide) a, hM3.1.at 150 3 6 (by decide) (show (s 7 p.toNat).toNat < 6 by omega), e.1, en, elo, ehi]
      refine ⟨by omega, by omega, by omega, by omega, fun _ => ⟨rv, fun q0 => ⟨fun q1 => ⟨fun q2 => ⟨fun q3 => s_Mo_of_166 (am_fM kk ?_ rfl hM3 hX3), fun q3 => s_Mo_of_166 (am_fM kk ?_ rfl hM3 hX3)⟩, fun q2 => s_Mo_of_166 (am_fM kk ?_ rfl hM3 hX3)⟩, fun q1 => ?_⟩, fun q0 => ?_⟩, fun q => absurd rfl q⟩
      · simp only [A_of]; rw [if_pos q, if_neg q0, if_neg q1, if_neg q2, if_neg q3, if_pos (by omega), ej]; rfl
      · simp only [A_of]; rw [if_pos q, if_neg q0, if_neg q1, if_neg q2, if_pos q3]
      · simp only [A_of]; rw [if_pos q, if_neg q0, if_neg q1, if_pos q2]
      · rw [ep]
        refine m_foretold hM3 hO hp hST3 ⟨_, rfl, rfl, m_offOf a (by omega) elo ehi (by omega) (by omega) ⟨_, rfl, rfl, s_Mo_of_166 (am_fM kk ?_ rfl hM3 hX3)⟩⟩
        simp only [A_of]; rw [if_pos q, if_neg q0, if_pos q1]
      · rw [ep]
        refine m_foretold hM3 hO hp hST3 ⟨_, rfl, rfl, s_Mo_of_166 (am_fM kk ?_ rfl hM3 hX3)⟩
        simp only [A_of]; rw [if_pos q, if_pos q0]
    | succ dd ih =>
      intro j hj
      have lt := n4 j (by omega)
      have ne := n3 j (by omega)
      refine s_Mo_of_71 ?_
      rw [hM3.1.at 154 7 12 (by decide) a, hM3.1.at 150 3 6 (by decide) (show (s 7 p.toNat).toNat < 6 by omega), e.1, hM3.1.at 156 9 12 (by decide) a]
      exact ⟨by omega, by omega, by omega, by omega, fun q => absurd (by omega) ne, fun _ => m_next hM3 hO e.2 d h6 lt ne ⟨_, rfl, rfl, ih (j + 1) (by omega)⟩⟩
  exact loop _ 0 (Nat.zero_add _)
/-! misfit -/
noncomputable def am_mis (w h : Nat) (s : Nat → Nat → Int) (D : Int) (p : Nat) : Int := am_off (s 12 (am_lst s p D (am_T s)).toNat) (s 13 (am_lst s p D (am_T s)).toNat) (am_ft w h s p)
noncomputable def am_f1 (w h : Nat) (s : Nat → Nat → Int) (D : Int) (p : Nat) : Int := if 0 ≤ am_lst s p D (am_T s) then am_mis w h s D p else 0
noncomputable def am_f2 (w h : Nat) (s : Nat → Nat → Int) (D : Int) (p : Nat) : Int := if 0 ≤ am_lst s p D (am_T s) ∧ am_mis w h s D p = 0 then 1 else 0
noncomputable def A_misfit (w h : Nat) (s : Nat → Nat → Int) (D v : Int) : Int := if (0 ≤ D ∧ D ≤ s 0 1) ∧ (0 ≤ v ∧ v ≤ 1) then (if v = 0 then am_sum (am_f1 w h s D) (am_P s) else am_sum (am_f2 w h s D) (am_P s)) else -3
theorem am_mis_b (hO : am_OK w h s) {D : Int} {p : Nat} (hp : p < am_P s) (hl : 0 ≤ am_lst s p D (am_T s)) : (0 ≤ am_mis w h s D p ∧ am_mis w h s D p ≤ 10000) ∧ (am_lst s p D (am_T s)).toNat < 40 ∧ 0 ≤ s 12 (am_lst s p D (am_T s)).toNat ∧ s 12 (am_lst s p D (am_T s)).toNat ≤ s 13 (am_lst s p D (am_T s)).toNat ∧ s 13 (am_lst s p D (am_T s)).toNat ≤ 3000 := by
  have h2 := am_lst_b (s := s) (p := p) (D := D) (am_T s)
  have h3 := am_OKt hO (t := (am_lst s p D (am_T s)).toNat) (by omega)
  have h4 := am_ft_b hO hp
  exact ⟨am_off_b (by omega) (by omega) (by omega), by omega, by omega, by omega, by omega⟩
theorem am_f1_b (hO : am_OK w h s) {D : Int} {p : Nat} (hp : p < am_P s) : 0 ≤ am_f1 w h s D p ∧ am_f1 w h s D p ≤ 10000 := by
  unfold am_f1
  split
  · rename_i q; exact (am_mis_b hO hp q).1
  · decide
theorem am_f1_s (hO : am_OK w h s) {D : Int} {n : Nat} (hn : n ≤ am_P s) : 0 ≤ am_sum (am_f1 w h s D) n ∧ am_sum (am_f1 w h s D) n ≤ 120000 := by
  obtain ⟨bP, -⟩ := am_OKb hO
  have := am_sum_b (f := am_f1 w h s D) (B := 10000) (n := n) (fun i hi => am_f1_b hO (by omega))
  have : n ≤ 12 := by unfold am_P at hn; omega
  omega
theorem am_f2_s {D : Int} {n : Nat} : 0 ≤ am_sum (am_f2 w h s D) n ∧ am_sum (am_f2 w h s D) n ≤ n := by
  have := am_sum_b (f := am_f2 w h s D) (B := 1) (n := n) (fun i hi => by unfold am_f2; split <;> decide)
  omega
theorem x_misfit {D v : Int} (hX : am_RX w h s σ) (hM : am_RM w2 h2 s2 σ) (hO : am_OK w h s) (rD : am_r D) (rv : am_r v) (kk : ∀ σ', am_RX w h s σ' → am_RM w2 h2 s2 σ' → Po (some (Zi (A_misfit w h s D v))) am_SH σ') : am_U x m_Sp_misfit Po σ 0 [some (Zr 0), some (Zi D), some (Zi v), none, none, none, none, none] [] := by
  obtain ⟨bP, bT, bD, -⟩ := am_OKb hO
  have lP : am_P s ≤ 12 := by unfold am_P; omega
  have lT : am_T s ≤ 40 := by unfold am_T; omega
  refine s_Sp_misfit_0 ?_
  rw [hX.1.as 8 15 1 (by decide)]
  refine c_isW rD (by decide) (by omega) (fun q => br1e (c_isW rv (by decide) (by decide) (fun q2 => br1n ?_) (fun q2 => br0n (s_Sp_misfit_24 (am_fX kk (by simp only [A_misfit]; rw [if_neg (fun z => q2 z.2)]) rfl hX hM))))) (fun q => br0e (s_Sp_misfit_24 (am_fX kk (by simp only [A_misfit]; rw [if_neg (fun z => q z.1)]) rfl hX hM)))
  have loop : ∀ (d p : Nat) (τ : am_St), p + d = am_P s → am_RX w h s τ → am_RM w2 h2 s2 τ → am_U x m_Sp_misfit Po τ 35 [some (Zr 0), some (Zi D), some (Zi v), some (Zi (am_sum (am_f1 w h s D) p)), some (Zi (am_sum (am_f2 w h s D) p)), some (Zi (p : Int)), none, none] [] := by
    intro d
    induction d with
    | zero =>
      intro p τ hp hX hM
      have eP : τ.1 8 6 = (am_P s : Int) := by rw [hX.1.as 8 6 4 (by decide)]; unfold am_P; omega
      refine s_Sp_misfit_35 ?_
      rw [eP]
      have ep : p = am_P s := by omega
      refine ⟨by omega, by omega, fun _ => ⟨rv, fun qv => s_Sp_misfit_134 (am_fX kk ?_ rfl hX hM), fun qv => s_Sp_misfit_134 (am_fX kk ?_ rfl hX hM)⟩, fun qq => absurd (by omega) qq⟩
      · simp only [A_misfit]; rw [if_pos ⟨q, q2⟩, if_neg qv, ep]
      · simp only [A_misfit]; rw [if_pos ⟨q, q2⟩, if_pos qv, ep]
    | succ d ih =>
      intro p τ hp hX hM
      have eP : τ.1 8 6 = (am_P s : Int) := by rw [hX.1.as 8 6 4 (by decide)]; unfold am_P; omega
      have hpp : p < am_P s := by omega
      have h2 := am_lst_b (s := s) (p := p) (D := D) (am_T s)
      have fb := am_ft_b hO hpp
      have e1 : am_sum (am_f1 w h s D) (p + 1) = am_sum (am_f1 w h s D) p + am_f1 w h s D p := rfl
      have e2 : am_sum (am_f2 w h s D) (p + 1) = am_sum (am_f2 w h s D) p + am_f2 w h s D p := rfl
      refine s_Sp_misfit_35 ?_
      rw [eP]
      refine ⟨by omega, by omega, fun q => absurd q (by omega), fun _ => x_lastT hX hO (by omega) rD ⟨_, rfl, rfl, by omega, fun ql => s_Sp_misfit_118 ?_, fun ql => ?_⟩⟩
      · have := ih (p + 1) τ (by omega) hX hM
        rw [e1, e2, show am_f1 w h s D p = 0 by unfold am_f1; rw [if_neg (by omega)], show am_f2 w h s D p = 0 by unfold am_f2; rw [if_neg (by omega)], Int.add_zero, Int.add_zero] at this
        exact this
      · obtain ⟨m1, m2, m3, m4, m5⟩ := am_mis_b hO hpp (show 0 ≤ am_lst s p D (am_T s) by omega)
        refine x_foretold hX hO hpp (fun τ1 hf => ⟨_, rfl, rfl, by omega, ?_⟩)
        have hX1 := hX.fx hf (by decide)
        have hM1 := hM.fx hf (by decide)
        rw [hX1.1.at 18 12 40 (by decide) m2, hX1.1.at 19 13 40 (by decide) m2]
        have nx := ih (p + 1) τ1 (by omega) hX1 hM1
        rw [e1, e2, show am_f1 w h s D p = am_mis w h s D p by unfold am_f1; rw [if_pos (by omega)]] at nx
        refine c_missed (by omega) (by omega) (by omega) (by omega) ⟨_, rfl, rfl, ?_⟩
        have em : am_off (s 12 (am_lst s p D (am_T s)).toNat) (s 13 (am_lst s p D (am_T s)).toNat) (am_ft w h s p) = am_mis w h s D p := rfl
        rw [em]
        refine ⟨by omega, fun qz => s_Sp_misfit_115 (s_Sp_misfit_118 ?_), fun qz => s_Sp_misfit_115 (s_Sp_misfit_118 ?_)⟩
        · rw [show am_f2 w h s D p = 0 by unfold am_f2; rw [if_neg (fun z => qz z.2)]] at nx; exact nx
        · rw [show am_f2 w h s D p = 1 by unfold am_f2; rw [if_pos ⟨by omega, qz⟩]] at nx; exact nx
  exact loop _ 0 σ (Nat.zero_add _) hX hM
/-- the model's misfit now, to spans that lie in 161, 162, 163 -/
noncomputable def am_g1 (w h : Nat) (s : Nat → Nat → Int) (U L H : Nat → Int) (p : Nat) : Int := if U p = 0 then 0 else am_off (L p) (H p) (am_ft w h s p)
theorem m_misfitNow {U L H : Nat → Int} (hM : am_RM w h s σ) (hO : am_OK w h s) (hU : ∀ p, p < am_P s → σ.1 163 p = U p ∧ (U p = 0 ∨ U p = 1) ∧ (U p = 1 → σ.1 161 p = L p ∧ σ.1 162 p = H p ∧ (-5000 ≤ L p ∧ L p ≤ 5000) ∧ (-5000 ≤ H p ∧ H p ≤ 5000))) (kk : ∀ σ', am_fx [164, 165] [] σ σ' → am_ST w h s (2 * (s 0 3).toNat) σ' → Po (some (Zi (am_sum (am_g1 w h s U L H) (am_P s)))) am_SH σ') : am_U x m_Mo_misfitNow Po σ 0 [some (Zr 147), none, none] [] := by
  obtain ⟨bP, bT, bD, -⟩ := am_OKb hO
  have lP : am_P s ≤ 12 := by unfold am_P; omega
  refine s_Mo_misfitNow_0 (m_shakeTimes hM hO (fun σ1 f1 hST => ⟨rfl, rfl, ?_⟩))
  have hM1 := hM.fx f1 (by decide)
  have eP : σ1.1 147 11 = (am_P s : Int) := by rw [hM1.1.as 147 11 4 (by decide)]; unfold am_P; omega
  have loop : ∀ (d p : Nat), p + d = am_P s → am_U x m_Mo_misfitNow Po σ1 8 [some (Zr 147), some (Zi (am_sum (am_g1 w h s U L H) p)), some (Zi (p : Int))] [] := by
    intro d
    induction d with
    | zero =>
      intro p hp
      refine s_Mo_misfitNow_8 ?_
      rw [eP]
      refine ⟨by omega, by omega, fun _ => ?_, fun q => absurd (by omega) q⟩
      rw [show p = am_P s by omega]; exact kk σ1 f1 hST
    | succ d ih =>
      intro p hp
      obtain ⟨u1, u2, u3⟩ := hU p (by omega)
      have fb := am_ft_b hO (show p < am_P s by omega)
      have e1 : am_sum (am_g1 w h s U L H) (p + 1) = am_sum (am_g1 w h s U L H) p + am_g1 w h s U L H p := rfl
      have nx := ih (p + 1) (by omega)
      rw [e1] at nx
      refine s_Mo_misfitNow_8 ?_
      rw [eP, Int.toNat_natCast, f1.g 163 (by decide), u1]
      refine ⟨by omega, by omega, fun q => absurd q (by omega), fun _ => ⟨by omega, by omega, fun q => s_Mo_misfitNow_40 ?_, fun q => ?_⟩⟩
      · rw [show am_g1 w h s U L H p = 0 by unfold am_g1; rw [if_pos q]] at nx; exact nx
      · obtain ⟨l1, l2, l3, l4⟩ := u3 (by omega)
        have el : σ1.1 161 p = L p := by rw [f1.g 161 (by decide)]; exact l1
        have eh : σ1.1 162 p = H p := by rw [f1.g 162 (by decide)]; exact l2
        refine m_foretold hM1 hO (by omega) hST ⟨_, rfl, rfl, m_offOf (by omega) (by omega) el eh (by omega) (by omega) ⟨_, rfl, rfl, s_Mo_misfitNow_40 ?_⟩⟩
        rw [show am_g1 w h s U L H p = am_off (L p) (H p) (am_ft w h s p) by unfold am_g1; rw [if_neg q]] at nx; exact nx
  exact loop _ 0 (Nat.zero_add _)
theorem am_SP_U {D : Int} (hO : am_OK w h s) (hS : am_SP s D (am_T s) σ) : ∀ p, p < am_P s → σ.1 163 p = (fun p => if 0 ≤ am_lst s p D (am_T s) then (1 : Int) else 0) p ∧ ((fun p => if 0 ≤ am_lst s p D (am_T s) then (1 : Int) else 0) p = 0 ∨ (fun p => if 0 ≤ am_lst s p D (am_T s) then (1 : Int) else 0) p = 1) ∧ ((fun p => if 0 ≤ am_lst s p D (am_T s) then (1 : Int) else 0) p = 1 → σ.1 161 p = (fun p => s 12 (am_lst s p D (am_T s)).toNat) p ∧ σ.1 162 p = (fun p => s 13 (am_lst s p D (am_T s)).toNat) p ∧ (-5000 ≤ (fun p => s 12 (am_lst s p D (am_T s)).toNat) p ∧ (fun p => s 12 (am_lst s p D (am_T s)).toNat) p ≤ 5000) ∧ (-5000 ≤ (fun p => s 13 (am_lst s p D (am_T s)).toNat) p ∧ (fun p => s 13 (am_lst s p D (am_T s)).toNat) p ≤ 5000)) := by
  intro p hp
  obtain ⟨h1, h2⟩ := hS p hp
  simp only []
  by_cases q : 0 ≤ am_lst s p D (am_T s)
  · rw [if_pos q] at h1 ⊢
    obtain ⟨m1, m2, m3, m4, m5⟩ := am_mis_b hO hp q
    exact ⟨h1, Or.inr rfl, fun _ => ⟨(h2 q).1, (h2 q).2, by omega, by omega⟩⟩
  · rw [if_neg q] at h1 ⊢
    exact ⟨h1, Or.inl rfl, fun z => absurd z (by decide)⟩
theorem m_misfit {D v : Int} (hM : am_RM w h s σ) (hX : am_RX w2 h2 s2 σ) (hO : am_OK w h s) (rD : am_r D) (rv : am_r v) (kk : ∀ σ', am_RM w h s σ' → am_RX w2 h2 s2 σ' → Po (some (Zi (A_misfit w h s D v))) am_SH σ') : am_U x m_Mo_misfit Po σ 0 [some (Zr 147), some (Zi D), some (Zi v), none, none, none] [] := by
  obtain ⟨bP, bT, bD, -⟩ := am_OKb hO
  have lP : am_P s ≤ 12 := by unfold am_P; omega
  refine s_Mo_misfit_0 ?_
  rw [hM.1.as 147 20 1 (by decide)]
  refine c_in rD (by decide) (by omega) (fun q => br1e (c_in rv (by decide) (by decide) (fun q2 => br1n ?_) (fun q2 => br0n (s_Mo_misfit_21 (am_fM kk (by simp only [A_misfit]; rw [if_neg (fun z => q2 z.2)]) rfl hM hX))))) (fun q => br0e (s_Mo_misfit_21 (am_fM kk (by simp only [A_misfit]; rw [if_neg (fun z => q z.1)]) rfl hM hX)))
  refine m_findSpans hM hO rD (fun σ1 f1 hSP => ⟨rfl, rfl, ?_⟩)
  have hM1 := hM.fx f1 (by decide)
  refine m_misfitNow hM1 hO (am_SP_U hO hSP) (fun σ2 f2 hST => ⟨_, rfl, rfl, ?_⟩)
  have hM2 := hM1.fx f2 (by decide)
  have hX2 : am_RX w2 h2 s2 σ2 := (hX.fx f1 (by decide)).fx f2 (by decide)
  have eP : σ2.1 147 11 = (am_P s : Int) := by rw [hM2.1.as 147 11 4 (by decide)]; unfold am_P; omega
  rw [am_sum_c (g := am_f1 w h s D) (fun p hp => by
    unfold am_g1 am_f1 am_mis
    simp only []
    by_cases q : 0 ≤ am_lst s p D (am_T s)
    · rw [if_pos q, if_pos q, if_neg (by decide)]
    · rw [if_neg q, if_neg q, if_pos rfl])]
  have loop : ∀ (d p : Nat), p + d = am_P s → am_U x m_Mo_misfit Po σ2 40 [some (Zr 147), none, some (Zi v), some (Zi (am_sum (am_f1 w h s D) (am_P s))), some (Zi (am_sum (am_f2 w h s D) p)), some (Zi (p : Int))] [] := by
    intro d
    induction d with
    | zero =>
      intro p hp
      refine s_Mo_misfit_40 ?_
      rw [eP]
      refine ⟨by omega, by omega, fun _ => ⟨rv, fun qv => s_Mo_misfit_100 (am_fM kk ?_ rfl hM2 hX2), fun qv => s_Mo_misfit_100 (am_fM kk ?_ rfl hM2 hX2)⟩, fun qq => absurd (by omega) qq⟩
      · simp only [A_misfit]; rw [if_pos ⟨q, q2⟩, if_neg qv, show p = am_P s by omega]
      · simp only [A_misfit]; rw [if_pos ⟨q, q2⟩, if_pos qv]
    | succ d ih =>
      intro p hp
      have hpp : p < am_P s := by omega
      obtain ⟨g1, g2⟩ := hSP p hpp
      have fb := am_ft_b hO hpp
      have e2 : am_sum (am_f2 w h s D) (p + 1) = am_sum (am_f2 w h s D) p + am_f2 w h s D p := rfl
      have nx := ih (p + 1) (by omega)
      rw [e2] at nx
      refine s_Mo_misfit_40 ?_
      rw [eP, Int.toNat_natCast, f2.g 163 (by decide), g1]
      refine ⟨by omega, by omega, fun q => absurd q (by omega), fun _ => ⟨by omega, by split <;> decide, fun qz => s_Mo_misfit_80 (s_Mo_misfit_81 ?_), fun qz => ?_⟩⟩
      · have ql : ¬ 0 ≤ am_lst s p D (am_T s) := fun z => by rw [if_pos z] at qz; exact absurd qz (by decide)
        rw [show am_f2 w h s D p = 0 by unfold am_f2; rw [if_neg (fun z => ql z.1)]] at nx; exact nx
      · have ql : 0 ≤ am_lst s p D (am_T s) := Classical.byContradiction (fun z => qz (if_neg z))
        obtain ⟨m1, m2, m3, m4, m5⟩ := am_mis_b hO hpp ql
        have el : σ2.1 161 p = s 12 (am_lst s p D (am_T s)).toNat := by rw [f2.g 161 (by decide)]; exact (g2 ql).1
        have eh : σ2.1 162 p = s 13 (am_lst s p D (am_T s)).toNat := by rw [f2.g 162 (by decide)]; exact (g2 ql).2
        refine m_foretold hM2 hO hpp hST ⟨_, rfl, rfl, m_offOf (by omega) (by omega) el eh (by omega) (by omega) ⟨_, rfl, rfl, ?_⟩⟩
        have em : am_off (s 12 (am_lst s p D (am_T s)).toNat) (s 13 (am_lst s p D (am_T s)).toNat) (am_ft w h s p) = am_mis w h s D p := rfl
        rw [em]
        refine ⟨by omega, fun qz => s_Mo_misfit_80 (s_Mo_misfit_81 ?_), fun qz => s_Mo_misfit_81 ?_⟩
        · rw [show am_f2 w h s D p = 0 by unfold am_f2; rw [if_neg (fun z => qz z.2)]] at nx; exact nx
        · rw [show am_f2 w h s D p = 1 by unfold am_f2; rw [if_pos ⟨ql, qz⟩]] at nx; exact nx
  exact loop _ 0 (Nat.zero_add _)
end AMF
