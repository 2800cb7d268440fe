/-! ===== fit, board ===== -/
section AMFT
variable {x : am_Sc} {Po : Option am_AV → am_Sh → am_St → Prop} {σ : am_St} {w h w2 h2 : Nat} {s s2 : Nat → Nat → Int}
def am_fl : List Nat := 36 :: 37 :: 38 :: 39 :: am_tl
theorem am_LH_b (hO : am_OK w h s) : am_LHb s (am_lo s) (am_hi s) := fun p hp => by
  have := am_lohi hO hp
  omega
theorem x_aimTold (hX : am_RX w h s σ) (hO : am_OK w h s) (kk : ∀ σ', am_fx [36, 37] [] σ σ' → (∀ p, p < am_P s → σ'.1 36 p = am_lo s p ∧ σ'.1 37 p = am_hi s p) → Po none am_SH σ') : am_U x m_Ft_aimAtTold Po σ 0 [some (Zr 35), none] [] := by
  obtain ⟨bP, -⟩ := am_OKb hO
  have lP : am_P s ≤ 12 := by unfold am_P; omega
  have loop : ∀ (d p : Nat) (τ : am_St), p + d = am_P s → am_fx [36, 37] [] σ τ → (∀ p', p' < p → τ.1 36 p' = am_lo s p' ∧ τ.1 37 p' = am_hi s p') → am_U x m_Ft_aimAtTold Po τ 2 [some (Zr 35), some (Zi (p : Int))] [] := by
    intro d
    induction d with
    | zero =>
      intro p τ hp hf hv
      have hXt := hX.fx hf (by decide)
      have eP : τ.1 8 6 = (am_P s : Int) := by rw [hXt.1.as 8 6 4 (by decide)]; unfold am_P; omega
      refine s_Ft_aimAtTold_2 ?_
      rw [eP]
      exact ⟨by omega, by omega, fun _ => kk τ hf (fun p' hp' => hv p' (by omega)), fun q => absurd (by omega) q⟩
    | succ d ih =>
      intro p τ hp hf hv
      have hXt := hX.fx hf (by decide)
      have eP : τ.1 8 6 = (am_P s : Int) := by rw [hXt.1.as 8 6 4 (by decide)]; unfold am_P; omega
      refine s_Ft_aimAtTold_2 ?_
      rw [eP]
      refine ⟨by omega, by omega, fun q => absurd q (by omega), fun _ => x_lowNow hXt hO (by omega) ⟨_, rfl, rfl, by omega, fun τ1 f1 => ?_⟩⟩
      rw [Int.toNat_natCast] at f1
      refine x_highNow (hXt.fx (am_fx.o1 f1) (by decide)) hO (by omega) ⟨_, rfl, rfl, fun τ2 f2 => ?_⟩
      rw [Int.toNat_natCast] at f2
      have := ih (p + 1) τ2 (by omega) ((hf.tr (am_fx.o1 f1) (ks2 := [36, 37]) (ps2 := []) (by decide) (by decide)).tr (am_fx.o1 f2) (by decide) (by decide)) (fun p' hp' => by
        rw [am_stO f2 (show 36 ≠ 37 by decide), am_stR f1, am_stR f2]
        by_cases e : p' = p
        · rw [if_pos e, if_pos e, e]; exact ⟨rfl, rfl⟩
        · rw [if_neg e, if_neg e, am_stO f1 (by decide)]; exact hv p' (by omega))
      rw [show ((p + 1 : Nat) : Int) = (p : Int) + 1 by omega] at this
      exact this
  exact s_Ft_aimAtTold_0 (loop _ 0 σ (Nat.zero_add _) am_fx.rf (fun p' hp' => absurd hp' (Nat.not_lt_zero p')))
noncomputable def am_fitN (w h : Nat) (s : Nat → Nat → Int) (n : Nat) : Nat → Nat → Int := am_rn w h (am_lo s) (am_hi s) s (8 * n)
noncomputable def N_fit (w h : Nat) (s : Nat → Nat → Int) (n : Int) : Nat → Nat → Int := if 1 ≤ n ∧ n ≤ 10 then am_fitN w h s n.toNat else s
noncomputable def A_fit (w h : Nat) (s : Nat → Nat → Int) (n : Int) : Int := if 1 ≤ n ∧ n ≤ 10 then am_mf w h (am_fitN w h s n.toNat) (am_lo s) (am_hi s) else -3
theorem am_OK_fitN (hO : am_OK w h s) (n : Nat) : am_OK w h (am_fitN w h s n) := am_rn_OK hO _
theorem x_fitG {n : Nat} {Po' : Option am_AV → am_Sh → am_St → Prop} (hX : am_RX w h s σ) (hO : am_OK w h s) (hn : 1 ≤ n ∧ n ≤ 10) (kk : ∀ σ', am_fx am_fl [(35, 6)] σ σ' → am_RX w h (am_fitN w h s n) σ' → Po' (some (Zi (am_mf w h (am_fitN w h s n) (am_lo s) (am_hi s)))) am_SH σ') : am_U x m_Ft_aimAtTold (fun ro2 so2 σ2 => ro2 = none ∧ so2 = am_SH ∧ am_U x m_Ft_sweep Po' σ2 0 [some (Zr 35), some (Zi (n : Int)), none, none, none, none, none, none] []) σ 0 [some (Zr 35), none] [] := by
  refine x_aimTold hX hO (fun σ1 f1 h1 => ⟨rfl, rfl, x_sweep (hX.fx f1 (by decide)) hO hn (am_LH_b hO) h1 (fun σ2 f2 hX2 => kk σ2 ?_ hX2)⟩)
  exact f1.tr f2 (by decide +kernel) (by decide)
theorem x_fit {n : Int} (hX : am_RX w h s σ) (hM : am_RM w2 h2 s2 σ) (hO : am_OK w h s) (rn : am_r n) (kk : ∀ σ', am_RX w h (N_fit w h s n) σ' → am_RM w2 h2 s2 σ' → Po (some (Zi (A_fit w h s n))) am_SH σ') : am_U x m_Sp_fit Po σ 0 [some (Zr 0), some (Zi n)] [] := by
  refine s_Sp_fit_0 (c_isW rn (by decide) (by decide) (fun q => br1n ?_) (fun q => br0n (am_fX kk (by simp only [A_fit]; rw [if_neg q]) (by simp only [N_fit]; rw [if_neg q]) hX hM)))
  obtain ⟨m, rfl⟩ : ∃ m : Nat, n = (m : Int) := ⟨n.toNat, by omega⟩
  refine x_fitG hX hO (by omega) (fun σ1 f1 hX1 => ⟨_, rfl, rfl, am_fX kk (by simp only [A_fit]; rw [if_pos q, Int.toNat_natCast]) (by simp only [N_fit]; rw [if_pos q, Int.toNat_natCast]) hX1 (hM.fx f1 (by decide +kernel))⟩)
theorem m_fitG {n : Int} (hM : am_RM w h s σ) (hO : am_OK w h s) (rn : am_r n) (kk : ∀ σ', am_fx [149, 161, 162, 163, 164, 165] [] σ σ' → am_RM w h (N_fit w h s n) σ' → Po (some (Zi (A_fit w h s n))) am_SH σ') : am_U x m_Mo_fit Po σ 0 [some (Zr 147), some (Zi n)] [] := by
  obtain ⟨bP, bT, bD, -⟩ := am_OKb hO
  have kk' : ∀ {A : Int} {N : Nat → Nat → Int} {σ' : am_St}, A_fit w h s n = A → N_fit w h s n = N → am_fx [149, 161, 162, 163, 164, 165] [] σ σ' → am_RM w h N σ' → Po (some (Zi A)) am_SH σ' := fun e1 e2 f' h' => by subst e1; subst e2; exact kk _ f' h'
  refine s_Mo_fit_0 (c_in rn (by decide) (by decide) (fun q => br1n ?_) (fun q => br0n (kk' (by simp only [A_fit]; rw [if_neg q]) (by simp only [N_fit]; rw [if_neg q]) am_fx.rf hM)))
  obtain ⟨m, rfl⟩ : ∃ m : Nat, n = (m : Int) := ⟨n.toNat, by omega⟩
  rw [hM.1.as 147 20 1 (by decide)]
  refine m_findSpans hM hO (by omega) (fun σ1 f1 hSP => ⟨rfl, rfl, ?_⟩)
  have hM1 := hM.fx f1 (by decide)
  have hLH := am_SP_LH hO hSP
  have hH1 : am_MH s (am_lo s) (am_hi s) σ1 := fun p hp => ⟨by rw [(hSP p hp).1, if_pos (am_lst_day hO hp)], (hLH p hp).1, (hLH p hp).2⟩
  refine m_fitAll hM1 hO (by omega) (am_LH_b hO) hH1 (fun σ2 f2 hM2 => ⟨rfl, rfl, ?_⟩)
  have hO2 := am_OK_fitN (w := w) (h := h) (s := s) hO m
  refine m_mfNow hM2 hO2 (am_rn_LH (am_LH_b hO)) (fun p hp => ?_) (fun σ3 f3 => ⟨_, rfl, rfl, kk' (by simp only [A_fit]; rw [if_pos q, Int.toNat_natCast]; rfl) (by simp only [N_fit]; rw [if_pos q, Int.toNat_natCast]; rfl) ((f1.tr f2 (ks2 := [149, 161, 162, 163, 164, 165]) (ps2 := []) (by decide) (by decide)).tr f3 (by decide) (by decide)) (hM2.fx f3 (by decide))⟩)
  rw [am_rn_P] at hp
  rw [f2.g 163 (by decide), f2.g 161 (by decide), f2.g 162 (by decide)]; exact hH1 p hp
theorem m_fit {n : Int} (hM : am_RM w h s σ) (hX : am_RX w2 h2 s2 σ) (hO : am_OK w h s) (rn : am_r n) (kk : ∀ σ', am_RM w h (N_fit w h s n) σ' → am_RX w2 h2 s2 σ' → Po (some (Zi (A_fit w h s n))) am_SH σ') : am_U x m_Mo_fit Po σ 0 [some (Zr 147), some (Zi n)] [] := m_fitG hM hO rn (fun σ' f' hM' => kk σ' hM' (hX.fx f' (by decide)))
/-! what is kept and brought back -/
def am_r2 (s : Nat → Nat → Int) (r : Nat) (f : Nat → Int) : Nat → Nat → Int := fun r' j => if r' = r then f j else s r' j
theorem am_r2_o {r r' j : Nat} {f : Nat → Int} (hr : r' ≠ r) : am_r2 s r f r' j = s r' j := if_neg hr
theorem am_r2_s {r j : Nat} {f : Nat → Int} : am_r2 s r f r j = f j := if_pos rfl
theorem am_cp_s {f : Nat → Nat → Int} {k0 k1 n j : Nat} (hj : j < n) : am_cp f k0 k1 n k1 j = f k0 j := by unfold am_cp; rw [if_pos rfl, if_pos hj]
theorem am_cp_o {f : Nat → Nat → Int} {k0 k1 n k j : Nat} (hk : k ≠ k1) : am_cp f k0 k1 n k j = f k j := by unfold am_cp; rw [if_neg hk]
theorem am_cpE {σ1 : am_St} {k0 k1 n j : Nat} (e : σ1 = (am_cp σ.1 k0 k1 n, σ.2)) (hj : j < n) : σ1.1 k1 j = σ.1 k0 j := by rw [e]; exact am_cp_s hj
theorem am_fx.cp {σ1 : am_St} {k0 k1 n : Nat} (e : σ1 = (am_cp σ.1 k0 k1 n, σ.2)) : am_fx [k1] [] σ σ1 := fun k j hk _ => by rw [e]; exact am_cp_o (by simpa using hk)
/-- the memory holds blocks, slowness, shakes' cells, clocks -/
def am_Mm (s : Nat → Nat → Int) (σ : am_St) : Prop := (∀ j, j < 16 → σ.1 143 j = s 1 j) ∧ (∀ j, j < 8 → σ.1 144 j = s 2 j) ∧ (∀ j, j < 5 → σ.1 145 j = s 5 j) ∧ ∀ j, j < 6 → σ.1 146 j = s 4 j
theorem am_Mm.k {σ' : am_St} (h : am_Mm s σ) (hk : ∀ k j, 143 ≤ k → k ≤ 146 → σ'.1 k j = σ.1 k j) : am_Mm s σ' := ⟨fun j hj => by rw [hk 143 j (by decide) (by decide)]; exact h.1 j hj, fun j hj => by rw [hk 144 j (by decide) (by decide)]; exact h.2.1 j hj, fun j hj => by rw [hk 145 j (by decide) (by decide)]; exact h.2.2.1 j hj, fun j hj => by rw [hk 146 j (by decide) (by decide)]; exact h.2.2.2 j hj⟩
theorem x_keep (hX : am_RX w h s σ) (kk : ∀ σ', am_fx [143, 144, 145, 146] [] σ σ' → am_RX w h s σ' → am_Mm s σ' → Po none am_SH σ') : am_U x m_Me_keep Po σ 0 [some (Zr 142)] [] := by
  refine s_Me_keep_0 (fun σ1 f1 σ2 f2 σ3 f3 σ4 f4 => ?_)
  have F : am_fx [143, 144, 145, 146] [] σ σ4 := (((am_fx.cp f1).tr (am_fx.cp f2) (ks2 := [143, 144]) (ps2 := []) (by decide) (by decide)).tr (am_fx.cp f3) (ks2 := [143, 144, 145]) (ps2 := []) (by decide) (by decide)).tr (am_fx.cp f4) (by decide) (by decide)
  refine kk σ4 F (hX.fx F (by decide)) ⟨fun j hj => ?_, fun j hj => ?_, fun j hj => ?_, fun j hj => ?_⟩
  · rw [(am_fx.cp f4).g 143 (by decide), (am_fx.cp f3).g 143 (by decide), (am_fx.cp f2).g 143 (by decide), am_cpE f1 hj]
    exact hX.1.at 2 1 16 (by decide) hj
  · rw [(am_fx.cp f4).g 144 (by decide), (am_fx.cp f3).g 144 (by decide), am_cpE f2 hj, (am_fx.cp f1).g 3 (by decide)]; exact hX.1.at 3 2 8 (by decide) hj
  · rw [(am_fx.cp f4).g 145 (by decide), am_cpE f3 hj, (am_fx.cp f2).g 11 (by decide), (am_fx.cp f1).g 11 (by decide)]; exact hX.1.at 11 5 5 (by decide) hj
  · rw [am_cpE f4 hj, (am_fx.cp f3).g 10 (by decide), (am_fx.cp f2).g 10 (by decide), (am_fx.cp f1).g 10 (by decide)]; exact hX.1.at 10 4 6 (by decide) hj
theorem x_back {s' : Nat → Nat → Int} (hX : am_RX w h s' σ) (hs : ∀ r j, r ≠ 1 → r ≠ 2 → r ≠ 4 → r ≠ 5 → s' r j = s r j) (hm : am_Mm s σ) (kk : ∀ σ', am_fx [2, 3, 11, 10] [] σ σ' → am_RX w h s σ' → Po none am_SH σ') : am_U x m_Me_bringBack Po σ 0 [some (Zr 142)] [] := by
  refine s_Me_bringBack_0 (fun σ1 f1 σ2 f2 σ3 f3 σ4 f4 => ?_)
  have h1 : am_RX w h (am_r2 s' 1 (s 1)) σ1 := hX.arr (k := 2) (r := 1) (n := 16) (am_fx.cp f1) (by decide) (fun r j hr => am_r2_o hr) (fun j hj => by rw [am_cpE f1 hj]; exact (hm.1 j hj).trans am_r2_s.symm)
  have h2 : am_RX w h (am_r2 (am_r2 s' 1 (s 1)) 2 (s 2)) σ2 := h1.arr (k := 3) (r := 2) (n := 8) (am_fx.cp f2) (by decide) (fun r j hr => am_r2_o hr) (fun j hj => by rw [am_cpE f2 hj, (am_fx.cp f1).g 144 (by decide)]; exact (hm.2.1 j hj).trans am_r2_s.symm)
  have h3 : am_RX w h (am_r2 (am_r2 (am_r2 s' 1 (s 1)) 2 (s 2)) 5 (s 5)) σ3 := h2.arr (k := 11) (r := 5) (n := 5) (am_fx.cp f3) (by decide) (fun r j hr => am_r2_o hr) (fun j hj => by rw [am_cpE f3 hj, (am_fx.cp f2).g 145 (by decide), (am_fx.cp f1).g 145 (by decide)]; exact (hm.2.2.1 j hj).trans am_r2_s.symm)
  have h4 : am_RX w h (am_r2 (am_r2 (am_r2 (am_r2 s' 1 (s 1)) 2 (s 2)) 5 (s 5)) 4 (s 4)) σ4 := h3.arr (k := 10) (r := 4) (n := 6) (am_fx.cp f4) (by decide) (fun r j hr => am_r2_o hr) (fun j hj => by rw [am_cpE f4 hj, (am_fx.cp f3).g 146 (by decide), (am_fx.cp f2).g 146 (by decide), (am_fx.cp f1).g 146 (by decide)]; exact (hm.2.2.2 j hj).trans am_r2_s.symm)
  have e : am_r2 (am_r2 (am_r2 (am_r2 s' 1 (s 1)) 2 (s 2)) 5 (s 5)) 4 (s 4) = s := by
    funext r j
    unfold am_r2
    by_cases q4 : r = 4
    · rw [if_pos q4, q4]
    · rw [if_neg q4]
      by_cases q5 : r = 5
      · rw [if_pos q5, q5]
      · rw [if_neg q5]
        by_cases q2 : r = 2
        · rw [if_pos q2, q2]
        · rw [if_neg q2]
          by_cases q1 : r = 1
          · rw [if_pos q1, q1]
          · rw [if_neg q1]; exact hs r j q1 q2 q4 q5
  rw [e] at h4
  exact kk σ4 ((((am_fx.cp f1).tr (am_fx.cp f2) (ks2 := [2, 3]) (ps2 := []) (by decide) (by decide)).tr (am_fx.cp f3) (ks2 := [2, 3, 11]) (ps2 := []) (by decide) (by decide)).tr (am_fx.cp f4) (by decide) (by decide)) h4
/-! board -/
def am_ob (a b : Int) (k : Nat) : Int := if k % 2 = 0 then a else b
noncomputable def am_bL (w h : Nat) (s : Nat → Nat → Int) (a b t : Int) (p : Nat) : Int := am_ft w h (am_r2 s 2 (am_ob a b)) p - t
noncomputable def am_bH (w h : Nat) (s : Nat → Nat → Int) (a b t : Int) (p : Nat) : Int := am_ft w h (am_r2 s 2 (am_ob a b)) p + t
noncomputable def am_bF (w h : Nat) (s : Nat → Nat → Int) (a b t : Int) : Nat → Nat → Int := am_rn w h (am_bL w h s a b t) (am_bH w h s a b t) (am_r2 s 2 (fun _ => (a + b) / 2)) (8 * 10)
noncomputable def am_bN (w h : Nat) (s : Nat → Nat → Int) (a b t : Int) (n : Nat) : Int := am_sum (fun k => if ¬ am_bsz w h s k = 0 ∧ am_bF w h s a b t 2 k = am_ob a b k then 1 else 0) n
noncomputable def A_board (w h : Nat) (s : Nat → Nat → Int) (a b t : Int) : Int := if (1 ≤ a ∧ a ≤ 60) ∧ (1 ≤ b ∧ b ≤ 60) ∧ (0 ≤ t ∧ t ≤ 20) then am_bN w h s a b t 8 else -3
theorem am_r2_OK (hO : am_OK w h s) {f : Nat → Int} (hf : ∀ j, j < 8 → 1 ≤ f j ∧ f j ≤ 60) : am_OK w h (am_r2 s 2 f) := am_OK_row2 hO (fun r j hr => am_r2_o hr) (fun j hj => by rw [am_r2_s]; exact hf j hj)
theorem am_ob_b {a b : Int} (ha : 1 ≤ a ∧ a ≤ 60) (hb : 1 ≤ b ∧ b ≤ 60) (k : Nat) : 1 ≤ am_ob a b k ∧ am_ob a b k ≤ 60 := by unfold am_ob; split <;> assumption
theorem am_P_r2 {f : Nat → Int} : am_P (am_r2 s 2 f) = am_P s := by unfold am_P; rw [am_r2_o (by decide)]
theorem am_bLH (hO : am_OK w h s) {a b t : Int} (ha : 1 ≤ a ∧ a ≤ 60) (hb : 1 ≤ b ∧ b ≤ 60) (ht : 0 ≤ t ∧ t ≤ 20) {f : Nat → Int} : am_LHb (am_r2 s 2 f) (am_bL w h s a b t) (am_bH w h s a b t) := fun p hp => by
  rw [am_P_r2] at hp
  have := am_ft_b (am_r2_OK hO (fun j _ => am_ob_b ha hb j)) (by rw [am_P_r2]; exact hp)
  unfold am_bL am_bH; omega
theorem c_onBoard {a b : Int} {k : Nat} (hk : k < 8) (kk : Po (some (Zi (am_ob a b k))) am_SH σ) : am_U x m_Gr_onBoard Po σ 0 [some (Zi (k : Int)), some (Zi a), some (Zi b)] [] := by
  refine s_Gr_onBoard_0 ?_
  rw [am_and1 (by omega)]
  unfold am_ob at kk
  refine ⟨by omega, fun q => s_Gr_onBoard_11 ?_, fun q => s_Gr_onBoard_11 ?_⟩
  · rw [if_neg (by omega)] at kk; exact kk
  · rw [if_pos (by omega)] at kk; exact kk
theorem am_bN_b {a b t : Int} {n : Nat} : 0 ≤ am_bN w h s a b t n ∧ am_bN w h s a b t n ≤ n := by
  have := am_sum_b (f := fun k => if ¬ am_bsz w h s k = 0 ∧ am_bF w h s a b t 2 k = am_ob a b k then (1 : Int) else 0) (B := 1) (n := n) (fun k _ => by show 0 ≤ (if ¬ am_bsz w h s k = 0 ∧ am_bF w h s a b t 2 k = am_ob a b k then (1 : Int) else 0) ∧ (if ¬ am_bsz w h s k = 0 ∧ am_bF w h s a b t 2 k = am_ob a b k then (1 : Int) else 0) ≤ 1; split <;> decide)
  unfold am_bN; omega
theorem x_board {a b t : Int} (hX : am_RX w h s σ) (hM : am_RM w2 h2 s2 σ) (hO : am_OK w h s) (ra : am_r a) (rb : am_r b) (rt : am_r t) (kk : ∀ σ', am_RX w h s σ' → am_RM w2 h2 s2 σ' → Po (some (Zi (A_board w h s a b t))) am_SH σ') : am_U x m_Sp_board Po σ 0 [some (Zr 0), some (Zi a), some (Zi b), some (Zi t), none] [] := by
  obtain ⟨bP, -⟩ := am_OKb hO
  have lP : am_P s ≤ 12 := by unfold am_P; omega
  have out : ¬ ((1 ≤ a ∧ a ≤ 60) ∧ (1 ≤ b ∧ b ≤ 60) ∧ (0 ≤ t ∧ t ≤ 20)) → am_U x m_Sp_board Po σ 30 [none, none, none, none, none] [] := fun z => s_Sp_board_30 (am_fX kk (by simp only [A_board]; rw [if_neg z]) rfl hX hM)
  refine s_Sp_board_0 (c_isW ra (by decide) (by decide) (fun qa => br1e (c_isW rb (by decide) (by decide) (fun qb => br1e (c_isW rt (by decide) (by decide) (fun qt => br1n ?_) (fun q => br0n (out (fun z => q z.2.2))))) (fun q => br0e (out (fun z => q z.2.1))))) (fun q => br0e (out (fun z => q z.1))))
  refine x_keep hX (fun σ1 f1 hX1 hm1 => ⟨rfl, rfl, ?_⟩)
  -- painted
  have paint : ∀ {Po' : Option am_AV → am_Sh → am_St → Prop}, (∀ σ', am_fx [3] [] σ1 σ' → am_RX w h (am_r2 s 2 (am_ob a b)) σ' → Po' none am_SH σ') → am_U x m_Gr_paintBoard Po' σ1 0 [some (Zr 1), some (Zi a), some (Zi b), none] [] := by
    intro Po' hk
    have loop : ∀ (d k : Nat) (τ : am_St), k + d = 8 → am_fx [3] [] σ1 τ → (∀ j, j < k → τ.1 3 j = am_ob a b j) → am_U x m_Gr_paintBoard Po' τ 2 [some (Zr 1), some (Zi a), some (Zi b), some (Zi (k : Int))] [] := by
      intro d
      induction d with
      | zero =>
        intro k τ hk' hf hv
        exact s_Gr_paintBoard_2 ⟨by omega, fun _ => hk τ hf (hX1.arr (k := 3) (r := 2) (n := 8) hf (by decide) (fun r j hr => am_r2_o hr) (fun j hj => by rw [am_r2_s]; exact hv j (by omega))), fun q => absurd (by omega) q⟩
      | succ d ih =>
        intro k τ hk' hf hv
        refine s_Gr_paintBoard_2 ⟨by omega, fun q => absurd q (by omega), fun _ => c_onBoard (by omega) ⟨_, rfl, rfl, by omega, fun τ1 g1 => ?_⟩⟩
        rw [Int.toNat_natCast] at g1
        have := ih (k + 1) τ1 (by omega) (hf.tr (am_fx.o1 g1) (by decide) (by decide)) (fun j hj => by
          rw [am_stR g1]
          by_cases e : j = k
          · rw [if_pos e, e]
          · rw [if_neg e]; exact hv j (by omega))
        rw [show ((k + 1 : Nat) : Int) = (k : Int) + 1 by omega] at this
        exact this
    exact s_Gr_paintBoard_0 (loop 8 0 σ1 (by omega) am_fx.rf (fun j hj => absurd hj (Nat.not_lt_zero j)))
  refine paint (fun σ2 f2 hX2 => ⟨rfl, rfl, ?_⟩)
  have hO2 : am_OK w h (am_r2 s 2 (am_ob a b)) := am_r2_OK hO (fun j _ => am_ob_b qa qb j)
  -- the spans
  have aim : ∀ {Po' : Option am_AV → am_Sh → am_St → Prop}, (∀ σ', am_fx [5, 6, 36, 37] [] σ2 σ' → (∀ p, p < am_P s → σ'.1 36 p = am_bL w h s a b t p ∧ σ'.1 37 p = am_bH w h s a b t p) → Po' none am_SH σ') → am_U x m_Ft_aimAtForetold Po' σ2 0 [some (Zr 35), some (Zi t), none, none] [] := by
    intro Po' hk
    have loop : ∀ (d p : Nat) (τ : am_St), p + d = am_P s → am_fx [5, 6, 36, 37] [] σ2 τ → (∀ p', p' < p → τ.1 36 p' = am_bL w h s a b t p' ∧ τ.1 37 p' = am_bH w h s a b t p') → am_U x m_Ft_aimAtForetold Po' τ 2 [some (Zr 35), some (Zi t), some (Zi (p : Int)), none] [] := by
      intro d
      induction d with
      | zero =>
        intro p τ hp hf hv
        have hXt := hX2.fx hf (by decide)
        have eP : τ.1 8 6 = (am_P s : Int) := by rw [hXt.1.as 8 6 4 (by decide), am_r2_o (by decide)]; unfold am_P; omega
        refine s_Ft_aimAtForetold_2 ?_
        rw [eP]
        exact ⟨by omega, by omega, fun _ => hk τ hf (fun p' hp' => hv p' (by omega)), fun q => absurd (by omega) q⟩
      | succ d ih =>
        intro p τ hp hf hv
        have hXt := hX2.fx hf (by decide)
        have eP : τ.1 8 6 = (am_P s : Int) := by rw [hXt.1.as 8 6 4 (by decide), am_r2_o (by decide)]; unfold am_P; omega
        refine s_Ft_aimAtForetold_2 ?_
        rw [eP]
        refine ⟨by omega, by omega, fun q => absurd q (by omega), fun _ => x_foretold hXt hO2 (by rw [am_P_r2]; omega) (fun τ1 f1 => ⟨_, rfl, rfl, by omega, fun τ2 f2 τ3 f3 => ?_⟩)⟩
        rw [Int.toNat_natCast] at f2 f3
        have := ih (p + 1) τ3 (by omega) (((hf.tr f1 (ks2 := [5, 6, 36, 37]) (ps2 := []) (by decide) (by decide)).tr (am_fx.o1 f2) (ks2 := [5, 6, 36, 37]) (ps2 := []) (by decide) (by decide)).tr (am_fx.o1 f3) (by decide) (by decide)) (fun p' hp' => by
          rw [am_stO f3 (show 36 ≠ 37 by decide), am_stR f2, am_stR f3]
          by_cases e : p' = p
          · rw [if_pos e, if_pos e, e]; exact ⟨rfl, rfl⟩
          · rw [if_neg e, if_neg e, am_stO f2 (by decide), f1.g 36 (by decide), f1.g 37 (by decide)]; exact hv p' (by omega))
        rw [show ((p + 1 : Nat) : Int) = (p : Int) + 1 by omega] at this
        exact this
    exact s_Ft_aimAtForetold_0 (loop _ 0 σ2 (Nat.zero_add _) am_fx.rf (fun p' hp' => absurd hp' (Nat.not_lt_zero p')))
  refine aim (fun σ3 f3 h36 => ⟨rfl, rfl, ?_⟩)
  have hX3 := hX2.fx f3 (by decide)
  have dv : am_div (a + b) 2 = (a + b) / 2 := am_div_nn (by omega) (by decide) (by omega) (by decide)
  rw [dv]
  refine c_fill (n := 8) (by decide +kernel) (by decide) (fun σ4 f4 h4 => ⟨rfl, rfl, ?_⟩)
  have hX4 : am_RX w h (am_r2 s 2 (fun _ => (a + b) / 2)) σ4 := hX3.arr (k := 3) (r := 2) (n := 8) f4 (by decide) (fun r j hr => by rw [am_r2_o hr, am_r2_o hr]) (fun j hj => by rw [am_r2_s]; exact h4 j hj)
  have hO4 : am_OK w h (am_r2 s 2 (fun _ => (a + b) / 2)) := am_r2_OK hO (fun j _ => by show 1 ≤ (a + b) / 2 ∧ (a + b) / 2 ≤ 60; omega)
  have sw := x_sweep (x := x) (Po := fun ro8 so8 σ8 => ∃ z8 : Int, ro8 = some (Zi z8) ∧ so8 = am_SH ∧ am_U x m_Gr_countAsOnBoard (fun ro9 so9 σ9 => ∃ z9 : Int, ro9 = some (Zi z9) ∧ so9 = am_SH ∧ am_U x m_Me_bringBack (fun ro10 so10 σ10 => ro10 = none ∧ so10 = am_SH ∧ Po (some (Zi z9)) am_SH σ10) σ9 0 [some (Zr 142)] []) σ8 0 [some (Zr 1), some (Zi a), some (Zi b), none, none] []) (n := 10) hX4 hO4 (by decide) (am_bLH hO qa qb qt) (fun p hp => by rw [am_P_r2] at hp; rw [f4.g 36 (by decide), f4.g 37 (by decide)]; exact h36 p hp) (fun σ5 f5 hX5 => ⟨_, rfl, rfl, ?_⟩)
  · exact sw
  have hX5' : am_RX w h (am_bF w h s a b t) σ5 := hX5
  have hO5 : am_OK w h (am_bF w h s a b t) := am_rn_OK hO4 _
  have hm5 : am_Mm s σ5 := hm1.k (fun k j g1 g2 => by
    rw [f5 k j (by rw [List.mem_cons, List.mem_cons, not_or, not_or]; exact ⟨by omega, by omega, am_tl_n (by omega)⟩) (by simp; omega), f4 k j (by simp; omega) (by simp), f3 k j (by simp; omega) (by simp), f2 k j (by simp; omega) (by simp)])
  have hM5 : am_RM w2 h2 s2 σ5 := ((((hM.fx f1 (by decide)).fx f2 (by decide)).fx f3 (by decide)).fx f4 (by decide)).fx f5 (by decide +kernel)
  have e1 : ∀ r j, r ≠ 2 → am_bF w h s a b t r j = s r j := fun r j hr => by unfold am_bF; rw [am_rn_o hr, am_r2_o hr]
  have eb : ∀ k, am_bsz w h (am_bF w h s a b t) k = am_bsz w h s k := fun k => am_bsz_o (fun c => e1 1 c (by decide)) k
  have hwh := am_wh hO
  have loop : ∀ (d k : Nat), k + d = 8 → am_U x m_Gr_countAsOnBoard (fun ro9 so9 σ9 => ∃ z9 : Int, ro9 = some (Zi z9) ∧ so9 = am_SH ∧ am_U x m_Me_bringBack (fun ro10 so10 σ10 => ro10 = none ∧ so10 = am_SH ∧ Po (some (Zi z9)) am_SH σ10) σ9 0 [some (Zr 142)] []) σ5 5 [some (Zr 1), some (Zi a), some (Zi b), some (Zi (am_bN w h s a b t k)), some (Zi (k : Int))] [] := by
    intro d
    induction d with
    | zero =>
      intro k hk
      refine s_Gr_countAsOnBoard_5 ⟨by omega, fun _ => ⟨_, rfl, rfl, x_back hX5' (fun r j _ r2 _ _ => e1 r j r2) hm5 (fun σ6 f6 hX6 => ⟨rfl, rfl, ?_⟩)⟩, fun q => absurd (by omega) q⟩
      rw [show k = 8 by omega]
      exact am_fX kk (by simp only [A_board]; rw [if_pos ⟨qa, qb, qt⟩]) rfl hX6 (hM5.fx f6 (by decide))
    | succ d ih =>
      intro k hk
      have nx := ih (k + 1) (by omega)
      have es : am_bN w h s a b t (k + 1) = am_bN w h s a b t k + if ¬ am_bsz w h s k = 0 ∧ am_bF w h s a b t 2 k = am_ob a b k then 1 else 0 := rfl
      rw [es, show ((k + 1 : Nat) : Int) = (k : Int) + 1 by omega] at nx
      have s0 : am_set (am_inB (am_bF w h s a b t) k) (w * h) = 0 ↔ am_bsz w h s k = 0 := by rw [← eb k]; exact am_set0
      have ltS := am_set_lt (P := am_inB (am_bF w h s a b t) k) (w * h)
      have p1 : 2 ^ (w * h) ≤ 2 ^ 16 := Nat.pow_le_pow_right (by decide) (by omega)
      have e3 : σ5.1 3 k = am_bF w h s a b t 2 k := hX5'.1.at 3 2 8 (by decide) (by omega)
      have v3 := hO5.2.2.2.2.2.2.2.2.2.1 k (by omega)
      have vo := am_ob_b qa qb k
      refine s_Gr_countAsOnBoard_5 ⟨by omega, fun q => absurd q (by omega), fun _ => x_cellsOf hX5' hO5 (by omega) ⟨_, rfl, rfl, by omega, fun q => s_Gr_countAsOnBoard_41 ?_, fun q => ⟨by omega, c_onBoard (by omega) ⟨_, rfl, rfl, ?_⟩⟩⟩⟩
      · rw [if_neg (fun z => z.1 (s0.mp (by omega))), Int.add_zero] at nx; exact nx
      · have nz : ¬ am_bsz w h s k = 0 := fun z => q (by rw [s0.mpr z]; rfl)
        rw [Int.toNat_natCast, e3]
        refine ⟨by omega, by omega, fun q2 => s_Gr_countAsOnBoard_41 ?_, fun q2 => s_Gr_countAsOnBoard_41 ?_⟩
        · rw [if_neg (fun z => q2 z.2), Int.add_zero] at nx; exact nx
        · rw [if_pos ⟨nz, q2⟩] at nx; exact nx
  exact s_Gr_countAsOnBoard_0 (loop 8 0 (by omega))
end AMFT
