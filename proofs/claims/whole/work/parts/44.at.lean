/-! ===== ground of the model; at ===== -/
section AMA
variable {x : am_Sc} {Po : Option am_AV → am_Sh → am_St → Prop} {σ : am_St} {w h w2 h2 : Nat} {s s2 : Nat → Nat → Int}
theorem m_ground {a b : Int} (hM : am_RM w h s σ) (hX : am_RX w2 h2 s2 σ) (ra : am_r a) (rb : am_r b)
    (k0 : ¬ ((2 ≤ a ∧ a ≤ 4) ∧ (2 ≤ b ∧ b ≤ 4)) → ∀ σ', am_RM w h s σ' → am_RX w2 h2 s2 σ' → Po (some (Zi (-3))) am_SH σ')
    (k1 : (2 ≤ a ∧ a ≤ 4) ∧ (2 ≤ b ∧ b ≤ 4) → ∀ σ', am_RM a.toNat b.toNat (N_ground s) σ' → am_RX w2 h2 s2 σ' → Po (some (Zi (a * b))) am_SH σ') : am_U x m_Mo_ground Po σ 0 [some (Zr 147), some (Zi a), some (Zi b), none] [] := by
  refine s_Mo_ground_0 (c_in ra (by decide) (by decide) (fun q => br1e (c_in rb (by decide) (by decide) (fun q2 => br1n ?_) (fun q2 => br0n (s_Mo_ground_18 (k0 (fun z => q2 z.2) σ hM hX))))) (fun q => br0e (s_Mo_ground_18 (k0 (fun z => q z.1) σ hM hX))))
  intro σ1 e1 σ2 e2
  have ea : a = (a.toNat : Int) := by omega
  have eb : b = (b.toNat : Int) := by omega
  -- what holds on the way: a, b are laid, the first i cells, the first j blocks
  have hP0 : ∀ k j, k ≠ 147 → σ2.1 k j = σ.1 k j := fun k j hk => by rw [e2, e1]; show am_up (am_up σ.1 147 0 a) 147 1 b k j = _; rw [am_up_o hk, am_up_o hk]
  have hP1 : ∀ j, σ2.1 147 j = if j = 1 then b else if j = 0 then a else σ.1 147 j := fun j => by rw [e2, e1]; simp [am_up]
  have loop2 : ∀ (d i : Nat) (τ : am_St), i + d = 8 → (∀ k j, k ≠ 148 → k ≠ 149 → τ.1 k j = σ2.1 k j) → (∀ j, j < 16 → τ.1 148 j = 0) → (∀ j, j < i → τ.1 149 j = 10) → am_U x m_Mo_ground Po τ 54 [some (Zr 147), none, none, some (Zi (i : Int))] [] := by
    intro d
    induction d with
    | zero =>
      intro i τ hi hr h1 h2
      refine s_Mo_ground_54 ⟨by omega, fun _ => ?_, fun hc => absurd (by omega) hc⟩
      intro τ1 f1 τ2 f2 τ3 f3 τ4 f4
      have g0 : ∀ k j, k ≠ 147 → τ4.1 k j = τ.1 k j := fun k j hk => by
        rw [f4, f3, f2, f1]
        show am_up (am_up (am_up (am_up τ.1 147 5 0) 147 8 0) 147 11 0) 147 15 0 k j = _
        rw [am_up_o hk, am_up_o hk, am_up_o hk, am_up_o hk]
      have g1 : ∀ j, τ4.1 147 j = if j = 15 then 0 else if j = 11 then 0 else if j = 8 then 0 else if j = 5 then 0 else if j = 1 then b else if j = 0 then a else σ.1 147 j := fun j => by
        rw [f4, f3, f2, f1]
        have := hr 147 j (by decide) (by decide)
        rw [hP1] at this
        simp [am_up, this]
      refine s_Mo_cells_0 ⟨_, rfl, rfl, ?_⟩
      have ew : τ4.1 147 0 = a := by rw [g1]; rfl
      have eh : τ4.1 147 1 = b := by rw [g1]; rfl
      rw [ew, eh]
      refine k1 ⟨q, q2⟩ τ4 ⟨⟨fun p hp j hj => ?_, fun p hp => ?_⟩, by rw [ew]; exact ea, by rw [eh]; exact eb⟩ (hX.fx (ks := [147, 148, 149]) (ps := []) (fun k j hk _ => ?_) (by decide))
      · have hr2 := hM.1.1 p hp j hj
        simp only [am_MR, List.mem_cons, List.not_mem_nil, or_false] at hp
        rcases hp with rfl | rfl | rfl | rfl | rfl | rfl | rfl | rfl | rfl | rfl | rfl | rfl | rfl | rfl
        · rw [g0 148 j (by decide), h1 j hj]; rfl
        · rw [g0 149 j (by decide), h2 j (by have h8 : j < 8 := hj; omega)]; rfl
        all_goals
          rw [g0 _ j (by decide), hr _ j (by decide) (by decide), hP0 _ j (by decide)]
          exact hr2
      · have hr2 := hM.1.2 p hp
        simp only [am_MS, List.mem_cons, List.not_mem_nil, or_false] at hp
        rcases hp with rfl | rfl | rfl | rfl | rfl | rfl | rfl
        · rw [g1]; exact hr2
        · rw [g1]; exact hr2
        · rw [g1]; rfl
        · rw [g1]; rfl
        · rw [g1]; rfl
        · rw [g1]; rfl
        · rw [g1]; exact hr2
      · simp only [List.mem_cons, List.not_mem_nil, or_false, not_or] at hk
        rw [g0 k j hk.1, hr k j hk.2.1 hk.2.2, hP0 k j hk.1]
    | succ d ih =>
      intro i τ hi hr h1 h2
      refine s_Mo_ground_54 ⟨by omega, fun hc => absurd hc (by omega), fun hc => ⟨by omega, fun τ1 f1 => ?_⟩⟩
      have := ih (i + 1) τ1 (by omega) (fun k j hk hk2 => by rw [f1]; show am_up τ.1 149 _ 10 k j = _; rw [am_up_o hk2]; exact hr k j hk hk2) (fun j hj => by rw [f1]; exact h1 j hj) (fun j hj => by
        rw [f1, Int.toNat_natCast]
        show am_up τ.1 149 i 10 149 j = 10
        rw [am_up_row]
        show (if j = i then (10 : Int) else τ.1 149 j) = 10
        by_cases e9 : j = i
        · rw [if_pos e9]
        · rw [if_neg e9]; exact h2 j (by omega))
      rw [show ((i + 1 : Nat) : Int) = (i : Int) + 1 by omega] at this
      exact this
  have loop1 : ∀ (d i : Nat) (τ : am_St), i + d = 16 → (∀ k j, k ≠ 148 → k ≠ 149 → τ.1 k j = σ2.1 k j) → (∀ j, j < i → τ.1 148 j = 0) → am_U x m_Mo_ground Po τ 33 [some (Zr 147), none, none, some (Zi (i : Int))] [] := by
    intro d
    induction d with
    | zero =>
      intro i τ hi hr h1
      refine s_Mo_ground_33 ⟨by omega, fun _ => loop2 8 0 τ (by omega) hr (fun j hj => h1 j (by omega)) (fun j hj => absurd hj (by omega)), fun hc => absurd (by omega) hc⟩
    | succ d ih =>
      intro i τ hi hr h1
      refine s_Mo_ground_33 ⟨by omega, fun hc => absurd hc (by omega), fun hc => ⟨by omega, fun τ1 f1 => ?_⟩⟩
      have := ih (i + 1) τ1 (by omega) (fun k j hk hk2 => by rw [f1]; show am_up τ.1 148 _ 0 k j = _; rw [am_up_o hk]; exact hr k j hk hk2) (fun j hj => by
        rw [f1, Int.toNat_natCast]
        show am_up τ.1 148 i 0 148 j = 0
        rw [am_up_row]
        show (if j = i then (0 : Int) else τ.1 148 j) = 0
        by_cases e9 : j = i
        · rw [if_pos e9]
        · rw [if_neg e9]; exact h1 j (by omega))
      rw [show ((i + 1 : Nat) : Int) = (i : Int) + 1 by omega] at this
      exact this
  exact loop1 16 0 σ2 (by omega) (fun _ _ _ _ => rfl) (fun j hj => absurd hj (by omega))
def A_at (w h : Nat) (s : Nat → Nat → Int) (c v : Int) : Int := if 0 ≤ c ∧ c < ((w * h : Nat) : Int) then (if v = 0 then s 1 c.toNat else if v = 1 then s 2 (s 1 c.toNat).toNat else -3) else -2
theorem x_at {c v : Int} (hX : am_RX w h s σ) (hM : am_RM w2 h2 s2 σ) (hO : am_OK w h s) (rc : am_r c) (rv : am_r v) (k : ∀ σ', am_RX w h s σ' → am_RM w2 h2 s2 σ' → Po (some (Zi (A_at w h s c v))) am_SH σ') : am_U x m_Sp_at Po σ 0 [some (Zr 0), some (Zi c), some (Zi v), none] [] := by
  have hb := (am_wh hO).2
  have hbk := hO.2.2.2.2.2.2.2.2.1
  refine s_Sp_at_0 (x_isCell hX hb rc (fun q => br1n (c_isW rv (by decide) (by decide) (fun q2 => br1n ⟨by omega, rv, fun q3 => ?_, fun q3 => ?_⟩) (fun q2 => br0n (am_fX k (by simp only [A_at]; rw [if_pos q, if_neg (by omega), if_neg (by omega)]) rfl hX hM)))) (fun q => br0n (am_fX k (by simp only [A_at]; rw [if_neg q]) rfl hX hM)))
  · have e1 : σ.1 2 c.toNat = s 1 c.toNat := hX.1.at 2 1 16 (by decide) (by omega)
    have b1 := hbk c.toNat (by omega)
    rw [e1]
    refine ⟨by omega, s_Sp_at_50 (am_fX k ?_ rfl hX hM)⟩
    simp only [A_at]; rw [if_pos q, if_neg q3, if_pos (by omega)]
    exact (hX.1.at 3 2 8 (by decide) (by omega)).symm
  · refine s_Sp_at_50 (am_fX k ?_ rfl hX hM)
    simp only [A_at]; rw [if_pos q, if_pos q3]
    exact (hX.1.at 2 1 16 (by decide) (by omega)).symm
theorem m_at {c v : Int} (hM : am_RM w h s σ) (hX : am_RX w2 h2 s2 σ) (hO : am_OK w h s) (rc : am_r c) (rv : am_r v) (k : ∀ σ', am_RM w h s σ' → am_RX w2 h2 s2 σ' → Po (some (Zi (A_at w h s c v))) am_SH σ') : am_U x m_Mo_at Po σ 0 [some (Zr 147), some (Zi c), some (Zi v)] [] := by
  have hb := (am_wh hO).2
  have hbk := hO.2.2.2.2.2.2.2.2.1
  refine s_Mo_at_0 (m_isCell hM hb rc (fun q => br1n ⟨rv, fun q2 => ⟨fun q3 => s_Mo_at_45 (am_fM k (by simp only [A_at]; rw [if_pos q, if_neg q2, if_neg q3]) rfl hM hX), fun q3 => ⟨by omega, ?_⟩⟩, fun q2 => ⟨by omega, s_Mo_at_45 (am_fM k ?_ rfl hM hX)⟩⟩) (fun q => br0n (am_fM k (by simp only [A_at]; rw [if_neg q]) rfl hM hX)))
  · have e1 : σ.1 148 c.toNat = s 1 c.toNat := hM.1.at 148 1 16 (by decide) (by omega)
    have b1 := hbk c.toNat (by omega)
    rw [e1]
    refine ⟨by omega, s_Mo_at_45 (am_fM k ?_ rfl hM hX)⟩
    simp only [A_at]; rw [if_pos q, if_neg q2, if_pos q3]
    exact (hM.1.at 149 2 8 (by decide) (by omega)).symm
  · simp only [A_at]; rw [if_pos q, if_pos q2]
    exact (hM.1.at 148 1 16 (by decide) (by omega)).symm
end AMA
