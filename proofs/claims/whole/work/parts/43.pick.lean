/-! ===== pick, ground ===== -/
theorem am_up_comm {s : Nat → Nat → Int} {r n r' n' : Nat} {v v' : Int} (h : r ≠ r' ∨ n ≠ n') : am_up (am_up s r n v) r' n' v' = am_up (am_up s r' n' v') r n v := by
  funext a b
  unfold am_up
  by_cases e1 : a = r <;> by_cases e2 : a = r'
  · subst e1; subst e2
    have hn : n ≠ n' := by rcases h with h | h; exact absurd rfl h; exact h
    simp only [if_true]
    by_cases e3 : b = n <;> by_cases e4 : b = n' <;> simp_all
  · subst e1; simp [e2]
  · subst e2; simp [e1]
  · simp [e1, e2]
section AMQ
variable {x : am_Sc} {Po : Option am_AV → am_Sh → am_St → Prop} {σ : am_St} {w h w2 h2 : Nat} {s s2 : Nat → Nat → Int}
def N_pk (s : Nat → Nat → Int) (e k kd : Int) : Nat → Nat → Int := am_up (am_up (am_up s 7 (s 0 4).toNat e) 8 (s 0 4).toNat k) 9 (s 0 4).toNat kd
def A_pick (s : Nat → Nat → Int) (e k kd lo hi : Int) : Int := if (0 ≤ e ∧ e < s 0 2) ∧ (0 ≤ k ∧ k < s 0 3) then (if (kd = 0 ∨ kd = 1) ∧ (0 ≤ lo ∧ lo ≤ hi ∧ hi ≤ 3000) then (if s 0 4 < 12 ∧ s 0 5 < 40 then s 0 4 else -5) else -3) else -2
def N_pick (s : Nat → Nat → Int) (e k kd lo hi : Int) : Nat → Nat → Int := if ((0 ≤ e ∧ e < s 0 2) ∧ (0 ≤ k ∧ k < s 0 3)) ∧ ((kd = 0 ∨ kd = 1) ∧ (0 ≤ lo ∧ lo ≤ hi ∧ hi ≤ 3000)) ∧ s 0 4 < 12 ∧ s 0 5 < 40 then N_tl (am_up (N_pk s e k kd) 0 4 (s 0 4 + 1)) (s 0 4) lo hi else s
theorem x_pick {e k kd lo hi : Int} (hX : am_RX w h s σ) (hM : am_RM w2 h2 s2 σ) (hO : am_OK w h s) (re : am_r e) (rk : am_r k) (rd : am_r kd) (rl : am_r lo) (rh : am_r hi) (kk : ∀ σ', am_RX w h (N_pick s e k kd lo hi) σ' → am_RM w2 h2 s2 σ' → Po (some (Zi (A_pick s e k kd lo hi))) am_SH σ') : am_U x m_Sp_pick Po σ 0 [some (Zr 0), some (Zi e), some (Zi k), some (Zi kd), some (Zi lo), some (Zi hi), none] [] := by
  have f0 : σ.1 8 6 = s 0 4 := hX.1.as 8 6 4 (by decide)
  have g0 : σ.1 8 10 = s 0 5 := hX.1.as 8 10 5 (by decide)
  have hb1 := hO.2.2.2.1
  have hb2 := hO.2.2.2.2.1
  have hb := hO.2.2.2.2.2.1
  have hb5 := hO.2.2.2.2.2.2.1
  have unk : ¬ ((0 ≤ e ∧ e < s 0 2) ∧ (0 ≤ k ∧ k < s 0 3)) → am_U x m_Sp_pick Po σ 16 [none, none, none, none, none, none, none] [] := fun q => s_Sp_pick_16 (am_fX kk (by simp only [A_pick]; rw [if_neg q]) (by simp only [N_pick]; rw [if_neg (fun z => q z.1)]) hX hM)
  have out : ((0 ≤ e ∧ e < s 0 2) ∧ (0 ≤ k ∧ k < s 0 3)) → ¬ ((kd = 0 ∨ kd = 1) ∧ (0 ≤ lo ∧ lo ≤ hi ∧ hi ≤ 3000)) → am_U x m_Sp_pick Po σ 36 [none, none, none, none, none, none, none] [] := fun q q2 => s_Sp_pick_36 (am_fX kk (by simp only [A_pick]; rw [if_pos q, if_neg q2]) (by simp only [N_pick]; rw [if_neg (fun z => q2 z.2.1)]) hX hM)
  have ful : ((0 ≤ e ∧ e < s 0 2) ∧ (0 ≤ k ∧ k < s 0 3)) → ((kd = 0 ∨ kd = 1) ∧ (0 ≤ lo ∧ lo ≤ hi ∧ hi ≤ 3000)) → ¬ (s 0 4 < 12 ∧ s 0 5 < 40) → am_U x m_Sp_pick Po σ 63 [none, none, none, none, none, none, none] [] := fun q q2 q3 => s_Sp_pick_63 (am_fX kk (by simp only [A_pick]; rw [if_pos q, if_pos q2, if_neg q3]) (by simp only [N_pick]; rw [if_neg (fun z => q3 z.2.2)]) hX hM)
  refine s_Sp_pick_0 (x_isEar hX hb1 re (fun q => br1e (x_isShake hX hb2 rk (fun q2 => br1n (x_isKind rd (fun q3 => br1e (x_isSpan rl rh (fun q4 => br1n ⟨by omega, fun q5 => ful ⟨q, q2⟩ ⟨q3, q4⟩ (by omega), fun q5 => ⟨by omega, fun q6 => ?_, fun q6 => ful ⟨q, q2⟩ ⟨q3, q4⟩ (by omega)⟩⟩) (fun q4 => br0n (out ⟨q, q2⟩ (fun z => q4 z.2))))) (fun q3 => br0e (out ⟨q, q2⟩ (fun z => q3 z.1))))) (fun q2 => br0n (unk (fun z => q2 z.2))))) (fun q => br0e (unk (fun z => q z.1))))
  refine s_Bo_addPick_0 ⟨by omega, fun σ1 e1 => ?_⟩
  have hX1 : am_RX w h (am_up s 7 (s 0 4).toNat e) σ1 := by rw [e1, f0]; exact hX.row (by decide)
  have hM1 : am_RM w2 h2 s2 σ1 := by rw [e1]; exact hM.fx am_fx.up (by decide)
  have f1 : σ1.1 8 6 = s 0 4 := hX1.1.as 8 6 4 (by decide)
  refine ⟨by omega, fun σ2 e2 => ?_⟩
  have hX2 : am_RX w h (am_up (am_up s 7 (s 0 4).toNat e) 8 (s 0 4).toNat k) σ2 := by rw [e2, f1]; exact hX1.row (by decide)
  have hM2 : am_RM w2 h2 s2 σ2 := by rw [e2]; exact hM1.fx am_fx.up (by decide)
  have f2 : σ2.1 8 6 = s 0 4 := hX2.1.as 8 6 4 (by decide)
  refine ⟨by omega, fun σ3 e3 σ4 e4 => ?_⟩
  have hX3 : am_RX w h (N_pk s e k kd) σ3 := by rw [e3, f2]; exact hX2.row (by decide)
  have hM3 : am_RM w2 h2 s2 σ3 := by rw [e3]; exact hM2.fx am_fx.up (by decide)
  have f3 : σ3.1 8 6 = s 0 4 := hX3.1.as 8 6 4 (by decide)
  have hX4 : am_RX w h (am_up (N_pk s e k kd) 0 4 (s 0 4 + 1)) σ4 := by rw [e4, f3]; exact hX3.sc (by decide)
  have hM4 : am_RM w2 h2 s2 σ4 := by rw [e4]; exact hM3.fx am_fx.up (by decide)
  have f4 : σ4.1 8 6 = s 0 4 + 1 := hX4.1.as 8 6 4 (by decide)
  refine ⟨_, rfl, rfl, ?_⟩
  rw [f4, show s 0 4 + 1 - 1 = s 0 4 by omega]
  refine x_addT hX4 hM4 ?_ (fun σ5 hX5 hM5 => ⟨rfl, rfl, am_fX kk (by simp only [A_pick]; rw [if_pos ⟨q, q2⟩, if_pos ⟨q3, q4⟩, if_pos (by omega)]) (by simp only [N_pick]; rw [if_pos ⟨⟨q, q2⟩, ⟨q3, q4⟩, by omega, by omega⟩]) hX5 hM5⟩)
  have : am_up (N_pk s e k kd) 0 4 (s 0 4 + 1) 0 5 = s 0 5 := rfl
  omega
theorem m_pick {e k kd lo hi : Int} (hM : am_RM w h s σ) (hX : am_RX w2 h2 s2 σ) (hO : am_OK w h s) (re : am_r e) (rk : am_r k) (rd : am_r kd) (rl : am_r lo) (rh : am_r hi) (kk : ∀ σ', am_RM w h (N_pick s e k kd lo hi) σ' → am_RX w2 h2 s2 σ' → Po (some (Zi (A_pick s e k kd lo hi))) am_SH σ') : am_U x m_Mo_pick Po σ 0 [some (Zr 147), some (Zi e), some (Zi k), some (Zi kd), some (Zi lo), some (Zi hi)] [] := by
  have f0 : σ.1 147 11 = s 0 4 := hM.1.as 147 11 4 (by decide)
  have g0 : σ.1 147 15 = s 0 5 := hM.1.as 147 15 5 (by decide)
  have hb1 := hO.2.2.2.1
  have hb2 := hO.2.2.2.2.1
  have hb := hO.2.2.2.2.2.1
  have hb5 := hO.2.2.2.2.2.2.1
  have unk : ¬ ((0 ≤ e ∧ e < s 0 2) ∧ (0 ≤ k ∧ k < s 0 3)) → am_U x m_Mo_pick Po σ 16 [none, none, none, none, none, none] [] := fun q => s_Mo_pick_16 (am_fM kk (by simp only [A_pick]; rw [if_neg q]) (by simp only [N_pick]; rw [if_neg (fun z => q z.1)]) hM hX)
  have out : ((0 ≤ e ∧ e < s 0 2) ∧ (0 ≤ k ∧ k < s 0 3)) → ¬ ((kd = 0 ∨ kd = 1) ∧ (0 ≤ lo ∧ lo ≤ hi ∧ hi ≤ 3000)) → am_U x m_Mo_pick Po σ 36 [none, none, none, none, none, none] [] := fun q q2 => s_Mo_pick_36 (am_fM kk (by simp only [A_pick]; rw [if_pos q, if_neg q2]) (by simp only [N_pick]; rw [if_neg (fun z => q2 z.2.1)]) hM hX)
  have ful : ((0 ≤ e ∧ e < s 0 2) ∧ (0 ≤ k ∧ k < s 0 3)) → ((kd = 0 ∨ kd = 1) ∧ (0 ≤ lo ∧ lo ≤ hi ∧ hi ≤ 3000)) → ¬ (s 0 4 < 12 ∧ s 0 5 < 40) → am_U x m_Mo_pick Po σ 57 [none, none, none, none, none, none] [] := fun q q2 q3 => s_Mo_pick_57 (am_fM kk (by simp only [A_pick]; rw [if_pos q, if_pos q2, if_neg q3]) (by simp only [N_pick]; rw [if_neg (fun z => q3 z.2.2)]) hM hX)
  refine s_Mo_pick_0 (m_isEar hM hb1 re (fun q => br1e (m_isShake hM hb2 rk (fun q2 => br1n (m_isKind rd (fun q3 => br1e (m_isSpan rl rh (fun q4 => br1n ⟨by omega, fun q5 => ful ⟨q, q2⟩ ⟨q3, q4⟩ (by omega), fun q5 => ⟨by omega, fun q6 => ⟨by omega, fun σ1 e1 => ?_⟩, fun q6 => ful ⟨q, q2⟩ ⟨q3, q4⟩ (by omega)⟩⟩) (fun q4 => br0n (out ⟨q, q2⟩ (fun z => q4 z.2))))) (fun q3 => br0e (out ⟨q, q2⟩ (fun z => q3 z.1))))) (fun q2 => br0n (unk (fun z => q2 z.2))))) (fun q => br0e (unk (fun z => q z.1))))
  have hM1 : am_RM w h (am_up s 7 (s 0 4).toNat e) σ1 := by rw [e1, f0]; exact hM.row (by decide)
  have hX1 : am_RX w2 h2 s2 σ1 := by rw [e1]; exact hX.fx am_fx.up (by decide)
  have f1 : σ1.1 147 11 = s 0 4 := hM1.1.as 147 11 4 (by decide)
  refine ⟨by omega, fun σ2 e2 => ?_⟩
  have hM2 : am_RM w h (am_up (am_up s 7 (s 0 4).toNat e) 8 (s 0 4).toNat k) σ2 := by rw [e2, f1]; exact hM1.row (by decide)
  have hX2 : am_RX w2 h2 s2 σ2 := by rw [e2]; exact hX1.fx am_fx.up (by decide)
  have f2 : σ2.1 147 11 = s 0 4 := hM2.1.as 147 11 4 (by decide)
  refine ⟨by omega, fun σ3 e3 => ?_⟩
  have hM3 : am_RM w h (N_pk s e k kd) σ3 := by rw [e3, f2]; exact hM2.row (by decide)
  have hX3 : am_RX w2 h2 s2 σ3 := by rw [e3]; exact hX2.fx am_fx.up (by decide)
  have f3 : σ3.1 147 11 = s 0 4 := hM3.1.as 147 11 4 (by decide)
  rw [f3]
  refine m_addT hM3 hX3 ?_ (fun σ4 hM4 hX4 => ⟨rfl, rfl, fun σ5 e5 => ?_⟩)
  · have : N_pk s e k kd 0 5 = s 0 5 := rfl
    omega
  have f4 : σ4.1 147 11 = s 0 4 := hM4.1.as 147 11 4 (by decide)
  have hM5 : am_RM w h (am_up (N_tl (N_pk s e k kd) (s 0 4) lo hi) 0 4 (s 0 4 + 1)) σ5 := by rw [e5, f4]; exact hM4.sc (by decide)
  have hX5 : am_RX w2 h2 s2 σ5 := by rw [e5]; exact hX4.fx am_fx.up (by decide)
  have f5 : σ5.1 147 11 = s 0 4 + 1 := hM5.1.as 147 11 4 (by decide)
  rw [f5, show s 0 4 + 1 - 1 = s 0 4 by omega]
  refine am_fM kk (by simp only [A_pick]; rw [if_pos ⟨q, q2⟩, if_pos ⟨q3, q4⟩, if_pos (by omega)]) ?_ hM5 hX5
  simp only [N_pick]
  rw [if_pos ⟨⟨q, q2⟩, ⟨q3, q4⟩, by omega, by omega⟩]
  have e50 : (N_pk s e k kd) 0 5 = s 0 5 := rfl
  have e51 : (am_up (N_pk s e k kd) 0 4 (s 0 4 + 1)) 0 5 = s 0 5 := rfl
  have e10 : (N_pk s e k kd) 0 1 = s 0 1 := rfl
  have e11 : (am_up (N_pk s e k kd) 0 4 (s 0 4 + 1)) 0 1 = s 0 1 := rfl
  unfold N_tl
  rw [e50, e51, e10, e11]
  rw [am_up_comm (r := 0) (n := 5) (r' := 0) (n' := 4) (Or.inr (by decide)), am_up_comm (r := 13) (r' := 0) (n' := 4) (Or.inl (by decide)), am_up_comm (r := 12) (r' := 0) (n' := 4) (Or.inl (by decide)), am_up_comm (r := 11) (r' := 0) (n' := 4) (Or.inl (by decide)), am_up_comm (r := 10) (r' := 0) (n' := 4) (Or.inl (by decide))]
/-! ground -/
def N_ground (s : Nat → Nat → Int) : Nat → Nat → Int := fun r j => if r = 1 then 0 else if r = 2 then 10 else if r = 0 ∧ 2 ≤ j ∧ j ≤ 5 then 0 else s r j
theorem x_ground {a b : Int} (hX : am_RX w h s σ) (hM : am_RM w2 h2 s2 σ) (ra : am_r a) (rb : am_r b) (hs : 0 < w)
    (k0 : ¬ ((2 ≤ a ∧ a ≤ 4) ∧ (2 ≤ b ∧ b ≤ 4)) → ∀ σ', am_RX w h s σ' → am_RM w2 h2 s2 σ' → Po (some (Zi (-3))) am_SH σ')
    (k1 : (2 ≤ a ∧ a ≤ 4) ∧ (2 ≤ b ∧ b ≤ 4) → ∀ σ', am_RX a.toNat b.toNat (N_ground s) σ' → am_RM w2 h2 s2 σ' → Po (some (Zi (a * b))) am_SH σ') : am_U x m_Sp_ground Po σ 0 [some (Zr 0), some (Zi a), some (Zi b)] [] := by
  refine s_Sp_ground_0 (c_isW ra (by decide) (by decide) (fun q => br1e (c_isW rb (by decide) (by decide) (fun q2 => br1n ?_) (fun q2 => br0n (s_Sp_ground_18 (k0 (fun z => q2 z.2) σ hX hM))))) (fun q => br0e (s_Sp_ground_18 (k0 (fun z => q z.1) σ hX hM))))
  have ea : a = (a.toNat : Int) := by omega
  have eb : b = (b.toNat : Int) := by omega
  have hl := c_lay (sh := am_SH) (w := a.toNat) (h := b.toNat) (x := x) (σ := σ) am_SHb sh_1 sh_2 sh_3 sh_4 (by omega) (by omega) (Po := fun ro3 so3 σ3 => ro3 = none ∧ so3 = am_SH ∧ am_U x m_Bo_forgetAll (fun ro4 so4 σ4 => ro4 = none ∧ so4 = am_SH ∧ Po (some (Zi (σ4.1 1 0))) am_SH σ4) σ3 0 [some (Zr 8)] []) ?_
  · rw [← ea, ← eb] at hl
    exact hl
  intro σ1 hl
  obtain ⟨l1, l2, l3, l4, l5, l6, l7⟩ := hl
  refine ⟨rfl, rfl, s_Bo_forgetAll_0 (fun σ2 e2 σ3 e3 σ4 e4 σ5 e5 => ⟨rfl, rfl, ?_⟩)⟩
  have e15 : ∀ k j, k ≠ 8 → σ5.1 k j = σ1.1 k j := fun k j hk => by
    rw [e5, e4, e3, e2]
    show am_up (am_up (am_up (am_up σ1.1 8 0 0) 8 3 0) 8 6 0) 8 10 0 k j = _
    rw [am_up_o hk, am_up_o hk, am_up_o hk, am_up_o hk]
  have e85 : ∀ j, σ5.1 8 j = if j = 10 then 0 else if j = 6 then 0 else if j = 3 then 0 else if j = 0 then 0 else σ1.1 8 j := fun j => by
    rw [e5, e4, e3, e2]
    simp [am_up]
  have ec : ((a.toNat * b.toNat : Nat) : Int) = a * b := by push_cast; rw [← ea, ← eb]
  rw [e15 1 0 (by decide), l3, ec]
  refine k1 ⟨q, q2⟩ σ5 ⟨⟨fun p hp j hj => ?_, fun p hp => ?_⟩, by rw [e15 1 0 (by decide)]; exact l3, fun c i hc hi => by rw [e15 4 _ (by decide)]; exact l7 c i hc hi⟩ (hM.fx (ks := [1, 2, 3, 4, 8]) (ps := []) (fun k j hk _ => ?_) (by decide))
  · have hr := hX.1.1 p hp j hj
    simp only [am_XR, List.mem_cons, List.not_mem_nil, or_false] at hp
    rcases hp with rfl | rfl | rfl | rfl | rfl | rfl | rfl | rfl | rfl | rfl | rfl | rfl | rfl | rfl
    · rw [e15 2 j (by decide), l5 j hj]; rfl
    · rw [e15 3 j (by decide), l6 j hj]; rfl
    all_goals
      rw [e15 _ j (by decide), l2 _ (by decide) (by decide) (by decide) (by decide)]
      exact hr
  · have hr := hX.1.2 p hp
    simp only [am_XS, List.mem_cons, List.not_mem_nil, or_false] at hp
    rcases hp with rfl | rfl | rfl | rfl | rfl | rfl | rfl
    · rw [e15 1 1 (by decide), l4 1 (by decide)]; exact hr
    · rw [e85, if_neg (by decide), if_neg (by decide), if_neg (by decide), if_neg (by decide), l2 8 (by decide) (by decide) (by decide) (by decide)]; exact hr
    · rw [e85]; rfl
    · rw [e85]; rfl
    · rw [e85]; rfl
    · rw [e85]; rfl
    · rw [e15 137 3 (by decide), l2 137 (by decide) (by decide) (by decide) (by decide)]; exact hr
  · simp only [List.mem_cons, List.not_mem_nil, or_false, not_or] at hk
    rw [e15 k j hk.2.2.2.2, l2 k hk.1 hk.2.1 hk.2.2.1 hk.2.2.2.1]
end AMQ
