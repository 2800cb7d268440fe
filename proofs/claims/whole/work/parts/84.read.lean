/-! ===== both read the whole script ===== -/
def am_sc5 : List (Nat × Nat) := [(137, 4), (137, 5), (137, 6), (137, 7), (137, 8)]
def am_mc6 : List (Nat × Nat) := [(147, 33), (147, 34), (147, 36), (147, 37), (147, 38), (147, 39)]
def am_LT (c1 c2 c3 : Nat) (L : List am_T3) (σ : am_St) : Prop := ∀ i t, L[i]? = some t → σ.1 c1 i = t.1 ∧ σ.1 c2 i = t.2.1 ∧ (t.1 ≠ 1 → σ.1 c3 i = t.2.2)
noncomputable def am_RD (w h : Nat) (s : Nat → Nat → Int) : Int × List am_T3 := am_rd w h s 161 0
section AMRE
variable {x : am_Sc} {Po : Option am_AV → am_Sh → am_St → Prop} {σ : am_St} {w h w2 h2 : Nat} {s s2 : Nat → Nat → Int}
theorem am_LT.ap {c1 c2 c3 k : Nat} {L : List am_T3} {t : am_T3} {σ' : am_St} (a : am_LT c1 c2 c3 L σ) (hk : L.length = k) (b : am_atk c1 c2 c3 k t σ σ') : am_LT c1 c2 c3 (L ++ [t]) σ' := fun i u hu => by
  by_cases q : i < L.length
  · rw [List.getElem?_append_left q] at hu
    have g := b.2 i (by omega)
    have r := a i u hu
    exact ⟨by rw [g.1]; exact r.1, by rw [g.2.1]; exact r.2.1, fun z => by rw [g.2.2]; exact r.2.2 z⟩
  · have hi : i < (L ++ [t]).length := (List.getElem?_eq_some_iff.mp hu).1
    rw [List.length_append, List.length_singleton] at hi
    have ei : i = k := by omega
    rw [List.getElem?_append_right (by omega), show i - L.length = 0 by omega] at hu
    have : t = u := Option.some.inj hu
    rw [ei, ← this]; exact b.1
theorem am_LT.k {c1 c2 c3 : Nat} {L : List am_T3} {σ' : am_St} (a : am_LT c1 c2 c3 L σ) (hk : ∀ c j, (c = c1 ∨ c = c2 ∨ c = c3) → σ'.1 c j = σ.1 c j) : am_LT c1 c2 c3 L σ' := fun i u hu => by
  have r := a i u hu
  exact ⟨by rw [hk c1 i (Or.inl rfl)]; exact r.1, by rw [hk c2 i (Or.inr (Or.inl rfl))]; exact r.2.1, fun z => by rw [hk c3 i (Or.inr (Or.inr rfl))]; exact r.2.2 z⟩
theorem am_rd_s {f o : Nat} : am_rd w h s (f + 1) o = match am_stm w h s o with
    | (none, o') => (am_ts (s 14) (am_n s) o', [])
    | (some t, o') => if am_tok (s 14) (am_n s) o' = -2 then (-1, [t]) else if am_tok (s 14) (am_n s) o' = -3 then ((am_rd w h s f (am_tE s o')).1, t :: (am_rd w h s f (am_tE s o')).2) else (am_ts (s 14) (am_n s) o', [t]) := rfl
theorem am_tE_3 {o : Nat} (ho : o ≤ am_n s) (h3 : am_tok (s 14) (am_n s) o = -3) : o < am_tE s o := by
  have h1 := am_ts_b (T := s 14) ho
  have h2 := am_te_b (T := s 14) ho
  have h4 := ((am_tok_2 (T := s 14) ho).2.mp h3).1
  have lt : am_ts (s 14) (am_n s) o < am_n s := by
    by_cases q : am_ts (s 14) (am_n s) o < am_n s
    · exact q
    · have := (am_so_0 (T := s 14)).mpr (show am_n s ≤ am_ts (s 14) (am_n s) o by omega)
      omega
  have := h2.2.2 lt
  unfold am_tE; omega
theorem am_rd_ok (hO : am_OK w h s) : ∀ (f o : Nat), o ≤ am_n s → (am_rd w h s f o).1 = -1 → ((am_rd w h s f o).2.length * 5 ≤ am_n s - o + 5 ∧ ∀ t, t ∈ (am_rd w h s f o).2 → am_VS w h s t)
  | 0, o, ho, h => by
    have : ((am_ts (s 14) (am_n s) o : Nat) : Int) = -1 := h
    omega
  | f + 1, o, ho, hh => by
    rw [am_rd_s] at hh ⊢
    cases hst : am_stm w h s o with
    | mk a o' =>
      cases a with
      | none =>
        rw [hst] at hh
        have : ((am_ts (s 14) (am_n s) o' : Nat) : Int) = -1 := hh
        omega
      | some t =>
        obtain ⟨g1, g2, g3⟩ := am_stm_ok hO ho hst
        rw [hst] at hh
        dsimp only at hh ⊢
        by_cases q2 : am_tok (s 14) (am_n s) o' = -2
        · rw [if_pos q2]
          refine ⟨by show 1 * 5 ≤ _; omega, fun u hu => ?_⟩
          have : u = t := List.mem_singleton.mp hu
          rw [this]; exact g1
        · rw [if_neg q2] at hh ⊢
          by_cases q3 : am_tok (s 14) (am_n s) o' = -3
          · rw [if_pos q3] at hh ⊢
            have e := am_tE_b (s := s) g3
            have e3 := am_tE_3 g3 q3
            obtain ⟨r1, r2⟩ := am_rd_ok hO f (am_tE s o') e.2 hh
            refine ⟨?_, fun u hu => ?_⟩
            · show ((am_rd w h s f (am_tE s o')).2.length + 1) * 5 ≤ _
              omega
            · rcases List.mem_cons.mp hu with e | e
              · rw [e]; exact g1
              · exact r2 u e
          · rw [if_neg q3] at hh
            have : ((am_ts (s 14) (am_n s) o' : Nat) : Int) = -1 := hh
            omega
theorem am_RD_ok (hO : am_OK w h s) (hf : (am_RD w h s).1 = -1) : (am_RD w h s).2.length ≤ 33 ∧ ∀ t, t ∈ (am_RD w h s).2 → am_VS w h s t := by
  have n160 := (am_n_b hO).2.1
  have := am_rd_ok hO 161 0 (Nat.zero_le _) hf
  exact ⟨by have := this.1; unfold am_RD; omega, this.2⟩
theorem x_read (hX : am_RX w h s σ) (hO : am_OK w h s) (kk : ∀ σ', am_fx am_sF am_sc5 σ σ' → ((am_RD w h s).1 = -1 → am_LT 139 140 141 (am_RD w h s).2 σ' ∧ σ'.1 137 8 = ((am_RD w h s).2.length : Int)) → Po (some (Zi (am_RD w h s).1)) am_SH σ') : am_U x m_Sc_read Po σ 0 [some (Zr 137)] [] := by
  obtain ⟨n1, n2, n3⟩ := am_n_b hO
  have loop : ∀ (f k o : Nat) (pre : List am_T3) (τ : am_St), o ≤ am_n s → 5 * k ≤ o → k + f = 161 → am_fx am_sF am_sc5 σ τ → am_TX s o τ → τ.1 137 8 = (k : Int) → pre.length = k → am_LT 139 140 141 pre τ → am_RD w h s = ((am_rd w h s f o).1, pre ++ (am_rd w h s f o).2) → am_U x m_Sc_read Po τ 14 [some (Zr 137)] [] := by
    intro f
    induction f with
    | zero => intro k o pre τ ho h5 hf; omega
    | succ f ih =>
      intro k o pre τ ho h5 hf F hT e8 hp hL hR
      have hXt := hX.fx F (by decide)
      have kf : ∀ (σ' : am_St) (v : Int), am_fx am_sF am_sc5 σ σ' → (am_RD w h s).1 = v → ¬ v = -1 → Po (some (Zi v)) am_SH σ' := fun σ' v a b c => by rw [← b]; exact kk σ' a (fun z => absurd (b.symm.trans z) c)
      rw [am_rd_s] at hR
      refine s_Sc_read_14 ?_
      rw [e8]
      refine ⟨by omega, fun z => absurd z (by omega), fun _ => x_stm hXt hO ho hT (by omega) e8 (fun t o' τ4 hst f4 hT4 ha => ⟨1, rfl, rfl, by decide, fun _ τ5 f5 => ?_, fun z => absurd z (by decide)⟩) (fun o' τ4 hst f4 hT4 => ⟨0, rfl, rfl, by decide, fun z => absurd rfl z, fun _ => ?_⟩)⟩
      · obtain ⟨g1, g2, g3⟩ := am_stm_ok hO ho hst
        have F5 : am_fx am_sF am_sc5 σ τ5 := (F.tr f4 (ks2 := am_sF) (ps2 := am_sc5) (by decide) (by decide)).tr (am_fx.p1 f5) (by decide) (by decide)
        have hT5 : am_TX s o' τ5 := hT4.k (fun j a b => am_stN f5 (by omega))
        have e85 : τ5.1 137 8 = ((k + 1 : Nat) : Int) := by rw [am_stE f5, f4 137 8 (by decide) (by decide), e8]; omega
        have L5 : am_LT 139 140 141 (pre ++ [t]) τ5 := (hL.ap hp ha).k (fun c j hc => am_stO f5 (by omega))
        have sb := am_so_b (T := s 14) (n := am_n s) (j := am_ts (s 14) (am_n s) o')
        have tb := am_ts_b (T := s 14) g3
        have t2 := am_tok_2 (T := s 14) g3
        rw [hst] at hR
        dsimp only at hR
        have stop : ¬ am_tok (s 14) (am_n s) o' = -2 → ¬ am_tok (s 14) (am_n s) o' = -3 → am_U x m_Sc_read Po τ5 76 [some (Zr 137)] [] := fun q2 q3 => by
          rw [if_neg q2, if_neg q3] at hR
          refine s_Sc_read_76 ?_
          rw [hT5.2.1]
          exact kf τ5 _ F5 (by rw [hR]) (by omega)
        rw [hT5.1, hT5.2.1, Int.toNat_natCast]
        refine ⟨by omega, fun q0 => ⟨fun q3 => stop (fun z => q0 (t2.1.mp z)) (fun z => q3 (t2.2.mp z).1), fun q3 => ?_⟩, fun q0 => ?_⟩
        · have lt : am_ts (s 14) (am_n s) o' < am_n s := by
            by_cases q : am_ts (s 14) (am_n s) o' < am_n s
            · exact q
            · exact absurd (am_so_0.mpr (by omega)) q0
          have ec : τ5.1 138 (am_ts (s 14) (am_n s) o') = s 14 (am_ts (s 14) (am_n s) o') := (hX.fx F5 (by decide)).1.at 138 14 160 (by decide) (by omega)
          have bc := n3 _ lt
          rw [ec]
          refine ⟨by omega, by omega, fun q59 => ?_, fun q59 => stop (fun z => q0 (t2.1.mp z)) (fun z => q59 (t2.2.mp z).2)⟩
          have q3' := t2.2.mpr ⟨q3, q59⟩
          have q2' : ¬ am_tok (s 14) (am_n s) o' = -2 := by omega
          rw [if_neg q2', if_pos q3'] at hR
          have e := am_tE_b (s := s) g3
          have e3 := am_tE_3 g3 q3'
          refine x_advance (hX.fx F5 (by decide)) hO e.2 hT5.2.2.1 (fun τ6 f6 hT6 => ⟨rfl, rfl, ?_⟩)
          refine ih (k + 1) (am_tE s o') (pre ++ [t]) τ6 e.2 (by omega) (by omega) (F5.tr f6 (by decide) (by decide)) hT6 (by rw [f6 137 8 (by decide) (by decide)]; exact e85) (by rw [List.length_append, List.length_singleton]; omega) (L5.k (fun c j hc => f6 c j (by simp) (by unfold am_sc4; simp; omega))) ?_
          rw [hR, List.append_assoc]; rfl
        · have q2' := t2.1.mpr q0
          rw [if_pos q2'] at hR
          have e1 : (am_RD w h s).1 = -1 := by rw [hR]
          rw [← e1]
          refine kk τ5 F5 (fun _ => ?_)
          rw [hR]
          exact ⟨L5, by rw [e85]; show _ = ((pre ++ [t]).length : Int); rw [List.length_append, List.length_singleton]; omega⟩
      · rw [hst] at hR
        rw [hT4.2.1]
        exact kf τ4 _ (F.tr f4 (by decide) (by decide)) (by rw [hR]) (by omega)
  refine s_Sc_read_0 (fun σ1 f1 σ2 f2 => ?_)
  have F2 : am_fx am_sF am_sc5 σ σ2 := (am_fx.p1 f1).tr (am_fx.p1 f2) (by decide) (by decide)
  refine x_advance (hX.fx F2 (by decide)) hO (Nat.zero_le _) (by rw [am_stN f2 (by decide), am_stE f1]; rfl) (fun σ3 f3 hT3 => ⟨rfl, rfl, ?_⟩)
  exact loop 161 0 0 [] σ3 (Nat.zero_le _) (by omega) (by omega) (F2.tr f3 (by decide) (by decide)) hT3 (by rw [f3 137 8 (by decide) (by decide), am_stE f2]; rfl) rfl (fun i t hi => by cases hi) rfl
theorem m_isRead (hM : am_RM w h s σ) (hO : am_OK w h s) (k1 : (am_RD w h s).1 = -1 → ∀ σ', am_fx am_mF am_mc6 σ σ' → am_LT 172 173 174 (am_RD w h s).2 σ' → σ'.1 147 39 = ((am_RD w h s).2.length : Int) → Po (some (Zi 1)) am_SH σ') (k0 : ¬ (am_RD w h s).1 = -1 → ∀ σ', am_fx am_mF am_mc6 σ σ' → σ'.1 147 38 = (am_RD w h s).1 → Po (some (Zi 0)) am_SH σ') : am_U x m_Mo_isRead Po σ 0 [some (Zr 147), none] [] := by
  obtain ⟨n1, n2, n3⟩ := am_n_b hO
  have loop : ∀ (f k o : Nat) (pre : List am_T3) (τ : am_St), o ≤ am_n s → 5 * k ≤ o → k + f = 161 → am_fx am_mF am_mc6 σ τ → τ.1 147 33 = (o : Int) → τ.1 147 39 = (k : Int) → pre.length = k → am_LT 172 173 174 pre τ → am_RD w h s = ((am_rd w h s f o).1, pre ++ (am_rd w h s f o).2) → am_U x m_Mo_isRead Po τ 12 [some (Zr 147), some (Zi 1)] [] := by
    intro f
    induction f with
    | zero => intro k o pre τ ho h5 hf; omega
    | succ f ih =>
      intro k o pre τ ho h5 hf F e33 e39 hp hL hR
      have hMt := hM.fx F (by decide)
      rw [am_rd_s] at hR
      refine s_Mo_isRead_12 ⟨by decide, fun z => absurd z (by decide), fun _ => m_nextToken hMt hO ho e33 (fun τ4 f4 hT4 => ⟨rfl, rfl, ?_⟩)⟩
      have F4 : am_fx am_mF am_mc6 σ τ4 := F.tr f4 (by decide) (by decide)
      have L4 : am_LT 172 173 174 pre τ4 := hL.k (fun c j hc => f4 c j (by simp) (by unfold am_mc4; simp; omega))
      have e394 : τ4.1 147 39 = (k : Int) := by rw [f4 147 39 (by decide) (by decide)]; exact e39
      refine m_stm (hM.fx F4 (by decide)) hO ho hT4 (by omega) e394 (fun t o' τ5 hst f5 hT5 ha => ⟨1, rfl, rfl, by decide, fun _ τ6 f6 => ?_, fun z => absurd z (by decide)⟩) (fun o' τ5 hst f5 e38 => ⟨0, rfl, rfl, by decide, fun z => absurd rfl z, fun _ => ?_⟩)
      · obtain ⟨g1, g2, g3⟩ := am_stm_ok hO ho hst
        have F6 : am_fx am_mF am_mc6 σ τ6 := (F4.tr f5 (ks2 := am_mF) (ps2 := am_mc6) (by decide) (by decide)).tr (am_fx.p1 f6) (by decide) (by decide)
        have hT6 : am_TM s o' τ6 := by
          have e2 : τ6.2 = τ5.2 := by rw [f6]
          exact ⟨by rw [am_stN f6 (by decide)]; exact hT5.1, by rw [am_stN f6 (by decide)]; exact hT5.2.1, by rw [e2]; exact hT5.2.2.1, fun z => by rw [am_stN f6 (by decide)]; exact hT5.2.2.2 z⟩
        have e396 : τ6.1 147 39 = ((k + 1 : Nat) : Int) := by rw [am_stE f6, f5 147 39 (by decide) (by decide), e394]; omega
        have L6 : am_LT 172 173 174 (pre ++ [t]) τ6 := (L4.ap hp ha).k (fun c j hc => am_stO f6 (by omega))
        rw [hst] at hR
        dsimp only at hR
        refine ⟨am_tok_rl g3 hT6, am_cmpE.1, fun q => s_Mo_isRead_55 (s_Mo_isRead_12 ⟨by decide, fun _ => ⟨am_tok_rl g3 hT6, am_cmpE.1, fun q2 => s_Mo_isRead_77 (s_Mo_isRead_82 ⟨Or.inr rfl, ?_⟩), fun q2 => m_fails hT6 (fun σ' f' e' => ⟨0, rfl, rfl, by decide, fun _ => s_Mo_isRead_82 ⟨Or.inl rfl, ?_⟩, fun z => absurd rfl z⟩)⟩, fun z => absurd rfl z⟩), fun q => s_Mo_isRead_55 ?_⟩
        · rw [am_cmpE.2, hT6.2.2.1] at q2
          rw [if_pos q2] at hR
          refine k1 (by rw [hR]) τ6 F6 (by rw [hR]; exact L6) ?_
          rw [hR, e396]; show _ = ((pre ++ [t]).length : Int); rw [List.length_append, List.length_singleton]; omega
        · rw [am_cmpE.2, hT6.2.2.1] at q2 q
          rw [if_neg q2, if_neg q] at hR
          refine k0 (by rw [hR]; show ¬ ((am_ts (s 14) (am_n s) o' : Nat) : Int) = -1; omega) σ' (F6.tr f' (by decide) (by decide)) (by rw [hR]; exact e')
        · rw [am_cmpE.2, hT6.2.2.1] at q
          rw [if_neg (by omega), if_pos q] at hR
          have e := am_tE_b (s := s) g3
          have e3 := am_tE_3 g3 q
          refine ih (k + 1) (am_tE s o') (pre ++ [t]) τ6 e.2 (by omega) (by omega) F6 hT6.2.1 e396 (by rw [List.length_append, List.length_singleton]; omega) L6 ?_
          rw [hR, List.append_assoc]; rfl
      · rw [hst] at hR
        refine k0 (by rw [hR]; show ¬ ((am_ts (s 14) (am_n s) o' : Nat) : Int) = -1; omega) τ5 (F4.tr f5 (by decide) (by decide)) (by rw [hR]; exact e38)
  refine s_Mo_isRead_0 (fun σ1 f1 σ2 f2 => ?_)
  exact loop 161 0 0 [] σ2 (Nat.zero_le _) (by omega) (by omega) ((am_fx.p1 f1).tr (am_fx.p1 f2) (by decide) (by decide)) (by rw [am_stN f2 (by decide), am_stE f1]; rfl) (by rw [am_stE f2]; rfl) rfl (fun i t hi => by cases hi) rfl
noncomputable def A_fault (w h : Nat) (s : Nat → Nat → Int) : Int := (am_RD w h s).1
theorem x_fault (hX : am_RX w h s σ) (hM : am_RM w2 h2 s2 σ) (hO : am_OK w h s) (k : ∀ σ', am_RX w h s σ' → am_RM w2 h2 s2 σ' → Po (some (Zi (A_fault w h s))) am_SH σ') : am_U x m_Sp_fault Po σ 0 [some (Zr 0)] [] :=
  s_Sp_fault_0 (x_read hX hO (fun σ' f _ => ⟨_, rfl, rfl, k σ' (hX.fx f (by decide)) (hM.fx f (by decide))⟩))
theorem m_fault (hX : am_RX w2 h2 s2 σ) (hM : am_RM w h s σ) (hO : am_OK w h s) (k : ∀ σ', am_RX w2 h2 s2 σ' → am_RM w h s σ' → Po (some (Zi (A_fault w h s))) am_SH σ') : am_U x m_Mo_fault Po σ 0 [some (Zr 147)] [] := by
  refine s_Mo_fault_0 (m_isRead hM hO (fun q σ' f _ _ => ⟨1, rfl, rfl, by decide, fun z => absurd z (by decide), fun _ => s_Mo_fault_15 ?_⟩) (fun q σ' f e => ⟨0, rfl, rfl, by decide, fun _ => s_Mo_fault_15 ?_, fun z => absurd rfl z⟩))
  · have := k σ' (hX.fx f (by decide)) (hM.fx f (by decide))
    unfold A_fault at this; rw [q] at this; exact this
  · rw [e]; exact k σ' (hX.fx f (by decide)) (hM.fx f (by decide))
end AMRE
