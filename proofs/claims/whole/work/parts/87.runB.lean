/-! ===== run ===== -/
noncomputable def A_run (w h : Nat) (s : Nat → Nat → Int) : Int := if (am_RD w h s).1 = -1 then (match am_ex w h (am_RD w h s).2 s with | some _ => ((am_RD w h s).2.length : Int) | none => -4) else -4
noncomputable def N_run (w h : Nat) (s : Nat → Nat → Int) : Nat → Nat → Int := if (am_RD w h s).1 = -1 then (am_ex w h (am_RD w h s).2 s).getD s else s
section AMRN
variable {x : am_Sc} {Po : Option am_AV → am_Sh → am_St → Prop} {σ : am_St} {w h w2 h2 : Nat} {s s2 : Nat → Nat → Int}
theorem am_clp_n (C : Int) : ∀ (f o : Nat) (acc : Int), o ≤ am_n s → (am_clp s C f o acc).2 ≤ am_n s
  | 0, o, acc, ho => ho
  | f + 1, o, acc, ho => by
    have e1 := am_tE_b (s := s) ho
    have e2 := am_tE_b (s := s) e1.2
    have er : am_clp s C (f + 1) o acc = if am_ins s (am_tE s o) 0 (C - 1) then (if am_wv s (am_tE s (am_tE s o)) 6 then am_clp s C f (am_tE s (am_tE s o)) (am_or acc (am_shl 1 (am_nU s (am_tE s o)))) else (some (am_or acc (am_shl 1 (am_nU s (am_tE s o)))), am_tE s (am_tE s o))) else (none, am_tE s o) := rfl
    rw [er]
    have ih := am_clp_n C f (am_tE s (am_tE s o)) (am_or acc (am_shl 1 (am_nU s (am_tE s o)))) e2.2
    split
    · split
      · exact ih
      · exact e2.2
    · exact e1.2
theorem am_two_n {o : Nat} {v h1 l2 h2 : Int} (ho : o ≤ am_n s) : (am_two s o v h1 l2 h2).2 ≤ am_n s := by
  have e1 := am_tE_b (s := s) ho
  have e2 := am_tE_b (s := s) e1.2
  have e3 := am_tE_b (s := s) e2.2
  unfold am_two
  split
  · split
    · exact e3.2
    · exact e2.2
  · exact e1.2
theorem am_stm_n2 {o : Nat} (ho : o ≤ am_n s) : (am_stm w h s o).2 ≤ am_n s := by
  have e1 := am_tE_b (s := s) ho
  have e2 := am_tE_b (s := s) e1.2
  unfold am_stm
  split
  · exact am_two_n ho
  · split
    · unfold am_fits
      split
      · exact e2.2
      · exact e1.2
    · split
      · exact am_two_n ho
      · split
        · exact am_two_n ho
        · split
          · unfold am_spl
            split
            · split
              · exact am_clp_n _ 161 _ 0 e2.2
              · exact e2.2
            · exact e1.2
          · exact ho
theorem am_stm_n {o o' : Nat} {a : Option am_T3} (hO : am_OK w h s) (ho : o ≤ am_n s) (hst : am_stm w h s o = (a, o')) : o' ≤ am_n s := by
  have := am_stm_n2 (w := w) (h := h) (s := s) ho
  rw [hst] at this; exact this
theorem am_rd_r (hO : am_OK w h s) : ∀ (f o : Nat), o ≤ am_n s → -1 ≤ (am_rd w h s f o).1 ∧ (am_rd w h s f o).1 ≤ 1000000
  | 0, o, ho => by
    have n160 := (am_n_b hO).2.1
    have := (am_ts_b (T := s 14) ho).2
    show -1 ≤ ((am_ts (s 14) (am_n s) o : Nat) : Int) ∧ ((am_ts (s 14) (am_n s) o : Nat) : Int) ≤ _
    omega
  | f + 1, o, ho => by
    have n160 := (am_n_b hO).2.1
    rw [am_rd_s]
    cases hst : am_stm w h s o with
    | mk a o' =>
      cases a with
      | none =>
        have := (am_ts_b (T := s 14) (am_stm_n hO ho hst)).2
        dsimp only
        omega
      | some t =>
        obtain ⟨g1, g2, g3⟩ := am_stm_ok hO ho hst
        have tb := (am_ts_b (T := s 14) g3).2
        have e := am_tE_b (s := s) g3
        have ih := am_rd_r hO f (am_tE s o') e.2
        dsimp only
        by_cases q2 : am_tok (s 14) (am_n s) o' = -2
        · rw [if_pos q2]; dsimp only; omega
        · rw [if_neg q2]
          by_cases q3 : am_tok (s 14) (am_n s) o' = -3
          · rw [if_pos q3]; exact ih
          · rw [if_neg q3]; dsimp only; omega
theorem am_RD_r (hO : am_OK w h s) : am_r (am_RD w h s).1 := by
  have := am_rd_r hO 161 0 (Nat.zero_le _)
  unfold am_RD am_r; omega
theorem am_ex_ok : ∀ (L : List am_T3) (s' s'' : Nat → Nat → Int), am_OK w h s' → (∀ t ∈ L, am_VS w h s' t) → am_ex w h L s' = some s'' → am_OK w h s''
  | [], s', s'', hO, _, he => by
    have : s' = s'' := Option.some.inj he
    rw [← this]; exact hO
  | t :: L, s', s'', hO, hV, he => by
    have e : am_ex w h (t :: L) s' = (am_obey w h t s').bind (am_ex w h L) := rfl
    rw [e] at he
    cases ho : am_obey w h t s' with
    | none => rw [ho] at he; cases he
    | some s1 =>
      rw [ho] at he
      have ok := am_obey_ok hO (hV t (List.mem_cons_self ..)) ho
      exact am_ex_ok L s1 s'' ok.1 (fun u hu => (hV u (List.mem_cons_of_mem _ hu)).k (fun j => ok.2 0 j (by decide) (by decide) (by decide) (by decide))) he
theorem am_OK_run (hO : am_OK w h s) : am_OK w h (N_run w h s) := by
  unfold N_run
  by_cases q : (am_RD w h s).1 = -1
  · rw [if_pos q]
    cases he : am_ex w h (am_RD w h s).2 s with
    | none => exact hO
    | some s' => exact am_ex_ok _ s s' hO (am_RD_ok hO q).2 he
  · rw [if_neg q]; exact hO
/-- the state on the way -/
def am_WY (w h : Nat) (s : Nat → Nat → Int) (L pre rest : List am_T3) (si : Nat → Nat → Int) : Prop := L = pre ++ rest ∧ am_OK w h si ∧ (∀ r j, r ≠ 1 → r ≠ 2 → r ≠ 4 → r ≠ 5 → si r j = s r j) ∧ (∀ t, t ∈ rest → am_VS w h si t) ∧ am_ex w h L s = am_ex w h rest si
theorem am_WY.sp {L pre rest : List am_T3} {si : Nat → Nat → Int} (a : am_WY w h s L pre rest si) : L = pre ++ rest := a.1
theorem am_WY.ok {L pre rest : List am_T3} {si : Nat → Nat → Int} (a : am_WY w h s L pre rest si) : am_OK w h si := a.2.1
theorem am_WY.eq {L pre rest : List am_T3} {si : Nat → Nat → Int} (a : am_WY w h s L pre rest si) : ∀ r j, r ≠ 1 → r ≠ 2 → r ≠ 4 → r ≠ 5 → si r j = s r j := a.2.2.1
theorem am_WY.vs {L pre rest : List am_T3} {si : Nat → Nat → Int} (a : am_WY w h s L pre rest si) : ∀ t, t ∈ rest → am_VS w h si t := a.2.2.2.1
theorem am_WY.ex {L pre rest : List am_T3} {si : Nat → Nat → Int} (a : am_WY w h s L pre rest si) : am_ex w h L s = am_ex w h rest si := a.2.2.2.2
theorem am_WY.nx {L pre rest : List am_T3} {t : am_T3} {si s' : Nat → Nat → Int} (a : am_WY w h s L pre (t :: rest) si) (ho : am_obey w h t si = some s') : am_WY w h s L (pre ++ [t]) rest s' := by
  have ok := am_obey_ok a.ok (a.vs t (List.mem_cons_self ..)) ho
  refine ⟨by rw [a.sp, List.append_assoc]; rfl, ok.1, fun r j h1 h2 h4 h5 => by rw [ok.2 r j h1 h2 h4 h5]; exact a.eq r j h1 h2 h4 h5, fun u hu => (a.vs u (List.mem_cons_of_mem _ hu)).k (fun j => ok.2 0 j (by decide) (by decide) (by decide) (by decide)), ?_⟩
  rw [a.ex]
  show (am_obey w h t si).bind (am_ex w h rest) = _
  rw [ho]; rfl
theorem am_WY.no {L pre rest : List am_T3} {t : am_T3} {si : Nat → Nat → Int} (a : am_WY w h s L pre (t :: rest) si) (ho : am_obey w h t si = none) : am_ex w h L s = none := by
  rw [a.ex]
  show (am_obey w h t si).bind (am_ex w h rest) = _
  rw [ho]; rfl
theorem am_WY.fi {L pre : List am_T3} {si : Nat → Nat → Int} (a : am_WY w h s L pre [] si) : am_ex w h L s = some si := a.ex
theorem am_WY.at {L pre rest : List am_T3} {t : am_T3} {si : Nat → Nat → Int} (a : am_WY w h s L pre (t :: rest) si) : L[pre.length]? = some t := by
  rw [a.sp, List.getElem?_append_right (Nat.le_refl _), Nat.sub_self]; rfl
theorem am_WY.ln {L pre rest : List am_T3} {si : Nat → Nat → Int} (a : am_WY w h s L pre rest si) : L.length = pre.length + rest.length := by rw [a.sp, List.length_append]
theorem am_WY.st (hO : am_OK w h s) (hf : (am_RD w h s).1 = -1) : am_WY w h s (am_RD w h s).2 [] (am_RD w h s).2 s := ⟨rfl, hO, fun _ _ _ _ _ _ => rfl, (am_RD_ok hO hf).2, rfl⟩
theorem x_run (hX : am_RX w h s σ) (hM : am_RM w2 h2 s2 σ) (hO : am_OK w h s) (k : ∀ σ', am_RX w h (N_run w h s) σ' → am_RM w2 h2 s2 σ' → Po (some (Zi (A_run w h s))) am_SH σ') : am_U x m_Sp_run Po σ 0 [some (Zr 0), none] [] := by
  refine s_Sp_run_0 (x_read hX hO (fun σ1 f1 hL => ⟨_, rfl, rfl, am_RD_r hO, fun q => ?_, fun q => am_fX k (by unfold A_run; rw [if_neg q]) (by unfold N_run; rw [if_neg q]) (hX.fx f1 (by decide)) (hM.fx f1 (by decide))⟩))
  obtain ⟨hL1, hL2⟩ := hL q
  have l33 := (am_RD_ok hO q).1
  refine x_keep (hX.fx f1 (by decide)) (fun σ2 f2 hX2 hm2 => ⟨rfl, rfl, ?_⟩)
  have hM2 := (hM.fx f1 (by decide)).fx f2 (by decide)
  have hL2' : am_LT 139 140 141 (am_RD w h s).2 σ2 := hL1.k (fun c j hc => f2 c j (by simp; omega) (by simp))
  have e82 : σ2.1 137 8 = ((am_RD w h s).2.length : Int) := by rw [f2 137 8 (by decide) (by decide)]; exact hL2
  have loop : ∀ (rest pre : List am_T3) (si : Nat → Nat → Int) (τ : am_St), am_WY w h s (am_RD w h s).2 pre rest si → am_RX w h si τ → (∀ k j, 137 ≤ k → τ.1 k j = σ2.1 k j) → am_U x m_Sp_run Po τ 23 [some (Zr 0), some (Zi (pre.length : Int))] [] := by
    intro rest
    induction rest with
    | nil =>
      intro pre si τ W hXt hf
      have ln : (am_RD w h s).2.length = pre.length + 0 := W.ln
      refine s_Sp_run_23 ?_
      rw [hf 137 8 (by decide), e82]
      refine ⟨by omega, by omega, fun _ => am_fX k ?_ ?_ hXt (hM2.hi (fun k j hk => hf k j (by omega))), fun z => absurd (by omega) z⟩
      · unfold A_run; rw [if_pos q, W.fi]
      · unfold N_run; rw [if_pos q, W.fi]; rfl
    | cons t rest ih =>
      intro pre si τ W hXt hf
      have ln : (am_RD w h s).2.length = pre.length + (rest.length + 1) := W.ln
      obtain ⟨c1, c2, c3⟩ := hL2' _ _ W.at
      refine s_Sp_run_23 ?_
      rw [hf 137 8 (by decide), e82, Int.toNat_natCast, hf 139 _ (by decide), hf 140 _ (by decide), hf 141 _ (by decide), c1, c2]
      refine ⟨by omega, by omega, fun z => absurd z (by omega), fun _ => ⟨by omega, x_obey hXt W.ok (W.vs t (List.mem_cons_self ..)) c3 (fun s' τ' ho f' hX' => ⟨1, rfl, rfl, by decide, fun _ => ?_, fun z => absurd z (by decide)⟩) (fun ho τ' f' hX' => ⟨0, rfl, rfl, by decide, fun z => absurd rfl z, fun _ => ?_⟩)⟩⟩
      · have := ih (pre ++ [t]) s' τ' (W.nx ho) hX' (fun k j hk => by rw [f' k j hk]; exact hf k j hk)
        rw [List.length_append, List.length_singleton, show ((pre.length + 1 : Nat) : Int) = (pre.length : Int) + 1 by omega] at this
        exact this
      · refine x_back hX' W.eq (hm2.k (fun k j h1 h2 => by rw [f' k j (by omega)]; exact hf k j (by omega))) (fun τ4 f4 hX4 => ⟨rfl, rfl, am_fX k ?_ ?_ hX4 ((hM2.hi (fun k j hk => by rw [f' k j (by omega)]; exact hf k j (by omega))).fx f4 (by decide))⟩)
        · unfold A_run; rw [if_pos q, W.no ho]
        · unfold N_run; rw [if_pos q, W.no ho]; rfl
  exact loop _ [] s σ2 (am_WY.st hO q) hX2 (fun _ _ _ => rfl)
theorem am_cpl {P : am_St → Nat → Prop} {c0 c1 n : Nat} (hc : c0 ≠ c1) (stp : ∀ τ (i : Nat), i < n → (∀ τ', τ' = (am_up τ.1 c1 i (τ.1 c0 i), τ.2) → P τ' (i + 1)) → P τ i) (τ0 : am_St) (kk : ∀ τ, am_fx [c1] [] τ0 τ → (∀ j, j < n → τ.1 c1 j = τ0.1 c0 j) → P τ n) : P τ0 0 := by
  have loop : ∀ (d i : Nat) (τ : am_St), i + d = n → am_fx [c1] [] τ0 τ → (∀ j, j < i → τ.1 c1 j = τ0.1 c0 j) → P τ i := by
    intro d
    induction d with
    | zero => intro i τ hi hf hv; have e : i = n := by omega
              rw [e]; rw [e] at hv; exact kk τ hf hv
    | succ d ih =>
      intro i τ hi hf hv
      refine stp τ i (by omega) (fun τ' f' => ih (i + 1) τ' (by omega) (hf.tr (am_fx.o1 f') (by simp) (by simp)) (fun j hj => ?_))
      have e0 : τ.1 c0 i = τ0.1 c0 i := hf c0 i (by simpa using hc) (by simp)
      by_cases e : j = i
      · rw [e, am_stE f', e0]
      · rw [am_stN f' e]; exact hv j (by omega)
  exact loop n 0 τ0 (by omega) am_fx.rf (fun j hj => absurd hj (Nat.not_lt_zero j))
theorem m_run (hM : am_RM w h s σ) (hX : am_RX w2 h2 s2 σ) (hO : am_OK w h s) (k : ∀ σ', am_RM w h (N_run w h s) σ' → am_RX w2 h2 s2 σ' → Po (some (Zi (A_run w h s))) am_SH σ') : am_U x m_Mo_run Po σ 0 [some (Zr 147), none, none] [] := by
  refine s_Mo_run_0 (m_isRead hM hO (fun q σ1 f1 hL e39 => ⟨1, rfl, rfl, by decide, fun _ => ?_, fun z => absurd z (by decide)⟩) (fun q σ1 f1 _ => ⟨0, rfl, rfl, by decide, fun z => absurd rfl z, fun _ => am_fM k (by unfold A_run; rw [if_neg q]) (by unfold N_run; rw [if_neg q]) (hM.fx f1 (by decide)) (hX.fx f1 (by decide))⟩))
  have hM1 := hM.fx f1 (by decide)
  have hX1 := hX.fx f1 (by decide)
  have l33 := (am_RD_ok hO q).1
  refine am_cpl (P := fun τ i => am_U x m_Mo_run Po τ 12 [some (Zr 147), some (Zi (i : Int)), none] []) (c0 := 148) (c1 := 175) (n := 16) (by decide) (fun τ i hi hh => s_Mo_run_12 ⟨by omega, fun z => absurd z (by omega), fun _ => ⟨by omega, fun τ' f' => by rw [Int.toNat_natCast] at f'; have := hh τ' f'; rw [show ((i + 1 : Nat) : Int) = (i : Int) + 1 by omega] at this; exact this⟩⟩) σ1 (fun σ2 f2 m2 => s_Mo_run_12 ⟨by decide, fun _ => ?_, fun z => absurd (by decide) z⟩)
  refine am_cpl (P := fun τ i => am_U x m_Mo_run Po τ 38 [some (Zr 147), some (Zi (i : Int)), none] []) (c0 := 149) (c1 := 176) (n := 8) (by decide) (fun τ i hi hh => s_Mo_run_38 ⟨by omega, fun z => absurd z (by omega), fun _ => ⟨by omega, fun τ' f' => by rw [Int.toNat_natCast] at f'; have := hh τ' f'; rw [show ((i + 1 : Nat) : Int) = (i : Int) + 1 by omega] at this; exact this⟩⟩) σ2 (fun σ3 f3 m3 => s_Mo_run_38 ⟨by decide, fun _ => ?_, fun z => absurd (by decide) z⟩)
  refine am_cpl (P := fun τ i => am_U x m_Mo_run Po τ 64 [some (Zr 147), some (Zi (i : Int)), none] []) (c0 := 151) (c1 := 177) (n := 6) (by decide) (fun τ i hi hh => s_Mo_run_64 ⟨by omega, fun z => absurd z (by omega), fun _ => ⟨by omega, fun τ' f' => by rw [Int.toNat_natCast] at f'; have := hh τ' f'; rw [show ((i + 1 : Nat) : Int) = (i : Int) + 1 by omega] at this; exact this⟩⟩) σ3 (fun σ4 f4 m4 => s_Mo_run_64 ⟨by decide, fun _ => ?_, fun z => absurd (by decide) z⟩)
  refine am_cpl (P := fun τ i => am_U x m_Mo_run Po τ 90 [some (Zr 147), some (Zi (i : Int)), none] []) (c0 := 152) (c1 := 178) (n := 5) (by decide) (fun τ i hi hh => s_Mo_run_90 ⟨by omega, fun z => absurd z (by omega), fun _ => ⟨by omega, fun τ' f' => by rw [Int.toNat_natCast] at f'; have := hh τ' f'; rw [show ((i + 1 : Nat) : Int) = (i : Int) + 1 by omega] at this; exact this⟩⟩) σ4 (fun σ5 f5 m5 => s_Mo_run_90 ⟨by decide, fun _ => ?_, fun z => absurd (by decide) z⟩)
  have F5 : am_fx [175, 176, 177, 178] [] σ1 σ5 := ((f2.tr f3 (ks2 := [175, 176]) (ps2 := []) (by decide) (by decide)).tr f4 (ks2 := [175, 176, 177]) (ps2 := []) (by decide) (by decide)).tr f5 (by decide) (by decide)
  have hM5 := hM1.fx F5 (by decide)
  have hX5 := hX1.fx F5 (by decide)
  have hL5 : am_LT 172 173 174 (am_RD w h s).2 σ5 := hL.k (fun c j hc => F5 c j (by simp; omega) (by simp))
  have e395 : σ5.1 147 39 = ((am_RD w h s).2.length : Int) := by rw [F5 147 39 (by decide) (by decide)]; exact e39
  have k75 : ∀ j, j < 16 → σ5.1 175 j = s 1 j := fun j hj => by rw [f5 175 j (by decide) (by simp), f4 175 j (by decide) (by simp), f3 175 j (by decide) (by simp), m2 j hj]; exact hM1.1.at 148 1 16 (by decide) hj
  have k76 : ∀ j, j < 8 → σ5.1 176 j = s 2 j := fun j hj => by rw [f5 176 j (by decide) (by simp), f4 176 j (by decide) (by simp), m3 j hj, f2 149 j (by decide) (by simp)]; exact hM1.1.at 149 2 8 (by decide) hj
  have k77 : ∀ j, j < 6 → σ5.1 177 j = s 4 j := fun j hj => by rw [f5 177 j (by decide) (by simp), m4 j hj, f3 151 j (by decide) (by simp), f2 151 j (by decide) (by simp)]; exact hM1.1.at 151 4 6 (by decide) hj
  have k78 : ∀ j, j < 5 → σ5.1 178 j = s 5 j := fun j hj => by rw [m5 j hj, f4 152 j (by decide) (by simp), f3 152 j (by decide) (by simp), f2 152 j (by decide) (by simp)]; exact hM1.1.at 152 5 5 (by decide) hj
  have loop : ∀ (rest pre : List am_T3) (si : Nat → Nat → Int) (τ : am_St), am_WY w h s (am_RD w h s).2 pre rest si → am_RM w h si τ → (∀ k j, (k < 148 ∨ 171 ≤ k) → τ.1 k j = σ5.1 k j) → am_U x m_Mo_run Po τ 117 [some (Zr 147), some (Zi 1), some (Zi (pre.length : Int))] [] := by
    intro rest
    induction rest with
    | nil =>
      intro pre si τ W hMt hf
      have ln : (am_RD w h s).2.length = pre.length + 0 := W.ln
      refine s_Mo_run_117 ?_
      rw [hf 147 39 (by decide), e395]
      refine ⟨by omega, by omega, fun _ => s_Mo_run_141 ⟨by decide, fun z => absurd z (by decide), fun _ => ?_⟩, fun z => absurd (by omega) z⟩
      rw [hf 147 39 (by decide), e395]
      refine am_fM k ?_ ?_ hMt (hX5.lw (fun k j hk => hf k j (by omega)))
      · unfold A_run; rw [if_pos q, W.fi]
      · unfold N_run; rw [if_pos q, W.fi]; rfl
    | cons t rest ih =>
      intro pre si τ W hMt hf
      have ln : (am_RD w h s).2.length = pre.length + (rest.length + 1) := W.ln
      obtain ⟨c1, c2, c3⟩ := hL5 _ _ W.at
      refine s_Mo_run_117 ?_
      rw [hf 147 39 (by decide), e395]
      refine ⟨by omega, by omega, fun z => absurd z (by omega), fun _ => ⟨by decide, fun z => absurd z (by decide), fun _ => m_isDone hMt W.ok (W.vs t (List.mem_cons_self ..)) (by omega) (by rw [hf 172 _ (by decide)]; exact c1) (by rw [hf 173 _ (by decide)]; exact c2) (fun z => by rw [hf 174 _ (by decide)]; exact c3 z) (fun s' τ' ho f' hM' => ⟨1, rfl, rfl, ?_⟩) (fun ho τ' f' hM' => ⟨0, rfl, rfl, ?_⟩)⟩⟩
      · have := ih (pre ++ [t]) s' τ' (W.nx ho) hM' (fun k j hk => by rw [f' k j hk]; exact hf k j hk)
        rw [List.length_append, List.length_singleton, show ((pre.length + 1 : Nat) : Int) = (pre.length : Int) + 1 by omega] at this
        exact this
      · have g : ∀ k j, (k < 148 ∨ 171 ≤ k) → τ'.1 k j = σ5.1 k j := fun k j hk => by rw [f' k j hk]; exact hf k j hk
        have to141 : am_U x m_Mo_run Po τ' 141 [some (Zr 147), some (Zi 0), none] [] := by
          refine s_Mo_run_141 ⟨by decide, fun _ => ?_, fun z => absurd rfl z⟩
          refine am_cpl (P := fun τ i => am_U x m_Mo_run Po τ 152 [some (Zr 147), none, some (Zi (i : Int))] []) (c0 := 175) (c1 := 148) (n := 16) (by decide) (fun τ i hi hh => s_Mo_run_152 ⟨by omega, fun z => absurd z (by omega), fun _ => ⟨by omega, fun τ' f' => by rw [Int.toNat_natCast] at f'; have := hh τ' f'; rw [show ((i + 1 : Nat) : Int) = (i : Int) + 1 by omega] at this; exact this⟩⟩) τ' (fun τ2 g2 n2 => s_Mo_run_152 ⟨by decide, fun _ => ?_, fun z => absurd (by decide) z⟩)
          refine am_cpl (P := fun τ i => am_U x m_Mo_run Po τ 178 [some (Zr 147), none, some (Zi (i : Int))] []) (c0 := 176) (c1 := 149) (n := 8) (by decide) (fun τ i hi hh => s_Mo_run_178 ⟨by omega, fun z => absurd z (by omega), fun _ => ⟨by omega, fun τ' f' => by rw [Int.toNat_natCast] at f'; have := hh τ' f'; rw [show ((i + 1 : Nat) : Int) = (i : Int) + 1 by omega] at this; exact this⟩⟩) τ2 (fun τ3 g3 n3 => s_Mo_run_178 ⟨by decide, fun _ => ?_, fun z => absurd (by decide) z⟩)
          refine am_cpl (P := fun τ i => am_U x m_Mo_run Po τ 204 [some (Zr 147), none, some (Zi (i : Int))] []) (c0 := 177) (c1 := 151) (n := 6) (by decide) (fun τ i hi hh => s_Mo_run_204 ⟨by omega, fun z => absurd z (by omega), fun _ => ⟨by omega, fun τ' f' => by rw [Int.toNat_natCast] at f'; have := hh τ' f'; rw [show ((i + 1 : Nat) : Int) = (i : Int) + 1 by omega] at this; exact this⟩⟩) τ3 (fun τ4 g4 n4 => s_Mo_run_204 ⟨by decide, fun _ => ?_, fun z => absurd (by decide) z⟩)
          refine am_cpl (P := fun τ i => am_U x m_Mo_run Po τ 230 [some (Zr 147), none, some (Zi (i : Int))] []) (c0 := 178) (c1 := 152) (n := 5) (by decide) (fun τ i hi hh => s_Mo_run_230 ⟨by omega, fun z => absurd z (by omega), fun _ => ⟨by omega, fun τ' f' => by rw [Int.toNat_natCast] at f'; have := hh τ' f'; rw [show ((i + 1 : Nat) : Int) = (i : Int) + 1 by omega] at this; exact this⟩⟩) τ4 (fun τ5 g5 n5 => s_Mo_run_230 ⟨by decide, fun _ => ?_, fun z => absurd (by decide) z⟩)
          have r1 : am_RM w h (am_r2 si 1 (s 1)) τ2 := hM'.arr (k := 148) (r := 1) (n := 16) g2 (by decide) (fun r j hr => am_r2_o hr) (fun j hj => by rw [n2 j hj, g 175 j (by decide), k75 j hj]; exact am_r2_s.symm)
          have r2 : am_RM w h (am_r2 (am_r2 si 1 (s 1)) 2 (s 2)) τ3 := r1.arr (k := 149) (r := 2) (n := 8) g3 (by decide) (fun r j hr => am_r2_o hr) (fun j hj => by rw [n3 j hj, g2 176 j (by decide) (by simp), g 176 j (by decide), k76 j hj]; exact am_r2_s.symm)
          have r3 : am_RM w h (am_r2 (am_r2 (am_r2 si 1 (s 1)) 2 (s 2)) 4 (s 4)) τ4 := r2.arr (k := 151) (r := 4) (n := 6) g4 (by decide) (fun r j hr => am_r2_o hr) (fun j hj => by rw [n4 j hj, g3 177 j (by decide) (by simp), g2 177 j (by decide) (by simp), g 177 j (by decide), k77 j hj]; exact am_r2_s.symm)
          have r4 : am_RM w h (am_r2 (am_r2 (am_r2 (am_r2 si 1 (s 1)) 2 (s 2)) 4 (s 4)) 5 (s 5)) τ5 := r3.arr (k := 152) (r := 5) (n := 5) g5 (by decide) (fun r j hr => am_r2_o hr) (fun j hj => by rw [n5 j hj, g4 178 j (by decide) (by simp), g3 178 j (by decide) (by simp), g2 178 j (by decide) (by simp), g 178 j (by decide), k78 j hj]; exact am_r2_s.symm)
          have e : am_r2 (am_r2 (am_r2 (am_r2 si 1 (s 1)) 2 (s 2)) 4 (s 4)) 5 (s 5) = s := by
            funext r j
            unfold am_r2
            by_cases q5 : r = 5
            · rw [if_pos q5, q5]
            · rw [if_neg q5]
              by_cases q4 : r = 4
              · rw [if_pos q4, q4]
              · rw [if_neg q4]
                by_cases q2 : r = 2
                · rw [if_pos q2, q2]
                · rw [if_neg q2]
                  by_cases q1 : r = 1
                  · rw [if_pos q1, q1]
                  · rw [if_neg q1]; exact W.eq r j q1 q2 q4 q5
          rw [e] at r4
          refine am_fM k ?_ ?_ r4 (((((hX5.lw (fun k j hk => g k j (by omega))).fx g2 (by decide)).fx g3 (by decide)).fx g4 (by decide)).fx g5 (by decide))
          · unfold A_run; rw [if_pos q, W.no ho]
          · unfold N_run; rw [if_pos q, W.no ho]; rfl
        refine s_Mo_run_117 ?_
        rw [g 147 39 (by decide), e395]
        exact ⟨by omega, by omega, fun _ => to141, fun _ => ⟨by decide, fun _ => to141, fun z => absurd rfl z⟩⟩
  exact loop _ [] s σ5 (am_WY.st hO q) hM5 (fun _ _ _ => rfl)
end AMRN
