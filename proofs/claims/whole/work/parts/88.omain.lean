/-! ===== the law's loop ===== -/
theorem am_Vn {x : am_Sc} {M : am_MT} {Po : Option am_AV → am_Sh → am_St → Prop} {cs : Nat × Nat} {sh : am_Sh} {σ : am_St} {pc : Nat} {lv : List (Option am_AV)} {st : List am_AV} (h : am_V x M (fun r so σ' => ∃ A : Int, r = some (Zi A) ∧ Po (some (Zi (Int32.ofInt A).toInt)) so σ') cs sh σ pc lv st) : am_V x M Po cs sh σ pc lv st := by
  intro p l e s m args below meth c g CX H locs ls hP hsz hS hL T hT X
  obtain ⟨t, st1, o, hrun, hend, ⟨⟨r, sh', σ', ho, ⟨A, hr, hpo⟩, hp2, hsz2⟩, hF⟩, Lc, hFr, hLc⟩ := h p l e s m args below meth c g CX H locs ls hP hsz hS hL T hT X
  refine ⟨t, st1, o, hrun, hend, ⟨⟨some (Zi (Int32.ofInt A).toInt), sh', σ', ?_, hpo, hp2, hsz2⟩, hF⟩, Lc, hFr, hLc⟩
  rw [ho, hr]
  show Outcome.returned (some (Value.int (Int32.ofInt A))) = Outcome.returned (some (Value.int (Int32.ofInt (Int32.ofInt A).toInt)))
  rw [am_of]
theorem am_step2 {x : am_Sc} {Mx Mm : am_MT} {lx lm : List (Option am_AV)} {σ : am_St} {w h w' h' : Nat} {s N : Nat → Nat → Int} {A : Int} {K Q : am_St → Prop}
    (hx : ∀ {Po' : Option am_AV → am_Sh → am_St → Prop}, (∀ σ', am_RX w' h' N σ' → am_RM w h s σ' → Po' (some (Zi A)) am_SH σ') → am_U x Mx Po' σ 0 lx [])
    (hm : ∀ {Po' : Option am_AV → am_Sh → am_St → Prop} {σ' : am_St}, am_RM w h s σ' → am_RX w' h' N σ' → (∀ σ'', am_RM w' h' N σ'' → am_RX w' h' N σ'' → Po' (some (Zi A)) am_SH σ'') → am_U x Mm Po' σ' 0 lm [])
    (kk : ∀ σ'', am_RX w' h' N σ'' → am_RM w' h' N σ'' → K σ'') : am_U x Mx (fun ro1 so1 σ1 => ∃ z1 : Int, ro1 = some (Zi z1) ∧ so1 = am_SH ∧ am_U x Mm (fun ro2 so2 σ2 => ∃ z2 : Int, ro2 = some (Zi z2) ∧ so2 = am_SH ∧ am_r z1 ∧ am_r z2 ∧ ((z1 = z2 → K σ2) ∧ (¬ z1 = z2 → Q σ2))) σ1 0 lm []) σ 0 lx [] :=
  am_Vn (hx (fun σ1 hX1 hM1 => ⟨A, rfl, (Int32.ofInt A).toInt, rfl, rfl, am_Vn (hm hM1 hX1 (fun σ2 hM2 hX2 => ⟨A, rfl, (Int32.ofInt A).toInt, rfl, rfl, am_rr32 _, am_rr32 _, fun _ => kk σ2 hX2 hM2, fun z => absurd rfl z⟩))⟩))
/-- the start -/
def am_s0 : Nat → Nat → Int := fun r j => if r = 2 then 10 else if r = 0 ∧ j = 0 then 17 else 0
theorem am_s0_OK : am_OK 4 3 am_s0 := by
  have z : ∀ r j, r ≠ 0 → r ≠ 2 → am_s0 r j = 0 := fun r j h0 h2 => by unfold am_s0; rw [if_neg h2, if_neg (fun q => h0 q.1)]
  have g2 : ∀ j, am_s0 2 j = 10 := fun j => rfl
  have a0 : am_s0 0 0 = 17 := rfl
  have a1 : am_s0 0 1 = 0 := rfl
  have a2 : am_s0 0 2 = 0 := rfl
  have a3 : am_s0 0 3 = 0 := rfl
  have a4 : am_s0 0 4 = 0 := rfl
  have a5 : am_s0 0 5 = 0 := rfl
  have a6 : am_s0 0 6 = 0 := rfl
  unfold am_OK
  simp only [a0, a1, a2, a3, a4, a5, a6, g2, z 1 _ (by decide) (by decide), z 4 _ (by decide) (by decide), z 6 _ (by decide) (by decide)]
  exact ⟨by decide, by decide, by decide, by decide, by decide, by decide, by decide, by decide, fun _ _ => by decide, fun _ _ => by decide, fun e he => by omega, fun _ _ => by decide, fun e he => by omega, fun _ _ => by decide, fun e he => by omega, fun e he => by omega, fun t u _ he => by omega, fun e he => by omega, fun e he => by omega⟩
theorem am_s0_R {τ : am_St} (hl : am_layP 4 3 (am_up am_zero.1 1 1 17, am_zero.2) τ) : am_RX 4 3 am_s0 (am_S0 τ) ∧ am_RM 4 3 am_s0 (am_S0 τ) := by
  obtain ⟨-, l1, l2, l3, l4, l5, l6⟩ := hl
  have lo : ∀ k j, k ≠ 147 → k ≠ 149 → (am_S0 τ).1 k j = τ.1 k j := fun k j h1 h2 => by
    show am_up (am_up (am_up (am_up (am_up (am_up (am_up (am_up (am_up (am_up (am_up τ.1 147 0 4) 147 1 3) 147 4 17) 149 0 10) 149 1 10) 149 2 10) 149 3 10) 149 4 10) 149 5 10) 149 6 10) 149 7 10 k j = _
    rw [am_up_o h2, am_up_o h2, am_up_o h2, am_up_o h2, am_up_o h2, am_up_o h2, am_up_o h2, am_up_o h2, am_up_o h1, am_up_o h1, am_up_o h1]
  have z : ∀ k j, k ≠ 1 → k ≠ 2 → k ≠ 3 → k ≠ 4 → τ.1 k j = 0 := fun k j h1 h2 h3 h4 => by
    rw [l1 k h1 h2 h3 h4]; show am_up am_zero.1 1 1 17 k j = 0; rw [am_up_o h1]; rfl
  have s7 : ∀ j, (am_S0 τ).1 147 j = if j = 4 then 17 else if j = 1 then 3 else if j = 0 then 4 else 0 := fun j => by
    show am_up (am_up (am_up (am_up (am_up (am_up (am_up (am_up (am_up (am_up (am_up τ.1 147 0 4) 147 1 3) 147 4 17) 149 0 10) 149 1 10) 149 2 10) 149 3 10) 149 4 10) 149 5 10) 149 6 10) 149 7 10 147 j = _
    rw [am_up_o (by decide), am_up_o (by decide), am_up_o (by decide), am_up_o (by decide), am_up_o (by decide), am_up_o (by decide), am_up_o (by decide), am_up_o (by decide), am_up_v, am_up_v, am_up_v, z 147 j (by decide) (by decide) (by decide) (by decide)]
  have s9 : ∀ j, j < 8 → (am_S0 τ).1 149 j = 10 := fun j hj => by
    show am_up (am_up (am_up (am_up (am_up (am_up (am_up (am_up (am_up (am_up (am_up τ.1 147 0 4) 147 1 3) 147 4 17) 149 0 10) 149 1 10) 149 2 10) 149 3 10) 149 4 10) 149 5 10) 149 6 10) 149 7 10 149 j = _
    rw [am_up_v, am_up_v, am_up_v, am_up_v, am_up_v, am_up_v, am_up_v, am_up_v]
    rcases (show j = 0 ∨ j = 1 ∨ j = 2 ∨ j = 3 ∨ j = 4 ∨ j = 5 ∨ j = 6 ∨ j = 7 by omega) with e | e | e | e | e | e | e | e <;> rw [e] <;> rfl
  refine ⟨⟨⟨fun q hq j hj => ?_, fun q hq => ?_⟩, ?_, fun c i hc hi => ?_⟩, ⟨⟨fun q hq j hj => ?_, fun q hq => ?_⟩, ?_, ?_⟩⟩
  · simp only [am_XR, List.mem_cons, List.not_mem_nil, or_false] at hq
    rcases hq with rfl | rfl | rfl | rfl | rfl | rfl | rfl | rfl | rfl | rfl | rfl | rfl | rfl | rfl
    · rw [lo _ _ (by decide) (by decide)]; exact l4 j hj
    · rw [lo _ _ (by decide) (by decide)]; exact l5 j hj
    all_goals rw [lo _ _ (by decide) (by decide)]; exact z _ _ (by decide) (by decide) (by decide) (by decide)
  · simp only [am_XS, List.mem_cons, List.not_mem_nil, or_false] at hq
    rcases hq with rfl | rfl | rfl | rfl | rfl | rfl | rfl
    · rw [lo _ _ (by decide) (by decide), l3 _ (by decide)]; rfl
    all_goals rw [lo _ _ (by decide) (by decide)]; exact z _ _ (by decide) (by decide) (by decide) (by decide)
  · rw [lo _ _ (by decide) (by decide)]; exact l2
  · rw [lo _ _ (by decide) (by decide)]; exact l6 c i hc hi
  · simp only [am_MR, List.mem_cons, List.not_mem_nil, or_false] at hq
    rcases hq with rfl | rfl | rfl | rfl | rfl | rfl | rfl | rfl | rfl | rfl | rfl | rfl | rfl | rfl
    · rw [lo _ _ (by decide) (by decide)]; exact z _ _ (by decide) (by decide) (by decide) (by decide)
    · exact s9 j hj
    all_goals rw [lo _ _ (by decide) (by decide)]; exact z _ _ (by decide) (by decide) (by decide) (by decide)
  · simp only [am_MS, List.mem_cons, List.not_mem_nil, or_false] at hq
    rcases hq with rfl | rfl | rfl | rfl | rfl | rfl | rfl <;> rw [s7] <;> rfl
  · rw [s7]; rfl
  · rw [s7]; rfl
theorem law_loop {x : am_Sc} (hL : x.1 ≤ 3072) : ∀ (d v w h : Nat) (s : Nat → Nat → Int) (σ : am_St), x.1 ≤ v + d → am_RX w h s σ → am_RM w h s σ → am_OK w h s → v ≤ 4000 → am_UL x m_La_law (fun r _ _ => r = some (Zi 1)) σ 18 [some (Zr 1000000), some (Zr 0), some (Zr 147), some (Zi (v : Int))] [] := by
  have hL2 : x.1 < 2147483648 := by omega
  intro d
  induction d with
  | zero =>
    intro v w h s σ hv hX hM hO hv4
    exact s_La_law_18 hL2 ⟨by omega, by omega, fun _ => rfl, fun z => absurd (by omega) z⟩
  | succ d ih =>
    intro v w h s σ hv hX hM hO hv4
    refine s_La_law_18 hL2 ⟨by omega, by omega, fun _ => rfl, fun z => ⟨by omega, am_rr32 _, ?_⟩⟩
    have go : ∀ (w' h' : Nat) (s' : Nat → Nat → Int), am_OK w' h' s' → ∀ σ', am_RX w' h' s' σ' → am_RM w' h' s' σ' → am_UL x m_La_law (fun r _ _ => r = some (Zi 1)) σ' 1172 [some (Zr 1000000), some (Zr 0), some (Zr 147), some (Zi (v : Int))] [] := fun w' h' s' hO' σ' hX' hM' => by
      have := ih (v + 6) w' h' s' σ' (by omega) hX' hM' hO' (by omega)
      rw [show ((v + 6 : Nat) : Int) = (v : Int) + 6 by omega] at this
      exact s_La_law_1172 hL2 this
    have hw : 0 < w := by have := hO.1; omega
    refine ⟨fun _ => go w h s hO σ hX hM, fun _ => ?_, fun _ => ?_, fun _ => ?_, fun _ => ?_, fun _ => ?_, fun _ => ?_, fun _ => ?_, fun _ => ?_, fun _ => ?_, fun _ => ?_, fun _ => ?_, fun _ => ?_, fun _ => ?_, fun _ => ?_, fun _ => ?_, fun _ => ?_, fun _ => ?_, fun _ => ?_, fun _ => ?_, fun _ => ?_, fun _ => ?_, fun _ => ?_, fun _ => ?_, fun _ => ?_, fun _ => ?_, fun _ => ?_, fun _ => ?_, fun _ => ?_, fun _ => ?_, fun _ => ?_, fun _ => ?_, fun _ => ?_⟩
    · refine s_La_law_176 hL2 ⟨by omega, by omega, ?_⟩
      by_cases q : (2 ≤ (x.2 ((v : Int) + 1).toNat).toInt ∧ (x.2 ((v : Int) + 1).toNat).toInt ≤ 4) ∧ (2 ≤ (x.2 ((v : Int) + 2).toNat).toInt ∧ (x.2 ((v : Int) + 2).toNat).toInt ≤ 4)
      · exact am_step2 (fun k => x_ground hX hM (am_rr32 _) (am_rr32 _) hw (fun z => absurd q z) (fun _ σ' a b => k σ' a b)) (fun a b k => m_ground a b (am_rr32 _) (am_rr32 _) (fun z => absurd q z) (fun _ σ' c d => k σ' c d)) (go _ _ _ (am_OK_ground hO q.1 q.2))
      · exact am_step2 (fun k => x_ground hX hM (am_rr32 _) (am_rr32 _) hw (fun _ σ' a b => k σ' a b) (fun z => absurd z q)) (fun a b k => m_ground a b (am_rr32 _) (am_rr32 _) (fun _ σ' c d => k σ' c d) (fun z => absurd z q)) (go _ _ _ hO)
    · exact s_La_law_209 hL2 ⟨by omega, am_step2 (fun k => x_ratio hX hM (am_rr32 _) k) (fun a b k => m_ratio a b (am_rr32 _) k) (go _ _ _ (am_OK_ratio hO))⟩
    · exact s_La_law_232 hL2 ⟨by omega, by omega, am_step2 (fun k => x_slow hX hM (am_rr32 _) (am_rr32 _) k) (fun a b k => m_slow a b (am_rr32 _) (am_rr32 _) k) (go _ _ _ (am_OK_slow hO))⟩
    · exact s_La_law_265 hL2 ⟨by omega, by omega, am_step2 (fun k => x_split hX hM hO (am_rr32 _) (am_rr32 _) k) (fun a b k => m_split a b hO (am_rr32 _) (am_rr32 _) k) (go _ _ _ (am_OK_split hO))⟩
    · exact s_La_law_298 hL2 ⟨by omega, by omega, am_step2 (fun k => x_join hX hM hO (am_rr32 _) (am_rr32 _) k) (fun a b k => m_join a b hO (am_rr32 _) (am_rr32 _) k) (go _ _ _ (am_OK_join hO))⟩
    · exact s_La_law_331 hL2 ⟨by omega, by omega, am_step2 (fun k => x_at hX hM hO (am_rr32 _) (am_rr32 _) k) (fun a b k => m_at a b hO (am_rr32 _) (am_rr32 _) k) (go _ _ _ hO)⟩
    · exact s_La_law_364 hL2 ⟨by omega, by omega, by omega, am_step2 (fun k => x_time hX hM hO (am_rr32 _) (am_rr32 _) (am_rr32 _) k) (fun a b k => m_time a b hO (am_rr32 _) (am_rr32 _) (am_rr32 _) k) (go _ _ _ hO)⟩
    · exact s_La_law_407 hL2 ⟨by omega, by omega, by omega, by omega, am_step2 (fun k => x_way hX hM hO (am_rr32 _) (am_rr32 _) (am_rr32 _) (am_rr32 _) k) (fun a b k => m_way a b hO (am_rr32 _) (am_rr32 _) (am_rr32 _) (am_rr32 _) k) (go _ _ _ hO)⟩
    · exact s_La_law_460 hL2 ⟨by omega, am_step2 (fun k => x_ear hX hM hO (am_rr32 _) k) (fun a b k => m_ear a b hO (am_rr32 _) k) (go _ _ _ (am_OK_ear hO))⟩
    · exact s_La_law_483 hL2 ⟨by omega, by omega, am_step2 (fun k => x_clock hX hM hO (am_rr32 _) (am_rr32 _) k) (fun a b k => m_clock a b hO (am_rr32 _) (am_rr32 _) k) (go _ _ _ (am_OK_clock hO))⟩
    · exact s_La_law_516 hL2 ⟨by omega, by omega, am_step2 (fun k => x_shake hX hM hO (am_rr32 _) (am_rr32 _) k) (fun a b k => m_shake a b hO (am_rr32 _) (am_rr32 _) k) (go _ _ _ (am_OK_shake hO))⟩
    · exact s_La_law_549 hL2 ⟨by omega, by omega, by omega, am_step2 (fun k => x_put hX hM hO (am_rr32 _) (am_rr32 _) (am_rr32 _) k) (fun a b k => m_put a b hO (am_rr32 _) (am_rr32 _) (am_rr32 _) k) (go _ _ _ (am_OK_put hO))⟩
    · exact s_La_law_592 hL2 ⟨by omega, by omega, by omega, by omega, by omega, am_step2 (fun k => x_pick hX hM hO (am_rr32 _) (am_rr32 _) (am_rr32 _) (am_rr32 _) (am_rr32 _) k) (fun a b k => m_pick a b hO (am_rr32 _) (am_rr32 _) (am_rr32 _) (am_rr32 _) (am_rr32 _) k) (go _ _ _ (am_OK_pick hO))⟩
    · exact s_La_law_655 hL2 ⟨by omega, by omega, by omega, am_step2 (fun k => x_tell hX hM hO (am_rr32 _) (am_rr32 _) (am_rr32 _) k) (fun a b k => m_tell a b hO (am_rr32 _) (am_rr32 _) (am_rr32 _) k) (go _ _ _ (am_OK_tell hO))⟩
    · exact s_La_law_698 hL2 ⟨by omega, am_step2 (fun k => x_days hX hM hO.2.2.1 (am_rr32 _) k) (fun a b k => m_days a b hO.2.2.1 (am_rr32 _) k) (go _ _ _ (am_OK_days hO))⟩
    · exact s_La_law_721 hL2 ⟨by omega, by omega, am_step2 (fun k => x_of hX hM hO (am_rr32 _) (am_rr32 _) k) (fun a b k => m_of a b hO (am_rr32 _) (am_rr32 _) k) (go _ _ _ hO)⟩
    · exact s_La_law_754 hL2 ⟨by omega, by omega, am_step2 (fun k => x_misfit hX hM hO (am_rr32 _) (am_rr32 _) k) (fun a b k => m_misfit a b hO (am_rr32 _) (am_rr32 _) k) (go _ _ _ hO)⟩
    · exact s_La_law_787 hL2 ⟨by omega, am_step2 (fun k => x_fit hX hM hO (am_rr32 _) k) (fun a b k => m_fit a b hO (am_rr32 _) k) (go _ _ _ (am_OK_fit hO))⟩
    · exact s_La_law_810 hL2 ⟨by omega, by omega, am_step2 (fun k => x_span hX hM hO (am_rr32 _) (am_rr32 _) k) (fun a b k => m_span a b hO (am_rr32 _) (am_rr32 _) k) (go _ _ _ hO)⟩
    · exact s_La_law_843 hL2 (am_step2 (fun k => x_quarrel hX hM hO k) (fun a b k => m_quarrel a b hO k) (go _ _ _ hO))
    · exact s_La_law_856 hL2 (am_step2 (fun k => x_rank hX hM hO k) (fun a b k => m_rank a b hO k) (go _ _ _ hO))
    · exact s_La_law_869 hL2 ⟨by omega, am_step2 (fun k => x_resolved hX hM hO (am_rr32 _) k) (fun a b k => m_resolved a b hO (am_rr32 _) k) (go _ _ _ hO)⟩
    · exact s_La_law_892 hL2 ⟨by omega, am_step2 (fun k => x_best hX hM hO (am_rr32 _) k) (fun a b k => m_best a b hO (am_rr32 _) k) (go _ _ _ hO)⟩
    · exact s_La_law_915 hL2 ⟨by omega, by omega, by omega, am_step2 (fun k => x_heap hX hM hO (am_rr32 _) (am_rr32 _) (am_rr32 _) k) (fun a b k => m_heap a b hO (am_rr32 _) (am_rr32 _) (am_rr32 _) k) (go _ _ _ hO)⟩
    · exact s_La_law_958 hL2 ⟨by omega, am_step2 (fun k => x_move hX hM hO (am_rr32 _) k) (fun a b k => m_move a b hO (am_rr32 _) k) (go _ _ _ (am_OK_move hO))⟩
    · exact s_La_law_981 hL2 ⟨by omega, am_step2 (fun k => x_offE hX hM hO (am_rr32 _) k) (fun a b k => m_offE a b hO (am_rr32 _) k) (go _ _ _ hO)⟩
    · exact s_La_law_1004 hL2 ⟨by omega, by omega, by omega, am_step2 (fun k => x_board hX hM hO (am_rr32 _) (am_rr32 _) (am_rr32 _) k) (fun a b k => m_board a b hO (am_rr32 _) (am_rr32 _) (am_rr32 _) k) (go _ _ _ hO)⟩
    · exact s_La_law_1047 hL2 ⟨by omega, by omega, by omega, am_step2 (fun k => x_write hX hM hO (am_rr32 _) k) (fun a b k => m_write a b hO (am_rr32 _) k) (go _ _ _ (am_OK_write hO))⟩
    · exact s_La_law_1110 hL2 (am_step2 (fun k => x_erase hX hM k) (fun a b k => m_erase a b k) (go _ _ _ (am_OK_erase hO)))
    · exact s_La_law_1123 hL2 (am_step2 (fun k => x_fault hX hM hO k) (fun a b k => m_fault b a hO (fun σ' c d => k σ' d c)) (go _ _ _ hO))
    · exact s_La_law_1136 hL2 (am_step2 (fun k => x_run hX hM hO k) (fun a b k => m_run a b hO k) (go _ _ _ (am_OK_run hO)))
    · exact s_La_law_1149 hL2 ⟨by omega, am_step2 (fun k => x_count hX hM hO (am_rr32 _) k) (fun a b k => m_count a b hO (am_rr32 _) k) (go _ _ _ hO)⟩
