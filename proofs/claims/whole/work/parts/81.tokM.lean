/-! ===== both readers come to the same token ===== -/
section AMTK
variable {x : am_Sc} {Po : Option am_AV → am_Sh → am_St → Prop} {σ : am_St} {w h w2 h2 : Nat} {s s2 : Nat → Nat → Int}
def am_n (s : Nat → Nat → Int) : Nat := (s 0 6).toNat
theorem am_n_b (hO : am_OK w h s) : s 0 6 = (am_n s : Int) ∧ am_n s ≤ 160 ∧ ∀ j, j < am_n s → 0 ≤ s 14 j ∧ s 14 j ≤ 255 := by
  have h1 := hO.2.2.2.2.2.2.2.1
  refine ⟨by unfold am_n; omega, by unfold am_n; omega, fun j hj => hO.2.2.2.2.2.2.2.2.2.2.2.2.2.2.2.2.2.2 j (by unfold am_n at hj; omega)⟩
def am_sc4 : List (Nat × Nat) := [(137, 4), (137, 5), (137, 6), (137, 7)]
/-- the class's token -/
def am_TX (s : Nat → Nat → Int) (o : Nat) (σ : am_St) : Prop := σ.1 137 4 = am_so (s 14) (am_n s) (am_ts (s 14) (am_n s) o) ∧ σ.1 137 5 = (am_ts (s 14) (am_n s) o : Int) ∧ σ.1 137 6 = (am_te (s 14) (am_n s) o : Int) ∧ σ.1 137 7 = am_nu (s 14) (am_n s) o
theorem am_TX.k {o : Nat} {σ' : am_St} (ht : am_TX s o σ) (hk : ∀ j, 4 ≤ j → j ≤ 7 → σ'.1 137 j = σ.1 137 j) : am_TX s o σ' := ⟨by rw [hk 4 (by decide) (by decide)]; exact ht.1, by rw [hk 5 (by decide) (by decide)]; exact ht.2.1, by rw [hk 6 (by decide) (by decide)]; exact ht.2.2.1, by rw [hk 7 (by decide) (by decide)]; exact ht.2.2.2⟩
theorem x_sortAt {j : Nat} (hX : am_RX w h s σ) (hO : am_OK w h s) (hj : j ≤ 160) (kk : Po (some (Zi (am_so (s 14) (am_n s) j))) am_SH σ) : am_U x m_Sc_sortAt Po σ 0 [some (Zr 137), some (Zi (j : Int)), none] [] := by
  obtain ⟨n1, n2, n3⟩ := am_n_b hO
  have e3 : σ.1 137 3 = (am_n s : Int) := by rw [hX.1.as 137 3 6 (by decide)]; exact n1
  have kk' : ∀ v : Int, am_so (s 14) (am_n s) j = v → Po (some (Zi v)) am_SH σ := fun v e => by rw [← e]; exact kk
  refine s_Sc_sortAt_0 ?_
  rw [e3, Int.toNat_natCast]
  refine ⟨by omega, by omega, fun q => ?_, fun q => kk' 0 (am_so_0.mpr (by omega))⟩
  have ej : σ.1 138 j = s 14 j := hX.1.at 138 14 160 (by decide) (by omega)
  have bj := n3 j (by omega)
  rw [ej]
  have at31 : ¬ (97 ≤ s 14 j ∧ s 14 j ≤ 122) → am_U x m_Sc_sortAt Po σ 31 [none, none, some (Zi (s 14 j))] [] := fun no => by
    have e : am_so (s 14) (am_n s) j = if 48 ≤ s 14 j ∧ s 14 j ≤ 57 then 2 else 3 := by unfold am_so; rw [if_pos (by omega), if_neg no]
    refine s_Sc_sortAt_31 ⟨by omega, fun q1 => s_Sc_sortAt_47 (s_Sc_sortAt_48 (kk' 3 ?_)), fun q1 => ⟨fun q2 => s_Sc_sortAt_47 (s_Sc_sortAt_48 (kk' 3 ?_)), fun q2 => s_Sc_sortAt_48 (kk' 2 ?_)⟩⟩
    · rw [e, if_neg (by omega)]
    · rw [e, if_neg (by omega)]
    · rw [e, if_pos (by omega)]
  exact ⟨by omega, by omega, fun q1 => at31 (by omega), fun q1 => ⟨fun q2 => at31 (by omega), fun q2 => kk' 1 (am_so_1.mpr ⟨by omega, by omega, by omega⟩)⟩⟩
theorem x_advance {o : Nat} (hX : am_RX w h s σ) (hO : am_OK w h s) (ho : o ≤ am_n s) (e6 : σ.1 137 6 = (o : Int)) (kk : ∀ σ', am_fx [] am_sc4 σ σ' → am_TX s o σ' → Po none am_SH σ') : am_U x m_Sc_advance Po σ 0 [some (Zr 137)] [] := by
  obtain ⟨n1, n2, n3⟩ := am_n_b hO
  have tb := am_ts_b (T := s 14) ho
  obtain ⟨eb1, eb2, eb3⟩ := am_te_b (T := s 14) ho
  have sb := am_so_b (T := s 14) (n := am_n s) (j := am_ts (s 14) (am_n s) o)
  have len : ∀ τ : am_St, am_fx [] am_sc4 σ τ → τ.1 137 3 = (am_n s : Int) := fun τ hf => by rw [hf 137 3 (by simp) (by decide), hX.1.as 137 3 6 (by decide)]; exact n1
  have txt : ∀ τ : am_St, am_fx [] am_sc4 σ τ → ∀ j, j < 160 → τ.1 138 j = s 14 j := fun τ hf j hj => by rw [hf 138 j (by simp) (by unfold am_sc4; simp)]; exact hX.1.at 138 14 160 (by decide) hj
  -- the number
  have at133 : ∀ τ : am_St, am_fx [] am_sc4 σ τ → τ.1 137 4 = am_so (s 14) (am_n s) (am_ts (s 14) (am_n s) o) → τ.1 137 5 = (am_ts (s 14) (am_n s) o : Int) → τ.1 137 6 = (am_te (s 14) (am_n s) o : Int) → am_U x m_Sc_advance Po τ 133 [some (Zr 137)] [] := fun τ hf t4 t5 t6 => by
    have put : ∀ v : Int, v = am_nu (s 14) (am_n s) o → am_U x m_Sc_advance Po τ 150 [none] [Zi v, Zr 137] := fun v hv => s_Sc_advance_150 (fun τ1 f1 => kk τ1 (hf.tr (am_fx.p1 f1) (by decide) (by decide)) ⟨by rw [am_stN f1 (by decide)]; exact t4, by rw [am_stN f1 (by decide)]; exact t5, by rw [am_stN f1 (by decide)]; exact t6, by rw [am_stE f1]; exact hv⟩)
    refine s_Sc_advance_133 ?_
    rw [t4]
    refine ⟨by omega, fun q => put _ ?_, fun q => ?_⟩
    · unfold am_nu; rw [if_neg (fun z => q z.1)]
    · have ps : am_ts (s 14) (am_n s) o < am_n s := (am_so_2.mp q).1
      refine s_Sc_numberHere_0 ?_
      rw [t5, t6]
      refine ⟨by omega, fun q4 => ?_, fun q4 => ⟨_, rfl, rfl, put _ ?_⟩⟩
      · have loop : ∀ (d k : Nat), k + d = am_tl0 (s 14) (am_n s) o → am_U x m_Sc_numberHere (fun ro8 so8 σ8 => ∃ z8 : Int, ro8 = some (Zi z8) ∧ so8 = am_SH ∧ am_U x m_Sc_advance Po σ8 150 [none] [Zi z8, Zr 137]) τ 22 [some (Zr 137), some (Zi (am_nv (s 14) (am_ts (s 14) (am_n s) o) k)), some (Zi ((am_ts (s 14) (am_n s) o + k : Nat) : Int))] [] := by
          intro d
          induction d with
          | zero =>
            intro k hk
            unfold am_tl0 at hk
            refine s_Sc_numberHere_22 ?_
            rw [t6]
            refine ⟨by omega, by omega, fun _ => ⟨_, rfl, rfl, put _ ?_⟩, fun z => absurd (by omega) z⟩
            unfold am_nu
            rw [if_pos ⟨q, by unfold am_tl0; omega⟩, show am_tl0 (s 14) (am_n s) o = k by unfold am_tl0; omega]
          | succ d ih =>
            intro k hk
            have hk' : k + (d + 1) = am_te (s 14) (am_n s) o - am_ts (s 14) (am_n s) o := hk
            refine s_Sc_numberHere_22 ?_
            rw [t6, Int.toNat_natCast, txt τ hf _ (by omega)]
            refine ⟨by omega, by omega, fun z => absurd z (by omega), fun _ => ⟨by omega, ?_⟩⟩
            have := ih (k + 1) (by omega)
            rw [show ((am_ts (s 14) (am_n s) o + (k + 1) : Nat) : Int) = ((am_ts (s 14) (am_n s) o + k : Nat) : Int) + 1 by omega] at this
            exact this
        exact loop _ 0 (Nat.zero_add _)
      · unfold am_nu am_tl0; rw [if_neg (by omega)]
  -- the end of the run
  have at86 : ∀ (d e : Nat) (τ : am_St), am_fx [] am_sc4 σ τ → τ.1 137 4 = am_so (s 14) (am_n s) (am_ts (s 14) (am_n s) o) → τ.1 137 5 = (am_ts (s 14) (am_n s) o : Int) → τ.1 137 6 = (e : Int) → e + d = am_n s → (am_so (s 14) (am_n s) (am_ts (s 14) (am_n s) o) = 3 → e = am_te (s 14) (am_n s) o) → (am_so (s 14) (am_n s) (am_ts (s 14) (am_n s) o) ≠ 3 → am_ru (s 14) (am_n s) (am_so (s 14) (am_n s) (am_ts (s 14) (am_n s) o)) d e = am_te (s 14) (am_n s) o) → am_U x m_Sc_advance Po τ 86 [some (Zr 137)] [] := by
    intro d
    induction d with
    | zero =>
      intro e τ hf t4 t5 t6 he h3 hr
      have ee : e = am_te (s 14) (am_n s) o := by
        by_cases q : am_so (s 14) (am_n s) (am_ts (s 14) (am_n s) o) = 3
        · exact h3 q
        · exact hr q
      have fin := at133 τ hf t4 t5 (by rw [t6, ee])
      refine s_Sc_advance_86 ?_
      rw [t4, t6, len τ hf]
      exact ⟨by omega, fun _ => fin, fun _ => ⟨by omega, by omega, fun _ => fin, fun z => absurd (by omega) z⟩⟩
    | succ d ih =>
      intro e τ hf t4 t5 t6 he h3 hr
      refine s_Sc_advance_86 ?_
      rw [t4, t6, len τ hf]
      refine ⟨by omega, fun q => at133 τ hf t4 t5 (by rw [t6, h3 q]), fun q => ⟨by omega, by omega, fun z => absurd z (by omega), fun _ => ?_⟩⟩
      have hXt : am_RX w h s τ := hX.fx hf (by decide)
      have r1 := hr q
      have er : am_ru (s 14) (am_n s) (am_so (s 14) (am_n s) (am_ts (s 14) (am_n s) o)) (d + 1) e = if am_so (s 14) (am_n s) e = am_so (s 14) (am_n s) (am_ts (s 14) (am_n s) o) then am_ru (s 14) (am_n s) (am_so (s 14) (am_n s) (am_ts (s 14) (am_n s) o)) d (e + 1) else e := rfl
      have sb2 := am_so_b (T := s 14) (n := am_n s) (j := e)
      refine x_sortAt hXt hO (by omega) ⟨_, rfl, rfl, by omega, ?_⟩
      rw [t4]
      refine ⟨by omega, fun q2 => at133 τ hf t4 t5 ?_, fun q2 τ1 f1 => ?_⟩
      · rw [er, if_neg q2] at r1; rw [t6, r1]
      · rw [er, if_pos q2] at r1
        rw [t6] at f1
        exact ih (e + 1) τ1 (hf.tr (am_fx.p1 f1) (by decide) (by decide)) (by rw [am_stN f1 (by decide)]; exact t4) (by rw [am_stN f1 (by decide)]; exact t5) (by rw [am_stE f1]; omega) (by omega) (fun z => absurd z q) (fun _ => r1)
  have at46 : ∀ τ : am_St, am_fx [] am_sc4 σ τ → τ.1 137 5 = (am_ts (s 14) (am_n s) o : Int) → am_U x m_Sc_advance Po τ 46 [some (Zr 137)] [] := fun τ hf t5 => by
    have hXt : am_RX w h s τ := hX.fx hf (by decide)
    refine s_Sc_advance_46 ?_
    rw [t5]
    refine x_sortAt hXt hO (by omega) ⟨_, rfl, rfl, fun τ1 f1 => ?_⟩
    have hf1 : am_fx [] am_sc4 σ τ1 := hf.tr (am_fx.p1 f1) (by decide) (by decide)
    have t51 : τ1.1 137 5 = (am_ts (s 14) (am_n s) o : Int) := by rw [am_stN f1 (by decide)]; exact t5
    rw [t51, len τ1 hf1]
    refine ⟨by omega, by omega, fun q => s_Sc_advance_83 (fun τ2 f2 => ?_), fun q => s_Sc_advance_83 (fun τ2 f2 => ?_)⟩
    · have s0 : am_so (s 14) (am_n s) (am_ts (s 14) (am_n s) o) = 0 := am_so_0.mpr (by omega)
      refine at86 0 (am_ts (s 14) (am_n s) o) τ2 (hf1.tr (am_fx.p1 f2) (by decide) (by decide)) (by rw [am_stN f2 (by decide)]; exact am_stE f1) (by rw [am_stN f2 (by decide)]; exact t51) (am_stE f2) (by omega) (fun z => by omega) (fun _ => ?_)
      show am_ts (s 14) (am_n s) o = am_te (s 14) (am_n s) o
      omega
    · refine at86 (am_n s - (am_ts (s 14) (am_n s) o + 1)) (am_ts (s 14) (am_n s) o + 1) τ2 (hf1.tr (am_fx.p1 f2) (by decide) (by decide)) (by rw [am_stN f2 (by decide)]; exact am_stE f1) (by rw [am_stN f2 (by decide)]; exact t51) (by rw [am_stE f2]; omega) (by omega) (fun z => ?_) (fun z => ?_)
      · unfold am_te; rw [if_pos (by omega), if_pos z]
      · unfold am_te; rw [if_pos (by omega), if_neg z]
  have at8 : ∀ (d p : Nat) (τ : am_St), p + d = am_n s → am_fx [] am_sc4 σ τ → τ.1 137 5 = (p : Int) → am_ts (s 14) (am_n s) p = am_ts (s 14) (am_n s) o → am_U x m_Sc_advance Po τ 8 [some (Zr 137)] [] := by
    intro d
    induction d with
    | zero =>
      intro p τ hp hf t5 hts
      refine s_Sc_advance_8 ?_
      rw [t5, len τ hf]
      refine ⟨by omega, by omega, fun _ => at46 τ hf ?_, fun q => absurd (by omega) q⟩
      rw [t5, ← hts, am_ts_e (by omega)]
    | succ d ih =>
      intro p τ hp hf t5 hts
      have bj := n3 p (by omega)
      rw [am_ts_s (show p < am_n s by omega)] at hts
      refine s_Sc_advance_8 ?_
      rw [t5, len τ hf, Int.toNat_natCast, txt τ hf p (by omega)]
      refine ⟨by omega, by omega, fun q => absurd q (by omega), fun _ => ⟨by omega, by omega, fun q => at46 τ hf ?_, fun q τ1 f1 => ?_⟩⟩
      · rw [if_neg q] at hts; rw [t5, hts]
      · rw [if_pos q] at hts
        exact ih (p + 1) τ1 (by omega) (hf.tr (am_fx.p1 f1) (by decide) (by decide)) (by rw [am_stE f1]; omega) hts
  refine s_Sc_advance_0 (fun τ f => at8 (am_n s - o) o τ (by omega) ((am_fx.p1 f).tr (am_fx.rf (ks := []) (ps := [])) (by decide) (by decide)) (by rw [am_stE f]; exact e6) rfl)
theorem x_isWord {o i : Nat} (hX : am_RX w h s σ) (hO : am_OK w h s) (ho : o ≤ am_n s) (hT : am_TX s o σ) (hi : i < 7) (k1 : am_wdP (s 14) (am_n s) o i → Po (some (Zi 1)) am_SH σ) (k0 : ¬ am_wdP (s 14) (am_n s) o i → Po (some (Zi 0)) am_SH σ) : am_U x m_Sc_isWord Po σ 0 [some (Zr 137), some (Zr (1000001 + i)), none] [] := by
  obtain ⟨n1, n2, n3⟩ := am_n_b hO
  obtain ⟨eb1, eb2, eb3⟩ := am_te_b (T := s 14) ho
  have sb := am_so_b (T := s 14) (n := am_n s) (j := am_ts (s 14) (am_n s) o)
  have lb := am_len_b i hi
  have e0 : am_tl0 (s 14) (am_n s) o = am_te (s 14) (am_n s) o - am_ts (s 14) (am_n s) o := rfl
  refine s_Sc_isWord_0 hi ?_
  rw [hT.1, hT.2.1, hT.2.2.1]
  refine ⟨by omega, fun q => s_Sc_isWord_24 (k0 (fun z => q z.1)), fun q => c_strlen hi ⟨_, rfl, rfl, by omega, by omega, fun q2 => ?_, fun q2 => s_Sc_isWord_24 (k0 (fun z => q2 (by have := z.2.1; omega)))⟩⟩
  have loop : ∀ (d j : Nat), j + d = am_len.getD i 0 → (∀ j', j' < j → s 14 (am_ts (s 14) (am_n s) o + j') = am_chr i j') → am_U x m_Sc_isWord Po σ 28 [some (Zr 137), some (Zr (1000001 + i)), some (Zi (j : Int))] [] := by
    intro d
    induction d with
    | zero =>
      intro j hj h0
      exact s_Sc_isWord_28 hi (c_strlen hi ⟨_, rfl, rfl, by omega, by omega, fun _ => k1 ⟨q, by omega, fun j' hj' => h0 j' (by omega)⟩, fun z => absurd (by omega) z⟩)
    | succ d ih =>
      intro j hj h0
      have lt : am_ts (s 14) (am_n s) o + j < am_n s := by omega
      have bj := n3 _ lt
      have cb := am_chr_b i hi j (by omega)
      refine s_Sc_isWord_28 hi (c_strlen hi ⟨_, rfl, rfl, by omega, by omega, fun z => absurd z (by omega), fun _ => ?_⟩)
      rw [hT.2.1, show ((am_ts (s 14) (am_n s) o : Int) + (j : Int)).toNat = am_ts (s 14) (am_n s) o + j by omega, hX.1.at 138 14 160 (by decide) (by omega)]
      refine ⟨by omega, c_charAt hi (by omega) ⟨_, rfl, rfl, by omega, by omega, fun q3 => ?_, fun q3 => k0 (fun z => q3 (z.2.2 j (by omega)))⟩⟩
      have := ih (j + 1) (by omega) (fun j' hj' => by
        by_cases e : j' = j
        · rw [e]; exact q3
        · exact h0 j' (by omega))
      rw [show ((j + 1 : Nat) : Int) = (j : Int) + 1 by omega] at this
      exact this
  exact loop _ 0 (Nat.zero_add _) (fun j' hj' => absurd hj' (Nat.not_lt_zero j'))
/-! the model's -/
def am_mc4 : List (Nat × Nat) := [(147, 33), (147, 34), (147, 36), (147, 37)]
def am_TM (s : Nat → Nat → Int) (o : Nat) (σ : am_St) : Prop := σ.1 147 34 = (am_ts (s 14) (am_n s) o : Int) ∧ σ.1 147 33 = (am_te (s 14) (am_n s) o : Int) ∧ σ.2 147 35 = am_tok (s 14) (am_n s) o ∧ (am_tok (s 14) (am_n s) o = -1 → σ.1 147 37 = am_nu (s 14) (am_n s) o)
theorem am_te_run {o : Nat} (hs3 : am_so (s 14) (am_n s) (am_ts (s 14) (am_n s) o) ≠ 3) (lt : am_ts (s 14) (am_n s) o < am_n s) : am_te (s 14) (am_n s) o = am_ru (s 14) (am_n s) (am_so (s 14) (am_n s) (am_ts (s 14) (am_n s) o)) (am_n s - am_ts (s 14) (am_n s) o) (am_ts (s 14) (am_n s) o) := by
  unfold am_te
  rw [if_pos lt, if_neg hs3, show am_n s - am_ts (s 14) (am_n s) o = (am_n s - (am_ts (s 14) (am_n s) o + 1)) + 1 by omega]
  show _ = if am_so (s 14) (am_n s) (am_ts (s 14) (am_n s) o) = am_so (s 14) (am_n s) (am_ts (s 14) (am_n s) o) then _ else _
  rw [if_pos rfl]
theorem m_nextToken {o : Nat} (hM : am_RM w h s σ) (hO : am_OK w h s) (ho : o ≤ am_n s) (e33 : σ.1 147 33 = (o : Int)) (kk : ∀ σ', am_fx [] am_mc4 σ σ' → am_TM s o σ' → Po none am_SH σ') : am_U x m_Mo_nextToken Po σ 0 [some (Zr 147)] [] := by
  obtain ⟨n1, n2, n3⟩ := am_n_b hO
  have tb := am_ts_b (T := s 14) ho
  obtain ⟨eb1, eb2, eb3⟩ := am_te_b (T := s 14) ho
  have sb := am_so_b (T := s 14) (n := am_n s) (j := am_ts (s 14) (am_n s) o)
  have e0 : am_tl0 (s 14) (am_n s) o = am_te (s 14) (am_n s) o - am_ts (s 14) (am_n s) o := rfl
  have len : ∀ τ : am_St, am_fx [] am_mc4 σ τ → τ.1 147 31 = (am_n s : Int) := fun τ hf => by rw [hf 147 31 (by simp) (by decide), hM.1.as 147 31 6 (by decide)]; exact n1
  have txt : ∀ τ : am_St, am_fx [] am_mc4 σ τ → ∀ j, j < 160 → τ.1 171 j = s 14 j := fun τ hf j hj => by rw [hf 171 j (by simp) (by unfold am_mc4; simp)]; exact hM.1.at 171 14 160 (by decide) hj
  have upl : ∀ {τ τ1 : am_St} {v : Int}, τ1 = (τ.1, am_up τ.2 147 35 v) → am_fx [] am_mc4 σ τ → am_fx [] am_mc4 σ τ1 ∧ τ1.1 = τ.1 ∧ τ1.2 147 35 = v := fun {τ τ1 v} f hf => by
    subst f
    refine ⟨hf, rfl, ?_⟩
    show am_up τ.2 147 35 v 147 35 = v
    rw [am_up_row]; exact if_pos rfl
  -- a token is done
  have fin : ∀ τ : am_St, am_fx [] am_mc4 σ τ → am_TM s o τ → am_U x m_Mo_nextToken Po τ 394 [none] [] := fun τ hf ht => s_Mo_nextToken_394 (kk τ hf ht)
  -- words
  have words : am_so (s 14) (am_n s) (am_ts (s 14) (am_n s) o) = 1 → ∀ (d e : Nat) (τ : am_St), am_fx [] am_mc4 σ τ → e + d = am_n s → am_ts (s 14) (am_n s) o ≤ e → τ.1 147 34 = (am_ts (s 14) (am_n s) o : Int) → τ.1 147 33 = (e : Int) → am_ru (s 14) (am_n s) 1 d e = am_te (s 14) (am_n s) o → (e - am_ts (s 14) (am_n s) o ≤ 9 → τ.2 147 35 = am_cd (s 14) (am_ts (s 14) (am_n s) o) (e - am_ts (s 14) (am_n s) o)) → am_U x m_Mo_nextToken Po τ 101 [some (Zr 147)] [] := by
    intro s1 d
    have tokE : am_tok (s 14) (am_n s) o = if am_tl0 (s 14) (am_n s) o ≤ 9 then am_cd (s 14) (am_ts (s 14) (am_n s) o) (am_tl0 (s 14) (am_n s) o) else -4 := by unfold am_tok; rw [if_neg (by omega), if_pos s1]
    have at191 : ∀ (τ : am_St), am_fx [] am_mc4 σ τ → τ.1 147 34 = (am_ts (s 14) (am_n s) o : Int) → τ.1 147 33 = (am_te (s 14) (am_n s) o : Int) → (am_tl0 (s 14) (am_n s) o ≤ 9 → τ.2 147 35 = am_cd (s 14) (am_ts (s 14) (am_n s) o) (am_tl0 (s 14) (am_n s) o)) → am_U x m_Mo_nextToken Po τ 191 [some (Zr 147)] [] := fun τ hf t34 t33 t35 => by
      have put : ∀ v : Int, v = am_tok (s 14) (am_n s) o → am_U x m_Mo_nextToken Po τ 216 [none] [Zl v, Zr 147] := fun v hv => s_Mo_nextToken_216 (fun τ1 f1 => by
        obtain ⟨g1, g2, g3⟩ := upl f1 hf
        have nn : ¬ am_tok (s 14) (am_n s) o = -1 := fun z => by
          have := (am_nu_b (T := s 14) ho).2.2.mp ((am_tok_1 ho).mp z)
          omega
        exact fin τ1 g1 ⟨by rw [g2]; exact t34, by rw [g2]; exact t33, by rw [g3]; exact hv, fun z => absurd z nn⟩)
      refine s_Mo_nextToken_191 ?_
      rw [t33, t34]
      refine ⟨by omega, fun q => ?_, fun q => put _ ?_⟩
      · rw [t35 (by omega)]; exact put _ (by rw [tokE, if_pos (by omega)])
      · rw [tokE, if_neg (by omega)]
    induction d with
    | zero =>
      intro e τ hf he hle t34 t33 hr t35
      have hr' : e = am_te (s 14) (am_n s) o := hr
      refine s_Mo_nextToken_101 ?_
      rw [t33, len τ hf]
      exact ⟨by omega, by omega, fun _ => at191 τ hf t34 (by rw [t33, hr']) (fun z => by rw [t35 (by omega), e0, hr']), fun z => absurd (by omega) z⟩
    | succ d ih =>
      intro e τ hf he hle t34 t33 hr t35
      have er : am_ru (s 14) (am_n s) 1 (d + 1) e = if am_so (s 14) (am_n s) e = 1 then am_ru (s 14) (am_n s) 1 d (e + 1) else e := rfl
      have bj := n3 e (by omega)
      refine s_Mo_nextToken_101 ?_
      rw [t33, len τ hf, Int.toNat_natCast, txt τ hf e (by omega)]
      refine ⟨by omega, by omega, fun z => absurd z (by omega), fun _ => ⟨by omega, c_in (by omega) (by decide) (by decide) (fun q => br1e ?_) (fun q => br0e (at191 τ hf t34 ?_ (fun z => ?_)))⟩⟩
      · have q1 : am_so (s 14) (am_n s) e = 1 := am_so_1.mpr ⟨by omega, q⟩
        rw [er, if_pos q1] at hr
        have go : ∀ v : Int, (e + 1 - am_ts (s 14) (am_n s) o ≤ 9 → v = am_cd (s 14) (am_ts (s 14) (am_n s) o) (e + 1 - am_ts (s 14) (am_n s) o)) → am_U x m_Mo_nextToken Po τ 175 [some (Zr 147)] [Zl v, Zr 147] := fun v hv => s_Mo_nextToken_175 (fun τ1 f1 τ2 f2 => by
          obtain ⟨g1, g2, g3⟩ := upl f1 hf
          rw [g2, t33] at f2
          refine ih (e + 1) τ2 (fun k j a1 a2 => ?_) (by omega) (by omega) ?_ ?_ hr (fun z => ?_)
          · rw [f2]
            show am_up τ.1 147 33 _ k j = _
            have f0 : am_fx [] am_mc4 τ (am_up τ.1 147 33 ((e : Int) + 1), τ.2) := am_fx.upp.tr (am_fx.rf (ks := []) (ps := [])) (by decide) (by decide)
            have := f0 k j a1 a2
            rw [show am_up τ.1 147 33 ((e : Int) + 1) k j = τ.1 k j from this]; exact hf k j a1 a2
          · rw [f2]; show am_up τ.1 147 33 ((e : Int) + 1) 147 34 = _; rw [am_up_row]; exact t34
          · rw [f2]; show am_up τ.1 147 33 ((e : Int) + 1) 147 33 = _; rw [am_up_row]; show (e : Int) + 1 = _; omega
          · rw [f2]; show τ1.2 147 35 = _; rw [g3]; exact hv z)
        rw [t33, t34, Int.toNat_natCast, txt τ hf e (by omega), am_i2l_id (by omega)]
        refine ⟨by omega, fun q9 => go _ (fun z => absurd z (by omega)), fun q9 => ⟨by omega, go _ (fun _ => ?_)⟩⟩
        rw [t35 (by omega), show e + 1 - am_ts (s 14) (am_n s) o = (e - am_ts (s 14) (am_n s) o) + 1 by omega]
        show _ = 27 * am_cd (s 14) (am_ts (s 14) (am_n s) o) (e - am_ts (s 14) (am_n s) o) + s 14 (am_ts (s 14) (am_n s) o + (e - am_ts (s 14) (am_n s) o)) - 96
        rw [show am_ts (s 14) (am_n s) o + (e - am_ts (s 14) (am_n s) o) = e by omega]
      · rw [er, if_neg (fun z => q (am_so_1.mp z).2)] at hr
        rw [t33, hr]
      · rw [er, if_neg (fun z => q (am_so_1.mp z).2)] at hr
        rw [t35 (by omega), e0, ← hr]
  -- numbers
  have numbers : am_so (s 14) (am_n s) (am_ts (s 14) (am_n s) o) = 2 → ∀ (d e : Nat) (τ : am_St), am_fx [] am_mc4 σ τ → e + d = am_n s → am_ts (s 14) (am_n s) o ≤ e → τ.1 147 34 = (am_ts (s 14) (am_n s) o : Int) → τ.1 147 33 = (e : Int) → τ.1 147 36 = ((e - am_ts (s 14) (am_n s) o : Nat) : Int) → am_ru (s 14) (am_n s) 2 d e = am_te (s 14) (am_n s) o → (e - am_ts (s 14) (am_n s) o ≤ 4 → τ.1 147 37 = am_nv (s 14) (am_ts (s 14) (am_n s) o) (e - am_ts (s 14) (am_n s) o)) → am_U x m_Mo_nextToken Po τ 241 [some (Zr 147)] [] := by
    intro s2' d
    have tokE : am_tok (s 14) (am_n s) o = if am_tl0 (s 14) (am_n s) o ≤ 4 then -1 else -4 := by unfold am_tok; rw [if_neg (by omega), if_neg (by omega), if_pos s2']
    have at333 : ∀ (τ : am_St), am_fx [] am_mc4 σ τ → τ.1 147 34 = (am_ts (s 14) (am_n s) o : Int) → τ.1 147 33 = (am_te (s 14) (am_n s) o : Int) → τ.1 147 36 = ((am_tl0 (s 14) (am_n s) o : Nat) : Int) → (am_tl0 (s 14) (am_n s) o ≤ 4 → τ.1 147 37 = am_nv (s 14) (am_ts (s 14) (am_n s) o) (am_tl0 (s 14) (am_n s) o)) → am_U x m_Mo_nextToken Po τ 333 [some (Zr 147)] [] := fun τ hf t34 t33 t36 t37 => by
      have put : ∀ v : Int, v = am_tok (s 14) (am_n s) o → am_U x m_Mo_nextToken Po τ 351 [none] [Zl v, Zr 147] := fun v hv => s_Mo_nextToken_351 (fun τ1 f1 => by
        obtain ⟨g1, g2, g3⟩ := upl f1 hf
        refine fin τ1 g1 ⟨by rw [g2]; exact t34, by rw [g2]; exact t33, by rw [g3]; exact hv, fun z => ?_⟩
        have l4 : am_tl0 (s 14) (am_n s) o ≤ 4 := by
          rw [tokE] at z
          by_cases q : am_tl0 (s 14) (am_n s) o ≤ 4
          · exact q
          · rw [if_neg q] at z; omega
        rw [g2, t37 l4]; unfold am_nu; rw [if_pos ⟨s2', l4⟩])
      refine s_Mo_nextToken_333 ?_
      rw [t36]
      exact ⟨by omega, fun q => put _ (by rw [tokE, if_pos (by omega)]), fun q => put _ (by rw [tokE, if_neg (by omega)])⟩
    induction d with
    | zero =>
      intro e τ hf he hle t34 t33 t36 hr t37
      have hr' : e = am_te (s 14) (am_n s) o := hr
      refine s_Mo_nextToken_241 ?_
      rw [t33, len τ hf]
      exact ⟨by omega, by omega, fun _ => at333 τ hf t34 (by rw [t33, hr']) (by rw [t36, e0, hr']) (fun z => by rw [t37 (by omega), e0, hr']), fun z => absurd (by omega) z⟩
    | succ d ih =>
      intro e τ hf he hle t34 t33 t36 hr t37
      have er : am_ru (s 14) (am_n s) 2 (d + 1) e = if am_so (s 14) (am_n s) e = 2 then am_ru (s 14) (am_n s) 2 d (e + 1) else e := rfl
      have bj := n3 e (by omega)
      refine s_Mo_nextToken_241 ?_
      rw [t33, len τ hf, Int.toNat_natCast, txt τ hf e (by omega)]
      refine ⟨by omega, by omega, fun z => absurd z (by omega), fun _ => ⟨by omega, c_in (by omega) (by decide) (by decide) (fun q => br1e ?_) (fun q => br0e (at333 τ hf t34 ?_ ?_ (fun z => ?_)))⟩⟩
      · have q1 : am_so (s 14) (am_n s) e = 2 := am_so_2.mpr ⟨by omega, q⟩
        rw [er, if_pos q1] at hr
        have go : ∀ v : Int, (e + 1 - am_ts (s 14) (am_n s) o ≤ 4 → v = am_nv (s 14) (am_ts (s 14) (am_n s) o) (e + 1 - am_ts (s 14) (am_n s) o)) → am_U x m_Mo_nextToken Po τ 307 [some (Zr 147)] [Zi v, Zr 147] := fun v hv => s_Mo_nextToken_307 (fun τ1 f1 τ2 f2 τ3 f3 => by
          have a36 : τ1.1 147 36 = ((e - am_ts (s 14) (am_n s) o : Nat) : Int) := by rw [am_stN f1 (by decide)]; exact t36
          rw [a36] at f2
          have a33 : τ2.1 147 33 = (e : Int) := by rw [am_stN f2 (by decide), am_stN f1 (by decide)]; exact t33
          rw [a33] at f3
          refine ih (e + 1) τ3 (((hf.tr (am_fx.p1 f1) (ks2 := []) (ps2 := am_mc4) (by decide) (by decide)).tr (am_fx.p1 f2) (ks2 := []) (ps2 := am_mc4) (by decide) (by decide)).tr (am_fx.p1 f3) (by decide) (by decide)) (by omega) (by omega) ?_ ?_ ?_ hr (fun z => ?_)
          · rw [am_stN f3 (by decide), am_stN f2 (by decide), am_stN f1 (by decide)]; exact t34
          · rw [am_stE f3]; omega
          · rw [am_stN f3 (by decide), am_stE f2]; omega
          · rw [am_stN f3 (by decide), am_stN f2 (by decide), am_stE f1]; exact hv z)
        rw [t36, t33, Int.toNat_natCast, txt τ hf e (by omega)]
        refine ⟨by omega, fun q9 => go _ (fun z => absurd z (by omega)), fun q9 => ⟨by omega, go _ (fun _ => ?_)⟩⟩
        rw [t37 (by omega), show e + 1 - am_ts (s 14) (am_n s) o = (e - am_ts (s 14) (am_n s) o) + 1 by omega]
        show _ = 10 * am_nv (s 14) (am_ts (s 14) (am_n s) o) (e - am_ts (s 14) (am_n s) o) + s 14 (am_ts (s 14) (am_n s) o + (e - am_ts (s 14) (am_n s) o)) - 48
        rw [show am_ts (s 14) (am_n s) o + (e - am_ts (s 14) (am_n s) o) = e by omega]
      · rw [er, if_neg (fun z => q (am_so_2.mp z).2)] at hr
        rw [t33, hr]
      · rw [er, if_neg (fun z => q (am_so_2.mp z).2)] at hr
        rw [t36, e0, ← hr]
      · rw [er, if_neg (fun z => q (am_so_2.mp z).2)] at hr
        rw [t37 (by omega), e0, ← hr]
  -- the token begins
  have at38 : ∀ τ : am_St, am_fx [] am_mc4 σ τ → τ.1 147 33 = (am_ts (s 14) (am_n s) o : Int) → am_U x m_Mo_nextToken Po τ 38 [some (Zr 147)] [] := fun τ hf t33 => by
    refine s_Mo_nextToken_38 (fun τ2 f2 τ3 f3 τ4 f4 => ?_)
    rw [t33] at f2
    have hf4 : am_fx [] am_mc4 σ τ4 := ((hf.tr (am_fx.p1 f2) (ks2 := []) (ps2 := am_mc4) (by decide) (by decide)).tr (am_fx.p1 f3) (ks2 := []) (ps2 := am_mc4) (by decide) (by decide)).tr (am_fx.p1 f4) (by decide) (by decide)
    have g33 : τ4.1 147 33 = (am_ts (s 14) (am_n s) o : Int) := by rw [am_stN f4 (by decide), am_stN f3 (by decide), am_stN f2 (by decide)]; exact t33
    have g34 : τ4.1 147 34 = (am_ts (s 14) (am_n s) o : Int) := by rw [am_stN f4 (by decide), am_stN f3 (by decide)]; exact am_stE f2
    have g36 : τ4.1 147 36 = 0 := by rw [am_stN f4 (by decide)]; exact am_stE f3
    have g37 : τ4.1 147 37 = 0 := am_stE f4
    rw [g33, len τ4 hf4, Int.toNat_natCast]
    refine ⟨by omega, by omega, fun q => ?_, fun q τ5 f5 => ?_⟩
    · have lt : am_ts (s 14) (am_n s) o < am_n s := by omega
      have bj := n3 _ lt
      rw [txt τ4 hf4 _ (by omega)]
      refine ⟨by omega, c_in (by omega) (by decide) (by decide) (fun q1 => br1e ?_) (fun q1 => br0e ?_)⟩
      · intro τ7 f7
        obtain ⟨a1, a2, a3⟩ := upl f7 hf4
        have s1 : am_so (s 14) (am_n s) (am_ts (s 14) (am_n s) o) = 1 := am_so_1.mpr ⟨lt, q1⟩
        refine words s1 (am_n s - am_ts (s 14) (am_n s) o) (am_ts (s 14) (am_n s) o) τ7 a1 (by omega) (Nat.le_refl _) (by rw [a2]; exact g34) (by rw [a2]; exact g33) ?_ (fun _ => ?_)
        · have := am_te_run (s := s) (o := o) (by omega) lt
          rw [s1] at this; exact this.symm
        · rw [a3, Nat.sub_self]; rfl
      · rw [g33, Int.toNat_natCast, txt τ4 hf4 _ (by omega)]
        refine ⟨by omega, c_in (by omega) (by decide) (by decide) (fun q2 => br1e ?_) (fun q2 => br0e ?_)⟩
        · have s2' : am_so (s 14) (am_n s) (am_ts (s 14) (am_n s) o) = 2 := am_so_2.mpr ⟨lt, q2⟩
          refine numbers s2' (am_n s - am_ts (s 14) (am_n s) o) (am_ts (s 14) (am_n s) o) τ4 hf4 (by omega) (Nat.le_refl _) g34 g33 (by rw [g36, Nat.sub_self]; rfl) ?_ (fun _ => by rw [g37, Nat.sub_self]; rfl)
          have := am_te_run (s := s) (o := o) (by omega) lt
          rw [s2'] at this; exact this.symm
        · have s3 : am_so (s 14) (am_n s) (am_ts (s 14) (am_n s) o) = 3 := by unfold am_so; rw [if_pos lt, if_neg q1, if_neg q2]
          have te3 : am_te (s 14) (am_n s) o = am_ts (s 14) (am_n s) o + 1 := by unfold am_te; rw [if_pos lt, if_pos s3]
          have tokE : am_tok (s 14) (am_n s) o = if s 14 (am_ts (s 14) (am_n s) o) = 59 then -3 else -4 := by unfold am_tok; rw [if_neg (by omega), if_neg (by omega), if_neg (by omega)]
          have go : ∀ v : Int, v = am_tok (s 14) (am_n s) o → ¬ v = -1 → am_U x m_Mo_nextToken Po τ4 381 [some (Zr 147)] [Zl v, Zr 147] := fun v hv nn => s_Mo_nextToken_381 (fun τ5 f5 τ6 f6 => by
            obtain ⟨a1, a2, a3⟩ := upl f5 hf4
            rw [a2, g33] at f6
            have f6' : τ6.1 = am_up τ4.1 147 33 ((am_ts (s 14) (am_n s) o : Int) + 1) := by rw [f6]
            have f0 : am_fx [] am_mc4 τ4 (am_up τ4.1 147 33 ((am_ts (s 14) (am_n s) o : Int) + 1), τ4.2) := am_fx.upp.tr (am_fx.rf (ks := []) (ps := [])) (by decide) (by decide)
            refine fin τ6 (fun k j b1 b2 => ?_) ⟨?_, ?_, ?_, fun z => absurd (hv.trans z) nn⟩
            · have := f0 k j b1 b2
              rw [f6', show am_up τ4.1 147 33 ((am_ts (s 14) (am_n s) o : Int) + 1) k j = τ4.1 k j from this]; exact hf4 k j b1 b2
            · rw [f6', am_up_row]; exact g34
            · rw [f6', am_up_row, te3]; show (am_ts (s 14) (am_n s) o : Int) + 1 = _; omega
            · rw [f6]; show τ5.2 147 35 = _; rw [a3]; exact hv)
          rw [g33, Int.toNat_natCast, txt τ4 hf4 _ (by omega)]
          refine ⟨by omega, by omega, fun q5 => go _ ?_ (by decide), fun q5 => go _ ?_ (by decide)⟩
          · rw [tokE, if_neg q5]
          · rw [tokE, if_pos q5]
    · obtain ⟨a1, a2, a3⟩ := upl f5 hf4
      have s0 : am_so (s 14) (am_n s) (am_ts (s 14) (am_n s) o) = 0 := am_so_0.mpr (by omega)
      have tokE : am_tok (s 14) (am_n s) o = -2 := by unfold am_tok; rw [if_pos s0]
      exact fin τ5 a1 ⟨by rw [a2]; exact g34, by rw [a2, g33]; omega, by rw [a3, tokE], fun z => by omega⟩
  have at0 : ∀ (d p : Nat) (τ : am_St), p + d = am_n s → am_fx [] am_mc4 σ τ → τ.1 147 33 = (p : Int) → am_ts (s 14) (am_n s) p = am_ts (s 14) (am_n s) o → am_U x m_Mo_nextToken Po τ 0 [some (Zr 147)] [] := by
    intro d
    induction d with
    | zero =>
      intro p τ hp hf t33 hts
      refine s_Mo_nextToken_0 ?_
      rw [t33, len τ hf]
      refine ⟨by omega, by omega, fun _ => at38 τ hf ?_, fun q => absurd (by omega) q⟩
      rw [t33, ← hts, am_ts_e (by omega)]
    | succ d ih =>
      intro p τ hp hf t33 hts
      have bj := n3 p (by omega)
      rw [am_ts_s (show p < am_n s by omega)] at hts
      refine s_Mo_nextToken_0 ?_
      rw [t33, len τ hf, Int.toNat_natCast, txt τ hf p (by omega)]
      refine ⟨by omega, by omega, fun q => absurd q (by omega), fun _ => ⟨by omega, by omega, fun q => at38 τ hf ?_, fun q τ1 f1 => ?_⟩⟩
      · rw [if_neg q] at hts; rw [t33, hts]
      · rw [if_pos q] at hts
        exact ih (p + 1) τ1 (by omega) (hf.tr (am_fx.p1 f1) (by decide) (by decide)) (by rw [am_stE f1]; omega) hts
  exact at0 (am_n s - o) o σ (by omega) am_fx.rf e33 rfl
end AMTK
