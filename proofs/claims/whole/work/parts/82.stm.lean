/-! ===== statements: what they are ===== -/
def am_tE (s : Nat → Nat → Int) (o : Nat) : Nat := am_te (s 14) (am_n s) o
def am_nU (s : Nat → Nat → Int) (o : Nat) : Int := am_nu (s 14) (am_n s) o
noncomputable def am_wv (s : Nat → Nat → Int) (o i : Nat) : Bool := @decide (am_wdP (s 14) (am_n s) o i) (Classical.propDecidable _)
theorem am_wv_t {s : Nat → Nat → Int} {o i : Nat} : am_wv s o i = true ↔ am_wdP (s 14) (am_n s) o i := by unfold am_wv; exact @decide_eq_true_iff _ (Classical.propDecidable _)
theorem am_wv_f {s : Nat → Nat → Int} {o i : Nat} (h : ¬ am_wdP (s 14) (am_n s) o i) : am_wv s o i = false := by
  cases hq : am_wv s o i
  · rfl
  · exact absurd (am_wv_t.mp hq) h
def am_ins (s : Nat → Nat → Int) (o : Nat) (lo hi : Int) : Bool := decide (lo ≤ am_nU s o ∧ am_nU s o ≤ hi)
abbrev am_T3 : Type := Int × Int × Int
noncomputable def am_clp (s : Nat → Nat → Int) (C : Int) : Nat → Nat → Int → Option Int × Nat
  | 0, o, _ => (none, o)
  | f + 1, o, acc => if am_ins s (am_tE s o) 0 (C - 1) then (if am_wv s (am_tE s (am_tE s o)) 6 then am_clp s C f (am_tE s (am_tE s o)) (am_or acc (am_shl 1 (am_nU s (am_tE s o)))) else (some (am_or acc (am_shl 1 (am_nU s (am_tE s o)))), am_tE s (am_tE s o))) else (none, am_tE s o)
def am_two (s : Nat → Nat → Int) (o : Nat) (v h1 l2 h2 : Int) : Option am_T3 × Nat := if am_ins s (am_tE s o) 0 h1 then (if am_ins s (am_tE s (am_tE s o)) l2 h2 then (some (v, am_nU s (am_tE s o), am_nU s (am_tE s (am_tE s o))), am_tE s (am_tE s (am_tE s o))) else (none, am_tE s (am_tE s o))) else (none, am_tE s o)
def am_fits (s : Nat → Nat → Int) (o : Nat) : Option am_T3 × Nat := if am_ins s (am_tE s o) 1 10 then (some (1, am_nU s (am_tE s o), 0), am_tE s (am_tE s o)) else (none, am_tE s o)
noncomputable def am_spl (s : Nat → Nat → Int) (C : Int) (o : Nat) : Option am_T3 × Nat := if am_ins s (am_tE s o) 0 7 then (if am_wv s (am_tE s (am_tE s o)) 5 then (((am_clp s C 161 (am_tE s (am_tE s o)) 0).1.map (fun c => (4, am_nU s (am_tE s o), c))), (am_clp s C 161 (am_tE s (am_tE s o)) 0).2) else (none, am_tE s (am_tE s o))) else (none, am_tE s o)
noncomputable def am_stm (w h : Nat) (s : Nat → Nat → Int) (o : Nat) : Option am_T3 × Nat := if am_wv s o 0 then am_two s o 0 7 1 60 else if am_wv s o 1 then am_fits s o else if am_wv s o 2 then am_two s o 2 (s 0 3 - 1) 0 (((w * h : Nat) : Int) - 1) else if am_wv s o 3 then am_two s o 3 (s 0 2 - 1) 0 99 else if am_wv s o 4 then am_spl s ((w * h : Nat) : Int) o else (none, o)
noncomputable def am_rd (w h : Nat) (s : Nat → Nat → Int) : Nat → Nat → Int × List am_T3
  | 0, o => (am_ts (s 14) (am_n s) o, [])
  | f + 1, o => match am_stm w h s o with
    | (none, o') => (am_ts (s 14) (am_n s) o', [])
    | (some t, o') => if am_tok (s 14) (am_n s) o' = -2 then (-1, [t]) else if am_tok (s 14) (am_n s) o' = -3 then ((am_rd w h s f (am_tE s o')).1, t :: (am_rd w h s f (am_tE s o')).2) else (am_ts (s 14) (am_n s) o', [t])
section AMSM
variable {x : am_Sc} {Po : Option am_AV → am_Sh → am_St → Prop} {σ : am_St} {w h w2 h2 : Nat} {s s2 : Nat → Nat → Int}
theorem am_tE_b {o : Nat} (ho : o ≤ am_n s) : o ≤ am_tE s o ∧ am_tE s o ≤ am_n s := by
  have h1 := am_ts_b (T := s 14) ho
  have h2 := am_te_b (T := s 14) ho
  unfold am_tE; omega
theorem am_tE_n {o : Nat} {lo hi : Int} (ho : o ≤ am_n s) (h0 : 0 ≤ lo) (hi : am_ins s o lo hi = true) : o < am_tE s o := by
  have h1 := am_ts_b (T := s 14) ho
  have h2 := am_te_b (T := s 14) ho
  unfold am_ins am_nU at hi
  rw [decide_eq_true_eq] at hi
  have h3 := (am_nu_b (T := s 14) ho).2.2.mp (by omega)
  have h4 := (am_so_2.mp h3.1).1
  have := h2.2.2 h4
  unfold am_tE; omega
theorem am_tE_w {o i : Nat} (ho : o ≤ am_n s) (hw : am_wv s o i = true) : o + am_len.getD i 0 ≤ am_tE s o := by
  have h1 := am_ts_b (T := s 14) ho
  have h2 := am_te_b (T := s 14) ho
  have h3 := (am_wv_t.mp hw).2.1
  unfold am_tl0 at h3
  unfold am_tE; omega
/-- what a statement that is read holds -/
def am_VS (w h : Nat) (s : Nat → Nat → Int) (t : am_T3) : Prop := (t.1 = 0 ∧ (0 ≤ t.2.1 ∧ t.2.1 ≤ 7) ∧ (1 ≤ t.2.2 ∧ t.2.2 ≤ 60)) ∨ (t.1 = 1 ∧ (1 ≤ t.2.1 ∧ t.2.1 ≤ 10)) ∨ (t.1 = 2 ∧ (0 ≤ t.2.1 ∧ t.2.1 < s 0 3) ∧ (0 ≤ t.2.2 ∧ t.2.2 < ((w * h : Nat) : Int))) ∨ (t.1 = 3 ∧ (0 ≤ t.2.1 ∧ t.2.1 < s 0 2) ∧ (0 ≤ t.2.2 ∧ t.2.2 ≤ 99)) ∨ (t.1 = 4 ∧ (0 ≤ t.2.1 ∧ t.2.1 ≤ 7) ∧ (0 ≤ t.2.2 ∧ t.2.2 < 2 ^ (w * h)))
theorem am_clp_ok (hO : am_OK w h s) : ∀ (f o : Nat) (acc : Int) (c : Int) (o' : Nat), o ≤ am_n s → 0 ≤ acc ∧ acc < 2 ^ (w * h) → am_clp s ((w * h : Nat) : Int) f o acc = (some c, o') → (0 ≤ c ∧ c < 2 ^ (w * h)) ∧ o ≤ o' ∧ o' ≤ am_n s
  | 0, o, acc, c, o', _, _, h => by
    have : (none : Option Int) = some c := congrArg Prod.fst h
    cases this
  | f + 1, o, acc, c, o', ho, ha, hh => by
    have hwh := am_wh hO
    have e1 := am_tE_b (s := s) ho
    have e2 := am_tE_b (s := s) e1.2
    have er : am_clp s ((w * h : Nat) : Int) (f + 1) o acc = if am_ins s (am_tE s o) 0 (((w * h : Nat) : Int) - 1) then (if am_wv s (am_tE s (am_tE s o)) 6 then am_clp s ((w * h : Nat) : Int) f (am_tE s (am_tE s o)) (am_or acc (am_shl 1 (am_nU s (am_tE s o)))) else (some (am_or acc (am_shl 1 (am_nU s (am_tE s o)))), am_tE s (am_tE s o))) else (none, am_tE s o) := rfl
    rw [er] at hh
    by_cases q : am_ins s (am_tE s o) 0 (((w * h : Nat) : Int) - 1) = true
    · rw [if_pos q] at hh
      unfold am_ins at q
      rw [decide_eq_true_eq] at q
      have acc' : 0 ≤ am_or acc (am_shl 1 (am_nU s (am_tE s o))) ∧ am_or acc (am_shl 1 (am_nU s (am_tE s o))) < 2 ^ (w * h) := by
        obtain ⟨a, rfl⟩ : ∃ a : Nat, acc = (a : Int) := ⟨acc.toNat, by omega⟩
        have al : a < 2 ^ (w * h) := by exact_mod_cast ha.2
        have pl : 2 ^ (am_nU s (am_tE s o)).toNat < 2 ^ (w * h) := Nat.pow_lt_pow_right (by decide) (by omega)
        have p16 : 2 ^ (w * h) ≤ 2 ^ 16 := Nat.pow_le_pow_right (by decide) (by omega)
        rw [am_shl1 (by omega) (by omega), show (2 : Int) ^ (am_nU s (am_tE s o)).toNat = ((2 ^ (am_nU s (am_tE s o)).toNat : Nat) : Int) by push_cast; rfl, am_or_n (by omega) (by omega)]
        have := Nat.or_lt_two_pow al pl
        exact ⟨Int.natCast_nonneg _, by exact_mod_cast this⟩
      by_cases q2 : am_wv s (am_tE s (am_tE s o)) 6 = true
      · rw [if_pos q2] at hh
        have := am_clp_ok hO f _ _ c o' e2.2 acc' hh
        exact ⟨this.1, by omega, this.2.2⟩
      · rw [if_neg q2] at hh
        have h1 : some (am_or acc (am_shl 1 (am_nU s (am_tE s o)))) = some c := congrArg Prod.fst hh
        have h2 : am_tE s (am_tE s o) = o' := congrArg Prod.snd hh
        rw [Option.some.injEq] at h1
        rw [h1] at acc'
        exact ⟨acc', by omega, by omega⟩
    · rw [if_neg q] at hh
      have : (none : Option Int) = some c := congrArg Prod.fst hh
      cases this
theorem am_two_ok {o o' : Nat} {v h1 l2 h2 : Int} {t : am_T3} (ho : o ≤ am_n s) (hl : 0 ≤ l2) (hh : am_two s o v h1 l2 h2 = (some t, o')) : t.1 = v ∧ (0 ≤ t.2.1 ∧ t.2.1 ≤ h1) ∧ (l2 ≤ t.2.2 ∧ t.2.2 ≤ h2) ∧ am_tE s o < o' ∧ o' ≤ am_n s := by
  have e1 := am_tE_b (s := s) ho
  have e2 := am_tE_b (s := s) e1.2
  have e3 := am_tE_b (s := s) e2.2
  unfold am_two at hh
  by_cases q : am_ins s (am_tE s o) 0 h1 = true
  · rw [if_pos q] at hh
    have n1 := am_tE_n (s := s) e1.2 (by decide) q
    by_cases q2 : am_ins s (am_tE s (am_tE s o)) l2 h2 = true
    · rw [if_pos q2] at hh
      have h3 : some (v, am_nU s (am_tE s o), am_nU s (am_tE s (am_tE s o))) = some t := congrArg Prod.fst hh
      have h4 : am_tE s (am_tE s (am_tE s o)) = o' := congrArg Prod.snd hh
      rw [Option.some.injEq] at h3
      rw [← h3]
      unfold am_ins at q q2
      rw [decide_eq_true_eq] at q q2
      exact ⟨rfl, q, q2, by omega, by omega⟩
    · rw [if_neg q2] at hh
      have : (none : Option am_T3) = some t := congrArg Prod.fst hh
      cases this
  · rw [if_neg q] at hh
    have : (none : Option am_T3) = some t := congrArg Prod.fst hh
    cases this
theorem am_stm_ok (hO : am_OK w h s) {o o' : Nat} {t : am_T3} (ho : o ≤ am_n s) (hh : am_stm w h s o = (some t, o')) : am_VS w h s t ∧ o + 4 ≤ o' ∧ o' ≤ am_n s := by
  have e1 := am_tE_b (s := s) ho
  have e2 := am_tE_b (s := s) e1.2
  have hl := fun i hi => am_len_b i hi
  unfold am_stm at hh
  by_cases q0 : am_wv s o 0 = true
  · rw [if_pos q0] at hh
    have := am_tE_w ho q0
    have l0 : am_len.getD 0 0 = 4 := rfl
    obtain ⟨g1, g2, g3, g4, g5⟩ := am_two_ok ho (by decide) hh
    exact ⟨Or.inl ⟨g1, g2, g3⟩, by omega, g5⟩
  · rw [if_neg q0] at hh
    by_cases q1 : am_wv s o 1 = true
    · rw [if_pos q1] at hh
      have := am_tE_w ho q1
      have l0 : am_len.getD 1 0 = 3 := rfl
      unfold am_fits at hh
      by_cases q : am_ins s (am_tE s o) 1 10 = true
      · rw [if_pos q] at hh
        have n1 := am_tE_n (s := s) e1.2 (by decide) q
        have h3 : some ((1 : Int), am_nU s (am_tE s o), (0 : Int)) = some t := congrArg Prod.fst hh
        have h4 : am_tE s (am_tE s o) = o' := congrArg Prod.snd hh
        rw [Option.some.injEq] at h3
        unfold am_ins at q
        rw [decide_eq_true_eq] at q
        rw [← h3]
        exact ⟨Or.inr (Or.inl ⟨rfl, q⟩), by omega, by omega⟩
      · rw [if_neg q] at hh
        have : (none : Option am_T3) = some t := congrArg Prod.fst hh
        cases this
    · rw [if_neg q1] at hh
      by_cases q2 : am_wv s o 2 = true
      · rw [if_pos q2] at hh
        have := am_tE_w ho q2
        have l0 : am_len.getD 2 0 = 4 := rfl
        obtain ⟨g1, g2, g3, g4, g5⟩ := am_two_ok ho (by decide) hh
        exact ⟨Or.inr (Or.inr (Or.inl ⟨g1, by omega, by omega⟩)), by omega, g5⟩
      · rw [if_neg q2] at hh
        by_cases q3 : am_wv s o 3 = true
        · rw [if_pos q3] at hh
          have := am_tE_w ho q3
          have l0 : am_len.getD 3 0 = 5 := rfl
          obtain ⟨g1, g2, g3, g4, g5⟩ := am_two_ok ho (by decide) hh
          exact ⟨Or.inr (Or.inr (Or.inr (Or.inl ⟨g1, by omega, by omega⟩))), by omega, g5⟩
        · rw [if_neg q3] at hh
          by_cases q4 : am_wv s o 4 = true
          · rw [if_pos q4] at hh
            have := am_tE_w ho q4
            have l0 : am_len.getD 4 0 = 5 := rfl
            unfold am_spl at hh
            by_cases q : am_ins s (am_tE s o) 0 7 = true
            · rw [if_pos q] at hh
              by_cases q5 : am_wv s (am_tE s (am_tE s o)) 5 = true
              · rw [if_pos q5] at hh
                have h3 : (am_clp s ((w * h : Nat) : Int) 161 (am_tE s (am_tE s o)) 0).1.map (fun c => ((4 : Int), am_nU s (am_tE s o), c)) = some t := congrArg Prod.fst hh
                have h4 : (am_clp s ((w * h : Nat) : Int) 161 (am_tE s (am_tE s o)) 0).2 = o' := congrArg Prod.snd hh
                rw [Option.map_eq_some_iff] at h3
                obtain ⟨c, c1, c2⟩ := h3
                have := am_clp_ok hO 161 (am_tE s (am_tE s o)) 0 c o' e2.2 ⟨by decide, am_pow_pos _⟩ (Prod.ext c1 h4)
                unfold am_ins at q
                rw [decide_eq_true_eq] at q
                rw [← c2]
                exact ⟨Or.inr (Or.inr (Or.inr (Or.inr ⟨rfl, q, this.1⟩))), by omega, this.2.2⟩
              · rw [if_neg q5] at hh
                have : (none : Option am_T3) = some t := congrArg Prod.fst hh
                cases this
            · rw [if_neg q] at hh
              have : (none : Option am_T3) = some t := congrArg Prod.fst hh
              cases this
          · rw [if_neg q4] at hh
            have : (none : Option am_T3) = some t := congrArg Prod.fst hh
            cases this
/-! the class reads one -/
def am_sF : List Nat := [139, 140, 141]
theorem x_passN {o : Nat} {lo hi : Int} (hX : am_RX w h s σ) (hO : am_OK w h s) (ho : o ≤ am_n s) (hT : am_TX s o σ) (h0 : 0 ≤ lo) (rl : am_r lo) (rh : am_r hi) (k1 : am_ins s o lo hi = true → ∀ σ', am_fx [] am_sc4 σ σ' → am_TX s (am_tE s o) σ' → Po (some (Zi 1)) am_SH σ') (k0 : am_ins s o lo hi = false → Po (some (Zi 0)) am_SH σ) : am_U x m_Sc_passNumber Po σ 0 [some (Zr 137), some (Zi lo), some (Zi hi)] [] := by
  have sb := am_so_b (T := s 14) (n := am_n s) (j := am_ts (s 14) (am_n s) o)
  have nb := am_nu_b (T := s 14) ho
  have no : ¬ (lo ≤ am_nU s o ∧ am_nU s o ≤ hi) → am_U x m_Sc_passNumber Po σ 24 [none, none, none] [] := fun z => s_Sc_passNumber_24 (k0 (by unfold am_ins; exact decide_eq_false z))
  have eN : am_nU s o = am_nu (s 14) (am_n s) o := rfl
  refine s_Sc_passNumber_0 ?_
  rw [hT.1, hT.2.2.2]
  refine ⟨by omega, fun q => no (fun z => q (nb.2.2.mp (by omega)).1), fun q => ⟨by omega, rl, fun q2 => no (fun z => by omega), fun q2 => ⟨rh, fun q3 => ?_, fun q3 => no (fun z => by omega)⟩⟩⟩
  exact x_advance hX hO (am_tE_b ho).2 hT.2.2.1 (fun σ1 f1 h1 => ⟨rfl, rfl, k1 (by unfold am_ins; exact decide_eq_true ⟨by omega, by omega⟩) σ1 f1 h1⟩)
theorem x_verb {o : Nat} (hX : am_RX w h s σ) (hO : am_OK w h s) (ho : o ≤ am_n s) (hT : am_TX s o σ) (k1 : ∀ v : Nat, v < 5 → am_wv s o v = true → (∀ i, i < v → am_wv s o i = false) → Po (some (Zi (v : Int))) am_SH σ) (k0 : (∀ i, i < 5 → am_wv s o i = false) → Po (some (Zi (-1))) am_SH σ) : am_U x m_Sc_verbHere Po σ 0 [some (Zr 137), none] [] := by
  have loop : ∀ (d v : Nat), v + d = 5 → (∀ i, i < v → am_wv s o i = false) → am_U x m_Sc_verbHere Po σ 2 [some (Zr 137), some (Zi (v : Int))] [] := by
    intro d
    induction d with
    | zero => intro v hv h0; exact s_Sc_verbHere_2 ⟨by omega, fun _ => k0 (fun i hi => h0 i (by omega)), fun q => absurd (by omega) q⟩
    | succ d ih =>
      intro v hv h0
      have word : ∀ {Po' : Option am_AV → am_Sh → am_St → Prop}, Po' (some (Zr (1000001 + v))) am_SH σ → am_U x m_Sc_wordOf Po' σ 0 [some (Zi (v : Int))] [] := fun {Po'} hk => by
        refine s_Sc_wordOf_0 ⟨by omega, fun q => ?_, fun q => ?_, fun q => ?_, fun q => ?_, fun q => ?_⟩
        · rw [show v = 4 by omega] at hk; exact hk
        · rw [show v = 0 by omega] at hk; exact hk
        · rw [show v = 1 by omega] at hk; exact hk
        · rw [show v = 2 by omega] at hk; exact hk
        · rw [show v = 3 by omega] at hk; exact hk
      refine s_Sc_verbHere_2 ⟨by omega, fun q => absurd q (by omega), fun _ => word ⟨v, rfl, rfl, by omega, x_isWord hX hO ho hT (by omega) (fun q => br1e (k1 v (by omega) (am_wv_t.mpr q) h0)) (fun q => br0e ?_)⟩⟩
      have := ih (v + 1) (by omega) (fun i hi => by
        by_cases e : i = v
        · rw [e]; exact am_wv_f q
        · exact h0 i (by omega))
      rw [show ((v + 1 : Nat) : Int) = (v : Int) + 1 by omega] at this
      exact this
  exact s_Sc_verbHere_0 (loop 5 0 (by omega) (fun i hi => absurd hi (Nat.not_lt_zero i)))
/-- the arrays at k, all else as it was -/
def am_atk (c1 c2 c3 k : Nat) (t : am_T3) (σ σ' : am_St) : Prop := (σ'.1 c1 k = t.1 ∧ σ'.1 c2 k = t.2.1 ∧ (t.1 ≠ 1 → σ'.1 c3 k = t.2.2)) ∧ ∀ j, j ≠ k → σ'.1 c1 j = σ.1 c1 j ∧ σ'.1 c2 j = σ.1 c2 j ∧ σ'.1 c3 j = σ.1 c3 j
theorem x_stm {o k : Nat} (hX : am_RX w h s σ) (hO : am_OK w h s) (ho : o ≤ am_n s) (hT : am_TX s o σ) (hk : k < 40) (e8 : σ.1 137 8 = (k : Int))
    (k1 : ∀ t o' σ', am_stm w h s o = (some t, o') → am_fx am_sF am_sc4 σ σ' → am_TX s o' σ' → am_atk 139 140 141 k t σ σ' → Po (some (Zi 1)) am_SH σ') (k0 : ∀ o' σ', am_stm w h s o = (none, o') → am_fx am_sF am_sc4 σ σ' → am_TX s o' σ' → Po (some (Zi 0)) am_SH σ') : am_U x m_Sc_readStatement Po σ 0 [some (Zr 137), none] [] := by
  obtain ⟨bP, -, -, bE, bS⟩ := am_OKb hO
  have hwh := am_wh hO
  have e1 := am_tE_b (s := s) ho
  have e2 := am_tE_b (s := s) e1.2
  refine s_Sc_readStatement_0 (x_verb hX hO ho hT (fun v hv hw hlo => ⟨_, rfl, rfl, by omega, fun _ => ?_, fun z => absurd z (by omega)⟩) (fun hno => ⟨_, rfl, rfl, by decide, fun z => absurd rfl z, fun _ => k0 o σ ?_ am_fx.rf hT⟩))
  · rw [e8, Int.toNat_natCast]
    refine ⟨by omega, fun σ1 f1 => ?_⟩
    have F1 : am_fx am_sF am_sc4 σ σ1 := (am_fx.o1 f1).tr (am_fx.rf (ks := []) (ps := [])) (by decide) (by decide)
    have hX1 : am_RX w h s σ1 := hX.fx F1 (by decide)
    refine x_advance hX1 hO e1.2 (by rw [am_stO f1 (by decide)]; exact hT.2.2.1) (fun σ2 f2 hT2 => ⟨rfl, rfl, ?_⟩)
    have F2 : am_fx am_sF am_sc4 σ σ2 := F1.tr f2 (by decide) (by decide)
    have hX2 : am_RX w h s σ2 := hX.fx F2 (by decide)
    have v9 : ∀ τ : am_St, (∀ j, τ.1 139 j = σ2.1 139 j) → τ.1 139 k = (v : Int) ∧ ∀ j, j ≠ k → τ.1 139 j = σ.1 139 j := fun τ ht => by
      refine ⟨by rw [ht, f2 139 k (by simp) (by unfold am_sc4; simp)]; exact am_stE f1, fun j hj => by rw [ht, f2 139 j (by simp) (by unfold am_sc4; simp)]; exact am_stN f1 hj⟩
    have c41 : ∀ j, σ2.1 141 j = σ.1 141 j := fun j => by rw [f2 141 j (by simp) (by unfold am_sc4; simp)]; exact am_stO f1 (by decide)
    have c40 : ∀ j, σ2.1 140 j = σ.1 140 j := fun j => by rw [f2 140 j (by simp) (by unfold am_sc4; simp)]; exact am_stO f1 (by decide)
    -- the first number
    have first : ∀ {Po' : Option am_AV → am_Sh → am_St → Prop} (lo hi : Int), 0 ≤ lo → am_r lo → am_r hi → (am_ins s (am_tE s o) lo hi = true → ∀ τ, am_fx am_sF am_sc4 σ τ → am_TX s (am_tE s (am_tE s o)) τ → (∀ j, τ.1 139 j = σ2.1 139 j) → (∀ j, τ.1 141 j = σ.1 141 j) → (τ.1 140 k = am_nU s (am_tE s o) ∧ ∀ j, j ≠ k → τ.1 140 j = σ.1 140 j) → Po' (some (Zi 1)) am_SH τ) → (am_ins s (am_tE s o) lo hi = false → ∀ τ, am_fx am_sF am_sc4 σ τ → am_TX s (am_tE s o) τ → Po' (some (Zi 0)) am_SH τ) → am_U x m_Sc_readFirst Po' σ2 0 [some (Zr 137), some (Zi lo), some (Zi hi)] [] := fun {Po'} lo hi h0 rl rh q1 q0 => by
      have e82 : σ2.1 137 8 = (k : Int) := by rw [F2 137 8 (by decide) (by decide)]; exact e8
      refine s_Sc_readFirst_0 ?_
      rw [e82, Int.toNat_natCast, hT2.2.2.2]
      refine ⟨by omega, fun σ3 f3 => ?_⟩
      have F3 : am_fx am_sF am_sc4 σ σ3 := F2.tr (am_fx.o1 f3) (by decide) (by decide)
      have hT3 : am_TX s (am_tE s o) σ3 := hT2.k (fun j _ _ => am_stO f3 (by decide))
      refine x_passN (hX.fx F3 (by decide)) hO e1.2 hT3 h0 rl rh (fun qi σ4 f4 hT4 => ⟨_, rfl, rfl, Or.inr rfl, q1 qi σ4 (F3.tr f4 (by decide) (by decide)) hT4 (fun j => ?_) (fun j => ?_) ⟨?_, fun j hj => ?_⟩⟩) (fun qi => ⟨_, rfl, rfl, Or.inl rfl, q0 qi σ3 F3 hT3⟩)
      · rw [f4 139 j (by simp) (by unfold am_sc4; simp)]; exact am_stO f3 (by decide)
      · rw [f4 141 j (by simp) (by unfold am_sc4; simp), am_stO f3 (by decide)]; exact c41 j
      · rw [f4 140 k (by simp) (by unfold am_sc4; simp)]; exact am_stE f3
      · rw [f4 140 j (by simp) (by unfold am_sc4; simp), am_stN f3 hj]; exact c40 j
    -- the second
    have second : ∀ {Po' : Option am_AV → am_Sh → am_St → Prop} (τ : am_St) (lo hi : Int), 0 ≤ lo → am_r lo → am_r hi → am_fx am_sF am_sc4 σ τ → am_TX s (am_tE s (am_tE s o)) τ → (∀ j, τ.1 139 j = σ2.1 139 j) → (∀ j, τ.1 141 j = σ.1 141 j) → (τ.1 140 k = am_nU s (am_tE s o) ∧ ∀ j, j ≠ k → τ.1 140 j = σ.1 140 j) → (am_ins s (am_tE s (am_tE s o)) lo hi = true → ∀ τ', am_fx am_sF am_sc4 σ τ' → am_TX s (am_tE s (am_tE s (am_tE s o))) τ' → am_atk 139 140 141 k ((v : Int), am_nU s (am_tE s o), am_nU s (am_tE s (am_tE s o))) σ τ' → Po' (some (Zi 1)) am_SH τ') → (am_ins s (am_tE s (am_tE s o)) lo hi = false → ∀ τ', am_fx am_sF am_sc4 σ τ' → am_TX s (am_tE s (am_tE s o)) τ' → Po' (some (Zi 0)) am_SH τ') → am_U x m_Sc_readSecond Po' τ 0 [some (Zr 137), some (Zi lo), some (Zi hi)] [] := fun {Po'} τ lo hi h0 rl rh Ft hTt t139 t141 t140 q1 q0 => by
      have e82 : τ.1 137 8 = (k : Int) := by rw [Ft 137 8 (by decide) (by decide)]; exact e8
      refine s_Sc_readSecond_0 ?_
      rw [e82, Int.toNat_natCast, hTt.2.2.2]
      refine ⟨by omega, fun σ3 f3 => ?_⟩
      have F3 : am_fx am_sF am_sc4 σ σ3 := Ft.tr (am_fx.o1 f3) (by decide) (by decide)
      have hT3 : am_TX s (am_tE s (am_tE s o)) σ3 := hTt.k (fun j _ _ => am_stO f3 (by decide))
      refine x_passN (hX.fx F3 (by decide)) hO e2.2 hT3 h0 rl rh (fun qi σ4 f4 hT4 => ⟨_, rfl, rfl, Or.inr rfl, q1 qi σ4 (F3.tr f4 (by decide) (by decide)) hT4 ?_⟩) (fun qi => ⟨_, rfl, rfl, Or.inl rfl, q0 qi σ3 F3 hT3⟩)
      have g : ∀ c j, (c = 139 ∨ c = 140 ∨ c = 141) → σ4.1 c j = σ3.1 c j := fun c j hc => f4 c j (by simp) (by unfold am_sc4; simp; omega)
      have v9' := v9 σ4 (fun j => by rw [g 139 j (by decide), am_stO f3 (by decide)]; exact t139 j)
      refine ⟨⟨v9'.1, ?_, fun _ => ?_⟩, fun j hj => ⟨v9'.2 j hj, ?_, ?_⟩⟩
      · rw [g 140 k (by decide), am_stO f3 (by decide)]; exact t140.1
      · rw [g 141 k (by decide)]; exact am_stE f3
      · rw [g 140 j (by decide), am_stO f3 (by decide)]; exact t140.2 j hj
      · rw [g 141 j (by decide), am_stN f3 hj]; exact t141 j
    -- a statement with two numbers
    have two : ∀ (h1 l2 h2 : Int) (pc : Nat), am_stm w h s o = am_two s o (v : Int) h1 l2 h2 → 0 ≤ l2 → am_r l2 → am_r h1 → am_r h2 → (∀ z τ, (z = 0 ∨ z = 1) → Po (some (Zi z)) am_SH τ → am_U x m_Sc_readStatement Po τ (pc + 1) [none, none] [Zi z]) → (∀ τ, am_U x m_Sc_readStatement Po τ (pc + 1) [none, none] [Zi 0] → am_U x m_Sc_readStatement Po τ pc [none, none] []) → ∀ (H2 : am_St → Int), (∀ τ, am_fx am_sF am_sc4 σ τ → H2 τ = h2) → am_U x m_Sc_readFirst (fun ro6 so6 σ6 => ∃ z6 : Int, ro6 = some (Zi z6) ∧ so6 = am_SH ∧ am_r z6 ∧ ((z6 = 0 → am_U x m_Sc_readStatement Po σ6 pc [none, none] []) ∧ (¬ z6 = 0 → am_U x m_Sc_readSecond (fun ro7 so7 σ7 => ∃ z7 : Int, ro7 = some (Zi z7) ∧ so7 = am_SH ∧ am_r z7 ∧ ((z7 = 0 → am_U x m_Sc_readStatement Po σ7 pc [none, none] []) ∧ (¬ z7 = 0 → am_U x m_Sc_readStatement Po σ7 (pc + 1) [none, none] [Zi 1]))) σ6 0 [some (Zr 137), some (Zi l2), some (Zi (H2 σ6))] []))) σ2 0 [some (Zr 137), some (Zi 0), some (Zi h1)] [] := fun h1 l2 h2 pc est hl rl rh1 rh2 fin1 fin0 H2 hH => by
      refine first 0 h1 (by decide) (by decide) rh1 (fun qi τ Ft hTt t139 t141 t140 => ⟨_, rfl, rfl, by decide, fun z => absurd z (by decide), fun _ => ?_⟩) (fun qi τ Ft hTt => ⟨_, rfl, rfl, by decide, fun _ => fin0 τ (fin1 0 τ (Or.inl rfl) (k0 (am_tE s o) τ ?_ Ft hTt)), fun z => absurd rfl z⟩)
      · rw [hH τ Ft]
        refine second τ l2 h2 hl rl rh2 Ft hTt t139 t141 t140 (fun qj τ' Ft' hTt' hat => ⟨_, rfl, rfl, by decide, fun z => absurd z (by decide), fun _ => fin1 1 τ' (Or.inr rfl) (k1 _ _ τ' ?_ Ft' hTt' hat)⟩) (fun qj τ' Ft' hTt' => ⟨_, rfl, rfl, by decide, fun _ => fin0 τ' (fin1 0 τ' (Or.inl rfl) (k0 (am_tE s (am_tE s o)) τ' ?_ Ft' hTt')), fun z => absurd rfl z⟩)
        · rw [est]; unfold am_two; rw [if_pos qi, if_pos qj]
        · rw [est]; unfold am_two; rw [if_pos qi, if_neg (by rw [qj]; decide)]
      · rw [est]; unfold am_two; rw [if_neg (by rw [qi]; decide)]
    refine ⟨fun qv => ?_, fun qv => ?_, fun qv => ?_, fun qv => ?_, fun qv => ?_⟩
    · -- split
      have ev : v = 4 := by omega
      have est : am_stm w h s o = am_spl s ((w * h : Nat) : Int) o := by
        unfold am_stm
        rw [hlo 0 (by omega), hlo 1 (by omega), hlo 2 (by omega), hlo 3 (by omega), ← ev, hw]; rfl
      refine first 0 7 (by decide) (by decide) (by decide) (fun qi τ Ft hTt t139 t141 t140 => ⟨_, rfl, rfl, by decide, fun z => absurd z (by decide), fun _ => ?_⟩) (fun qi τ Ft hTt => ⟨_, rfl, rfl, by decide, fun _ => s_Sc_readStatement_184 (s_Sc_readStatement_185 ⟨Or.inl rfl, k0 (am_tE s o) τ (by rw [est]; unfold am_spl; rw [if_neg (by rw [qi]; decide)]) Ft hTt⟩), fun z => absurd rfl z⟩)
      have fail : ∀ (o' : Nat) (τ' : am_St), am_stm w h s o = (none, o') → am_fx am_sF am_sc4 σ τ' → am_TX s o' τ' → ∃ z5 : Int, some (Zi 0) = some (Zi z5) ∧ am_SH = am_SH ∧ am_r z5 ∧ ((z5 = 0 → am_U x m_Sc_readStatement Po τ' 184 [none, none] []) ∧ (¬ z5 = 0 → am_U x m_Sc_readStatement Po τ' 185 [none, none] [Zi 1])) := fun o' τ' a1 a2 a3 => ⟨0, rfl, rfl, by decide, fun _ => s_Sc_readStatement_184 (s_Sc_readStatement_185 ⟨Or.inl rfl, k0 o' τ' a1 a2 a3⟩), fun z => absurd rfl z⟩
      refine s_Sc_readCells_0 (x_isWord (hX.fx Ft (by decide)) hO e2.2 hTt (by decide) (fun qw => ⟨1, rfl, rfl, by decide, fun _ => ?_, fun z => absurd z (by decide)⟩) (fun qw => ⟨0, rfl, rfl, by decide, fun z => absurd rfl z, fun _ => fail (am_tE s (am_tE s o)) τ ?_ Ft hTt⟩))
      · -- the cells
        have cells : ∀ (f i oo : Nat) (acc : Int) (τ' : am_St), oo ≤ am_n s → i < oo → i + f = 161 → am_fx am_sF am_sc4 σ τ' → am_TX s oo τ' → (∀ j, τ'.1 139 j = σ2.1 139 j) → (∀ j, τ'.1 141 j = σ.1 141 j) → (τ'.1 140 k = am_nU s (am_tE s o) ∧ ∀ j, j ≠ k → τ'.1 140 j = σ.1 140 j) → am_clp s ((w * h : Nat) : Int) 161 (am_tE s (am_tE s o)) 0 = am_clp s ((w * h : Nat) : Int) f oo acc → am_U x m_Sc_readCells (fun ro5 so5 σ5 => ∃ z5 : Int, ro5 = some (Zi z5) ∧ so5 = am_SH ∧ am_r z5 ∧ ((z5 = 0 → am_U x m_Sc_readStatement Po σ5 184 [none, none] []) ∧ (¬ z5 = 0 → am_U x m_Sc_readStatement Po σ5 185 [none, none] [Zi 1]))) τ' 17 [some (Zr 137), some (Zi acc), some (Zi 1), some (Zi (i : Int)), none] [] := by
          intro f
          induction f with
          | zero =>
            intro i oo acc τ' hoo hi hf
            have := (am_n_b hO).2.1
            omega
          | succ f ihf =>
            intro i oo acc τ' hoo hi hf Fτ hTτ t9 t1 t0 hc
            have n160 := (am_n_b hO).2.1
            have e3 := am_tE_b (s := s) hoo
            have e4 := am_tE_b (s := s) e3.2
            have er : am_clp s ((w * h : Nat) : Int) (f + 1) oo acc = if am_ins s (am_tE s oo) 0 (((w * h : Nat) : Int) - 1) then (if am_wv s (am_tE s (am_tE s oo)) 6 then am_clp s ((w * h : Nat) : Int) f (am_tE s (am_tE s oo)) (am_or acc (am_shl 1 (am_nU s (am_tE s oo)))) else (some (am_or acc (am_shl 1 (am_nU s (am_tE s oo)))), am_tE s (am_tE s oo))) else (none, am_tE s oo) := rfl
            rw [er] at hc
            have est2 : am_stm w h s o = ((am_clp s ((w * h : Nat) : Int) 161 (am_tE s (am_tE s o)) 0).1.map (fun c => ((4 : Int), am_nU s (am_tE s o), c)), (am_clp s ((w * h : Nat) : Int) 161 (am_tE s (am_tE s o)) 0).2) := by
              rw [est]; unfold am_spl; rw [if_pos qi, if_pos (am_wv_t.mpr qw)]
            refine s_Sc_readCells_17 ⟨by omega, fun z => absurd z (by omega), fun _ => ⟨by decide, fun z => absurd z (by decide), fun _ => ?_⟩⟩
            refine x_advance (hX.fx Fτ (by decide)) hO e3.2 hTτ.2.2.1 (fun τ3 f3 hT3 => ⟨rfl, rfl, ?_⟩)
            have F3 : am_fx am_sF am_sc4 σ τ3 := Fτ.tr f3 (by decide) (by decide)
            have hX3 : am_RX w h s τ3 := hX.fx F3 (by decide)
            have g3 : ∀ c j, (c = 139 ∨ c = 140 ∨ c = 141) → τ3.1 c j = τ'.1 c j := fun c j hc => f3 c j (by simp) (by unfold am_sc4; simp; omega)
            rw [hX3.2.1, hT3.2.2.2]
            refine x_passN hX3 hO e3.2 hT3 (by decide) (by decide) (by omega) (fun qn τ4 f4 hT4 => ⟨_, rfl, rfl, by decide, fun _ => ?_, fun z => absurd z (by decide)⟩) (fun qn => ⟨_, rfl, rfl, by decide, fun z => absurd rfl z, fun _ => fail (am_tE s oo) τ3 ?_ F3 hT3⟩)
            · have F4 : am_fx am_sF am_sc4 σ τ4 := F3.tr f4 (by decide) (by decide)
              have g4 : ∀ c j, (c = 139 ∨ c = 140 ∨ c = 141) → τ4.1 c j = τ'.1 c j := fun c j hc => by rw [f4 c j (by simp) (by unfold am_sc4; simp; omega)]; exact g3 c j hc
              have np := am_tE_n (s := s) e3.2 (by decide) qn
              rw [if_pos qn] at hc
              have eN : am_nu (s 14) (am_n s) (am_tE s oo) = am_nU s (am_tE s oo) := rfl
              rw [eN]
              refine x_isWord (hX.fx F4 (by decide)) hO e4.2 hT4 (by decide) (fun q6 => ⟨_, rfl, rfl, ?_⟩) (fun q6 => ⟨_, rfl, rfl, ?_⟩)
              · rw [if_pos (am_wv_t.mpr q6)] at hc
                have := ihf (i + 1) (am_tE s (am_tE s oo)) (am_or acc (am_shl 1 (am_nU s (am_tE s oo)))) τ4 e4.2 (by omega) (by omega) F4 hT4 (fun j => by rw [g4 139 j (by decide)]; exact t9 j) (fun j => by rw [g4 141 j (by decide)]; exact t1 j) ⟨by rw [g4 140 k (by decide)]; exact t0.1, fun j hj => by rw [g4 140 j (by decide)]; exact t0.2 j hj⟩ hc
                rw [show ((i + 1 : Nat) : Int) = (i : Int) + 1 by omega] at this
                exact this
              · rw [if_neg (by rw [am_wv_f q6]; decide)] at hc
                have last : ∀ ii : Int, am_r ii → am_U x m_Sc_readCells (fun ro5 so5 σ5 => ∃ z5 : Int, ro5 = some (Zi z5) ∧ so5 = am_SH ∧ am_r z5 ∧ ((z5 = 0 → am_U x m_Sc_readStatement Po σ5 184 [none, none] []) ∧ (¬ z5 = 0 → am_U x m_Sc_readStatement Po σ5 185 [none, none] [Zi 1]))) τ4 17 [some (Zr 137), some (Zi (am_or acc (am_shl 1 (am_nU s (am_tE s oo))))), some (Zi 0), some (Zi ii), none] [] := fun ii ri => by
                  have end77 : am_U x m_Sc_readCells (fun ro5 so5 σ5 => ∃ z5 : Int, ro5 = some (Zi z5) ∧ so5 = am_SH ∧ am_r z5 ∧ ((z5 = 0 → am_U x m_Sc_readStatement Po σ5 184 [none, none] []) ∧ (¬ z5 = 0 → am_U x m_Sc_readStatement Po σ5 185 [none, none] [Zi 1]))) τ4 77 [some (Zr 137), some (Zi (am_or acc (am_shl 1 (am_nU s (am_tE s oo))))), none, none, none] [] := by
                    have e84 : τ4.1 137 8 = (k : Int) := by rw [F4 137 8 (by decide) (by decide)]; exact e8
                    refine s_Sc_readCells_77 ?_
                    rw [e84, Int.toNat_natCast]
                    refine ⟨by omega, fun τ5 f5 => ⟨1, rfl, rfl, by decide, fun z => absurd z (by decide), fun _ => s_Sc_readStatement_185 ⟨Or.inr rfl, k1 (4, am_nU s (am_tE s o), am_or acc (am_shl 1 (am_nU s (am_tE s oo)))) (am_tE s (am_tE s oo)) τ5 ?_ (F4.tr (am_fx.o1 f5) (by decide) (by decide)) (hT4.k (fun j _ _ => am_stO f5 (by decide))) ?_⟩⟩⟩
                    · rw [est2, hc]; rfl
                    · have v9' := v9 τ5 (fun j => by rw [am_stO f5 (by decide), g4 139 j (by decide)]; exact t9 j)
                      refine ⟨⟨by rw [v9'.1, ev]; rfl, ?_, fun _ => am_stE f5⟩, fun j hj => ⟨v9'.2 j hj, ?_, ?_⟩⟩
                      · rw [am_stO f5 (by decide), g4 140 k (by decide)]; exact t0.1
                      · rw [am_stO f5 (by decide), g4 140 j (by decide)]; exact t0.2 j hj
                      · rw [am_stN f5 hj, g4 141 j (by decide)]; exact t1 j
                  exact s_Sc_readCells_17 ⟨ri, fun _ => end77, fun _ => ⟨by decide, fun _ => end77, fun z => absurd rfl z⟩⟩
                exact last _ (by omega)
            · rw [if_neg (by rw [qn]; decide)] at hc
              rw [est2, hc]; rfl
        have wl := am_tE_w (s := s) ho hw
        have l4 : am_len.getD v 0 = 5 := by rw [ev]; rfl
        exact cells 161 0 (am_tE s (am_tE s o)) 0 τ e2.2 (by omega) (by omega) Ft hTt t139 t141 t140 rfl
      · rw [est]; unfold am_spl; rw [if_pos qi, if_neg (by rw [am_wv_f qw]; decide)]
    · have ev : v = 0 := by omega
      have est : am_stm w h s o = am_two s o (v : Int) 7 1 60 := by unfold am_stm; rw [← ev, hw, if_pos rfl, ev]; rfl
      exact two 7 1 60 80 est (by decide) (by decide) (by decide) (by decide) (fun z τ hz hp => s_Sc_readStatement_81 ⟨hz, hp⟩) (fun τ hh => s_Sc_readStatement_80 hh) (fun _ => 60) (fun _ _ => rfl)
    · have ev : v = 1 := by omega
      have est : am_stm w h s o = am_fits s o := by unfold am_stm; rw [hlo 0 (by omega), ← ev, hw]; rfl
      refine first 1 10 (by decide) (by decide) (by decide) (fun qi τ Ft hTt t139 t141 t140 => ⟨_, rfl, rfl, Or.inr rfl, k1 (1, am_nU s (am_tE s o), 0) (am_tE s (am_tE s o)) τ ?_ Ft hTt ?_⟩) (fun qi τ Ft hTt => ⟨_, rfl, rfl, Or.inl rfl, k0 (am_tE s o) τ ?_ Ft hTt⟩)
      · rw [est]; unfold am_fits; rw [if_pos qi]
      · have v9' := v9 τ t139
        exact ⟨⟨by rw [v9'.1, ev]; rfl, t140.1, fun z => absurd rfl z⟩, fun j hj => ⟨v9'.2 j hj, t140.2 j hj, t141 j⟩⟩
      · rw [est]; unfold am_fits; rw [if_neg (by rw [qi]; decide)]
    · have ev : v = 2 := by omega
      have est : am_stm w h s o = am_two s o (v : Int) (s 0 3 - 1) 0 (((w * h : Nat) : Int) - 1) := by unfold am_stm; rw [hlo 0 (by omega), hlo 1 (by omega), ← ev, hw, ev]; rfl
      rw [hX2.1.as 8 3 3 (by decide)]
      exact two (s 0 3 - 1) 0 (((w * h : Nat) : Int) - 1) 128 est (by decide) (by decide) (by omega) (by omega) (fun z τ hz hp => s_Sc_readStatement_129 ⟨hz, hp⟩) (fun τ hh => s_Sc_readStatement_128 hh) (fun τ => τ.1 1 0 - 1) (fun τ Ft => by rw [(hX.fx Ft (by decide)).2.1])
    · have ev : v = 3 := by omega
      have est : am_stm w h s o = am_two s o (v : Int) (s 0 2 - 1) 0 99 := by unfold am_stm; rw [hlo 0 (by omega), hlo 1 (by omega), hlo 2 (by omega), ← ev, hw, ev]; rfl
      rw [hX2.1.as 8 0 2 (by decide)]
      exact two (s 0 2 - 1) 0 99 161 est (by decide) (by decide) (by omega) (by decide) (fun z τ hz hp => s_Sc_readStatement_162 ⟨hz, hp⟩) (fun τ hh => s_Sc_readStatement_161 hh) (fun _ => 99) (fun _ _ => rfl)
  · unfold am_stm
    rw [hno 0 (by decide), hno 1 (by decide), hno 2 (by decide), hno 3 (by decide), hno 4 (by decide)]; rfl
end AMSM
