/-! ===== the model's statement ===== -/
def am_mF : List Nat := [172, 173, 174]
def am_mc5 : List (Nat × Nat) := [(147, 33), (147, 34), (147, 36), (147, 37), (147, 38)]
def am_c1 (c k : Nat) (v : Int) (σ τ : am_St) : Prop := τ.1 c k = v ∧ ∀ j, j ≠ k → τ.1 c j = σ.1 c j
section AMSQ
variable {x : am_Sc} {Po : Option am_AV → am_Sh → am_St → Prop} {σ : am_St} {w h w2 h2 : Nat} {s s2 : Nat → Nat → Int}
theorem am_c1.fx {c k : Nat} {v : Int} {τ τ' : am_St} (a : am_c1 c k v σ τ) (f : am_fx [] am_mc4 τ τ') (hc : c ≠ 147) : am_c1 c k v σ τ' := by
  have g : ∀ j, τ'.1 c j = τ.1 c j := fun j => f c j (by simp) (by unfold am_mc4; simp; omega)
  exact ⟨by rw [g]; exact a.1, fun j hj => by rw [g]; exact a.2 j hj⟩
theorem am_c1.o {c k c' k' : Nat} {v v' : Int} {τ τ' : am_St} (a : am_c1 c k v σ τ) (f : τ' = (am_up τ.1 c' k' v', τ.2)) (hc : c ≠ c') : am_c1 c k v σ τ' := ⟨by rw [am_stO f hc]; exact a.1, fun j hj => by rw [am_stO f hc]; exact a.2 j hj⟩
theorem am_c1.ww {c k : Nat} {v : Int} {τ τ' : am_St} (a : ∀ j, j ≠ k → τ.1 c j = σ.1 c j) (f : τ' = (am_up τ.1 c k v, τ.2)) : am_c1 c k v σ τ' := ⟨am_stE f, fun j hj => by rw [am_stN f hj]; exact a j hj⟩
theorem am_TM.o {o c k : Nat} {v : Int} {τ τ' : am_St} (a : am_TM s o τ) (f : τ' = (am_up τ.1 c k v, τ.2)) (hc : 147 ≠ c) : am_TM s o τ' := by
  refine ⟨by rw [am_stO f hc]; exact a.1, by rw [am_stO f hc]; exact a.2.1, by rw [f]; exact a.2.2.1, fun z => by rw [am_stO f hc]; exact a.2.2.2 z⟩
theorem m_fails {o : Nat} (hT : am_TM s o σ) (kk : ∀ σ', am_fx [] [(147, 38)] σ σ' → σ'.1 147 38 = (am_ts (s 14) (am_n s) o : Int) → Po (some (Zi 0)) am_SH σ') : am_U x m_Mo_fails Po σ 0 [some (Zr 147)] [] := by
  refine s_Mo_fails_0 (fun σ1 f1 => kk σ1 (am_fx.p1 f1) ?_)
  rw [am_stE f1]; exact hT.1
theorem am_tok_rl {o : Nat} (ho : o ≤ am_n s) (hT : am_TM s o σ) : am_rl (σ.2 147 35) := by
  have := am_tok_b (T := s 14) ho
  rw [hT.2.2.1]; unfold am_rl; omega
theorem m_isNum {o : Nat} {lo hi : Int} (ho : o ≤ am_n s) (hT : am_TM s o σ) (h0 : 0 ≤ lo) (rl : am_r lo) (rh : am_r hi) (k1 : am_ins s o lo hi = true → σ.1 147 37 = am_nU s o → Po (some (Zi 1)) am_SH σ) (k0 : am_ins s o lo hi = false → Po (some (Zi 0)) am_SH σ) : am_U x m_Mo_isNumber Po σ 0 [some (Zr 147), some (Zi lo), some (Zi hi)] [] := by
  have nb := am_nu_b (T := s 14) ho
  have t1 := am_tok_1 (T := s 14) ho
  have eN : am_nU s o = am_nu (s 14) (am_n s) o := rfl
  have no : ¬ (lo ≤ am_nU s o ∧ am_nU s o ≤ hi) → am_U x m_Mo_isNumber Po σ 27 [none, none, none] [] := fun z => s_Mo_isNumber_27 (s_Mo_isNumber_28 ⟨Or.inl rfl, k0 (by unfold am_ins; exact decide_eq_false z)⟩)
  refine s_Mo_isNumber_0 ⟨am_tok_rl ho hT, am_cmpE.1, fun q => no (fun z => q (am_cmpE.2.mpr ?_)), fun q => ?_⟩
  · rw [hT.2.2.1]; exact t1.mpr (by omega)
  · have q' := am_cmpE.2.mp q
    rw [hT.2.2.1] at q'
    have v := hT.2.2.2 q'
    rw [v]
    refine c_in (by omega) rl rh (fun qi => br1e (s_Mo_isNumber_28 ⟨Or.inr rfl, k1 (by unfold am_ins; exact decide_eq_true ⟨by omega, by omega⟩) v⟩)) (fun qi => br0e (no (fun z => qi ⟨by omega, by omega⟩)))
/-- the invariant under way -/
def am_MI (s : Nat → Nat → Int) (σ : am_St) (o : Nat) (τ : am_St) : Prop := am_fx am_mF am_mc5 σ τ ∧ am_TM s o τ
theorem m_nxt {o : Nat} {τ : am_St} (hM : am_RM w h s σ) (hO : am_OK w h s) (ho : o ≤ am_n s) (hI : am_fx am_mF am_mc5 σ τ) (hT : am_TM s o τ) (kk : ∀ σ', am_fx [] am_mc4 τ σ' → am_MI s σ (am_tE s o) σ' → Po none am_SH σ') : am_U x m_Mo_nextToken Po τ 0 [some (Zr 147)] [] :=
  m_nextToken (hM.fx hI (by decide)) hO (am_tE_b ho).2 hT.2.1 (fun σ' f t => kk σ' f ⟨hI.tr f (by decide) (by decide), t⟩)
theorem am_mI_k {k : Nat} {τ : am_St} (e39 : σ.1 147 39 = (k : Int)) (hI : am_fx am_mF am_mc5 σ τ) : τ.1 147 39 = (k : Int) := by rw [hI 147 39 (by decide) (by decide)]; exact e39
theorem m_no {o : Nat} {τ : am_St} (hI : am_MI s σ o τ) (kk : ∀ σ', am_fx am_mF am_mc5 σ σ' → σ'.1 147 38 = (am_ts (s 14) (am_n s) o : Int) → Po (some (Zi 0)) am_SH σ') : am_U x m_Mo_fails (fun ro so σ' => ∃ z : Int, ro = some (Zi z) ∧ so = am_SH ∧ (z = 0 ∨ z = 1) ∧ Po (some (Zi z)) am_SH σ') τ 0 [some (Zr 147)] [] :=
  m_fails hI.2 (fun σ' f e => ⟨0, rfl, rfl, Or.inl rfl, kk σ' (hI.1.tr f (by decide) (by decide)) e⟩)
/-- the verb and the first number -/
theorem am_wF {c k : Nat} {v : Int} {τ τ' : am_St} (hI : am_fx am_mF am_mc5 σ τ) (f : τ' = (am_up τ.1 c k v, τ.2)) (hc : c = 172 ∨ c = 173 ∨ c = 174) : am_fx am_mF am_mc5 σ τ' := fun k' j' a1 a2 => by
  rw [am_stO f (fun e => a1 (by rw [e]; unfold am_mF; simp; omega))]; exact hI k' j' a1 a2
theorem am_c1.n {c k : Nat} {τ : am_St} (hg : ∀ j, τ.1 c j = σ.1 c j) : ∀ j, j ≠ k → τ.1 c j = σ.1 c j := fun j _ => hg j
theorem m_isTwo {o k : Nat} {v h1 l2 h2 : Int} (hM : am_RM w h s σ) (hO : am_OK w h s) (ho : o ≤ am_n s) (hT : am_TM s o σ) (hk : k < 160) (e39 : σ.1 147 39 = (k : Int)) (hl : 0 ≤ l2) (rl : am_r l2) (rh1 : am_r h1) (rh2 : am_r h2)
    (k1 : ∀ t o' σ', am_two s o v h1 l2 h2 = (some t, o') → am_fx am_mF am_mc5 σ σ' → am_TM s o' σ' → am_atk 172 173 174 k t σ σ' → Po (some (Zi 1)) am_SH σ') (k0 : ∀ o' σ', am_two s o v h1 l2 h2 = (none, o') → am_fx am_mF am_mc5 σ σ' → σ'.1 147 38 = (am_ts (s 14) (am_n s) o' : Int) → Po (some (Zi 0)) am_SH σ') : am_U x m_Mo_isTwo Po σ 0 [some (Zr 147), some (Zi v), some (Zi h1), some (Zi l2), some (Zi h2)] [] := by
  have e1 := am_tE_b (s := s) ho
  have e2 := am_tE_b (s := s) e1.2
  refine s_Mo_isTwo_0 ?_
  rw [e39, Int.toNat_natCast]
  refine ⟨by omega, fun σ1 f1 => ?_⟩
  have I1 : am_fx am_mF am_mc5 σ σ1 := am_wF am_fx.rf f1 (by decide)
  refine m_nxt hM hO ho I1 (hT.o f1 (by decide)) (fun σ2 f2 I2 => ⟨rfl, rfl, ?_⟩)
  have a2 : am_c1 172 k v σ σ2 := (am_c1.ww (fun _ _ => rfl) f1).fx f2 (by decide)
  refine m_isNum e1.2 I2.2 (by decide) (by decide) rh1 (fun qi ev => ⟨1, rfl, rfl, by decide, fun _ => ?_, fun z => absurd z (by decide)⟩) (fun qi => ⟨0, rfl, rfl, by decide, fun z => absurd rfl z, fun _ => m_no I2 (fun σ' f' e' => k0 _ σ' ?_ f' e')⟩)
  · rw [am_mI_k e39 I2.1, Int.toNat_natCast, ev]
    refine ⟨by omega, fun σ4 f4 => ?_⟩
    have I4 : am_fx am_mF am_mc5 σ σ4 := am_wF I2.1 f4 (by decide)
    refine m_nxt hM hO e1.2 I4 (I2.2.o f4 (by decide)) (fun σ5 f5 I5 => ⟨rfl, rfl, ?_⟩)
    have a5 : am_c1 172 k v σ σ5 := (a2.o f4 (by decide)).fx f5 (by decide)
    have b5 : am_c1 173 k (am_nU s (am_tE s o)) σ σ5 := (am_c1.ww (fun j _ => by rw [f2 173 j (by simp) (by unfold am_mc4; simp), am_stO f1 (by decide)]) f4).fx f5 (by decide)
    refine m_isNum e2.2 I5.2 hl rl rh2 (fun qj ev2 => ⟨1, rfl, rfl, by decide, fun _ => ?_, fun z => absurd z (by decide)⟩) (fun qj => ⟨0, rfl, rfl, by decide, fun z => absurd rfl z, fun _ => m_no I5 (fun σ' f' e' => k0 _ σ' ?_ f' e')⟩)
    · rw [am_mI_k e39 I5.1, Int.toNat_natCast, ev2]
      refine ⟨by omega, fun σ7 f7 => ?_⟩
      have I7 : am_fx am_mF am_mc5 σ σ7 := am_wF I5.1 f7 (by decide)
      refine m_nxt hM hO e2.2 I7 (I5.2.o f7 (by decide)) (fun σ8 f8 I8 => ⟨rfl, rfl, k1 (v, am_nU s (am_tE s o), am_nU s (am_tE s (am_tE s o))) _ σ8 ?_ I8.1 I8.2 ?_⟩)
      · unfold am_two; rw [if_pos qi, if_pos qj]
      · have a8 : am_c1 172 k v σ σ8 := (a5.o f7 (by decide)).fx f8 (by decide)
        have b8 : am_c1 173 k (am_nU s (am_tE s o)) σ σ8 := (b5.o f7 (by decide)).fx f8 (by decide)
        have c8 : am_c1 174 k (am_nU s (am_tE s (am_tE s o))) σ σ8 := (am_c1.ww (fun j _ => by rw [f5 174 j (by simp) (by unfold am_mc4; simp), am_stO f4 (by decide), f2 174 j (by simp) (by unfold am_mc4; simp), am_stO f1 (by decide)]) f7).fx f8 (by decide)
        exact ⟨⟨a8.1, b8.1, fun _ => c8.1⟩, fun j hj => ⟨a8.2 j hj, b8.2 j hj, c8.2 j hj⟩⟩
    · unfold am_two; rw [if_pos qi, if_neg (by rw [qj]; decide)]
  · unfold am_two; rw [if_neg (by rw [qi]; decide)]
theorem m_isFit {o k : Nat} (hM : am_RM w h s σ) (hO : am_OK w h s) (ho : o ≤ am_n s) (hT : am_TM s o σ) (hk : k < 160) (e39 : σ.1 147 39 = (k : Int))
    (k1 : ∀ t o' σ', am_fits s o = (some t, o') → am_fx am_mF am_mc5 σ σ' → am_TM s o' σ' → am_atk 172 173 174 k t σ σ' → Po (some (Zi 1)) am_SH σ') (k0 : ∀ o' σ', am_fits s o = (none, o') → am_fx am_mF am_mc5 σ σ' → σ'.1 147 38 = (am_ts (s 14) (am_n s) o' : Int) → Po (some (Zi 0)) am_SH σ') : am_U x m_Mo_isFit Po σ 0 [some (Zr 147)] [] := by
  have e1 := am_tE_b (s := s) ho
  refine s_Mo_isFit_0 ?_
  rw [e39, Int.toNat_natCast]
  refine ⟨by omega, fun σ1 f1 => ?_⟩
  have I1 : am_fx am_mF am_mc5 σ σ1 := am_wF am_fx.rf f1 (by decide)
  refine m_nxt hM hO ho I1 (hT.o f1 (by decide)) (fun σ2 f2 I2 => ⟨rfl, rfl, ?_⟩)
  have a2 : am_c1 172 k 1 σ σ2 := (am_c1.ww (fun _ _ => rfl) f1).fx f2 (by decide)
  refine m_isNum e1.2 I2.2 (by decide) (by decide) (by decide) (fun qi ev => ⟨1, rfl, rfl, by decide, fun _ => ?_, fun z => absurd z (by decide)⟩) (fun qi => ⟨0, rfl, rfl, by decide, fun z => absurd rfl z, fun _ => m_no I2 (fun σ' f' e' => k0 _ σ' ?_ f' e')⟩)
  · rw [am_mI_k e39 I2.1, Int.toNat_natCast, ev]
    refine ⟨by omega, fun σ4 f4 => ?_⟩
    have I4 : am_fx am_mF am_mc5 σ σ4 := am_wF I2.1 f4 (by decide)
    refine m_nxt hM hO e1.2 I4 (I2.2.o f4 (by decide)) (fun σ5 f5 I5 => ⟨rfl, rfl, k1 (1, am_nU s (am_tE s o), 0) _ σ5 ?_ I5.1 I5.2 ?_⟩)
    · unfold am_fits; rw [if_pos qi]
    · have a5 : am_c1 172 k 1 σ σ5 := (a2.o f4 (by decide)).fx f5 (by decide)
      have b5 : am_c1 173 k (am_nU s (am_tE s o)) σ σ5 := (am_c1.ww (fun j _ => by rw [f2 173 j (by simp) (by unfold am_mc4; simp), am_stO f1 (by decide)]) f4).fx f5 (by decide)
      exact ⟨⟨a5.1, b5.1, fun z => absurd rfl z⟩, fun j hj => ⟨a5.2 j hj, b5.2 j hj, by rw [f5 174 j (by simp) (by unfold am_mc4; simp), am_stO f4 (by decide), f2 174 j (by simp) (by unfold am_mc4; simp), am_stO f1 (by decide)]⟩⟩
  · unfold am_fits; rw [if_neg (by rw [qi]; decide)]
/-- the token is the word -/
theorem am_tokw {o i : Nat} (ho : o ≤ am_n s) (hi : i < 7) {c : Int} (hc : am_Wc i (am_len.getD i 0) = c) (hT : am_TM s o σ) : (am_cmp (σ.2 147 35) c = 0 ↔ am_wv s o i = true) := by
  rw [am_cmpE.2, hT.2.2.1, ← hc, am_tok_W ho hi]; exact am_wv_t.symm
theorem m_isSplit {o k : Nat} (hM : am_RM w h s σ) (hO : am_OK w h s) (ho : o + 4 ≤ am_tE s o) (hon : o ≤ am_n s) (hT : am_TM s o σ) (hk : k < 160) (e39 : σ.1 147 39 = (k : Int))
    (k1 : ∀ t o' σ', am_spl s ((w * h : Nat) : Int) o = (some t, o') → am_fx am_mF am_mc5 σ σ' → am_TM s o' σ' → am_atk 172 173 174 k t σ σ' → Po (some (Zi 1)) am_SH σ') (k0 : ∀ o' σ', am_spl s ((w * h : Nat) : Int) o = (none, o') → am_fx am_mF am_mc5 σ σ' → σ'.1 147 38 = (am_ts (s 14) (am_n s) o' : Int) → Po (some (Zi 0)) am_SH σ') : am_U x m_Mo_isSplit Po σ 0 [some (Zr 147), none] [] := by
  have hwh := am_wh hO
  have n160 := (am_n_b hO).2.1
  have e1 := am_tE_b (s := s) hon
  have e2 := am_tE_b (s := s) e1.2
  refine s_Mo_isSplit_0 ?_
  rw [e39, Int.toNat_natCast]
  refine ⟨by omega, fun σ1 f1 => ?_⟩
  have I1 : am_fx am_mF am_mc5 σ σ1 := am_wF am_fx.rf f1 (by decide)
  refine m_nxt hM hO hon I1 (hT.o f1 (by decide)) (fun σ2 f2 I2 => ⟨rfl, rfl, ?_⟩)
  have a2 : am_c1 172 k 4 σ σ2 := (am_c1.ww (fun _ _ => rfl) f1).fx f2 (by decide)
  refine m_isNum e1.2 I2.2 (by decide) (by decide) (by decide) (fun qi ev => ⟨1, rfl, rfl, by decide, fun _ => ?_, fun z => absurd z (by decide)⟩) (fun qi => ⟨0, rfl, rfl, by decide, fun z => absurd rfl z, fun _ => m_no I2 (fun σ' f' e' => k0 _ σ' ?_ f' e')⟩)
  · rw [am_mI_k e39 I2.1, Int.toNat_natCast, ev]
    refine ⟨by omega, fun σ4 f4 => ?_⟩
    have I4 : am_fx am_mF am_mc5 σ σ4 := am_wF I2.1 f4 (by decide)
    have T4 := I2.2.o f4 (by decide)
    have a4 := a2.o f4 (by decide)
    have b4 : am_c1 173 k (am_nU s (am_tE s o)) σ σ4 := am_c1.ww (fun j _ => by rw [f2 173 j (by simp) (by unfold am_mc4; simp), am_stO f1 (by decide)]) f4
    rw [am_mI_k e39 I4, Int.toNat_natCast]
    refine ⟨by omega, fun σ5 f5 => ?_⟩
    have I5 : am_fx am_mF am_mc5 σ σ5 := am_wF I4 f5 (by decide)
    have c5 : am_c1 174 k 0 σ σ5 := am_c1.ww (fun j _ => by rw [am_stO f4 (by decide), f2 174 j (by simp) (by unfold am_mc4; simp), am_stO f1 (by decide)]) f5
    refine m_nxt hM hO e1.2 I5 (T4.o f5 (by decide)) (fun σ6 f6 I6 => ⟨rfl, rfl, am_tok_rl e2.2 I6.2, am_cmpE.1, fun q => ?_, fun q => m_no I6 (fun σ' f' e' => k0 _ σ' ?_ f' e')⟩)
    · have qw := (am_tokw e2.2 (by decide) (i := 5) (by decide) I6.2).mp q
      have est2 : am_spl s ((w * h : Nat) : Int) o = ((am_clp s ((w * h : Nat) : Int) 161 (am_tE s (am_tE s o)) 0).1.map (fun c => ((4 : Int), am_nU s (am_tE s o), c)), (am_clp s ((w * h : Nat) : Int) 161 (am_tE s (am_tE s o)) 0).2) := by
        unfold am_spl; rw [if_pos qi, if_pos qw]
      have cells : ∀ (f i oo : Nat) (acc : Int) (τ : am_St), oo ≤ am_n s → i < oo → i + f = 161 → am_MI s σ oo τ → am_c1 172 k 4 σ τ → am_c1 173 k (am_nU s (am_tE s o)) σ τ → am_c1 174 k acc σ τ → am_clp s ((w * h : Nat) : Int) 161 (am_tE s (am_tE s o)) 0 = am_clp s ((w * h : Nat) : Int) f oo acc → am_U x m_Mo_isSplit Po τ 74 [some (Zr 147), some (Zi 1)] [] := by
        intro f
        induction f with
        | zero =>
          intro i oo acc τ hoo hi hf
          omega
        | succ f ihf =>
          intro i oo acc τ hoo hi hf I a b c hc
          have e3 := am_tE_b (s := s) hoo
          have e4 := am_tE_b (s := s) e3.2
          have er : am_clp s ((w * h : Nat) : Int) (f + 1) oo acc = if am_ins s (am_tE s oo) 0 (((w * h : Nat) : Int) - 1) then (if am_wv s (am_tE s (am_tE s oo)) 6 then am_clp s ((w * h : Nat) : Int) f (am_tE s (am_tE s oo)) (am_or acc (am_shl 1 (am_nU s (am_tE s oo)))) else (some (am_or acc (am_shl 1 (am_nU s (am_tE s oo)))), am_tE s (am_tE s oo))) else (none, am_tE s oo) := rfl
          rw [er] at hc
          refine s_Mo_isSplit_74 ⟨by decide, fun z => absurd z (by decide), fun _ => m_nxt hM hO hoo I.1 I.2 (fun τ3 f3 I3 => ⟨rfl, rfl, m_cells (hM.fx I3.1 (by decide)) ⟨_, rfl, rfl, ?_⟩⟩)⟩
          have a3 := a.fx f3 (by decide)
          have b3 := b.fx f3 (by decide)
          have c3 := c.fx f3 (by decide)
          refine m_isNum e3.2 I3.2 (by decide) (by decide) (by omega) (fun qn ev3 => ⟨1, rfl, rfl, by decide, fun _ => ?_, fun z => absurd z (by decide)⟩) (fun qn => ⟨0, rfl, rfl, by decide, fun z => absurd rfl z, fun _ => m_no I3 (fun σ' f' e' => k0 _ σ' ?_ f' e')⟩)
          · rw [if_pos qn] at hc
            have np := am_tE_n (s := s) e3.2 (by decide) qn
            rw [am_mI_k e39 I3.1, Int.toNat_natCast, ev3, c3.1]
            refine ⟨by omega, fun τ4 f4 => ?_⟩
            have I4' : am_fx am_mF am_mc5 σ τ4 := am_wF I3.1 f4 (by decide)
            have c4 := am_c1.ww c3.2 f4
            refine m_nxt hM hO e3.2 I4' (I3.2.o f4 (by decide)) (fun τ5 f5 I5' => ⟨rfl, rfl, am_tok_rl e4.2 I5'.2, am_cmpE.1, fun q6 => ?_, fun q6 => ?_⟩)
            · have a5 := (a3.o f4 (by decide)).fx f5 (by decide)
              have b5 := (b3.o f4 (by decide)).fx f5 (by decide)
              have c5' := c4.fx f5 (by decide)
              rw [if_neg (fun z => q6 ((am_tokw e4.2 (by decide) (i := 6) (by decide) I5'.2).mpr z))] at hc
              refine s_Mo_isSplit_146 (s_Mo_isSplit_74 ⟨by decide, fun _ => k1 (4, am_nU s (am_tE s o), am_or acc (am_shl 1 (am_nU s (am_tE s oo)))) (am_tE s (am_tE s oo)) τ5 ?_ I5'.1 I5'.2 ⟨⟨a5.1, b5.1, fun _ => c5'.1⟩, fun j hj => ⟨a5.2 j hj, b5.2 j hj, c5'.2 j hj⟩⟩, fun z => absurd rfl z⟩)
              rw [est2, hc]; rfl
            · rw [if_pos ((am_tokw e4.2 (by decide) (i := 6) (by decide) I5'.2).mp q6)] at hc
              exact s_Mo_isSplit_146 (ihf (i + 1) _ _ τ5 e4.2 (by omega) (by omega) I5' ((a3.o f4 (by decide)).fx f5 (by decide)) ((b3.o f4 (by decide)).fx f5 (by decide)) (c4.fx f5 (by decide)) hc)
          · rw [if_neg (by rw [qn]; decide)] at hc
            rw [est2, hc]; rfl
      exact cells 161 0 _ 0 σ6 e2.2 (by omega) (by omega) I6 ((a4.o f5 (by decide)).fx f6 (by decide)) ((b4.o f5 (by decide)).fx f6 (by decide)) (c5.fx f6 (by decide)) rfl
    · unfold am_spl; rw [if_pos qi, if_neg (fun z => q ((am_tokw e2.2 (by decide) (i := 5) (by decide) I6.2).mpr z))]
  · unfold am_spl; rw [if_neg (by rw [qi]; decide)]
theorem m_stm {o k : Nat} (hM : am_RM w h s σ) (hO : am_OK w h s) (ho : o ≤ am_n s) (hT : am_TM s o σ) (hk : k < 160) (e39 : σ.1 147 39 = (k : Int))
    (k1 : ∀ t o' σ', am_stm w h s o = (some t, o') → am_fx am_mF am_mc5 σ σ' → am_TM s o' σ' → am_atk 172 173 174 k t σ σ' → Po (some (Zi 1)) am_SH σ') (k0 : ∀ o' σ', am_stm w h s o = (none, o') → am_fx am_mF am_mc5 σ σ' → σ'.1 147 38 = (am_ts (s 14) (am_n s) o' : Int) → Po (some (Zi 0)) am_SH σ') : am_U x m_Mo_isStatement Po σ 0 [some (Zr 147)] [] := by
  obtain ⟨bP, -, -, bE, bS⟩ := am_OKb hO
  have hwh := am_wh hO
  have p1 : ∀ {P : Int → Prop} {z : Int}, z = 1 → P z → ∃ z', z = z' ∧ P z' := fun _ h => ⟨_, rfl, h⟩
  have w0 := am_tokw ho (by decide) (i := 0) (c := 383153) (by decide) hT
  have w1 := am_tokw ho (by decide) (i := 1) (c := 4637) (by decide) hT
  have w2 := am_tokw ho (by decide) (i := 2) (c := 267413) (by decide) hT
  have w3 := am_tokw ho (by decide) (i := 3) (c := 1841546) (by decide) hT
  have w4 := am_tokw ho (by decide) (i := 4) (c := 10421318) (by decide) hT
  refine s_Mo_isStatement_0 ⟨am_tok_rl ho hT, am_cmpE.1, fun q0 => ⟨am_cmpE.1, fun q1 => ⟨am_cmpE.1, fun q2 => ⟨am_cmpE.1, fun q3 => ⟨am_cmpE.1, fun q4 => ?_, fun q4 => ?_⟩, fun q3 => ?_⟩, fun q2 => ?_⟩, fun q1 => ?_⟩, fun q0 => ?_⟩
  · refine m_fails hT (fun σ' f' e' => ⟨_, rfl, rfl, s_Mo_isStatement_116 ⟨Or.inl rfl, k0 o σ' ?_ (am_fx.rf.tr f' (ks := []) (ps := []) (by decide) (by decide)) e'⟩⟩)
    unfold am_stm; rw [if_neg (fun z => q0 (w0.mpr z)), if_neg (fun z => q1 (w1.mpr z)), if_neg (fun z => q2 (w2.mpr z)), if_neg (fun z => q3 (w3.mpr z)), if_neg (fun z => q4 (w4.mpr z))]
  · have est : am_stm w h s o = am_spl s ((w * h : Nat) : Int) o := by
      unfold am_stm; rw [if_neg (fun z => q0 (w0.mpr z)), if_neg (fun z => q1 (w1.mpr z)), if_neg (fun z => q2 (w2.mpr z)), if_neg (fun z => q3 (w3.mpr z)), if_pos (w4.mp q4)]
    have l4 := am_tE_w ho (w4.mp q4)
    have l5 : am_len.getD 4 0 = 5 := rfl
    exact m_isSplit hM hO (by omega) ho hT hk e39 (fun t o' σ' a b c d => ⟨_, rfl, rfl, s_Mo_isStatement_116 ⟨Or.inr rfl, k1 t o' σ' (est.trans a) b c d⟩⟩) (fun o' σ' a b c => ⟨_, rfl, rfl, s_Mo_isStatement_116 ⟨Or.inl rfl, k0 o' σ' (est.trans a) b c⟩⟩)
  · have est : am_stm w h s o = am_two s o 3 (s 0 2 - 1) 0 99 := by
      unfold am_stm; rw [if_neg (fun z => q0 (w0.mpr z)), if_neg (fun z => q1 (w1.mpr z)), if_neg (fun z => q2 (w2.mpr z)), if_pos (w3.mp q3)]
    rw [hM.1.as 147 5 2 (by decide)]
    exact m_isTwo hM hO ho hT hk e39 (by decide) (by decide) (by omega) (by decide) (fun t o' σ' a b c d => ⟨_, rfl, rfl, Or.inr rfl, k1 t o' σ' (est.trans a) b c d⟩) (fun o' σ' a b c => ⟨_, rfl, rfl, Or.inl rfl, k0 o' σ' (est.trans a) b c⟩)
  · have est : am_stm w h s o = am_two s o 2 (s 0 3 - 1) 0 (((w * h : Nat) : Int) - 1) := by
      unfold am_stm; rw [if_neg (fun z => q0 (w0.mpr z)), if_neg (fun z => q1 (w1.mpr z)), if_pos (w2.mp q2)]
    rw [hM.1.as 147 8 3 (by decide)]
    exact m_cells hM ⟨_, rfl, rfl, m_isTwo hM hO ho hT hk e39 (by decide) (by decide) (by omega) (by omega) (fun t o' σ' a b c d => ⟨_, rfl, rfl, Or.inr rfl, k1 t o' σ' (est.trans a) b c d⟩) (fun o' σ' a b c => ⟨_, rfl, rfl, Or.inl rfl, k0 o' σ' (est.trans a) b c⟩)⟩
  · have est : am_stm w h s o = am_fits s o := by
      unfold am_stm; rw [if_neg (fun z => q0 (w0.mpr z)), if_pos (w1.mp q1)]
    exact m_isFit hM hO ho hT hk e39 (fun t o' σ' a b c d => ⟨_, rfl, rfl, Or.inr rfl, k1 t o' σ' (est.trans a) b c d⟩) (fun o' σ' a b c => ⟨_, rfl, rfl, Or.inl rfl, k0 o' σ' (est.trans a) b c⟩)
  · have est : am_stm w h s o = am_two s o 0 7 1 60 := by
      unfold am_stm; rw [if_pos (w0.mp q0)]
    exact m_isTwo hM hO ho hT hk e39 (by decide) (by decide) (by decide) (by decide) (fun t o' σ' a b c d => ⟨_, rfl, rfl, Or.inr rfl, k1 t o' σ' (est.trans a) b c d⟩) (fun o' σ' a b c => ⟨_, rfl, rfl, Or.inl rfl, k0 o' σ' (est.trans a) b c⟩)
end AMSQ
