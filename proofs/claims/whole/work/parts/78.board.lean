/-! ===== board of the model ===== -/
section AMBD
variable {x : am_Sc} {Po : Option am_AV → am_Sh → am_St → Prop} {σ : am_St} {w h w2 h2 : Nat} {s s2 : Nat → Nat → Int}
theorem am_RM.ar2 {s' : Nat → Nat → Int} {σ' : am_St} {k r n : Nat} {ks : List Nat} (hM : am_RM w h s σ) (hf : am_fx (k :: ks) [] σ σ') (hk2 : (am_okF am_MR am_MS ks [] && (!ks.contains 147 && (!([] : List (Nat × Nat)).contains (147, 0) && !([] : List (Nat × Nat)).contains (147, 1)))) = true) (hk : ((am_MR.all (fun q => (q.1 == k) == (q.2.1 == r) && (!(q.1 == k) || q.2.2 == n)) && (am_MS.all (fun q => !(q.1 == k)) && !(r == 0))) && !(k == 147)) = true) (hs : ∀ r' j, r' ≠ r → s' r' j = s r' j) (h1 : ∀ j, j < n → σ'.1 k j = s' r j) : am_RM w h s' σ' := by
  obtain ⟨σm, hσ⟩ : ∃ σm : am_St, σm = (fun k' j => if k' = k then σ.1 k j else σ'.1 k' j, σ.2) := ⟨_, rfl⟩
  have e : ∀ k' j, σm.1 k' j = if k' = k then σ.1 k j else σ'.1 k' j := fun k' j => by rw [hσ]
  have f1 : am_fx ks [] σ σm := fun k' j a1 _ => by
    rw [e]
    by_cases q : k' = k
    · rw [if_pos q, q]
    · rw [if_neg q]; exact hf k' j (by simp [q, a1]) (by simp)
  have f2 : am_fx [k] [] σm σ' := fun k' j a1 _ => by
    rw [e, if_neg (by simpa using a1)]
  exact (hM.fx f1 hk2).arr f2 hk hs h1
theorem m_board {a b t : Int} (hM : am_RM w h s σ) (hX : am_RX w2 h2 s2 σ) (hO : am_OK w h s) (ra : am_r a) (rb : am_r b) (rt : am_r t) (kk : ∀ σ', am_RM w h s σ' → am_RX w2 h2 s2 σ' → Po (some (Zi (A_board w h s a b t))) am_SH σ') : am_U x m_Mo_board Po σ 0 [some (Zr 147), some (Zi a), some (Zi b), some (Zi t), none, none] [] := by
  obtain ⟨bP, -⟩ := am_OKb hO
  have lP : am_P s ≤ 12 := by unfold am_P; omega
  have out : ¬ ((1 ≤ a ∧ a ≤ 60) ∧ (1 ≤ b ∧ b ≤ 60) ∧ (0 ≤ t ∧ t ≤ 20)) → am_U x m_Mo_board Po σ 30 [none, none, none, none, none, none] [] := fun z => s_Mo_board_30 (am_fM kk (by simp only [A_board]; rw [if_neg z]) rfl hM hX)
  refine s_Mo_board_0 (c_in ra (by decide) (by decide) (fun qa => br1e (c_in rb (by decide) (by decide) (fun qb => br1e (c_in rt (by decide) (by decide) (fun qt => br1n ?_) (fun q => br0n (out (fun z => q z.2.2))))) (fun q => br0e (out (fun z => q z.2.1))))) (fun q => br0e (out (fun z => q z.1))))
  have hO2 : am_OK w h (am_r2 s 2 (am_ob a b)) := am_r2_OK hO (fun j _ => am_ob_b qa qb j)
  have hO4 : am_OK w h (am_r2 s 2 (fun _ => (a + b) / 2)) := am_r2_OK hO (fun j _ => by show 1 ≤ (a + b) / 2 ∧ (a + b) / 2 ≤ 60; omega)
  have hO5 : am_OK w h (am_bF w h s a b t) := am_rn_OK hO4 _
  have e1 : ∀ r j, r ≠ 2 → am_bF w h s a b t r j = s r j := fun r j hr => by unfold am_bF; rw [am_rn_o hr, am_r2_o hr]
  have dv : am_div (a + b) 2 = (a + b) / 2 := am_div_nn (by omega) (by decide) (by omega) (by decide)
  -- counted and brought back
  have back : ∀ (d k : Nat) (τ : am_St), k + d = 8 → am_RM w h (am_r2 s 2 (fun j => if j < k then s 2 j else am_bF w h s a b t 2 j)) τ → am_RX w2 h2 s2 τ → (∀ j, j < 8 → τ.1 176 j = s 2 j) → am_U x m_Mo_board Po τ 182 [some (Zr 147), some (Zi a), some (Zi b), none, some (Zi (am_bN w h s a b t k)), some (Zi (k : Int))] [] := by
    intro d
    induction d with
    | zero =>
      intro k τ hk hMt hXt h176
      refine s_Mo_board_182 ⟨by omega, fun _ => ?_, fun q => absurd (by omega) q⟩
      rw [show k = 8 by omega]
      have hM8 : am_RM w h s τ := hMt.arr (k := 149) (r := 2) (n := 8) (s' := s) (am_fx.rf) (by decide) (fun r j hr => (am_r2_o hr).symm) (fun j hj => by rw [hMt.1.at 149 2 8 (by decide) hj, am_r2_s, if_pos (by omega)])
      exact am_fM kk (by simp only [A_board]; rw [if_pos ⟨qa, qb, qt⟩]) rfl hM8 hXt
    | succ d ih =>
      intro k τ hk hMt hXt h176
      have hOk : am_OK w h (am_r2 s 2 (fun j => if j < k then s 2 j else am_bF w h s a b t 2 j)) := am_r2_OK hO (fun j hj => by
        show 1 ≤ (if j < k then s 2 j else am_bF w h s a b t 2 j) ∧ (if j < k then s 2 j else am_bF w h s a b t 2 j) ≤ 60
        split
        · exact hO.2.2.2.2.2.2.2.2.2.1 j hj
        · exact hO5.2.2.2.2.2.2.2.2.2.1 j hj)
      have eb : am_bsz w h (am_r2 s 2 (fun j => if j < k then s 2 j else am_bF w h s a b t 2 j)) k = am_bsz w h s k := am_bsz_o (fun c => am_r2_o (by decide)) k
      have sb := am_bsz_b (w := w) (h := h) (s := s) (b := k)
      have hwh := am_wh hO
      have es : am_bN w h s a b t (k + 1) = am_bN w h s a b t k + if ¬ am_bsz w h s k = 0 ∧ am_bF w h s a b t 2 k = am_ob a b k then 1 else 0 := rfl
      have e9 : τ.1 149 k = am_bF w h s a b t 2 k := by rw [hMt.1.at 149 2 8 (by decide) (by omega), am_r2_s, if_neg (Nat.lt_irrefl k)]
      have v3 := hO5.2.2.2.2.2.2.2.2.2.1 k (by omega)
      have vo := am_ob_b qa qb k
      have put : ∀ y : Int, y = (if ¬ am_bsz w h s k = 0 ∧ am_bF w h s a b t 2 k = am_ob a b k then 1 else 0) → am_U x m_Mo_board Po τ 227 [some (Zr 147), some (Zi a), some (Zi b), none, none, some (Zi (k : Int))] [Zi y, Zi (am_bN w h s a b t k)] := fun y hy => by
        refine s_Mo_board_227 ⟨by omega, fun τ1 f1 => ?_⟩
        rw [Int.toNat_natCast, h176 k (by omega)] at f1
        have hM1 : am_RM w h (am_r2 s 2 (fun j => if j < k + 1 then s 2 j else am_bF w h s a b t 2 j)) τ1 := hMt.arr (k := 149) (r := 2) (n := 8) (am_fx.o1 f1) (by decide) (fun r j hr => by rw [am_r2_o hr, am_r2_o hr]) (fun j hj => by
          rw [am_stR f1, am_r2_s]
          by_cases e : j = k
          · rw [if_pos e, if_pos (by omega), e]
          · rw [if_neg e, hMt.1.at 149 2 8 (by decide) hj, am_r2_s]
            by_cases e2 : j < k
            · rw [if_pos e2, if_pos (by omega)]
            · rw [if_neg e2, if_neg (by omega)])
        have := ih (k + 1) τ1 (by omega) hM1 (hXt.fx (am_fx.o1 f1) (by decide)) (fun j hj => by rw [am_stO f1 (by decide)]; exact h176 j hj)
        rw [es, ← hy, show ((k + 1 : Nat) : Int) = (k : Int) + 1 by omega] at this
        exact this
      refine s_Mo_board_182 ⟨by omega, fun q => absurd q (by omega), fun _ => m_sizeOf hMt hOk (by omega) ⟨_, rfl, rfl, ?_⟩⟩
      rw [eb, Int.toNat_natCast, e9, am_rem_nn (by omega) (by decide) (by omega)]
      have t219 : ∀ v : Int, v = am_ob a b k → ¬ am_bsz w h s k = 0 → am_U x m_Mo_board Po τ 219 [some (Zr 147), some (Zi a), some (Zi b), none, none, some (Zi (k : Int))] [Zi v, Zi (am_bF w h s a b t 2 k), Zi (am_bN w h s a b t k)] := fun v hv nz => by
        subst hv
        refine s_Mo_board_219 ⟨by omega, by omega, fun q => s_Mo_board_226 (put 0 ?_), fun q => put 1 ?_⟩
        · rw [if_neg (fun z => q z.2)]
        · rw [if_pos ⟨nz, q⟩]
      refine ⟨by omega, fun q => s_Mo_board_226 (put 0 ?_), fun q => ⟨by omega, by omega, fun q2 => t219 b ?_ (by omega), fun q2 => t219 a ?_ (by omega)⟩⟩
      · rw [if_neg (fun z => z.1 (by omega))]
      · unfold am_ob; rw [if_neg (by omega)]
      · unfold am_ob; rw [if_pos (by omega)]
  -- the middle slowness everywhere
  have fill : ∀ (d k : Nat) (τ0 τ : am_St), k + d = 8 → am_RM w h (am_r2 s 2 (am_ob a b)) τ0 → am_RX w2 h2 s2 τ0 → (∀ j, j < 8 → τ0.1 176 j = s 2 j) → am_MH s (am_bL w h s a b t) (am_bH w h s a b t) τ0 → am_fx [149] [] τ0 τ → (∀ j, j < k → τ.1 149 j = (a + b) / 2) → am_U x m_Mo_board Po τ 145 [some (Zr 147), some (Zi a), some (Zi b), none, some (Zi (k : Int)), none] [] := by
    intro d
    induction d with
    | zero =>
      intro k τ0 τ hk hM0 hX0 h176 hH hf hv
      have hM4 : am_RM w h (am_r2 s 2 (fun _ => (a + b) / 2)) τ := hM0.arr (k := 149) (r := 2) (n := 8) hf (by decide) (fun r j hr => by rw [am_r2_o hr, am_r2_o hr]) (fun j hj => by rw [am_r2_s]; exact hv j (by omega))
      refine s_Mo_board_145 ⟨by omega, fun _ => ?_, fun q => absurd (by omega) q⟩
      have fa := m_fitAll (x := x) (Po := fun ro12 so12 σ12 => ro12 = none ∧ so12 = am_SH ∧ am_U x m_Mo_board Po σ12 182 [some (Zr 147), some (Zi a), some (Zi b), none, some (Zi 0), some (Zi 0)] []) (n := 10) hM4 hO4 (by decide) (am_bLH hO qa qb qt) (fun p hp => by rw [am_P_r2] at hp; rw [hf.g 163 (by decide), hf.g 161 (by decide), hf.g 162 (by decide)]; exact hH p hp) (fun τ1 f1 hM5 => ⟨rfl, rfl, ?_⟩)
      · exact fa
      have hM5' : am_RM w h (am_r2 s 2 (fun j => if j < 0 then s 2 j else am_bF w h s a b t 2 j)) τ1 := by
        have e : am_r2 s 2 (fun j => if j < 0 then s 2 j else am_bF w h s a b t 2 j) = am_bF w h s a b t := by
          funext r j
          by_cases er : r = 2
          · rw [er, am_r2_s, if_neg (Nat.not_lt_zero j)]
          · rw [am_r2_o er, e1 r j er]
        rw [e]; exact hM5
      exact back 8 0 τ1 (by omega) hM5' ((hX0.fx hf (by decide)).fx f1 (by decide)) (fun j hj => by rw [f1.g 176 (by decide), hf.g 176 (by decide)]; exact h176 j hj)
    | succ d ih =>
      intro k τ0 τ hk hM0 hX0 h176 hH hf hv
      refine s_Mo_board_145 ⟨by omega, fun q => absurd q (by omega), fun _ => ⟨by omega, fun τ1 f1 => ?_⟩⟩
      rw [Int.toNat_natCast, dv] at f1
      have := ih (k + 1) τ0 τ1 (by omega) hM0 hX0 h176 hH (hf.tr (am_fx.o1 f1) (by decide) (by decide)) (fun j hj => by
        rw [am_stR f1]
        by_cases e : j = k
        · rw [if_pos e]
        · rw [if_neg e]; exact hv j (by omega))
      rw [show ((k + 1 : Nat) : Int) = (k : Int) + 1 by omega] at this
      exact this
  -- the spans
  have spans : ∀ (d p : Nat) (τ : am_St), p + d = am_P s → am_RM w h (am_r2 s 2 (am_ob a b)) τ → am_RX w2 h2 s2 τ → (∀ j, j < 8 → τ.1 176 j = s 2 j) → am_ST w h (am_r2 s 2 (am_ob a b)) (2 * (am_r2 s 2 (am_ob a b) 0 3).toNat) τ → (∀ p', p' < p → τ.1 163 p' = 1 ∧ τ.1 161 p' = am_bL w h s a b t p' ∧ τ.1 162 p' = am_bH w h s a b t p') → am_U x m_Mo_board Po τ 89 [some (Zr 147), some (Zi a), some (Zi b), some (Zi t), some (Zi (p : Int)), none] [] := by
    intro d
    induction d with
    | zero =>
      intro p τ hp hMt hXt h176 hST hv
      have eP : τ.1 147 11 = (am_P s : Int) := by rw [hMt.1.as 147 11 4 (by decide), am_r2_o (by decide)]; unfold am_P; omega
      refine s_Mo_board_89 ?_
      rw [eP]
      exact ⟨by omega, by omega, fun _ => fill 8 0 τ τ (by omega) hMt hXt h176 (fun p' hp' => hv p' (by omega)) am_fx.rf (fun j hj => absurd hj (Nat.not_lt_zero j)), fun q => absurd (by omega) q⟩
    | succ d ih =>
      intro p τ hp hMt hXt h176 hST hv
      have eP : τ.1 147 11 = (am_P s : Int) := by rw [hMt.1.as 147 11 4 (by decide), am_r2_o (by decide)]; unfold am_P; omega
      have pP : p < am_P (am_r2 s 2 (am_ob a b)) := by rw [am_P_r2]; omega
      refine s_Mo_board_89 ?_
      rw [eP]
      refine ⟨by omega, by omega, fun q => absurd q (by omega), fun _ => ⟨by omega, fun τ1 f1 => ?_⟩⟩
      rw [Int.toNat_natCast] at f1
      have hM1 := hMt.fx (am_fx.o1 f1) (by decide)
      have hS1 : am_ST w h (am_r2 s 2 (am_ob a b)) (2 * (am_r2 s 2 (am_ob a b) 0 3).toNat) τ1 := fun a1 a2 a3 b1 b2 b3 => by rw [am_stO f1 (by decide)]; exact hST a1 a2 a3 b1 b2 b3
      refine m_foretold hM1 hO2 pP hS1 ⟨_, rfl, rfl, fun τ2 f2 => ?_⟩
      rw [Int.toNat_natCast] at f2
      have hM2 := hM1.fx (am_fx.o1 f2) (by decide)
      have hS2 : am_ST w h (am_r2 s 2 (am_ob a b)) (2 * (am_r2 s 2 (am_ob a b) 0 3).toNat) τ2 := fun a1 a2 a3 b1 b2 b3 => by rw [am_stO f2 (by decide)]; exact hS1 a1 a2 a3 b1 b2 b3
      refine m_foretold hM2 hO2 pP hS2 ⟨_, rfl, rfl, fun τ3 f3 => ?_⟩
      rw [Int.toNat_natCast] at f3
      have F : am_fx [161, 162, 163] [] τ τ3 := ((am_fx.o1 f1).tr (am_fx.o1 f2) (ks2 := [161, 163]) (ps2 := []) (by decide) (by decide)).tr (am_fx.o1 f3) (by decide) (by decide)
      have := ih (p + 1) τ3 (by omega) (hM2.fx (am_fx.o1 f3) (by decide)) (hXt.fx F (by decide)) (fun j hj => by rw [F.g 176 (by decide)]; exact h176 j hj) (fun a1 a2 a3 b1 b2 b3 => by rw [am_stO f3 (by decide)]; exact hS2 a1 a2 a3 b1 b2 b3) (fun p' hp' => by
        rw [am_stO f3 (show 163 ≠ 162 by decide), am_stO f2 (show 163 ≠ 161 by decide), am_stR f1, am_stO f3 (show 161 ≠ 162 by decide), am_stR f2, am_stR f3]
        by_cases e : p' = p
        · rw [if_pos e, if_pos e, if_pos e, e]; exact ⟨rfl, rfl, rfl⟩
        · rw [if_neg e, if_neg e, if_neg e, am_stO f1 (show 161 ≠ 163 by decide), am_stO f2 (show 162 ≠ 161 by decide), am_stO f1 (show 162 ≠ 163 by decide)]; exact hv p' (by omega))
      rw [show ((p + 1 : Nat) : Int) = (p : Int) + 1 by omega] at this
      exact this
  have paint : ∀ (d k : Nat) (τ : am_St), k + d = 8 → am_fx [149, 176] [] σ τ → (∀ j, j < 8 → τ.1 149 j = if j < k then am_ob a b j else s 2 j) → (∀ j, j < k → τ.1 176 j = s 2 j) → am_U x m_Mo_board Po τ 36 [some (Zr 147), some (Zi a), some (Zi b), some (Zi t), some (Zi (k : Int)), none] [] := by
    intro d
    induction d with
    | zero =>
      intro k τ hk hf hv h176
      have hM2 : am_RM w h (am_r2 s 2 (am_ob a b)) τ := hM.ar2 (k := 149) (ks := [176]) (r := 2) (n := 8) hf (by decide) (by decide) (fun r j hr => am_r2_o hr) (fun j hj => by rw [am_r2_s, hv j hj, if_pos (by omega)])
      refine s_Mo_board_36 ⟨by omega, fun _ => m_shakeTimes hM2 hO2 (fun τ1 f1 hST => ⟨rfl, rfl, ?_⟩), fun q => absurd (by omega) q⟩
      exact spans _ 0 τ1 (Nat.zero_add _) (hM2.fx f1 (by decide)) ((hX.fx hf (by decide)).fx f1 (by decide)) (fun j hj => by rw [f1.g 176 (by decide)]; exact h176 j (by omega)) hST (fun p' hp' => absurd hp' (Nat.not_lt_zero p'))
    | succ d ih =>
      intro k τ hk hf hv h176
      have go : ∀ (τ1 : am_St) (v : Int), τ1 = (am_up τ.1 176 k (τ.1 149 k), τ.2) → v = am_ob a b k → am_U x m_Mo_board Po τ1 75 [some (Zr 147), some (Zi a), some (Zi b), some (Zi t), some (Zi (k : Int)), none] [Zi v, Zi (k : Int), Zr 149] := fun τ1 v f1 ev => by
        refine s_Mo_board_75 ⟨by omega, fun τ2 f2 => ?_⟩
        rw [Int.toNat_natCast] at f2
        have := ih (k + 1) τ2 (by omega) ((hf.tr (am_fx.o1 f1) (ks2 := [149, 176]) (ps2 := []) (by decide) (by decide)).tr (am_fx.o1 f2) (by decide) (by decide)) (fun j hj => by
          rw [am_stR f2]
          by_cases e : j = k
          · rw [if_pos e, if_pos (by omega), ev, e]
          · rw [if_neg e, am_stO f1 (by decide), hv j hj]
            by_cases e2 : j < k
            · rw [if_pos e2, if_pos (by omega)]
            · rw [if_neg e2, if_neg (by omega)]) (fun j hj => by
          rw [am_stO f2 (by decide), am_stR f1]
          by_cases e : j = k
          · rw [if_pos e, hv k (by omega), if_neg (Nat.lt_irrefl k), e]
          · rw [if_neg e]; exact h176 j (by omega))
        rw [show ((k + 1 : Nat) : Int) = (k : Int) + 1 by omega] at this
        exact this
      refine s_Mo_board_36 ⟨by omega, fun q => absurd q (by omega), fun _ => ⟨by omega, fun τ1 f1 => ?_⟩⟩
      rw [Int.toNat_natCast] at f1
      rw [am_rem_nn (by omega) (by decide) (by omega)]
      refine ⟨by omega, fun q => go τ1 b f1 ?_, fun q => go τ1 a f1 ?_⟩
      · unfold am_ob; rw [if_neg (by omega)]
      · unfold am_ob; rw [if_pos (by omega)]
  exact paint 8 0 σ (by omega) am_fx.rf (fun j hj => by rw [if_neg (Nat.not_lt_zero j)]; exact hM.1.at 149 2 8 (by decide) hj) (fun j hj => absurd hj (Nat.not_lt_zero j))
end AMBD
