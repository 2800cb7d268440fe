/-! ===== the table filled; one block improved ===== -/
def am_tl : List Nat := 3 :: 5 :: 6 :: 102 :: am_tms
section AMIM
variable {x : am_Sc} {Po : Option am_AV → am_Sh → am_St → Prop} {σ : am_St} {w h w2 h2 : Nat} {s s2 : Nat → Nat → Int}
theorem am_tl_n {k : Nat} (h : k ≠ 3 ∧ k ≠ 5 ∧ k ≠ 6 ∧ k ≠ 102 ∧ (k < 41 ∨ 101 < k)) : k ∉ am_tl := by
  unfold am_tl
  simp only [List.mem_cons, not_or]
  exact ⟨h.1, h.2.1, h.2.2.1, h.2.2.2.1, am_tms_n h.2.2.2.2⟩
theorem am_tl_t {k : Nat} (h : k ∈ am_tms) : k ∈ am_tl := by unfold am_tl; simp only [List.mem_cons]; exact Or.inr (Or.inr (Or.inr (Or.inr h)))
theorem am_fx.tl {σ1 σ2 : am_St} {ks : List Nat} (h1 : am_fx am_tl [] σ σ1) (h2 : am_fx ks [] σ1 σ2) (hk : ∀ k, k ∈ ks → k ∈ am_tl) : am_fx am_tl [] σ σ2 := fun k j a1 a2 => by rw [h2 k j (fun z => a1 (hk k z)) a2]; exact h1 k j a1 a2
theorem x_tabulate {b sh : Nat} {k : Int} {m : Nat} {me : Nat → Nat} (hX : am_RX w h s σ) (hO : am_OK w h s) (hb : b < 8) (hsh : sh < am_S s) (hk : k = 0 ∨ k = 1) (hB : am_MB s sh k m me σ)
    (kk : ∀ σ', am_fx am_tl [] σ σ' → am_RX w h s σ' → (∀ v : Nat, 1 ≤ v → v ≤ 60 → ∀ i, i < m → σ'.1 (41 + v) i = am_Dm w h s b sh k me (v : Int) i) → Po none am_SH σ') : am_U x m_Ft_tabulate Po σ 0 [some (Zr 35), some (Zi (b : Int)), some (Zi (sh : Int)), some (Zi k), none, none, none, none, none, none, none] [] := by
  obtain ⟨s5, es, ls⟩ := am_OKs hO hsh
  have e3 : σ.1 3 b = s 2 b := hX.1.at 3 2 8 (by decide) hb
  have e11 : σ.1 11 sh = s 5 sh := hX.1.at 11 5 5 (by decide) s5
  have hX' : am_RX w h (am_sv s b (s 2 b)) σ := by rw [am_sv_id]; exact hX
  have in4 : ∀ v : Nat, v < 61 → ∀ k, k ∈ [3, 5, 6, 41 + v] → k ∈ am_tl := fun v hv k hk => by
    simp only [List.mem_cons, List.not_mem_nil, or_false] at hk
    rcases hk with z | z | z | z
    · rw [z]; decide
    · rw [z]; decide
    · rw [z]; decide
    · rw [z]; exact am_tl_t (am_tms_m v hv)
  -- the end
  have fin : ∀ (τ : am_St) (u : Int), am_fx am_tl [] σ τ → am_RX w h (am_sv s b u) τ → (∀ v : Nat, 1 ≤ v → v ≤ 60 → ∀ i, i < m → τ.1 (41 + v) i = am_Dm w h s b sh k me (v : Int) i) → am_U x m_Ft_tabulate Po τ 171 [some (Zr 35), some (Zi (b : Int)), none, none, some (Zi (s 2 b)), none, none, none, none, none, none] [] := fun τ u hf hXt ht => by
    refine s_Ft_tabulate_171 ⟨by omega, fun τ1 f1 => ?_⟩
    rw [Int.toNat_natCast] at f1
    have hX1 := hXt.sv f1
    rw [am_sv_id] at hX1
    exact kk τ1 (hf.tl (am_fx.o1 f1) (fun k hk => by rw [List.mem_singleton] at hk; rw [hk]; decide)) hX1 (fun v v1 v2 i hi => by rw [am_stO f1 (by omega)]; exact ht v v1 v2 i hi)
  have rounds : ∀ (N r l n : Nat) (τ : am_St) (u : Int), r + N = 118 → 2 * (60 - l) ≤ N + n → 1 ≤ l → l ≤ 60 → (n = 0 → l = 60) → (0 < n → τ.1 102 0 = 60) → (∀ j, j < n → (l : Int) < τ.1 102 j ∧ τ.1 102 j ≤ 60) → (∀ j j', j < j' → j' < n → τ.1 102 j' < τ.1 102 j) → (n : Int) ≤ 60 - l → am_fx am_tl [] σ τ → am_RX w h (am_sv s b u) τ → (∀ v : Nat, 1 ≤ v → (v ≤ l ∨ ∃ j, j < n ∧ τ.1 102 j = (v : Int)) → ∀ i, i < m → τ.1 (41 + v) i = am_Dm w h s b sh k me (v : Int) i) → am_U x m_Ft_tabulate Po τ 59 [some (Zr 35), some (Zi (b : Int)), none, some (Zi k), some (Zi (s 2 b)), some (Zi (s 5 sh)), some (Zi (l : Int)), some (Zi ((n : Int) - 1)), some (Zi (r : Int)), none, none] [] := by
    intro N
    induction N with
    | zero =>
      intro r l n τ u hr hph l1 l60 hn0 hn1 hE hE2 hnl hf hXt ht
      -- no number is left
      have n0 : n = 0 := by omega
      have ll := hn0 n0
      have last := fin τ u hf hXt (fun v v1 v2 => ht v v1 (Or.inl (by omega)))
      exact s_Ft_tabulate_59 ⟨by omega, fun _ => last, fun _ => ⟨by omega, fun _ => last, fun q => absurd (by omega) q⟩⟩
    | succ N ih =>
      intro r l n τ u hr hph l1 l60 hn0 hn1 hE hE2 hnl hf hXt ht
      by_cases n0 : n = 0
      · have ll := hn0 n0
        have last := fin τ u hf hXt (fun v v1 v2 => ht v v1 (Or.inl (by omega)))
        exact s_Ft_tabulate_59 ⟨by omega, fun _ => last, fun _ => ⟨by omega, fun _ => last, fun q => absurd (by omega) q⟩⟩
      · have np : 0 < n := by omega
        obtain ⟨e1, e2⟩ := hE (n - 1) (by omega)
        obtain ⟨R, hR⟩ : ∃ R : Nat, τ.1 102 (n - 1) = (R : Int) := ⟨(τ.1 102 (n - 1)).toNat, by omega⟩
        rw [hR] at e1 e2
        have hBt : am_MB s sh k m me τ := hB.fx (hf 35 6 (am_tl_n (by omega)) (by simp)) (fun i => hf 39 i (am_tl_n (by omega)) (by simp))
        have tl : ∀ i, i < m → τ.1 (41 + l) i = am_Dm w h s b sh k me (l : Int) i := ht l l1 (Or.inl (Nat.le_refl l))
        have tr : ∀ i, i < m → τ.1 (41 + R) i = am_Dm w h s b sh k me (R : Int) i := ht R (by omega) (Or.inr ⟨n - 1, by omega, hR⟩)
        have dv : am_div ((l : Int) + (R : Int)) 2 = (((l + R) / 2 : Nat) : Int) := by rw [am_div_nn (by omega) (by decide) (by omega) (by decide)]; omega
        -- an end is taken away
        have pop : ∀ (τ' : am_St) (u' : Int), am_fx am_tl [] σ τ' → am_RX w h (am_sv s b u') τ' → (∀ j, τ'.1 102 j = τ.1 102 j) → (∀ v : Nat, 1 ≤ v → (v ≤ l ∨ ∃ j, j < n ∧ τ.1 102 j = (v : Int)) → ∀ i, i < m → τ'.1 (41 + v) i = am_Dm w h s b sh k me (v : Int) i) → (∀ i, i < m → ∀ v : Nat, l < v → v < R → am_Dm w h s b sh k me (v : Int) i = am_Dm w h s b sh k me (l : Int) i + am_div (am_Dm w h s b sh k me (R : Int) i - am_Dm w h s b sh k me (l : Int) i) (am_pr (s 0 0) (R : Int) k - am_pr (s 0 0) (l : Int) k) * (am_pr (s 0 0) (v : Int) k - am_pr (s 0 0) (l : Int) k)) → am_U x m_Ft_tabulate Po τ' 134 [some (Zr 35), some (Zi (b : Int)), none, some (Zi k), some (Zi (s 2 b)), some (Zi (s 5 sh)), some (Zi (l : Int)), some (Zi ((n : Int) - 1)), some (Zi (r : Int)), some (Zi (R : Int)), none] [] := by
          intro τ' u' hf' hX2 hE' ht' hs
          have hB' : am_MB s sh k m me τ' := hB.fx (hf' 35 6 (am_tl_n (by omega)) (by simp)) (fun i => hf' 39 i (am_tl_n (by omega)) (by simp))
          refine s_Ft_tabulate_134 (x_fillLine hX2 hO hsh hk l1 (by omega) (by omega) hB' (ht' l l1 (Or.inl (Nat.le_refl l))) (ht' R (by omega) (Or.inr ⟨n - 1, by omega, hR⟩)) hs (fun τ2 g1 g2 g3 => ⟨rfl, rfl, s_Ft_tabulate_165 ?_⟩))
          have o102 : ∀ j, τ2.1 102 j = τ.1 102 j := fun j => by rw [g1 102 j (am_tms_n (by omega)) (by simp)]; exact hE' j
          have := ih (r + 1) R (n - 1) τ2 u' (by omega) (by omega) (by omega) (by omega) (fun z => ?_) (fun z => by rw [o102]; exact hn1 np) (fun j hj => ?_) (fun j j' a1 a2 => by rw [o102, o102]; exact hE2 j j' a1 (by omega)) ?_ (hf'.tl g1 (fun k hk => am_tl_t hk)) (hX2.fx g1 (by decide +kernel)) (fun v v1 hv i hi => ?_)
          · rw [show ((n - 1 : Nat) : Int) = (n : Int) - 1 by omega, show ((r + 1 : Nat) : Int) = (r : Int) + 1 by omega] at this
            exact this
          · have := hn1 np
            rw [show n - 1 = 0 by omega, this] at hR
            omega
          · rw [o102]
            have := hE2 j (n - 1) hj (by omega)
            rw [hR] at this
            exact ⟨this, (hE j (by omega)).2⟩
          · -- the ends that are left are different numbers
            have low : ∀ d, d < n - 1 → (R : Int) + 1 + d ≤ τ.1 102 (n - 2 - d) := by
              intro d
              induction d with
              | zero => intro hd; have := hE2 (n - 2) (n - 1) (by omega) (by omega); rw [hR] at this; rw [Nat.sub_zero]; omega
              | succ d ihd =>
                intro hd
                have := ihd (by omega)
                have := hE2 (n - 2 - (d + 1)) (n - 2 - d) (by omega) (by omega)
                omega
            rcases Nat.eq_zero_or_pos (n - 1) with z | z
            · omega
            · have h1 := low (n - 2) (by omega)
              have h2 := (hE (n - 2 - (n - 2)) (by omega)).2
              omega
          · by_cases q1 : v ≤ l
            · rw [g2 v (Or.inl q1)]; exact ht' v v1 (Or.inl q1) i hi
            · by_cases q2 : v < R
              · exact g3 v (by omega) q2 i hi
              · rw [g2 v (Or.inr (by omega))]
                refine ht' v v1 (Or.inr ?_) i hi
                rcases hv with hv | ⟨j, hj, ej⟩
                · exact ⟨n - 1, by omega, by rw [hR]; omega⟩
                · exact ⟨j, by omega, by rw [← o102]; exact ej⟩
        refine s_Ft_tabulate_59 ?_
        rw [show ((n : Int) - 1).toNat = n - 1 by omega, hR, dv]
        refine ⟨by omega, fun q => absurd q (by omega), fun _ => ⟨by omega, fun q => absurd q (by omega), fun _ => ⟨fun q => absurd q (by omega), fun _ => ⟨by omega, by omega, by omega, fun q => ?_, fun q => ?_⟩⟩⟩⟩
        · have eR : R = l + 1 := by omega
          refine s_Ft_tabulate_113 ⟨by omega, by omega, fun _ => pop τ u hf hXt (fun _ => rfl) ht (fun i hi v a1 a2 => absurd a2 (by omega)), fun z => absurd (by omega) z⟩
        · obtain ⟨M, hM⟩ : ∃ M : Nat, M = (l + R) / 2 := ⟨_, rfl⟩
          rw [← hM] at q ⊢
          have ML : l < M := by omega
          have MR : M < R := by omega
          refine x_measure hXt hO hb hsh hk (by omega) hBt (fun τ1 g1 hX1 g3 => ⟨rfl, rfl, ?_⟩)
          have hf1 : am_fx am_tl [] σ τ1 := hf.tl g1 (in4 M (by omega))
          have oo : ∀ v, v ≠ M → ∀ i, τ1.1 (41 + v) i = τ.1 (41 + v) i := fun v hv i => g1 _ i (by simp; omega) (by simp)
          have o102 : ∀ j, τ1.1 102 j = τ.1 102 j := fun j => g1 102 j (by simp; omega) (by simp)
          have hB1 : am_MB s sh k m me τ1 := hB.fx (hf1 35 6 (am_tl_n (by omega)) (by simp)) (fun i => hf1 39 i (am_tl_n (by omega)) (by simp))
          have ht1 : ∀ v : Nat, 1 ≤ v → (v ≤ l ∨ ∃ j, j < n ∧ τ.1 102 j = (v : Int)) → ∀ i, i < m → τ1.1 (41 + v) i = am_Dm w h s b sh k me (v : Int) i := fun v v1 hv i hi => by
            by_cases e : v = M
            · rw [e]; exact g3 i hi
            · rw [oo v e]; exact ht v v1 hv i hi
          refine s_Ft_tabulate_113 ⟨by omega, by omega, fun z => absurd z (by omega), fun _ => x_straight hX1 hO hsh hk (by omega) (by omega) (by omega) hB1 (fun i hi => by rw [oo l (by omega)]; exact tl i hi) g3 (fun i hi => by rw [oo R (by omega)]; exact tr i hi) (fun hst => br1e (pop τ1 _ hf1 hX1 o102 ht1 (fun i hi v a1 a2 => ?_))) (br0e ⟨by omega, fun τ2 f2 => s_Ft_tabulate_165 ?_⟩)⟩
          · obtain ⟨g1', g2', -, -⟩ := hB1.2.2 i hi
            obtain ⟨-, -, -, -, ⟨-, le⟩, -⟩ := am_OKp hO g2'
            exact am_Dv_str hO ls le (m := (M : Int)) (by omega) (by omega) (by omega) (by omega) (hst i hi) (v : Int) (by omega) (by omega)
          · rw [show ((n : Int) - 1 + 1).toNat = n by omega] at f2
            have E2 : ∀ j, τ2.1 102 j = if j = n then (M : Int) else τ.1 102 j := fun j => by rw [am_stR f2, o102]
            have := ih (r + 1) l (n + 1) τ2 (M : Int) (by omega) (by omega) l1 l60 (fun z => absurd z (by omega)) (fun _ => by rw [E2, if_neg (by omega)]; exact hn1 np) (fun j hj => by
              rw [E2]
              by_cases e : j = n
              · rw [if_pos e]; omega
              · rw [if_neg e]; exact hE j (by omega)) (fun j j' a1 a2 => by
              rw [E2, E2, if_neg (show ¬ j = n by omega)]
              by_cases e : j' = n
              · rw [if_pos e]
                by_cases e2 : j = n - 1
                · rw [e2, hR]; omega
                · have := hE2 j (n - 1) (by omega) (by omega)
                  rw [hR] at this; omega
              · rw [if_neg e]; exact hE2 j j' a1 (by omega)) ?_ (hf1.tl (am_fx.o1 f2) (fun k hk => by rw [List.mem_singleton] at hk; rw [hk]; decide)) (hX1.fx (am_fx.o1 f2) (by decide)) (fun v v1 hv i hi => ?_)
            · rw [show ((n + 1 : Nat) : Int) - 1 = (n : Int) - 1 + 1 by omega, show ((r + 1 : Nat) : Int) = (r : Int) + 1 by omega] at this
              exact this
            · have low : ∀ d, d < n → (M : Int) + 1 + d ≤ τ.1 102 (n - 1 - d) := by
                intro d
                induction d with
                | zero => intro hd; rw [Nat.sub_zero, hR]; omega
                | succ d ihd =>
                  intro hd
                  have := ihd (by omega)
                  have := hE2 (n - 1 - (d + 1)) (n - 1 - d) (by omega) (by omega)
                  omega
              have h1 := low (n - 1) (by omega)
              have h2 := (hE (n - 1 - (n - 1)) (by omega)).2
              omega
            · have v60 : v ≤ 60 := by
                rcases hv with hv | ⟨j, hj, ej⟩
                · omega
                · rw [E2] at ej
                  by_cases e2 : j = n
                  · rw [if_pos e2] at ej; omega
                  · rw [if_neg e2] at ej; have := (hE j (by omega)).2; omega
              rw [am_stO f2 (by omega)]
              by_cases e : v = M
              · rw [e]; exact g3 i hi
              · rw [oo v e]
                refine ht v v1 ?_ i hi
                rcases hv with hv | ⟨j, hj, ej⟩
                · exact Or.inl hv
                · rw [E2] at ej
                  by_cases e2 : j = n
                  · rw [if_pos e2] at ej; omega
                  · rw [if_neg e2] at ej; exact Or.inr ⟨j, by omega, ej⟩
  refine s_Ft_tabulate_0 ?_
  rw [Int.toNat_natCast, Int.toNat_natCast, e3, e11]
  refine ⟨by omega, by omega, ?_⟩
  have mm := x_measure (x := x) (Po := fun ro1 so1 σ1 => ro1 = none ∧ so1 = am_SH ∧ am_U x m_Ft_measure (fun ro2 so2 σ2 => ro2 = none ∧ so2 = am_SH ∧ (∀ σ3 : am_St, σ3 = (am_up σ2.1 102 (0 : Int).toNat 60, σ2.2) → am_U x m_Ft_tabulate Po σ3 59 [some (Zr 35), some (Zi (b : Int)), none, some (Zi k), some (Zi (s 2 b)), some (Zi (s 5 sh)), some (Zi 1), some (Zi 0), some (Zi 0), none, none] [])) σ1 0 [some (Zr 35), some (Zi (b : Int)), some (Zi 60), some (Zi (s 5 sh)), some (Zi k), none] []) (v := 1) hX' hO hb hsh hk (by decide) hB (fun σ1 f1 hX1 t1 => ⟨rfl, rfl, ?_⟩)
  · exact mm
  have hB1 := hB.fx (f1 35 6 (by decide) (by simp)) (fun i => f1 39 i (by decide) (by simp))
  have mm2 := x_measure (x := x) (Po := fun ro2 so2 σ2 => ro2 = none ∧ so2 = am_SH ∧ (∀ σ3 : am_St, σ3 = (am_up σ2.1 102 (0 : Int).toNat 60, σ2.2) → am_U x m_Ft_tabulate Po σ3 59 [some (Zr 35), some (Zi (b : Int)), none, some (Zi k), some (Zi (s 2 b)), some (Zi (s 5 sh)), some (Zi 1), some (Zi 0), some (Zi 0), none, none] [])) (v := 60) hX1 hO hb hsh hk (by decide) hB1 (fun σ2 f2 hX2 t2 => ⟨rfl, rfl, fun σ3 f3 => ?_⟩)
  · exact mm2
  have f3' : σ3 = (am_up σ2.1 102 0 60, σ2.2) := f3
  have hf3 : am_fx am_tl [] σ σ3 := ((am_fx.rf (ks := am_tl) (ps := [])).tl f1 (in4 1 (by decide))).tl f2 (in4 60 (by decide)) |>.tl (am_fx.o1 f3') (fun k hk => by rw [List.mem_singleton] at hk; rw [hk]; decide)
  exact rounds 118 0 1 1 σ3 60 (by omega) (by omega) (by omega) (by omega) (fun z => absurd z (by decide)) (fun _ => am_stE f3') (fun j hj => by rw [show j = 0 by omega, am_stE f3']; decide) (fun j j' a1 a2 => absurd a2 (by omega)) (by omega) hf3 (hX2.fx (am_fx.o1 f3') (by decide)) (fun v v1 hv i hi => by
    have v60 : v ≤ 60 := by
      rcases hv with hv | ⟨j, hj, ej⟩
      · omega
      · rw [show j = 0 by omega, am_stE f3'] at ej; omega
    rw [am_stO f3' (by omega)]
    by_cases e : v = 60
    · rw [e]; exact t2 i hi
    · rw [f2 (41 + v) i (by simp; omega) (by simp)]
      have ev : v = 1 := by
        rcases hv with hv | ⟨j, hj, ej⟩
        · omega
        · rw [show j = 0 by omega, am_stE f3'] at ej; omega
      rw [ev]; exact t1 i hi)
end AMIM
