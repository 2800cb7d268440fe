/-! ===== the table of times by the slowness of one block ===== -/
def am_tms : List Nat := (List.range 61).map (fun i => 41 + i)
theorem am_tms_m : ∀ v, v < 61 → 41 + v ∈ am_tms := by decide
theorem am_tms_sh : ∀ v, v < 61 → am_SH[41 + v]? = some (12, 12, []) := by decide +kernel
theorem am_tms_n {k : Nat} (h : k < 41 ∨ 101 < k) : k ∉ am_tms := by
  unfold am_tms
  rw [List.mem_map]
  rintro ⟨i, h1, h2⟩
  rw [List.mem_range] at h1
  omega
section AMTB
variable {x : am_Sc} {Po : Option am_AV → am_Sh → am_St → Prop} {σ : am_St} {w h w2 h2 : Nat} {s s2 : Nat → Nat → Int}
/-- the members: picks of one shake and kind -/
def am_MB (s : Nat → Nat → Int) (sh : Nat) (k : Int) (m : Nat) (me : Nat → Nat) (σ : am_St) : Prop := σ.1 35 6 = (m : Int) ∧ m ≤ 12 ∧ ∀ i, i < m → σ.1 39 i = (me i : Int) ∧ me i < am_P s ∧ s 8 (me i) = (sh : Int) ∧ s 9 (me i) = k
theorem am_MB.fx {sh : Nat} {k : Int} {m : Nat} {me : Nat → Nat} {σ' : am_St} (hB : am_MB s sh k m me σ) (h35 : σ'.1 35 6 = σ.1 35 6) (h39 : ∀ i, σ'.1 39 i = σ.1 39 i) : am_MB s sh k m me σ' := ⟨by rw [h35]; exact hB.1, hB.2.1, fun i hi => by rw [h39]; exact hB.2.2 i hi⟩
theorem am_RX.sv {b : Nat} {u v : Int} {σ1 : am_St} (hX : am_RX w h (am_sv s b u) σ) (f : σ1 = (am_up σ.1 3 b v, σ.2)) : am_RX w h (am_sv s b v) σ1 := by
  have := hX.row (k := 3) (r := 2) (n := b) (v := v) (by decide)
  rw [f]
  rw [show am_up (am_sv s b u) 2 b v = am_sv s b v from am_sv_sv] at this
  exact this
theorem am_eC_sv {b : Nat} {v : Int} {p : Nat} : am_eC (am_sv s b v) p = am_eC s p := by unfold am_eC; rw [am_sv_o (r := 3) (by decide), am_sv_o (r := 7) (by decide)]
theorem am_P_sv {b : Nat} {v : Int} : am_P (am_sv s b v) = am_P s := by unfold am_P; rw [am_sv_o (by decide)]
/-- D: the time of member i at slowness v -/
noncomputable def am_Dm (w h : Nat) (s : Nat → Nat → Int) (b sh : Nat) (k : Int) (me : Nat → Nat) (v : Int) (i : Nat) : Int := am_Dv w h s b k (s 5 sh).toNat (am_eC s (me i)) v
theorem am_Dm_b (hO : am_OK w h s) {b sh : Nat} {k : Int} {me : Nat → Nat} {v : Int} {i : Nat} (hsh : sh < am_S s) (hm : me i < am_P s) (hv : 1 ≤ v ∧ v ≤ 60) : 0 ≤ am_Dm w h s b sh k me v i ∧ am_Dm w h s b sh k me v i ≤ 2160 := by
  obtain ⟨-, -, -, -, ⟨-, e⟩, -⟩ := am_OKp hO hm
  exact am_dst_b (am_OK_sv hO hv) (am_OKs hO hsh).2.2 e
theorem x_measure {b sh v : Nat} {k u : Int} {m : Nat} {me : Nat → Nat} (hX : am_RX w h (am_sv s b u) σ) (hO : am_OK w h s) (hb : b < 8) (hsh : sh < am_S s) (hk : k = 0 ∨ k = 1) (hv : 1 ≤ v ∧ v ≤ 60) (hB : am_MB s sh k m me σ)
    (kk : ∀ σ', am_fx [3, 5, 6, 41 + v] [] σ σ' → am_RX w h (am_sv s b (v : Int)) σ' → (∀ i, i < m → σ'.1 (41 + v) i = am_Dm w h s b sh k me (v : Int) i) → Po none am_SH σ') : am_U x m_Ft_measure Po σ 0 [some (Zr 35), some (Zi (b : Int)), some (Zi (v : Int)), some (Zi (s 5 sh)), some (Zi k), none] [] := by
  obtain ⟨s5, es, ls⟩ := am_OKs hO hsh
  have hOv := am_OK_sv hO (b := b) (show (1 : Int) ≤ (v : Int) ∧ (v : Int) ≤ 60 by omega)
  have hwh := am_wh hO
  refine s_Ft_measure_0 ⟨by omega, fun σ1 f1 => ?_⟩
  rw [Int.toNat_natCast] at f1
  have hX1 := hX.sv f1
  rw [es]
  refine x_spread hX1 hOv ls hk (fun σ2 f2 h5 h6 => ⟨rfl, rfl, ?_⟩)
  have hX2 := hX1.fx f2 (by decide)
  have fr2 : am_fx [3, 5, 6] [] σ σ2 := (am_fx.o1 f1).tr f2 (by decide) (by decide)
  have hB2 := hB.fx (fr2.g 35 (by decide)) (fun i => fr2.g 39 (by decide))
  have loop : ∀ (d i : Nat) (τ : am_St), i + d = m → am_fx [41 + v] [] σ2 τ → (∀ i', i' < i → τ.1 (41 + v) i' = am_Dm w h s b sh k me (v : Int) i') → am_U x m_Ft_measure Po τ 23 [some (Zr 35), none, some (Zi (v : Int)), none, none, some (Zi (i : Int))] [] := by
    intro d
    induction d with
    | zero =>
      intro i τ hi hf h0
      have o : ∀ k j, (k < 41 ∨ 101 < k) → τ.1 k j = σ2.1 k j := fun k j hk => hf k j (by simp; omega) (by simp)
      refine s_Ft_measure_23 ?_
      rw [o 35 6 (by omega), hB2.1]
      have l12 := hB2.2.1
      refine ⟨by omega, by omega, fun _ => kk τ (fun k j hk hp => ?_) ?_ (fun i' hi' => h0 i' (by omega)), fun q => absurd (by omega) q⟩
      · simp only [List.mem_cons, List.not_mem_nil, or_false, not_or] at hk
        rw [hf k j (by simp; exact hk.2.2.2) (by simp), fr2 k j (by simp; exact ⟨hk.1, hk.2.1, hk.2.2.1⟩) (by simp)]
      · exact hX2.fx (hf.wk (ks' := am_tms) (ps' := []) (fun k hk => by rw [List.mem_singleton] at hk; rw [hk]; exact am_tms_m v (by omega)) (fun _ h => h)) (by decide +kernel)
    | succ d ih =>
      intro i τ hi hf h0
      have o : ∀ k j, (k < 41 ∨ 101 < k) → τ.1 k j = σ2.1 k j := fun k j hk => hf k j (by simp; omega) (by simp)
      obtain ⟨g1, g2, g3, g4⟩ := hB2.2.2 i (by omega)
      have l12 := hB2.2.1
      have hXt : am_RX w h (am_sv s b (v : Int)) τ := hX2.fx (hf.wk (ks' := am_tms) (ps' := []) (fun k hk => by rw [List.mem_singleton] at hk; rw [hk]; exact am_tms_m v (by omega)) (fun _ h => h)) (by decide +kernel)
      obtain ⟨-, -, -, -, ⟨-, le⟩, -⟩ := am_OKp hO g2
      refine s_Ft_measure_23 ?_
      rw [o 35 6 (by omega), hB2.1, Int.toNat_natCast v, Int.toNat_natCast i, o 39 i (by omega), g1]
      refine ⟨by omega, by omega, fun q => absurd q (by omega), fun _ => ⟨by omega, by omega, x_cellOfEar hXt hOv (by rw [am_P_sv]; exact g2) ⟨_, rfl, rfl, ?_⟩⟩⟩
      rw [am_eC_sv]
      refine ⟨by omega, fun τ1 f1 => ?_⟩
      rw [Int.toNat_natCast, o 6 _ (by omega), h6 _ le] at f1
      have := ih (i + 1) τ1 (by omega) (fun k j hk hp => by rw [am_stO f1 (by simpa using hk)]; exact hf k j hk hp) (fun i' hi' => by
        rw [am_stR f1]
        by_cases e : i' = i
        · rw [if_pos e, e]; rfl
        · rw [if_neg e]; exact h0 i' (by omega))
      rw [show ((i + 1 : Nat) : Int) = (i : Int) + 1 by omega] at this
      exact this
  exact loop _ 0 σ2 (Nat.zero_add _) am_fx.rf (fun i' hi' => absurd hi' (Nat.not_lt_zero i'))
theorem am_mul_b {a b A B : Int} (ha : -A ≤ a ∧ a ≤ A) (hb : -B ≤ b ∧ b ≤ B) (hA : 0 ≤ A) (hB : 0 ≤ B) : -(A * B) ≤ a * b ∧ a * b ≤ A * B := by
  have h1 : (a * b).natAbs = a.natAbs * b.natAbs := Int.natAbs_mul a b
  have h2 : a.natAbs * b.natAbs ≤ A.natAbs * B.natAbs := Nat.mul_le_mul (by omega) (by omega)
  have h3 : (A * B).natAbs = A.natAbs * B.natAbs := Int.natAbs_mul A B
  have h4 : 0 ≤ A * B := Int.mul_nonneg hA hB
  omega
theorem x_straight {b sh l md r : Nat} {k u : Int} {m : Nat} {me : Nat → Nat} (hX : am_RX w h (am_sv s b u) σ) (hO : am_OK w h s) (hsh : sh < am_S s) (hk : k = 0 ∨ k = 1) (hl : 1 ≤ l ∧ l ≤ 60) (hmd : 1 ≤ md ∧ md ≤ 60) (hr : 1 ≤ r ∧ r ≤ 60) (hB : am_MB s sh k m me σ)
    (tl : ∀ i, i < m → σ.1 (41 + l) i = am_Dm w h s b sh k me (l : Int) i) (tm : ∀ i, i < m → σ.1 (41 + md) i = am_Dm w h s b sh k me (md : Int) i) (tr : ∀ i, i < m → σ.1 (41 + r) i = am_Dm w h s b sh k me (r : Int) i)
    (k1 : (∀ i, i < m → (am_Dm w h s b sh k me (md : Int) i - am_Dm w h s b sh k me (l : Int) i) * (am_pr (s 0 0) (r : Int) k - am_pr (s 0 0) (l : Int) k) = (am_Dm w h s b sh k me (r : Int) i - am_Dm w h s b sh k me (l : Int) i) * (am_pr (s 0 0) (md : Int) k - am_pr (s 0 0) (l : Int) k)) → Po (some (Zi 1)) am_SH σ) (k0 : Po (some (Zi 0)) am_SH σ) : am_U x m_Ft_isStraight Po σ 0 [some (Zr 35), some (Zi (l : Int)), some (Zi (md : Int)), some (Zi (r : Int)), some (Zi k), none, none, none, none, none] [] := by
  have er : σ.1 1 1 = s 0 0 := by rw [hX.1.as 1 1 0 (by decide)]; exact am_sv_o (by decide)
  have pb : ∀ v : Nat, 1 ≤ v ∧ v ≤ 60 → 1 ≤ am_pr (s 0 0) (v : Int) k ∧ am_pr (s 0 0) (v : Int) k ≤ 180 := fun v hv => am_pr_b hO.2.1 (by omega)
  refine s_Ft_isStraight_0 (x_price hk er hO.2.1 (by omega) ⟨_, rfl, rfl, x_price hk er hO.2.1 (by omega) ⟨_, rfl, rfl, x_price hk er hO.2.1 (by omega) ⟨_, rfl, rfl, x_price hk er hO.2.1 (by omega) ⟨_, rfl, rfl, ?_⟩⟩⟩⟩)
  have p1 := pb l hl
  have p2 := pb md hmd
  have p3 := pb r hr
  have loop : ∀ (d i : Nat), i + d = m → (∀ i', i' < i → (am_Dm w h s b sh k me (md : Int) i' - am_Dm w h s b sh k me (l : Int) i') * (am_pr (s 0 0) (r : Int) k - am_pr (s 0 0) (l : Int) k) = (am_Dm w h s b sh k me (r : Int) i' - am_Dm w h s b sh k me (l : Int) i') * (am_pr (s 0 0) (md : Int) k - am_pr (s 0 0) (l : Int) k)) → am_U x m_Ft_isStraight Po σ 49 [some (Zr 35), some (Zi (l : Int)), some (Zi (md : Int)), some (Zi (r : Int)), none, some (Zi (am_pr (s 0 0) (md : Int) k - am_pr (s 0 0) (l : Int) k)), some (Zi (am_pr (s 0 0) (r : Int) k - am_pr (s 0 0) (l : Int) k)), some (Zi (i : Int)), none, none] [] := by
    intro d
    induction d with
    | zero =>
      intro i hi h0
      have := hB.2.1
      refine s_Ft_isStraight_49 ?_
      rw [hB.1]
      exact ⟨by omega, by omega, fun _ => k1 (fun i' hi' => h0 i' (by omega)), fun q => absurd (by omega) q⟩
    | succ d ih =>
      intro i hi h0
      have l12 := hB.2.1
      obtain ⟨g1, g2, g3, g4⟩ := hB.2.2 i (by omega)
      have d1 := am_Dm_b (b := b) (k := k) hO hsh g2 (show (1 : Int) ≤ (l : Int) ∧ (l : Int) ≤ 60 by omega)
      have d2 := am_Dm_b (b := b) (k := k) hO hsh g2 (show (1 : Int) ≤ (md : Int) ∧ (md : Int) ≤ 60 by omega)
      have d3 := am_Dm_b (b := b) (k := k) hO hsh g2 (show (1 : Int) ≤ (r : Int) ∧ (r : Int) ≤ 60 by omega)
      have m1 := am_mul_b (a := am_Dm w h s b sh k me (md : Int) i - am_Dm w h s b sh k me (l : Int) i) (b := am_pr (s 0 0) (r : Int) k - am_pr (s 0 0) (l : Int) k) (A := 2160) (B := 180) (by omega) (by omega) (by decide) (by decide)
      have m2 := am_mul_b (a := am_Dm w h s b sh k me (r : Int) i - am_Dm w h s b sh k me (l : Int) i) (b := am_pr (s 0 0) (md : Int) k - am_pr (s 0 0) (l : Int) k) (A := 2160) (B := 180) (by omega) (by omega) (by decide) (by decide)
      refine s_Ft_isStraight_49 ?_
      rw [hB.1, Int.toNat_natCast, Int.toNat_natCast, Int.toNat_natCast, Int.toNat_natCast, tl i (by omega), tm i (by omega), tr i (by omega)]
      refine ⟨by omega, by omega, fun q => absurd q (by omega), fun _ => ⟨by omega, by omega, by omega, by omega, by omega, by omega, fun q => ?_, fun q => k0⟩⟩
      exact ih (i + 1) (by omega) (fun i' hi' => by
        by_cases e : i' = i
        · rw [e]; exact q
        · exact h0 i' (by omega))
  exact loop _ 0 (Nat.zero_add _) (fun i' hi' => absurd hi' (Nat.not_lt_zero i'))
theorem x_fillLine {b sh l r : Nat} {k u : Int} {m : Nat} {me : Nat → Nat} (hX : am_RX w h (am_sv s b u) σ) (hO : am_OK w h s) (hsh : sh < am_S s) (hk : k = 0 ∨ k = 1) (hl : 1 ≤ l) (hlr : l < r) (hr : r ≤ 60) (hB : am_MB s sh k m me σ)
    (tl : ∀ i, i < m → σ.1 (41 + l) i = am_Dm w h s b sh k me (l : Int) i) (tr : ∀ i, i < m → σ.1 (41 + r) i = am_Dm w h s b sh k me (r : Int) i)
    (hs : ∀ i, i < m → ∀ v : Nat, l < v → v < r → am_Dm w h s b sh k me (v : Int) i = am_Dm w h s b sh k me (l : Int) i + am_div (am_Dm w h s b sh k me (r : Int) i - am_Dm w h s b sh k me (l : Int) i) (am_pr (s 0 0) (r : Int) k - am_pr (s 0 0) (l : Int) k) * (am_pr (s 0 0) (v : Int) k - am_pr (s 0 0) (l : Int) k))
    (kk : ∀ σ', am_fx am_tms [] σ σ' → (∀ v, v ≤ l ∨ r ≤ v → ∀ i, σ'.1 (41 + v) i = σ.1 (41 + v) i) → (∀ v, l < v → v < r → ∀ i, i < m → σ'.1 (41 + v) i = am_Dm w h s b sh k me (v : Int) i) → Po none am_SH σ') : am_U x m_Ft_fillLine Po σ 0 [some (Zr 35), some (Zi (l : Int)), some (Zi (r : Int)), some (Zi k), none, none, none, none, none, none] [] := by
  have er : ∀ τ : am_St, am_fx am_tms [] σ τ → τ.1 1 1 = s 0 0 := fun τ hf => by rw [hf 1 1 (am_tms_n (by omega)) (by simp), hX.1.as 1 1 0 (by decide)]; exact am_sv_o (by decide)
  have pb : ∀ v : Nat, 1 ≤ v ∧ v ≤ 60 → 1 ≤ am_pr (s 0 0) (v : Int) k ∧ am_pr (s 0 0) (v : Int) k ≤ 180 := fun v hv => am_pr_b hO.2.1 (by omega)
  have p1 := pb l (by omega)
  have p3 := pb r (by omega)
  have lt := am_pr_lt (k := k) hO.2.1 (show (1 : Int) ≤ (l : Int) by omega) (show (l : Int) < (r : Int) by omega)
  have l12 := hB.2.1
  have rows : ∀ (d v : Nat) (τ : am_St), v + d = r → l < v → am_fx am_tms [] σ τ → (∀ v', v' ≤ l ∨ r ≤ v' → ∀ i, τ.1 (41 + v') i = σ.1 (41 + v') i) → (∀ v', l < v' → v' < v → ∀ i, i < m → τ.1 (41 + v') i = am_Dm w h s b sh k me (v' : Int) i) → am_U x m_Ft_fillLine Po τ 36 [some (Zr 35), some (Zi (l : Int)), some (Zi (r : Int)), some (Zi k), some (Zi (am_pr (s 0 0) (l : Int) k)), some (Zi (am_pr (s 0 0) (r : Int) k - am_pr (s 0 0) (l : Int) k)), some (Zi (v : Int)), none, none, none] [] := by
    intro d
    induction d with
    | zero =>
      intro v τ hv hlv hf h0 h1
      exact s_Ft_fillLine_36 ⟨by omega, by omega, fun _ => kk τ hf h0 (fun v' a1 a2 => h1 v' a1 (by omega)), fun q => absurd (by omega) q⟩
    | succ d ih =>
      intro v τ hv hlv hf h0 h1
      refine s_Ft_fillLine_36 ⟨by omega, by omega, fun q => absurd q (by omega), fun _ => x_price hk (er τ hf) hO.2.1 (by omega) ⟨_, rfl, rfl, ?_⟩⟩
      have cells : ∀ (e i : Nat) (τ : am_St), i + e = m → am_fx am_tms [] σ τ → (∀ v', v' ≤ l ∨ r ≤ v' → ∀ i, τ.1 (41 + v') i = σ.1 (41 + v') i) → (∀ v', l < v' → v' < v → ∀ i, i < m → τ.1 (41 + v') i = am_Dm w h s b sh k me (v' : Int) i) → (∀ i', i' < i → τ.1 (41 + v) i' = am_Dm w h s b sh k me (v : Int) i') → am_U x m_Ft_fillLine Po τ 60 [some (Zr 35), some (Zi (l : Int)), some (Zi (r : Int)), some (Zi k), some (Zi (am_pr (s 0 0) (l : Int) k)), some (Zi (am_pr (s 0 0) (r : Int) k - am_pr (s 0 0) (l : Int) k)), some (Zi (v : Int)), some (Zi (am_pr (s 0 0) (v : Int) k - am_pr (s 0 0) (l : Int) k)), some (Zi (i : Int)), none] [] := by
        intro e
        induction e with
        | zero =>
          intro i τ hi hf h0 h1 h2
          refine s_Ft_fillLine_60 ?_
          rw [hf 35 6 (am_tms_n (by omega)) (by simp), hB.1]
          refine ⟨by omega, by omega, fun _ => ?_, fun q => absurd (by omega) q⟩
          have := ih (v + 1) τ (by omega) (by omega) hf h0 (fun v' a1 a2 i hi => by
            by_cases e : v' = v
            · rw [e]; exact h2 i (by omega)
            · exact h1 v' a1 (by omega) i hi)
          rw [show ((v + 1 : Nat) : Int) = (v : Int) + 1 by omega] at this
          exact this
        | succ e ihe =>
          intro i τ hi hf h0 h1 h2
          refine s_Ft_fillLine_60 ?_
          rw [hf 35 6 (am_tms_n (by omega)) (by simp), hB.1, Int.toNat_natCast, Int.toNat_natCast, Int.toNat_natCast, Int.toNat_natCast, h0 r (by omega), h0 l (by omega), tl i (by omega), tr i (by omega)]
          refine ⟨by omega, by omega, fun q => absurd q (by omega), fun _ => ⟨by omega, by omega, by omega, by omega, by omega, by omega, fun τ1 f1 => ?_⟩⟩
          rw [← hs i (by omega) v hlv (by omega)] at f1
          have := ihe (i + 1) τ1 (by omega) (fun k j hk hp => by rw [am_stO f1 (fun z => hk (by rw [z]; exact am_tms_m v (by omega)))]; exact hf k j hk hp) (fun v' a1 i => by rw [am_stO f1 (by omega)]; exact h0 v' a1 i) (fun v' a1 a2 i hi => by rw [am_stO f1 (by omega)]; exact h1 v' a1 a2 i hi) (fun i' hi' => by
            rw [am_stR f1]
            by_cases e : i' = i
            · rw [if_pos e, e]
            · rw [if_neg e]; exact h2 i' (by omega))
          rw [show ((i + 1 : Nat) : Int) = (i : Int) + 1 by omega] at this
          exact this
      exact cells _ 0 τ (Nat.zero_add _) hf h0 h1 (fun i' hi' => absurd hi' (Nat.not_lt_zero i'))
  refine s_Ft_fillLine_0 (x_price hk (er σ am_fx.rf) hO.2.1 (by omega) ⟨_, rfl, rfl, x_price hk (er σ am_fx.rf) hO.2.1 (by omega) ⟨_, rfl, rfl, by omega, fun _ => ?_, fun q => absurd (by omega) q⟩⟩)
  have := rows (r - (l + 1)) (l + 1) σ (by omega) (by omega) am_fx.rf (fun _ _ _ => rfl) (fun v' a1 a2 => absurd a2 (by omega))
  rw [show ((l + 1 : Nat) : Int) = (l : Int) + 1 by omega] at this
  exact this
end AMTB
