/-! ===== rays of the ways ===== -/
theorem am_fx.wk {ks ks' : List Nat} {ps ps' : List (Nat × Nat)} {σ σ' : am_St} (h : am_fx ks ps σ σ') (hk : ∀ k, k ∈ ks → k ∈ ks') (hp : ∀ p, p ∈ ps → p ∈ ps') : am_fx ks' ps' σ σ' := fun k j h1 h2 => h k j (fun z => h1 (hk k z)) (fun z => h2 (hp _ z))
def am_rws : List Nat := [23, 24, 25, 26, 27, 28, 29, 30, 31, 32, 33, 34]
theorem am_rws_m : ∀ i, i < 12 → 23 + i ∈ am_rws := by decide
theorem am_rws_sh : ∀ i, i < 12 → am_SH[23 + i]? = some (12, 8, []) := by decide +kernel
/-- the kind 0 picks in their order: how many of the first n, and which is the i-th -/
def am_km (s : Nat → Nat → Int) : Nat → Nat
  | 0 => 0
  | n + 1 => if s 9 n = 0 then am_km s n + 1 else am_km s n
def am_ke (s : Nat → Nat → Int) : Nat → Nat → Nat
  | 0 => fun _ => 0
  | n + 1 => fun i => if s 9 n = 0 ∧ i = am_km s n then n else am_ke s n i
theorem am_km_le {s : Nat → Nat → Int} : ∀ n, am_km s n ≤ n
  | 0 => Nat.le_refl 0
  | n + 1 => by have := am_km_le (s := s) n; show (if s 9 n = 0 then am_km s n + 1 else am_km s n) ≤ n + 1; split <;> omega
theorem am_ke_is {s : Nat → Nat → Int} : ∀ n, (∀ i, i < am_km s n → am_ke s n i < n ∧ s 9 (am_ke s n i) = 0) ∧ (∀ i j, i < j → j < am_km s n → am_ke s n i < am_ke s n j) ∧ ∀ p, p < n → s 9 p = 0 → ∃ i, i < am_km s n ∧ am_ke s n i = p
  | 0 => ⟨fun i hi => absurd hi (Nat.not_lt_zero i), fun i j _ hj => absurd hj (Nat.not_lt_zero j), fun p hp => absurd hp (Nat.not_lt_zero p)⟩
  | n + 1 => by
    obtain ⟨h1, h2, h3⟩ := am_ke_is (s := s) n
    have em : am_km s (n + 1) = if s 9 n = 0 then am_km s n + 1 else am_km s n := rfl
    have ee : ∀ i, am_ke s (n + 1) i = if s 9 n = 0 ∧ i = am_km s n then n else am_ke s n i := fun _ => rfl
    by_cases q : s 9 n = 0
    · rw [if_pos q] at em
      refine ⟨fun i hi => ?_, fun i j hij hj => ?_, fun p hp hp0 => ?_⟩
      · rw [ee]
        by_cases e : i = am_km s n
        · rw [if_pos ⟨q, e⟩]; exact ⟨by omega, q⟩
        · rw [if_neg (fun z => e z.2)]; have := h1 i (by omega); exact ⟨by omega, this.2⟩
      · rw [ee, ee, if_neg (fun z => by omega)]
        by_cases e : j = am_km s n
        · rw [if_pos ⟨q, e⟩]; exact (h1 i (by omega)).1
        · rw [if_neg (fun z => e z.2)]; exact h2 i j hij (by omega)
      · by_cases e : p = n
        · exact ⟨am_km s n, by omega, by rw [ee, if_pos ⟨q, rfl⟩, e]⟩
        · obtain ⟨i, hi, ei⟩ := h3 p (by omega) hp0
          exact ⟨i, by omega, by rw [ee, if_neg (fun z => by omega)]; exact ei⟩
    · rw [if_neg q] at em
      refine ⟨fun i hi => ?_, fun i j hij hj => ?_, fun p hp hp0 => ?_⟩
      · rw [ee, if_neg (fun z => q z.1)]; have := h1 i (by omega); exact ⟨by omega, this.2⟩
      · rw [ee, ee, if_neg (fun z => q z.1), if_neg (fun z => q z.1)]; exact h2 i j hij (by omega)
      · have : p ≠ n := fun e => q (by rw [← e]; exact hp0)
        obtain ⟨i, hi, ei⟩ := h3 p (by omega) hp0
        exact ⟨i, by omega, by rw [ee, if_neg (fun z => q z.1)]; exact ei⟩
def am_ind (a b : Int) : Int := if a = b then 1 else 0
noncomputable def am_rf (w h : Nat) (s : Nat → Nat → Int) (f a b i : Nat) : Int := am_ind (s 1 (am_wp w h (am_cost s 0) f a i)) (b : Int) + am_ind (s 1 (am_wp w h (am_cost s 0) f a (i + 1))) (b : Int)
noncomputable def am_ry (w h : Nat) (s : Nat → Nat → Int) (f a b : Nat) : Int := am_sum (am_rf w h s f a b) (am_wn w h (am_cost s 0) f a)
noncomputable def am_pry (w h : Nat) (s : Nat → Nat → Int) (p b : Nat) : Int := am_ry w h s (am_eC s p) (am_sC s p) b
theorem am_rf_b {w h : Nat} {s : Nat → Nat → Int} {f a b : Nat} {n : Nat} : 0 ≤ am_sum (am_rf w h s f a b) n ∧ am_sum (am_rf w h s f a b) n ≤ (n : Int) * 2 := am_sum_b (fun i hi => by unfold am_rf am_ind; split <;> split <;> decide)
theorem am_ry_b {w h : Nat} {s : Nat → Nat → Int} (hO : am_OK w h s) {f a b : Nat} (hf : f < w * h) (ha : a < w * h) : 0 ≤ am_ry w h s f a b ∧ am_ry w h s f a b ≤ 30 := by
  have h1 := (am_wn_of (k := 0) hO hf ha).1
  have h2 := (am_wh hO).2
  have := am_rf_b (w := w) (h := h) (s := s) (f := f) (a := a) (b := b) (n := am_wn w h (am_cost s 0) f a)
  unfold am_ry
  omega
section AMR
variable {x : am_Sc} {Po : Option am_AV → am_Sh → am_St → Prop} {σ : am_St} {w h w2 h2 : Nat} {s s2 : Nat → Nat → Int}
theorem c_fill {r n : Nat} {v : Int} (hr : am_SH[r]? = some (12, n, [])) (hn : Nat.blt n 2147483648 = true) (kk : ∀ σ', am_fx [r] [] σ σ' → (∀ j, j < n → σ'.1 r j = v) → Po none am_SH σ') : am_U x m_Ar_fill Po σ 0 [some (Zr r), some (Zi v), none, none] [] := by
  refine c_fillW am_SHb hr hn (kk _ (fun k j hk _ => ?_) (fun j hj => ?_))
  · show am_fr σ.1 r 0 n v k j = _
    unfold am_fr
    rw [if_neg (fun z => hk (by rw [z.1]; simp))]
  · show am_fr σ.1 r 0 n v r j = _
    unfold am_fr
    rw [if_pos ⟨rfl, by omega, hj⟩]
theorem x_countRays {f a r : Nat} (hr : am_SH[r]? = some (12, 8, [])) (hr9 : 20 ≤ r) (hX : am_RX w h s σ) (hO : am_OK w h s) (hf : f < w * h) (ha : a < w * h) (h8 : σ.1 1 8 = ((am_wn w h (am_cost s 0) f a + 1 : Nat) : Int)) (h7 : ∀ i, i ≤ am_wn w h (am_cost s 0) f a → σ.1 7 i = ((am_wp w h (am_cost s 0) f a i : Nat) : Int))
    (kk : ∀ σ', am_fx [r] [] σ σ' → (∀ b, b < 8 → σ'.1 r b = am_ry w h s f a b) → Po none am_SH σ') : am_U x m_Gr_countRays Po σ 0 [some (Zr 1), some (Zr r), none] [] := by
  have hwh := am_wh hO
  obtain ⟨n1, n2, n3, n4⟩ := am_wn_of (k := 0) hO hf ha
  have loop : ∀ (d i : Nat) (τ : am_St), i + d = am_wn w h (am_cost s 0) f a → am_fx [r] [] σ τ → (∀ b, b < 8 → τ.1 r b = am_sum (am_rf w h s f a b) i) → am_U x m_Gr_countRays Po τ 7 [some (Zr 1), some (Zr r), some (Zi ((i + 1 : Nat) : Int))] [] := by
    intro d
    induction d with
    | zero =>
      intro i τ hi hfx hb
      refine s_Gr_countRays_7 hr ?_
      rw [hfx 1 8 (by simp; omega) (by simp), h8]
      refine ⟨by omega, by omega, fun _ => kk τ hfx (fun b hb' => ?_), fun q => absurd (by omega) q⟩
      rw [hb b hb', show i = am_wn w h (am_cost s 0) f a by omega]; rfl
    | succ d ih =>
      intro i τ hi hfx hb
      have l1 := n4 i (by omega)
      have l2 := n4 (i + 1) (by omega)
      have b1 := hO.2.2.2.2.2.2.2.2.1 _ (show am_wp w h (am_cost s 0) f a i < 16 by omega)
      have b2 := hO.2.2.2.2.2.2.2.2.1 _ (show am_wp w h (am_cost s 0) f a (i + 1) < 16 by omega)
      have e7 : ∀ (τ : am_St), am_fx [r] [] σ τ → ∀ j, j ≤ am_wn w h (am_cost s 0) f a → τ.1 7 j = ((am_wp w h (am_cost s 0) f a j : Nat) : Int) := fun τ hfx j hj => by rw [hfx 7 j (by simp; omega) (by simp)]; exact h7 j hj
      have e2 : ∀ (τ : am_St), am_fx [r] [] σ τ → ∀ c, c < 16 → τ.1 2 c = s 1 c := fun τ hfx c hc => by rw [hfx 2 c (by simp; omega) (by simp)]; exact hX.1.at 2 1 16 (by decide) hc
      refine s_Gr_countRays_7 hr ?_
      rw [hfx 1 8 (by simp; omega) (by simp), h8, show (((i + 1 : Nat) : Int) - 1).toNat = i by omega, e7 τ hfx i (by omega), Int.toNat_natCast, e2 τ hfx _ (by omega)]
      refine ⟨by omega, by omega, fun q => absurd q (by omega), fun _ => ⟨by omega, by omega, by omega, fun τ1 f1 => ?_⟩⟩
      have hf1 : am_fx [r] [] σ τ1 := fun k j hk hp => by rw [am_fx.o1 f1 k j hk hp]; exact hfx k j hk hp
      rw [Int.toNat_natCast, e7 τ1 hf1 (i + 1) (by omega), Int.toNat_natCast, e2 τ1 hf1 _ (by omega)]
      refine ⟨by omega, by omega, by omega, fun τ2 f2 => ?_⟩
      have hf2 : am_fx [r] [] σ τ2 := fun k j hk hp => by rw [am_fx.o1 f2 k j hk hp]; exact hf1 k j hk hp
      refine ih (i + 1) τ2 (by omega) hf2 (fun b hb' => ?_)
      have e9 : am_sum (am_rf w h s f a b) (i + 1) = am_sum (am_rf w h s f a b) i + (am_ind (s 1 (am_wp w h (am_cost s 0) f a i)) (b : Int) + am_ind (s 1 (am_wp w h (am_cost s 0) f a (i + 1))) (b : Int)) := rfl
      have k1 : ∀ b, b < 8 → τ1.1 r b = am_sum (am_rf w h s f a b) i + am_ind (s 1 (am_wp w h (am_cost s 0) f a i)) (b : Int) := fun b hb' => by
        rw [am_stR f1]
        unfold am_ind
        by_cases q : b = (s 1 (am_wp w h (am_cost s 0) f a i)).toNat
        · rw [if_pos q, if_pos (by omega), hb _ (by omega), q]
        · rw [if_neg q, if_neg (by omega), hb b hb']; omega
      rw [e9, am_stR f2]
      by_cases q : b = (s 1 (am_wp w h (am_cost s 0) f a (i + 1))).toNat
      · rw [if_pos q, ← q, k1 b hb', show am_ind (s 1 (am_wp w h (am_cost s 0) f a (i + 1))) (b : Int) = 1 by unfold am_ind; rw [if_pos (by omega)]]; omega
      · rw [if_neg q, k1 b hb', show am_ind (s 1 (am_wp w h (am_cost s 0) f a (i + 1))) (b : Int) = 0 by unfold am_ind; rw [if_neg (by omega)]]; omega
  refine s_Gr_countRays_0 hr (c_fill hr (by decide) (fun τ hf h0 => ⟨rfl, rfl, ?_⟩))
  exact loop _ 0 τ (Nat.zero_add _) hf (fun b hb => h0 b hb)
def am_RS (w h : Nat) (s : Nat → Nat → Int) (n : Nat) (σ : am_St) : Prop := σ.1 20 2 = (am_km s n : Int) ∧ (∀ i, i < am_km s n → σ.1 21 i = (am_ke s n i : Int)) ∧ ∀ i b, i < am_km s n → b < 8 → σ.1 (23 + i) b = am_pry w h s (am_ke s n i) b
theorem x_rays (hX : am_RX w h s σ) (hO : am_OK w h s) (kk : ∀ σ', am_fx (5 :: 6 :: 7 :: 21 :: am_rws) [(1, 8), (20, 2)] σ σ' → am_RS w h s (am_P s) σ' → Po none am_SH σ') : am_U x m_Ra_gather Po σ 0 [some (Zr 20), none] [] := by
  obtain ⟨bP, -⟩ := am_OKb hO
  have lP : am_P s ≤ 12 := by unfold am_P; omega
  have loop : ∀ (d p : Nat) (τ : am_St), p + d = am_P s → am_fx (5 :: 6 :: 7 :: 21 :: am_rws) [(1, 8), (20, 2)] σ τ → am_RS w h s p τ → am_U x m_Ra_gather Po τ 7 [some (Zr 20), some (Zi (p : Int))] [] := by
    intro d
    induction d with
    | zero =>
      intro p τ hp hf hR
      have hXt := hX.fx hf (by decide)
      have eP : τ.1 8 6 = (am_P s : Int) := by rw [hXt.1.as 8 6 4 (by decide)]; unfold am_P; omega
      refine s_Ra_gather_7 ?_
      rw [eP]
      refine ⟨by omega, by omega, fun _ => kk τ hf ?_, fun q => absurd (by omega) q⟩
      rw [← show p = am_P s by omega]; exact hR
    | succ d ih =>
      intro p τ hp hf hR
      have hXt := hX.fx hf (by decide)
      have hpP : p < am_P s := by omega
      obtain ⟨a, b7, c8, d9, e1, f1, g, i1, -⟩ := am_OKp hO hpP
      have eP : τ.1 8 6 = (am_P s : Int) := by rw [hXt.1.as 8 6 4 (by decide)]; unfold am_P; omega
      have em : am_km s (p + 1) = if s 9 p = 0 then am_km s p + 1 else am_km s p := rfl
      have ee : ∀ i, am_ke s (p + 1) i = if s 9 p = 0 ∧ i = am_km s p then p else am_ke s p i := fun _ => rfl
      have lm := am_km_le (s := s) p
      refine s_Ra_gather_7 ?_
      rw [eP, Int.toNat_natCast, hXt.1.at 15 9 12 (by decide) a]
      refine ⟨by omega, by omega, fun q => absurd q (by omega), fun _ => ⟨by omega, by omega, fun q => s_Ra_gather_97 (ih (p + 1) τ (by omega) hf ?_), fun q => ?_⟩⟩
      · rw [if_neg q] at em
        unfold am_RS
        rw [em]
        refine ⟨hR.1, fun i hi => ?_, fun i b hi hb => ?_⟩
        · rw [ee, if_neg (fun z => q z.1)]; exact hR.2.1 i hi
        · rw [ee, if_neg (fun z => q z.1)]; exact hR.2.2 i b hi hb
      · rw [if_pos q] at em
        refine x_cellOfEar hXt hO hpP ⟨_, rfl, rfl, x_spread hXt hO e1.2 (Or.inl rfl) (fun τ1 g1 h5 h6 => ⟨rfl, rfl, ?_⟩)⟩
        have hX1 := hXt.fx g1 (by decide)
        refine x_cellOfShake hX1 hO hpP ⟨_, rfl, rfl, x_trace hX1 hO e1.2 h5 h6 f1.2 (fun τ2 g2 h8 h7 => ⟨rfl, rfl, ?_⟩)⟩
        have hX2 := hX1.fx g2 (by decide)
        have e20 : ∀ τ' : am_St, τ'.1 20 2 = τ.1 20 2 → τ'.1 20 2 = (am_km s p : Int) := fun τ' e => e.trans hR.1
        have e202 : τ2.1 20 2 = (am_km s p : Int) := e20 τ2 (by rw [g2.q 20 (by decide), g1.q 20 (by decide)])
        rw [e202, Int.toNat_natCast]
        have rsh := am_rws_sh (am_km s p) (by omega)
        have rm := am_rws_m (am_km s p) (by omega)
        refine ⟨by omega, x_countRays rsh (by omega) hX2 hO e1.2 f1.2 h8 h7 (fun τ3 g3 hrow => ⟨rfl, rfl, ?_⟩)⟩
        have e203 : τ3.1 20 2 = (am_km s p : Int) := by rw [g3 20 2 (by simp; omega) (by simp)]; exact e202
        rw [e203, Int.toNat_natCast]
        refine ⟨by omega, fun τ4 f4 τ5 f5 => ?_⟩
        have e204 : τ4.1 20 2 = (am_km s p : Int) := by rw [am_stO f4 (by decide)]; exact e203
        rw [e204] at f5
        refine s_Ra_gather_97 (ih (p + 1) τ5 (by omega) ?_ ⟨?_, fun i hi => ?_, fun i b hi hb => ?_⟩)
        · refine hf.tr (σ1 := τ) (ks' := 5 :: 6 :: 7 :: 21 :: am_rws) (ps' := [(1, 8), (20, 2)]) ?_ (by decide) (by decide)
          refine g1.tr (σ1 := τ1) (ks' := 7 :: 21 :: am_rws) (ps' := [(1, 8), (20, 2)]) ?_ (by decide) (by decide)
          refine g2.tr (σ1 := τ2) (ks' := 21 :: am_rws) (ps' := [(20, 2)]) ?_ (by decide) (by decide)
          have g3' : am_fx am_rws [] τ2 τ3 := g3.wk (fun k hk => by rw [List.mem_singleton] at hk; rw [hk]; exact rm) (fun q hq => hq)
          exact g3'.tr (σ1 := τ3) (am_fx.tr (σ1 := τ4) (ks2 := [21]) (ps2 := [(20, 2)]) (am_fx.o1 f4) (am_fx.p1 f5) (by decide) (by decide)) (by decide) (by decide)
        · rw [am_stE f5, em]; push_cast; rfl
        · rw [am_stO f5 (by decide), am_stR f4, ee]
          by_cases e : i = am_km s p
          · rw [if_pos e, if_pos ⟨q, e⟩]
          · rw [if_neg e, if_neg (fun z => e z.2), g3 21 i (by simp; omega) (by simp), g2.q 21 (by decide), g1.q 21 (by decide)]
            exact hR.2.1 i (by omega)
        · rw [am_stO f5 (by omega), am_stO f4 (by omega), ee]
          by_cases e : i = am_km s p
          · rw [if_pos ⟨q, e⟩, e]; exact hrow b hb
          · rw [if_neg (fun z => e z.2), g3 (23 + i) b (by simp; omega) (by simp), g2 (23 + i) b (by simp; omega) (by simp; omega), g1 (23 + i) b (by simp; omega) (by simp)]
            exact hR.2.2 i b (by omega) hb
  exact s_Ra_gather_0 (fun τ f => loop _ 0 τ (Nat.zero_add _) ((am_fx.p1 f).tr (am_fx.rf (ks := []) (ps := [])) (by decide) (by decide)) ⟨am_stE f, fun i hi => absurd hi (Nat.not_lt_zero i), fun i b hi => absurd hi (Nat.not_lt_zero i)⟩)
/-! the model's -/
theorem m_layRays {f a r : Nat} (hM : am_RM w h s σ) (hO : am_OK w h s) (hf : f < w * h) (ha : a < w * h) (hr : r < 12)
    (kk : ∀ σ', am_fx [164, 166] [] σ σ' → (∀ b, b < 8 → σ'.1 166 (8 * r + b) = am_ry w h s f a b) → (∀ j, (j < 8 * r ∨ 8 * r + 8 ≤ j) → σ'.1 166 j = σ.1 166 j) → Po none am_SH σ') : am_U x m_Mo_layRays Po σ 0 [some (Zr 147), some (Zi (a : Int)), some (Zi (f : Int)), some (Zi (r : Int)), none, none] [] := by
  have hwh := am_wh hO
  obtain ⟨n1, n2, n3, n4⟩ := am_wn_of (k := 0) hO hf ha
  have go : ∀ (d i : Nat) (τ : am_St), i + d = am_wn w h (am_cost s 0) f a → am_fx [164, 166] [] σ τ → (∀ b, b < w * h → τ.1 164 b = am_dst w h (am_cost s 0) f b) → (∀ b, b < 8 → τ.1 166 (8 * r + b) = am_sum (am_rf w h s f a b) i) → (∀ j, (j < 8 * r ∨ 8 * r + 8 ≤ j) → τ.1 166 j = σ.1 166 j) → am_U x m_Mo_layRays Po τ 38 [some (Zr 147), none, some (Zi (f : Int)), some (Zi (r : Int)), some (Zi ((am_wp w h (am_cost s 0) f a i : Nat) : Int)), none] [] := by
    intro d
    induction d with
    | zero =>
      intro i τ hi hfx h164 hb ho
      have ei : i = am_wn w h (am_cost s 0) f a := by omega
      rw [ei, n2]
      refine s_Mo_layRays_38 ⟨by omega, by omega, fun _ => kk τ hfx (fun b hb' => ?_) ho, fun q => absurd rfl q⟩
      rw [hb b hb', ei]; rfl
    | succ d ih =>
      intro i τ hi hfx h164 hb ho
      have l1 := n4 i (by omega)
      have l2 := n4 (i + 1) (by omega)
      have ne := n3 i (by omega)
      have b1 := hO.2.2.2.2.2.2.2.2.1 _ (show am_wp w h (am_cost s 0) f a i < 16 by omega)
      have b2 := hO.2.2.2.2.2.2.2.2.1 _ (show am_wp w h (am_cost s 0) f a (i + 1) < 16 by omega)
      have hMt := hM.fx hfx (by decide)
      refine s_Mo_layRays_38 ⟨by omega, by omega, fun q => absurd (by omega) ne, fun _ => m_next hMt hO hf (Or.inl rfl) h164 l1 ne ⟨_, rfl, rfl, ?_⟩⟩
      have enx : am_nx w h (am_cost s 0) (am_dst w h (am_cost s 0) f) (am_wp w h (am_cost s 0) f a i) = am_wp w h (am_cost s 0) f a (i + 1) := rfl
      rw [enx, Int.toNat_natCast, hMt.1.at 148 1 16 (by decide) (show am_wp w h (am_cost s 0) f a i < 16 by omega), show (8 * (r : Int) + s 1 (am_wp w h (am_cost s 0) f a i)).toNat = 8 * r + (s 1 (am_wp w h (am_cost s 0) f a i)).toNat by omega]
      refine ⟨by omega, by omega, fun τ1 f1 => ?_⟩
      have hM1 := hMt.fx (am_fx.o1 f1) (by decide)
      rw [Int.toNat_natCast, hM1.1.at 148 1 16 (by decide) (show am_wp w h (am_cost s 0) f a (i + 1) < 16 by omega), show (8 * (r : Int) + s 1 (am_wp w h (am_cost s 0) f a (i + 1))).toNat = 8 * r + (s 1 (am_wp w h (am_cost s 0) f a (i + 1))).toNat by omega]
      refine ⟨by omega, by omega, fun τ2 f2 => ?_⟩
      refine ih (i + 1) τ2 (by omega) ((hfx.tr (am_fx.o1 f1) (ks2 := [164, 166]) (ps2 := []) (by decide) (by decide)).tr (am_fx.o1 f2) (by decide) (by decide)) (fun b hb' => by rw [am_stO f2 (by decide), am_stO f1 (by decide)]; exact h164 b hb') (fun b hb' => ?_) (fun j hj => by rw [am_stN f2 (by omega), am_stN f1 (by omega)]; exact ho j hj)
      have e9 : am_sum (am_rf w h s f a b) (i + 1) = am_sum (am_rf w h s f a b) i + (am_ind (s 1 (am_wp w h (am_cost s 0) f a i)) (b : Int) + am_ind (s 1 (am_wp w h (am_cost s 0) f a (i + 1))) (b : Int)) := rfl
      have k1 : ∀ b, b < 8 → τ1.1 166 (8 * r + b) = am_sum (am_rf w h s f a b) i + am_ind (s 1 (am_wp w h (am_cost s 0) f a i)) (b : Int) := fun b hb' => by
        rw [am_stR f1]
        unfold am_ind
        by_cases q : b = (s 1 (am_wp w h (am_cost s 0) f a i)).toNat
        · rw [if_pos (by omega), if_pos (by omega), hb _ (by omega), q]
        · rw [if_neg (by omega), if_neg (by omega), hb b hb']; omega
      rw [e9, am_stR f2]
      by_cases q : b = (s 1 (am_wp w h (am_cost s 0) f a (i + 1))).toNat
      · rw [if_pos (by omega), ← q, k1 b hb', show am_ind (s 1 (am_wp w h (am_cost s 0) f a (i + 1))) (b : Int) = 1 by unfold am_ind; rw [if_pos (by omega)]]; omega
      · rw [if_neg (by omega), k1 b hb', show am_ind (s 1 (am_wp w h (am_cost s 0) f a (i + 1))) (b : Int) = 0 by unfold am_ind; rw [if_neg (by omega)]]; omega
  have zero : ∀ (d b : Nat) (τ : am_St), b + d = 8 → am_fx [164, 166] [] σ τ → (∀ b', b' < b → τ.1 166 (8 * r + b') = 0) → (∀ j, (j < 8 * r ∨ 8 * r + 8 ≤ j) → τ.1 166 j = σ.1 166 j) → am_U x m_Mo_layRays Po τ 3 [some (Zr 147), some (Zi (a : Int)), some (Zi (f : Int)), some (Zi (r : Int)), some (Zi (b : Int)), none] [] := by
    intro d
    induction d with
    | zero =>
      intro b τ hb hfx h0 ho
      refine s_Mo_layRays_3 ⟨by omega, fun _ => m_findTimes (hM.fx hfx (by decide)) hO hf (Or.inl rfl) (fun τ1 f1 h1 => ⟨rfl, rfl, ?_⟩), fun q => absurd (by omega) q⟩
      exact go _ 0 τ1 (Nat.zero_add _) (hfx.tr f1 (by decide) (by decide)) h1 (fun b' hb' => by rw [f1.g 166 (by decide)]; exact h0 b' (by omega)) (fun j hj => by rw [f1.g 166 (by decide)]; exact ho j hj)
    | succ d ih =>
      intro b τ hb hfx h0 ho
      refine s_Mo_layRays_3 ⟨by omega, fun q => absurd q (by omega), fun _ => ⟨by omega, fun τ1 f1 => ?_⟩⟩
      rw [show (8 * (r : Int) + (b : Int)).toNat = 8 * r + b by omega] at f1
      refine ih (b + 1) τ1 (by omega) (hfx.tr (am_fx.o1 f1) (by decide) (by decide)) (fun b' hb' => ?_) (fun j hj => by rw [am_stN f1 (by omega)]; exact ho j hj)
      rw [am_stR f1]
      by_cases q : b' = b
      · rw [if_pos (by omega)]
      · rw [if_neg (by omega)]; exact h0 b' (by omega)
  exact s_Mo_layRays_0 (zero 8 0 σ (by omega) am_fx.rf (fun b' hb' => absurd hb' (by omega)) (fun _ _ => rfl))
def am_MY (w h : Nat) (s : Nat → Nat → Int) (n : Nat) (σ : am_St) : Prop := ∀ p b, p < n → b < 8 → s 9 p = 0 → σ.1 166 (8 * p + b) = am_pry w h s p b
theorem m_findRays (hM : am_RM w h s σ) (hO : am_OK w h s) (kk : ∀ σ', am_fx [161, 162, 163, 164, 166] [] σ σ' → am_LH s σ' → am_MY w h s (am_P s) σ' → Po none am_SH σ') : am_U x m_Mo_findRays Po σ 0 [some (Zr 147), none] [] := by
  obtain ⟨bP, bT, bD, -⟩ := am_OKb hO
  have lP : am_P s ≤ 12 := by unfold am_P; omega
  refine s_Mo_findRays_0 ?_
  rw [hM.1.as 147 20 1 (by decide)]
  refine m_findSpans hM hO (by omega) (fun σ1 f1 hSP => ⟨rfl, rfl, ?_⟩)
  have hL := am_SP_LH hO hSP
  have loop : ∀ (d p : Nat) (τ : am_St), p + d = am_P s → am_fx [161, 162, 163, 164, 166] [] σ τ → am_LH s τ → am_MY w h s p τ → am_U x m_Mo_findRays Po τ 10 [some (Zr 147), some (Zi (p : Int))] [] := by
    intro d
    induction d with
    | zero =>
      intro p τ hp hf hL hY
      have hMt := hM.fx hf (by decide)
      have eP : τ.1 147 11 = (am_P s : Int) := by rw [hMt.1.as 147 11 4 (by decide)]; unfold am_P; omega
      refine s_Mo_findRays_10 ?_
      rw [eP]
      refine ⟨by omega, by omega, fun _ => kk τ hf hL ?_, fun q => absurd (by omega) q⟩
      rw [← show p = am_P s by omega]; exact hY
    | succ d ih =>
      intro p τ hp hf hL hY
      have hMt := hM.fx hf (by decide)
      have hpP : p < am_P s := by omega
      obtain ⟨a, b7, c8, d9, e1, f1, g, i1, -⟩ := am_OKp hO hpP
      have eP : τ.1 147 11 = (am_P s : Int) := by rw [hMt.1.as 147 11 4 (by decide)]; unfold am_P; omega
      refine s_Mo_findRays_10 ?_
      rw [eP, Int.toNat_natCast, hMt.1.at 156 9 12 (by decide) a, hMt.1.at 155 8 12 (by decide) a, hMt.1.at 154 7 12 (by decide) a, hMt.1.at 152 5 5 (by decide) (show (s 8 p).toNat < 5 by omega), hMt.1.at 150 3 6 (by decide) (show (s 7 p).toNat < 6 by omega), e1.1, f1.1]
      refine ⟨by omega, by omega, fun q => absurd q (by omega), fun _ => ⟨by omega, by omega, fun q => s_Mo_findRays_54 (ih (p + 1) τ (by omega) hf hL (fun p' b hp' hb h0 => ?_)), fun q => ⟨by omega, by omega, m_layRays hMt hO e1.2 f1.2 a (fun τ1 g1 k1 k2 => ⟨rfl, rfl, s_Mo_findRays_54 (ih (p + 1) τ1 (by omega) (hf.tr g1 (by decide) (by decide)) (fun p' hp' => ?_) (fun p' b hp' hb h0 => ?_))⟩)⟩⟩⟩
      · exact hY p' b (by
          rcases Nat.lt_or_ge p' p with z | z
          · exact z
          · exact absurd (by rw [← show p' = p by omega]; exact h0) q) hb h0
      · rw [g1.g 161 (by decide), g1.g 162 (by decide)]; exact hL p' hp'
      · by_cases e : p' = p
        · rw [e]; exact k1 b hb
        · rw [k2 _ (by omega)]; exact hY p' b (by omega) hb h0
  exact loop _ 0 σ1 (Nat.zero_add _) (f1.tr (am_fx.rf (ks := []) (ps := [])) (by decide) (by decide)) hL (fun p b hp => absurd hp (Nat.not_lt_zero p))
end AMR
