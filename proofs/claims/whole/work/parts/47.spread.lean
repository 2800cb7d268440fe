/-! ===== spread of the class ===== -/
section AMS
variable {x : am_Sc} {Po : Option am_AV → am_Sh → am_St → Prop} {σ : am_St} {w h w2 h2 : Nat} {s s2 : Nat → Nat → Int}
theorem x_price {v k r : Int} (hk : k = 0 ∨ k = 1) (hr : σ.1 1 1 = r) (br : 10 ≤ r ∧ r ≤ 30) (bv : 1 ≤ v ∧ v ≤ 60) (kk : Po (some (Zi (am_pr r v k))) am_SH σ) : am_U x m_Gr_price Po σ 0 [some (Zr 1), some (Zi v), some (Zi k)] [] := by
  refine s_Gr_price_0 ⟨by omega, fun q => s_Gr_price_17 ?_, fun q => s_Gr_price_17 ?_⟩
  · rw [hr, am_pr_div br bv q]; exact kk
  · rw [show am_pr r v k = v by unfold am_pr; rw [if_pos q]] at kk; exact kk
/-- one cell is pulled -/
theorem x_pull {c : Nat → Int} {f c0 : Nat} (hw : 2 ≤ w ∧ w ≤ 4 ∧ 2 ≤ h ∧ h ≤ 4) (hc : ∀ b, b < w * h → 1 ≤ c b ∧ c b ≤ 180)
    (hb : ∀ c i, c < w * h → i < 4 → σ.1 4 (4 * c + i) = am_bs w h c i) (h5 : ∀ b, b < w * h → σ.1 5 b = c b) (hr : am_RI w h c f (σ.1 6)) (h0 : c0 < w * h)
    (kk : ∀ (σ' : am_St) (z : Int), (z = 0 ∨ z = 1) → am_fx [6] [] σ σ' → am_RI w h c f (σ'.1 6) → (∀ j, j ≠ c0 → σ'.1 6 j = σ.1 6 j) → σ'.1 6 c0 ≤ σ.1 6 c0 → (∀ a, am_adj w h a c0 → σ'.1 6 c0 ≤ σ.1 6 a + c a + c c0) → (z = 0 → σ'.1 6 c0 = σ.1 6 c0) → Po (some (Zi z)) am_SH σ') :
    am_U x m_Gr_pull Po σ 0 [some (Zr 1), some (Zi (c0 : Int)), none, none, none, none] [] := by
  have hwh : w * h ≤ 16 := Nat.mul_le_mul hw.2.1 hw.2.2.2
  have loop : ∀ (d i : Nat) (τ : am_St) (z : Int), i + d = 4 → (z = 0 ∨ z = 1) → am_fx [6] [] σ τ → am_RI w h c f (τ.1 6) → (∀ j, j ≠ c0 → τ.1 6 j = σ.1 6 j) → τ.1 6 c0 ≤ σ.1 6 c0 → (∀ i', i' < i → ∀ a : Nat, am_bs w h c0 i' = (a : Int) → τ.1 6 c0 ≤ σ.1 6 a + c a + c c0) → (z = 0 → τ.1 6 c0 = σ.1 6 c0) → am_U x m_Gr_pull Po τ 9 [some (Zr 1), some (Zi (c0 : Int)), some (Zi z), some (Zi ((c0 : Int) * 4)), some (Zi ((4 * c0 + i : Nat) : Int)), none] [] := by
    intro d
    induction d with
    | zero =>
      intro i τ z hi hz hf hR hj hle hs hz0
      refine s_Gr_pull_9 ⟨by omega, by omega, fun _ => ⟨hz, kk τ z hz hf hR hj hle (fun a ha => ?_) hz0⟩, fun q => absurd (by omega) q⟩
      obtain ⟨i', hi', e⟩ := am_adj_bs hw ha
      exact hs i' (by omega) a e
    | succ d ih =>
      intro i τ z hi hz hf hR hj hle hs hz0
      have e4 : τ.1 4 (4 * c0 + i) = am_bs w h c0 i := by rw [hf.g 4 (by decide)]; exact hb c0 i h0 (by omega)
      have step : ∀ (τ1 : am_St) (z1 : Int), am_U x m_Gr_pull Po τ1 9 [some (Zr 1), some (Zi (c0 : Int)), some (Zi z1), some (Zi ((c0 : Int) * 4)), some (Zi ((4 * c0 + (i + 1) : Nat) : Int)), none] [] → am_U x m_Gr_pull Po τ1 92 [some (Zr 1), some (Zi (c0 : Int)), some (Zi z1), some (Zi ((c0 : Int) * 4)), some (Zi ((4 * c0 + i : Nat) : Int)), none] [] := fun τ1 z1 hh => s_Gr_pull_92 hh
      refine s_Gr_pull_9 ⟨by omega, by omega, fun q => absurd q (by omega), fun _ => ⟨by omega, ?_⟩⟩
      rw [Int.toNat_natCast, e4]
      rcases am_bs_adj hw h0 (show i < 4 by omega) with e | ⟨a, e, ha⟩
      · rw [e]
        refine ⟨by decide, fun _ => step _ _ (ih (i + 1) τ z (by omega) hz hf hR hj hle (fun i' hi' a' ea => ?_) hz0), fun q => absurd (by decide) q⟩
        rcases Nat.lt_or_ge i' i with q | q
        · exact hs i' q a' ea
        · have : i' = i := by omega
          rw [this, e] at ea; omega
      · rw [e]
        have ba := ha.1
        have nac := ha.ne (by omega)
        have ga := hR.2.2.1 a ba
        have g0 := hR.2.2.1 c0 h0
        have ca := hc a ba
        have cc := hc c0 h0
        have e5a : τ.1 5 a = c a := by rw [hf.g 5 (by decide)]; exact h5 a ba
        have e5c : τ.1 5 c0 = c c0 := by rw [hf.g 5 (by decide)]; exact h5 c0 h0
        have e6a : τ.1 6 a = σ.1 6 a := hj a nac
        refine ⟨by omega, fun q => absurd q (by omega), fun _ => ⟨by omega, by omega, ?_⟩⟩
        rw [Int.toNat_natCast, Int.toNat_natCast, e5a, e5c]
        refine ⟨by omega, by omega, fun q => step _ _ (ih (i + 1) τ z (by omega) hz hf hR hj hle (fun i' hi' a' ea => ?_) hz0), fun q τ1 e1 => step _ _ ?_⟩
        · rcases Nat.lt_or_ge i' i with q2 | q2
          · exact hs i' q2 a' ea
          · have : i' = i := by omega
            rw [this, e] at ea
            have : a' = a := by omega
            rw [this, ← e6a]; exact q
        · have e6 : τ1.1 6 = fun j => if j = c0 then τ.1 6 a + c a + c c0 else τ.1 6 j := by rw [e1]; exact am_up_row τ.1 6 c0 _
          have e6c : τ1.1 6 c0 = τ.1 6 a + c a + c c0 := by rw [e6]; exact if_pos rfl
          refine ih (i + 1) τ1 1 (by omega) (Or.inr rfl) (hf.tr (by rw [e1]; exact am_fx.up) (ks2 := [6]) (by decide) (by decide)) ?_ (fun j hj' => ?_) (by omega) (fun i' hi' a' ea => ?_) (fun q => absurd q (by decide))
          · rw [e6]
            exact hR.relax (by omega) (fun b hb => (hc b hb).1) ha rfl (by omega)
          · rw [e6]
            show (if j = c0 then _ else τ.1 6 j) = _
            rw [if_neg hj']; exact hj j hj'
          · rcases Nat.lt_or_ge i' i with q2 | q2
            · have := hs i' q2 a' ea; omega
            · have : i' = i := by omega
              rw [this, e] at ea
              have : a' = a := by omega
              rw [this, ← e6a, e6c]; exact Int.le_refl _
  refine s_Gr_pull_0 ?_
  have := loop 4 0 σ 0 (by omega) (Or.inl rfl) am_fx.rf hr (fun _ _ => rfl) (Int.le_refl _) (fun i' hi' => absurd hi' (by omega)) (fun _ => rfl)
  rw [show ((4 * c0 + 0 : Nat) : Int) = (c0 : Int) * 4 by omega] at this
  exact this
/-- the least times of the class -/
theorem x_spread {f : Nat} {k : Int} (hX : am_RX w h s σ) (hO : am_OK w h s) (hf : f < w * h) (hk : k = 0 ∨ k = 1)
    (kk : ∀ σ', am_fx [5, 6] [] σ σ' → (∀ b, b < w * h → σ'.1 5 b = am_cost s k b) → (∀ b, b < w * h → σ'.1 6 b = am_dst w h (am_cost s k) f b) → Po none am_SH σ') :
    am_U x m_Gr_spread Po σ 0 [some (Zr 1), some (Zi (f : Int)), some (Zi k), none, none, none, none] [] := by
  have hw := hO.1
  have hwh := (am_wh hO)
  have hc : ∀ b, b < w * h → 1 ≤ am_cost s k b ∧ am_cost s k b ≤ 180 := fun b hb => am_cost_b hO hb
  have hD := am_dst_is hw hc hf
  have hDb : ∀ b, b < w * h → am_dst w h (am_cost s k) f b ≤ 1000000 := fun b hb => by have := hD.bd hw hc hb; omega
  -- the passes
  have passes : ∀ (D p : Nat) (τ : am_St) (ch : Int), p + D = w * h → (ch = 0 ∨ ch = 1) → am_fx [5, 6] [] σ τ → (∀ b, b < w * h → τ.1 5 b = am_cost s k b) → am_RI w h (am_cost s k) f (τ.1 6) → (∀ b, b < w * h → am_rk (am_dst w h (am_cost s k) f) b (w * h) < p → τ.1 6 b = am_dst w h (am_cost s k) f b) → (ch = 0 → ∀ b, b < w * h → τ.1 6 b = am_dst w h (am_cost s k) f b) → am_U x m_Gr_spread Po τ 58 [some (Zr 1), none, none, some (Zi ch), some (Zi (p : Int)), none, none] [] := by
    intro D
    induction D with
    | zero =>
      intro p τ ch hp hch hfx h5 hR hrk h0
      have e1 : τ.1 1 0 = ((w * h : Nat) : Int) := by rw [hfx.g 1 (by decide)]; exact hX.2.1
      refine s_Gr_spread_58 ?_
      rw [e1]
      refine ⟨by omega, by omega, fun _ => s_Gr_spread_131 (kk τ hfx h5 (fun b hb => hrk b hb ?_)), fun q => absurd (by omega) q⟩
      have := am_rk_self (d := am_dst w h (am_cost s k) f) hb
      omega
    | succ D ih =>
      intro p τ ch hp hch hfx h5 hR hrk h0
      have e1 : τ.1 1 0 = ((w * h : Nat) : Int) := by rw [hfx.g 1 (by decide)]; exact hX.2.1
      refine s_Gr_spread_58 ?_
      rw [e1]
      refine ⟨by omega, by omega, fun q => absurd q (by omega), fun _ => ⟨by omega, fun q => s_Gr_spread_131 (kk τ hfx h5 (h0 q)), fun q => ?_⟩⟩
      -- one pass
      have inner : ∀ (e : Nat → Nat), (∀ i, i < w * h → e i < w * h) → (∀ b, b < w * h → ∃ i, i < w * h ∧ e i = b) → (∀ i : Nat, i < w * h → (if am_and (p : Int) 1 = 0 then (i : Int) else ((w * h : Nat) : Int) - 1 - (i : Int)) = (e i : Int)) → ∀ (d i : Nat) (τ : am_St) (ch : Int), i + d = w * h → (ch = 0 ∨ ch = 1) → am_fx [5, 6] [] σ τ → (∀ b, b < w * h → τ.1 5 b = am_cost s k b) → am_RI w h (am_cost s k) f (τ.1 6) → (∀ b, b < w * h → am_rk (am_dst w h (am_cost s k) f) b (w * h) < p → τ.1 6 b = am_dst w h (am_cost s k) f b) → (∀ j, j < i → am_rk (am_dst w h (am_cost s k) f) (e j) (w * h) ≤ p → τ.1 6 (e j) = am_dst w h (am_cost s k) f (e j)) → (ch = 0 → ∀ j, j < i → ∀ a, am_adj w h a (e j) → τ.1 6 (e j) ≤ τ.1 6 a + am_cost s k a + am_cost s k (e j)) → am_U x m_Gr_spread Po τ 76 [some (Zr 1), none, none, some (Zi ch), some (Zi (p : Int)), some (Zi (i : Int)), none] [] := by
        intro e he1 he2 he3 d
        induction d with
        | zero =>
          intro i τ ch hi hch hfx h5 hR hrk hrk2 h0
          have e1 : τ.1 1 0 = ((w * h : Nat) : Int) := by rw [hfx.g 1 (by decide)]; exact hX.2.1
          refine s_Gr_spread_76 ?_
          rw [e1]
          refine ⟨by omega, by omega, fun _ => ?_, fun q => absurd (by omega) q⟩
          refine ih (p + 1) τ ch (by omega) hch hfx h5 hR (fun b hb hb2 => ?_) (fun q b hb => ?_)
          · obtain ⟨j, hj, ej⟩ := he2 b hb
            have := hrk2 j (by omega) (by rw [ej]; omega)
            rw [ej] at this; exact this
          · refine (hR.fix hw hc (fun a b' ha => ?_)).uniq (fun b hb => (hc b hb).1) hD hb
            obtain ⟨j, hj, ej⟩ := he2 b' ha.2.1
            have := h0 q j (by omega) a (by rw [ej]; exact ha)
            rw [ej] at this; exact this
        | succ d ihd =>
          intro i τ ch hi hch hfx h5 hR hrk hrk2 h0
          have e1 : τ.1 1 0 = ((w * h : Nat) : Int) := by rw [hfx.g 1 (by decide)]; exact hX.2.1
          have go : am_U x m_Gr_spread Po τ 106 [some (Zr 1), none, none, some (Zi ch), some (Zi (p : Int)), some (Zi (i : Int)), none] [Zi ((e i : Nat) : Int)] := by
            refine s_Gr_spread_106 (x_pull hw hc (fun c i hc hi => by rw [hfx.g 4 (by decide)]; exact hX.2.2 c i hc hi) h5 hR (he1 i (by omega)) ?_)
            intro τ1 z hz f1 R1 g1 g2 g3 g4
            have gge := fun b hb => R1.ge hc hD hDb (τ1.1 6 b).toNat b hb (by have := (R1.2.2.1 b hb).1; omega)
            have mono : ∀ b, b < w * h → τ1.1 6 b ≤ τ.1 6 b := fun b hb => by
              by_cases eb : b = e i
              · rw [eb]; exact g2
              · rw [g1 b eb]; exact Int.le_refl _
            have keep : ∀ b, b < w * h → τ.1 6 b = am_dst w h (am_cost s k) f b → τ1.1 6 b = am_dst w h (am_cost s k) f b := fun b hb hd => by
              have := gge b hb
              have := mono b hb
              omega
            have hfx1 : am_fx [5, 6] [] σ τ1 := hfx.tr f1 (by decide) (by decide)
            have h51 : ∀ b, b < w * h → τ1.1 5 b = am_cost s k b := fun b hb => by rw [f1.g 5 (by decide)]; exact h5 b hb
            have hrk1 : ∀ b, b < w * h → am_rk (am_dst w h (am_cost s k) f) b (w * h) < p → τ1.1 6 b = am_dst w h (am_cost s k) f b := fun b hb hp => keep b hb (hrk b hb hp)
            have hrk21 : ∀ j, j < i + 1 → am_rk (am_dst w h (am_cost s k) f) (e j) (w * h) ≤ p → τ1.1 6 (e j) = am_dst w h (am_cost s k) f (e j) := fun j hj hp => by
              rcases Nat.lt_or_ge j i with q | q
              · exact keep _ (he1 j (by omega)) (hrk2 j q hp)
              · have ej : j = i := by omega
                rw [ej] at hp ⊢
                have hb := he1 i (by omega)
                by_cases ef : e i = f
                · rw [ef, R1.2.1, hD.2.1]
                · obtain ⟨a, ha, ed⟩ := hD.2.2.2.2 (e i) hb ef
                  have ca := hc a ha.1
                  have cb := hc _ hb
                  have lt : am_dst w h (am_cost s k) f a < am_dst w h (am_cost s k) f (e i) := by omega
                  have := am_rk_lt lt ha.1
                  have ea := hrk a ha.1 (by omega)
                  have := g3 a ha
                  have := gge _ hb
                  omega
            refine ⟨z, rfl, rfl, by omega, fun q => s_Gr_spread_119 (ihd (i + 1) τ1 ch (by omega) hch hfx1 h51 R1 hrk1 hrk21 (fun qc j hj a ha => ?_)), fun q => s_Gr_spread_119 (ihd (i + 1) τ1 1 (by omega) (Or.inr rfl) hfx1 h51 R1 hrk1 hrk21 (fun qc => absurd qc (by decide)))⟩
            have same : ∀ b, τ1.1 6 b = τ.1 6 b := fun b => by
              by_cases eb : b = e i
              · rw [eb]; exact g4 q
              · exact g1 b eb
            rcases Nat.lt_or_ge j i with q2 | q2
            · rw [same, same]; exact h0 qc j q2 a ha
            · have ej : j = i := by omega
              rw [ej] at ha ⊢
              rw [same a]; exact g3 a ha
          have hei := he3 i (by omega)
          refine s_Gr_spread_76 ?_
          rw [e1]
          refine ⟨by omega, by omega, fun q => absurd q (by omega), fun _ => ⟨by rw [am_and1 (by omega)]; omega, fun q => ?_, fun q => ?_⟩⟩
          · rw [if_neg q] at hei; rw [← hei] at go; exact go
          · rw [if_pos q] at hei; rw [← hei] at go; exact go
      by_cases par : am_and (p : Int) 1 = 0
      · exact inner (fun i => i) (fun i hi => hi) (fun b hb => ⟨b, hb, rfl⟩) (fun i hi => by rw [if_pos par]) (w * h) 0 τ 0 (by omega) (Or.inl rfl) hfx h5 hR hrk (fun j hj => absurd hj (by omega)) (fun _ j hj => absurd hj (by omega))
      · exact inner (fun i => w * h - 1 - i) (fun i hi => by show w * h - 1 - i < w * h; omega) (fun b hb => ⟨w * h - 1 - b, by omega, by show w * h - 1 - (w * h - 1 - b) = b; omega⟩) (fun i hi => by rw [if_neg par]; show _ = ((w * h - 1 - i : Nat) : Int); omega) (w * h) 0 τ 0 (by omega) (Or.inl rfl) hfx h5 hR hrk (fun j hj => absurd hj (by omega)) (fun _ j hj => absurd hj (by omega))
  -- the prices
  have fill : ∀ (d i : Nat) (τ : am_St), i + d = w * h → am_fx [5, 6] [] σ τ → (∀ b, b < i → τ.1 5 b = am_cost s k b) → (∀ b, b < i → τ.1 6 b = 1000000) → am_U x m_Gr_spread Po τ 2 [some (Zr 1), some (Zi (f : Int)), some (Zi k), some (Zi (i : Int)), none, none, none] [] := by
    intro d
    induction d with
    | zero =>
      intro i τ hi hfx h5 h6
      have e1 : τ.1 1 0 = ((w * h : Nat) : Int) := by rw [hfx.g 1 (by decide)]; exact hX.2.1
      refine s_Gr_spread_2 ?_
      rw [e1]
      refine ⟨by omega, by omega, fun _ => ⟨by omega, fun τ1 f1 => ?_⟩, fun q => absurd (by omega) q⟩
      have e6 : ∀ j, τ1.1 6 j = if j = f then 0 else τ.1 6 j := fun j => by rw [f1, Int.toNat_natCast]; show am_up τ.1 6 f 0 6 j = _; rw [am_up_row]
      refine passes (w * h) 0 τ1 1 (by omega) (Or.inr rfl) (hfx.tr (by rw [f1]; exact am_fx.up) (ks' := [6]) (ps' := []) (by decide) (by decide)) (fun b hb => ?_) ⟨hf, by rw [e6, if_pos rfl], fun b hb => ?_, fun b hb hb2 => Or.inl (by rw [e6, if_neg hb2]; exact h6 b (by omega))⟩ (fun b hb q => absurd q (Nat.not_lt_zero _)) (fun q => absurd q (by decide))
      · rw [f1]; exact h5 b (by omega)
      · rw [e6]
        by_cases e : b = f
        · rw [if_pos e]; omega
        · rw [if_neg e, h6 b (by omega)]; omega
    | succ d ih =>
      intro i τ hi hfx h5 h6
      have e1 : τ.1 1 0 = ((w * h : Nat) : Int) := by rw [hfx.g 1 (by decide)]; exact hX.2.1
      have e2 : τ.1 2 i = s 1 i := by rw [hfx.g 2 (by decide)]; exact hX.1.at 2 1 16 (by decide) (by omega)
      have b1 := hO.2.2.2.2.2.2.2.2.1 i (by omega)
      have e3 : τ.1 3 (s 1 i).toNat = s 2 (s 1 i).toNat := by rw [hfx.g 3 (by decide)]; exact hX.1.at 3 2 8 (by decide) (by omega)
      have b2 := hO.2.2.2.2.2.2.2.2.2.1 (s 1 i).toNat (by omega)
      have er : τ.1 1 1 = s 0 0 := by rw [hfx.g 1 (by decide)]; exact hX.1.as 1 1 0 (by decide)
      refine s_Gr_spread_2 ?_
      rw [e1, Int.toNat_natCast i, e2, e3]
      refine ⟨by omega, by omega, fun q => absurd q (by omega), fun _ => ⟨by omega, by omega, x_price hk er hO.2.1 b2 ⟨_, rfl, rfl, fun τ1 f1 τ2 f2 => ?_⟩⟩⟩
      refine ih (i + 1) τ2 (by omega) ?_ (fun b hb => ?_) (fun b hb => ?_)
      · intro a j ha _
        simp only [List.mem_cons, List.not_mem_nil, or_false, not_or] at ha
        rw [f2, f1]
        show am_up (am_up τ.1 5 i _) 6 i 1000000 a j = _
        rw [am_up_o ha.2, am_up_o ha.1]
        exact hfx a j (by simp [ha]) (by simp)
      · rw [f2, f1]
        show am_up (am_up τ.1 5 i _) 6 i 1000000 5 b = _
        rw [am_up_o (by decide), am_up_row]
        show (if b = i then _ else τ.1 5 b) = _
        by_cases e : b = i
        · rw [if_pos e, e]; rfl
        · rw [if_neg e]; exact h5 b (by omega)
      · rw [f2]
        show am_up τ1.1 6 i 1000000 6 b = _
        rw [am_up_row]
        show (if b = i then _ else τ1.1 6 b) = _
        by_cases e : b = i
        · rw [if_pos e]
        · rw [if_neg e, f1]
          exact h6 b (by omega)
  exact s_Gr_spread_0 (fill (w * h) 0 σ (by omega) am_fx.rf (fun b hb => absurd hb (by omega)) (fun b hb => absurd hb (by omega)))
end AMS
