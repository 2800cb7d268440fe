/-! ===== the class's times and rays again, the longs standing ===== -/
def am_fy (ks : List Nat) (ps : List (Nat × Nat)) (σ σ' : am_St) : Prop := am_fx ks ps σ σ' ∧ σ'.2 = σ.2
theorem am_fy.rf {ks : List Nat} {ps : List (Nat × Nat)} {σ : am_St} : am_fy ks ps σ σ := ⟨am_fx.rf, rfl⟩
theorem am_fy.tr {ks ks' ks2 : List Nat} {ps ps' ps2 : List (Nat × Nat)} {σ σ1 σ2 : am_St} (h : am_fy ks ps σ σ1) (h' : am_fy ks' ps' σ1 σ2) (hk : (ks.all (fun k => ks2.contains k) && ks'.all (fun k => ks2.contains k)) = true) (hp : (ps.all (fun p => ps2.contains p) && ps'.all (fun p => ps2.contains p)) = true) : am_fy ks2 ps2 σ σ2 := ⟨h.1.tr h'.1 hk hp, h'.2.trans h.2⟩
theorem am_fy.up {k j : Nat} {v : Int} {σ : am_St} : am_fy [k] [] σ (am_up σ.1 k j v, σ.2) := ⟨am_fx.up, rfl⟩
theorem am_fy.upp {k j : Nat} {v : Int} {σ : am_St} : am_fy [] [(k, j)] σ (am_up σ.1 k j v, σ.2) := ⟨am_fx.upp, rfl⟩
theorem am_fy.g {ks : List Nat} {σ σ' : am_St} (h : am_fy ks [] σ σ') (k : Nat) {j : Nat} (hk : ks.contains k = false) : σ'.1 k j = σ.1 k j := h.1.g k hk
theorem am_fy.q {ks : List Nat} {ps : List (Nat × Nat)} {σ σ' : am_St} (h : am_fy ks ps σ σ') (k : Nat) {j : Nat} (hk : (ks.contains k || ps.any (fun p => p.1 == k)) = false) : σ'.1 k j = σ.1 k j := h.1.q k hk
section AMLL
variable {x : am_Sc} {Po : Option am_AV → am_Sh → am_St → Prop} {σ : am_St} {w h w2 h2 : Nat} {s s2 : Nat → Nat → Int}
theorem x_pullL {c : Nat → Int} {f c0 : Nat} (hw : 2 ≤ w ∧ w ≤ 4 ∧ 2 ≤ h ∧ h ≤ 4) (hc : ∀ b, b < w * h → 1 ≤ c b ∧ c b ≤ 180)
    (hb : ∀ c i, c < w * h → i < 4 → σ.1 4 (4 * c + i) = am_bs w h c i) (h5 : ∀ b, b < w * h → σ.1 5 b = c b) (hr : am_RI w h c f (σ.1 6)) (h0 : c0 < w * h)
    (kk : ∀ (σ' : am_St) (z : Int), (z = 0 ∨ z = 1) → am_fy [6] [] σ σ' → am_RI w h c f (σ'.1 6) → (∀ j, j ≠ c0 → σ'.1 6 j = σ.1 6 j) → σ'.1 6 c0 ≤ σ.1 6 c0 → (∀ a, am_adj w h a c0 → σ'.1 6 c0 ≤ σ.1 6 a + c a + c c0) → (z = 0 → σ'.1 6 c0 = σ.1 6 c0) → Po (some (Zi z)) am_SH σ') :
    am_U x m_Gr_pull Po σ 0 [some (Zr 1), some (Zi (c0 : Int)), none, none, none, none] [] := by
  have hwh : w * h ≤ 16 := Nat.mul_le_mul hw.2.1 hw.2.2.2
  have loop : ∀ (d i : Nat) (τ : am_St) (z : Int), i + d = 4 → (z = 0 ∨ z = 1) → am_fy [6] [] σ τ → am_RI w h c f (τ.1 6) → (∀ j, j ≠ c0 → τ.1 6 j = σ.1 6 j) → τ.1 6 c0 ≤ σ.1 6 c0 → (∀ i', i' < i → ∀ a : Nat, am_bs w h c0 i' = (a : Int) → τ.1 6 c0 ≤ σ.1 6 a + c a + c c0) → (z = 0 → τ.1 6 c0 = σ.1 6 c0) → am_U x m_Gr_pull Po τ 9 [some (Zr 1), some (Zi (c0 : Int)), some (Zi z), some (Zi ((c0 : Int) * 4)), some (Zi ((4 * c0 + i : Nat) : Int)), none] [] := by
    intro d
    induction d with
    | zero =>
      intro i τ z hi hz hf hR hj hle hs hz0
      refine s_Gr_pull_9 ⟨by omega, by omega, fun _ => ⟨hz, kk τ z hz hf hR hj hle (fun a ha => ?_) hz0⟩, fun q => absurd (by omega) q⟩
      obtain ⟨i', hi', e⟩ := am_adj_bs hw ha
      exact hs i' (by omega) a e
    | succ d ih =>
      intro i τ z hi hz hf hR hj hle hs hz0
      have e4 : τ.1 4 (4 * c0 + i) = am_bs w h c0 i := by rw [hf.g 4 (by decide)]; exact hb c0 i h0 (by omega)
      have step : ∀ (τ1 : am_St) (z1 : Int), am_U x m_Gr_pull Po τ1 9 [some (Zr 1), some (Zi (c0 : Int)), some (Zi z1), some (Zi ((c0 : Int) * 4)), some (Zi ((4 * c0 + (i + 1) : Nat) : Int)), none] [] → am_U x m_Gr_pull Po τ1 92 [some (Zr 1), some (Zi (c0 : Int)), some (Zi z1), some (Zi ((c0 : Int) * 4)), some (Zi ((4 * c0 + i : Nat) : Int)), none] [] := fun τ1 z1 hh => s_Gr_pull_92 hh
      refine s_Gr_pull_9 ⟨by omega, by omega, fun q => absurd q (by omega), fun _ => ⟨by omega, ?_⟩⟩
      rw [Int.toNat_natCast, e4]
      rcases am_bs_adj hw h0 (show i < 4 by omega) with e | ⟨a, e, ha⟩
      · rw [e]
        refine ⟨by decide, fun _ => step _ _ (ih (i + 1) τ z (by omega) hz hf hR hj hle (fun i' hi' a' ea => ?_) hz0), fun q => absurd (by decide) q⟩
        rcases Nat.lt_or_ge i' i with q | q
        · exact hs i' q a' ea
        · have : i' = i := by omega
          rw [this, e] at ea; omega
      · rw [e]
        have ba := ha.1
        have nac := ha.ne (by omega)
        have ga := hR.2.2.1 a ba
        have g0 := hR.2.2.1 c0 h0
        have ca := hc a ba
        have cc := hc c0 h0
        have e5a : τ.1 5 a = c a := by rw [hf.g 5 (by decide)]; exact h5 a ba
        have e5c : τ.1 5 c0 = c c0 := by rw [hf.g 5 (by decide)]; exact h5 c0 h0
        have e6a : τ.1 6 a = σ.1 6 a := hj a nac
        refine ⟨by omega, fun q => absurd q (by omega), fun _ => ⟨by omega, by omega, ?_⟩⟩
        rw [Int.toNat_natCast, Int.toNat_natCast, e5a, e5c]
        refine ⟨by omega, by omega, fun q => step _ _ (ih (i + 1) τ z (by omega) hz hf hR hj hle (fun i' hi' a' ea => ?_) hz0), fun q τ1 e1 => step _ _ ?_⟩
        · rcases Nat.lt_or_ge i' i with q2 | q2
          · exact hs i' q2 a' ea
          · have : i' = i := by omega
            rw [this, e] at ea
            have : a' = a := by omega
            rw [this, ← e6a]; exact q
        · have e6 : τ1.1 6 = fun j => if j = c0 then τ.1 6 a + c a + c c0 else τ.1 6 j := by rw [e1]; exact am_up_row τ.1 6 c0 _
          have e6c : τ1.1 6 c0 = τ.1 6 a + c a + c c0 := by rw [e6]; exact if_pos rfl
          refine ih (i + 1) τ1 1 (by omega) (Or.inr rfl) (hf.tr (by rw [e1]; exact am_fy.up) (ks2 := [6]) (by decide) (by decide)) ?_ (fun j hj' => ?_) (by omega) (fun i' hi' a' ea => ?_) (fun q => absurd q (by decide))
          · rw [e6]
            exact hR.relax (by omega) (fun b hb => (hc b hb).1) ha rfl (by omega)
          · rw [e6]
            show (if j = c0 then _ else τ.1 6 j) = _
            rw [if_neg hj']; exact hj j hj'
          · rcases Nat.lt_or_ge i' i with q2 | q2
            · have := hs i' q2 a' ea; omega
            · have : i' = i := by omega
              rw [this, e] at ea
              have : a' = a := by omega
              rw [this, ← e6a, e6c]; exact Int.le_refl _
  refine s_Gr_pull_0 ?_
  have := loop 4 0 σ 0 (by omega) (Or.inl rfl) am_fy.rf hr (fun _ _ => rfl) (Int.le_refl _) (fun i' hi' => absurd hi' (by omega)) (fun _ => rfl)
  rw [show ((4 * c0 + 0 : Nat) : Int) = (c0 : Int) * 4 by omega] at this
  exact this
theorem x_spreadL {f : Nat} {k : Int} (hX : am_RX w h s σ) (hO : am_OK w h s) (hf : f < w * h) (hk : k = 0 ∨ k = 1)
    (kk : ∀ σ', am_fy [5, 6] [] σ σ' → (∀ b, b < w * h → σ'.1 5 b = am_cost s k b) → (∀ b, b < w * h → σ'.1 6 b = am_dst w h (am_cost s k) f b) → Po none am_SH σ') :
    am_U x m_Gr_spread Po σ 0 [some (Zr 1), some (Zi (f : Int)), some (Zi k), none, none, none, none] [] := by
  have hw := hO.1
  have hwh := (am_wh hO)
  have hc : ∀ b, b < w * h → 1 ≤ am_cost s k b ∧ am_cost s k b ≤ 180 := fun b hb => am_cost_b hO hb
  have hD := am_dst_is hw hc hf
  have hDb : ∀ b, b < w * h → am_dst w h (am_cost s k) f b ≤ 1000000 := fun b hb => by have := hD.bd hw hc hb; omega
  -- the passes
  have passes : ∀ (D p : Nat) (τ : am_St) (ch : Int), p + D = w * h → (ch = 0 ∨ ch = 1) → am_fy [5, 6] [] σ τ → (∀ b, b < w * h → τ.1 5 b = am_cost s k b) → am_RI w h (am_cost s k) f (τ.1 6) → (∀ b, b < w * h → am_rk (am_dst w h (am_cost s k) f) b (w * h) < p → τ.1 6 b = am_dst w h (am_cost s k) f b) → (ch = 0 → ∀ b, b < w * h → τ.1 6 b = am_dst w h (am_cost s k) f b) → am_U x m_Gr_spread Po τ 58 [some (Zr 1), none, none, some (Zi ch), some (Zi (p : Int)), none, none] [] := by
    intro D
    induction D with
    | zero =>
      intro p τ ch hp hch hfx h5 hR hrk h0
      have e1 : τ.1 1 0 = ((w * h : Nat) : Int) := by rw [hfx.g 1 (by decide)]; exact hX.2.1
      refine s_Gr_spread_58 ?_
      rw [e1]
      refine ⟨by omega, by omega, fun _ => s_Gr_spread_131 (kk τ hfx h5 (fun b hb => hrk b hb ?_)), fun q => absurd (by omega) q⟩
      have := am_rk_self (d := am_dst w h (am_cost s k) f) hb
      omega
    | succ D ih =>
      intro p τ ch hp hch hfx h5 hR hrk h0
      have e1 : τ.1 1 0 = ((w * h : Nat) : Int) := by rw [hfx.g 1 (by decide)]; exact hX.2.1
      refine s_Gr_spread_58 ?_
      rw [e1]
      refine ⟨by omega, by omega, fun q => absurd q (by omega), fun _ => ⟨by omega, fun q => s_Gr_spread_131 (kk τ hfx h5 (h0 q)), fun q => ?_⟩⟩
      -- one pass
      have inner : ∀ (e : Nat → Nat), (∀ i, i < w * h → e i < w * h) → (∀ b, b < w * h → ∃ i, i < w * h ∧ e i = b) → (∀ i : Nat, i < w * h → (if am_and (p : Int) 1 = 0 then (i : Int) else ((w * h : Nat) : Int) - 1 - (i : Int)) = (e i : Int)) → ∀ (d i : Nat) (τ : am_St) (ch : Int), i + d = w * h → (ch = 0 ∨ ch = 1) → am_fy [5, 6] [] σ τ → (∀ b, b < w * h → τ.1 5 b = am_cost s k b) → am_RI w h (am_cost s k) f (τ.1 6) → (∀ b, b < w * h → am_rk (am_dst w h (am_cost s k) f) b (w * h) < p → τ.1 6 b = am_dst w h (am_cost s k) f b) → (∀ j, j < i → am_rk (am_dst w h (am_cost s k) f) (e j) (w * h) ≤ p → τ.1 6 (e j) = am_dst w h (am_cost s k) f (e j)) → (ch = 0 → ∀ j, j < i → ∀ a, am_adj w h a (e j) → τ.1 6 (e j) ≤ τ.1 6 a + am_cost s k a + am_cost s k (e j)) → am_U x m_Gr_spread Po τ 76 [some (Zr 1), none, none, some (Zi ch), some (Zi (p : Int)), some (Zi (i : Int)), none] [] := by
        intro e he1 he2 he3 d
        induction d with
        | zero =>
          intro i τ ch hi hch hfx h5 hR hrk hrk2 h0
          have e1 : τ.1 1 0 = ((w * h : Nat) : Int) := by rw [hfx.g 1 (by decide)]; exact hX.2.1
          refine s_Gr_spread_76 ?_
          rw [e1]
          refine ⟨by omega, by omega, fun _ => ?_, fun q => absurd (by omega) q⟩
          refine ih (p + 1) τ ch (by omega) hch hfx h5 hR (fun b hb hb2 => ?_) (fun q b hb => ?_)
          · obtain ⟨j, hj, ej⟩ := he2 b hb
            have := hrk2 j (by omega) (by rw [ej]; omega)
            rw [ej] at this; exact this
          · refine (hR.fix hw hc (fun a b' ha => ?_)).uniq (fun b hb => (hc b hb).1) hD hb
            obtain ⟨j, hj, ej⟩ := he2 b' ha.2.1
            have := h0 q j (by omega) a (by rw [ej]; exact ha)
            rw [ej] at this; exact this
        | succ d ihd =>
          intro i τ ch hi hch hfx h5 hR hrk hrk2 h0
          have e1 : τ.1 1 0 = ((w * h : Nat) : Int) := by rw [hfx.g 1 (by decide)]; exact hX.2.1
          have go : am_U x m_Gr_spread Po τ 106 [some (Zr 1), none, none, some (Zi ch), some (Zi (p : Int)), some (Zi (i : Int)), none] [Zi ((e i : Nat) : Int)] := by
            refine s_Gr_spread_106 (x_pullL hw hc (fun c i hc hi => by rw [hfx.g 4 (by decide)]; exact hX.2.2 c i hc hi) h5 hR (he1 i (by omega)) ?_)
            intro τ1 z hz f1 R1 g1 g2 g3 g4
            have gge := fun b hb => R1.ge hc hD hDb (τ1.1 6 b).toNat b hb (by have := (R1.2.2.1 b hb).1; omega)
            have mono : ∀ b, b < w * h → τ1.1 6 b ≤ τ.1 6 b := fun b hb => by
              by_cases eb : b = e i
              · rw [eb]; exact g2
              · rw [g1 b eb]; exact Int.le_refl _
            have keep : ∀ b, b < w * h → τ.1 6 b = am_dst w h (am_cost s k) f b → τ1.1 6 b = am_dst w h (am_cost s k) f b := fun b hb hd => by
              have := gge b hb
              have := mono b hb
              omega
            have hfx1 : am_fy [5, 6] [] σ τ1 := hfx.tr f1 (by decide) (by decide)
            have h51 : ∀ b, b < w * h → τ1.1 5 b = am_cost s k b := fun b hb => by rw [f1.g 5 (by decide)]; exact h5 b hb
            have hrk1 : ∀ b, b < w * h → am_rk (am_dst w h (am_cost s k) f) b (w * h) < p → τ1.1 6 b = am_dst w h (am_cost s k) f b := fun b hb hp => keep b hb (hrk b hb hp)
            have hrk21 : ∀ j, j < i + 1 → am_rk (am_dst w h (am_cost s k) f) (e j) (w * h) ≤ p → τ1.1 6 (e j) = am_dst w h (am_cost s k) f (e j) := fun j hj hp => by
              rcases Nat.lt_or_ge j i with q | q
              · exact keep _ (he1 j (by omega)) (hrk2 j q hp)
              · have ej : j = i := by omega
                rw [ej] at hp ⊢
                have hb := he1 i (by omega)
                by_cases ef : e i = f
                · rw [ef, R1.2.1, hD.2.1]
                · obtain ⟨a, ha, ed⟩ := hD.2.2.2.2 (e i) hb ef
                  have ca := hc a ha.1
                  have cb := hc _ hb
                  have lt : am_dst w h (am_cost s k) f a < am_dst w h (am_cost s k) f (e i) := by omega
                  have := am_rk_lt lt ha.1
                  have ea := hrk a ha.1 (by omega)
                  have := g3 a ha
                  have := gge _ hb
                  omega
            refine ⟨z, rfl, rfl, by omega, fun q => s_Gr_spread_119 (ihd (i + 1) τ1 ch (by omega) hch hfx1 h51 R1 hrk1 hrk21 (fun qc j hj a ha => ?_)), fun q => s_Gr_spread_119 (ihd (i + 1) τ1 1 (by omega) (Or.inr rfl) hfx1 h51 R1 hrk1 hrk21 (fun qc => absurd qc (by decide)))⟩
            have same : ∀ b, τ1.1 6 b = τ.1 6 b := fun b => by
              by_cases eb : b = e i
              · rw [eb]; exact g4 q
              · exact g1 b eb
            rcases Nat.lt_or_ge j i with q2 | q2
            · rw [same, same]; exact h0 qc j q2 a ha
            · have ej : j = i := by omega
              rw [ej] at ha ⊢
              rw [same a]; exact g3 a ha
          have hei := he3 i (by omega)
          refine s_Gr_spread_76 ?_
          rw [e1]
          refine ⟨by omega, by omega, fun q => absurd q (by omega), fun _ => ⟨by rw [am_and1 (by omega)]; omega, fun q => ?_, fun q => ?_⟩⟩
          · rw [if_neg q] at hei; rw [← hei] at go; exact go
          · rw [if_pos q] at hei; rw [← hei] at go; exact go
      by_cases par : am_and (p : Int) 1 = 0
      · exact inner (fun i => i) (fun i hi => hi) (fun b hb => ⟨b, hb, rfl⟩) (fun i hi => by rw [if_pos par]) (w * h) 0 τ 0 (by omega) (Or.inl rfl) hfx h5 hR hrk (fun j hj => absurd hj (by omega)) (fun _ j hj => absurd hj (by omega))
      · exact inner (fun i => w * h - 1 - i) (fun i hi => by show w * h - 1 - i < w * h; omega) (fun b hb => ⟨w * h - 1 - b, by omega, by show w * h - 1 - (w * h - 1 - b) = b; omega⟩) (fun i hi => by rw [if_neg par]; show _ = ((w * h - 1 - i : Nat) : Int); omega) (w * h) 0 τ 0 (by omega) (Or.inl rfl) hfx h5 hR hrk (fun j hj => absurd hj (by omega)) (fun _ j hj => absurd hj (by omega))
  -- the prices
  have fill : ∀ (d i : Nat) (τ : am_St), i + d = w * h → am_fy [5, 6] [] σ τ → (∀ b, b < i → τ.1 5 b = am_cost s k b) → (∀ b, b < i → τ.1 6 b = 1000000) → am_U x m_Gr_spread Po τ 2 [some (Zr 1), some (Zi (f : Int)), some (Zi k), some (Zi (i : Int)), none, none, none] [] := by
    intro d
    induction d with
    | zero =>
      intro i τ hi hfx h5 h6
      have e1 : τ.1 1 0 = ((w * h : Nat) : Int) := by rw [hfx.g 1 (by decide)]; exact hX.2.1
      refine s_Gr_spread_2 ?_
      rw [e1]
      refine ⟨by omega, by omega, fun _ => ⟨by omega, fun τ1 f1 => ?_⟩, fun q => absurd (by omega) q⟩
      have e6 : ∀ j, τ1.1 6 j = if j = f then 0 else τ.1 6 j := fun j => by rw [f1, Int.toNat_natCast]; show am_up τ.1 6 f 0 6 j = _; rw [am_up_row]
      refine passes (w * h) 0 τ1 1 (by omega) (Or.inr rfl) (hfx.tr (by rw [f1]; exact am_fy.up) (ks' := [6]) (ps' := []) (by decide) (by decide)) (fun b hb => ?_) ⟨hf, by rw [e6, if_pos rfl], fun b hb => ?_, fun b hb hb2 => Or.inl (by rw [e6, if_neg hb2]; exact h6 b (by omega))⟩ (fun b hb q => absurd q (Nat.not_lt_zero _)) (fun q => absurd q (by decide))
      · rw [f1]; exact h5 b (by omega)
      · rw [e6]
        by_cases e : b = f
        · rw [if_pos e]; omega
        · rw [if_neg e, h6 b (by omega)]; omega
    | succ d ih =>
      intro i τ hi hfx h5 h6
      have e1 : τ.1 1 0 = ((w * h : Nat) : Int) := by rw [hfx.g 1 (by decide)]; exact hX.2.1
      have e2 : τ.1 2 i = s 1 i := by rw [hfx.g 2 (by decide)]; exact hX.1.at 2 1 16 (by decide) (by omega)
      have b1 := hO.2.2.2.2.2.2.2.2.1 i (by omega)
      have e3 : τ.1 3 (s 1 i).toNat = s 2 (s 1 i).toNat := by rw [hfx.g 3 (by decide)]; exact hX.1.at 3 2 8 (by decide) (by omega)
      have b2 := hO.2.2.2.2.2.2.2.2.2.1 (s 1 i).toNat (by omega)
      have er : τ.1 1 1 = s 0 0 := by rw [hfx.g 1 (by decide)]; exact hX.1.as 1 1 0 (by decide)
      refine s_Gr_spread_2 ?_
      rw [e1, Int.toNat_natCast i, e2, e3]
      refine ⟨by omega, by omega, fun q => absurd q (by omega), fun _ => ⟨by omega, by omega, x_price hk er hO.2.1 b2 ⟨_, rfl, rfl, fun τ1 f1 τ2 f2 => ?_⟩⟩⟩
      refine ih (i + 1) τ2 (by omega) ?_ (fun b hb => ?_) (fun b hb => ?_)
      · refine ⟨?_, by rw [f2, f1]; exact hfx.2⟩
        intro a j ha _
        simp only [List.mem_cons, List.not_mem_nil, or_false, not_or] at ha
        rw [f2, f1]
        show am_up (am_up τ.1 5 i _) 6 i 1000000 a j = _
        rw [am_up_o ha.2, am_up_o ha.1]
        exact hfx.1 a j (by simp [ha]) (by simp)
      · rw [f2, f1]
        show am_up (am_up τ.1 5 i _) 6 i 1000000 5 b = _
        rw [am_up_o (by decide), am_up_row]
        show (if b = i then _ else τ.1 5 b) = _
        by_cases e : b = i
        · rw [if_pos e, e]; rfl
        · rw [if_neg e]; exact h5 b (by omega)
      · rw [f2]
        show am_up τ1.1 6 i 1000000 6 b = _
        rw [am_up_row]
        show (if b = i then _ else τ1.1 6 b) = _
        by_cases e : b = i
        · rw [if_pos e]
        · rw [if_neg e, f1]
          exact h6 b (by omega)
  exact s_Gr_spread_0 (fill (w * h) 0 σ (by omega) am_fy.rf (fun b hb => absurd hb (by omega)) (fun b hb => absurd hb (by omega)))
theorem x_traceL {f a : Nat} {k : Int} (hX : am_RX w h s σ) (hO : am_OK w h s) (hf : f < w * h) (h5 : ∀ b, b < w * h → σ.1 5 b = am_cost s k b) (h6 : ∀ b, b < w * h → σ.1 6 b = am_dst w h (am_cost s k) f b) (ha : a < w * h)
    (kk : ∀ σ', am_fy [7] [(1, 8)] σ σ' → σ'.1 1 8 = ((am_wn w h (am_cost s k) f a + 1 : Nat) : Int) → (∀ i, i ≤ am_wn w h (am_cost s k) f a → σ'.1 7 i = ((am_wp w h (am_cost s k) f a i : Nat) : Int)) → Po none am_SH σ') :
    am_U x m_Gr_trace Po σ 0 [some (Zr 1), some (Zi (a : Int)), none] [] := by
  have hw := hO.1
  have hwh := am_wh hO
  have hc : ∀ b, b < w * h → 1 ≤ am_cost s k b ∧ am_cost s k b ≤ 180 := fun b hb => am_cost_b hO hb
  have hD := am_dst_is hw hc hf
  obtain ⟨n1, n2, n3, n4⟩ := am_wn_is hc hD ha
  have loop : ∀ (d i : Nat) (τ : am_St), i + d = am_wn w h (am_cost s k) f a → am_fy [7] [(1, 8)] σ τ → τ.1 1 8 = ((i + 1 : Nat) : Int) → (∀ j, j ≤ i → τ.1 7 j = ((am_wp w h (am_cost s k) f a j : Nat) : Int)) → am_U x m_Gr_trace Po τ 14 [some (Zr 1), none, some (Zi ((am_wp w h (am_cost s k) f a i : Nat) : Int))] [] := by
    intro d
    induction d with
    | zero =>
      intro i τ hi hfx h8 h7
      have e1 : τ.1 1 0 = ((w * h : Nat) : Int) := by rw [hfx.1 1 0 (by decide) (by decide)]; exact hX.2.1
      have ei : i = am_wn w h (am_cost s k) f a := by omega
      rw [ei, n2]
      have fin : am_U x m_Gr_trace Po τ 63 [none, none, none] [] := s_Gr_trace_63 (kk τ hfx (by rw [h8, ei]) (fun j hj => h7 j (by omega)))
      refine s_Gr_trace_14 ?_
      rw [h8, e1, Int.toNat_natCast, hfx.q 6 (by decide), h6 f hf, hD.2.1]
      exact ⟨by omega, by omega, fun _ => fin, fun _ => ⟨by omega, by decide, fun _ => fin, fun q => absurd (by decide) q⟩⟩
    | succ d ih =>
      intro i τ hi hfx h8 h7
      have e1 : τ.1 1 0 = ((w * h : Nat) : Int) := by rw [hfx.1 1 0 (by decide) (by decide)]; exact hX.2.1
      have hb := n4 i (by omega)
      have hn := n3 i (by omega)
      obtain ⟨⟨g1, g2⟩, -⟩ := am_nx_is hD hb hn
      have c1 := hc _ hb
      have c2 := hc _ g1.1
      have d1 := hD.bd hw hc hb
      have d2 := hD.bd hw hc g1.1
      refine s_Gr_trace_14 ?_
      rw [h8, e1, Int.toNat_natCast (am_wp w h (am_cost s k) f a i), hfx.q 6 (by decide), h6 _ hb]
      refine ⟨by omega, by omega, fun q => absurd q (by omega), fun _ => ⟨by omega, by omega, fun q => absurd q (by omega), fun _ => ?_⟩⟩
      refine x_next hw hc hf (fun c i hc hi => by rw [hfx.q 4 (by decide)]; exact hX.2.2 c i hc hi) (fun b hb => by rw [hfx.q 5 (by decide)]; exact h5 b hb) (fun b hb => by rw [hfx.q 6 (by decide)]; exact h6 b hb) hb hn ⟨_, rfl, rfl, by omega, fun τ1 f1 τ2 f2 => ?_⟩
      rw [h8, Int.toNat_natCast] at f1
      have e81 : τ1.1 1 8 = ((i + 1 : Nat) : Int) := by rw [f1]; exact h8
      rw [e81] at f2
      refine ih (i + 1) τ2 (by omega) ?_ ?_ (fun j hj => ?_)
      · refine hfx.tr (σ1 := τ) (ks' := [7]) (ps' := [(1, 8)]) ?_ (by decide) (by decide)
        exact am_fy.tr (σ1 := τ1) (ks := [7]) (ps := []) (ks' := []) (ps' := [(1, 8)]) (by rw [f1]; exact am_fy.up) (by rw [f2]; exact am_fy.upp) (by decide) (by decide)
      · rw [f2]
        show am_up τ1.1 1 8 _ 1 8 = _
        rw [am_up_row]
        exact if_pos rfl
      · rw [f2]
        show τ1.1 7 j = _
        rw [f1]
        show am_up τ.1 7 (i + 1) _ 7 j = _
        rw [am_up_row]
        show (if j = i + 1 then _ else τ.1 7 j) = _
        by_cases e : j = i + 1
        · rw [if_pos e, e]; rfl
        · rw [if_neg e]; exact h7 j (by omega)
  refine s_Gr_trace_0 (fun τ1 f1 τ2 f2 => loop _ 0 τ2 (Nat.zero_add _) ?_ ?_ (fun j hj => ?_))
  · exact am_fy.tr (σ1 := τ1) (ks := [7]) (ps := []) (ks' := []) (ps' := [(1, 8)]) (by rw [f1]; exact am_fy.up) (by rw [f2]; exact am_fy.upp) (by decide) (by decide)
  · rw [f2]
    show am_up τ1.1 1 8 _ 1 8 = _
    rw [am_up_row]; rfl
  · have ej : j = 0 := by omega
    rw [f2]
    show τ1.1 7 j = _
    rw [f1, ej]
    show am_up σ.1 7 0 _ 7 0 = _
    rw [am_up_row]; rfl
theorem c_fillL {r n : Nat} {v : Int} (hr : am_SH[r]? = some (12, n, [])) (hn : Nat.blt n 2147483648 = true) (kk : ∀ σ', am_fy [r] [] σ σ' → (∀ j, j < n → σ'.1 r j = v) → Po none am_SH σ') : am_U x m_Ar_fill Po σ 0 [some (Zr r), some (Zi v), none, none] [] := by
  refine c_fillW am_SHb hr hn (kk _ ⟨fun k j hk _ => ?_, rfl⟩ (fun j hj => ?_))
  · show am_fr σ.1 r 0 n v k j = _
    unfold am_fr
    rw [if_neg (fun z => hk (by rw [z.1]; simp))]
  · show am_fr σ.1 r 0 n v r j = _
    unfold am_fr
    rw [if_pos ⟨rfl, by omega, hj⟩]
theorem x_countRaysL {f a r : Nat} (hr : am_SH[r]? = some (12, 8, [])) (hr9 : 20 ≤ r) (hX : am_RX w h s σ) (hO : am_OK w h s) (hf : f < w * h) (ha : a < w * h) (h8 : σ.1 1 8 = ((am_wn w h (am_cost s 0) f a + 1 : Nat) : Int)) (h7 : ∀ i, i ≤ am_wn w h (am_cost s 0) f a → σ.1 7 i = ((am_wp w h (am_cost s 0) f a i : Nat) : Int))
    (kk : ∀ σ', am_fy [r] [] σ σ' → (∀ b, b < 8 → σ'.1 r b = am_ry w h s f a b) → Po none am_SH σ') : am_U x m_Gr_countRays Po σ 0 [some (Zr 1), some (Zr r), none] [] := by
  have hwh := am_wh hO
  obtain ⟨n1, n2, n3, n4⟩ := am_wn_of (k := 0) hO hf ha
  have loop : ∀ (d i : Nat) (τ : am_St), i + d = am_wn w h (am_cost s 0) f a → am_fy [r] [] σ τ → (∀ b, b < 8 → τ.1 r b = am_sum (am_rf w h s f a b) i) → am_U x m_Gr_countRays Po τ 7 [some (Zr 1), some (Zr r), some (Zi ((i + 1 : Nat) : Int))] [] := by
    intro d
    induction d with
    | zero =>
      intro i τ hi hfx hb
      refine s_Gr_countRays_7 hr ?_
      rw [hfx.1 1 8 (by simp; omega) (by simp), h8]
      refine ⟨by omega, by omega, fun _ => kk τ hfx (fun b hb' => ?_), fun q => absurd (by omega) q⟩
      rw [hb b hb', show i = am_wn w h (am_cost s 0) f a by omega]; rfl
    | succ d ih =>
      intro i τ hi hfx hb
      have l1 := n4 i (by omega)
      have l2 := n4 (i + 1) (by omega)
      have b1 := hO.2.2.2.2.2.2.2.2.1 _ (show am_wp w h (am_cost s 0) f a i < 16 by omega)
      have b2 := hO.2.2.2.2.2.2.2.2.1 _ (show am_wp w h (am_cost s 0) f a (i + 1) < 16 by omega)
      have e7 : ∀ (τ : am_St), am_fy [r] [] σ τ → ∀ j, j ≤ am_wn w h (am_cost s 0) f a → τ.1 7 j = ((am_wp w h (am_cost s 0) f a j : Nat) : Int) := fun τ hfx j hj => by rw [hfx.1 7 j (by simp; omega) (by simp)]; exact h7 j hj
      have e2 : ∀ (τ : am_St), am_fy [r] [] σ τ → ∀ c, c < 16 → τ.1 2 c = s 1 c := fun τ hfx c hc => by rw [hfx.1 2 c (by simp; omega) (by simp)]; exact hX.1.at 2 1 16 (by decide) hc
      refine s_Gr_countRays_7 hr ?_
      rw [hfx.1 1 8 (by simp; omega) (by simp), h8, show (((i + 1 : Nat) : Int) - 1).toNat = i by omega, e7 τ hfx i (by omega), Int.toNat_natCast, e2 τ hfx _ (by omega)]
      refine ⟨by omega, by omega, fun q => absurd q (by omega), fun _ => ⟨by omega, by omega, by omega, fun τ1 f1 => ?_⟩⟩
      have hf1 : am_fy [r] [] σ τ1 := ⟨fun k j hk hp => by rw [am_fx.o1 f1 k j hk hp]; exact hfx.1 k j hk hp, by rw [f1]; exact hfx.2⟩
      rw [Int.toNat_natCast, e7 τ1 hf1 (i + 1) (by omega), Int.toNat_natCast, e2 τ1 hf1 _ (by omega)]
      refine ⟨by omega, by omega, by omega, fun τ2 f2 => ?_⟩
      have hf2 : am_fy [r] [] σ τ2 := ⟨fun k j hk hp => by rw [am_fx.o1 f2 k j hk hp]; exact hf1.1 k j hk hp, by rw [f2]; exact hf1.2⟩
      refine ih (i + 1) τ2 (by omega) hf2 (fun b hb' => ?_)
      have e9 : am_sum (am_rf w h s f a b) (i + 1) = am_sum (am_rf w h s f a b) i + (am_ind (s 1 (am_wp w h (am_cost s 0) f a i)) (b : Int) + am_ind (s 1 (am_wp w h (am_cost s 0) f a (i + 1))) (b : Int)) := rfl
      have k1 : ∀ b, b < 8 → τ1.1 r b = am_sum (am_rf w h s f a b) i + am_ind (s 1 (am_wp w h (am_cost s 0) f a i)) (b : Int) := fun b hb' => by
        rw [am_stR f1]
        unfold am_ind
        by_cases q : b = (s 1 (am_wp w h (am_cost s 0) f a i)).toNat
        · rw [if_pos q, if_pos (by omega), hb _ (by omega), q]
        · rw [if_neg q, if_neg (by omega), hb b hb']; omega
      rw [e9, am_stR f2]
      by_cases q : b = (s 1 (am_wp w h (am_cost s 0) f a (i + 1))).toNat
      · rw [if_pos q, ← q, k1 b hb', show am_ind (s 1 (am_wp w h (am_cost s 0) f a (i + 1))) (b : Int) = 1 by unfold am_ind; rw [if_pos (by omega)]]; omega
      · rw [if_neg q, k1 b hb', show am_ind (s 1 (am_wp w h (am_cost s 0) f a (i + 1))) (b : Int) = 0 by unfold am_ind; rw [if_neg (by omega)]]; omega
  refine s_Gr_countRays_0 hr (c_fillL hr (by decide) (fun τ hf h0 => ⟨rfl, rfl, ?_⟩))
  exact loop _ 0 τ (Nat.zero_add _) hf (fun b hb => h0 b hb)
end AMLL
