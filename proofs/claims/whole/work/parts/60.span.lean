/-! ===== span, quarrel ===== -/
def am_zL (s : Nat → Nat → Int) (p : Nat) : Int := am_lo s p - (am_bg s p + am_clk s p)
def am_zH (s : Nat → Nat → Int) (p : Nat) : Int := am_hi s p - (am_bg s p + am_clk s p)
abbrev am_CSp (w h : Nat) (s : Nat → Nat → Int) (S : Nat → Prop) : (Nat → Int) → (Nat → Int) → Prop := am_CN (am_P s) (am_pry w h s) (am_zL s) (am_zH s) S
theorem am_z_b {w h : Nat} {s : Nat → Nat → Int} (hO : am_OK w h s) {p : Nat} (hp : p < am_P s) : (-20000 ≤ am_zL s p ∧ am_zL s p ≤ 20000) ∧ (-20000 ≤ am_zH s p ∧ am_zH s p ≤ 20000) := by
  obtain ⟨-, -, -, -, -, -, g, i, -⟩ := am_OKp hO hp
  have := am_lohi hO hp
  unfold am_zL am_zH; omega
theorem am_pry_b {w h : Nat} {s : Nat → Nat → Int} (hO : am_OK w h s) {p : Nat} (hp : p < am_P s) (b : Nat) : 0 ≤ am_pry w h s p b ∧ am_pry w h s p b ≤ 30 := by
  obtain ⟨-, -, -, -, ⟨-, e⟩, ⟨-, f⟩, -⟩ := am_OKp hO hp
  exact am_ry_b hO e f
theorem am_CN_S {n : Nat} {R : Nat → Nat → Int} {a z : Nat → Int} {S S' : Nat → Prop} {l g : Nat → Int} (h : am_CN n R a z S l g) (hS : ∀ p, p < n → S' p → S p) : am_CN n R a z S' l g := ⟨h.1, fun p hp hs => h.2 p hp (hS p hp hs)⟩
theorem am_no_CN {n : Nat} {R : Nat → Nat → Int} {a z : Nat → Int} {S : Nat → Prop} {l g : Nat → Int} (hI : am_PI (am_CN n R a z S) l g) (hc : ∃ b, b < 8 ∧ g b < l b) : ∀ l' g', ¬ am_CN n R a z S l' g' := fun l' g' hC => by
  obtain ⟨b, hb, hlt⟩ := hc
  have h1 := hI l' g' hC b hb
  have h2 := hC.1 b hb
  omega
/-- full box -/
theorem am_PI_0 {n : Nat} {R : Nat → Nat → Int} {a z : Nat → Int} {S : Nat → Prop} {l g : Nat → Int} (hl : ∀ b, b < 8 → l b = 1) (hg : ∀ b, b < 8 → g b = 60) : am_PI (am_CN n R a z S) l g ∧ am_bx l g := by
  refine ⟨fun l' g' hC b hb => ?_, fun b hb => ?_⟩
  · have := hC.1 b hb; rw [hl b hb, hg b hb]; omega
  · rw [hl b hb, hg b hb]; decide
section AMQ
variable {x : am_Sc} {Po : Option am_AV → am_Sh → am_St → Prop} {σ : am_St} {w h w2 h2 : Nat} {s s2 : Nat → Nat → Int}
def am_BD (s : Nat → Nat → Int) (n : Nat) (σ : am_St) : Prop := ∀ i, i < n → σ.1 104 i = am_zL s (am_ke s (am_P s) i) ∧ σ.1 105 i = am_zH s (am_ke s (am_P s) i)
theorem x_setBounds (hX : am_RX w h s σ) (hO : am_OK w h s) (hR : am_RS w h s (am_P s) σ) (kk : ∀ σ', am_fx [104, 105] [] σ σ' → am_BD s (am_km s (am_P s)) σ' → Po none am_SH σ') : am_U x m_Pr_setBounds Po σ 0 [some (Zr 103), none, none, none] [] := by
  obtain ⟨bP, -⟩ := am_OKb hO
  have lP : am_P s ≤ 12 := by unfold am_P; omega
  have lK := am_km_le (s := s) (am_P s)
  have loop : ∀ (d i : Nat) (τ : am_St), i + d = am_km s (am_P s) → am_fx [104, 105] [] σ τ → am_BD s i τ → am_U x m_Pr_setBounds Po τ 2 [some (Zr 103), some (Zi (i : Int)), none, none] [] := by
    intro d
    induction d with
    | zero =>
      intro i τ hi hf hB
      refine s_Pr_setBounds_2 ?_
      rw [hf.g 20 (by decide), hR.1]
      refine ⟨by omega, by omega, fun _ => kk τ hf ?_, fun q => absurd (by omega) q⟩
      rw [← show i = am_km s (am_P s) by omega]; exact hB
    | succ d ih =>
      intro i τ hi hf hB
      have hXt := hX.fx hf (by decide)
      have hp := ((am_ke_is (s := s) (am_P s)).1 i (by omega)).1
      refine s_Pr_setBounds_2 ?_
      rw [hf.g 20 (by decide), hR.1, Int.toNat_natCast, hf.g 21 (by decide), hR.2.1 i (by omega)]
      refine ⟨by omega, by omega, fun q => absurd q (by omega), fun _ => ⟨by omega, x_begunOf hXt hO hp ⟨_, rfl, rfl, x_clockOf hXt hO hp ⟨_, rfl, rfl, x_lowNow hXt hO hp ⟨_, rfl, rfl, fun τ1 f1 => ?_⟩⟩⟩⟩⟩
      have hX1 := hXt.fx (am_fx.o1 f1) (by decide)
      refine x_highNow hX1 hO hp ⟨_, rfl, rfl, fun τ2 f2 => ?_⟩
      have := ih (i + 1) τ2 (by omega) ((hf.tr (am_fx.o1 f1) (ks2 := [104, 105]) (ps2 := []) (by decide) (by decide)).tr (am_fx.o1 f2) (by decide) (by decide)) (fun j hj => by
        rw [am_stO f2 (show 104 ≠ 105 by decide), am_stR f1, am_stR f2]
        by_cases e : j = i
        · rw [if_pos e, if_pos e, e]; exact ⟨rfl, rfl⟩
        · rw [if_neg e, if_neg e, am_stO f1 (by decide)]; exact hB j (by omega))
      rw [show ((i + 1 : Nat) : Int) = (i : Int) + 1 by omega] at this
      exact this
  exact s_Pr_setBounds_0 (loop _ 0 σ (Nat.zero_add _) am_fx.rf (fun j hj => absurd hj (Nat.not_lt_zero j)))
theorem x_quarrels {v : Nat} {S : Nat → Prop} (hO : am_OK w h s) (hR : am_RS w h s (am_P s) σ) (hB : am_BD s (am_km s (am_P s)) σ) (hv : v < 2147483648) (hS1 : ∀ i, i < am_km s (am_P s) → (v.testBit i = true ↔ S (am_ke s (am_P s) i))) (hS2 : ∀ p, p < am_P s → S p → s 9 p = 0)
    (k0 : ∀ σ', am_fx [106, 107] [(103, 6)] σ σ' → am_CSp w h s S (σ'.1 106) (σ'.1 107) → am_PI (am_CSp w h s S) (σ'.1 106) (σ'.1 107) → Po (some (Zi 0)) am_SH σ') (k1 : ∀ σ', am_fx [106, 107] [(103, 6)] σ σ' → (∀ l g, ¬ am_CSp w h s S l g) → Po (some (Zi 1)) am_SH σ') : am_U x m_Pr_quarrels Po σ 0 [some (Zr 103), some (Zi (v : Int)), none, none, none] [] := by
  obtain ⟨bP, -⟩ := am_OKb hO
  have lP : am_P s ≤ 12 := by unfold am_P; omega
  have lK := am_km_le (s := s) (am_P s)
  obtain ⟨ke1, -, ke3⟩ := am_ke_is (s := s) (am_P s)
  have crossed : ∀ (τ : am_St), am_fx [106, 107] [(103, 6)] σ τ → am_PI (am_CSp w h s S) (τ.1 106) (τ.1 107) → τ.1 103 6 = 1 → (∃ b, b < 8 ∧ τ.1 107 b < τ.1 106 b) → am_U x m_Pr_quarrels Po τ 101 [some (Zr 103), none, none, none, none] [] := fun τ hf hI hc hx => by
    refine s_Pr_quarrels_101 ?_
    rw [hc]; exact ⟨Or.inr rfl, k1 τ hf (am_no_CN hI hx)⟩
  have head : ∀ (N r : Nat) (τ0 : am_St), am_fx [106, 107] [(103, 6)] σ τ0 → am_PI (am_CSp w h s S) (τ0.1 106) (τ0.1 107) → τ0.1 103 6 = 0 → am_bx (τ0.1 106) (τ0.1 107) → am_wd (τ0.1 106) (τ0.1 107) < (N : Int) → (r : Int) + am_wd (τ0.1 106) (τ0.1 107) ≤ 472 → am_U x m_Pr_quarrels Po τ0 26 [some (Zr 103), some (Zi (v : Int)), some (Zi 1), some (Zi (r : Int)), none] [] := by
    intro N
    induction N with
    | zero => intro r τ0 hf hI hc hbx hN; have := am_wd_b hbx; omega
    | succ N ihN =>
      intro r τ0 hf0 hI0 hc0 hb0 hN hr
      have wb := am_wd_b hb0
      have rows : ∀ (d i : Nat) (τ : am_St) (ch : Int), i + d = am_km s (am_P s) → am_fx [106, 107] [(103, 6)] σ τ → am_PI (am_CSp w h s S) (τ.1 106) (τ.1 107) → (τ.1 103 6 = 0 ∨ τ.1 103 6 = 1) → (ch = 0 ∨ ch = 1) → (τ.1 103 6 = 1 → ∃ b, b < 8 ∧ τ.1 107 b < τ.1 106 b) → (τ.1 103 6 = 0 → am_bx (τ.1 106) (τ.1 107) ∧ am_wd (τ.1 106) (τ.1 107) ≤ am_wd (τ0.1 106) (τ0.1 107) ∧ (ch = 1 → am_wd (τ.1 106) (τ.1 107) < am_wd (τ0.1 106) (τ0.1 107)) ∧ (ch = 0 → ∀ i', i' < i → S (am_ke s (am_P s) i') → ∀ b, b < 8 → am_rc (am_pry w h s (am_ke s (am_P s) i')) (am_zL s (am_ke s (am_P s) i')) (am_zH s (am_ke s (am_P s) i')) (τ.1 106) (τ.1 107) b)) → am_U x m_Pr_quarrels Po τ 49 [some (Zr 103), some (Zi (v : Int)), some (Zi ch), some (Zi (r : Int)), some (Zi (i : Int))] [] := by
        intro d
        induction d with
        | zero =>
          intro i τ ch hi hf hI c01 ch01 hc1 hc0'
          have fin : am_U x m_Pr_quarrels Po τ 95 [some (Zr 103), some (Zi (v : Int)), some (Zi ch), some (Zi (r : Int)), none] [] := by
            refine s_Pr_quarrels_95 ?_
            rcases c01 with c | c
            · obtain ⟨g1, g2, g3, g4⟩ := hc0' c
              rcases ch01 with q | q
              · subst q
                have last : am_U x m_Pr_quarrels Po τ 101 [some (Zr 103), none, none, none, none] [] := by
                  refine s_Pr_quarrels_101 ?_
                  rw [c]
                  refine ⟨Or.inl rfl, k0 τ hf ⟨g1, fun p hp hs b hb => ?_⟩ hI⟩
                  obtain ⟨i', hi', ei⟩ := ke3 p hp (hS2 p hp hs)
                  have := g4 rfl i' (by omega) (by rw [ei]; exact hs) b hb
                  rw [ei] at this; exact this
                exact s_Pr_quarrels_26 ⟨by omega, fun _ => last, fun _ => ⟨by decide, fun _ => last, fun q => absurd rfl q⟩⟩
              · subst q
                have := ihN (r + 1) τ hf hI c g1 (by have := g3 rfl; omega) (by have := g3 rfl; omega)
                rw [show ((r + 1 : Nat) : Int) = (r : Int) + 1 by omega] at this
                exact this
            · have last := crossed τ hf hI c (hc1 c)
              refine s_Pr_quarrels_26 ?_
              rw [c]
              exact ⟨by omega, fun _ => last, fun _ => ⟨by rcases ch01 with q | q <;> rw [q] <;> decide, fun _ => last, fun _ => ⟨by decide, fun _ => last, fun q => absurd q (by decide)⟩⟩⟩
          refine s_Pr_quarrels_49 ?_
          rw [hf.q 20 (by decide), hR.1]
          exact ⟨by omega, by omega, fun _ => fin, fun q => absurd (by omega) q⟩
        | succ d ih =>
          intro i τ ch hi hf hI c01 ch01 hc1 hc0'
          have hK : i < am_km s (am_P s) := by omega
          have hp := (ke1 i hK).1
          have nxt : ∀ (τ' : am_St) (ch' : Int), am_fx [106, 107] [(103, 6)] σ τ' → am_PI (am_CSp w h s S) (τ'.1 106) (τ'.1 107) → (τ'.1 103 6 = 0 ∨ τ'.1 103 6 = 1) → (ch' = 0 ∨ ch' = 1) → (τ'.1 103 6 = 1 → ∃ b, b < 8 ∧ τ'.1 107 b < τ'.1 106 b) → (τ'.1 103 6 = 0 → am_bx (τ'.1 106) (τ'.1 107) ∧ am_wd (τ'.1 106) (τ'.1 107) ≤ am_wd (τ0.1 106) (τ0.1 107) ∧ (ch' = 1 → am_wd (τ'.1 106) (τ'.1 107) < am_wd (τ0.1 106) (τ0.1 107)) ∧ (ch' = 0 → ∀ i', i' < i + 1 → S (am_ke s (am_P s) i') → ∀ b, b < 8 → am_rc (am_pry w h s (am_ke s (am_P s) i')) (am_zL s (am_ke s (am_P s) i')) (am_zH s (am_ke s (am_P s) i')) (τ'.1 106) (τ'.1 107) b)) → am_U x m_Pr_quarrels Po τ' 89 [some (Zr 103), some (Zi (v : Int)), some (Zi ch'), some (Zi (r : Int)), some (Zi (i : Int))] [] := fun τ' ch' a1 a2 a3 a4 a5 a6 => by
            have := ih (i + 1) τ' ch' (by omega) a1 a2 a3 a4 a5 a6
            rw [show ((i + 1 : Nat) : Int) = (i : Int) + 1 by omega] at this
            exact s_Pr_quarrels_89 this
          refine s_Pr_quarrels_49 ?_
          rw [hf.q 20 (by decide), hR.1, am_bit hv (by omega)]
          refine ⟨by omega, by omega, fun q => absurd q (by omega), fun _ => ⟨by rcases c01 with c | c <;> rw [c] <;> decide, fun qc => ?_, fun qc => ⟨by split <;> decide, fun qb => ?_, fun qb => ?_⟩⟩⟩
          · -- crossed already: the rest is passed over
            have c : τ.1 103 6 = 1 := by
              rcases c01 with z | z
              · exact absurd z qc
              · exact z
            have last := crossed τ hf hI c (hc1 c)
            refine s_Pr_quarrels_95 (s_Pr_quarrels_26 ?_)
            rw [c]
            exact ⟨by omega, fun _ => last, fun _ => ⟨by rcases ch01 with q | q <;> rw [q] <;> decide, fun _ => last, fun _ => ⟨by decide, fun _ => last, fun q => absurd q (by decide)⟩⟩⟩
          · have nb : ¬ v.testBit i = true := fun z => qb (by rw [if_pos z])
            refine nxt τ ch hf hI c01 ch01 hc1 (fun c => ?_)
            obtain ⟨g1, g2, g3, g4⟩ := hc0' c
            refine ⟨g1, g2, g3, fun z i' hi' hs => ?_⟩
            rcases Nat.lt_or_ge i' i with g | g
            · exact g4 z i' g hs
            · rw [show i' = i by omega] at hs
              exact absurd ((hS1 i hK).mpr hs) nb
          · have nb : v.testBit i = true := by
              by_cases z : v.testBit i = true
              · exact z
              · rw [if_neg z] at qb; exact absurd qb (by decide)
            obtain ⟨g1, g2, g3, g4⟩ := hc0' qc
            obtain ⟨zb1, zb2⟩ := am_z_b hO hp
            have sB := hB i hK
            refine x_narrow (p := am_ke s (am_P s) i) (by omega) hp ((hS1 i hK).mp nb) (fun k hk => am_pry_b hO hp k) zb1 zb2 (fun k hk => by rw [hf (23 + i) k (by simp; omega) (by simp; omega)]; exact hR.2.2 i k hK hk) (by rw [hf.q 104 (by decide)]; exact sB.1) (by rw [hf.q 105 (by decide)]; exact sB.2) hI g1 qc (fun τ' c' f' hI' hN hrc => ⟨_, rfl, rfl, ?_, ?_⟩)
            · rcases hN.2.1 with z | z <;> rw [z] <;> decide
            · refine ⟨fun z => nxt τ' ch (hf.tr f' (by decide) (by decide)) hI' hN.1 ch01 hN.2.2.1 (fun c => ?_), fun z => nxt τ' 1 (hf.tr f' (by decide) (by decide)) hI' hN.1 (Or.inr rfl) hN.2.2.1 (fun c => ?_)⟩
              · obtain ⟨n1, n2, n3, n4⟩ := hN.2.2.2 c
                obtain ⟨n5, n6⟩ := n4 z
                refine ⟨n1, by omega, fun q => by have := g3 q; omega, fun q i' hi' hs b hb => ?_⟩
                rcases Nat.lt_or_ge i' i with g | g
                · exact am_rc_c hb (g4 q i' g hs b hb) n5 n6
                · rw [show i' = i by omega]; exact hrc c z b hb
              · obtain ⟨n1, n2, n3, n4⟩ := hN.2.2.2 c
                have zz : c' = 1 := by rcases hN.2.1 with q | q; exact absurd q z; exact q
                have := n3 zz
                exact ⟨n1, by omega, fun _ => by omega, fun q => absurd q (by decide)⟩
      refine s_Pr_quarrels_26 ?_
      rw [hc0]
      exact ⟨by omega, fun q => absurd q (by omega), fun _ => ⟨by decide, fun q => absurd q (by decide), fun _ => ⟨by decide, fun q => absurd rfl q, fun _ => rows _ 0 τ0 0 (Nat.zero_add _) hf0 hI0 (Or.inl hc0) (Or.inl rfl) (fun z => absurd (hc0.symm.trans z) (by decide)) (fun _ => ⟨hb0, Int.le_refl _, fun z => absurd z (by decide), fun _ i' hi' => absurd hi' (Nat.not_lt_zero i')⟩)⟩⟩⟩
  refine s_Pr_quarrels_0 (c_fill (n := 8) (by decide +kernel) (by decide) (fun σ1 f1 h1 => ⟨rfl, rfl, c_fill (n := 8) (by decide +kernel) (by decide) (fun σ2 f2 h2 => ⟨rfl, rfl, fun σ3 f3 => ?_⟩)⟩))
  have e6 : ∀ b, b < 8 → σ3.1 106 b = 1 := fun b hb => by rw [am_stO f3 (by decide), f2.g 106 (by decide)]; exact h1 b hb
  have e7 : ∀ b, b < 8 → σ3.1 107 b = 60 := fun b hb => by rw [am_stO f3 (by decide)]; exact h2 b hb
  obtain ⟨p1, p2⟩ := am_PI_0 (n := am_P s) (R := am_pry w h s) (a := am_zL s) (z := am_zH s) (S := S) e6 e7
  have wb := am_wd_b p2
  exact head 473 0 σ3 ((f1.tr f2 (ks2 := [106, 107]) (ps2 := []) (by decide) (by decide)).tr (am_fx.p1 f3) (by decide) (by decide)) p1 (am_stE f3) p2 (by omega) (by omega)
/-! the model's -/
theorem m_others {p b : Nat} {fl : Int} {R v : Nat → Int} (hp : p < 12) (hb : b < 8) (hfl : fl = 0 ∨ fl = 1) (eR : ∀ k, k < 8 → σ.1 166 (8 * p + k) = R k) (ev : v = if fl = 0 then σ.1 168 else σ.1 167) (kk : Po (some (Zi (am_oth R v b 8))) am_SH σ) : am_U x m_Mo_others Po σ 0 [some (Zr 147), some (Zi (p : Int)), some (Zi (b : Int)), some (Zi fl), none, none] [] := by
  have loop : ∀ (d i : Nat), i + d = 8 → am_U x m_Mo_others Po σ 6 [some (Zr 147), some (Zi (p : Int)), some (Zi (b : Int)), some (Zi fl), some (Zi (am_oth R v b i)), some (Zi (i : Int))] [] := by
    intro d
    induction d with
    | zero =>
      intro i hi
      refine s_Mo_others_6 ⟨by omega, fun _ => ?_, fun q => absurd (by omega) q⟩
      rw [show i = 8 by omega]; exact kk
    | succ d ih =>
      intro i hi
      have nx := ih (i + 1) (by omega)
      rw [show ((i + 1 : Nat) : Int) = (i : Int) + 1 by omega, show am_oth R v b (i + 1) = am_oth R v b i + if i = b then 0 else R i * v i from rfl] at nx
      refine s_Mo_others_6 ⟨by omega, fun q => absurd q (by omega), fun _ => ⟨by omega, fun q => ?_, fun q => s_Mo_others_59 ?_⟩⟩
      · rw [if_neg (by omega)] at nx
        rw [Int.toNat_natCast, show (8 * (p : Int) + (i : Int)).toNat = 8 * p + i by omega, eR i (by omega)]
        refine ⟨by omega, by omega, fun z => ⟨by omega, s_Mo_others_58 (s_Mo_others_59 ?_)⟩, fun z => ⟨by omega, s_Mo_others_58 (s_Mo_others_59 ?_)⟩⟩
        · rw [if_pos z] at ev; rw [ev] at nx ⊢; exact nx
        · rw [if_neg z] at ev; rw [ev] at nx ⊢; exact nx
      · rw [if_pos (by omega)] at nx; exact nx
  exact s_Mo_others_0 (loop 8 0 (by omega))
end AMQ
