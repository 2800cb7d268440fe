/-! ===== pressing on the model's side; span on both ===== -/
section AMN
variable {x : am_Sc} {Po : Option am_AV → am_Sh → am_St → Prop} {σ : am_St} {w h w2 h2 : Nat} {s s2 : Nat → Nat → Int}
theorem m_press {v : Nat} {S : Nat → Prop} (hM : am_RM w h s σ) (hO : am_OK w h s) (hL : am_LH s σ) (hY : am_MY w h s (am_P s) σ) (hv : v < 2147483648) (hS : ∀ p, p < am_P s → (S p ↔ (v.testBit p = true ∧ s 9 p = 0)))
    (k1 : ∀ σ', am_fx [167, 168] [] σ σ' → am_CSp w h s S (σ'.1 167) (σ'.1 168) → am_PI (am_CSp w h s S) (σ'.1 167) (σ'.1 168) → Po (some (Zi 1)) am_SH σ') (k0 : ∀ σ', am_fx [167, 168] [] σ σ' → (∀ l g, ¬ am_CSp w h s S l g) → Po (some (Zi 0)) am_SH σ') : am_U x m_Mo_press Po σ 0 [some (Zr 147), some (Zi (v : Int)), none, none, none, none, none, none, none] [] := by
  obtain ⟨bP, -⟩ := am_OKb hO
  have lP : am_P s ≤ 12 := by unfold am_P; omega
  have head : ∀ (N : Nat) (τ0 : am_St), am_fx [167, 168] [] σ τ0 → am_PI (am_CSp w h s S) (τ0.1 167) (τ0.1 168) → am_bx (τ0.1 167) (τ0.1 168) → am_wd (τ0.1 167) (τ0.1 168) < (N : Int) → am_U x m_Mo_press Po τ0 31 [some (Zr 147), some (Zi (v : Int)), some (Zi 1), none, none, none, none, none, none] [] := by
    intro N
    induction N with
    | zero => intro τ0 hf hI hbx hN; have := am_wd_b hbx; omega
    | succ N ihN =>
      intro τ0 hf0 hI0 hb0 hN
      have wb := am_wd_b hb0
      have rows : ∀ (d p : Nat) (τ : am_St) (ch : Int), p + d = am_P s → am_fx [167, 168] [] σ τ → am_PI (am_CSp w h s S) (τ.1 167) (τ.1 168) → (ch = 0 ∨ ch = 1) → am_bx (τ.1 167) (τ.1 168) → am_wd (τ.1 167) (τ.1 168) ≤ am_wd (τ0.1 167) (τ0.1 168) → (ch = 1 → am_wd (τ.1 167) (τ.1 168) < am_wd (τ0.1 167) (τ0.1 168)) → (ch = 0 → ∀ p', p' < p → S p' → ∀ b, b < 8 → am_rc (am_pry w h s p') (am_zL s p') (am_zH s p') (τ.1 167) (τ.1 168) b) → am_U x m_Mo_press Po τ 39 [some (Zr 147), some (Zi (v : Int)), some (Zi ch), some (Zi (p : Int)), none, none, none, none, none] [] := by
        intro d
        induction d with
        | zero =>
          intro p τ ch hp hf hI ch01 hbx hw1 hw2 hrc
          have hMt := hM.fx hf (by decide)
          have eP : τ.1 147 11 = (am_P s : Int) := by rw [hMt.1.as 147 11 4 (by decide)]; unfold am_P; omega
          refine s_Mo_press_39 ?_
          rw [eP]
          refine ⟨by omega, by omega, fun _ => ?_, fun q => absurd (by omega) q⟩
          rcases ch01 with q | q
          · subst q
            exact s_Mo_press_31 ⟨by decide, fun _ => k1 τ hf ⟨hbx, fun p' hp' hs b hb => hrc rfl p' (by omega) hs b hb⟩ hI, fun q => absurd rfl q⟩
          · subst q
            exact ihN τ hf hI hbx (by have := hw2 rfl; omega)
        | succ d ih =>
          intro p τ ch hp hf hI ch01 hbx hw1 hw2 hrc
          have hMt := hM.fx hf (by decide)
          have hpP : p < am_P s := by omega
          obtain ⟨a, b7, c8, d9, e1, f1, g, i1, -⟩ := am_OKp hO hpP
          have eP : τ.1 147 11 = (am_P s : Int) := by rw [hMt.1.as 147 11 4 (by decide)]; unfold am_P; omega
          have e9 : ∀ τ' : am_St, am_fx [167, 168] [] σ τ' → τ'.1 156 p = s 9 p := fun τ' hf' => (hM.fx hf' (by decide)).1.at 156 9 12 (by decide) a
          have nxt : ∀ (τ' : am_St) (ch' : Int), am_fx [167, 168] [] σ τ' → am_PI (am_CSp w h s S) (τ'.1 167) (τ'.1 168) → (ch' = 0 ∨ ch' = 1) → am_bx (τ'.1 167) (τ'.1 168) → am_wd (τ'.1 167) (τ'.1 168) ≤ am_wd (τ0.1 167) (τ0.1 168) → (ch' = 1 → am_wd (τ'.1 167) (τ'.1 168) < am_wd (τ0.1 167) (τ0.1 168)) → (ch' = 0 → (∀ p', p' < p → S p' → ∀ b, b < 8 → am_rc (am_pry w h s p') (am_zL s p') (am_zH s p') (τ'.1 167) (τ'.1 168) b) ∧ (S p → ∀ b, b < 8 → am_rc (am_pry w h s p) (am_zL s p) (am_zH s p) (τ'.1 167) (τ'.1 168) b)) → am_U x m_Mo_press Po τ' 254 [some (Zr 147), some (Zi (v : Int)), some (Zi ch'), some (Zi (p : Int)), none, none, none, none, none] [] := fun τ' ch' a1 a2 a3 a4 a5 a6 a7 => by
            have := ih (p + 1) τ' ch' (by omega) a1 a2 a3 a4 a5 a6 (fun z p' hp' hs b hb => by
              rcases Nat.lt_or_ge p' p with g | g
              · exact (a7 z).1 p' g hs b hb
              · rw [show p' = p by omega] at hs ⊢; exact (a7 z).2 hs b hb)
            rw [show ((p + 1 : Nat) : Int) = (p : Int) + 1 by omega] at this
            exact s_Mo_press_254 this
          have blocks : ∀ (e b : Nat) (τ : am_St) (ch less : Int), b + e = 8 → (s 9 p = 0 → less = am_bg s p + am_clk s p) → am_fx [167, 168] [] σ τ → am_PI (am_CSp w h s S) (τ.1 167) (τ.1 168) → (ch = 0 ∨ ch = 1) → am_bx (τ.1 167) (τ.1 168) → am_wd (τ.1 167) (τ.1 168) ≤ am_wd (τ0.1 167) (τ0.1 168) → (ch = 1 → am_wd (τ.1 167) (τ.1 168) < am_wd (τ0.1 167) (τ0.1 168)) → (ch = 0 → (∀ p', p' < p → S p' → ∀ b, b < 8 → am_rc (am_pry w h s p') (am_zL s p') (am_zH s p') (τ.1 167) (τ.1 168) b) ∧ (∀ b', b' < b → am_rc (am_pry w h s p) (am_zL s p) (am_zH s p) (τ.1 167) (τ.1 168) b')) → am_U x m_Mo_press Po τ 88 [some (Zr 147), some (Zi (v : Int)), some (Zi ch), some (Zi (p : Int)), some (Zi less), some (Zi (b : Int)), none, none, none] [] := by
            intro e
            induction e with
            | zero =>
              intro b τ ch less hb hless hf hI ch01 hbx hw1 hw2 hrc
              exact s_Mo_press_88 ⟨by omega, fun _ => nxt τ ch hf hI ch01 hbx hw1 hw2 (fun z => ⟨(hrc z).1, fun _ b' hb' => (hrc z).2 b' (by omega)⟩), fun q => absurd (by omega) q⟩
            | succ e ihe =>
              intro b τ ch less hb hless hf hI ch01 hbx hw1 hw2 hrc
              have b8 : b < 8 := by omega
              have hRb := am_pry_b hO hpP b
              refine s_Mo_press_88 ?_
              rw [am_bit hv (by omega), Int.toNat_natCast, e9 τ hf]
              refine ⟨by omega, fun q => absurd q (by omega), fun _ => ⟨by split <;> decide, fun q => nxt τ ch hf hI ch01 hbx hw1 hw2 (fun z => ⟨(hrc z).1, fun hs => absurd (by rw [if_pos ((hS p hpP).mp hs).1]) q⟩), fun qb => ⟨by omega, by omega, fun q => nxt τ ch hf hI ch01 hbx hw1 hw2 (fun z => ⟨(hrc z).1, fun hs => absurd ((hS p hpP).mp hs).2 q⟩), fun q9 => ?_⟩⟩⟩
              have less0 := hless q9
              subst less0
              have nb : v.testBit p = true := by
                by_cases z : v.testBit p = true
                · exact z
                · rw [if_neg z] at qb; exact absurd qb (by decide)
              have hs : S p := (hS p hpP).mpr ⟨nb, q9⟩
              have eY : ∀ τ' : am_St, am_fx [167, 168] [] σ τ' → ∀ k, k < 8 → τ'.1 166 (8 * p + k) = am_pry w h s p k := fun τ' hf' k hk => by rw [hf'.g 166 (by decide)]; exact hY p k hpP hk q9
              rw [show (8 * (p : Int) + (b : Int)).toNat = 8 * p + b by omega, eY τ hf b b8]
              have go : ∀ (τ' : am_St) (ch' : Int), am_fx [167, 168] [] σ τ' → am_PI (am_CSp w h s S) (τ'.1 167) (τ'.1 168) → (ch' = 0 ∨ ch' = 1) → am_bx (τ'.1 167) (τ'.1 168) → am_wd (τ'.1 167) (τ'.1 168) ≤ am_wd (τ0.1 167) (τ0.1 168) → (ch' = 1 → am_wd (τ'.1 167) (τ'.1 168) < am_wd (τ0.1 167) (τ0.1 168)) → (ch' = 0 → (∀ p', p' < p → S p' → ∀ b, b < 8 → am_rc (am_pry w h s p') (am_zL s p') (am_zH s p') (τ'.1 167) (τ'.1 168) b) ∧ (∀ b', b' < b + 1 → am_rc (am_pry w h s p) (am_zL s p) (am_zH s p) (τ'.1 167) (τ'.1 168) b')) → am_U x m_Mo_press Po τ' 248 [some (Zr 147), some (Zi (v : Int)), some (Zi ch'), some (Zi (p : Int)), some (Zi (am_bg s p + am_clk s p)), some (Zi (b : Int)), none, none, none] [] := fun τ' ch' a1 a2 a3 a4 a5 a6 a7 => by
                have := ihe (b + 1) τ' ch' _ (by omega) hless a1 a2 a3 a4 a5 a6 a7
                rw [show ((b + 1 : Nat) : Int) = (b : Int) + 1 by omega] at this
                exact s_Mo_press_248 this
              have more : ∀ {τ' : am_St}, (∀ b', b' < b → am_rc (am_pry w h s p) (am_zL s p) (am_zH s p) (τ'.1 167) (τ'.1 168) b') → am_rc (am_pry w h s p) (am_zL s p) (am_zH s p) (τ'.1 167) (τ'.1 168) b → ∀ b', b' < b + 1 → am_rc (am_pry w h s p) (am_zL s p) (am_zH s p) (τ'.1 167) (τ'.1 168) b' := fun h1 h2 b' hb' => by
                rcases Nat.lt_or_ge b' b with g | g
                · exact h1 b' g
                · rw [show b' = b by omega]; exact h2
              refine ⟨by omega, by omega, fun q0 => go τ ch hf hI ch01 hbx hw1 hw2 (fun z => ⟨(hrc z).1, more (hrc z).2 (fun r => absurd r (by omega))⟩), fun q0 => ?_⟩
              have r0 : 0 < am_pry w h s p b := by omega
              have hR : ∀ k, k < 8 → 0 ≤ am_pry w h s p k ∧ am_pry w h s p k ≤ 30 := fun k _ => am_pry_b hO hpP k
              have hR0 : ∀ k, k < 8 → 0 ≤ am_pry w h s p k := fun k hk => (hR k hk).1
              obtain ⟨zb1, zb2⟩ := am_z_b hO hpP
              have bb := hbx b b8
              have o1 := am_oth_b (R := am_pry w h s p) (v := τ.1 167) (b := b) hR (fun k hk => by have := hbx k hk; omega)
              have o2 := am_oth_b (R := am_pry w h s p) (v := τ.1 168) (b := b) hR (fun k hk => by have := hbx k hk; omega)
              have u1 := am_ps_u hI hpP hs b8 hR0 r0
              have bu := am_ediv_b (N := am_zH s p - am_oth (am_pry w h s p) (τ.1 167) b 8) (r := am_pry w h s p b) (B := 40000) (by omega) (by omega) (by omega)
              have lh : ∀ τ' : am_St, am_fx [167, 168] [] σ τ' → τ'.1 161 p = am_lo s p ∧ τ'.1 162 p = am_hi s p := fun τ' hf' => by rw [hf'.g 161 (by decide), hf'.g 162 (by decide)]; exact hL p hpP
              refine m_others (R := am_pry w h s p) (v := τ.1 167) a b8 (Or.inr rfl) (eY τ hf) rfl ⟨_, rfl, rfl, ?_⟩
              rw [(lh τ hf).2, show am_hi s p - (am_bg s p + am_clk s p) - am_oth (am_pry w h s p) (τ.1 167) b 8 = am_zH s p - am_oth (am_pry w h s p) (τ.1 167) b 8 from rfl]
              -- the second half
              have second : ∀ (τ1 : am_St) (c1 : Int), am_fx [167, 168] [] σ τ1 → τ1.1 167 = τ.1 167 → am_PI (am_CSp w h s S) (τ1.1 167) (τ1.1 168) → (∀ k, k < 8 → k ≠ b → τ1.1 168 k = τ.1 168 k) → (-40000 ≤ τ1.1 168 b ∧ τ1.1 168 b ≤ τ.1 168 b) → (c1 = 0 ∨ c1 = 1) → (c1 = 0 → ch = 0 ∧ τ1.1 168 = τ.1 168 ∧ τ.1 168 b ≤ (am_zH s p - am_oth (am_pry w h s p) (τ.1 167) b 8) / am_pry w h s p b) → (am_wd (τ1.1 167) (τ1.1 168) ≤ am_wd (τ0.1 167) (τ0.1 168)) → (c1 = 1 → am_wd (τ1.1 167) (τ1.1 168) < am_wd (τ0.1 167) (τ0.1 168)) → am_U x m_Mo_press Po τ1 180 [some (Zr 147), some (Zi (v : Int)), some (Zi c1), some (Zi (p : Int)), some (Zi (am_bg s p + am_clk s p)), some (Zi (b : Int)), some (Zi (am_pry w h s p b)), none, none] [] := by
                intro τ1 c1 f1 e6 hI1 e7 b7 c1b c1z wle wlt
                have oth1 : am_oth (am_pry w h s p) (τ1.1 168) b 8 = am_oth (am_pry w h s p) (τ.1 168) b 8 := am_sum_c (fun k hk => by
                  show (if k = b then (0 : Int) else am_pry w h s p k * τ1.1 168 k) = if k = b then 0 else am_pry w h s p k * τ.1 168 k
                  by_cases e : k = b
                  · rw [if_pos e, if_pos e]
                  · rw [if_neg e, if_neg e, e7 k hk e])
                have d1 := am_ps_d hI1 hpP hs b8 hR0 r0
                rw [oth1] at d1
                have bd := am_ediv_b (N := am_oth (am_pry w h s p) (τ.1 168) b 8 - am_zL s p) (r := am_pry w h s p b) (B := 40000) (by omega) (by omega) (by omega)
                have third : ∀ (τ2 : am_St) (c2 : Int), am_fx [167, 168] [] σ τ2 → τ2.1 168 = τ1.1 168 → am_PI (am_CSp w h s S) (τ2.1 167) (τ2.1 168) → (∀ k, k < 8 → k ≠ b → τ2.1 167 k = τ.1 167 k) → (τ.1 167 b ≤ τ2.1 167 b ∧ τ2.1 167 b ≤ 40000) → (c2 = 0 ∨ c2 = 1) → (c2 = 0 → ch = 0 ∧ τ2.1 168 = τ.1 168 ∧ τ2.1 167 = τ.1 167 ∧ am_rc (am_pry w h s p) (am_zL s p) (am_zH s p) (τ.1 167) (τ.1 168) b) → (am_wd (τ2.1 167) (τ2.1 168) ≤ am_wd (τ0.1 167) (τ0.1 168)) → (c2 = 1 → am_wd (τ2.1 167) (τ2.1 168) < am_wd (τ0.1 167) (τ0.1 168)) → am_U x m_Mo_press Po τ2 229 [some (Zr 147), some (Zi (v : Int)), some (Zi c2), some (Zi (p : Int)), some (Zi (am_bg s p + am_clk s p)), some (Zi (b : Int)), none, none, none] [] := by
                  intro τ2 c2 f2 g7 hI2 g6 b6 c2b c2z wle2 wlt2
                  have b77 : -40000 ≤ τ2.1 168 b ∧ τ2.1 168 b ≤ τ.1 168 b := by rw [g7]; exact b7
                  refine s_Mo_press_229 ?_
                  rw [Int.toNat_natCast]
                  refine ⟨by omega, by omega, by omega, fun q => go τ2 c2 f2 hI2 c2b (fun k hk => ?_) wle2 wlt2 (fun z => ?_), fun q => k0 τ2 f2 (am_no_CN hI2 ⟨b, b8, by omega⟩)⟩
                  · have hk0 := hbx k hk
                    by_cases e : k = b
                    · rw [e]; omega
                    · rw [g6 k hk e, g7, e7 k hk e]; exact hk0
                  · obtain ⟨z1, z2, z3, z4⟩ := c2z z
                    rw [z2, z3]
                    exact ⟨(hrc z1).1, more (hrc z1).2 z4⟩
                refine s_Mo_press_180 (m_others (R := am_pry w h s p) (v := τ1.1 168) a b8 (Or.inl rfl) (eY τ1 f1) rfl ⟨_, rfl, rfl, ?_⟩)
                rw [Int.toNat_natCast, Int.toNat_natCast, (lh τ1 f1).1, oth1, show am_oth (am_pry w h s p) (τ.1 168) b 8 - am_lo s p + (am_bg s p + am_clk s p) = am_oth (am_pry w h s p) (τ.1 168) b 8 - am_zL s p by unfold am_zL; omega]
                refine ⟨by omega, m_floorOf (by omega) (by omega) ⟨_, rfl, rfl, by omega, by omega, ?_⟩⟩
                rw [e6]
                refine ⟨by omega, fun q => ?_, fun q τ2 f2 => ?_⟩
                · exact third τ1 c1 f1 rfl hI1 (fun k _ _ => by rw [e6]) (by rw [e6]; omega) c1b (fun z => by
                    obtain ⟨z1, z2, z3⟩ := c1z z
                    exact ⟨z1, z2, e6, am_rc_of (fun _ => z3) (fun _ => q)⟩) wle wlt
                · have k7 : τ2.1 168 = τ1.1 168 := by funext j; exact am_stO f2 (by decide)
                  have k6 : τ2.1 167 = fun j => if j = b then -((am_oth (am_pry w h s p) (τ.1 168) b 8 - am_zL s p) / am_pry w h s p b) else τ.1 167 j := by funext j; rw [am_stR f2, e6]
                  have kw : am_wd (τ2.1 167) (τ2.1 168) = am_wd (τ1.1 167) (τ1.1 168) + (τ.1 167 b - -((am_oth (am_pry w h s p) (τ.1 168) b 8 - am_zL s p) / am_pry w h s p b)) := by rw [k7, k6, am_wd_l b8, e6]
                  exact third τ2 1 (f1.tr (am_fx.o1 f2) (by decide) (by decide)) k7 (by
                    rw [k7, k6]
                    rw [e6] at hI1
                    exact am_ps_l hI1 d1) (fun k hk e => by rw [k6]; show (if k = b then _ else τ.1 167 k) = _; rw [if_neg e]) (by rw [k6]; show _ ≤ (if b = b then _ else τ.1 167 b) ∧ (if b = b then _ else τ.1 167 b) ≤ _; rw [if_pos rfl]; omega) (Or.inr rfl) (fun z => absurd z (by decide)) (by omega) (fun _ => by omega)
              refine m_floorOf (by omega) (by omega) ⟨_, rfl, rfl, by omega, by omega, ?_⟩
              rw [Int.toNat_natCast]
              refine ⟨by omega, fun q => ?_, fun q τ1 f1 => ?_⟩
              · have := second τ ch hf rfl hI (fun k _ _ => rfl) (by omega) ch01 (fun z => ⟨z, rfl, q⟩) hw1 hw2
                exact this
              · have k6 : τ1.1 167 = τ.1 167 := by funext j; exact am_stO f1 (by decide)
                have k7 : τ1.1 168 = fun j => if j = b then (am_zH s p - am_oth (am_pry w h s p) (τ.1 167) b 8) / am_pry w h s p b else τ.1 168 j := by funext j; rw [am_stR f1]
                have kw : am_wd (τ1.1 167) (τ1.1 168) = am_wd (τ.1 167) (τ.1 168) + ((am_zH s p - am_oth (am_pry w h s p) (τ.1 167) b 8) / am_pry w h s p b - τ.1 168 b) := by rw [k6, k7, am_wd_g b8]
                have := second τ1 1 (hf.tr (am_fx.o1 f1) (by decide) (by decide)) k6 (by rw [k6, k7]; exact am_ps_g hI u1) (fun k hk e => by rw [k7]; show (if k = b then _ else τ.1 168 k) = _; rw [if_neg e]) (by rw [k7]; show _ ≤ (if b = b then _ else τ.1 168 b) ∧ (if b = b then _ else τ.1 168 b) ≤ _; rw [if_pos rfl]; omega) (Or.inr rfl) (fun z => absurd z (by decide)) (by omega) (fun _ => by omega)
                exact this
          refine s_Mo_press_39 ?_
          rw [eP, Int.toNat_natCast, e9 τ hf, hMt.1.at 155 8 12 (by decide) a, hMt.1.at 154 7 12 (by decide) a, hMt.1.at 153 6 5 (by decide) (show (s 8 p).toNat < 5 by omega), hMt.1.at 151 4 6 (by decide) (show (s 7 p).toNat < 6 by omega)]
          refine ⟨by omega, by omega, fun q => absurd q (by omega), fun _ => ⟨by omega, by omega, fun q => s_Mo_press_83 (blocks 8 0 τ ch 0 (by omega) (fun z => absurd z q) hf hI ch01 hbx hw1 hw2 (fun z => ⟨hrc z, fun b' hb' => absurd hb' (Nat.not_lt_zero b')⟩)), fun q => ⟨by omega, by omega, s_Mo_press_83 (blocks 8 0 τ ch _ (by omega) (fun _ => rfl) hf hI ch01 hbx hw1 hw2 (fun z => ⟨hrc z, fun b' hb' => absurd hb' (Nat.not_lt_zero b')⟩))⟩⟩⟩
      exact s_Mo_press_31 ⟨by decide, fun q => absurd q (by decide), fun _ => rows _ 0 τ0 0 (Nat.zero_add _) hf0 hI0 (Or.inl rfl) hb0 (Int.le_refl _) (fun z => absurd z (by decide)) (fun _ p' hp' => absurd hp' (Nat.not_lt_zero p'))⟩
  have init : ∀ (d b : Nat) (τ : am_St), b + d = 8 → am_fx [167, 168] [] σ τ → (∀ b', b' < b → τ.1 167 b' = 1 ∧ τ.1 168 b' = 60) → am_U x m_Mo_press Po τ 2 [some (Zr 147), some (Zi (v : Int)), some (Zi (b : Int)), none, none, none, none, none, none] [] := by
    intro d
    induction d with
    | zero =>
      intro b τ hb hf h1
      obtain ⟨p1, p2⟩ := am_PI_0 (n := am_P s) (R := am_pry w h s) (a := am_zL s) (z := am_zH s) (S := S) (l := τ.1 167) (g := τ.1 168) (fun b hb => (h1 b (by omega)).1) (fun b hb => (h1 b (by omega)).2)
      have wb := am_wd_b p2
      exact s_Mo_press_2 ⟨by omega, fun _ => head 473 τ hf p1 p2 (by omega), fun q => absurd (by omega) q⟩
    | succ d ih =>
      intro b τ hb hf h1
      refine s_Mo_press_2 ⟨by omega, fun q => absurd q (by omega), fun _ => ⟨by omega, fun τ1 f1 τ2 f2 => ?_⟩⟩
      rw [Int.toNat_natCast] at f1 f2
      have := ih (b + 1) τ2 (by omega) ((hf.tr (am_fx.o1 f1) (ks2 := [167, 168]) (ps2 := []) (by decide) (by decide)).tr (am_fx.o1 f2) (by decide) (by decide)) (fun b' hb' => by
        rw [am_stO f2 (show 167 ≠ 168 by decide), am_stR f1, am_stR f2]
        by_cases e : b' = b
        · rw [if_pos e, if_pos e]; exact ⟨rfl, rfl⟩
        · rw [if_neg e, if_neg e, am_stO f1 (by decide)]; exact h1 b' (by omega))
      rw [show ((b + 1 : Nat) : Int) = (b : Int) + 1 by omega] at this
      exact this
  exact s_Mo_press_0 (init 8 0 σ (by omega) am_fx.rf (fun b' hb' => absurd hb' (Nat.not_lt_zero b')))
/-! span -/
def am_K0 (s : Nat → Nat → Int) (p : Nat) : Prop := s 9 p = 0
noncomputable def am_bxE (w h : Nat) (s : Nat → Nat → Int) : (Nat → Int) × (Nat → Int) := Classical.epsilon (fun B : (Nat → Int) × (Nat → Int) => am_CSp w h s (am_K0 s) B.1 B.2 ∧ am_PI (am_CSp w h s (am_K0 s)) B.1 B.2)
theorem am_bxE_eq {l g : Nat → Int} (h1 : am_CSp w h s (am_K0 s) l g) (h2 : am_PI (am_CSp w h s (am_K0 s)) l g) : ∀ b, b < 8 → (am_bxE w h s).1 b = l b ∧ (am_bxE w h s).2 b = g b := fun b hb => by
  obtain ⟨e1, e2⟩ := Classical.epsilon_spec (p := fun B : (Nat → Int) × (Nat → Int) => am_CSp w h s (am_K0 s) B.1 B.2 ∧ am_PI (am_CSp w h s (am_K0 s)) B.1 B.2) ⟨(l, g), h1, h2⟩
  have a1 := e2 l g h1 b hb
  have a2 := h2 _ _ e1 b hb
  unfold am_bxE
  omega
noncomputable def am_cif (p : Prop) (a b : Int) : Int := @ite Int p (Classical.propDecidable p) a b
theorem am_cif_p {p : Prop} {a b : Int} (h : p) : am_cif p a b = a := by unfold am_cif; exact if_pos h
theorem am_cif_n {p : Prop} {a b : Int} (h : ¬ p) : am_cif p a b = b := by unfold am_cif; exact if_neg h
noncomputable def A_span (w h : Nat) (s : Nat → Nat → Int) (b v : Int) : Int := if 0 ≤ b ∧ b < 8 then (if 0 ≤ v ∧ v ≤ 1 then am_cif (∃ l g, am_CSp w h s (am_K0 s) l g) (if v = 0 then (am_bxE w h s).1 b.toNat else (am_bxE w h s).2 b.toNat) (-1) else -3) else -2
theorem x_allRows (hK : σ.1 20 2 = (am_km s (am_P s) : Int)) (lK : am_km s (am_P s) ≤ 12) (kk : Po (some (Zi ((2 ^ am_km s (am_P s) - 1 : Nat) : Int))) am_SH σ) : am_U x m_Ra_allRows Po σ 0 [some (Zr 20)] [] := by
  refine s_Ra_allRows_0 ?_
  rw [hK, am_shl1 (by omega) (by omega), Int.toNat_natCast]
  have : 1 ≤ 2 ^ am_km s (am_P s) := Nat.one_le_two_pow
  rw [show (2 : Int) ^ am_km s (am_P s) - 1 = ((2 ^ am_km s (am_P s) - 1 : Nat) : Int) by push_cast [this]; rfl]
  exact kk
theorem am_RS.k {n : Nat} {σ' : am_St} (hR : am_RS w h s n σ) (hn : am_km s n ≤ 12) (hk : ∀ k j, 20 ≤ k → k ≤ 34 → σ'.1 k j = σ.1 k j) : am_RS w h s n σ' := ⟨by rw [hk 20 2 (by decide) (by decide)]; exact hR.1, fun i hi => by rw [hk 21 i (by decide) (by decide)]; exact hR.2.1 i hi, fun i b hi hb => by rw [hk (23 + i) b (by omega) (by omega)]; exact hR.2.2 i b hi hb⟩
theorem x_span {b v : Int} (hX : am_RX w h s σ) (hM : am_RM w2 h2 s2 σ) (hO : am_OK w h s) (rb : am_r b) (rv : am_r v) (kk : ∀ σ', am_RX w h s σ' → am_RM w2 h2 s2 σ' → Po (some (Zi (A_span w h s b v))) am_SH σ') : am_U x m_Sp_span Po σ 0 [some (Zr 0), some (Zi b), some (Zi v)] [] := by
  obtain ⟨bP, -⟩ := am_OKb hO
  have lP : am_P s ≤ 12 := by unfold am_P; omega
  have lK := am_km_le (s := s) (am_P s)
  refine s_Sp_span_0 (x_isBlock rb (fun q => br1n (c_isW rv (by decide) (by decide) (fun q2 => br1n ?_) (fun q2 => br0n (am_fX kk (by simp only [A_span]; rw [if_pos q, if_neg q2]) rfl hX hM)))) (fun q => br0n (am_fX kk (by simp only [A_span]; rw [if_neg q]) rfl hX hM)))
  refine x_rays hX hO (fun σ1 f1 hR1 => ⟨rfl, rfl, ?_⟩)
  have hX1 := hX.fx f1 (by decide)
  have hM1 := hM.fx f1 (by decide)
  refine x_setBounds hX1 hO hR1 (fun σ2 f2 hB2 => ⟨rfl, rfl, ?_⟩)
  have hX2 := hX1.fx f2 (by decide)
  have hM2 := hM1.fx f2 (by decide)
  have hR2 : am_RS w h s (am_P s) σ2 := hR1.k (by omega) (fun k j h1 h2 => f2 k j (by simp; omega) (by simp))
  refine x_allRows hR2.1 (by omega) ⟨_, rfl, rfl, ?_⟩
  have pw : 2 ^ am_km s (am_P s) ≤ 2 ^ 12 := Nat.pow_le_pow_right (by decide) (by omega)
  refine x_quarrels (S := am_K0 s) hO hR2 hB2 (by omega) (fun i hi => ?_) (fun p _ h => h) (fun σ3 f3 hC hI => ⟨_, rfl, rfl, by decide, fun _ => ⟨rv, fun qv => ⟨q, s_Sp_span_81 ?_⟩, fun qv => ⟨q, s_Sp_span_81 ?_⟩⟩, fun z => absurd rfl z⟩) (fun σ3 f3 hno => ⟨_, rfl, rfl, by decide, fun z => absurd z (by decide), fun _ => ?_⟩)
  · rw [Nat.testBit_two_pow_sub_one]
    exact ⟨fun _ => ((am_ke_is (s := s) (am_P s)).1 i hi).2, fun _ => by simpa using hi⟩
  · exact am_fX kk (by simp only [A_span]; rw [if_pos q, if_pos q2, am_cif_p ⟨_, _, hC⟩, if_neg qv]; exact (am_bxE_eq hC hI _ (by omega)).2) rfl (hX2.fx f3 (by decide)) (hM2.fx f3 (by decide))
  · exact am_fX kk (by simp only [A_span]; rw [if_pos q, if_pos q2, am_cif_p ⟨_, _, hC⟩, if_pos qv]; exact (am_bxE_eq hC hI _ (by omega)).1) rfl (hX2.fx f3 (by decide)) (hM2.fx f3 (by decide))
  · exact am_fX kk (by simp only [A_span]; rw [if_pos q, if_pos q2, am_cif_n (fun ⟨l, g, z⟩ => hno l g z)]) rfl (hX2.fx f3 (by decide)) (hM2.fx f3 (by decide))
theorem m_span {b v : Int} (hM : am_RM w h s σ) (hX : am_RX w2 h2 s2 σ) (hO : am_OK w h s) (rb : am_r b) (rv : am_r v) (kk : ∀ σ', am_RM w h s σ' → am_RX w2 h2 s2 σ' → Po (some (Zi (A_span w h s b v))) am_SH σ') : am_U x m_Mo_span Po σ 0 [some (Zr 147), some (Zi b), some (Zi v)] [] := by
  obtain ⟨bP, -⟩ := am_OKb hO
  have lP : am_P s ≤ 12 := by unfold am_P; omega
  refine s_Mo_span_0 (m_isBlock rb (fun q => br1n (c_in rv (by decide) (by decide) (fun q2 => br1n ?_) (fun q2 => br0n (am_fM kk (by simp only [A_span]; rw [if_pos q, if_neg q2]) rfl hM hX)))) (fun q => br0n (am_fM kk (by simp only [A_span]; rw [if_neg q]) rfl hM hX)))
  refine m_findRays hM hO (fun σ1 f1 hL hY => ⟨rfl, rfl, ?_⟩)
  have hX1 := hX.fx f1 (by decide)
  have hM1 := hM.fx f1 (by decide)
  refine m_press (v := 4095) (S := am_K0 s) hM1 hO hL hY (by decide) (fun p hp => ?_) (fun σ3 f3 hC hI => ⟨_, rfl, rfl, by decide, fun _ => ⟨rv, fun qv => ⟨q, s_Mo_span_59 ?_⟩, fun qv => ⟨q, s_Mo_span_59 ?_⟩⟩, fun z => absurd z (by decide)⟩) (fun σ3 f3 hno => ⟨_, rfl, rfl, by decide, fun z => absurd rfl z, fun _ => s_Mo_span_59 ?_⟩)
  · rw [show (4095 : Nat) = 2 ^ 12 - 1 by rfl, Nat.testBit_two_pow_sub_one]
    exact ⟨fun z => ⟨by simp; omega, z⟩, fun z => z.2⟩
  · exact am_fM kk (by simp only [A_span]; rw [if_pos q, if_pos q2, am_cif_p ⟨_, _, hC⟩, if_neg qv]; exact (am_bxE_eq hC hI _ (by omega)).2) rfl (hM1.fx f3 (by decide)) (hX1.fx f3 (by decide))
  · exact am_fM kk (by simp only [A_span]; rw [if_pos q, if_pos q2, am_cif_p ⟨_, _, hC⟩, if_pos qv]; exact (am_bxE_eq hC hI _ (by omega)).1) rfl (hM1.fx f3 (by decide)) (hX1.fx f3 (by decide))
  · exact am_fM kk (by simp only [A_span]; rw [if_pos q, if_pos q2, am_cif_n (fun ⟨l, g, z⟩ => hno l g z)]) rfl (hM1.fx f3 (by decide)) (hX1.fx f3 (by decide))
end AMN
