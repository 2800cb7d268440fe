section AMRN
variable {x : am_Sc} {Po : Option am_AV → am_Sh → am_St → Prop} {σ : am_St} {w h w2 h2 : Nat} {s s2 : Nat → Nat → Int}
theorem m_rankOf {n : Nat} {M : Nat → Nat → Int} (hn : n ≤ 20) (hM : ∀ i k, i < n → k < 8 → σ.2 169 (8 * i + k) = M i k) (hp : ∀ i, i < n → am_pr8 (M i)) (kk : ∀ σ', σ'.1 = σ.1 → (∀ k j, k ≠ 169 → σ'.2 k j = σ.2 k j) → Po (some (Zi (am_rank (am_Sp M n)))) am_SH σ') : am_U x m_Mo_rankOf Po σ 0 [some (Zr 147), some (Zi (n : Int)), none, none, none, none, none, none, none, none, none] [] := by
  -- the columns one by one
  have cols : ∀ (d b : Nat) (τ : am_St) (r : Nat), b + d = 8 → r ≤ n → τ.1 = σ.1 → (∀ k j, k ≠ 169 → τ.2 k j = σ.2 k j) → am_EI (am_Sp M n) n b r (fun i k => τ.2 169 (8 * i + k)) → (r : Int) = am_cnt (am_ldb (am_Sp M n)) b → am_U x m_Mo_rankOf Po τ 4 [some (Zr 147), some (Zi (n : Int)), some (Zi (r : Int)), some (Zi (b : Int)), none, none, none, none, none, none, none] [] := by
    intro d
    induction d with
    | zero =>
      intro b τ r hb hr e1 e2 hE hc
      refine s_Mo_rankOf_4 ⟨by omega, fun _ => ?_, fun q => absurd (by omega) q⟩
      rw [hc, show b = 8 by omega]
      exact kk τ e1 e2
    | succ d ih =>
      intro b τ r hb hr e1 e2 hE hc
      have b8 : b < 8 := by omega
      have cs : am_cnt (am_ldb (am_Sp M n)) (b + 1) = am_cnt (am_ldb (am_Sp M n)) b + if am_ldb (am_Sp M n) b then 1 else 0 := rfl
      refine s_Mo_rankOf_4 ⟨by omega, fun q => absurd q (by omega), fun _ => ?_⟩
      -- a row is found
      have found : ∀ a : Nat, r ≤ a → a < n → τ.2 169 (8 * a + b) ≠ 0 → am_U x m_Mo_rankOf Po τ 51 [some (Zr 147), some (Zi (n : Int)), some (Zi (r : Int)), some (Zi (b : Int)), some (Zi (a : Int)), some (Zi 0), none, none, none, none, none] [] := by
        intro a ha1 ha2 hne
        -- rows below are cleared
        have elim : ∀ (e i : Nat) (τ1 : am_St) (z : Int), i + e = n → r < i → 0 ≤ z ∧ z < 2147483647 → τ1.1 = σ.1 → (∀ k j, k ≠ 169 → τ1.2 k j = σ.2 k j) → am_EI (am_Sp M n) n b r (fun i k => τ1.2 169 (8 * i + k)) → τ1.2 169 (8 * r + b) ≠ 0 → am_q (τ1.2 169 (8 * r + b) * z) 1 → (∀ i', r < i' → i' < i → τ1.2 169 (8 * i' + b) = 0) → am_U x m_Mo_rankOf Po τ1 139 [some (Zr 147), some (Zi (n : Int)), some (Zi (r : Int)), some (Zi (b : Int)), none, some (Zl z), none, some (Zi (i : Int)), none, none, none] [] := by
          intro e
          induction e with
          | zero =>
            intro i τ1 z hi hri hz g1 g2 hE1 hne1 hq h0
            obtain ⟨k1, k2⟩ := am_EI_fin hE1 b8 (by omega) hne1 (fun i' a1 a2 => h0 i' a1 (by omega))
            refine s_Mo_rankOf_139 ⟨by omega, by omega, fun _ => s_Mo_rankOf_241 ?_, fun q => absurd (by omega) q⟩
            have := ih (b + 1) τ1 (r + 1) (by omega) (by omega) g1 g2 k1 (by rw [cs, ← hc, am_ldb_t.mpr k2]; simp)
            rw [show ((b + 1 : Nat) : Int) = (b : Int) + 1 by omega, show ((r + 1 : Nat) : Int) = (r : Int) + 1 by omega] at this
            exact this
          | succ e ihe =>
            intro i τ1 z hi hri hz g1 g2 hE1 hne1 hq h0
            have pi : am_pr8 (fun k => τ1.2 169 (8 * i + k)) := hE1.1 i (by omega)
            have pr : am_pr8 (fun k => τ1.2 169 (8 * r + k)) := hE1.1 r (by omega)
            have pib : 0 ≤ τ1.2 169 (8 * i + b) ∧ τ1.2 169 (8 * i + b) < 2147483647 := pi b b8
            have mz := am_mulp pib hz
            refine s_Mo_rankOf_139 ?_
            rw [show (8 * (i : Int) + (b : Int)).toNat = 8 * i + b by omega, am_remL_nn (by omega) (by decide) mz.1]
            refine ⟨by omega, by omega, fun q => absurd q (by omega), fun _ => ⟨by omega, ?_⟩⟩
            obtain ⟨t, ht⟩ : ∃ t : Int, t = τ1.2 169 (8 * i + b) * z % 2147483647 := ⟨_, rfl⟩
            rw [← ht]
            have tb : 0 ≤ t ∧ t < 2147483647 := by omega
            have cells : ∀ (f k : Nat) (τ2 : am_St), k + f = 8 → τ2.1 = σ.1 → (∀ k j, k ≠ 169 → τ2.2 k j = σ.2 k j) → (∀ i' k', i' < n → i' ≠ i → k' < 8 → τ2.2 169 (8 * i' + k') = τ1.2 169 (8 * i' + k')) → (∀ k', k ≤ k' → k' < 8 → τ2.2 169 (8 * i + k') = τ1.2 169 (8 * i + k')) → (∀ k', k' < k → (0 ≤ τ2.2 169 (8 * i + k') ∧ τ2.2 169 (8 * i + k') < 2147483647) ∧ am_q (τ2.2 169 (8 * i + k')) (τ1.2 169 (8 * i + k') + -t * τ1.2 169 (8 * r + k'))) → am_U x m_Mo_rankOf Po τ2 169 [some (Zr 147), some (Zi (n : Int)), some (Zi (r : Int)), some (Zi (b : Int)), none, some (Zl z), none, some (Zi (i : Int)), some (Zl t), none, some (Zi (k : Int))] [] := by
              intro f
              induction f with
              | zero =>
                intro k τ2 hk c1 c2 c3 c4 c5
                refine s_Mo_rankOf_169 ⟨by omega, fun _ => ?_, fun q => absurd (by omega) q⟩
                have hE2 : am_EI (am_Sp M n) n b r (fun i k => τ2.2 169 (8 * i + k)) := am_EI_elim (i := i) (a := -t) hE1 (by omega) hri (by omega) (fun k' hk' => (c5 k' (by omega)).1) (fun k' hk' => (c5 k' (by omega)).2) (fun i' hi' e' k' hk' => c3 i' k' hi' e' hk')
                have er : ∀ k', k' < 8 → τ2.2 169 (8 * r + k') = τ1.2 169 (8 * r + k') := fun k' hk' => c3 r k' (by omega) (by omega) hk'
                have := ihe (i + 1) τ2 z (by omega) (by omega) hz c1 c2 hE2 (by rw [er b b8]; exact hne1) (by rw [er b b8]; exact hq) (fun i' a1 a2 => by
                  by_cases e' : i' = i
                  · rw [e']
                    have k5 := c5 b (by omega)
                    refine am_q0 (k5.2.tr ?_) k5.1.1 k5.1.2
                    have k6 : am_q t (τ1.2 169 (8 * i + b) * z) := by rw [ht]; exact am_q.md _
                    have k7 : am_q (t * τ1.2 169 (8 * r + b)) (τ1.2 169 (8 * i + b)) := by
                      refine (k6.ml am_q.rf).tr ?_
                      have := (am_q.rf (a := τ1.2 169 (8 * i + b))).ml hq
                      rw [Int.mul_one] at this
                      rw [Int.mul_assoc, Int.mul_comm z]; exact this
                    have := (am_q.rf (a := τ1.2 169 (8 * i + b))).sb k7
                    refine am_q.tr (am_q.eq ?_) (this.tr (am_q.eq (by omega)))
                    rw [Int.neg_mul]; omega
                  · rw [c3 i' b (by omega) e' b8]; exact h0 i' a1 (by omega))
                rw [show ((i + 1 : Nat) : Int) = (i : Int) + 1 by omega] at this
                exact this
              | succ f ihf =>
                intro k τ2 hk c1 c2 c3 c4 c5
                have pik : 0 ≤ τ1.2 169 (8 * i + k) ∧ τ1.2 169 (8 * i + k) < 2147483647 := pi k (by omega)
                have prk : 0 ≤ τ1.2 169 (8 * r + k) ∧ τ1.2 169 (8 * r + k) < 2147483647 := pr k (by omega)
                refine s_Mo_rankOf_169 ?_
                rw [show (8 * (i : Int) + (k : Int)).toNat = 8 * i + k by omega, show (8 * (r : Int) + (k : Int)).toNat = 8 * r + k by omega, c4 k (Nat.le_refl k) (by omega), c3 r k (by omega) (by omega) (by omega)]
                have mm : 0 ≤ (2147483647 - t) * τ1.2 169 (8 * r + k) ∧ (2147483647 - t) * τ1.2 169 (8 * r + k) ≤ 2147483647 * 2147483647 := ⟨Int.mul_nonneg (by omega) prk.1, Int.mul_le_mul (by omega) (by omega) prk.1 (by decide)⟩
                rw [am_remL_nn (by omega) (by decide) (by omega)]
                refine ⟨by omega, fun q => absurd q (by omega), fun _ => ⟨by omega, by omega, fun τ3 f3 => ?_⟩⟩
                obtain ⟨y, hy⟩ : ∃ y : Int, y = (τ1.2 169 (8 * i + k) + (2147483647 - t) * τ1.2 169 (8 * r + k)) % 2147483647 := ⟨_, rfl⟩
                rw [← hy] at f3
                have g4 : ∀ j, τ3.2 169 j = if j = 8 * i + k then y else τ2.2 169 j := fun j => by rw [f3]; show am_up τ2.2 169 (8 * i + k) y 169 j = _; rw [am_up_row]
                have := ihf (k + 1) τ3 (by omega) (by rw [f3]; exact c1) (fun k' j hk' => by rw [f3]; show am_up τ2.2 169 _ y k' j = _; rw [am_up_o hk']; exact c2 k' j hk') (fun i' k' a1 a2 a3 => by rw [g4, if_neg (by omega)]; exact c3 i' k' a1 a2 a3) (fun k' a1 a2 => by rw [g4, if_neg (by omega)]; exact c4 k' (by omega) a2) (fun k' hk' => by
                  rw [g4]
                  by_cases e' : k' = k
                  · rw [e', if_pos rfl]
                    refine ⟨by omega, ?_⟩
                    rw [hy]
                    refine (am_q.md _).tr (am_q.rf.ad ?_)
                    rw [Int.sub_mul, Int.neg_mul]
                    have : am_q (2147483647 * τ1.2 169 (8 * r + k)) 0 := ⟨τ1.2 169 (8 * r + k), by rw [show (am_pm : Int) = 2147483647 from rfl, Int.sub_zero]⟩
                    exact (this.sb am_q.rf).tr (am_q.eq (by omega))
                  · rw [if_neg (by omega)]; exact c5 k' (by omega))
                rw [show ((k + 1 : Nat) : Int) = (k : Int) + 1 by omega] at this
                exact this
            exact cells 8 0 τ1 (by omega) g1 g2 (fun _ _ _ _ _ => rfl) (fun _ _ _ => rfl) (fun k' hk' => absurd hk' (Nat.not_lt_zero k'))
        have swap : ∀ (e k : Nat) (τ1 : am_St), k + e = 8 → τ1.1 = σ.1 → (∀ k j, k ≠ 169 → τ1.2 k j = σ.2 k j) → (∀ i' k', i' < n → i' ≠ a → i' ≠ r → k' < 8 → τ1.2 169 (8 * i' + k') = τ.2 169 (8 * i' + k')) → (∀ k', k ≤ k' → k' < 8 → τ1.2 169 (8 * a + k') = τ.2 169 (8 * a + k') ∧ τ1.2 169 (8 * r + k') = τ.2 169 (8 * r + k')) → (∀ k', k' < k → τ1.2 169 (8 * a + k') = τ.2 169 (8 * r + k') ∧ τ1.2 169 (8 * r + k') = τ.2 169 (8 * a + k')) → am_U x m_Mo_rankOf Po τ1 51 [some (Zr 147), some (Zi (n : Int)), some (Zi (r : Int)), some (Zi (b : Int)), some (Zi (a : Int)), some (Zi (k : Int)), none, none, none, none, none] [] := by
          intro e
          induction e with
          | zero =>
            intro k τ1 hk c1 c2 c3 c4 c5
            have hE1 : am_EI (am_Sp M n) n b r (fun i k => τ1.2 169 (8 * i + k)) := am_EI_swap (i := a) hE (by omega) ha1 ha2 (fun k' hk' => (c5 k' (by omega)).2) (fun k' hk' => (c5 k' (by omega)).1) (fun i' hi' e1 e2 k' hk' => c3 i' k' hi' e1 e2 hk')
            have prb : 0 ≤ τ1.2 169 (8 * r + b) ∧ τ1.2 169 (8 * r + b) < 2147483647 := hE1.1 r (by omega) b b8
            have nz : τ1.2 169 (8 * r + b) ≠ 0 := by rw [(c5 b (by omega)).2]; exact hne
            refine s_Mo_rankOf_51 ⟨by omega, fun _ => ⟨by omega, ?_⟩, fun q => absurd (by omega) q⟩
            rw [show (8 * (r : Int) + (b : Int)).toNat = 8 * r + b by omega]
            refine m_inverse prb nz (fun z z1 z2 z3 => ⟨_, rfl, rfl, ?_⟩)
            have := elim (n - (r + 1)) (r + 1) τ1 z (by omega) (by omega) ⟨z1, z2⟩ c1 c2 hE1 nz z3 (fun i' a1 a2 => absurd a2 (by omega))
            rw [show ((r + 1 : Nat) : Int) = (r : Int) + 1 by omega] at this
            exact this
          | succ e ihe =>
            intro k τ1 hk c1 c2 c3 c4 c5
            refine s_Mo_rankOf_51 ⟨by omega, fun q => absurd q (by omega), fun _ => ⟨by omega, by omega, fun τ2 f2 τ3 f3 => ?_⟩⟩
            rw [show (8 * (a : Int) + (k : Int)).toNat = 8 * a + k by omega, show (8 * (r : Int) + (k : Int)).toNat = 8 * r + k by omega] at f2 f3
            have ck := c4 k (Nat.le_refl k) (by omega)
            have g4 : ∀ j, τ3.2 169 j = if j = 8 * r + k then τ.2 169 (8 * a + k) else if j = 8 * a + k then τ.2 169 (8 * r + k) else τ1.2 169 j := fun j => by
              rw [f3]
              show am_up τ2.2 169 (8 * r + k) (τ1.2 169 (8 * a + k)) 169 j = _
              rw [am_up_row, f2]
              show (if j = 8 * r + k then τ1.2 169 (8 * a + k) else am_up τ1.2 169 (8 * a + k) (τ1.2 169 (8 * r + k)) 169 j) = _
              rw [am_up_row, ck.1, ck.2]
            have := ihe (k + 1) τ3 (by omega) (by rw [f3, f2]; exact c1) (fun k' j hk' => by
              rw [f3]
              show am_up τ2.2 169 _ _ k' j = _
              rw [am_up_o hk', f2]
              show am_up τ1.2 169 _ _ k' j = _
              rw [am_up_o hk']; exact c2 k' j hk') (fun i' k' a1 a2 a3 a4 => by rw [g4, if_neg (by omega), if_neg (by omega)]; exact c3 i' k' a1 a2 a3 a4) (fun k' a1 a2 => by rw [g4, g4, if_neg (by omega), if_neg (by omega), if_neg (by omega), if_neg (by omega)]; exact c4 k' (by omega) a2) (fun k' hk' => by
              rw [g4, g4]
              by_cases e' : k' = k
              · rw [e', if_pos (rfl : 8 * r + k = 8 * r + k)]
                by_cases e2 : a = r
                · rw [if_pos (by omega), e2]; exact ⟨rfl, rfl⟩
                · rw [if_neg (by omega), if_pos rfl]; exact ⟨rfl, rfl⟩
              · rw [if_neg (by omega), if_neg (by omega), if_neg (by omega), if_neg (by omega)]; exact c5 k' (by omega))
            rw [show ((k + 1 : Nat) : Int) = (k : Int) + 1 by omega] at this
            exact this
        exact swap 8 0 τ (by omega) e1 e2 (fun _ _ _ _ _ _ => rfl) (fun _ _ _ => ⟨rfl, rfl⟩) (fun k' hk' => absurd hk' (Nat.not_lt_zero k'))
      have look : ∀ (e a : Nat), a + e = n → r ≤ a → (∀ i, r ≤ i → i < a → τ.2 169 (8 * i + b) = 0) → am_U x m_Mo_rankOf Po τ 13 [some (Zr 147), some (Zi (n : Int)), some (Zi (r : Int)), some (Zi (b : Int)), some (Zi (a : Int)), none, none, none, none, none, none] [] := by
        intro e
        induction e with
        | zero =>
          intro a ha hra h0
          obtain ⟨k1, k2⟩ := am_EI_none hE b8 (fun i a1 a2 => h0 i a1 (by omega))
          refine s_Mo_rankOf_13 ⟨by omega, by omega, fun _ => s_Mo_rankOf_42 ⟨by omega, by omega, fun _ => s_Mo_rankOf_241 ?_, fun q => absurd (by omega) q⟩, fun q => absurd (by omega) q⟩
          have := ih (b + 1) τ r (by omega) hr e1 e2 k1 (by
            rw [cs, ← hc, show am_ldb (am_Sp M n) b = false by cases hq : am_ldb (am_Sp M n) b; rfl; exact absurd (am_ldb_t.mp hq) k2]; simp)
          rw [show ((b + 1 : Nat) : Int) = (b : Int) + 1 by omega] at this
          exact this
        | succ e ihe =>
          intro a ha hra h0
          obtain ⟨c1, c2, c3, c4⟩ := am_cmp0 (a := τ.2 169 (8 * a + b))
          have pab : 0 ≤ τ.2 169 (8 * a + b) ∧ τ.2 169 (8 * a + b) < 2147483647 := hE.1 a (by omega) b b8
          refine s_Mo_rankOf_13 ?_
          rw [show (8 * (a : Int) + (b : Int)).toNat = 8 * a + b by omega]
          refine ⟨by omega, by omega, fun q => absurd q (by omega), fun _ => ⟨by omega, by omega, c1, fun q => s_Mo_rankOf_42 ⟨by omega, by omega, fun q => absurd q (by omega), fun _ => found a hra (by omega) (fun z => q (c2.mpr z))⟩, fun q => ?_⟩⟩
          exact ihe (a + 1) (by omega) (by omega) (fun i a1 a2 => by
            by_cases e' : i = a
            · rw [e']; exact c2.mp q
            · exact h0 i a1 (by omega))
      exact look (n - r) r (by omega) (Nat.le_refl r) (fun i a1 a2 => absurd a2 (by omega))
  have E0 : am_EI (am_Sp M n) n 0 0 (fun i k => σ.2 169 (8 * i + k)) := by
    refine ⟨fun i hi k hk => by show 0 ≤ σ.2 169 (8 * i + k) ∧ σ.2 169 (8 * i + k) < 2147483647; rw [hM i k hi hk]; exact hp i hi k hk, fun v => ?_, fun i _ _ j hj => absurd hj (Nat.not_lt_zero j), fun c _ i hi => absurd hi (Nat.not_lt_zero i)⟩
    have e : ∀ c k, k < 8 → am_LC c (fun i k => σ.2 169 (8 * i + k)) n k = am_LC c M n k := fun c k hk => am_LC_lo (fun i hi => hM i k hi hk)
    constructor <;> rintro ⟨c, hc⟩ <;> refine ⟨c, fun k hk => ?_⟩
    · rw [e c k hk]; exact hc k hk
    · rw [← e c k hk]; exact hc k hk
  exact s_Mo_rankOf_0 (cols 8 0 σ 0 (by omega) (by omega) rfl (fun _ _ _ => rfl) E0 rfl)
end AMRN
