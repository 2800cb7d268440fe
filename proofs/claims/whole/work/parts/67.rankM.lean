section AMRM
variable {x : am_Sc} {Po : Option am_AV → am_Sh → am_St → Prop} {σ : am_St} {w h w2 h2 : Nat} {s s2 : Nat → Nat → Int}
theorem m_inverse {v : Int} (hv : 0 ≤ v ∧ v < 2147483647) (hn : v ≠ 0) (kk : ∀ z : Int, 0 ≤ z → z < 2147483647 → am_q (v * z) 1 → Po (some (Zl z)) am_SH σ) : am_U x m_Mo_inverse Po σ 0 [some (Zl v), none, none, none, none, none, none, none] [] := by
  obtain ⟨e, he⟩ : ∃ e : Nat, e = 2147483645 := ⟨_, rfl⟩
  have hee : e + 2 = am_pm := by rw [he]; rfl
  have loop : ∀ (l : Nat) (r b : Int), l ≤ 2147483645 → 0 ≤ r ∧ r < 2147483647 → 0 ≤ b ∧ b < 2147483647 → am_q (r * b ^ l) (v ^ e) → am_U x m_Mo_inverse Po σ 10 [none, none, some (Zl r), none, some (Zl b), none, some (Zl (l : Int)), none] [] := by
    intro l
    induction l using Nat.strongRecOn with
    | _ l ih =>
      intro r b hl hr hb hq
      have l2 : 0 < l → l / 2 < l := fun z => Nat.div_lt_self z (by decide)
      have l3 : l / 2 ≤ 2147483645 := Nat.le_trans (Nat.div_le_self l 2) hl
      have lev : l % 2 = 0 → 2 * (l / 2) = l := fun z => by clear hq; omega
      have lod : l % 2 = 1 → l = 2 * (l / 2) + 1 := fun z => by clear hq; omega
      have bs : ∀ y : Int, 0 ≤ y % 2147483647 ∧ y % 2147483647 < 2147483647 := fun y => ⟨Int.emod_nonneg _ (by decide), Int.emod_lt_of_pos _ (by decide)⟩
      obtain ⟨c1, c2, c3, c4⟩ := am_cmp0 (a := (l : Int))
      obtain ⟨d1, d2⟩ := am_cmpE (a := am_remL (l : Int) 2) (b := 1)
      have er : am_remL (l : Int) 2 = (l : Int) % 2 := am_remL_nn (by omega) (by decide) (by omega)
      have ed : am_divL (l : Int) 2 = ((l / 2 : Nat) : Int) := by rw [am_divL_nn (by omega) (by decide) (by omega) (by decide)]; rfl
      rw [er] at d1 d2
      have m1 := am_mulp hr hb
      have m2 := am_mulp hb hb
      have e1 : am_remL (r * b) 2147483647 = r * b % 2147483647 := am_remL_nn (by omega) (by decide) m1.1
      have e2 : am_remL (b * b) 2147483647 = b * b % 2147483647 := am_remL_nn (by omega) (by decide) m2.1
      have sq : am_q ((b * b % 2147483647) ^ (l / 2)) (b ^ (2 * (l / 2))) := by
        have z := am_sqp b (l / 2)
        rw [← z]; exact (am_q.md (b * b)).pw (l / 2)
      refine s_Mo_inverse_10 ?_
      rw [er]
      refine ⟨by omega, c1, fun q => ?_, fun q => ⟨by omega, d1, fun q2 => s_Mo_inverse_40 ?_, fun q2 => s_Mo_inverse_40 ?_⟩⟩
      · have l0 : l = 0 := by have := c4.mp q; omega
        rw [l0, Int.pow_zero, Int.mul_one] at hq
        exact kk r hr.1 hr.2 ((am_q.rf.ml hq).tr (am_inv hee hv.1 (am_nq hv.1 hv.2 hn)))
      · have lp : 0 < l := by rcases Nat.eq_zero_or_pos l with z | z; exact absurd (c4.mpr (by omega)) q; exact z
        rw [e2, ed]
        refine ih (l / 2) (l2 lp) r (b * b % 2147483647) l3 hr (bs _) ?_
        have le : l % 2 = 0 := by
          have z : ¬ (l : Int) % 2 = 1 := fun z => q2 (d2.mpr z)
          clear hq sq e1 e2 m1 m2 d1 d2 c1 c2 c3 c4
          omega
        have h3 := (am_q.rf (a := r)).ml sq
        rw [lev le] at h3
        exact h3.tr hq
      · have lp : 0 < l := by rcases Nat.eq_zero_or_pos l with z | z; exact absurd (c4.mpr (by omega)) q; exact z
        rw [e1, e2, ed]
        refine ih (l / 2) (l2 lp) (r * b % 2147483647) (b * b % 2147483647) l3 (bs _) (bs _) ?_
        have le : l % 2 = 1 := by
          have z := d2.mp q2
          clear hq sq e1 e2 m1 m2 d1 d2 c1 c2 c3 c4
          omega
        have h3 := (am_q.md (r * b)).ml sq
        refine h3.tr (am_q.tr (am_q.eq ?_) hq)
        have h4 : b ^ l = b ^ (2 * (l / 2)) * b := by
          have h5 : b ^ l = b ^ (2 * (l / 2) + 1) := congrArg (fun n => b ^ n) (lod le)
          rw [h5, Int.pow_succ]
        rw [h4, Int.mul_assoc, Int.mul_comm b]
  have := loop e 1 v (by omega) (by decide) hv (am_q.eq (Int.one_mul _))
  rw [show ((e : Nat) : Int) = 2147483645 by omega] at this
  exact s_Mo_inverse_0 this
end AMRM
