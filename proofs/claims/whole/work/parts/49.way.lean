/-! ===== the first way ===== -/
theorem am_least {p : Nat → Prop} : ∀ n, p n → ∃ m, m ≤ n ∧ p m ∧ ∀ i, i < m → ¬ p i := by
  intro n
  induction n using Nat.strongRecOn with
  | _ n ih =>
    intro hn
    by_cases q : ∃ i, i < n ∧ p i
    · obtain ⟨i, hi, hp⟩ := q
      obtain ⟨m, hm, h1, h2⟩ := ih i hi hp
      exact ⟨m, by omega, h1, h2⟩
    · exact ⟨n, Nat.le_refl n, hn, fun i hi hp => q ⟨i, hi, hp⟩⟩
def am_NxP (w h : Nat) (c d : Nat → Int) (a b : Nat) : Prop := am_adj w h b a ∧ d b + c b + c a = d a
noncomputable def am_nx (w h : Nat) (c d : Nat → Int) (a : Nat) : Nat := Classical.epsilon (fun b => am_NxP w h c d a b ∧ ∀ b', b' < b → ¬ am_NxP w h c d a b')
theorem am_nx_is {w h : Nat} {c d : Nat → Int} {f a : Nat} (hd : am_IsD w h c f d) (ha : a < w * h) (hn : a ≠ f) : am_NxP w h c d a (am_nx w h c d a) ∧ ∀ b', b' < am_nx w h c d a → ¬ am_NxP w h c d a b' := by
  obtain ⟨b, h1, h2⟩ := hd.2.2.2.2 a ha hn
  obtain ⟨m, -, h3, h4⟩ := am_least (p := am_NxP w h c d a) b ⟨h1, h2.symm⟩
  exact Classical.epsilon_spec (p := fun b => am_NxP w h c d a b ∧ ∀ b', b' < b → ¬ am_NxP w h c d a b') ⟨m, h3, h4⟩
theorem am_nx_eq {w h : Nat} {c d : Nat → Int} {f a b : Nat} (hd : am_IsD w h c f d) (ha : a < w * h) (hn : a ≠ f) (h1 : am_NxP w h c d a b) (h2 : ∀ b', b' < b → ¬ am_NxP w h c d a b') : am_nx w h c d a = b := by
  obtain ⟨g1, g2⟩ := am_nx_is hd ha hn
  rcases Nat.lt_trichotomy (am_nx w h c d a) b with q | q | q
  · exact absurd g1 (h2 _ q)
  · exact q
  · exact absurd h1 (g2 _ q)
def am_it (g : Nat → Nat) (a : Nat) : Nat → Nat
  | 0 => a
  | n + 1 => g (am_it g a n)
theorem am_it_s {g : Nat → Nat} {a : Nat} : ∀ n, am_it g a (n + 1) = am_it g (g a) n
  | 0 => rfl
  | n + 1 => by show g (am_it g a (n + 1)) = g (am_it g (g a) n); rw [am_it_s n]
noncomputable def am_wp (w h : Nat) (c : Nat → Int) (f a : Nat) : Nat → Nat := am_it (am_nx w h c (am_dst w h c f)) a
noncomputable def am_wn (w h : Nat) (c : Nat → Int) (f a : Nat) : Nat := Classical.epsilon (fun n => am_wp w h c f a n = f ∧ ∀ i, i < n → am_wp w h c f a i ≠ f)
theorem am_way_ex {w h : Nat} {c : Nat → Int} {f : Nat} (hc : ∀ b, b < w * h → 1 ≤ c b ∧ c b ≤ 180) (hd : am_IsD w h c f (am_dst w h c f)) : ∀ (m a : Nat), a < w * h → am_rk (am_dst w h c f) a (w * h) ≤ m → ∃ n, n ≤ m ∧ am_wp w h c f a n = f ∧ (∀ i, i < n → am_wp w h c f a i ≠ f) ∧ ∀ i, i ≤ n → am_wp w h c f a i < w * h := by
  intro m
  induction m with
  | zero =>
    intro a ha hr
    by_cases e : a = f
    · exact ⟨0, Nat.le_refl 0, e, fun i hi => absurd hi (Nat.not_lt_zero i), fun i hi => by rw [show i = 0 by omega]; exact ha⟩
    · obtain ⟨⟨g1, g2⟩, -⟩ := am_nx_is hd ha e
      have := hc a ha
      have := hc _ g1.1
      have := am_rk_lt (d := am_dst w h c f) (show am_dst w h c f (am_nx w h c (am_dst w h c f) a) < am_dst w h c f a by omega) g1.1
      omega
  | succ m ih =>
    intro a ha hr
    by_cases e : a = f
    · exact ⟨0, Nat.zero_le _, e, fun i hi => absurd hi (Nat.not_lt_zero i), fun i hi => by rw [show i = 0 by omega]; exact ha⟩
    · obtain ⟨⟨g1, g2⟩, -⟩ := am_nx_is hd ha e
      have := hc a ha
      have := hc _ g1.1
      have hl := am_rk_lt (d := am_dst w h c f) (show am_dst w h c f (am_nx w h c (am_dst w h c f) a) < am_dst w h c f a by omega) g1.1
      obtain ⟨n, k1, k2, k3, k4⟩ := ih _ g1.1 (by omega)
      refine ⟨n + 1, by omega, ?_, fun i hi => ?_, fun i hi => ?_⟩
      · unfold am_wp; rw [am_it_s]; exact k2
      · cases i with
        | zero => exact e
        | succ i => unfold am_wp; rw [am_it_s]; exact k3 i (by omega)
      · cases i with
        | zero => exact ha
        | succ i => unfold am_wp; rw [am_it_s]; exact k4 i (by omega)
theorem am_wn_is {w h : Nat} {c : Nat → Int} {f a : Nat} (hc : ∀ b, b < w * h → 1 ≤ c b ∧ c b ≤ 180) (hd : am_IsD w h c f (am_dst w h c f)) (ha : a < w * h) : am_wn w h c f a < w * h ∧ am_wp w h c f a (am_wn w h c f a) = f ∧ (∀ i, i < am_wn w h c f a → am_wp w h c f a i ≠ f) ∧ ∀ i, i ≤ am_wn w h c f a → am_wp w h c f a i < w * h := by
  obtain ⟨n, k1, k2, k3, k4⟩ := am_way_ex hc hd _ a ha (Nat.le_refl _)
  obtain ⟨g1, g2⟩ := Classical.epsilon_spec (p := fun n => am_wp w h c f a n = f ∧ ∀ i, i < n → am_wp w h c f a i ≠ f) ⟨n, k2, k3⟩
  have e : am_wn w h c f a = n := by
    rcases Nat.lt_trichotomy (am_wn w h c f a) n with q | q | q
    · exact absurd g1 (k3 _ q)
    · exact q
    · exact absurd k2 (g2 _ q)
  have := am_rk_self (d := am_dst w h c f) ha
  rw [e]
  exact ⟨by omega, k2, k3, k4⟩
theorem am_wn_of {w h : Nat} {s : Nat → Nat → Int} {k : Int} {f a : Nat} (hO : am_OK w h s) (hf : f < w * h) (ha : a < w * h) : am_wn w h (am_cost s k) f a < w * h ∧ am_wp w h (am_cost s k) f a (am_wn w h (am_cost s k) f a) = f ∧ (∀ i, i < am_wn w h (am_cost s k) f a → am_wp w h (am_cost s k) f a i ≠ f) ∧ ∀ i, i ≤ am_wn w h (am_cost s k) f a → am_wp w h (am_cost s k) f a i < w * h :=
  have hc : ∀ b, b < w * h → 1 ≤ am_cost s k b ∧ am_cost s k b ≤ 180 := fun _ hb => am_cost_b hO hb
  am_wn_is hc (am_dst_is hO.1 hc hf) ha
theorem am_bs_mono {w h c i i' a b : Nat} (hw : 2 ≤ w) (h1 : am_bs w h c i = (a : Int)) (h2 : am_bs w h c i' = (b : Int)) (hi : i < i') (hi' : i' < 4) : a < b := by
  unfold am_bs at h1 h2
  rcases (show i = 0 ∨ i = 1 ∨ i = 2 by omega) with rfl | rfl | rfl <;>
  rcases (show i' = 1 ∨ i' = 2 ∨ i' = 3 by omega) with rfl | rfl | rfl <;>
  first | omega | (simp at h1 h2; split at h1 <;> split at h2 <;> omega)
theorem am_beside_ok : ∀ w, w < 5 → ∀ h, h < 5 → ∀ a, a < w * h → ∀ b, b < w * h → (Nat.blt w 2 || (Nat.blt h 2 || ((((a % w : Nat) : Int) - ((b % w : Nat) : Int)) * (((a % w : Nat) : Int) - ((b % w : Nat) : Int)) + (((a / w : Nat) : Int) - ((b / w : Nat) : Int)) * (((a / w : Nat) : Int) - ((b / w : Nat) : Int)) == 1) == am_adjb w h a b)) = true := by decide +kernel
section AMW
variable {x : am_Sc} {Po : Option am_AV → am_Sh → am_St → Prop} {σ : am_St} {w h w2 h2 : Nat} {s s2 : Nat → Nat → Int}
theorem x_next {c : Nat → Int} {f a : Nat} (hw : 2 ≤ w ∧ w ≤ 4 ∧ 2 ≤ h ∧ h ≤ 4) (hc : ∀ b, b < w * h → 1 ≤ c b ∧ c b ≤ 180) (hf : f < w * h)
    (hb : ∀ c i, c < w * h → i < 4 → σ.1 4 (4 * c + i) = am_bs w h c i) (h5 : ∀ b, b < w * h → σ.1 5 b = c b) (h6 : ∀ b, b < w * h → σ.1 6 b = am_dst w h c f b) (ha : a < w * h) (hn : a ≠ f)
    (kk : Po (some (Zi ((am_nx w h c (am_dst w h c f) a : Nat) : Int))) am_SH σ) : am_U x m_Gr_nextOnWay Po σ 0 [some (Zr 1), some (Zi (a : Int)), none, none, none] [] := by
  have hwh : w * h ≤ 16 := Nat.mul_le_mul hw.2.1 hw.2.2.2
  have hd := am_dst_is hw hc hf
  have loop : ∀ (d i : Nat), i + d = 4 → (∀ i', i' < i → ∀ b : Nat, am_bs w h a i' = (b : Int) → ¬ am_NxP w h c (am_dst w h c f) a b) → am_U x m_Gr_nextOnWay Po σ 6 [some (Zr 1), some (Zi (a : Int)), some (Zi ((a : Int) * 4)), some (Zi ((4 * a + i : Nat) : Int)), none] [] := by
    intro d
    induction d with
    | zero =>
      intro i hi hno
      exfalso
      obtain ⟨g1, -⟩ := am_nx_is hd ha hn
      obtain ⟨i', hi', e⟩ := am_adj_bs hw g1.1
      exact hno i' (by omega) _ e g1
    | succ d ih =>
      intro i hi hno
      have e4 : σ.1 4 (4 * a + i) = am_bs w h a i := hb a i ha (by omega)
      refine s_Gr_nextOnWay_6 ⟨by omega, by omega, fun q => absurd q (by omega), fun _ => ⟨by omega, ?_⟩⟩
      rw [Int.toNat_natCast (4 * a + i), e4]
      rcases am_bs_adj hw ha (show i < 4 by omega) with e | ⟨b, e, hab⟩
      · rw [e]
        refine ⟨by decide, fun _ => s_Gr_nextOnWay_60 (ih (i + 1) (by omega) (fun i' hi' b eb => ?_)), fun q => absurd (by decide) q⟩
        rcases Nat.lt_or_ge i' i with q | q
        · exact hno i' q b eb
        · have : i' = i := by omega
          rw [this, e] at eb; omega
      · rw [e]
        have bb := hab.1
        have ga := hd.bd hw hc ha
        have gb := hd.bd hw hc bb
        have ca := hc a ha
        have cb := hc b bb
        refine ⟨by omega, fun q => absurd q (by omega), fun _ => ⟨by omega, by omega, ?_⟩⟩
        rw [Int.toNat_natCast, Int.toNat_natCast, h5 b bb, h5 a ha, h6 b bb, h6 a ha]
        refine ⟨by omega, by omega, fun q => s_Gr_nextOnWay_60 (ih (i + 1) (by omega) (fun i' hi' b' eb => ?_)), fun q => ?_⟩
        · rcases Nat.lt_or_ge i' i with q2 | q2
          · exact hno i' q2 b' eb
          · have : i' = i := by omega
            rw [this, e] at eb
            have : b' = b := by omega
            rw [this]
            exact fun z => q z.2
        · have e9 : am_nx w h c (am_dst w h c f) a = b := am_nx_eq hd ha hn ⟨hab, q⟩ (fun b' hb' z => by
            obtain ⟨i', hi', e'⟩ := am_adj_bs hw z.1
            rcases Nat.lt_trichotomy i' i with q2 | q2 | q2
            · exact hno i' q2 b' e' z
            · rw [q2, e] at e'; omega
            · have := am_bs_mono hw.1 e e' q2 hi'
              omega)
          rw [e9] at kk; exact kk
  refine s_Gr_nextOnWay_0 ?_
  have := loop 4 0 (by omega) (fun i' hi' => absurd hi' (by omega))
  rw [show ((4 * a + 0 : Nat) : Int) = (a : Int) * 4 by omega] at this
  exact this
theorem x_trace {f a : Nat} {k : Int} (hX : am_RX w h s σ) (hO : am_OK w h s) (hf : f < w * h) (h5 : ∀ b, b < w * h → σ.1 5 b = am_cost s k b) (h6 : ∀ b, b < w * h → σ.1 6 b = am_dst w h (am_cost s k) f b) (ha : a < w * h)
    (kk : ∀ σ', am_fx [7] [(1, 8)] σ σ' → σ'.1 1 8 = ((am_wn w h (am_cost s k) f a + 1 : Nat) : Int) → (∀ i, i ≤ am_wn w h (am_cost s k) f a → σ'.1 7 i = ((am_wp w h (am_cost s k) f a i : Nat) : Int)) → Po none am_SH σ') :
    am_U x m_Gr_trace Po σ 0 [some (Zr 1), some (Zi (a : Int)), none] [] := by
  have hw := hO.1
  have hwh := am_wh hO
  have hc : ∀ b, b < w * h → 1 ≤ am_cost s k b ∧ am_cost s k b ≤ 180 := fun b hb => am_cost_b hO hb
  have hD := am_dst_is hw hc hf
  obtain ⟨n1, n2, n3, n4⟩ := am_wn_is hc hD ha
  have loop : ∀ (d i : Nat) (τ : am_St), i + d = am_wn w h (am_cost s k) f a → am_fx [7] [(1, 8)] σ τ → τ.1 1 8 = ((i + 1 : Nat) : Int) → (∀ j, j ≤ i → τ.1 7 j = ((am_wp w h (am_cost s k) f a j : Nat) : Int)) → am_U x m_Gr_trace Po τ 14 [some (Zr 1), none, some (Zi ((am_wp w h (am_cost s k) f a i : Nat) : Int))] [] := by
    intro d
    induction d with
    | zero =>
      intro i τ hi hfx h8 h7
      have e1 : τ.1 1 0 = ((w * h : Nat) : Int) := by rw [hfx 1 0 (by decide) (by decide)]; exact hX.2.1
      have ei : i = am_wn w h (am_cost s k) f a := by omega
      rw [ei, n2]
      have fin : am_U x m_Gr_trace Po τ 63 [none, none, none] [] := s_Gr_trace_63 (kk τ hfx (by rw [h8, ei]) (fun j hj => h7 j (by omega)))
      refine s_Gr_trace_14 ?_
      rw [h8, e1, Int.toNat_natCast, hfx.q 6 (by decide), h6 f hf, hD.2.1]
      exact ⟨by omega, by omega, fun _ => fin, fun _ => ⟨by omega, by decide, fun _ => fin, fun q => absurd (by decide) q⟩⟩
    | succ d ih =>
      intro i τ hi hfx h8 h7
      have e1 : τ.1 1 0 = ((w * h : Nat) : Int) := by rw [hfx 1 0 (by decide) (by decide)]; exact hX.2.1
      have hb := n4 i (by omega)
      have hn := n3 i (by omega)
      obtain ⟨⟨g1, g2⟩, -⟩ := am_nx_is hD hb hn
      have c1 := hc _ hb
      have c2 := hc _ g1.1
      have d1 := hD.bd hw hc hb
      have d2 := hD.bd hw hc g1.1
      refine s_Gr_trace_14 ?_
      rw [h8, e1, Int.toNat_natCast (am_wp w h (am_cost s k) f a i), hfx.q 6 (by decide), h6 _ hb]
      refine ⟨by omega, by omega, fun q => absurd q (by omega), fun _ => ⟨by omega, by omega, fun q => absurd q (by omega), fun _ => ?_⟩⟩
      refine x_next hw hc hf (fun c i hc hi => by rw [hfx.q 4 (by decide)]; exact hX.2.2 c i hc hi) (fun b hb => by rw [hfx.q 5 (by decide)]; exact h5 b hb) (fun b hb => by rw [hfx.q 6 (by decide)]; exact h6 b hb) hb hn ⟨_, rfl, rfl, by omega, fun τ1 f1 τ2 f2 => ?_⟩
      rw [h8, Int.toNat_natCast] at f1
      have e81 : τ1.1 1 8 = ((i + 1 : Nat) : Int) := by rw [f1]; exact h8
      rw [e81] at f2
      refine ih (i + 1) τ2 (by omega) ?_ ?_ (fun j hj => ?_)
      · refine hfx.tr (σ1 := τ) (ks' := [7]) (ps' := [(1, 8)]) ?_ (by decide) (by decide)
        exact am_fx.tr (σ1 := τ1) (ks := [7]) (ps := []) (ks' := []) (ps' := [(1, 8)]) (by rw [f1]; exact am_fx.up) (by rw [f2]; exact am_fx.upp) (by decide) (by decide)
      · rw [f2]
        show am_up τ1.1 1 8 _ 1 8 = _
        rw [am_up_row]
        exact if_pos rfl
      · rw [f2]
        show τ1.1 7 j = _
        rw [f1]
        show am_up τ.1 7 (i + 1) _ 7 j = _
        rw [am_up_row]
        show (if j = i + 1 then _ else τ.1 7 j) = _
        by_cases e : j = i + 1
        · rw [if_pos e, e]; rfl
        · rw [if_neg e]; exact h7 j (by omega)
  refine s_Gr_trace_0 (fun τ1 f1 τ2 f2 => loop _ 0 τ2 (Nat.zero_add _) ?_ ?_ (fun j hj => ?_))
  · exact am_fx.tr (σ1 := τ1) (ks := [7]) (ps := []) (ks' := []) (ps' := [(1, 8)]) (by rw [f1]; exact am_fx.up) (by rw [f2]; exact am_fx.upp) (by decide) (by decide)
  · rw [f2]
    show am_up τ1.1 1 8 _ 1 8 = _
    rw [am_up_row]; rfl
  · have ej : j = 0 := by omega
    rw [f2]
    show τ1.1 7 j = _
    rw [f1, ej]
    show am_up σ.1 7 0 _ 7 0 = _
    rw [am_up_row]; rfl
theorem m_beside {a b : Nat} (hM : am_RM w h s σ) (hw : 2 ≤ w ∧ w ≤ 4 ∧ 2 ≤ h ∧ h ≤ 4) (ha : a < w * h) (hb : b < w * h) (h1 : am_adj w h a b → Po (some (Zi 1)) am_SH σ) (h0 : ¬ am_adj w h a b → Po (some (Zi 0)) am_SH σ) : am_U x m_Mo_areBeside Po σ 0 [some (Zr 147), some (Zi (a : Int)), some (Zi (b : Int)), none, none] [] := by
  have hwh : w * h ≤ 16 := Nat.mul_le_mul hw.2.1 hw.2.2.2
  have er : ∀ {a : Nat}, a < w * h → am_rem (a : Int) (w : Int) = ((a % w : Nat) : Int) := fun ha => by rw [am_rem_nn (by omega) (by omega) (by omega)]; rfl
  have ed : ∀ {a : Nat}, a < w * h → am_div (a : Int) (w : Int) = ((a / w : Nat) : Int) := fun ha => by rw [am_div_nn (by omega) (by omega) (by omega) (by omega)]; rfl
  have hk := am_beside_ok w (by omega) h (by omega) a ha b hb
  rw [show Nat.blt w 2 = false by rw [Bool.eq_false_iff]; intro q; rw [Nat.blt_eq] at q; omega, show Nat.blt h 2 = false by rw [Bool.eq_false_iff]; intro q; rw [Nat.blt_eq] at q; omega, Bool.false_or, Bool.false_or, beq_iff_eq] at hk
  refine s_Mo_areBeside_0 ?_
  rw [hM.2.1, er ha, er hb, ed ha, ed hb]
  have m1 : ((a % w : Nat) : Int) < 4 := by have := Nat.mod_lt a (show 0 < w by omega); omega
  have m2 : ((b % w : Nat) : Int) < 4 := by have := Nat.mod_lt b (show 0 < w by omega); omega
  have m3 : ((a / w : Nat) : Int) ≤ 16 := by have := Nat.div_le_self a w; omega
  have m4 : ((b / w : Nat) : Int) ≤ 16 := by have := Nat.div_le_self b w; omega
  have p1 : 0 ≤ ((a % w : Nat) : Int) := Int.natCast_nonneg _
  have p2 : 0 ≤ ((b % w : Nat) : Int) := Int.natCast_nonneg _
  have p3 : 0 ≤ ((a / w : Nat) : Int) := Int.natCast_nonneg _
  have p4 : 0 ≤ ((b / w : Nat) : Int) := Int.natCast_nonneg _
  generalize ((a % w : Nat) : Int) = A at *
  generalize ((b % w : Nat) : Int) = B at *
  generalize ((a / w : Nat) : Int) = C at *
  generalize ((b / w : Nat) : Int) = D at *
  have q1 : (A - B) * (A - B) ≤ 16 := by
    have : -4 ≤ A - B ∧ A - B ≤ 4 := by omega
    generalize A - B = E at this
    obtain ⟨u1, u2⟩ := this
    rcases (show E = -4 ∨ E = -3 ∨ E = -2 ∨ E = -1 ∨ E = 0 ∨ E = 1 ∨ E = 2 ∨ E = 3 ∨ E = 4 by omega) with rfl | rfl | rfl | rfl | rfl | rfl | rfl | rfl | rfl <;> decide
  have q2 : (C - D) * (C - D) ≤ 16 * 16 := by
    have : -16 ≤ C - D ∧ C - D ≤ 16 := by omega
    generalize C - D = E at this
    rcases Int.le_total 0 E with q | q
    · exact Int.mul_le_mul this.2 this.2 q (by decide)
    · rw [← Int.neg_mul_neg]; exact Int.mul_le_mul (by omega) (by omega) (by omega) (by decide)
  have q3 : 0 ≤ (A - B) * (A - B) := by
    rcases Int.le_total 0 (A - B) with q | q
    · exact Int.mul_nonneg q q
    · rw [← Int.neg_mul_neg]; exact Int.mul_nonneg (by omega) (by omega)
  have q4 : 0 ≤ (C - D) * (C - D) := by
    rcases Int.le_total 0 (C - D) with q | q
    · exact Int.mul_nonneg q q
    · rw [← Int.neg_mul_neg]; exact Int.mul_nonneg (by omega) (by omega)
  refine ⟨by omega, by omega, by omega, fun q => s_Mo_areBeside_47 ⟨Or.inl rfl, h0 (fun z => ?_)⟩, fun q => s_Mo_areBeside_47 ⟨Or.inr rfl, h1 ?_⟩⟩
  · rw [am_adj_iff.mpr z, beq_iff_eq] at hk
    exact q hk
  · rw [beq_iff_eq.mpr q] at hk
    exact am_adj_iff.mp hk.symm
theorem m_next {f a : Nat} {k : Int} (hM : am_RM w h s σ) (hO : am_OK w h s) (hf : f < w * h) (hk : k = 0 ∨ k = 1) (h6 : ∀ b, b < w * h → σ.1 164 b = am_dst w h (am_cost s k) f b) (ha : a < w * h) (hn : a ≠ f)
    (kk : Po (some (Zi ((am_nx w h (am_cost s k) (am_dst w h (am_cost s k) f) a : Nat) : Int))) am_SH σ) : am_U x m_Mo_nextOf Po σ 0 [some (Zr 147), some (Zi (a : Int)), some (Zi k), none] [] := by
  have hw := hO.1
  have hwh := am_wh hO
  have hc : ∀ b, b < w * h → 1 ≤ am_cost s k b ∧ am_cost s k b ≤ 180 := fun b hb => am_cost_b hO hb
  have hd := am_dst_is hw hc hf
  obtain ⟨g1, g2⟩ := am_nx_is hd ha hn
  have loop : ∀ (d i : Nat), i + d = am_nx w h (am_cost s k) (am_dst w h (am_cost s k) f) a → am_U x m_Mo_nextOf Po σ 2 [some (Zr 147), some (Zi (a : Int)), some (Zi k), some (Zi (i : Int))] [] := by
    intro d
    induction d with
    | zero =>
      intro i hi
      rw [Nat.add_zero] at hi
      have hb := g1.1.1
      have d1 := hd.bd hw hc ha
      have d2 := hd.bd hw hc hb
      have c1 := hc a ha
      have c2 := hc _ hb
      have eq := g1.2
      rw [← hi] at eq hb d2 c2 kk
      refine s_Mo_nextOf_2 (m_beside hM hw ha hb (fun _ => br1e ⟨by omega, m_slowAt hM hO (by omega) hk ⟨_, rfl, rfl, m_slowAt hM hO (by omega) hk ⟨_, rfl, rfl, by omega, ?_⟩⟩⟩) (fun q => absurd (by rw [hi]; exact g1.1.sym) q))
      rw [Int.toNat_natCast, Int.toNat_natCast, h6 _ ha, h6 _ hb]
      exact ⟨by omega, by omega, fun _ => kk, fun q => absurd (by omega) q⟩
    | succ d ih =>
      intro i hi
      have hb := g1.1.1
      have hib : i < w * h := by omega
      have d1 := hd.bd hw hc ha
      have d2 := hd.bd hw hc hib
      have c1 := hc a ha
      have c2 := hc _ hib
      refine s_Mo_nextOf_2 (m_beside hM hw ha hib (fun q => br1e ⟨by omega, m_slowAt hM hO (by omega) hk ⟨_, rfl, rfl, m_slowAt hM hO (by omega) hk ⟨_, rfl, rfl, by omega, ?_⟩⟩⟩) (fun q => br0e (s_Mo_nextOf_40 (ih (i + 1) (by omega)))))
      rw [Int.toNat_natCast, Int.toNat_natCast, h6 _ ha, h6 _ hib]
      exact ⟨by omega, by omega, fun q2 => absurd ⟨q.sym, by omega⟩ (g2 i (by omega)), fun q => s_Mo_nextOf_40 (ih (i + 1) (by omega))⟩
  exact s_Mo_nextOf_0 (loop _ 0 (Nat.zero_add _))
/-! time, way -/
noncomputable def A_time (w h : Nat) (s : Nat → Nat → Int) (a b k : Int) : Int := if (0 ≤ a ∧ a < ((w * h : Nat) : Int)) ∧ (0 ≤ b ∧ b < ((w * h : Nat) : Int)) then (if k = 0 ∨ k = 1 then am_dst w h (am_cost s k) a.toNat b.toNat else -3) else -2
theorem x_time {a b k : Int} (hX : am_RX w h s σ) (hM : am_RM w2 h2 s2 σ) (hO : am_OK w h s) (ra : am_r a) (rb : am_r b) (rk : am_r k) (kk : ∀ σ', am_RX w h s σ' → am_RM w2 h2 s2 σ' → Po (some (Zi (A_time w h s a b k))) am_SH σ') : am_U x m_Sp_time Po σ 0 [some (Zr 0), some (Zi a), some (Zi b), some (Zi k)] [] := by
  have hb := (am_wh hO).2
  refine s_Sp_time_0 (x_isCell hX hb ra (fun q => br1e (x_isCell hX hb rb (fun q2 => br1n (x_isKind rk (fun q3 => br1n ?_) (fun q3 => br0n (am_fX kk (by simp only [A_time]; rw [if_pos ⟨q, q2⟩, if_neg q3]) rfl hX hM)))) (fun q2 => br0n (s_Sp_time_16 (am_fX kk (by simp only [A_time]; rw [if_neg (fun z => q2 z.2)]) rfl hX hM))))) (fun q => br0e (s_Sp_time_16 (am_fX kk (by simp only [A_time]; rw [if_neg (fun z => q z.1)]) rfl hX hM))))
  rw [show a = ((a.toNat : Nat) : Int) by omega]
  refine x_spread hX hO (by omega) q3 (fun σ' hf h5 h6 => ⟨rfl, rfl, by omega, ?_⟩)
  exact am_fX kk (by simp only [A_time]; rw [if_pos ⟨q, q2⟩, if_pos q3, h6 _ (by omega)]) rfl (hX.fx hf (by decide)) (hM.fx hf (by decide))
theorem m_time {a b k : Int} (hM : am_RM w h s σ) (hX : am_RX w2 h2 s2 σ) (hO : am_OK w h s) (ra : am_r a) (rb : am_r b) (rk : am_r k) (kk : ∀ σ', am_RM w h s σ' → am_RX w2 h2 s2 σ' → Po (some (Zi (A_time w h s a b k))) am_SH σ') : am_U x m_Mo_time Po σ 0 [some (Zr 147), some (Zi a), some (Zi b), some (Zi k)] [] := by
  have hb := (am_wh hO).2
  refine s_Mo_time_0 (m_isCell hM hb ra (fun q => br1e (m_isCell hM hb rb (fun q2 => br1n (m_isKind rk (fun q3 => br1n ?_) (fun q3 => br0n (am_fM kk (by simp only [A_time]; rw [if_pos ⟨q, q2⟩, if_neg q3]) rfl hM hX)))) (fun q2 => br0n (s_Mo_time_16 (am_fM kk (by simp only [A_time]; rw [if_neg (fun z => q2 z.2)]) rfl hM hX))))) (fun q => br0e (s_Mo_time_16 (am_fM kk (by simp only [A_time]; rw [if_neg (fun z => q z.1)]) rfl hM hX))))
  rw [show a = ((a.toNat : Nat) : Int) by omega]
  refine m_findTimes hM hO (by omega) q3 (fun σ' hf h6 => ⟨rfl, rfl, by omega, ?_⟩)
  exact am_fM kk (by simp only [A_time]; rw [if_pos ⟨q, q2⟩, if_pos q3, h6 _ (by omega)]) rfl (hM.fx hf (by decide)) (hX.fx hf (by decide))
noncomputable def A_way (w h : Nat) (s : Nat → Nat → Int) (a b k i : Int) : Int := if (0 ≤ a ∧ a < ((w * h : Nat) : Int)) ∧ (0 ≤ b ∧ b < ((w * h : Nat) : Int)) then (if (k = 0 ∨ k = 1) ∧ 0 ≤ i then (if i ≤ (am_wn w h (am_cost s k) b.toNat a.toNat : Int) then ((am_wp w h (am_cost s k) b.toNat a.toNat i.toNat : Nat) : Int) else -1) else -3) else -2
theorem x_way {a b k i : Int} (hX : am_RX w h s σ) (hM : am_RM w2 h2 s2 σ) (hO : am_OK w h s) (ra : am_r a) (rb : am_r b) (rk : am_r k) (ri : am_r i) (kk : ∀ σ', am_RX w h s σ' → am_RM w2 h2 s2 σ' → Po (some (Zi (A_way w h s a b k i))) am_SH σ') : am_U x m_Sp_way Po σ 0 [some (Zr 0), some (Zi a), some (Zi b), some (Zi k), some (Zi i)] [] := by
  have hb := (am_wh hO).2
  refine s_Sp_way_0 (x_isCell hX hb ra (fun q => br1e (x_isCell hX hb rb (fun q2 => br1n (x_isKind rk (fun q3 => br1e ⟨ri, fun q4 => ?_, fun q4 => s_Sp_way_31 (am_fX kk (by simp only [A_way]; rw [if_pos ⟨q, q2⟩, if_neg (fun z => q4 z.2)]) rfl hX hM)⟩) (fun q3 => br0e (s_Sp_way_31 (am_fX kk (by simp only [A_way]; rw [if_pos ⟨q, q2⟩, if_neg (fun z => q3 z.1)]) rfl hX hM))))) (fun q2 => br0n (s_Sp_way_16 (am_fX kk (by simp only [A_way]; rw [if_neg (fun z => q2 z.2)]) rfl hX hM))))) (fun q => br0e (s_Sp_way_16 (am_fX kk (by simp only [A_way]; rw [if_neg (fun z => q z.1)]) rfl hX hM))))
  rw [show b = ((b.toNat : Nat) : Int) by omega, show a = ((a.toNat : Nat) : Int) by omega]
  refine x_spread hX hO (by omega) q3 (fun σ1 hf h5 h6 => ⟨rfl, rfl, ?_⟩)
  have hX1 := hX.fx hf (by decide)
  have hM1 := hM.fx hf (by decide)
  have hn := (am_wn_of (k := k) hO (show b.toNat < w * h by omega) (show a.toNat < w * h by omega)).1
  refine x_trace hX1 hO (by omega) h5 h6 (by omega) (fun σ2 hf2 h8 h7 => ⟨rfl, rfl, ?_⟩)
  have hX2 := hX1.fx hf2 (by decide)
  have hM2 := hM1.fx hf2 (by decide)
  rw [h8]
  refine ⟨by omega, fun q5 => s_Sp_way_77 (am_fX kk ?_ rfl hX2 hM2), fun q5 => ⟨by omega, s_Sp_way_77 (am_fX kk ?_ rfl hX2 hM2)⟩⟩
  · simp only [A_way]; rw [if_pos ⟨q, q2⟩, if_pos ⟨q3, q4⟩, if_neg (by omega)]
  · simp only [A_way]; rw [if_pos ⟨q, q2⟩, if_pos ⟨q3, q4⟩, if_pos (by omega)]; exact (h7 _ (by omega)).symm
theorem m_way {a b k i : Int} (hM : am_RM w h s σ) (hX : am_RX w2 h2 s2 σ) (hO : am_OK w h s) (ra : am_r a) (rb : am_r b) (rk : am_r k) (ri : am_r i) (kk : ∀ σ', am_RM w h s σ' → am_RX w2 h2 s2 σ' → Po (some (Zi (A_way w h s a b k i))) am_SH σ') : am_U x m_Mo_way Po σ 0 [some (Zr 147), some (Zi a), some (Zi b), some (Zi k), some (Zi i), none, none] [] := by
  have hb := (am_wh hO).2
  refine s_Mo_way_0 (m_isCell hM hb ra (fun q => br1e (m_isCell hM hb rb (fun q2 => br1n (m_isKind rk (fun q3 => br1e ⟨ri, fun q4 => ?_, fun q4 => s_Mo_way_31 (am_fM kk (by simp only [A_way]; rw [if_pos ⟨q, q2⟩, if_neg (fun z => q4 z.2)]) rfl hM hX)⟩) (fun q3 => br0e (s_Mo_way_31 (am_fM kk (by simp only [A_way]; rw [if_pos ⟨q, q2⟩, if_neg (fun z => q3 z.1)]) rfl hM hX))))) (fun q2 => br0n (s_Mo_way_16 (am_fM kk (by simp only [A_way]; rw [if_neg (fun z => q2 z.2)]) rfl hM hX))))) (fun q => br0e (s_Mo_way_16 (am_fM kk (by simp only [A_way]; rw [if_neg (fun z => q z.1)]) rfl hM hX))))
  have eb : b = ((b.toNat : Nat) : Int) := by omega
  have ea : a = ((a.toNat : Nat) : Int) := by omega
  rw [eb]
  refine m_findTimes hM hO (by omega) q3 (fun σ1 hf h6 => ⟨rfl, rfl, ?_⟩)
  have hM1 := hM.fx hf (by decide)
  have hX1 := hX.fx hf (by decide)
  obtain ⟨n1, n2, n3, n4⟩ := am_wn_of (k := k) hO (show b.toNat < w * h by omega) (show a.toNat < w * h by omega)
  have loop : ∀ (d j : Nat), j + d = am_wn w h (am_cost s k) b.toNat a.toNat → (j : Int) ≤ i → am_U x m_Mo_way Po σ1 46 [some (Zr 147), none, some (Zi ((b.toNat : Nat) : Int)), some (Zi k), some (Zi i), some (Zi ((am_wp w h (am_cost s k) b.toNat a.toNat j : Nat) : Int)), some (Zi (j : Int))] [] := by
    intro d
    induction d with
    | zero =>
      intro j hj hji
      have ej : j = am_wn w h (am_cost s k) b.toNat a.toNat := by omega
      have fin : am_U x m_Mo_way Po σ1 74 [none, none, none, none, some (Zi i), some (Zi ((am_wp w h (am_cost s k) b.toNat a.toNat j : Nat) : Int)), some (Zi (j : Int))] [] := by
        refine s_Mo_way_74 ⟨by omega, ri, fun q5 => s_Mo_way_87 (am_fM kk ?_ rfl hM1 hX1), fun q5 => s_Mo_way_87 (am_fM kk ?_ rfl hM1 hX1)⟩
        · simp only [A_way]; rw [if_pos ⟨q, q2⟩, if_pos ⟨q3, q4⟩, if_neg (by omega)]
        · simp only [A_way]; rw [if_pos ⟨q, q2⟩, if_pos ⟨q3, q4⟩, if_pos (by omega), show i.toNat = j by omega]
      have lt := n4 j (by omega)
      have eb2 : am_wp w h (am_cost s k) b.toNat a.toNat j = b.toNat := by rw [ej]; exact n2
      exact s_Mo_way_46 ⟨by omega, ri, fun _ => fin, fun _ => ⟨by omega, by omega, fun _ => fin, fun q6 => absurd (by rw [eb2]) q6⟩⟩
    | succ d ih =>
      intro j hj hji
      have lt := n4 j (by omega)
      have ne := n3 j (by omega)
      refine s_Mo_way_46 ⟨by omega, ri, fun q5 => s_Mo_way_74 ⟨by omega, ri, fun q6 => absurd (by omega) q6, fun q6 => s_Mo_way_87 (am_fM kk ?_ rfl hM1 hX1)⟩, fun q5 => ⟨by omega, by omega, fun q6 => absurd (by omega) ne, fun _ => m_next hM1 hO (by omega) q3 h6 lt ne ⟨_, rfl, rfl, ih (j + 1) (by omega) (by omega)⟩⟩⟩
      simp only [A_way]; rw [if_pos ⟨q, q2⟩, if_pos ⟨q3, q4⟩, if_pos (by omega), show i.toNat = j by omega]
  have := loop _ 0 (Nat.zero_add _) q4
  rw [show ((am_wp w h (am_cost s k) b.toNat a.toNat 0 : Nat) : Int) = a by rw [ea]; rfl] at this
  exact this
end AMW
