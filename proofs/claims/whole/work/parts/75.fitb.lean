/-! ===== one block fitted ===== -/
section AMFB
variable {x : am_Sc} {Po : Option am_AV → am_Sh → am_St → Prop} {σ : am_St} {w h w2 h2 : Nat} {s s2 : Nat → Nat → Int}
theorem am_sum_add {f g : Nat → Int} : ∀ n, am_sum f n + am_sum g n = am_sum (fun i => f i + g i) n
  | 0 => rfl
  | n + 1 => by
    have := am_sum_add (f := f) (g := g) n
    show am_sum f n + f n + (am_sum g n + g n) = am_sum (fun i => f i + g i) n + (f n + g n)
    omega
theorem x_gatherM {sh : Nat} {k : Int} (hX : am_RX w h s σ) (hO : am_OK w h s) (hsh : sh < 5) (hk : k = 0 ∨ k = 1)
    (kk : ∀ σ' m me, am_fx [39] [(35, 6)] σ σ' → am_MB s sh k m me σ' → (∀ G : Nat → Int, am_sum (fun i => G (me i)) m = am_sum (fun p => if s 8 p = (sh : Int) ∧ s 9 p = k then G p else 0) (am_P s)) → Po none am_SH σ') : am_U x m_Ft_gatherMembers Po σ 0 [some (Zr 35), some (Zi (sh : Int)), some (Zi k), none] [] := by
  obtain ⟨bP, -⟩ := am_OKb hO
  have lP : am_P s ≤ 12 := by unfold am_P; omega
  have loop : ∀ (d p : Nat) (τ : am_St) (m : Nat) (me : Nat → Nat), p + d = am_P s → m ≤ p → am_fx [39] [(35, 6)] σ τ → am_MB s sh k m me τ → (∀ G : Nat → Int, am_sum (fun i => G (me i)) m = am_sum (fun p => if s 8 p = (sh : Int) ∧ s 9 p = k then G p else 0) p) → am_U x m_Ft_gatherMembers Po τ 7 [some (Zr 35), some (Zi (sh : Int)), some (Zi k), some (Zi (p : Int))] [] := by
    intro d
    induction d with
    | zero =>
      intro p τ m me hp hm hf hB hG
      have hXt := hX.fx hf (by decide)
      have eP : τ.1 8 6 = (am_P s : Int) := by rw [hXt.1.as 8 6 4 (by decide)]; unfold am_P; omega
      refine s_Ft_gatherMembers_7 ?_
      rw [eP]
      refine ⟨by omega, by omega, fun _ => kk τ m me hf hB (fun G => ?_), fun q => absurd (by omega) q⟩
      rw [hG G, show p = am_P s by omega]
    | succ d ih =>
      intro p τ m me hp hm hf hB hG
      have hXt := hX.fx hf (by decide)
      have hpP : p < am_P s := by omega
      obtain ⟨a, b7, c8, d9, -⟩ := am_OKp hO hpP
      have eP : τ.1 8 6 = (am_P s : Int) := by rw [hXt.1.as 8 6 4 (by decide)]; unfold am_P; omega
      have es : ∀ G : Nat → Int, am_sum (fun p => if s 8 p = (sh : Int) ∧ s 9 p = k then G p else 0) (p + 1) = am_sum (fun p => if s 8 p = (sh : Int) ∧ s 9 p = k then G p else 0) p + if s 8 p = (sh : Int) ∧ s 9 p = k then G p else 0 := fun _ => rfl
      have skip : ¬ (s 8 p = (sh : Int) ∧ s 9 p = k) → am_U x m_Ft_gatherMembers Po τ 64 [some (Zr 35), some (Zi (sh : Int)), some (Zi k), some (Zi (p : Int))] [] := fun no => by
        have := ih (p + 1) τ m me (by omega) (by omega) hf hB (fun G => by rw [es, if_neg no, Int.add_zero]; exact hG G)
        rw [show ((p + 1 : Nat) : Int) = (p : Int) + 1 by omega] at this
        exact s_Ft_gatherMembers_64 this
      refine s_Ft_gatherMembers_7 ?_
      rw [eP, Int.toNat_natCast, hXt.1.at 14 8 12 (by decide) a, hXt.1.at 15 9 12 (by decide) a, hB.1]
      refine ⟨by omega, by omega, fun q => absurd q (by omega), fun _ => ⟨by omega, by omega, by omega, fun q => skip (fun z => q z.1), fun q => ⟨by omega, by omega, fun q2 => skip (fun z => q2 z.2), fun q2 => ⟨by omega, fun τ1 f1 τ2 f2 => ?_⟩⟩⟩⟩
      rw [Int.toNat_natCast] at f1
      have e6 : τ1.1 35 6 = (m : Int) := by rw [am_stO f1 (by decide)]; exact hB.1
      rw [e6] at f2
      have f12 : am_fx [39] [(35, 6)] τ τ2 := (am_fx.o1 f1).tr (am_fx.p1 f2) (by decide) (by decide)
      have := ih (p + 1) τ2 (m + 1) (fun i => if i = m then p else me i) (by omega) (by omega) (hf.tr f12 (by decide) (by decide)) ⟨by rw [am_stE f2]; omega, by omega, fun i hi => by
        rw [am_stO f2 (by decide), am_stR f1]
        show (if i = m then _ else τ.1 39 i) = (((if i = m then p else me i) : Nat) : Int) ∧ (if i = m then p else me i) < am_P s ∧ s 8 (if i = m then p else me i) = _ ∧ s 9 (if i = m then p else me i) = k
        by_cases e : i = m
        · rw [if_pos e, if_pos e]; exact ⟨rfl, hpP, q, q2⟩
        · rw [if_neg e, if_neg e]; exact hB.2.2 i (by omega)⟩ (fun G => by
        rw [es, if_pos ⟨q, q2⟩, ← hG G]
        show am_sum (fun i => G (if i = m then p else me i)) m + G (if m = m then p else me m) = _
        rw [if_pos rfl, am_sum_c (f := fun i => G (if i = m then p else me i)) (g := fun i => G (me i)) (fun i hi => by show G (if i = m then p else me i) = _; rw [if_neg (by omega)])])
      rw [show ((p + 1 : Nat) : Int) = (p : Int) + 1 by omega] at this
      exact s_Ft_gatherMembers_64 this
  refine s_Ft_gatherMembers_0 (fun σ1 f1 => loop _ 0 σ1 0 (fun _ => 0) (Nat.zero_add _) (Nat.le_refl 0) ((am_fx.p1 f1).tr (am_fx.rf (ks := []) (ps := [])) (by decide) (by decide)) ⟨am_stE f1, by omega, fun i hi => absurd hi (Nat.not_lt_zero i)⟩ (fun G => rfl))
/-- spans to be met -/
def am_LHb (s : Nat → Nat → Int) (L H : Nat → Int) : Prop := ∀ p, p < am_P s → (-5000 ≤ L p ∧ L p ≤ 5000) ∧ (-5000 ≤ H p ∧ H p ≤ 5000) ∧ L p ≤ H p
theorem am_ft_sv {b sh p : Nat} {k v : Int} (h8 : s 8 p = (sh : Int)) (h9 : s 9 p = k) : am_ft w h (am_sv s b v) p = s 6 sh + am_clk s p + am_Dv w h s b k (s 5 sh).toNat (am_eC s p) v := by
  unfold am_ft
  have e1 : am_bg (am_sv s b v) p = s 6 sh := by unfold am_bg; rw [am_sv_o (r := 6) (by decide), am_sv_o (r := 8) (by decide), h8, Int.toNat_natCast]
  have e2 : am_clk (am_sv s b v) p = am_clk s p := by unfold am_clk; rw [am_sv_o (r := 4) (by decide), am_sv_o (r := 7) (by decide)]
  have e3 : am_sC (am_sv s b v) p = (s 5 sh).toNat := by unfold am_sC; rw [am_sv_o (r := 5) (by decide), am_sv_o (r := 8) (by decide), h8, Int.toNat_natCast]
  rw [e1, e2, e3, am_eC_sv, am_sv_o (r := 9) (by decide), h9]
  unfold am_Dv
  omega
theorem x_addMisfits {b sh : Nat} {k : Int} {m : Nat} {me : Nat → Nat} {L H : Nat → Int} (hX : am_RX w h s σ) (hO : am_OK w h s) (hsh : sh < am_S s) (hB : am_MB s sh k m me σ) (hL : am_LHb s L H) (e36 : ∀ p, p < am_P s → σ.1 36 p = L p ∧ σ.1 37 p = H p)
    (ht : ∀ v : Nat, 1 ≤ v → v ≤ 60 → ∀ i, i < m → σ.1 (41 + v) i = am_Dm w h s b sh k me (v : Int) i)
    (kk : ∀ σ', am_fx [38] [] σ σ' → (∀ v : Nat, 1 ≤ v → v ≤ 60 → σ'.1 38 v = σ.1 38 v + am_sum (fun i => am_off (L (me i)) (H (me i)) (am_ft w h (am_sv s b (v : Int)) (me i))) m) → Po none am_SH σ') : am_U x m_Ft_addMisfits Po σ 0 [some (Zr 35), some (Zi (sh : Int)), none, none, none, none, none] [] := by
  obtain ⟨s5, es, ls⟩ := am_OKs hO hsh
  have e12 : σ.1 12 sh = s 6 sh := hX.1.at 12 6 5 (by decide) s5
  have b6 := hO.2.2.2.2.2.2.2.2.2.2.2.2.2.1 sh s5
  have l12 := hB.2.1
  refine s_Ft_addMisfits_0 ⟨by omega, ?_⟩
  rw [Int.toNat_natCast, e12]
  have outer : ∀ (d i : Nat) (τ : am_St), i + d = m → am_fx [38] [] σ τ → (∀ v : Nat, 1 ≤ v → v ≤ 60 → τ.1 38 v = σ.1 38 v + am_sum (fun i => am_off (L (me i)) (H (me i)) (am_ft w h (am_sv s b (v : Int)) (me i))) i) → am_U x m_Ft_addMisfits Po τ 12 [some (Zr 35), none, some (Zi (s 6 sh)), some (Zi (i : Int)), none, none, none] [] := by
    intro d
    induction d with
    | zero =>
      intro i τ hi hf hv
      refine s_Ft_addMisfits_12 ?_
      rw [hf.g 35 (by decide), hB.1]
      refine ⟨by omega, by omega, fun _ => kk τ hf (fun v v1 v2 => ?_), fun q => absurd (by omega) q⟩
      rw [hv v v1 v2, show i = m by omega]
    | succ d ih =>
      intro i τ hi hf hv
      obtain ⟨g1, g2, g3, g4⟩ := hB.2.2 i (by omega)
      obtain ⟨a12, -, -, -, -, -, ck, -⟩ := am_OKp hO g2
      have hXt := hX.fx hf (by decide)
      obtain ⟨lb, hb', lh⟩ := hL (me i) g2
      refine s_Ft_addMisfits_12 ?_
      rw [hf.g 35 (by decide), hB.1, Int.toNat_natCast, hf.g 39 (by decide), g1]
      refine ⟨by omega, by omega, fun q => absurd q (by omega), fun _ => ⟨by omega, x_clockOf hXt hO g2 ⟨_, rfl, rfl, ?_⟩⟩⟩
      have inner : ∀ (e v : Nat) (τ1 : am_St), v + e = 61 → 1 ≤ v → am_fx [38] [] σ τ1 → (∀ v' : Nat, 1 ≤ v' → v' ≤ 60 → τ1.1 38 v' = σ.1 38 v' + am_sum (fun i => am_off (L (me i)) (H (me i)) (am_ft w h (am_sv s b (v' : Int)) (me i))) (if v' < v then i + 1 else i)) → am_U x m_Ft_addMisfits Po τ1 44 [some (Zr 35), none, some (Zi (s 6 sh)), some (Zi (i : Int)), some (Zi (me i : Int)), some (Zi (s 6 sh + am_clk s (me i))), some (Zi (v : Int))] [] := by
        intro e
        induction e with
        | zero =>
          intro v τ1 hv' v1 hf1 h1
          refine s_Ft_addMisfits_44 ⟨by omega, fun _ => ?_, fun q => absurd (by omega) q⟩
          have := ih (i + 1) τ1 (by omega) hf1 (fun v' a1 a2 => by rw [h1 v' a1 a2, if_pos (by omega)])
          rw [show ((i + 1 : Nat) : Int) = (i : Int) + 1 by omega] at this
          exact this
        | succ e ihe =>
          intro v τ1 hv' v1 hf1 h1
          have db := am_Dm_b (b := b) (k := k) hO hsh g2 (show (1 : Int) ≤ (v : Int) ∧ (v : Int) ≤ 60 by omega)
          have ef : s 6 sh + am_clk s (me i) + am_Dm w h s b sh k me (v : Int) i = am_ft w h (am_sv s b (v : Int)) (me i) := by rw [am_ft_sv g3 g4]; rfl
          refine s_Ft_addMisfits_44 ?_
          rw [Int.toNat_natCast v, Int.toNat_natCast i, Int.toNat_natCast (me i), hf1 (41 + v) i (by simp; omega) (by simp), ht v v1 (by omega) i (by omega), hf1.g 36 (by decide), hf1.g 37 (by decide), (e36 _ g2).1, (e36 _ g2).2]
          refine ⟨by omega, fun q => absurd q (by omega), fun _ => ⟨by omega, by omega, by omega, c_missed (by omega) lb hb' lh ⟨_, rfl, rfl, fun τ2 f2 => ?_⟩⟩⟩
          rw [ef, h1 v v1 (by omega), if_neg (by omega)] at f2
          have := ihe (v + 1) τ2 (by omega) (by omega) (hf1.tr (am_fx.o1 f2) (by decide) (by decide)) (fun v' a1 a2 => by
            rw [am_stR f2]
            by_cases e' : v' = v
            · rw [if_pos e', e', if_pos (by omega)]
              show _ = σ.1 38 v + (am_sum (fun i => am_off (L (me i)) (H (me i)) (am_ft w h (am_sv s b (v : Int)) (me i))) i + am_off (L (me i)) (H (me i)) (am_ft w h (am_sv s b (v : Int)) (me i)))
              omega
            · rw [if_neg e', h1 v' a1 a2]
              by_cases q1 : v' < v
              · rw [if_pos q1, if_pos (by omega)]
              · rw [if_neg q1, if_neg (by omega)])
          rw [show ((v + 1 : Nat) : Int) = (v : Int) + 1 by omega] at this
          exact this
      exact inner 60 1 τ (by omega) (by omega) hf (fun v' a1 a2 => by rw [if_neg (by omega)]; exact hv v' a1 a2)
  exact outer _ 0 σ (Nat.zero_add _) am_fx.rf (fun v _ _ => by show _ = σ.1 38 v + 0; omega)
noncomputable def am_mf (w h : Nat) (s : Nat → Nat → Int) (L H : Nat → Int) : Int := am_sum (fun p => am_off (L p) (H p) (am_ft w h s p)) (am_P s)
theorem am_mf_b (hO : am_OK w h s) {L H : Nat → Int} (hL : am_LHb s L H) : 0 ≤ am_mf w h s L H ∧ am_mf w h s L H ≤ 120000 := by
  obtain ⟨bP, -⟩ := am_OKb hO
  have lP : am_P s ≤ 12 := by unfold am_P; omega
  have := am_sum_b (f := fun p => am_off (L p) (H p) (am_ft w h s p)) (B := 10000) (n := am_P s) (fun p hp => by
    have h1 := am_ft_b hO hp
    obtain ⟨h2, h3, -⟩ := hL p hp
    exact am_off_b h2 h3 (by omega))
  unfold am_mf; omega
theorem am_LHb_sv {b : Nat} {v : Int} {L H : Nat → Int} (hL : am_LHb s L H) : am_LHb (am_sv s b v) L H := fun p hp => hL p (by rw [am_P_sv] at hp; exact hp)
def am_vl (s : Nat → Nat → Int) (b j : Nat) : Int := if j = 0 then s 2 b else (j : Int)
noncomputable def am_fC (w h : Nat) (s : Nat → Nat → Int) (L H : Nat → Int) (b j : Nat) : Int := -am_mf w h (am_sv s b (am_vl s b j)) L H
noncomputable def am_chs (w h : Nat) (s : Nat → Nat → Int) (L H : Nat → Int) (b : Nat) : Int := am_vl s b (am_ax (am_fC w h s L H b) 60).2
noncomputable def am_fb (w h : Nat) (s : Nat → Nat → Int) (L H : Nat → Int) (b : Nat) : Nat → Nat → Int := am_sv s b (am_chs w h s L H b)
theorem am_vl_b (hO : am_OK w h s) {b j : Nat} (hb : b < 8) (hj : j ≤ 60) : 1 ≤ am_vl s b j ∧ am_vl s b j ≤ 60 := by
  have := hO.2.2.2.2.2.2.2.2.2.1 b hb
  unfold am_vl; split <;> omega
theorem am_chs_b (hO : am_OK w h s) {L H : Nat → Int} {b : Nat} (hb : b < 8) : 1 ≤ am_chs w h s L H b ∧ am_chs w h s L H b ≤ 60 := am_vl_b hO hb (am_ax_is 60).2.1
theorem am_OK_fb (hO : am_OK w h s) {L H : Nat → Int} {b : Nat} (hb : b < 8) : am_OK w h (am_fb w h s L H b) := am_OK_sv hO (am_chs_b hO hb)
theorem x_improve {b : Nat} {L H : Nat → Int} (hX : am_RX w h s σ) (hO : am_OK w h s) (hb : b < 8) (hL : am_LHb s L H) (e36 : ∀ p, p < am_P s → σ.1 36 p = L p ∧ σ.1 37 p = H p)
    (kk : ∀ σ', am_fx (38 :: 39 :: am_tl) [(35, 6)] σ σ' → am_RX w h (am_fb w h s L H b) σ' → Po (some (Zi (am_mf w h (am_fb w h s L H b) L H))) am_SH σ') : am_U x m_Ft_improve Po σ 0 [some (Zr 35), some (Zi (b : Int)), none, none] [] := by
  obtain ⟨bP, -, -, -, bS⟩ := am_OKb hO
  have lP : am_P s ≤ 12 := by unfold am_P; omega
  have sS : am_S s ≤ 5 := by unfold am_S; omega
  have ftb : ∀ (v : Nat) (p : Nat), 1 ≤ v → v ≤ 60 → p < am_P s → 0 ≤ am_off (L p) (H p) (am_ft w h (am_sv s b (v : Int)) p) ∧ am_off (L p) (H p) (am_ft w h (am_sv s b (v : Int)) p) ≤ 10000 := fun v p v1 v2 hp => by
    have h1 := am_ft_b (am_OK_sv hO (b := b) (show (1 : Int) ≤ (v : Int) ∧ (v : Int) ≤ 60 by omega)) (by rw [am_P_sv]; exact hp)
    obtain ⟨h2, h3, -⟩ := hL p hp
    exact am_off_b h2 h3 (by omega)
  refine s_Ft_improve_0 (c_fill (n := 61) (by decide +kernel) (by decide) (fun σ1 f1 h1 => ⟨rfl, rfl, ?_⟩))
  -- the best of all
  have last : ∀ (τ : am_St), am_fx (38 :: 39 :: am_tl) [(35, 6)] σ τ → am_RX w h s τ → (∀ v : Nat, 1 ≤ v → v ≤ 60 → τ.1 38 v = am_mf w h (am_sv s b (v : Int)) L H) → am_U x m_Ft_improve Po τ 77 [some (Zr 35), some (Zi (b : Int)), some (Zi (s 2 b)), some (Zi 1)] [] := by
    intro τ hf hXt h38
    have mfb : ∀ v : Nat, 1 ≤ v → v ≤ 60 → 0 ≤ am_mf w h (am_sv s b (v : Int)) L H ∧ am_mf w h (am_sv s b (v : Int)) L H ≤ 120000 := fun v v1 v2 => am_mf_b (am_OK_sv hO (by omega)) (am_LHb_sv hL)
    have loop : ∀ (d v c : Nat), v + d = 61 → 1 ≤ v → 1 ≤ c → c ≤ 60 → (c : Int) = am_vl s b (am_ax (am_fC w h s L H b) (v - 1)).2 → am_U x m_Ft_improve Po τ 77 [some (Zr 35), some (Zi (b : Int)), some (Zi (c : Int)), some (Zi (v : Int))] [] := by
      intro d
      induction d with
      | zero =>
        intro v c hv v1 c1 c2 hc
        refine s_Ft_improve_77 ⟨by omega, fun _ => ⟨by omega, fun τ1 g1 => ⟨by omega, ?_⟩⟩, fun q => absurd (by omega) q⟩
        rw [Int.toNat_natCast] at g1
        have ec : (c : Int) = am_chs w h s L H b := by rw [hc, show v - 1 = 60 by omega]; rfl
        have hX' : am_RX w h (am_sv s b (s 2 b)) τ := by rw [am_sv_id]; exact hXt
        have hX1 := hX'.sv g1
        rw [Int.toNat_natCast, am_stO g1 (by decide), h38 c c1 c2]
        rw [ec] at hX1 ⊢
        refine kk τ1 (fun k j a1 a2 => ?_) hX1
        rw [am_stO g1 (fun z => a1 (by rw [z]; decide))]; exact hf k j a1 a2
      | succ d ih =>
        intro v c hv v1 c1 c2 hc
        have b1 := mfb v v1 (by omega)
        have b2 := mfb c c1 c2
        have axis := (am_ax_is (C := am_fC w h s L H b) (v - 1)).1
        have e1 : am_fC w h s L H b (am_ax (am_fC w h s L H b) (v - 1)).2 = -am_mf w h (am_sv s b (c : Int)) L H := by
          show -am_mf w h (am_sv s b (am_vl s b (am_ax (am_fC w h s L H b) (v - 1)).2)) L H = _
          rw [← hc]
        have e2 : am_fC w h s L H b v = -am_mf w h (am_sv s b (v : Int)) L H := by unfold am_fC am_vl; rw [if_neg (by omega)]
        have st : am_ax (am_fC w h s L H b) v = if (am_ax (am_fC w h s L H b) (v - 1)).1 < am_fC w h s L H b v then (am_fC w h s L H b v, v) else am_ax (am_fC w h s L H b) (v - 1) := am_ax_s (by omega)
        rw [← axis, e1, e2] at st
        refine s_Ft_improve_77 ?_
        rw [Int.toNat_natCast v, Int.toNat_natCast c, h38 v v1 (by omega), h38 c c1 c2]
        refine ⟨by omega, fun q => absurd q (by omega), fun _ => ⟨by omega, by omega, by omega, by omega, fun q => s_Ft_improve_100 ?_, fun q => s_Ft_improve_100 ?_⟩⟩
        · have := ih (v + 1) c (by omega) (by omega) c1 c2 (by rw [show v + 1 - 1 = v by omega, st, if_neg (by omega)]; exact hc)
          rw [show ((v + 1 : Nat) : Int) = (v : Int) + 1 by omega] at this
          exact this
        · have := ih (v + 1) v (by omega) (by omega) v1 (by omega) (by rw [show v + 1 - 1 = v by omega, st, if_pos (by omega)]; unfold am_vl; rw [if_neg (by omega)])
          rw [show ((v + 1 : Nat) : Int) = (v : Int) + 1 by omega] at this
          exact this
    have b2 := hO.2.2.2.2.2.2.2.2.2.1 b hb
    have := loop 60 1 (s 2 b).toNat (by omega) (by omega) (by omega) (by omega) (by show _ = am_vl s b 0; unfold am_vl; rw [if_pos rfl]; omega)
    rw [show (((s 2 b).toNat : Nat) : Int) = s 2 b by omega] at this
    exact this
  have shakes : ∀ (d sh : Nat) (τ : am_St), sh + d = am_S s → am_fx (38 :: 39 :: am_tl) [(35, 6)] σ τ → am_RX w h s τ → (∀ v : Nat, 1 ≤ v → v ≤ 60 → τ.1 38 v = am_sum (fun p => if s 8 p < (sh : Int) then am_off (L p) (H p) (am_ft w h (am_sv s b (v : Int)) p) else 0) (am_P s)) → am_U x m_Ft_improve Po τ 10 [some (Zr 35), some (Zi (b : Int)), some (Zi (sh : Int)), none] [] := by
    intro d
    induction d with
    | zero =>
      intro sh τ hs hf hXt h38
      have eS : τ.1 8 3 = (am_S s : Int) := by rw [hXt.1.as 8 3 3 (by decide)]; unfold am_S; omega
      refine s_Ft_improve_10 ?_
      rw [eS, Int.toNat_natCast, hXt.1.at 3 2 8 (by decide) hb]
      refine ⟨by omega, by omega, fun _ => ⟨by omega, last τ hf hXt (fun v v1 v2 => ?_)⟩, fun q => absurd (by omega) q⟩
      rw [h38 v v1 v2]
      unfold am_mf
      rw [am_P_sv]
      refine am_sum_c (fun p hp => ?_)
      have := hO.2.2.2.2.2.2.2.2.2.2.2.2.2.2.1 p (by unfold am_P at hp; omega)
      show (if s 8 p < (sh : Int) then _ else _) = _
      rw [if_pos (by unfold am_S at hs; omega)]
    | succ d ih =>
      intro sh τ0 hs hf0 hXt0 h380
      have eS : τ0.1 8 3 = (am_S s : Int) := by rw [hXt0.1.as 8 3 3 (by decide)]; unfold am_S; omega
      have kinds : ∀ (e kd : Nat) (τ : am_St), kd + e = 2 → am_fx (38 :: 39 :: am_tl) [(35, 6)] σ τ → am_RX w h s τ → (∀ v : Nat, 1 ≤ v → v ≤ 60 → τ.1 38 v = am_sum (fun p => if s 8 p < (sh : Int) ∨ (s 8 p = (sh : Int) ∧ s 9 p < (kd : Int)) then am_off (L p) (H p) (am_ft w h (am_sv s b (v : Int)) p) else 0) (am_P s)) → am_U x m_Ft_improve Po τ 23 [some (Zr 35), some (Zi (b : Int)), some (Zi (sh : Int)), some (Zi (kd : Int))] [] := by
        intro e
        induction e with
        | zero =>
          intro kd τ hk hf hXt h38
          refine s_Ft_improve_23 ⟨by omega, fun _ => ?_, fun q => absurd (by omega) q⟩
          have := ih (sh + 1) τ (by omega) hf hXt (fun v v1 v2 => by
            rw [h38 v v1 v2]
            refine am_sum_c (fun p hp => ?_)
            obtain ⟨-, -, -, d9, -⟩ := am_OKp hO hp
            show (if s 8 p < (sh : Int) ∨ (s 8 p = (sh : Int) ∧ s 9 p < (kd : Int)) then _ else _) = if s 8 p < ((sh + 1 : Nat) : Int) then _ else _
            by_cases q : s 8 p < ((sh + 1 : Nat) : Int)
            · rw [if_pos q, if_pos (by omega)]
            · rw [if_neg q, if_neg (by omega)])
          rw [show ((sh + 1 : Nat) : Int) = (sh : Int) + 1 by omega] at this
          exact this
        | succ e ihe =>
          intro kd τ hk hf hXt h38
          have go : ∀ τ' : am_St, am_fx (38 :: 39 :: am_tl) [(35, 6)] σ τ' → am_RX w h s τ' → (∀ v : Nat, 1 ≤ v → v ≤ 60 → τ'.1 38 v = τ.1 38 v + am_sum (fun p => if s 8 p = (sh : Int) ∧ s 9 p = (kd : Int) then am_off (L p) (H p) (am_ft w h (am_sv s b (v : Int)) p) else 0) (am_P s)) → am_U x m_Ft_improve Po τ' 53 [some (Zr 35), some (Zi (b : Int)), some (Zi (sh : Int)), some (Zi (kd : Int))] [] := fun τ' a1 a2 a3 => by
            have := ihe (kd + 1) τ' (by omega) a1 a2 (fun v v1 v2 => by
              rw [a3 v v1 v2, h38 v v1 v2, am_sum_add]
              refine am_sum_c (fun p hp => ?_)
              show (if s 8 p < (sh : Int) ∨ (s 8 p = (sh : Int) ∧ s 9 p < (kd : Int)) then _ else _) + (if s 8 p = (sh : Int) ∧ s 9 p = (kd : Int) then _ else _) = if s 8 p < (sh : Int) ∨ (s 8 p = (sh : Int) ∧ s 9 p < ((kd + 1 : Nat) : Int)) then _ else _
              by_cases q1 : s 8 p < (sh : Int) ∨ (s 8 p = (sh : Int) ∧ s 9 p < (kd : Int))
              · rw [if_pos q1, if_neg (by omega), if_pos (by omega), Int.add_zero]
              · rw [if_neg q1, Int.zero_add]
                by_cases q2 : s 8 p = (sh : Int) ∧ s 9 p = (kd : Int)
                · rw [if_pos q2, if_pos (by omega)]
                · rw [if_neg q2, if_neg (by omega)])
            rw [show ((kd + 1 : Nat) : Int) = (kd : Int) + 1 by omega] at this
            exact s_Ft_improve_53 this
          refine s_Ft_improve_23 ⟨by omega, fun q => absurd q (by omega), fun _ => x_gatherM hXt hO (by omega) (by omega) (fun τ1 m me g1 hB hG => ⟨rfl, rfl, ?_⟩)⟩
          have hX1 := hXt.fx g1 (by decide)
          have hf1 : am_fx (38 :: 39 :: am_tl) [(35, 6)] σ τ1 := hf.tr g1 (by decide +kernel) (by decide)
          have o38 : ∀ v, τ1.1 38 v = τ.1 38 v := fun v => g1.q 38 (by decide)
          rw [hB.1]
          have l12 := hB.2.1
          refine ⟨by omega, fun q => go τ1 hf1 hX1 (fun v v1 v2 => ?_), fun q => ?_⟩
          · rw [o38, ← hG (fun p => am_off (L p) (H p) (am_ft w h (am_sv s b (v : Int)) p)), show m = 0 by omega]
            show _ = τ.1 38 v + 0
            omega
          · refine x_tabulate hX1 hO hb (by omega) (by omega) hB (fun τ2 g2 hX2 ht => ⟨rfl, rfl, ?_⟩)
            have hf2 : am_fx (38 :: 39 :: am_tl) [(35, 6)] σ τ2 := hf1.tr g2 (by decide +kernel) (by decide)
            have hB2 := hB.fx (g2 35 6 (am_tl_n (by omega)) (by simp)) (fun i => g2 39 i (am_tl_n (by omega)) (by simp))
            have sp : ∀ τ' : am_St, am_fx (38 :: 39 :: am_tl) [(35, 6)] σ τ' → ∀ p, p < am_P s → τ'.1 36 p = L p ∧ τ'.1 37 p = H p := fun τ' hf' p hp => by
              rw [hf' 36 p (by rw [List.mem_cons, List.mem_cons, not_or, not_or]; exact ⟨by decide, by decide, am_tl_n (by omega)⟩) (by simp), hf' 37 p (by rw [List.mem_cons, List.mem_cons, not_or, not_or]; exact ⟨by decide, by decide, am_tl_n (by omega)⟩) (by simp)]
              exact e36 p hp
            refine x_addMisfits hX2 hO (by omega) hB2 hL (sp τ2 hf2) ht (fun τ3 g3 h3 => ⟨rfl, rfl, go τ3 (hf2.tr g3 (by decide +kernel) (by decide)) (hX2.fx g3 (by decide)) (fun v v1 v2 => ?_)⟩)
            rw [h3 v v1 v2, g2 38 v (am_tl_n (by omega)) (by simp), o38, hG (fun p => am_off (L p) (H p) (am_ft w h (am_sv s b (v : Int)) p))]
      refine s_Ft_improve_10 ?_
      rw [eS]
      refine ⟨by omega, by omega, fun q => absurd q (by omega), fun _ => kinds 2 0 τ0 (by omega) hf0 hXt0 (fun v v1 v2 => ?_)⟩
      rw [h380 v v1 v2]
      refine am_sum_c (fun p hp => ?_)
      obtain ⟨-, -, -, d9, -⟩ := am_OKp hO hp
      show (if s 8 p < (sh : Int) then _ else _) = if s 8 p < (sh : Int) ∨ (s 8 p = (sh : Int) ∧ s 9 p < ((0 : Nat) : Int)) then _ else _
      by_cases q : s 8 p < (sh : Int)
      · rw [if_pos q, if_pos (Or.inl q)]
      · rw [if_neg q, if_neg (by omega)]
  refine shakes _ 0 σ1 (Nat.zero_add _) (f1.tr (am_fx.rf (ks := []) (ps := [])) (by decide +kernel) (by decide)) (hX.fx f1 (by decide)) (fun v v1 v2 => ?_)
  rw [h1 v (by omega)]
  have z : ∀ n, n ≤ am_P s → am_sum (fun p => if s 8 p < ((0 : Nat) : Int) then am_off (L p) (H p) (am_ft w h (am_sv s b (v : Int)) p) else 0) n = 0 := fun n => by
    induction n with
    | zero => intro _; rfl
    | succ n ihn =>
      intro hn
      obtain ⟨-, -, c8, -⟩ := am_OKp hO (show n < am_P s by omega)
      show am_sum _ n + (if s 8 n < ((0 : Nat) : Int) then _ else 0) = 0
      rw [ihn (by omega), if_neg (by omega)]; rfl
  exact (z _ (Nat.le_refl _)).symm
/-! the model's -/
def am_MH (s : Nat → Nat → Int) (L H : Nat → Int) (σ : am_St) : Prop := ∀ p, p < am_P s → σ.1 163 p = 1 ∧ σ.1 161 p = L p ∧ σ.1 162 p = H p
theorem m_mfNow {L H : Nat → Int} (hM : am_RM w h s σ) (hO : am_OK w h s) (hL : am_LHb s L H) (hH : am_MH s L H σ) (kk : ∀ σ', am_fx [164, 165] [] σ σ' → Po (some (Zi (am_mf w h s L H))) am_SH σ') : am_U x m_Mo_misfitNow Po σ 0 [some (Zr 147), none, none] [] := by
  refine m_misfitNow (U := fun _ => 1) (L := L) (H := H) hM hO (fun p hp => ⟨(hH p hp).1, Or.inr rfl, fun _ => ⟨(hH p hp).2.1, (hH p hp).2.2, (hL p hp).1, (hL p hp).2.1⟩⟩) (fun σ' f' _ => ?_)
  have e : am_sum (am_g1 w h s (fun _ => 1) L H) (am_P s) = am_mf w h s L H := am_sum_c (fun p hp => by unfold am_g1; rw [if_neg (show ¬ (1 : Int) = 0 by decide)])
  rw [e]; exact kk σ' f'
theorem am_RM.sv {b : Nat} {u v : Int} {σ1 : am_St} (hM : am_RM w h (am_sv s b u) σ) (f : σ1 = (am_up σ.1 149 b v, σ.2)) : am_RM w h (am_sv s b v) σ1 := by
  have := hM.row (k := 149) (r := 2) (n := b) (v := v) (by decide)
  rw [f]
  rw [show am_up (am_sv s b u) 2 b v = am_sv s b v from am_sv_sv] at this
  exact this
theorem m_fitBlock {b : Nat} {L H : Nat → Int} (hM : am_RM w h s σ) (hO : am_OK w h s) (hb : b < 8) (hL : am_LHb s L H) (hH : am_MH s L H σ)
    (kk : ∀ σ', am_fx [149, 164, 165] [] σ σ' → am_RM w h (am_fb w h s L H b) σ' → Po (some (Zi (if am_chs w h s L H b = s 2 b then 0 else 1))) am_SH σ') : am_U x m_Mo_fitBlock Po σ 0 [some (Zr 147), some (Zi (b : Int)), none, none, none, none, none] [] := by
  have b2 := hO.2.2.2.2.2.2.2.2.2.1 b hb
  have e9 : σ.1 149 b = s 2 b := hM.1.at 149 2 8 (by decide) hb
  have hM' : am_RM w h (am_sv s b (s 2 b)) σ := by rw [am_sv_id]; exact hM
  have mfb : ∀ v : Int, 1 ≤ v ∧ v ≤ 60 → 0 ≤ am_mf w h (am_sv s b v) L H ∧ am_mf w h (am_sv s b v) L H ≤ 120000 := fun v hv => am_mf_b (am_OK_sv hO hv) (am_LHb_sv hL)
  refine s_Mo_fitBlock_0 ⟨by omega, m_mfNow hM hO hL hH (fun σ1 f1 => ⟨_, rfl, rfl, ?_⟩)⟩
  rw [Int.toNat_natCast, e9]
  have loop : ∀ (d v : Nat) (τ : am_St) (u : Int), v + d = 61 → 1 ≤ v → am_fx [149, 164, 165] [] σ τ → am_RM w h (am_sv s b u) τ → am_U x m_Mo_fitBlock Po τ 18 [some (Zr 147), some (Zi (b : Int)), some (Zi (s 2 b)), some (Zi (am_mf w h (am_sv s b (am_vl s b (am_ax (am_fC w h s L H b) (v - 1)).2)) L H)), some (Zi (am_vl s b (am_ax (am_fC w h s L H b) (v - 1)).2)), some (Zi (v : Int)), none] [] := by
    intro d
    induction d with
    | zero =>
      intro v τ u hv v1 hf hMt
      have cb := am_chs_b (L := L) (H := H) hO hb
      rw [show v - 1 = 60 by omega]
      have ec : am_vl s b (am_ax (am_fC w h s L H b) 60).2 = am_chs w h s L H b := rfl
      rw [ec]
      refine s_Mo_fitBlock_18 ⟨by omega, fun _ => ⟨by omega, fun τ1 g1 => ⟨by omega, by omega, fun q => s_Mo_fitBlock_92 ⟨Or.inl rfl, ?_⟩, fun q => s_Mo_fitBlock_92 ⟨Or.inr rfl, ?_⟩⟩⟩, fun q => absurd (by omega) q⟩
      · rw [Int.toNat_natCast] at g1
        have := kk τ1 (hf.tr (am_fx.o1 g1) (by decide) (by decide)) (hMt.sv g1)
        rw [if_pos q] at this; exact this
      · rw [Int.toNat_natCast] at g1
        have := kk τ1 (hf.tr (am_fx.o1 g1) (by decide) (by decide)) (hMt.sv g1)
        rw [if_neg q] at this; exact this
    | succ d ih =>
      intro v τ u hv v1 hf hMt
      have axis := am_ax_is (C := am_fC w h s L H b) (v - 1)
      have vb := am_vl_b (s := s) hO hb (show (am_ax (am_fC w h s L H b) (v - 1)).2 ≤ 60 by have := axis.2.1; omega)
      have b1 := mfb (v : Int) (by omega)
      have b3 := mfb _ vb
      have e1 : am_fC w h s L H b (am_ax (am_fC w h s L H b) (v - 1)).2 = -am_mf w h (am_sv s b (am_vl s b (am_ax (am_fC w h s L H b) (v - 1)).2)) L H := rfl
      have e2 : am_fC w h s L H b v = -am_mf w h (am_sv s b (v : Int)) L H := by unfold am_fC am_vl; rw [if_neg (by omega)]
      have st : am_ax (am_fC w h s L H b) v = if (am_ax (am_fC w h s L H b) (v - 1)).1 < am_fC w h s L H b v then (am_fC w h s L H b v, v) else am_ax (am_fC w h s L H b) (v - 1) := am_ax_s (by omega)
      rw [← axis.1, e1, e2] at st
      refine s_Mo_fitBlock_18 ⟨by omega, fun q => absurd q (by omega), fun _ => ⟨by omega, fun τ1 g1 => ?_⟩⟩
      rw [Int.toNat_natCast] at g1
      have hM1 := hMt.sv g1
      have hf1 : am_fx [149, 164, 165] [] σ τ1 := hf.tr (am_fx.o1 g1) (by decide) (by decide)
      refine m_mfNow hM1 (am_OK_sv hO (by omega)) (am_LHb_sv hL) (fun p hp => by rw [hf1.g 163 (by decide), hf1.g 161 (by decide), hf1.g 162 (by decide)]; exact hH p (by rw [am_P_sv] at hp; exact hp)) (fun τ2 g2 => ⟨_, rfl, rfl, by omega, by omega, fun q => s_Mo_fitBlock_52 ⟨by omega, by omega, fun _ => s_Mo_fitBlock_66 ?_, fun z => absurd q z⟩, fun q => s_Mo_fitBlock_52 ⟨by omega, by omega, fun z => absurd z q, fun _ => s_Mo_fitBlock_66 ?_⟩⟩)
      · have := ih (v + 1) τ2 (v : Int) (by omega) (by omega) (hf1.tr g2 (by decide) (by decide)) (hM1.fx g2 (by decide))
        rw [show v + 1 - 1 = v by omega, st, if_neg (by omega), show ((v + 1 : Nat) : Int) = (v : Int) + 1 by omega] at this
        exact this
      · have := ih (v + 1) τ2 (v : Int) (by omega) (by omega) (hf1.tr g2 (by decide) (by decide)) (hM1.fx g2 (by decide))
        have ev : am_vl s b v = (v : Int) := by unfold am_vl; rw [if_neg (by omega)]
        rw [show v + 1 - 1 = v by omega, st, if_pos (by omega), show ((v + 1 : Nat) : Int) = (v : Int) + 1 by omega] at this
        rw [show (-am_mf w h (am_sv s b (v : Int)) L H, v).2 = v from rfl, ev] at this
        exact this
  have := loop 60 1 σ1 (s 2 b) (by omega) (by omega) (f1.tr (am_fx.rf (ks := []) (ps := [])) (by decide) (by decide)) (hM'.fx f1 (by decide))
  rw [show (am_ax (am_fC w h s L H b) (1 - 1)).2 = 0 from rfl, show am_vl s b 0 = s 2 b from rfl, am_sv_id] at this
  exact this
end AMFB
