/-! ===== sweeps ===== -/
section AMSW
variable {x : am_Sc} {Po : Option am_AV → am_Sh → am_St → Prop} {σ : am_St} {w h w2 h2 : Nat} {s s2 : Nat → Nat → Int} {L H : Nat → Int}
theorem am_fb_stay (hO : am_OK w h s) {b : Nat} (hb : b < 8) (hm : ∀ v : Int, 1 ≤ v → v ≤ 60 → am_mf w h s L H ≤ am_mf w h (am_sv s b v) L H) : am_fb w h s L H b = s := by
  obtain ⟨a1, a2, a3, a4⟩ := am_ax_is (C := am_fC w h s L H b) 60
  have e0 : am_fC w h s L H b 0 = -am_mf w h s L H := by show -am_mf w h (am_sv s b (s 2 b)) L H = _; rw [am_sv_id]
  have i0 : (am_ax (am_fC w h s L H b) 60).2 = 0 := by
    rcases Nat.eq_zero_or_pos (am_ax (am_fC w h s L H b) 60).2 with q | q
    · exact q
    · have h1 := a4 0 q
      rw [← a1, e0] at h1
      have h2 : am_fC w h s L H b (am_ax (am_fC w h s L H b) 60).2 = -am_mf w h (am_sv s b (((am_ax (am_fC w h s L H b) 60).2 : Nat) : Int)) L H := by
        show -am_mf w h (am_sv s b (am_vl s b (am_ax (am_fC w h s L H b) 60).2)) L H = _
        rw [show am_vl s b (am_ax (am_fC w h s L H b) 60).2 = (((am_ax (am_fC w h s L H b) 60).2 : Nat) : Int) by unfold am_vl; rw [if_neg (by omega)]]
      have := hm (((am_ax (am_fC w h s L H b) 60).2 : Nat) : Int) (by omega) (by omega)
      omega
  show am_sv s b (am_vl s b (am_ax (am_fC w h s L H b) 60).2) = s
  rw [i0]
  exact am_sv_id
theorem am_fb_min (hO : am_OK w h s) {b : Nat} (hb : b < 8) : ∀ v : Int, 1 ≤ v → v ≤ 60 → am_mf w h (am_fb w h s L H b) L H ≤ am_mf w h (am_sv s b v) L H := fun v v1 v2 => by
  obtain ⟨a1, a2, a3, a4⟩ := am_ax_is (C := am_fC w h s L H b) 60
  have h1 := a3 v.toNat (by omega)
  rw [← a1] at h1
  have e1 : am_fC w h s L H b v.toNat = -am_mf w h (am_sv s b v) L H := by
    show -am_mf w h (am_sv s b (am_vl s b v.toNat)) L H = _
    rw [show am_vl s b v.toNat = v by unfold am_vl; rw [if_neg (by omega)]; omega]
  have e2 : am_fC w h s L H b (am_ax (am_fC w h s L H b) 60).2 = -am_mf w h (am_fb w h s L H b) L H := rfl
  omega
theorem am_fb_fb (hO : am_OK w h s) {b : Nat} (hb : b < 8) : am_fb w h (am_fb w h s L H b) L H b = am_fb w h s L H b := by
  refine am_fb_stay (am_OK_fb hO hb) hb (fun v v1 v2 => ?_)
  rw [show am_sv (am_fb w h s L H b) b v = am_sv s b v from am_sv_sv]
  exact am_fb_min hO hb v v1 v2
theorem am_fb_0 (hO : am_OK w h s) (hL : am_LHb s L H) {b : Nat} (hb : b < 8) (h0 : am_mf w h s L H = 0) : am_fb w h s L H b = s := am_fb_stay hO hb (fun v v1 v2 => by
  have := am_mf_b (am_OK_sv hO (b := b) ⟨v1, v2⟩) (am_LHb_sv hL)
  omega)
noncomputable def am_stp (w h : Nat) (L H : Nat → Int) (b : Nat) (s : Nat → Nat → Int) : Nat → Nat → Int := if am_bsz w h s b = 0 then s else am_fb w h s L H b
noncomputable def am_rn (w h : Nat) (L H : Nat → Int) (s : Nat → Nat → Int) : Nat → (Nat → Nat → Int)
  | 0 => s
  | t + 1 => am_stp w h L H (t % 8) (am_rn w h L H s t)
theorem am_stp_o {b r j : Nat} (hr : r ≠ 2) : am_stp w h L H b s r j = s r j := by
  unfold am_stp
  split
  · rfl
  · exact am_sv_o hr
theorem am_stp_OK (hO : am_OK w h s) {b : Nat} (hb : b < 8) : am_OK w h (am_stp w h L H b s) := by
  unfold am_stp
  split
  · exact hO
  · exact am_OK_fb hO hb
theorem am_rn_o {r j : Nat} (hr : r ≠ 2) : ∀ t, am_rn w h L H s t r j = s r j
  | 0 => rfl
  | t + 1 => by
    show am_stp w h L H (t % 8) (am_rn w h L H s t) r j = _
    rw [am_stp_o hr]; exact am_rn_o hr t
theorem am_rn_OK (hO : am_OK w h s) : ∀ t, am_OK w h (am_rn w h L H s t)
  | 0 => hO
  | t + 1 => am_stp_OK (am_rn_OK hO t) (Nat.mod_lt t (by decide))
theorem am_bsz_o {s' : Nat → Nat → Int} (h1 : ∀ c, s' 1 c = s 1 c) (b : Nat) : am_bsz w h s' b = am_bsz w h s b := by
  unfold am_bsz
  exact am_cnt_c (fun c _ => by unfold am_inB; rw [h1 c])
theorem am_rn_bsz {t b : Nat} : am_bsz w h (am_rn w h L H s t) b = am_bsz w h s b := am_bsz_o (fun c => am_rn_o (by decide) t) b
theorem am_rn_P {t : Nat} : am_P (am_rn w h L H s t) = am_P s := by unfold am_P; rw [am_rn_o (by decide)]
theorem am_rn_LH {t : Nat} (hL : am_LHb s L H) : am_LHb (am_rn w h L H s t) L H := fun p hp => hL p (by rw [am_rn_P] at hp; exact hp)
theorem am_rn_fix {t : Nat} (hf : ∀ b, b < 8 → am_stp w h L H b (am_rn w h L H s t) = am_rn w h L H s t) : ∀ d, am_rn w h L H s (t + d) = am_rn w h L H s t
  | 0 => rfl
  | d + 1 => by
    show am_stp w h L H ((t + d) % 8) (am_rn w h L H s (t + d)) = _
    rw [am_rn_fix hf d]
    exact hf _ (Nat.mod_lt _ (by decide))
/-! counting the blocks in use along the sweeps -/
def am_uI (w h : Nat) (s : Nat → Nat → Int) (t : Nat) : Int := am_sum (fun u => if am_bsz w h s (u % 8) = 0 then 0 else 1) t
theorem am_uI_s {t : Nat} : am_uI w h s (t + 1) = am_uI w h s t + if am_bsz w h s (t % 8) = 0 then 0 else 1 := rfl
theorem am_uI_mono {t d : Nat} : am_uI w h s t ≤ am_uI w h s (t + d) := by
  induction d with
  | zero => exact Int.le_refl _
  | succ d ih =>
    have : am_uI w h s (t + d + 1) = am_uI w h s (t + d) + if am_bsz w h s ((t + d) % 8) = 0 then 0 else 1 := rfl
    show am_uI w h s t ≤ am_uI w h s (t + d + 1)
    rw [this]; split <;> omega
theorem am_uI_8 : am_uI w h s 8 = am_use w h s := by
  unfold am_uI am_use
  exact am_sum_c (fun b hb => by show (if am_bsz w h s (b % 8) = 0 then (0 : Int) else 1) = _; rw [Nat.mod_eq_of_lt hb])
theorem am_uI_p : ∀ t, am_uI w h s (t + 8) = am_uI w h s t + am_use w h s
  | 0 => by rw [Nat.zero_add, am_uI_8]; show _ = 0 + _; omega
  | t + 1 => by
    have ih := am_uI_p t
    have e1 : am_uI w h s (t + 1 + 8) = am_uI w h s (t + 8) + if am_bsz w h s ((t + 8) % 8) = 0 then 0 else 1 := by
      show am_uI w h s (t + 1 + 8) = _
      rw [show t + 1 + 8 = t + 8 + 1 by omega]; rfl
    rw [e1, ih, am_uI_s, Nat.add_mod_right]; omega
theorem am_use_pos (hO : am_OK w h s) : 1 ≤ am_use w h s ∧ am_use w h s ≤ 8 := by
  have hwh := am_wh hO
  have b0 := hO.2.2.2.2.2.2.2.2.1 0 (by omega)
  have nz : ¬ am_bsz w h s (s 1 0).toNat = 0 := fun z => by
    have := am_cnt0.mp z 0 (by omega)
    unfold am_inB at this
    exact of_decide_eq_false this (by omega)
  have h1 : am_uI w h s ((s 1 0).toNat + 1) ≤ am_uI w h s 8 := by
    have := am_uI_mono (w := w) (h := h) (s := s) (t := (s 1 0).toNat + 1) (d := 7 - (s 1 0).toNat)
    rw [show (s 1 0).toNat + 1 + (7 - (s 1 0).toNat) = 8 by omega] at this
    exact this
  have h2 := am_uI_mono (w := w) (h := h) (s := s) (t := 0) (d := (s 1 0).toNat)
  rw [am_uI_s, Nat.mod_eq_of_lt (show (s 1 0).toNat < 8 by omega), if_neg nz, am_uI_8] at h1
  rw [Nat.zero_add] at h2
  have h3 : am_uI w h s 0 = 0 := rfl
  have h4 := am_sum_b (f := fun b => if am_bsz w h s b = 0 then (0 : Int) else 1) (B := 1) (n := 8) (fun b _ => by show 0 ≤ (if am_bsz w h s b = 0 then (0 : Int) else 1) ∧ (if am_bsz w h s b = 0 then (0 : Int) else 1) ≤ 1; split <;> decide)
  unfold am_use at *
  omega
theorem am_cover {t t' : Nat} {Q : Nat → Prop} (hu : am_use w h s ≤ am_uI w h s t - am_uI w h s t') (hq : ∀ u, t' ≤ u → u < t → Q (u % 8)) (h0 : ∀ b, b < 8 → am_bsz w h s b = 0 → Q b) : ∀ b, b < 8 → Q b := fun b hb => by
  by_cases z : am_bsz w h s b = 0
  · exact h0 b hb z
  · obtain ⟨u, u1, u2, u3⟩ : ∃ u, t' ≤ u ∧ u < t' + 8 ∧ u % 8 = b := ⟨t' + (b + 8 - t' % 8) % 8, by omega, by omega, by omega⟩
    rcases Nat.lt_or_ge u t with g | g
    · have := hq u u1 g; rw [u3] at this; exact this
    · exfalso
      have e1 := am_uI_mono (w := w) (h := h) (s := s) (t := t) (d := u - t)
      rw [show t + (u - t) = u by omega] at e1
      have e2 := am_uI_mono (w := w) (h := h) (s := s) (t := u + 1) (d := t' + 8 - (u + 1))
      rw [show u + 1 + (t' + 8 - (u + 1)) = t' + 8 by omega, am_uI_p, am_uI_s, u3, if_neg z] at e2
      omega
theorem x_sweep {n : Nat} (hX : am_RX w h s σ) (hO : am_OK w h s) (hn : 1 ≤ n ∧ n ≤ 10) (hL : am_LHb s L H) (e36 : ∀ p, p < am_P s → σ.1 36 p = L p ∧ σ.1 37 p = H p)
    (kk : ∀ σ', am_fx (38 :: 39 :: am_tl) [(35, 6)] σ σ' → am_RX w h (am_rn w h L H s (8 * n)) σ' → Po (some (Zi (am_mf w h (am_rn w h L H s (8 * n)) L H))) am_SH σ') : am_U x m_Ft_sweep Po σ 0 [some (Zr 35), some (Zi (n : Int)), none, none, none, none, none, none] [] := by
  have up := am_use_pos hO
  refine s_Ft_sweep_0 (x_blocksInUse hX hO ⟨_, rfl, rfl, ?_⟩)
  -- settled: nothing changes any more
  have settled : ∀ (τ : am_St) (t : Nat), t ≤ 8 * n → am_fx (38 :: 39 :: am_tl) [(35, 6)] σ τ → am_RX w h (am_rn w h L H s t) τ → (∀ b, b < 8 → am_stp w h L H b (am_rn w h L H s t) = am_rn w h L H s t) → am_U x m_Ft_sweep Po τ 124 [none, none, none, some (Zi (am_mf w h (am_rn w h L H s t) L H)), none, none, none, none] [] := fun τ t ht hf hXt hfix => by
    refine s_Ft_sweep_124 ?_
    have e := am_rn_fix hfix (8 * n - t)
    rw [show t + (8 * n - t) = 8 * n by omega] at e
    rw [← e]
    exact kk τ hf (by rw [e]; exact hXt)
  have outer : ∀ (d i : Nat) (τ : am_St) (mis st : Int), i + d = n → am_fx (38 :: 39 :: am_tl) [(35, 6)] σ τ → am_RX w h (am_rn w h L H s (8 * i)) τ → 0 ≤ st → st < am_use w h s → (∃ t', t' ≤ 8 * i ∧ st = am_uI w h s (8 * i) - am_uI w h s t' ∧ ∀ u, t' ≤ u → u < 8 * i → am_stp w h L H (u % 8) (am_rn w h L H s (8 * i)) = am_rn w h L H s (8 * i)) → (am_uI w h s (8 * i) = 0 ∨ mis = am_mf w h (am_rn w h L H s (8 * i)) L H) → am_U x m_Ft_sweep Po τ 16 [some (Zr 35), some (Zi (n : Int)), some (Zi (am_use w h s)), some (Zi mis), some (Zi st), some (Zi (i : Int)), none, none] [] := by
    intro d
    induction d with
    | zero =>
      intro i τ mis st hi hf hXt s0 s1 hB hm
      refine s_Ft_sweep_16 ⟨by omega, by omega, fun _ => s_Ft_sweep_124 ?_, fun q => absurd (by omega) q⟩
      have u1 := am_uI_mono (w := w) (h := h) (s := s) (t := 8) (d := 8 * i - 8)
      rw [show 8 + (8 * i - 8) = 8 * i by omega, am_uI_8] at u1
      have em : mis = am_mf w h (am_rn w h L H s (8 * i)) L H := by
        rcases hm with z | z
        · omega
        · exact z
      rw [em, show i = n by omega]
      rw [show i = n by omega] at hXt
      exact kk τ hf hXt
    | succ d ih =>
      intro i τ mis st hi hf hXt s0 s1 hB hm
      have inner : ∀ (e b : Nat) (τ : am_St) (mis st : Int), b + e = 8 → am_fx (38 :: 39 :: am_tl) [(35, 6)] σ τ → am_RX w h (am_rn w h L H s (8 * i + b)) τ → 0 ≤ st → st ≤ am_use w h s → (st < am_use w h s → (∃ t', t' ≤ 8 * i + b ∧ st = am_uI w h s (8 * i + b) - am_uI w h s t' ∧ ∀ u, t' ≤ u → u < 8 * i + b → am_stp w h L H (u % 8) (am_rn w h L H s (8 * i + b)) = am_rn w h L H s (8 * i + b)) ∧ (am_uI w h s (8 * i + b) = 0 ∨ mis = am_mf w h (am_rn w h L H s (8 * i + b)) L H)) → (st = am_use w h s → (∀ b', b' < 8 → am_stp w h L H b' (am_rn w h L H s (8 * i + b)) = am_rn w h L H s (8 * i + b)) ∧ mis = am_mf w h (am_rn w h L H s (8 * i + b)) L H) → am_U x m_Ft_sweep Po τ 31 [some (Zr 35), some (Zi (n : Int)), some (Zi (am_use w h s)), some (Zi mis), some (Zi st), some (Zi (i : Int)), some (Zi (b : Int)), none] [] := by
        intro e
        induction e with
        | zero =>
          intro b τ mis st hb hf hXt s0 s1 hlt heq
          have eb : 8 * i + b = 8 * (i + 1) := by omega
          rw [eb] at hXt hlt heq
          refine s_Ft_sweep_31 ⟨by omega, fun _ => s_Ft_sweep_118 ?_, fun q => absurd (by omega) q⟩
          rw [show (i : Int) + 1 = ((i + 1 : Nat) : Int) by omega]
          by_cases q : st < am_use w h s
          · obtain ⟨g1, g2⟩ := hlt q
            exact ih (i + 1) τ mis st (by omega) hf hXt s0 q g1 g2
          · obtain ⟨g1, g2⟩ := heq (by omega)
            have fin := settled τ (8 * (i + 1)) (by omega) hf hXt g1
            rw [← g2] at fin
            exact s_Ft_sweep_16 ⟨by omega, by omega, fun _ => fin, fun _ => ⟨by omega, by omega, fun _ => fin, fun z => absurd (by omega) z⟩⟩
        | succ e ihe =>
          intro b τ mis st hb hf hXt s0 s1 hlt heq
          have b8 : b < 8 := by omega
          have hOt := am_rn_OK (L := L) (H := H) hO (8 * i + b)
          have hLt := am_rn_LH (w := w) (h := h) (t := 8 * i + b) hL
          have md : (8 * i + b) % 8 = b := by omega
          have es : am_rn w h L H s (8 * i + (b + 1)) = am_stp w h L H b (am_rn w h L H s (8 * i + b)) := by
            show am_stp w h L H ((8 * i + b) % 8) (am_rn w h L H s (8 * i + b)) = _
            rw [md]
          have eu : am_uI w h s (8 * i + (b + 1)) = am_uI w h s (8 * i + b) + if am_bsz w h s b = 0 then 0 else 1 := by
            show am_uI w h s (8 * i + b) + (if am_bsz w h s ((8 * i + b) % 8) = 0 then (0 : Int) else 1) = _
            rw [md]
          by_cases q : st < am_use w h s
          · obtain ⟨⟨t', t1, t2, t3⟩, hm⟩ := hlt q
            refine s_Ft_sweep_31 ⟨by omega, fun z => absurd z (by omega), fun _ => ⟨by omega, by omega, fun z => absurd z (by omega), fun _ => x_cellsOf hXt hOt (by omega) ⟨_, rfl, rfl, ?_⟩⟩⟩
            have hwh := am_wh hO
            have ltS := am_set_lt (P := am_inB (am_rn w h L H s (8 * i + b)) b) (w * h)
            have p1 : 2 ^ (w * h) ≤ 2 ^ 16 := Nat.pow_le_pow_right (by decide) (by omega)
            have z0 : am_set (am_inB (am_rn w h L H s (8 * i + b)) b) (w * h) = 0 ↔ am_bsz w h s b = 0 := by
              rw [am_set0]
              have := am_rn_bsz (w := w) (h := h) (L := L) (H := H) (s := s) (t := 8 * i + b) (b := b)
              unfold am_bsz at this ⊢
              rw [this]
            refine ⟨by omega, fun qz => s_Ft_sweep_112 ?_, fun qz => ⟨by omega, ?_⟩⟩
            · -- an empty block is passed over
              have bz : am_bsz w h s b = 0 := z0.mp (by omega)
              have eid : am_stp w h L H b (am_rn w h L H s (8 * i + b)) = am_rn w h L H s (8 * i + b) := by unfold am_stp; rw [if_pos (by rw [am_rn_bsz]; exact bz)]
              rw [eid] at es
              rw [if_pos bz, Int.add_zero] at eu
              have := ihe (b + 1) τ mis st (by omega) hf (by rw [es]; exact hXt) s0 s1 (fun _ => by
                rw [es, eu]
                refine ⟨⟨t', by omega, t2, fun u u1 u2 => ?_⟩, hm⟩
                rcases Nat.lt_or_ge u (8 * i + b) with g | g
                · exact t3 u u1 g
                · rw [show u = 8 * i + b by omega, md]; exact eid) (fun z => absurd z (by omega))
              rw [show ((b + 1 : Nat) : Int) = (b : Int) + 1 by omega] at this
              exact this
            · have bz : ¬ am_bsz w h s b = 0 := fun z => qz (by rw [z0.mpr z]; rfl)
              have efb : am_stp w h L H b (am_rn w h L H s (8 * i + b)) = am_fb w h (am_rn w h L H s (8 * i + b)) L H b := by unfold am_stp; rw [if_neg (by rw [am_rn_bsz]; exact bz)]
              rw [efb] at es
              rw [if_neg bz] at eu
              refine x_improve hXt hOt b8 hLt (fun p hp => ?_) (fun τ1 g1 hX1 => ⟨_, rfl, rfl, ?_⟩)
              · rw [am_rn_P] at hp
                rw [hf 36 p (by rw [List.mem_cons, List.mem_cons, not_or, not_or]; exact ⟨by decide, by decide, am_tl_n (by omega)⟩) (by simp), hf 37 p (by rw [List.mem_cons, List.mem_cons, not_or, not_or]; exact ⟨by decide, by decide, am_tl_n (by omega)⟩) (by simp)]
                exact e36 p hp
              · have hf1 : am_fx (38 :: 39 :: am_tl) [(35, 6)] σ τ1 := fun k j a1 a2 => by rw [g1 k j a1 a2]; exact hf k j a1 a2
                have hO1 := am_rn_OK (L := L) (H := H) hO (8 * i + (b + 1))
                have hX1' : am_RX w h (am_rn w h L H s (8 * i + (b + 1))) τ1 := by rw [es]; exact hX1
                have hL1 := am_rn_LH (w := w) (h := h) (t := 8 * i + (b + 1)) hL
                have mb := am_mf_b hO1 hL1
                have e3 : τ1.1 3 b = am_rn w h L H s (8 * i + (b + 1)) 2 b := hX1'.1.at 3 2 8 (by decide) b8
                have e3' : τ.1 3 b = am_rn w h L H s (8 * i + b) 2 b := hXt.1.at 3 2 8 (by decide) b8
                have v1 := hO1.2.2.2.2.2.2.2.2.2.1 b b8
                have v2 := hOt.2.2.2.2.2.2.2.2.2.1 b b8
                have echs : am_rn w h L H s (8 * i + (b + 1)) 2 b = am_chs w h (am_rn w h L H s (8 * i + b)) L H b := by rw [es]; show am_sv _ b _ 2 b = _; rw [am_sv_2, if_pos rfl]
                rw [← es]
                rw [Int.toNat_natCast, e3, e3']
                -- what is left to show of the number of settled blocks
                have go : ∀ st1 : Int, 1 ≤ st1 → st1 ≤ am_use w h s → (∃ t', t' ≤ 8 * i + (b + 1) ∧ st1 = am_uI w h s (8 * i + (b + 1)) - am_uI w h s t' ∧ ∀ u, t' ≤ u → u < 8 * i + (b + 1) → am_stp w h L H (u % 8) (am_rn w h L H s (8 * i + (b + 1))) = am_rn w h L H s (8 * i + (b + 1))) → am_U x m_Ft_sweep Po τ1 98 [some (Zr 35), some (Zi (n : Int)), some (Zi (am_use w h s)), some (Zi (am_mf w h (am_rn w h L H s (8 * i + (b + 1))) L H)), none, some (Zi (i : Int)), some (Zi (b : Int)), none] [Zi st1] := fun st1 p0 p1 ⟨t', w1, w2, w3⟩ => by
                  refine s_Ft_sweep_98 ⟨by omega, fun qn => s_Ft_sweep_110 (s_Ft_sweep_112 ?_), fun qn => s_Ft_sweep_110 (s_Ft_sweep_112 ?_)⟩
                  · have := ihe (b + 1) τ1 _ st1 (by omega) hf1 hX1' (by omega) p1 (fun _ => ⟨⟨t', w1, w2, w3⟩, Or.inr rfl⟩) (fun z => ⟨am_cover (w := w) (h := h) (s := s) (t := 8 * i + (b + 1)) (t' := t') (Q := fun b' => am_stp w h L H b' (am_rn w h L H s (8 * i + (b + 1))) = am_rn w h L H s (8 * i + (b + 1))) (by omega) w3 (fun b' _ hz => by unfold am_stp; rw [if_pos (by rw [am_rn_bsz]; exact hz)]), rfl⟩)
                    rw [show ((b + 1 : Nat) : Int) = (b : Int) + 1 by omega] at this
                    exact this
                  · have := ihe (b + 1) τ1 _ (am_use w h s) (by omega) hf1 hX1' (by omega) (Int.le_refl _) (fun z => absurd z (by omega)) (fun _ => ⟨fun b' hb' => by
                      unfold am_stp
                      split
                      · rfl
                      · exact am_fb_0 hO1 hL1 hb' qn, rfl⟩)
                    rw [show ((b + 1 : Nat) : Int) = (b : Int) + 1 by omega] at this
                    exact this
                refine ⟨by omega, by omega, fun qe => ?_, fun qe => ?_⟩
                · -- the block stands
                  have same : am_rn w h L H s (8 * i + (b + 1)) = am_rn w h L H s (8 * i + b) := by
                    rw [es]
                    show am_sv _ b (am_chs w h (am_rn w h L H s (8 * i + b)) L H b) = _
                    rw [← echs, qe]; exact am_sv_id
                  refine go (st + 1) (by omega) (by omega) ⟨t', by omega, by omega, fun u u1 u2 => ?_⟩
                  rw [same]
                  rcases Nat.lt_or_ge u (8 * i + b) with g | g
                  · exact t3 u u1 g
                  · rw [show u = 8 * i + b by omega, md, efb, ← es]; exact same
                · refine go 1 (by omega) (by omega) ⟨8 * i + b, by omega, by omega, fun u u1 u2 => ?_⟩
                  rw [show u = 8 * i + b by omega, md, es]
                  unfold am_stp
                  split
                  · rfl
                  · exact am_fb_fb hOt b8
          · obtain ⟨g1, g2⟩ := heq (by omega)
            have fin := settled τ (8 * i + b) (by omega) hf hXt g1
            rw [← g2] at fin
            refine s_Ft_sweep_31 ⟨by omega, fun z => absurd z (by omega), fun _ => ⟨by omega, by omega, fun _ => s_Ft_sweep_118 (s_Ft_sweep_16 ⟨by omega, by omega, fun _ => fin, fun _ => ⟨by omega, by omega, fun _ => fin, fun z => absurd (by omega) z⟩⟩), fun z => absurd (by omega) z⟩⟩
      refine s_Ft_sweep_16 ⟨by omega, by omega, fun q => absurd q (by omega), fun _ => ⟨by omega, by omega, fun q => absurd q (by omega), fun _ => inner 8 0 τ mis st (by omega) hf hXt s0 (by omega) (fun _ => ⟨hB, hm⟩) (fun z => absurd z (by omega))⟩⟩
  exact outer n 0 σ 0 0 (by omega) am_fx.rf hX (Int.le_refl 0) (by omega) ⟨0, Nat.le_refl 0, by show (0 : Int) = 0 - 0; omega, fun u u1 u2 => absurd u2 (by omega)⟩ (Or.inl rfl)
/-! the model's -/
theorem m_fitAll {n : Nat} (hM : am_RM w h s σ) (hO : am_OK w h s) (hn : n ≤ 10) (hL : am_LHb s L H) (hH : am_MH s L H σ)
    (kk : ∀ σ', am_fx [149, 164, 165] [] σ σ' → am_RM w h (am_rn w h L H s (8 * n)) σ' → Po none am_SH σ') : am_U x m_Mo_fitAll Po σ 0 [some (Zr 147), some (Zi (n : Int)), none, none, none] [] := by
  have hwh := am_wh hO
  have outer : ∀ (d k : Nat) (τ : am_St) (ch : Int), k + d = n → am_fx [149, 164, 165] [] σ τ → am_RM w h (am_rn w h L H s (8 * k)) τ → (ch = 0 ∨ ch = 1) → (ch = 0 → ∀ b, b < 8 → am_stp w h L H b (am_rn w h L H s (8 * k)) = am_rn w h L H s (8 * k)) → am_U x m_Mo_fitAll Po τ 4 [some (Zr 147), some (Zi (n : Int)), some (Zi ch), some (Zi (k : Int)), none] [] := by
    intro d
    induction d with
    | zero =>
      intro k τ ch hk hf hMt c01 hc
      refine s_Mo_fitAll_4 ⟨by omega, by omega, fun _ => s_Mo_fitAll_57 ?_, fun q => absurd (by omega) q⟩
      rw [show k = n by omega] at hMt
      exact kk τ hf hMt
    | succ d ih =>
      intro k τ ch hk hf hMt c01 hc
      refine s_Mo_fitAll_4 ⟨by omega, by omega, fun q => absurd q (by omega), fun _ => ⟨by omega, fun q => s_Mo_fitAll_57 ?_, fun q => ?_⟩⟩
      · have e := am_rn_fix (hc q) (8 * n - 8 * k)
        rw [show 8 * k + (8 * n - 8 * k) = 8 * n by omega] at e
        exact kk τ hf (by rw [e]; exact hMt)
      · have inner : ∀ (e b : Nat) (τ : am_St) (ch : Int), b + e = 8 → am_fx [149, 164, 165] [] σ τ → am_RM w h (am_rn w h L H s (8 * k + b)) τ → (ch = 0 ∨ ch = 1) → (ch = 0 → ∀ b', b' < b → am_stp w h L H b' (am_rn w h L H s (8 * k + b)) = am_rn w h L H s (8 * k + b)) → am_U x m_Mo_fitAll Po τ 18 [some (Zr 147), some (Zi (n : Int)), some (Zi ch), some (Zi (k : Int)), some (Zi (b : Int))] [] := by
          intro e
          induction e with
          | zero =>
            intro b τ ch hb hf hMt c01 hc
            rw [show 8 * k + b = 8 * (k + 1) by omega] at hMt hc
            refine s_Mo_fitAll_18 ⟨by omega, fun _ => ?_, fun q => absurd (by omega) q⟩
            have := ih (k + 1) τ ch (by omega) hf hMt c01 (fun z b' hb' => hc z b' (by omega))
            rw [show ((k + 1 : Nat) : Int) = (k : Int) + 1 by omega] at this
            exact this
          | succ e ihe =>
            intro b τ ch hb hf hMt c01 hc
            have b8 : b < 8 := by omega
            have hOt := am_rn_OK (L := L) (H := H) hO (8 * k + b)
            have hLt := am_rn_LH (w := w) (h := h) (t := 8 * k + b) hL
            have md : (8 * k + b) % 8 = b := by omega
            have es : am_rn w h L H s (8 * k + (b + 1)) = am_stp w h L H b (am_rn w h L H s (8 * k + b)) := by
              show am_stp w h L H ((8 * k + b) % 8) (am_rn w h L H s (8 * k + b)) = _
              rw [md]
            have sb := am_bsz_b (w := w) (h := h) (s := am_rn w h L H s (8 * k + b)) (b := b)
            have stay : ∀ τ' : am_St, am_fx [149, 164, 165] [] σ τ' → am_RM w h (am_rn w h L H s (8 * k + b)) τ' → am_stp w h L H b (am_rn w h L H s (8 * k + b)) = am_rn w h L H s (8 * k + b) → am_U x m_Mo_fitAll Po τ' 45 [some (Zr 147), some (Zi (n : Int)), some (Zi ch), some (Zi (k : Int)), some (Zi (b : Int))] [] := fun τ' a1 a2 eid => by
              have := ihe (b + 1) τ' ch (by omega) a1 (by rw [es, eid]; exact a2) c01 (fun z b' hb' => by
                rw [es, eid]
                rcases Nat.lt_or_ge b' b with g | g
                · exact hc z b' g
                · rw [show b' = b by omega]; exact eid)
              rw [show ((b + 1 : Nat) : Int) = (b : Int) + 1 by omega] at this
              exact s_Mo_fitAll_45 this
            refine s_Mo_fitAll_18 ⟨by omega, fun q => absurd q (by omega), fun _ => m_sizeOf hMt hOt (by omega) ⟨_, rfl, rfl, by omega, fun q => stay τ hf hMt ?_, fun q => ?_⟩⟩
            · unfold am_stp; rw [if_pos (by omega)]
            · have efb : am_stp w h L H b (am_rn w h L H s (8 * k + b)) = am_fb w h (am_rn w h L H s (8 * k + b)) L H b := by unfold am_stp; rw [if_neg (by omega)]
              refine m_fitBlock hMt hOt b8 hLt (fun p hp => by rw [am_rn_P] at hp; rw [hf.g 163 (by decide), hf.g 161 (by decide), hf.g 162 (by decide)]; exact hH p hp) (fun τ1 g1 hM1 => ⟨_, rfl, rfl, by split <;> decide, fun qz => ?_, fun qz => ?_⟩)
              · have eid : am_fb w h (am_rn w h L H s (8 * k + b)) L H b = am_rn w h L H s (8 * k + b) := by
                  show am_sv _ b (am_chs w h (am_rn w h L H s (8 * k + b)) L H b) = _
                  by_cases qc : am_chs w h (am_rn w h L H s (8 * k + b)) L H b = am_rn w h L H s (8 * k + b) 2 b
                  · rw [qc]; exact am_sv_id
                  · rw [if_neg qc] at qz; exact absurd qz (by decide)
                rw [eid] at hM1 efb
                exact stay τ1 (hf.tr g1 (by decide) (by decide)) hM1 efb
              · have := ihe (b + 1) τ1 1 (by omega) (hf.tr g1 (by decide) (by decide)) (by rw [es, efb]; exact hM1) (Or.inr rfl) (fun z => absurd z (by decide))
                rw [show ((b + 1 : Nat) : Int) = (b : Int) + 1 by omega] at this
                exact s_Mo_fitAll_45 this
        exact inner 8 0 τ 0 (by omega) hf hMt (Or.inl rfl) (fun _ b' hb' => absurd hb' (Nat.not_lt_zero b'))
  exact s_Mo_fitAll_0 (outer n 0 σ 1 (by omega) am_fx.rf hM (Or.inr rfl) (fun z => absurd z (by decide)))
end AMSW
