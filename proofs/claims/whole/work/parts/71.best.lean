/-! ===== best ===== -/
section AMBE
variable {x : am_Sc} {Po : Option am_AV → am_Sh → am_St → Prop} {σ : am_St} {w h w2 h2 : Nat} {s s2 : Nat → Nat → Int}
def am_S (s : Nat → Nat → Int) : Nat := (s 0 3).toNat
noncomputable def am_Nb (w h : Nat) (s : Nat → Nat → Int) (c j : Nat) : Nat → Int := am_ry w h s c (s 5 j).toNat
noncomputable def am_Vb (w h : Nat) (s : Nat → Nat → Int) (c n : Nat) : (Nat → Int) → Prop := am_Sp (am_Mq (am_km s (am_P s)) (am_Mx w h s) (am_Nb w h s c)) (am_km s (am_P s) + n)
theorem am_Vb_0 {c : Nat} : am_Vb w h s c 0 = am_Sp (am_Mx w h s) (am_km s (am_P s)) := funext (fun y => propext (by
  have e : ∀ a k, am_LC a (am_Mq (am_km s (am_P s)) (am_Mx w h s) (am_Nb w h s c)) (am_km s (am_P s)) k = am_LC a (am_Mx w h s) (am_km s (am_P s)) k := fun a k => am_LC_lo (fun i hi => by unfold am_Mq; rw [if_pos hi])
  constructor <;> rintro ⟨a, ha⟩ <;> refine ⟨a, fun k hk => ?_⟩
  · rw [← e a k]; exact ha k hk
  · have := ha k hk; rw [← e a k] at this; exact this))
theorem am_Vb_s {c n : Nat} : am_Vb w h s c (n + 1) = am_Ad (am_Vb w h s c n) (am_Nb w h s c n) := funext (fun y => propext (by
  have e : am_Mq (am_km s (am_P s)) (am_Mx w h s) (am_Nb w h s c) (am_km s (am_P s) + n) = am_Nb w h s c n := by unfold am_Mq; rw [if_neg (by omega), show am_km s (am_P s) + n - am_km s (am_P s) = n by omega]
  have := am_Sp_s (M := am_Mq (am_km s (am_P s)) (am_Mx w h s) (am_Nb w h s c)) (n := am_km s (am_P s) + n) (v := y)
  rw [e] at this; exact this))
theorem am_OKs (hO : am_OK w h s) {j : Nat} (hj : j < am_S s) : j < 5 ∧ s 5 j = ((s 5 j).toNat : Int) ∧ (s 5 j).toNat < w * h := by
  obtain ⟨-, -, -, -, bS⟩ := am_OKb hO
  have hj' : (j : Int) < s 0 3 := by unfold am_S at hj; omega
  have := hO.2.2.2.2.2.2.2.2.2.2.2.2.1 j hj'
  omega
noncomputable def am_rw (w h : Nat) (s : Nat → Nat → Int) (c : Nat) : Int := am_cnt (am_vb1 (am_Vb w h s c (am_S s))) 8
theorem am_rw_b {c : Nat} : 0 ≤ am_rw w h s c ∧ am_rw w h s c ≤ 8 := am_cnt_b
noncomputable def A_best (w h : Nat) (s : Nat → Nat → Int) (v : Int) : Int := if 0 ≤ v ∧ v ≤ 1 then (if s 0 3 = 0 then -4 else if v = 0 then ((am_ax (am_rw w h s) (w * h - 1)).2 : Int) else (am_ax (am_rw w h s) (w * h - 1)).1) else -3
theorem x_resolvedWith {c : Nat} (hX : am_RX w h s σ) (hO : am_OK w h s) (hc : c < w * h) (hI : am_BI 109 (am_Sp (am_Mx w h s) (am_km s (am_P s))) σ) (kk : ∀ σ', am_fx [5, 6, 7, 121, 122, 133] [(1, 8)] σ σ' → am_BI 109 (am_Sp (am_Mx w h s) (am_km s (am_P s))) σ' → Po (some (Zi (am_rw w h s c))) am_SH σ') : am_U x m_Re_resolvedWith Po σ 0 [some (Zr 108), some (Zi (c : Int)), none] [] := by
  obtain ⟨bP, -, -, -, bS⟩ := am_OKb hO
  refine s_Re_resolvedWith_0 (x_bcopy hI (fun σ1 f1 g1 hI1 => ⟨rfl, rfl, ?_⟩))
  have hX1 := hX.fx f1 (by decide)
  refine x_spreadL hX1 hO hc (Or.inl rfl) (fun σ2 f2 h5 h6 => ⟨rfl, rfl, ?_⟩)
  have hsh : am_SH[133]? = some (12, 8, []) := by decide +kernel
  have loop : ∀ (d j : Nat) (τ : am_St), j + d = am_S s → am_fx [5, 6, 7, 121, 122, 133] [(1, 8)] σ τ → (∀ k j, k < 124 → τ.2 k j = σ.2 k j) → (∀ b, b < w * h → τ.1 5 b = am_cost s 0 b) → (∀ b, b < w * h → τ.1 6 b = am_dst w h (am_cost s 0) c b) → am_BI 121 (am_Vb w h s c j) τ → am_U x m_Re_resolvedWith Po τ 22 [some (Zr 108), none, some (Zi (j : Int))] [] := by
    intro d
    induction d with
    | zero =>
      intro j τ hj hf hl t5 t6 hI2
      have hXt := hX.fx hf (by decide)
      have eS : τ.1 8 3 = (am_S s : Int) := by rw [hXt.1.as 8 3 3 (by decide)]; unfold am_S; omega
      refine s_Re_resolvedWith_22 ?_
      rw [eS]
      have sS : am_S s ≤ 5 := by unfold am_S; omega
      refine ⟨by omega, by omega, fun _ => x_bcount (Or.inr rfl) hI2 ⟨_, rfl, rfl, ?_⟩, fun q => absurd (by omega) q⟩
      rw [show j = am_S s by omega]
      exact kk τ hf (hI.k (hf.q 109 (by decide)) (fun i hi => hf.q 110 (by decide)) (fun c k hc hk => hl _ k (by omega)))
    | succ d ih =>
      intro j τ hj hf hl t5 t6 hI2
      have hXt := hX.fx hf (by decide)
      obtain ⟨j5, ej, lj⟩ := am_OKs hO (show j < am_S s by omega)
      have eS : τ.1 8 3 = (am_S s : Int) := by rw [hXt.1.as 8 3 3 (by decide)]; unfold am_S; omega
      have sS : am_S s ≤ 5 := by unfold am_S; omega
      refine s_Re_resolvedWith_22 ?_
      rw [eS, Int.toNat_natCast, hXt.1.at 11 5 5 (by decide) j5, ej]
      refine ⟨by omega, by omega, fun q => absurd q (by omega), fun _ => ⟨by omega, x_traceL hXt hO hc t5 t6 lj (fun τ1 a1 b8 b7 => ⟨rfl, rfl, ?_⟩)⟩⟩
      have hX1 := hXt.fx a1.1 (by decide)
      refine x_countRaysL hsh (by decide) hX1 hO hc lj b8 b7 (fun τ2 a2 hrow => ⟨rfl, rfl, ?_⟩)
      have f12 : am_fx [7, 133] [(1, 8)] τ τ2 := a1.1.tr a2.1 (by decide) (by decide)
      have l12 : τ2.2 = τ.2 := a2.2.trans a1.2
      have hI3 : am_BI 121 (am_Vb w h s c j) τ2 := hI2.k (f12.q 121 (by decide)) (fun i hi => f12.q 122 (by decide)) (fun c k hc hk => by rw [l12])
      refine x_badd (R := am_Nb w h s c j) (Or.inr rfl) hsh (fun k hk => ⟨hrow k hk, am_ry_b hO hc lj⟩) hI3 (fun τ3 a3 l3 hI4 => ⟨rfl, rfl, ?_⟩)
      have := ih (j + 1) τ3 (by omega) ((hf.tr f12 (ks2 := [5, 6, 7, 121, 122, 133]) (ps2 := [(1, 8)]) (by decide) (by decide)).tr a3 (by decide) (by decide)) (fun k j hk => by rw [l3 k j (by omega), l12]; exact hl k j hk) (fun b hb => by rw [a3.g 5 (by decide), f12.q 5 (by decide)]; exact t5 b hb) (fun b hb => by rw [a3.g 6 (by decide), f12.q 6 (by decide)]; exact t6 b hb) (by rw [am_Vb_s]; exact hI4)
      rw [show ((j + 1 : Nat) : Int) = (j : Int) + 1 by omega] at this
      exact this
  refine loop _ 0 σ2 (Nat.zero_add _) (f1.tr f2.1 (by decide) (by decide)) (fun k j hk => by rw [f2.2]; exact g1 k j hk) h5 h6 ?_
  rw [am_Vb_0]
  exact hI1.k (f2.g 121 (by decide)) (fun i hi => f2.g 122 (by decide)) (fun c k hc hk => by rw [f2.2])
theorem am_ax_s {C : Nat → Int} {n : Nat} (hn : 0 < n) : am_ax C n = if (am_ax C (n - 1)).1 < C n then (C n, n) else am_ax C (n - 1) := by
  obtain ⟨m, rfl⟩ : ∃ m, n = m + 1 := ⟨n - 1, by omega⟩
  rfl
theorem x_best {v : Int} (hX : am_RX w h s σ) (hM : am_RM w2 h2 s2 σ) (hO : am_OK w h s) (rv : am_r v) (kk : ∀ σ', am_RX w h s σ' → am_RM w2 h2 s2 σ' → Po (some (Zi (A_best w h s v))) am_SH σ') : am_U x m_Sp_best Po σ 0 [some (Zr 0), some (Zi v)] [] := by
  obtain ⟨bP, -, -, -, bS⟩ := am_OKb hO
  have hwh := am_wh hO
  have eS : σ.1 8 3 = s 0 3 := hX.1.as 8 3 3 (by decide)
  refine s_Sp_best_0 (c_isW rv (by decide) (by decide) (fun q => br1n ?_) (fun q => br0n (am_fX kk (by simp only [A_best]; rw [if_neg q]) rfl hX hM)))
  rw [eS]
  refine ⟨by omega, fun q2 => ?_, fun q2 => am_fX kk (by simp only [A_best]; rw [if_pos q, if_pos q2]) rfl hX hM⟩
  refine x_rays hX hO (fun σ1 f1 hR1 => ⟨rfl, rfl, x_takePicks hO hR1 (fun σ2 f2 hI => ⟨rfl, rfl, ?_⟩)⟩)
  have hX2 := (hX.fx f1 (by decide)).fx f2 (by decide)
  have hM2 := (hM.fx f1 (by decide)).fx f2 (by decide)
  refine s_Re_findBestEar_0 (fun σ3 f3 σ4 f4 => ?_)
  have f34 : am_fx [] [(108, 6), (108, 7)] σ2 σ4 := (am_fx.p1 f3).tr (am_fx.p1 f4) (by decide) (by decide)
  have hI4 : am_BI 109 (am_Sp (am_Mx w h s) (am_km s (am_P s))) σ4 := hI.k (f34.q 109 (by decide)) (fun i hi => f34.q 110 (by decide)) (fun c k hc hk => by rw [f4, f3])
  have loop : ∀ (d c : Nat) (τ : am_St) (bc : Nat) (br : Int), c + d = w * h → am_RX w h s τ → am_RM w2 h2 s2 τ → am_BI 109 (am_Sp (am_Mx w h s) (am_km s (am_P s))) τ → τ.1 108 6 = (bc : Int) → τ.1 108 7 = br → (c = 0 → br = -1) → (0 < c → am_ax (am_rw w h s) (c - 1) = (br, bc)) → am_U x m_Re_findBestEar (fun ro4 so4 σ4 => ro4 = none ∧ so4 = am_SH ∧ am_r v ∧ ((¬ v = 0 → am_U x m_Sp_best Po σ4 67 [none, none] [Zi (σ4.1 108 7)]) ∧ (v = 0 → am_U x m_Sp_best Po σ4 67 [none, none] [Zi (σ4.1 108 6)]))) τ 12 [some (Zr 108), some (Zi (c : Int)), none] [] := by
    intro d
    induction d with
    | zero =>
      intro c τ bc br hc hXt hMt hIt e6 e7 h0 h1
      refine s_Re_findBestEar_12 ?_
      rw [hXt.2.1]
      have ax := h1 (by omega)
      rw [show c - 1 = w * h - 1 by omega] at ax
      refine ⟨by omega, by omega, fun _ => ⟨rfl, rfl, rv, fun qv => s_Sp_best_67 ?_, fun qv => s_Sp_best_67 ?_⟩, fun q => absurd (by omega) q⟩
      · rw [e7]; exact am_fX kk (by simp only [A_best]; rw [if_pos q, if_neg q2, if_neg qv, ax]) rfl hXt hMt
      · rw [e6]; exact am_fX kk (by simp only [A_best]; rw [if_pos q, if_neg q2, if_pos qv, ax]) rfl hXt hMt
    | succ d ih =>
      intro c τ bc br hc hXt hMt hIt e6 e7 h0 h1
      have rb := am_rw_b (w := w) (h := h) (s := s) (c := c)
      have bb : -1 ≤ br ∧ br ≤ 8 := by
        rcases Nat.eq_zero_or_pos c with g | g
        · have := h0 g; omega
        · have a := (am_ax_is (C := am_rw w h s) (c - 1)).1
          rw [h1 g] at a
          have := am_rw_b (w := w) (h := h) (s := s) (c := bc)
          have a' : am_rw w h s bc = br := a
          omega
      refine s_Re_findBestEar_12 ?_
      rw [hXt.2.1]
      refine ⟨by omega, by omega, fun q => absurd q (by omega), fun _ => x_resolvedWith hXt hO (by omega) hIt (fun τ1 g1 hI1 => ⟨_, rfl, rfl, by omega, ?_⟩)⟩
      have hX1 := hXt.fx g1 (by decide)
      have hM1 := hMt.fx g1 (by decide)
      have e71 : τ1.1 108 7 = br := by rw [g1.q 108 (by decide)]; exact e7
      have e61 : τ1.1 108 6 = (bc : Int) := by rw [g1.q 108 (by decide)]; exact e6
      rw [e71]
      refine ⟨by omega, fun q3 => s_Re_findBestEar_47 ?_, fun q3 τ2 g2 τ3 g3 => s_Re_findBestEar_47 ?_⟩
      · have := ih (c + 1) τ1 bc br (by omega) hX1 hM1 hI1 e61 e71 (fun z => absurd z (by omega)) (fun _ => by
          rcases Nat.eq_zero_or_pos c with g | g
          · have := h0 g; omega
          · rw [show c + 1 - 1 = c by omega, am_ax_s g, h1 g, if_neg (by show ¬ br < am_rw w h s c; omega)])
        rw [show ((c + 1 : Nat) : Int) = (c : Int) + 1 by omega] at this
        exact this
      · have g23 : am_fx [] [(108, 6), (108, 7)] τ1 τ3 := (am_fx.p1 g2).tr (am_fx.p1 g3) (by decide) (by decide)
        have := ih (c + 1) τ3 c (am_rw w h s c) (by omega) (hX1.fx g23 (by decide)) (hM1.fx g23 (by decide)) (hI1.k (g23.q 109 (by decide)) (fun i hi => g23.q 110 (by decide)) (fun c k hc hk => by rw [g3, g2])) (am_stE g3) (by rw [am_stN g3 (by decide)]; exact am_stE g2) (fun z => absurd z (by omega)) (fun _ => by
          rcases Nat.eq_zero_or_pos c with g | g
          · rw [g]; rfl
          · rw [show c + 1 - 1 = c by omega, am_ax_s g, h1 g, if_pos (by show br < am_rw w h s c; omega)])
        rw [show ((c + 1 : Nat) : Int) = (c : Int) + 1 by omega] at this
        exact this
  exact loop _ 0 σ4 0 (-1) (Nat.zero_add _) (hX2.fx f34 (by decide)) (hM2.fx f34 (by decide)) hI4 (by rw [am_stN f4 (by decide)]; exact am_stE f3) (am_stE f4) (fun _ => rfl) (fun z => absurd z (Nat.lt_irrefl 0))
/-! the model's -/
theorem am_ry_none (hO : am_OK w h s) {f a b : Nat} (hf : f < w * h) (ha : a < w * h) (hb : am_bsz w h s b = 0) : am_ry w h s f a b = 0 := by
  obtain ⟨n1, n2, n3, n4⟩ := am_wn_of (k := 0) hO hf ha
  have hz : ∀ c, c < w * h → ¬ s 1 c = (b : Int) := fun c hc z => by
    have := am_cnt0.mp hb c hc
    unfold am_inB at this
    exact of_decide_eq_false this z
  unfold am_ry
  have : ∀ n, n ≤ am_wn w h (am_cost s 0) f a → am_sum (am_rf w h s f a b) n = 0 := fun n => by
    induction n with
    | zero => intro _; rfl
    | succ n ih =>
      intro hn
      show am_sum (am_rf w h s f a b) n + am_rf w h s f a b n = 0
      rw [ih (by omega)]
      unfold am_rf am_ind
      rw [if_neg (hz _ (n4 n (by omega))), if_neg (hz _ (n4 (n + 1) (by omega)))]; rfl
  exact this _ (Nat.le_refl _)
theorem am_Vb_none (hO : am_OK w h s) {c b : Nat} (hc : c < w * h) (hb8 : b < 8) (hb : am_bsz w h s b = 0) : ¬ am_Vb w h s c (am_S s) (am_un b) := by
  rintro ⟨a, ha⟩
  have h1 : am_q (am_LC a (am_Mq (am_km s (am_P s)) (am_Mx w h s) (am_Nb w h s c)) (am_km s (am_P s) + am_S s) b) 0 := am_LC_z (fun i hi => Or.inr (am_q.eq (by
    unfold am_Mq
    by_cases q : i < am_km s (am_P s)
    · rw [if_pos q]
      obtain ⟨-, -, -, -, ⟨-, e⟩, ⟨-, f⟩, -⟩ := am_OKp hO ((am_ke_is (s := s) (am_P s)).1 i q).1
      exact am_ry_none hO e f hb
    · rw [if_neg q]
      exact am_ry_none hO hc (am_OKs hO (show i - am_km s (am_P s) < am_S s by omega)).2.2 hb)))
  have h2 := (ha b hb8).sy.tr h1
  unfold am_un at h2
  rw [if_pos rfl] at h2
  exact am_nq (by decide) (by decide) (by decide) h2
theorem m_resolvedWith {c : Nat} (hM : am_RM w h s σ) (hO : am_OK w h s) (hc : c < w * h) (hY : am_MY w h s (am_P s) σ) (kk : ∀ σ', am_fx [164, 166, 170, 179] [(147, 48)] σ σ' → am_MY w h s (am_P s) σ' → Po (some (Zi (am_rw w h s c))) am_SH σ') : am_U x m_Mo_resolvedWith Po σ 0 [some (Zr 147), some (Zi (c : Int)), none, none] [] := by
  obtain ⟨bP, -, -, -, bS⟩ := am_OKb hO
  have hwh := am_wh hO
  have sS : am_S s ≤ 5 := by unfold am_S; omega
  have lP : am_P s ≤ 12 := by unfold am_P; omega
  -- the rows are laid
  have after : ∀ (τ : am_St), am_fx [164, 166, 170, 179] [(147, 48)] σ τ → (∀ j, τ.1 166 j = σ.1 166 j) → (∀ j k, j < am_S s → k < 8 → τ.1 179 (8 * j + k) = am_Nb w h s c j k) → τ.1 147 48 = (am_S s : Int) → am_U x m_Mo_resolvedWith Po τ 119 [some (Zr 147), none, some (Zi 0), some (Zi 0)] [] := by
    intro τ0 hf0 h166 h179 h48
    have loop : ∀ (d b : Nat) (τ : am_St), b + d = 8 → τ.1 = τ0.1 → am_U x m_Mo_resolvedWith Po τ 119 [some (Zr 147), none, some (Zi (am_cnt (am_vb1 (am_Vb w h s c (am_S s))) b)), some (Zi (b : Int))] [] := by
      intro d
      induction d with
      | zero =>
        intro b τ hb e1
        refine s_Mo_resolvedWith_119 ⟨by omega, fun _ τ1 f1 => ?_, fun q => absurd (by omega) q⟩
        rw [show b = 8 by omega]
        have f0 : am_fx [] [] τ0 τ := fun k j _ _ => by rw [e1]
        refine kk τ1 ((hf0.tr f0 (ks2 := [164, 166, 170, 179]) (ps2 := [(147, 48)]) (by decide) (by decide)).tr (am_fx.p1 f1) (by decide) (by decide)) (fun p b hp hb h0 => ?_)
        rw [am_stO f1 (by decide), e1, h166]; exact hY p b hp hb h0
      | succ d ih =>
        intro b τ hb e1
        have f0 : am_fx [] [] τ0 τ := fun k j _ _ => by rw [e1]
        have hMt := (hM.fx hf0 (by decide)).fx f0 (by decide)
        have sb := am_bsz_b (w := w) (h := h) (s := s) (b := b)
        have nx := fun τ' e' => ih (b + 1) τ' (by omega) e'
        have ec : am_cnt (am_vb1 (am_Vb w h s c (am_S s))) (b + 1) = am_cnt (am_vb1 (am_Vb w h s c (am_S s))) b + if am_vb1 (am_Vb w h s c (am_S s)) b then 1 else 0 := rfl
        rw [show ((b + 1 : Nat) : Int) = (b : Int) + 1 by omega, ec] at nx
        have no : ¬ am_Vb w h s c (am_S s) (am_un b) → am_vb1 (am_Vb w h s c (am_S s)) b = false := fun z => by
          cases hq : am_vb1 (am_Vb w h s c (am_S s)) b
          · rfl
          · exact absurd (am_vb1_t.mp hq) z
        refine s_Mo_resolvedWith_119 ⟨by omega, fun q => absurd q (by omega), fun _ => m_sizeOf hMt hO (by omega) ⟨_, rfl, rfl, by omega, fun q => s_Mo_resolvedWith_146 (s_Mo_resolvedWith_147 ?_), fun q => ?_⟩⟩
        · have := nx τ e1
          rw [no (am_Vb_none hO hc (by omega) (by omega))] at this
          exact this
        · refine m_isRes (m := am_S s) (N := am_Nb w h s c) hMt hO (fun p b hp hb h0 => by rw [e1, h166]; exact hY p b hp hb h0) (by omega) sS (by rw [e1]; exact h48) (fun j k hj hk => by rw [e1]; exact h179 j k hj hk) (fun j hj k hk => am_ry_b hO hc (am_OKs hO hj).2.2) (fun q4 τ1 g1 => br1e (s_Mo_resolvedWith_147 ?_)) (fun q4 τ1 g1 => br0e (s_Mo_resolvedWith_146 (s_Mo_resolvedWith_147 ?_)))
          · have := nx τ1 (by rw [g1, e1])
            rw [show am_vb1 (am_Vb w h s c (am_S s)) b = true from am_vb1_t.mpr q4] at this
            exact this
          · have := nx τ1 (by rw [g1, e1])
            rw [no q4] at this
            exact this
    exact loop 8 0 τ0 (by omega) rfl
  have shakes : ∀ (d j : Nat) (τ : am_St), j + d = am_S s → am_fx [164, 166, 170, 179] [(147, 48)] σ τ → (∀ y, y < 96 → τ.1 166 y = σ.1 166 y) → (∀ y, 96 ≤ y → τ.1 166 y = σ.1 166 y) → (∀ j' k, j' < j → k < 8 → τ.1 179 (8 * j' + k) = am_Nb w h s c j' k) → am_U x m_Mo_resolvedWith Po τ 2 [some (Zr 147), some (Zi (c : Int)), some (Zi (j : Int)), none] [] := by
    intro d
    induction d with
    | zero =>
      intro j τ hj hf h166 h166b h179
      have hMt := hM.fx hf (by decide)
      have eS : τ.1 147 8 = (am_S s : Int) := by rw [hMt.1.as 147 8 3 (by decide)]; unfold am_S; omega
      refine s_Mo_resolvedWith_2 ?_
      rw [eS]
      refine ⟨by omega, by omega, fun _ τ1 f1 => ?_, fun q => absurd (by omega) q⟩
      refine after τ1 (hf.tr (am_fx.p1 f1) (by decide) (by decide)) (fun y => ?_) (fun j' k hj' hk => ?_) (am_stE f1)
      · rw [am_stO f1 (by decide)]
        rcases Nat.lt_or_ge y 96 with g | g
        · exact h166 y g
        · exact h166b y g
      · rw [am_stO f1 (by decide)]; exact h179 j' k (by omega) hk
    | succ d ih =>
      intro j τ hj hf h166 h166b h179
      have hMt := hM.fx hf (by decide)
      obtain ⟨j5, ej, lj⟩ := am_OKs hO (show j < am_S s by omega)
      have eS : τ.1 147 8 = (am_S s : Int) := by rw [hMt.1.as 147 8 3 (by decide)]; unfold am_S; omega
      -- bring back and keep
      have back : ∀ (e k : Nat) (τ' : am_St), k + e = 8 → am_fx [164, 166, 170, 179] [(147, 48)] σ τ' → (∀ y, y < 88 → τ'.1 166 y = σ.1 166 y) → (∀ y, 96 ≤ y → τ'.1 166 y = σ.1 166 y) → (∀ k', k' < 8 → τ'.1 170 k' = σ.1 166 (88 + k')) → (∀ k', k' < k → τ'.1 166 (88 + k') = σ.1 166 (88 + k')) → (∀ k', k ≤ k' → k' < 8 → τ'.1 166 (88 + k') = am_Nb w h s c j k') → (∀ j' k, j' < j → k < 8 → τ'.1 179 (8 * j' + k) = am_Nb w h s c j' k) → (∀ k', k' < k → τ'.1 179 (8 * j + k') = am_Nb w h s c j k') → am_U x m_Mo_resolvedWith Po τ' 54 [some (Zr 147), some (Zi (c : Int)), some (Zi (j : Int)), some (Zi (k : Int))] [] := by
        intro e
        induction e with
        | zero =>
          intro k τ' hk a1 a2 a2b a3 a4 a5 a6 a7
          refine s_Mo_resolvedWith_54 ⟨by omega, fun _ => ?_, fun q => absurd (by omega) q⟩
          have := ih (j + 1) τ' (by omega) a1 (fun y hy => by
            rcases Nat.lt_or_ge y 88 with g | g
            · exact a2 y g
            · have := a4 (y - 88) (by omega)
              rw [show 88 + (y - 88) = y by omega] at this; exact this) a2b (fun j' k' hj' hk' => by
            rcases Nat.lt_or_ge j' j with g | g
            · exact a6 j' k' g hk'
            · rw [show j' = j by omega]; exact a7 k' (by omega))
          rw [show ((j + 1 : Nat) : Int) = (j : Int) + 1 by omega] at this
          exact this
        | succ e ihe =>
          intro k τ' hk a1 a2 a2b a3 a4 a5 a6 a7
          refine s_Mo_resolvedWith_54 ⟨by omega, fun q => absurd q (by omega), fun _ => ⟨by omega, by omega, fun τ1 f1 => ⟨by omega, fun τ2 f2 => ?_⟩⟩⟩
          rw [show (88 + (k : Int)).toNat = 88 + k by omega, show (8 * (j : Int) + (k : Int)).toNat = 8 * j + k by omega, a5 k (Nat.le_refl k) (by omega)] at f1
          rw [show (88 + (k : Int)).toNat = 88 + k by omega, Int.toNat_natCast, am_stO f1 (by decide), a3 k (by omega)] at f2
          have g6 : ∀ y, τ2.1 166 y = if y = 88 + k then σ.1 166 (88 + k) else τ'.1 166 y := fun y => by rw [am_stR f2, am_stO f1 (by decide)]
          have g9 : ∀ y, τ2.1 179 y = if y = 8 * j + k then am_Nb w h s c j k else τ'.1 179 y := fun y => by rw [am_stO f2 (by decide), am_stR f1]
          have := ihe (k + 1) τ2 (by omega) ((a1.tr (am_fx.o1 f1) (ks2 := [164, 166, 170, 179]) (ps2 := [(147, 48)]) (by decide) (by decide)).tr (am_fx.o1 f2) (by decide) (by decide)) (fun y hy => by rw [g6, if_neg (by omega)]; exact a2 y hy) (fun y hy => by rw [g6, if_neg (by omega)]; exact a2b y hy) (fun k' hk' => by rw [am_stO f2 (by decide), am_stO f1 (by decide)]; exact a3 k' hk') (fun k' hk' => by
            rw [g6]
            by_cases e' : k' = k
            · rw [e', if_pos rfl]
            · rw [if_neg (by omega)]; exact a4 k' (by omega)) (fun k' h1 h2 => by rw [g6, if_neg (by omega)]; exact a5 k' (by omega) h2) (fun j' k' h1 h2 => by rw [g9, if_neg (by omega)]; exact a6 j' k' h1 h2) (fun k' hk' => by
            rw [g9]
            by_cases e' : k' = k
            · rw [e', if_pos rfl]
            · rw [if_neg (by omega)]; exact a7 k' (by omega))
          rw [show ((k + 1 : Nat) : Int) = (k : Int) + 1 by omega] at this
          exact this
      have keep : ∀ (e k : Nat) (τ' : am_St), k + e = 8 → am_fx [164, 166, 170, 179] [(147, 48)] σ τ' → (∀ y, τ'.1 166 y = σ.1 166 y) → (∀ k', k' < k → τ'.1 170 k' = σ.1 166 (88 + k')) → (∀ j' k, j' < j → k < 8 → τ'.1 179 (8 * j' + k) = am_Nb w h s c j' k) → am_U x m_Mo_resolvedWith Po τ' 12 [some (Zr 147), some (Zi (c : Int)), some (Zi (j : Int)), some (Zi (k : Int))] [] := by
        intro e
        induction e with
        | zero =>
          intro k τ' hk a1 a2 a3 a6
          have hMt := hM.fx a1 (by decide)
          refine s_Mo_resolvedWith_12 ?_
          rw [Int.toNat_natCast, hMt.1.at 152 5 5 (by decide) j5, ej]
          refine ⟨by omega, fun _ => ⟨by omega, m_layRays (r := 11) hMt hO hc lj (by decide) (fun τ1 f1 r1 r2 => ⟨rfl, rfl, ?_⟩)⟩, fun q => absurd (by omega) q⟩
          exact back 8 0 τ1 (by omega) (a1.tr f1 (by decide) (by decide)) (fun y hy => by rw [r2 y (by omega)]; exact a2 y) (fun y hy => by rw [r2 y (by omega)]; exact a2 y) (fun k' hk' => by rw [f1.g 170 (by decide)]; exact a3 k' (by omega)) (fun k' hk' => absurd hk' (Nat.not_lt_zero k')) (fun k' _ hk' => r1 k' hk') (fun j' k' h1 h2 => by rw [f1.g 179 (by decide)]; exact a6 j' k' h1 h2) (fun k' hk' => absurd hk' (Nat.not_lt_zero k'))
        | succ e ihe =>
          intro k τ' hk a1 a2 a3 a6
          refine s_Mo_resolvedWith_12 ⟨by omega, fun q => absurd q (by omega), fun _ => ⟨by omega, by omega, fun τ1 f1 => ?_⟩⟩
          rw [show (88 + (k : Int)).toNat = 88 + k by omega, Int.toNat_natCast, a2] at f1
          have := ihe (k + 1) τ1 (by omega) (a1.tr (am_fx.o1 f1) (by decide) (by decide)) (fun y => by rw [am_stO f1 (by decide)]; exact a2 y) (fun k' hk' => by
            rw [am_stR f1]
            by_cases e' : k' = k
            · rw [e', if_pos rfl]
            · rw [if_neg (by omega)]; exact a3 k' (by omega)) (fun j' k' h1 h2 => by rw [am_stO f1 (by decide)]; exact a6 j' k' h1 h2)
          rw [show ((k + 1 : Nat) : Int) = (k : Int) + 1 by omega] at this
          exact this
      refine s_Mo_resolvedWith_2 ?_
      rw [eS]
      refine ⟨by omega, by omega, fun q => absurd q (by omega), fun _ => keep 8 0 τ (by omega) hf (fun y => ?_) (fun k' hk' => absurd hk' (Nat.not_lt_zero k')) h179⟩
      rcases Nat.lt_or_ge y 96 with g | g
      · exact h166 y g
      · exact h166b y g
  exact s_Mo_resolvedWith_0 (shakes _ 0 σ (Nat.zero_add _) am_fx.rf (fun _ _ => rfl) (fun _ _ => rfl) (fun j' k hj' => absurd hj' (Nat.not_lt_zero j')))
theorem m_best {v : Int} (hM : am_RM w h s σ) (hX : am_RX w2 h2 s2 σ) (hO : am_OK w h s) (rv : am_r v) (kk : ∀ σ', am_RM w h s σ' → am_RX w2 h2 s2 σ' → Po (some (Zi (A_best w h s v))) am_SH σ') : am_U x m_Mo_best Po σ 0 [some (Zr 147), some (Zi v), none, none, none, none] [] := by
  obtain ⟨bP, -, -, -, bS⟩ := am_OKb hO
  have hwh := am_wh hO
  have eS : σ.1 147 8 = s 0 3 := hM.1.as 147 8 3 (by decide)
  refine s_Mo_best_0 (c_in rv (by decide) (by decide) (fun q => br1n ?_) (fun q => br0n (am_fM kk (by simp only [A_best]; rw [if_neg q]) rfl hM hX)))
  rw [eS]
  refine ⟨by omega, fun q2 => ?_, fun q2 => am_fM kk (by simp only [A_best]; rw [if_pos q, if_pos q2]) rfl hM hX⟩
  refine m_findRays hM hO (fun σ1 f1 hL hY => ⟨rfl, rfl, ?_⟩)
  have loop : ∀ (d c : Nat) (τ : am_St) (bc br : Int), c + d = w * h → am_RM w h s τ → am_RX w2 h2 s2 τ → am_MY w h s (am_P s) τ → (c = 0 → br = -1) → (0 < c → (((am_ax (am_rw w h s) (c - 1)).2 : Nat) : Int) = bc ∧ (am_ax (am_rw w h s) (c - 1)).1 = br) → am_U x m_Mo_best Po τ 33 [some (Zr 147), some (Zi v), some (Zi bc), some (Zi br), some (Zi (c : Int)), none] [] := by
    intro d
    induction d with
    | zero =>
      intro c τ bc br hc hMt hXt hYt h0 h1
      have ax := h1 (by omega)
      rw [show c - 1 = w * h - 1 by omega] at ax
      refine s_Mo_best_33 (m_cells hMt ⟨_, rfl, rfl, by omega, by omega, fun _ => ⟨rv, fun qv => s_Mo_best_91 ?_, fun qv => s_Mo_best_91 ?_⟩, fun q => absurd (by omega) q⟩)
      · exact am_fM kk (by simp only [A_best]; rw [if_pos q, if_neg q2, if_neg qv]; exact ax.2) rfl hMt hXt
      · exact am_fM kk (by simp only [A_best]; rw [if_pos q, if_neg q2, if_pos qv]; exact ax.1) rfl hMt hXt
    | succ d ih =>
      intro c τ bc br hc hMt hXt hYt h0 h1
      have rb := am_rw_b (w := w) (h := h) (s := s) (c := c)
      have bb : -1 ≤ br ∧ br ≤ 8 := by
        rcases Nat.eq_zero_or_pos c with g | g
        · have := h0 g; omega
        · have a := (am_ax_is (C := am_rw w h s) (c - 1)).1
          have := am_rw_b (w := w) (h := h) (s := s) (c := (am_ax (am_rw w h s) (c - 1)).2)
          rw [(h1 g).2] at a
          omega
      refine s_Mo_best_33 (m_cells hMt ⟨_, rfl, rfl, by omega, by omega, fun q => absurd q (by omega), fun _ => m_resolvedWith hMt hO (by omega) hYt (fun τ1 g1 hY1 => ⟨_, rfl, rfl, by omega, by omega, fun q3 => s_Mo_best_62 ⟨by omega, by omega, fun _ => s_Mo_best_75 ?_, fun z => absurd q3 z⟩, fun q3 => s_Mo_best_62 ⟨by omega, by omega, fun z => absurd z q3, fun _ => s_Mo_best_75 ?_⟩⟩)⟩)
      · have := ih (c + 1) τ1 bc br (by omega) (hMt.fx g1 (by decide)) (hXt.fx g1 (by decide)) hY1 (fun z => absurd z (by omega)) (fun _ => by
          rcases Nat.eq_zero_or_pos c with g | g
          · have := h0 g; omega
          · rw [show c + 1 - 1 = c by omega, am_ax_s g, if_neg (by rw [(h1 g).2]; omega)]; exact h1 g)
        rw [show ((c + 1 : Nat) : Int) = (c : Int) + 1 by omega] at this
        exact this
      · have := ih (c + 1) τ1 (c : Int) (am_rw w h s c) (by omega) (hMt.fx g1 (by decide)) (hXt.fx g1 (by decide)) hY1 (fun z => absurd z (by omega)) (fun _ => by
          rcases Nat.eq_zero_or_pos c with g | g
          · rw [g]; exact ⟨rfl, rfl⟩
          · rw [show c + 1 - 1 = c by omega, am_ax_s g, if_pos (by rw [(h1 g).2]; omega)]; exact ⟨rfl, rfl⟩)
        rw [show ((c + 1 : Nat) : Int) = (c : Int) + 1 by omega] at this
        exact this
  exact loop _ 0 σ1 (-1) (-1) (Nat.zero_add _) (hM.fx f1 (by decide)) (hX.fx f1 (by decide)) hY (fun _ => rfl) (fun z => absurd z (Nat.lt_irrefl 0))
end AMBE
