/-! ===== heap, move, off of the model ===== -/
section AMN
variable {x : am_Sc} {Po : Option am_AV → am_Sh → am_St → Prop} {σ : am_St} {w h w2 h2 : Nat} {s s2 : Nat → Nat → Int}
def am_LH (s : Nat → Nat → Int) (σ : am_St) : Prop := ∀ p, p < am_P s → σ.1 161 p = am_lo s p ∧ σ.1 162 p = am_hi s p
theorem am_SP_LH (hO : am_OK w h s) (hS : am_SP s (s 0 1) (am_T s) σ) : am_LH s σ := fun p hp => (hS p hp).2 (am_lst_day hO hp)
theorem m_findHeap {sh c : Nat} (hM : am_RM w h s σ) (hO : am_OK w h s) (hsh : sh < 5) (hc : c < w * h) (hL : am_LH s σ)
    (kk : ∀ σ', am_fx [164, 165] [(147, 49), (147, 50)] σ σ' → σ'.1 147 49 = (am_ax (am_hC w h s sh c) 1000).1 → σ'.1 147 50 = ((am_ax (am_hC w h s sh c) 1000).2 : Int) → Po none am_SH σ') : am_U x m_Mo_findHeap Po σ 0 [some (Zr 147), some (Zi (sh : Int)), some (Zi (c : Int)), none, none, none, none] [] := by
  obtain ⟨bP, -⟩ := am_OKb hO
  have lP : am_P s ≤ 12 := by unfold am_P; omega
  have hwh := am_wh hO
  -- over the beginnings
  have begins : ∀ (d b : Nat) (τ : am_St), b + d = 1001 → am_fx [164, 165] [(147, 49), (147, 50)] σ τ → (∀ k c', k < 2 → c' < w * h → τ.1 165 (16 * k + c') = am_dst w h (am_cost s (k : Int)) c c') → (b = 0 → τ.1 147 49 = -1) → (∀ b', b = b' + 1 → τ.1 147 49 = (am_ax (am_hC w h s sh c) b').1 ∧ τ.1 147 50 = ((am_ax (am_hC w h s sh c) b').2 : Int)) → am_U x m_Mo_findHeap Po τ 61 [some (Zr 147), some (Zi (sh : Int)), none, some (Zi (b : Int)), none, none, none] [] := by
    intro d
    induction d with
    | zero =>
      intro b τ hb hf h165 h0 h1
      obtain ⟨g1, g2⟩ := h1 1000 (by omega)
      exact s_Mo_findHeap_61 ⟨by omega, fun _ => kk τ hf g1 g2, fun q => absurd (by omega) q⟩
    | succ d ih =>
      intro b τ hb hf h165 h0 h1
      have hMt : am_RM w h s τ := hM.fx hf (by decide)
      have eP : τ.1 147 11 = (am_P s : Int) := by rw [hMt.1.as 147 11 4 (by decide)]; unfold am_P; omega
      have old : -1 ≤ τ.1 147 49 ∧ τ.1 147 49 ≤ 12 := by
        rcases Nat.eq_zero_or_pos b with g | g
        · have := h0 g; omega
        · obtain ⟨g1, -⟩ := h1 (b - 1) (by omega)
          have a := (am_ax_is (C := am_hC w h s sh c) (b - 1)).1
          have := am_hC_b hO (sh := sh) (c := c) (b := (am_ax (am_hC w h s sh c) (b - 1)).2)
          omega
      have picks : ∀ (e p : Nat), p + e = am_P s → am_U x m_Mo_findHeap Po τ 74 [some (Zr 147), some (Zi (sh : Int)), none, some (Zi (b : Int)), some (Zi (am_cF p (am_hQ s sh) (am_hF w h s c) (am_hG w h s c) (b : Int))), some (Zi (p : Int)), none] [] := by
        intro e
        induction e with
        | zero =>
          intro p hp
          have ep : p = am_P s := by omega
          have eC : am_cF p (am_hQ s sh) (am_hF w h s c) (am_hG w h s c) (b : Int) = am_hC w h s sh c b := by rw [ep]; rfl
          have cb := am_hC_b hO (sh := sh) (c := c) (b := b)
          refine s_Mo_findHeap_74 ?_
          rw [eP, eC]
          have fin : ∀ (u v : Int), (am_hC w h s sh c b ≤ τ.1 147 49 → u = τ.1 147 50 ∧ v = τ.1 147 49) → (¬ am_hC w h s sh c b ≤ τ.1 147 49 → u = (b : Int) ∧ v = am_hC w h s sh c b) → ∀ τ1 τ2 : am_St, τ1 = (am_up τ.1 147 50 u, τ.2) → τ2 = (am_up τ1.1 147 49 v, τ1.2) → am_U x m_Mo_findHeap Po τ2 61 [some (Zr 147), some (Zi (sh : Int)), none, some (Zi ((b + 1 : Nat) : Int)), none, none, none] [] := fun u v hu1 hu2 τ1 τ2 f1 f2 => by
            have e49 : τ2.1 147 49 = v := am_stE f2
            have e50 : τ2.1 147 50 = u := by rw [am_stN f2 (by decide)]; exact am_stE f1
            refine ih (b + 1) τ2 (by omega) ?_ (fun k c' hk hc' => ?_) (fun z => absurd z (by omega)) (fun b' hb' => ?_)
            · exact hf.tr (σ1 := τ) (am_fx.tr (σ1 := τ1) (ks2 := []) (ps2 := [(147, 49), (147, 50)]) (am_fx.p1 f1) (am_fx.p1 f2) (by decide) (by decide)) (by decide) (by decide)
            · rw [am_stO f2 (by decide), am_stO f1 (by decide)]; exact h165 k c' hk hc'
            · have eb : b' = b := by omega
              rw [eb, e49, e50]
              rcases Nat.eq_zero_or_pos b with g | g
              · have := h0 g
                have := hu2 (by omega)
                rw [g] at this ⊢
                exact ⟨this.2, this.1⟩
              · obtain ⟨g1, g2⟩ := h1 (b - 1) (by omega)
                have ax1 : am_ax (am_hC w h s sh c) (b - 1 + 1) = if (am_ax (am_hC w h s sh c) (b - 1)).1 < am_hC w h s sh c (b - 1 + 1) then (am_hC w h s sh c (b - 1 + 1), b - 1 + 1) else am_ax (am_hC w h s sh c) (b - 1) := rfl
                rw [show b - 1 + 1 = b by omega, ← g1] at ax1
                by_cases q : am_hC w h s sh c b ≤ τ.1 147 49
                · rw [ax1, if_neg (by omega)]
                  obtain ⟨k1, k2⟩ := hu1 q
                  exact ⟨by rw [k2]; exact g1, by rw [k1]; exact g2⟩
                · rw [ax1, if_pos (by omega)]
                  obtain ⟨k1, k2⟩ := hu2 q
                  exact ⟨k2, k1⟩
          refine ⟨by omega, by omega, fun _ => ⟨by omega, by omega, fun q => s_Mo_findHeap_184 (fun τ1 f1 => ?_), fun q => s_Mo_findHeap_184 (fun τ1 f1 => ?_)⟩, fun q => absurd (by omega) q⟩
          · have e49 : τ1.1 147 49 = τ.1 147 49 := am_stN f1 (by decide)
            rw [e49]
            exact ⟨by omega, by omega, fun _ => s_Mo_findHeap_206 (fun τ2 f2 => fin _ _ (fun _ => ⟨rfl, rfl⟩) (fun z => absurd q z) τ1 τ2 f1 f2), fun z => absurd q z⟩
          · have e49 : τ1.1 147 49 = τ.1 147 49 := am_stN f1 (by decide)
            rw [e49]
            exact ⟨by omega, by omega, fun z => absurd z q, fun _ => s_Mo_findHeap_206 (fun τ2 f2 => fin _ _ (fun z => absurd z q) (fun _ => ⟨rfl, rfl⟩) τ1 τ2 f1 f2)⟩
        | succ e ihe =>
          intro p hp
          have hpP : p < am_P s := by omega
          obtain ⟨a, b7, c8, d9, e1, f1, g, i1, -⟩ := am_OKp hO hpP
          have nx := ihe (p + 1) (by omega)
          have ec : am_cF (p + 1) (am_hQ s sh) (am_hF w h s c) (am_hG w h s c) (b : Int) = am_cF p (am_hQ s sh) (am_hF w h s c) (am_hG w h s c) (b : Int) + if (am_hQ s sh p && (decide (am_hF w h s c p ≤ (b : Int)) && decide ((b : Int) ≤ am_hG w h s c p))) then 1 else 0 := rfl
          rw [ec] at nx
          refine s_Mo_findHeap_74 ?_
          rw [eP, Int.toNat_natCast p, hMt.1.at 155 8 12 (by decide) a, hMt.1.at 154 7 12 (by decide) a, hMt.1.at 156 9 12 (by decide) a, hMt.1.at 150 3 6 (by decide) (show (s 7 p).toNat < 6 by omega), hMt.1.at 151 4 6 (by decide) (show (s 7 p).toNat < 6 by omega), e1.1]
          refine ⟨by omega, by omega, fun q => absurd q (by omega), fun _ => ⟨by omega, by omega, by omega, fun q => s_Mo_findHeap_160 ?_, fun q => ⟨by omega, by omega, ?_⟩⟩⟩
          · rw [show am_hQ s sh p = false by unfold am_hQ; exact decide_eq_false q, Bool.false_and] at nx
            rw [if_neg (by decide), Int.add_zero] at nx; exact nx
          · have e165 := h165 (s 9 p).toNat (am_eC s p) (by omega) e1.2
            rw [show (16 * s 9 p + (am_eC s p : Int)).toNat = 16 * (s 9 p).toNat + am_eC s p by omega, e165, show (((s 9 p).toNat : Nat) : Int) = s 9 p by omega]
            have eK : (b : Int) + am_dst w h (am_cost s (s 9 p)) c (am_eC s p) + s 4 (s 7 p).toNat = (b : Int) + am_hK w h s c p := by unfold am_hK am_clk; omega
            rw [eK]
            have bK := am_hK_b hO hc hpP
            have lh := am_lohi hO hpP
            have el : τ.1 161 p = am_lo s p := by rw [hf.q 161 (by decide)]; exact (hL p hpP).1
            have eh : τ.1 162 p = am_hi s p := by rw [hf.q 162 (by decide)]; exact (hL p hpP).2
            have ob := am_off_b (lo := am_lo s p) (hi := am_hi s p) (v := (b : Int) + am_hK w h s c p) (by omega) (by omega) (by omega)
            refine m_offOf a (by omega) el eh (by omega) (by omega) ⟨_, rfl, rfl, by omega, fun q2 => s_Mo_findHeap_157 (s_Mo_findHeap_160 ?_), fun q2 => s_Mo_findHeap_157 (s_Mo_findHeap_160 ?_)⟩
            · have no : ¬ (am_hF w h s c p ≤ (b : Int) ∧ (b : Int) ≤ am_hG w h s c p) := fun z => q2 (am_off0.mpr (by unfold am_hF am_hG at z; omega))
              rw [if_neg (fun z => no (by simpa using (Bool.and_eq_true_iff.mp z).2))] at nx; exact nx
            · have yes := am_off0.mp q2
              rw [if_pos (by rw [show am_hQ s sh p = true by unfold am_hQ; exact decide_eq_true q, decide_eq_true (show am_hF w h s c p ≤ (b : Int) by unfold am_hF; omega), decide_eq_true (show (b : Int) ≤ am_hG w h s c p by unfold am_hG; omega)]; rfl)] at nx
              exact nx
      exact s_Mo_findHeap_61 ⟨by omega, fun q => absurd q (by omega), fun _ => picks _ 0 (Nat.zero_add _)⟩
  have kinds : ∀ (d k : Nat) (τ : am_St), k + d = 2 → am_fx [164, 165] [(147, 49), (147, 50)] σ τ → τ.1 147 49 = -1 → (∀ k' c', k' < k → c' < w * h → τ.1 165 (16 * k' + c') = am_dst w h (am_cost s (k' : Int)) c c') → am_U x m_Mo_findHeap Po τ 7 [some (Zr 147), some (Zi (sh : Int)), some (Zi (c : Int)), some (Zi (k : Int)), none, none, none] [] := by
    intro d
    induction d with
    | zero =>
      intro k τ hk hf h49 h165
      exact s_Mo_findHeap_7 ⟨by omega, fun _ => begins 1001 0 τ (by omega) hf (fun k' c' hk' hc' => h165 k' c' (by omega) hc') (fun _ => h49) (fun b' hb' => absurd hb' (by omega)), fun q => absurd (by omega) q⟩
    | succ d ih =>
      intro k τ hk hf h49 h165
      have hMt : am_RM w h s τ := hM.fx hf (by decide)
      refine s_Mo_findHeap_7 ⟨by omega, fun q => absurd q (by omega), fun _ => m_findTimes hMt hO hc (by omega) (fun τ1 f1 h1 => ⟨rfl, rfl, ?_⟩)⟩
      have inner : ∀ (e c1 : Nat) (τ2 : am_St), c1 + e = 16 → am_fx [164, 165] [(147, 49), (147, 50)] σ τ2 → τ2.1 147 49 = -1 → (∀ k' c', k' < k → c' < w * h → τ2.1 165 (16 * k' + c') = am_dst w h (am_cost s (k' : Int)) c c') → (∀ b, b < w * h → τ2.1 164 b = am_dst w h (am_cost s (k : Int)) c b) → (∀ c', c' < c1 → τ2.1 165 (16 * k + c') = τ2.1 164 c') → am_U x m_Mo_findHeap Po τ2 21 [some (Zr 147), some (Zi (sh : Int)), some (Zi (c : Int)), some (Zi (k : Int)), some (Zi (c1 : Int)), none, none] [] := by
        intro e
        induction e with
        | zero =>
          intro c1 τ2 hc1 hf2 h492 h1652 h2 h3
          refine s_Mo_findHeap_21 ⟨by omega, fun _ => ih (k + 1) τ2 (by omega) hf2 h492 (fun k' c' hk' hc' => ?_), fun q => absurd (by omega) q⟩
          rcases Nat.lt_or_ge k' k with q | q
          · exact h1652 k' c' q hc'
          · rw [show k' = k by omega, h3 c' (by omega), h2 c' hc']
        | succ e ihe =>
          intro c1 τ2 hc1 hf2 h492 h1652 h2 h3
          refine s_Mo_findHeap_21 ⟨by omega, fun q => absurd q (by omega), fun _ => ⟨by omega, by omega, fun τ3 f3 => ?_⟩⟩
          rw [Int.toNat_natCast, show (16 * (k : Int) + (c1 : Int)).toNat = 16 * k + c1 by omega] at f3
          refine ihe (c1 + 1) τ3 (by omega) (hf2.tr (am_fx.o1 f3) (by decide) (by decide)) (by rw [am_stO f3 (by decide)]; exact h492) (fun k' c' hk' hc' => ?_) (fun b hb => by rw [am_stO f3 (by decide)]; exact h2 b hb) (fun c' hc' => ?_)
          · rw [am_stN f3 (by omega)]; exact h1652 k' c' hk' hc'
          · rw [am_stR f3, am_stO f3 (show 164 ≠ 165 by decide)]
            by_cases e9 : c' = c1
            · rw [if_pos (by omega), e9]
            · rw [if_neg (by omega)]; exact h3 c' (by omega)
      exact inner 16 0 τ1 (by omega) (hf.tr f1 (by decide) (by decide)) (by rw [f1.g 147 (by decide)]; exact h49) (fun k' c' hk' hc' => by rw [f1.g 165 (by decide)]; exact h165 k' c' hk' hc') h1 (fun c' hc' => absurd hc' (by omega))
  refine s_Mo_findHeap_0 (fun τ f => kinds 2 0 τ (by omega) ?_ (am_stE f) (fun k' c' hk' => absurd hk' (by omega)))
  exact am_fx.tr (am_fx.p1 f) (am_fx.rf (ks := []) (ps := [])) (by decide) (by decide)
theorem m_heap {sh c v : Int} (hM : am_RM w h s σ) (hX : am_RX w2 h2 s2 σ) (hO : am_OK w h s) (rs : am_r sh) (rc : am_r c) (rv : am_r v) (kk : ∀ σ', am_RM w h s σ' → am_RX w2 h2 s2 σ' → Po (some (Zi (A_heap w h s sh c v))) am_SH σ') : am_U x m_Mo_heap Po σ 0 [some (Zr 147), some (Zi sh), some (Zi c), some (Zi v)] [] := by
  obtain ⟨bP, bT, bD, bE, bS⟩ := am_OKb hO
  refine s_Mo_heap_0 (m_isShake hM bS rs (fun q => br1e (m_isCell hM (am_wh hO).2 rc (fun q2 => br1n (c_in rv (by decide) (by decide) (fun q3 => br1n ?_) (fun q3 => br0n (am_fM kk (by simp only [A_heap]; rw [if_pos ⟨q, q2⟩, if_neg q3]) rfl hM hX)))) (fun q2 => br0n (s_Mo_heap_16 (am_fM kk (by simp only [A_heap]; rw [if_neg (fun z => q2 z.2)]) rfl hM hX))))) (fun q => br0e (s_Mo_heap_16 (am_fM kk (by simp only [A_heap]; rw [if_neg (fun z => q z.1)]) rfl hM hX))))
  rw [hM.1.as 147 20 1 (by decide)]
  refine m_findSpans hM hO (by omega) (fun σ1 f1 hSP => ⟨rfl, rfl, ?_⟩)
  have hM1 := hM.fx f1 (by decide)
  have hX1 := hX.fx f1 (by decide)
  rw [show sh = ((sh.toNat : Nat) : Int) by omega, show c = ((c.toNat : Nat) : Int) by omega]
  refine m_findHeap hM1 hO (by omega) (by omega) (am_SP_LH hO hSP) (fun σ2 f2 e5 e6 => ⟨rfl, rfl, rv, fun qv => s_Mo_heap_60 ?_, fun qv => s_Mo_heap_60 ?_⟩)
  · rw [e6]; exact am_fM kk (by simp only [A_heap]; rw [if_pos ⟨q, q2⟩, if_pos q3, if_neg qv]) rfl (hM1.fx f2 (by decide)) (hX1.fx f2 (by decide))
  · rw [e5]; exact am_fM kk (by simp only [A_heap]; rw [if_pos ⟨q, q2⟩, if_pos q3, if_pos qv]) rfl (hM1.fx f2 (by decide)) (hX1.fx f2 (by decide))
theorem m_move {sh : Int} (hM : am_RM w h s σ) (hX : am_RX w2 h2 s2 σ) (hO : am_OK w h s) (rs : am_r sh) (kk : ∀ σ', am_RM w h (N_move w h s sh) σ' → am_RX w2 h2 s2 σ' → Po (some (Zi (A_move w h s sh))) am_SH σ') : am_U x m_Mo_move Po σ 0 [some (Zr 147), some (Zi sh), none, none, none, none, none] [] := by
  obtain ⟨bP, bT, bD, bE, bS⟩ := am_OKb hO
  have hwh := am_wh hO
  have lP : am_P s ≤ 12 := by unfold am_P; omega
  have eP : σ.1 147 11 = (am_P s : Int) := by rw [hM.1.as 147 11 4 (by decide)]; unfold am_P; omega
  refine s_Mo_move_0 (m_isShake hM bS rs (fun q => br1n ?_) (fun q => br0n (am_fM kk (by simp only [A_move]; rw [if_neg q]) (by simp only [N_move]; rw [if_neg (fun z => q z.1)]) hM hX)))
  obtain ⟨i, rfl⟩ : ∃ i : Nat, sh = (i : Int) := ⟨sh.toNat, by omega⟩
  -- the cells
  have cellsL : ¬ am_cnt (am_hQ s i) (am_P s) = 0 → ∀ (d c : Nat) (τ : am_St) (best size begun : Int), c + d = w * h → am_RM w h s τ → am_RX w2 h2 s2 τ → am_LH s τ → (c = 0 → size = -1) → (∀ c', c = c' + 1 → size = (am_ax (fun c => (am_ax (am_hC w h s i c) 1000).1) c').1 ∧ best = ((am_ax (fun c => (am_ax (am_hC w h s i c) 1000).1) c').2 : Int) ∧ begun = ((am_ax (am_hC w h s i (am_ax (fun c => (am_ax (am_hC w h s i c) 1000).1) c').2) 1000).2 : Int)) → am_U x m_Mo_move Po τ 75 [some (Zr 147), some (Zi (i : Int)), none, some (Zi best), some (Zi size), some (Zi begun), some (Zi (c : Int))] [] := by
    intro q2 d
    induction d with
    | zero =>
      intro c τ best size begun hc hM hX hL h0 h1
      obtain ⟨g0, g1, g2⟩ := h1 (w * h - 1) (by omega)
      refine s_Mo_move_75 (m_cells hM ⟨_, rfl, rfl, by omega, by omega, fun _ => ⟨by omega, fun τ1 f1 τ2 f2 => ?_⟩, fun q => absurd (by omega) q⟩)
      rw [Int.toNat_natCast] at f1 f2
      refine am_fM kk ?_ (n := am_up (am_up s 5 i best) 6 i begun) ?_ (by rw [f2, f1]; exact (hM.row (k := 152) (r := 5) (by decide)).row (by decide)) ((hX.fx (am_fx.o1 f1) (by decide)).fx (am_fx.o1 f2) (by decide))
      · simp only [A_move]; rw [if_pos q, Int.toNat_natCast, if_neg q2, g1]; rfl
      · simp only [N_move]; rw [Int.toNat_natCast, if_pos ⟨q, q2⟩, g1, g2]; rfl
    | succ d ih =>
      intro c τ best size begun hc hM hX hL h0 h1
      have hb := am_hm_b hO (sh := i) (c := c)
      have sb : -1 ≤ size ∧ size ≤ 12 := by
        rcases Nat.eq_zero_or_pos c with g | g
        · have := h0 g; omega
        · obtain ⟨g1, -⟩ := h1 (c - 1) (by omega)
          have a : (am_ax (am_hC w h s i (am_ax (fun c => (am_ax (am_hC w h s i c) 1000).1) (c - 1)).2) 1000).1 = (am_ax (fun c => (am_ax (am_hC w h s i c) 1000).1) (c - 1)).1 := (am_ax_is (C := fun c => (am_ax (am_hC w h s i c) 1000).1) (c - 1)).1
          have := am_hm_b hO (sh := i) (c := (am_ax (fun c => (am_ax (am_hC w h s i c) 1000).1) (c - 1)).2)
          omega
      refine s_Mo_move_75 (m_cells hM ⟨_, rfl, rfl, by omega, by omega, fun q => absurd q (by omega), fun _ => m_findHeap hM hO (by omega) (by omega) hL (fun σ1 f1 e5 e6 => ⟨rfl, rfl, ?_⟩)⟩)
      have hM1 := hM.fx f1 (by decide)
      have hX1 := hX.fx f1 (by decide)
      have hL1 : am_LH s σ1 := fun p hp => by rw [f1.q 161 (by decide), f1.q 162 (by decide)]; exact hL p hp
      have ax1 : 0 < c → am_ax (fun c => (am_ax (am_hC w h s i c) 1000).1) c = if (am_ax (fun c => (am_ax (am_hC w h s i c) 1000).1) (c - 1)).1 < (am_ax (am_hC w h s i c) 1000).1 then ((am_ax (am_hC w h s i c) 1000).1, c) else am_ax (fun c => (am_ax (am_hC w h s i c) 1000).1) (c - 1) := fun hc => by
        obtain ⟨c', rfl⟩ : ∃ c', c = c' + 1 := ⟨c - 1, by omega⟩
        rfl
      rw [e5]
      refine ⟨by omega, by omega, fun q3 => s_Mo_move_106 ?_, fun q3 => s_Mo_move_106 ?_⟩
      · rw [e5]
        refine ⟨by omega, by omega, fun _ => s_Mo_move_125 ?_, fun z => absurd q3 z⟩
        rw [e5]
        refine ⟨by omega, by omega, fun _ => s_Mo_move_145 (ih (c + 1) σ1 best size begun (by omega) hM1 hX1 hL1 (fun z => absurd z (by omega)) (fun c' hc' => ?_)), fun z => absurd q3 z⟩
        rw [show c' = c by omega]
        rcases Nat.eq_zero_or_pos c with g | g
        · have := h0 g; omega
        · obtain ⟨g0, g1, g2⟩ := h1 (c - 1) (by omega)
          rw [ax1 g, if_neg (by omega)]
          exact ⟨g0, g1, g2⟩
      · rw [e5, e6]
        refine ⟨by omega, by omega, fun z => absurd z q3, fun _ => s_Mo_move_125 ?_⟩
        rw [e5]
        refine ⟨by omega, by omega, fun z => absurd z q3, fun _ => s_Mo_move_145 (ih (c + 1) σ1 _ _ _ (by omega) hM1 hX1 hL1 (fun z => absurd z (by omega)) (fun c' hc' => ?_))⟩
        rw [show c' = c by omega]
        rcases Nat.eq_zero_or_pos c with g | g
        · rw [g]; exact ⟨rfl, rfl, rfl⟩
        · obtain ⟨g0, g1, g2⟩ := h1 (c - 1) (by omega)
          rw [ax1 g, if_pos (by omega)]
          exact ⟨rfl, rfl, rfl⟩
  have has : ∀ (d p : Nat) (z : Int), p + d = am_P s → (z = 0 ∨ z = 1) → (z = 0 ↔ am_cnt (am_hQ s i) p = 0) → am_U x m_Mo_move Po σ 15 [some (Zr 147), some (Zi (i : Int)), some (Zi z), some (Zi (p : Int)), none, none, none] [] := by
    intro d
    induction d with
    | zero =>
      intro p z hp hz hiff
      rw [show p = am_P s by omega] at hiff
      refine s_Mo_move_15 ?_
      rw [eP, hM.1.as 147 20 1 (by decide)]
      refine ⟨by omega, by omega, fun _ => ⟨by omega, fun qz => m_findSpans hM hO (by omega) (fun σ1 f1 hSP => ⟨rfl, rfl, ?_⟩), fun qz => am_fM kk ?_ ?_ hM hX⟩, fun q => absurd (by omega) q⟩
      · exact cellsL (fun e => qz (hiff.mpr e)) _ 0 σ1 (-1) (-1) 0 (Nat.zero_add _) (hM.fx f1 (by decide)) (hX.fx f1 (by decide)) (am_SP_LH hO hSP) (fun _ => rfl) (fun c' hc' => absurd hc' (by omega))
      · simp only [A_move]; rw [if_pos q, Int.toNat_natCast, if_pos (hiff.mp qz)]
      · simp only [N_move]; rw [Int.toNat_natCast, if_neg (fun y => y.2 (hiff.mp qz))]
    | succ d ih =>
      intro p z hp hz hiff
      obtain ⟨a, b7, c8, -⟩ := am_OKp hO (show p < am_P s by omega)
      have e : am_cnt (am_hQ s i) (p + 1) = am_cnt (am_hQ s i) p + if am_hQ s i p then 1 else 0 := rfl
      have cb := am_cnt_b (P := am_hQ s i) (n := p)
      refine s_Mo_move_15 ?_
      rw [eP, Int.toNat_natCast, hM.1.at 155 8 12 (by decide) a]
      refine ⟨by omega, by omega, fun q => absurd q (by omega), fun _ => ⟨by omega, fun qz => s_Mo_move_37 (s_Mo_move_42 (ih (p + 1) 1 (by omega) (Or.inr rfl) ⟨fun y => absurd y (by decide), fun y => ?_⟩)), fun qz => ⟨by omega, by omega, by omega, fun q2 => s_Mo_move_42 (ih (p + 1) 0 (by omega) (Or.inl rfl) ⟨fun _ => ?_, fun _ => rfl⟩), fun q2 => s_Mo_move_37 (s_Mo_move_42 (ih (p + 1) 1 (by omega) (Or.inr rfl) ⟨fun y => absurd y (by decide), fun y => ?_⟩))⟩⟩⟩
      · exfalso
        rw [e] at y
        apply qz
        apply hiff.mpr
        split at y <;> omega
      · rw [e, hiff.mp qz, if_neg (by unfold am_hQ; simpa using q2)]; rfl
      · exfalso
        rw [e, if_pos (by unfold am_hQ; simpa using q2)] at y
        omega
  exact has _ 0 0 (Nat.zero_add _) (Or.inl rfl) ⟨fun _ => rfl, fun _ => rfl⟩
theorem m_offE {e : Int} (hM : am_RM w h s σ) (hX : am_RX w2 h2 s2 σ) (hO : am_OK w h s) (re : am_r e) (kk : ∀ σ', am_RM w h s σ' → am_RX w2 h2 s2 σ' → Po (some (Zi (A_offE w h s e))) am_SH σ') : am_U x m_Mo_off Po σ 0 [some (Zr 147), some (Zi e), none, none, none, none, none, none] [] := by
  obtain ⟨bP, bT, bD, bE, bS⟩ := am_OKb hO
  have hwh := am_wh hO
  have lP : am_P s ≤ 12 := by unfold am_P; omega
  refine s_Mo_off_0 (m_isEar hM bE re (fun q => br1n ?_) (fun q => br0n (am_fM kk (by simp only [A_offE]; rw [if_neg q]) rfl hM hX)))
  obtain ⟨i, rfl⟩ : ∃ i : Nat, e = (i : Int) := ⟨e.toNat, by omega⟩
  rw [hM.1.as 147 20 1 (by decide)]
  refine m_findSpans hM hO (by omega) (fun σ1 f1 hSP => ⟨rfl, rfl, m_shakeTimes (hM.fx f1 (by decide)) hO (fun σ2 f2 hST => ⟨rfl, rfl, ?_⟩)⟩)
  have hM2 : am_RM w h s σ2 := (hM.fx f1 (by decide)).fx f2 (by decide)
  have hX2 : am_RX w2 h2 s2 σ2 := (hX.fx f1 (by decide)).fx f2 (by decide)
  have hL2 : am_LH s σ2 := fun p hp => by rw [f2.g 161 (by decide), f2.g 162 (by decide)]; exact am_SP_LH hO hSP p hp
  have eP : σ2.1 147 11 = (am_P s : Int) := by rw [hM2.1.as 147 11 4 (by decide)]; unfold am_P; omega
  generalize eC : (fun k => am_oC w h s i (am_seq k)) = C
  have cb : ∀ k, 0 ≤ C k ∧ C k ≤ 12 := fun k => by rw [← eC]; exact am_cF_b lP
  have axb : ∀ n, 0 ≤ (am_ax C n).1 ∧ (am_ax C n).1 ≤ 12 := fun n => by
    have := (am_ax_is (C := C) n).1
    have := cb (am_ax C n).2
    omega
  have seqB : ∀ k, k ≤ 198 → -99 ≤ am_seq k ∧ am_seq k ≤ 99 := fun k hk => by unfold am_seq; split <;> omega
  have loop : ∀ (d k : Nat) (best most : Int), k + d = 199 → (k = 0 → most = -1) → (∀ k', k = k' + 1 → most = (am_ax C k').1 ∧ best = am_seq (am_ax C k').2) → am_U x m_Mo_off Po σ2 30 [some (Zr 147), some (Zi (i : Int)), some (Zi best), some (Zi most), some (Zi (k : Int)), none, none, none] [] := by
    intro d
    induction d with
    | zero =>
      intro k best most hk h0 h1
      obtain ⟨g1, g2⟩ := h1 198 (by omega)
      refine s_Mo_off_30 ⟨by omega, fun _ => am_fM kk ?_ rfl hM2 hX2, fun q => absurd (by omega) q⟩
      simp only [A_offE]; rw [if_pos q, Int.toNat_natCast, eC, g2]
    | succ d ih =>
      intro k best most hk h0 h1
      have mb : -1 ≤ most ∧ most ≤ 12 := by
        rcases Nat.eq_zero_or_pos k with g | g
        · have := h0 g; omega
        · have g1 := (h1 (k - 1) (by omega)).1
          have := axb (k - 1)
          omega
      have sb := seqB k (by omega)
      have ck := cb k
      have picks : ∀ (e p : Nat), p + e = am_P s → am_U x m_Mo_off Po σ2 68 [some (Zr 147), some (Zi (i : Int)), some (Zi best), some (Zi most), some (Zi (k : Int)), some (Zi (am_seq k)), some (Zi (am_cF p (am_oQ s i) (fun p => am_lo s p - am_oK w h s p) (fun p => am_hi s p - am_oK w h s p) (am_seq k))), some (Zi (p : Int))] [] := by
        intro e
        induction e with
        | zero =>
          intro p hp
          have eK : am_cF p (am_oQ s i) (fun p => am_lo s p - am_oK w h s p) (fun p => am_hi s p - am_oK w h s p) (am_seq k) = C k := by rw [show p = am_P s by omega, ← eC]; rfl
          have ax1 : 0 < k → am_ax C k = if (am_ax C (k - 1)).1 < C k then (C k, k) else am_ax C (k - 1) := fun hk => by
            obtain ⟨k', rfl⟩ : ∃ k', k = k' + 1 := ⟨k - 1, by omega⟩
            rfl
          refine s_Mo_off_68 ?_
          rw [eP, eK]
          refine ⟨by omega, by omega, fun _ => ⟨by omega, by omega, fun q3 => s_Mo_off_141 ⟨by omega, by omega, fun _ => s_Mo_off_154 (ih (k + 1) best most (by omega) (fun z => absurd z (by omega)) (fun k' hk' => ?_)), fun z => absurd q3 z⟩, fun q3 => s_Mo_off_141 ⟨by omega, by omega, fun z => absurd z q3, fun _ => s_Mo_off_154 (ih (k + 1) _ _ (by omega) (fun z => absurd z (by omega)) (fun k' hk' => ?_))⟩⟩, fun q => absurd (by omega) q⟩
          · rw [show k' = k by omega]
            rcases Nat.eq_zero_or_pos k with g | g
            · have := h0 g; omega
            · obtain ⟨g1, g2⟩ := h1 (k - 1) (by omega)
              rw [ax1 g, if_neg (by omega)]; exact ⟨g1, g2⟩
          · rw [show k' = k by omega]
            rcases Nat.eq_zero_or_pos k with g | g
            · rw [g]; exact ⟨rfl, rfl⟩
            · obtain ⟨g1, g2⟩ := h1 (k - 1) (by omega)
              rw [ax1 g, if_pos (by omega)]; exact ⟨rfl, rfl⟩
        | succ e ihe =>
          intro p hp
          have hpP : p < am_P s := by omega
          obtain ⟨a, b7, c8, d9, e1, f1', g, i1, -⟩ := am_OKp hO hpP
          have nx := ihe (p + 1) (by omega)
          have ec : am_cF (p + 1) (am_oQ s i) (fun p => am_lo s p - am_oK w h s p) (fun p => am_hi s p - am_oK w h s p) (am_seq k) = am_cF p (am_oQ s i) (fun p => am_lo s p - am_oK w h s p) (fun p => am_hi s p - am_oK w h s p) (am_seq k) + if (am_oQ s i p && (decide (am_lo s p - am_oK w h s p ≤ am_seq k) && decide (am_seq k ≤ am_hi s p - am_oK w h s p))) then 1 else 0 := rfl
          rw [ec] at nx
          refine s_Mo_off_68 ?_
          rw [eP, Int.toNat_natCast p, hM2.1.at 154 7 12 (by decide) a]
          refine ⟨by omega, by omega, fun q => absurd q (by omega), fun _ => ⟨by omega, by omega, by omega, fun q3 => s_Mo_off_119 (s_Mo_off_120 ?_), fun q3 => m_foretold hM2 hO hpP hST ⟨_, rfl, rfl, ?_⟩⟩⟩
          · rw [show am_oQ s i p = false by unfold am_oQ; exact decide_eq_false q3, Bool.false_and, if_neg (by decide)] at nx; exact nx
          · have ecl : s 4 i = am_clk s p := by unfold am_clk; rw [q3, Int.toNat_natCast]
            rw [Int.toNat_natCast, hM2.1.at 151 4 6 (by decide) (show i < 6 by omega), ecl]
            have eK : am_ft w h s p - am_clk s p + am_seq k = am_oK w h s p + am_seq k := by unfold am_ft am_oK; omega
            rw [eK]
            have bK := am_oK_b hO hpP
            have lh := am_lohi hO hpP
            obtain ⟨el, eh⟩ := hL2 p hpP
            have ob := am_off_b (lo := am_lo s p) (hi := am_hi s p) (v := am_oK w h s p + am_seq k) (by omega) (by omega) (by omega)
            refine ⟨by omega, m_offOf a (by omega) el eh (by omega) (by omega) ⟨_, rfl, rfl, by omega, fun q4 => s_Mo_off_119 (s_Mo_off_120 ?_), fun q4 => s_Mo_off_120 ?_⟩⟩
            · have no : ¬ (am_lo s p - am_oK w h s p ≤ am_seq k ∧ am_seq k ≤ am_hi s p - am_oK w h s p) := fun z => q4 (am_off0.mpr (by omega))
              rw [if_neg (fun z => no (by simpa using (Bool.and_eq_true_iff.mp z).2))] at nx; exact nx
            · have yes := am_off0.mp q4
              rw [if_pos (by rw [show am_oQ s i p = true by unfold am_oQ; exact decide_eq_true q3, decide_eq_true (show am_lo s p - am_oK w h s p ≤ am_seq k by omega), decide_eq_true (show am_seq k ≤ am_hi s p - am_oK w h s p by omega)]; rfl)] at nx
              exact nx
      have go := picks _ 0 (Nat.zero_add _)
      have er : am_rem (k : Int) 2 = ((k % 2 : Nat) : Int) := by rw [am_rem_nn (by omega) (by decide) (by omega)]; rfl
      have ed : am_div (k : Int) 2 = ((k / 2 : Nat) : Int) := by rw [am_div_nn (by omega) (by decide) (by omega) (by decide)]; rfl
      refine s_Mo_off_30 ?_
      rw [er]
      refine ⟨by omega, fun q => absurd q (by omega), fun _ => ⟨by omega, fun q3 => s_Mo_off_60 ?_, fun q3 => s_Mo_off_60 ?_⟩⟩
      · rw [ed]
        rw [show am_seq k = ((k / 2 : Nat) : Int) by unfold am_seq; rw [if_neg (by omega)]] at go
        exact go
      · have en : am_div (-((k : Int) + 1)) 2 = am_seq k := by
          rw [am_div_t (by omega) (by decide) (by omega)]
          unfold am_seq
          rw [if_pos (by omega), Int.neg_tdiv, Int.tdiv_eq_ediv_of_nonneg (by omega)]
          omega
        rw [en]
        exact go
  exact loop _ 0 0 (-1) (Nat.zero_add _) (fun _ => rfl) (fun k' hk' => absurd hk' (by omega))
end AMN
