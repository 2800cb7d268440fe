/-! ===== rank, resolved, best ===== -/
section AMRK
variable {x : am_Sc} {Po : Option am_AV → am_Sh → am_St → Prop} {σ : am_St} {w h w2 h2 : Nat} {s s2 : Nat → Nat → Int}
theorem am_rank_b {V : (Nat → Int) → Prop} : 0 ≤ am_rank V ∧ am_rank V ≤ 8 := am_cnt_b
theorem am_Mx_p (hO : am_OK w h s) {i : Nat} (hi : i < am_km s (am_P s)) : ∀ k, k < 8 → 0 ≤ am_Mx w h s i k ∧ am_Mx w h s i k ≤ 30 := fun k _ => am_pry_b hO ((am_ke_is (s := s) (am_P s)).1 i hi).1 k
noncomputable def A_rank (w h : Nat) (s : Nat → Nat → Int) : Int := am_rank (am_Sp (am_Mx w h s) (am_km s (am_P s)))
theorem x_rank (hX : am_RX w h s σ) (hM : am_RM w2 h2 s2 σ) (hO : am_OK w h s) (kk : ∀ σ', am_RX w h s σ' → am_RM w2 h2 s2 σ' → Po (some (Zi (A_rank w h s))) am_SH σ') : am_U x m_Sp_rank Po σ 0 [some (Zr 0)] [] := by
  refine s_Sp_rank_0 (x_rays hX hO (fun σ1 f1 hR1 => ⟨rfl, rfl, x_takePicks hO hR1 (fun σ2 f2 hI => ⟨rfl, rfl, ?_⟩)⟩))
  rw [hI.2.1]
  exact am_fX kk (am_BV_rank hI.2.2).symm rfl ((hX.fx f1 (by decide)).fx f2 (by decide)) ((hM.fx f1 (by decide)).fx f2 (by decide))
theorem m_layRows (hM : am_RM w h s σ) (hO : am_OK w h s) (hY : am_MY w h s (am_P s) σ) (kk : ∀ σ', σ'.1 = σ.1 → (∀ k j, k ≠ 169 → σ'.2 k j = σ.2 k j) → (∀ i k, i < am_km s (am_P s) → k < 8 → σ'.2 169 (8 * i + k) = am_Mx w h s i k) → Po (some (Zi (am_km s (am_P s) : Int))) am_SH σ') : am_U x m_Mo_layRows Po σ 0 [some (Zr 147), none, none, none] [] := by
  obtain ⟨bP, -⟩ := am_OKb hO
  have lP : am_P s ≤ 12 := by unfold am_P; omega
  have eP : σ.1 147 11 = (am_P s : Int) := by rw [hM.1.as 147 11 4 (by decide)]; unfold am_P; omega
  have loop : ∀ (d p : Nat) (τ : am_St), p + d = am_P s → τ.1 = σ.1 → (∀ k j, k ≠ 169 → τ.2 k j = σ.2 k j) → (∀ i k, i < am_km s p → k < 8 → τ.2 169 (8 * i + k) = am_pry w h s (am_ke s p i) k) → am_U x m_Mo_layRows Po τ 4 [some (Zr 147), some (Zi (am_km s p : Int)), some (Zi (p : Int)), none] [] := by
    intro d
    induction d with
    | zero =>
      intro p τ hp e1 e2 e3
      refine s_Mo_layRows_4 ?_
      rw [e1, eP]
      refine ⟨by omega, by omega, fun _ => ?_, fun q => absurd (by omega) q⟩
      rw [show p = am_P s by omega] at e3 ⊢
      exact kk τ e1 e2 e3
    | succ d ih =>
      intro p τ hp e1 e2 e3
      obtain ⟨a, -, -, d9, -⟩ := am_OKp hO (show p < am_P s by omega)
      have em : am_km s (p + 1) = if s 9 p = 0 then am_km s p + 1 else am_km s p := rfl
      have ee : ∀ i, am_ke s (p + 1) i = if s 9 p = 0 ∧ i = am_km s p then p else am_ke s p i := fun _ => rfl
      have lm := am_km_le (s := s) p
      refine s_Mo_layRows_4 ?_
      rw [e1, eP, Int.toNat_natCast, hM.1.at 156 9 12 (by decide) a]
      refine ⟨by omega, by omega, fun q => absurd q (by omega), fun _ => ⟨by omega, by omega, fun q => s_Mo_layRows_61 ?_, fun q => ?_⟩⟩
      · have := ih (p + 1) τ (by omega) e1 e2 (fun i k hi hk => by
          rw [em, if_neg q] at hi
          rw [ee, if_neg (fun z => q z.1)]; exact e3 i k hi hk)
        rw [em, if_neg q, show ((p + 1 : Nat) : Int) = (p : Int) + 1 by omega] at this
        exact this
      · rw [if_pos q] at em
        have cells : ∀ (e k : Nat) (τ : am_St), k + e = 8 → τ.1 = σ.1 → (∀ k j, k ≠ 169 → τ.2 k j = σ.2 k j) → (∀ i k, i < am_km s p → k < 8 → τ.2 169 (8 * i + k) = am_pry w h s (am_ke s p i) k) → (∀ k', k' < k → τ.2 169 (8 * am_km s p + k') = am_pry w h s p k') → am_U x m_Mo_layRows Po τ 23 [some (Zr 147), some (Zi (am_km s p : Int)), some (Zi (p : Int)), some (Zi (k : Int))] [] := by
          intro e
          induction e with
          | zero =>
            intro k τ hk e1 e2 e3 e4
            refine s_Mo_layRows_23 ⟨by omega, fun _ => s_Mo_layRows_61 ?_, fun q => absurd (by omega) q⟩
            have := ih (p + 1) τ (by omega) e1 e2 (fun i k hi hk => by
              rw [ee]
              by_cases ei : i = am_km s p
              · rw [if_pos ⟨q, ei⟩, ei]; exact e4 k (by omega)
              · rw [if_neg (fun z => ei z.2)]; exact e3 i k (by omega) hk)
            rw [em, show ((p + 1 : Nat) : Int) = (p : Int) + 1 by omega, show ((am_km s p + 1 : Nat) : Int) = (am_km s p : Int) + 1 by omega] at this
            exact this
          | succ e ihe =>
            intro k τ hk e1 e2 e3 e4
            have bR := am_pry_b hO (show p < am_P s by omega) k
            refine s_Mo_layRows_23 ⟨by omega, fun q => absurd q (by omega), fun _ => ⟨by omega, by omega, fun τ1 f1 => ?_⟩⟩
            rw [show (8 * (am_km s p : Int) + (k : Int)).toNat = 8 * am_km s p + k by omega, show (8 * (p : Int) + (k : Int)).toNat = 8 * p + k by omega, e1, hY p k (by omega) (by omega) q, am_i2l_id (by omega)] at f1
            have g4 : ∀ j, τ1.2 169 j = if j = 8 * am_km s p + k then am_pry w h s p k else τ.2 169 j := fun j => by rw [f1]; show am_up τ.2 169 _ _ 169 j = _; rw [am_up_row]
            have := ihe (k + 1) τ1 (by omega) (by rw [f1]) (fun k' j hk' => by rw [f1]; show am_up τ.2 169 _ _ k' j = _; rw [am_up_o hk']; exact e2 k' j hk') (fun i k' hi hk' => by rw [g4, if_neg (by omega)]; exact e3 i k' hi hk') (fun k' hk' => by
              rw [g4]
              by_cases ek : k' = k
              · rw [ek, if_pos rfl]
              · rw [if_neg (by omega)]; exact e4 k' (by omega))
            rw [show ((k + 1 : Nat) : Int) = (k : Int) + 1 by omega] at this
            exact this
        exact cells 8 0 τ (by omega) e1 e2 e3 (fun k' hk' => absurd hk' (Nat.not_lt_zero k'))
  exact s_Mo_layRows_0 (loop _ 0 σ (Nat.zero_add _) rfl (fun _ _ _ => rfl) (fun i k hi => absurd hi (Nat.not_lt_zero i)))
theorem m_rank (hM : am_RM w h s σ) (hX : am_RX w2 h2 s2 σ) (hO : am_OK w h s) (kk : ∀ σ', am_RM w h s σ' → am_RX w2 h2 s2 σ' → Po (some (Zi (A_rank w h s))) am_SH σ') : am_U x m_Mo_rank Po σ 0 [some (Zr 147)] [] := by
  obtain ⟨bP, -⟩ := am_OKb hO
  have lP : am_P s ≤ 12 := by unfold am_P; omega
  have lK := am_km_le (s := s) (am_P s)
  refine s_Mo_rank_0 (m_findRays hM hO (fun σ1 f1 hL hY => ⟨rfl, rfl, m_layRows (hM.fx f1 (by decide)) hO hY (fun σ2 e1 e2 e3 => ⟨_, rfl, rfl, m_rankOf (by omega) e3 (fun i hi k hk => by have := am_Mx_p hO hi k hk; omega) (fun σ3 g1 g2 => ⟨_, rfl, rfl, ?_⟩)⟩)⟩))
  have f3 : am_fx [] [] σ1 σ3 := fun k j _ _ => by rw [g1, e1]
  exact am_fM kk rfl rfl ((hM.fx f1 (by decide)).fx f3 (by decide)) ((hX.fx f1 (by decide)).fx f3 (by decide))
/-! more rows -/
def am_Mq (K : Nat) (M N : Nat → Nat → Int) (i : Nat) : Nat → Int := if i < K then M i else N (i - K)
theorem m_layAll {m : Nat} {N : Nat → Nat → Int} (hM : am_RM w h s σ) (hO : am_OK w h s) (hY : am_MY w h s (am_P s) σ) (hm : m ≤ 5) (em : σ.1 147 48 = (m : Int)) (eN : ∀ j k, j < m → k < 8 → σ.1 179 (8 * j + k) = N j k) (bN : ∀ j, j < m → ∀ k, k < 8 → 0 ≤ N j k ∧ N j k ≤ 30)
    (kk : ∀ σ', σ'.1 = σ.1 → (∀ k j, k ≠ 169 → σ'.2 k j = σ.2 k j) → (∀ i k, i < am_km s (am_P s) + m → k < 8 → σ'.2 169 (8 * i + k) = am_Mq (am_km s (am_P s)) (am_Mx w h s) N i k) → Po (some (Zi ((am_km s (am_P s) + m : Nat) : Int))) am_SH σ') : am_U x m_Mo_layAll Po σ 0 [some (Zr 147), none, none] [] := by
  obtain ⟨bP, -⟩ := am_OKb hO
  have lP : am_P s ≤ 12 := by unfold am_P; omega
  have lK := am_km_le (s := s) (am_P s)
  refine s_Mo_layAll_0 (m_layRows hM hO hY (fun σ1 e1 e2 e3 => ⟨_, rfl, rfl, ?_⟩))
  have loop : ∀ (d y : Nat) (τ : am_St), y + d = 8 * m → τ.1 = σ.1 → (∀ k j, k ≠ 169 → τ.2 k j = σ.2 k j) → (∀ i k, i < am_km s (am_P s) → k < 8 → τ.2 169 (8 * i + k) = am_Mx w h s i k) → (∀ y', y' < y → τ.2 169 (8 * am_km s (am_P s) + y') = σ.1 179 y') → am_U x m_Mo_layAll Po τ 7 [some (Zr 147), some (Zi (am_km s (am_P s) : Int)), some (Zi (y : Int))] [] := by
    intro d
    induction d with
    | zero =>
      intro y τ hy g1 g2 g3 g4
      refine s_Mo_layAll_7 ?_
      rw [g1, em]
      refine ⟨by omega, by omega, fun _ => ?_, fun q => absurd (by omega) q⟩
      have := kk τ g1 g2 (fun i k hi hk => by
        unfold am_Mq
        by_cases q : i < am_km s (am_P s)
        · rw [if_pos q]; exact g3 i k q hk
        · rw [if_neg q, ← eN (i - am_km s (am_P s)) k (by omega) hk, ← g4 _ (by omega)]
          rw [show 8 * am_km s (am_P s) + (8 * (i - am_km s (am_P s)) + k) = 8 * i + k by omega])
      rw [show ((am_km s (am_P s) + m : Nat) : Int) = (am_km s (am_P s) : Int) + (m : Int) by omega] at this
      exact this
    | succ d ih =>
      intro y τ hy g1 g2 g3 g4
      have by' : 0 ≤ σ.1 179 y ∧ σ.1 179 y ≤ 30 := by
        have := bN (y / 8) (by omega) (y % 8) (by omega)
        rw [← eN (y / 8) (y % 8) (by omega) (by omega), show 8 * (y / 8) + y % 8 = y by omega] at this
        exact this
      refine s_Mo_layAll_7 ?_
      rw [g1, em]
      refine ⟨by omega, by omega, fun q => absurd q (by omega), fun _ => ⟨by omega, by omega, fun τ1 f1 => ?_⟩⟩
      rw [show (8 * (am_km s (am_P s) : Int) + (y : Int)).toNat = 8 * am_km s (am_P s) + y by omega, Int.toNat_natCast, am_i2l_id (by omega)] at f1
      have g5 : ∀ j, τ1.2 169 j = if j = 8 * am_km s (am_P s) + y then σ.1 179 y else τ.2 169 j := fun j => by rw [f1]; show am_up τ.2 169 _ _ 169 j = _; rw [am_up_row]
      have := ih (y + 1) τ1 (by omega) (by rw [f1]) (fun k' j hk' => by rw [f1]; show am_up τ.2 169 _ _ k' j = _; rw [am_up_o hk']; exact g2 k' j hk') (fun i k hi hk => by rw [g5, if_neg (by omega)]; exact g3 i k hi hk) (fun y' hy' => by
        rw [g5]
        by_cases e : y' = y
        · rw [e, if_pos rfl]
        · rw [if_neg (by omega)]; exact g4 y' (by omega))
      rw [show ((y + 1 : Nat) : Int) = (y : Int) + 1 by omega] at this
      exact this
  exact loop _ 0 σ1 (Nat.zero_add _) e1 e2 e3 (fun y' hy' => absurd hy' (Nat.not_lt_zero y'))
theorem m_isRes {m b : Nat} {N : Nat → Nat → Int} (hM : am_RM w h s σ) (hO : am_OK w h s) (hY : am_MY w h s (am_P s) σ) (hb : b < 8) (hm : m ≤ 5) (em : σ.1 147 48 = (m : Int)) (eN : ∀ j k, j < m → k < 8 → σ.1 179 (8 * j + k) = N j k) (bN : ∀ j, j < m → ∀ k, k < 8 → 0 ≤ N j k ∧ N j k ≤ 30)
    (k1 : am_Sp (am_Mq (am_km s (am_P s)) (am_Mx w h s) N) (am_km s (am_P s) + m) (am_un b) → ∀ σ', σ'.1 = σ.1 → Po (some (Zi 1)) am_SH σ') (k0 : ¬ am_Sp (am_Mq (am_km s (am_P s)) (am_Mx w h s) N) (am_km s (am_P s) + m) (am_un b) → ∀ σ', σ'.1 = σ.1 → Po (some (Zi 0)) am_SH σ') : am_U x m_Mo_isResolved Po σ 0 [some (Zr 147), some (Zi (b : Int)), none, none, none] [] := by
  obtain ⟨bP, -⟩ := am_OKb hO
  have lP : am_P s ≤ 12 := by unfold am_P; omega
  have lK := am_km_le (s := s) (am_P s)
  obtain ⟨n, hn⟩ : ∃ n, n = am_km s (am_P s) + m := ⟨_, rfl⟩
  obtain ⟨M, hMM⟩ : ∃ M, M = am_Mq (am_km s (am_P s)) (am_Mx w h s) N := ⟨_, rfl⟩
  have pM : ∀ i, i < n → am_pr8 (M i) := fun i hi k hk => by
    rw [hMM]; unfold am_Mq
    by_cases q : i < am_km s (am_P s)
    · rw [if_pos q]; have := am_Mx_p hO q k hk; omega
    · rw [if_neg q]; have := bN (i - am_km s (am_P s)) (by omega) k hk; omega
  have lay : ∀ {Po' : Option am_AV → am_Sh → am_St → Prop} (τ : am_St), τ.1 = σ.1 → (∀ σ', σ'.1 = σ.1 → (∀ i k, i < n → k < 8 → σ'.2 169 (8 * i + k) = M i k) → Po' (some (Zi (n : Int))) am_SH σ') → am_U x m_Mo_layAll Po' τ 0 [some (Zr 147), none, none] [] := fun τ e1 hk => by
    have f0 : am_fx [] [] σ τ := fun k j _ _ => by rw [e1]
    have := m_layAll (x := x) (σ := τ) (m := m) (N := N) (hM.fx f0 (by decide)) hO (fun p b hp hb h0 => by rw [e1]; exact hY p b hp hb h0) hm (by rw [e1]; exact em) (fun j k hj hk => by rw [e1]; exact eN j k hj hk) bN (fun σ' g1 _ g3 => by
      have := hk σ' (by rw [g1, e1]) (fun i k hi hk => by rw [hMM]; exact g3 i k (by omega) hk)
      rw [hn] at this; exact this)
    exact this
  rw [← hn, ← hMM] at k1 k0
  refine s_Mo_isResolved_0 (lay σ rfl (fun σ1 e1 r1 => ⟨_, rfl, rfl, m_rankOf (by omega) r1 pM (fun σ2 e2 _ => ⟨_, rfl, rfl, lay σ2 (by rw [e2, e1]) (fun σ3 e3 r3 => ⟨_, rfl, rfl, ?_⟩)⟩)⟩))
  have loop : ∀ (d k : Nat) (τ : am_St), k + d = 8 → τ.1 = σ.1 → (∀ i k, i < n → k < 8 → τ.2 169 (8 * i + k) = M i k) → (∀ k', k' < k → τ.2 169 (8 * n + k') = am_un b k') → am_U x m_Mo_isResolved Po τ 17 [some (Zr 147), some (Zi (b : Int)), some (Zi (am_rank (am_Sp M n))), some (Zi (n : Int)), some (Zi (k : Int))] [] := by
    intro d
    induction d with
    | zero =>
      intro k τ hk g1 g2 g3
      obtain ⟨M', hM'⟩ : ∃ M' : Nat → Nat → Int, M' = fun i => if i < n then M i else am_un b := ⟨_, rfl⟩
      have eA : ∀ v, am_Sp M' (n + 1) v ↔ am_Ad (am_Sp M n) (am_un b) v := fun v => by
        rw [am_Sp_s]
        have e1 : M' n = am_un b := by rw [hM']; exact if_neg (Nat.lt_irrefl n)
        have e2 : am_Sp M' n = am_Sp M n := funext (fun y => propext (by
          have e : ∀ c k, am_LC c M' n k = am_LC c M n k := fun c k => am_LC_lo (fun i hi => by rw [hM']; show (if i < n then M i else am_un b) k = _; rw [if_pos hi])
          constructor <;> rintro ⟨c, hc⟩ <;> refine ⟨c, fun k hk => ?_⟩
          · rw [← e c k]; exact hc k hk
          · rw [e c k]; exact hc k hk))
        rw [e1, e2]
      have r0 := am_rank_b (V := am_Sp M n)
      have r1 := am_rank_b (V := am_Sp M' (n + 1))
      have eR : am_rank (am_Sp M' (n + 1)) = am_rank (am_Ad (am_Sp M n) (am_un b)) := am_rank_c eA
      have key := am_rank_ad (V := am_Sp M n) am_Sp_sm (u := am_un b)
      refine s_Mo_isResolved_17 ⟨by omega, fun _ => ?_, fun q => absurd (by omega) q⟩
      rw [show (n : Int) + 1 = ((n + 1 : Nat) : Int) by omega]
      refine m_rankOf (M := M') (by omega) (fun i k hi hk => ?_) (fun i hi k hk => ?_) (fun σ4 e4 _ => ⟨_, rfl, rfl, by omega, by omega, fun q => s_Mo_isResolved_69 ⟨Or.inl rfl, k0 (fun z => q (eR.trans (key.mpr z))) σ4 (by rw [e4, g1])⟩, fun q => s_Mo_isResolved_69 ⟨Or.inr rfl, k1 (key.mp (eR.symm.trans q)) σ4 (by rw [e4, g1])⟩⟩)
      · rw [hM']
        show _ = (if i < n then M i else am_un b) k
        by_cases q : i < n
        · rw [if_pos q]; exact g2 i k q hk
        · rw [if_neg q, show i = n by omega]; exact g3 k (by omega)
      · rw [hM']
        show 0 ≤ (if i < n then M i else am_un b) k ∧ (if i < n then M i else am_un b) k < _
        by_cases q : i < n
        · rw [if_pos q]; exact pM i q k hk
        · rw [if_neg q]; unfold am_un; split <;> decide
    | succ d ih =>
      intro k τ hk g1 g2 g3
      have put : ∀ v : Int, v = am_un b k → am_U x m_Mo_isResolved Po τ 46 [some (Zr 147), some (Zi (b : Int)), some (Zi (am_rank (am_Sp M n))), some (Zi (n : Int)), some (Zi (k : Int))] [Zl v, Zi (8 * (n : Int) + (k : Int)), Zr 169] := fun v hv => by
        refine s_Mo_isResolved_46 ⟨by omega, fun τ1 f1 => ?_⟩
        rw [show (8 * (n : Int) + (k : Int)).toNat = 8 * n + k by omega] at f1
        have g5 : ∀ j, τ1.2 169 j = if j = 8 * n + k then v else τ.2 169 j := fun j => by rw [f1]; show am_up τ.2 169 _ _ 169 j = _; rw [am_up_row]
        have := ih (k + 1) τ1 (by omega) (by rw [f1]; exact g1) (fun i k' hi hk' => by rw [g5, if_neg (by omega)]; exact g2 i k' hi hk') (fun k' hk' => by
          rw [g5]
          by_cases e : k' = k
          · rw [e, if_pos rfl]; exact hv
          · rw [if_neg (by omega)]; exact g3 k' (by omega))
        rw [show ((k + 1 : Nat) : Int) = (k : Int) + 1 by omega] at this
        exact this
      refine s_Mo_isResolved_17 ⟨by omega, fun q => absurd q (by omega), fun _ => ⟨by omega, fun q => put 0 ?_, fun q => put 1 ?_⟩⟩
      · unfold am_un; rw [if_neg (by omega)]
      · unfold am_un; rw [if_pos (by omega)]
  exact loop 8 0 σ3 (by omega) e3 r3 (fun k' hk' => absurd hk' (Nat.not_lt_zero k'))
/-! resolved -/
def am_tch (w h : Nat) (s : Nat → Nat → Int) (b : Nat) : Prop := ∃ p, p < am_P s ∧ s 9 p = 0 ∧ 0 < am_pry w h s p b
noncomputable def A_resolved (w h : Nat) (s : Nat → Nat → Int) (b : Int) : Int := if 0 ≤ b ∧ b < 8 then (if am_bsz w h s b.toNat = 0 then -1 else am_cif (am_Sp (am_Mx w h s) (am_km s (am_P s)) (am_un b.toNat)) 2 (am_cif (am_tch w h s b.toNat) 1 0)) else -2
theorem am_no_tch (hO : am_OK w h s) {b : Nat} (hb : b < 8) (hn : ¬ am_tch w h s b) : ¬ am_Sp (am_Mx w h s) (am_km s (am_P s)) (am_un b) := by
  rintro ⟨c, hc⟩
  have h1 : am_q (am_LC c (am_Mx w h s) (am_km s (am_P s)) b) 0 := am_LC_z (fun i hi => Or.inr (am_q.eq (by
    have g := (am_ke_is (s := s) (am_P s)).1 i hi
    have b1 := am_Mx_p hO hi b hb
    by_cases q : 0 < am_Mx w h s i b
    · exact absurd ⟨_, g.1, g.2, q⟩ hn
    · omega)))
  have h2 := (hc b hb).sy.tr h1
  unfold am_un at h2
  rw [if_pos rfl] at h2
  exact am_nq (by decide) (by decide) (by decide) h2
theorem x_touched {b : Nat} (hO : am_OK w h s) (hR : am_RS w h s (am_P s) σ) (hb : b < 8) (k1 : am_tch w h s b → Po (some (Zi 1)) am_SH σ) (k0 : ¬ am_tch w h s b → Po (some (Zi 0)) am_SH σ) : am_U x m_Ra_isTouched Po σ 0 [some (Zr 20), some (Zi (b : Int)), none] [] := by
  obtain ⟨bP, -⟩ := am_OKb hO
  have lP : am_P s ≤ 12 := by unfold am_P; omega
  have lK := am_km_le (s := s) (am_P s)
  obtain ⟨ke1, -, ke3⟩ := am_ke_is (s := s) (am_P s)
  have loop : ∀ (d i : Nat), i + d = am_km s (am_P s) → (∀ i', i' < i → ¬ 0 < am_pry w h s (am_ke s (am_P s) i') b) → am_U x m_Ra_isTouched Po σ 2 [some (Zr 20), some (Zi (b : Int)), some (Zi (i : Int))] [] := by
    intro d
    induction d with
    | zero =>
      intro i hi h0
      refine s_Ra_isTouched_2 ?_
      rw [hR.1]
      refine ⟨by omega, by omega, fun _ => k0 ?_, fun q => absurd (by omega) q⟩
      rintro ⟨p, p1, p2, p3⟩
      obtain ⟨i', g1, g2⟩ := ke3 p p1 p2
      exact h0 i' (by omega) (by rw [g2]; exact p3)
    | succ d ih =>
      intro i hi h0
      have g := ke1 i (by omega)
      have b1 := am_pry_b hO g.1 b
      refine s_Ra_isTouched_2 ?_
      rw [hR.1, Int.toNat_natCast, Int.toNat_natCast, hR.2.2 i b (by omega) hb]
      refine ⟨by omega, by omega, fun q => absurd q (by omega), fun _ => ⟨by omega, by omega, by omega, fun q => ?_, fun q => k1 ⟨_, g.1, g.2, by omega⟩⟩⟩
      exact ih (i + 1) (by omega) (fun i' hi' => by
        rcases Nat.lt_or_ge i' i with z | z
        · exact h0 i' z
        · rw [show i' = i by omega]; omega)
  exact s_Ra_isTouched_0 (loop _ 0 (Nat.zero_add _) (fun i' hi' => absurd hi' (Nat.not_lt_zero i')))
theorem x_resolved {b : Int} (hX : am_RX w h s σ) (hM : am_RM w2 h2 s2 σ) (hO : am_OK w h s) (rb : am_r b) (kk : ∀ σ', am_RX w h s σ' → am_RM w2 h2 s2 σ' → Po (some (Zi (A_resolved w h s b))) am_SH σ') : am_U x m_Sp_resolved Po σ 0 [some (Zr 0), some (Zi b)] [] := by
  obtain ⟨bP, -⟩ := am_OKb hO
  have lP : am_P s ≤ 12 := by unfold am_P; omega
  have lK := am_km_le (s := s) (am_P s)
  have hwh := am_wh hO
  refine s_Sp_resolved_0 (x_isBlock rb (fun q => br1n ?_) (fun q => br0n (am_fX kk (by simp only [A_resolved]; rw [if_neg q]) rfl hX hM)))
  obtain ⟨i, rfl⟩ : ∃ i : Nat, b = (i : Int) := ⟨b.toNat, by omega⟩
  have sb := am_bsz_b (w := w) (h := h) (s := s) (b := i)
  refine x_cellsIn hX hO (by omega) ⟨_, rfl, rfl, by omega, fun q2 => ?_, fun q2 => am_fX kk (by simp only [A_resolved]; rw [if_pos q, Int.toNat_natCast, if_pos q2]) rfl hX hM⟩
  refine x_rays hX hO (fun σ1 f1 hR1 => ⟨rfl, rfl, x_takePicks hO hR1 (fun σ2 f2 hI => ⟨rfl, rfl, ?_⟩)⟩)
  have hX2 := (hX.fx f1 (by decide)).fx f2 (by decide)
  have hM2 := (hM.fx f1 (by decide)).fx f2 (by decide)
  have hR2 : am_RS w h s (am_P s) σ2 := hR1.k (by omega) (fun k j h1 h2 => f2 k j (by simp; omega) (by simp))
  refine x_bres (Or.inl rfl) (by omega) hI (fun q3 => br1e ?_) (fun q3 => br0e ?_)
  · exact am_fX kk (by simp only [A_resolved]; rw [if_pos q, Int.toNat_natCast, if_neg q2, am_cif_p q3]) rfl hX2 hM2
  · refine x_touched hO hR2 (by omega) (fun q4 => br1e (s_Sp_resolved_70 ?_)) (fun q4 => br0e (s_Sp_resolved_70 ?_))
    · exact am_fX kk (by simp only [A_resolved]; rw [if_pos q, Int.toNat_natCast, if_neg q2, am_cif_n q3, am_cif_p q4]) rfl hX2 hM2
    · exact am_fX kk (by simp only [A_resolved]; rw [if_pos q, Int.toNat_natCast, if_neg q2, am_cif_n q3, am_cif_n q4]) rfl hX2 hM2
theorem m_resolved {b : Int} (hM : am_RM w h s σ) (hX : am_RX w2 h2 s2 σ) (hO : am_OK w h s) (rb : am_r b) (kk : ∀ σ', am_RM w h s σ' → am_RX w2 h2 s2 σ' → Po (some (Zi (A_resolved w h s b))) am_SH σ') : am_U x m_Mo_resolved Po σ 0 [some (Zr 147), some (Zi b), none, none] [] := by
  obtain ⟨bP, -⟩ := am_OKb hO
  have lP : am_P s ≤ 12 := by unfold am_P; omega
  have lK := am_km_le (s := s) (am_P s)
  have hwh := am_wh hO
  refine s_Mo_resolved_0 (m_isBlock rb (fun q => br1n ?_) (fun q => br0n (am_fM kk (by simp only [A_resolved]; rw [if_neg q]) rfl hM hX)))
  obtain ⟨i, rfl⟩ : ∃ i : Nat, b = (i : Int) := ⟨b.toNat, by omega⟩
  have sb := am_bsz_b (w := w) (h := h) (s := s) (b := i)
  refine m_sizeOf hM hO (by omega) ⟨_, rfl, rfl, by omega, fun q2 => ?_, fun q2 => am_fM kk (by simp only [A_resolved]; rw [if_pos q, Int.toNat_natCast, if_pos q2]) rfl hM hX⟩
  refine m_findRays hM hO (fun σ1 f1 hL hY => ⟨rfl, rfl, fun σ2 f2 => ?_⟩)
  have hM2 := (hM.fx f1 (by decide)).fx (am_fx.p1 f2) (by decide)
  have hX2 := (hX.fx f1 (by decide)).fx (am_fx.p1 f2) (by decide)
  have hY2 : am_MY w h s (am_P s) σ2 := fun p b hp hb h0 => by rw [am_stO f2 (by decide)]; exact hY p b hp hb h0
  have em : σ2.1 147 48 = ((0 : Nat) : Int) := am_stE f2
  have loop : ∀ (d p : Nat), p + d = am_P s → am_U x m_Mo_resolved Po σ2 33 [some (Zr 147), some (Zi (i : Int)), some (Zi (am_sum (fun p => if s 9 p = 0 then am_pry w h s p i else 0) p)), some (Zi (p : Int))] [] := by
    intro d
    induction d with
    | zero =>
      intro p hp
      have eP : σ2.1 147 11 = (am_P s : Int) := by rw [hM2.1.as 147 11 4 (by decide)]; unfold am_P; omega
      have sB := am_sum_b (f := fun p => if s 9 p = 0 then am_pry w h s p i else 0) (B := 30) (n := am_P s) (fun p hp => by show 0 ≤ (if s 9 p = 0 then am_pry w h s p i else 0) ∧ (if s 9 p = 0 then am_pry w h s p i else 0) ≤ 30; have := am_pry_b hO hp i; split <;> omega)
      have zt : am_sum (fun p => if s 9 p = 0 then am_pry w h s p i else 0) (am_P s) = 0 ↔ ¬ am_tch w h s i := by
        have gen : ∀ n, n ≤ am_P s → (am_sum (fun p => if s 9 p = 0 then am_pry w h s p i else 0) n = 0 ↔ ∀ p, p < n → s 9 p = 0 → ¬ 0 < am_pry w h s p i) ∧ 0 ≤ am_sum (fun p => if s 9 p = 0 then am_pry w h s p i else 0) n := by
          intro n
          induction n with
          | zero => intro _; exact ⟨⟨fun _ p hp => absurd hp (Nat.not_lt_zero p), fun _ => rfl⟩, Int.le_refl _⟩
          | succ n ihn =>
            intro hn
            obtain ⟨g1, g2⟩ := ihn (by omega)
            have pb := am_pry_b hO (show n < am_P s by omega) i
            have e : am_sum (fun p => if s 9 p = 0 then am_pry w h s p i else 0) (n + 1) = am_sum (fun p => if s 9 p = 0 then am_pry w h s p i else 0) n + if s 9 n = 0 then am_pry w h s n i else 0 := rfl
            rw [e]
            by_cases q9 : s 9 n = 0
            · rw [if_pos q9]
              refine ⟨⟨fun hz p hp h9 => ?_, fun hz => ?_⟩, by omega⟩
              · by_cases ep : p = n
                · rw [ep]; omega
                · exact g1.mp (by omega) p (by omega) h9
              · have := g1.mpr (fun p hp => hz p (by omega))
                have := hz n (by omega) q9
                omega
            · rw [if_neg q9, Int.add_zero]
              refine ⟨⟨fun hz p hp h9 => ?_, fun hz => g1.mpr (fun p hp => hz p (by omega))⟩, g2⟩
              by_cases ep : p = n
              · rw [ep] at h9; exact absurd h9 q9
              · exact g1.mp hz p (by omega) h9
        rw [(gen (am_P s) (Nat.le_refl _)).1]
        exact ⟨fun hz ⟨p, p1, p2, p3⟩ => hz p p1 p2 p3, fun hz p p1 p2 p3 => hz ⟨p, p1, p2, p3⟩⟩
      rw [show p = am_P s by omega]
      refine s_Mo_resolved_33 ?_
      rw [eP]
      refine ⟨by omega, by omega, fun _ => ⟨by omega, fun q3 => ?_, fun q3 => s_Mo_resolved_95 ?_⟩, fun q => absurd (by omega) q⟩
      · have tc : am_tch w h s i := by
          by_cases z : am_tch w h s i
          · exact z
          · exact absurd (zt.mpr z) q3
        have e0 : am_Sp (am_Mq (am_km s (am_P s)) (am_Mx w h s) (fun _ _ => 0)) (am_km s (am_P s) + 0) = am_Sp (am_Mx w h s) (am_km s (am_P s)) := funext (fun y => propext (by
          have e : ∀ c k, am_LC c (am_Mq (am_km s (am_P s)) (am_Mx w h s) (fun _ _ => 0)) (am_km s (am_P s)) k = am_LC c (am_Mx w h s) (am_km s (am_P s)) k := fun c k => am_LC_lo (fun i hi => by unfold am_Mq; rw [if_pos hi])
          constructor <;> rintro ⟨c, hc⟩ <;> refine ⟨c, fun k hk => ?_⟩
          · rw [← e c k]; exact hc k hk
          · have := hc k hk; rw [← e c k] at this; exact this))
        have fr : ∀ {σ' : am_St}, σ'.1 = σ2.1 → am_fx [] [] σ2 σ' := fun e k j _ _ => by rw [e]
        refine m_isRes (m := 0) (N := fun _ _ => 0) hM2 hO hY2 (by omega) (by decide) em (fun j k hj => absurd hj (Nat.not_lt_zero j)) (fun j hj => absurd hj (Nat.not_lt_zero j)) (fun q4 σ3 e3 => br1e (s_Mo_resolved_95 ?_)) (fun q4 σ3 e3 => br0e (s_Mo_resolved_95 ?_))
        · rw [e0] at q4
          exact am_fM kk (by simp only [A_resolved]; rw [if_pos q, Int.toNat_natCast, if_neg q2, am_cif_p q4]) rfl (hM2.fx (fr e3) (by decide)) (hX2.fx (fr e3) (by decide))
        · rw [e0] at q4
          exact am_fM kk (by simp only [A_resolved]; rw [if_pos q, Int.toNat_natCast, if_neg q2, am_cif_n q4, am_cif_p tc]) rfl (hM2.fx (fr e3) (by decide)) (hX2.fx (fr e3) (by decide))
      · have nt := zt.mp q3
        exact am_fM kk (by simp only [A_resolved]; rw [if_pos q, Int.toNat_natCast, if_neg q2, am_cif_n (am_no_tch hO (by omega) nt), am_cif_n nt]) rfl hM2 hX2
    | succ d ih =>
      intro p hp
      obtain ⟨a, -, -, d9, -⟩ := am_OKp hO (show p < am_P s by omega)
      have eP : σ2.1 147 11 = (am_P s : Int) := by rw [hM2.1.as 147 11 4 (by decide)]; unfold am_P; omega
      have nx := ih (p + 1) (by omega)
      have e : am_sum (fun p => if s 9 p = 0 then am_pry w h s p i else 0) (p + 1) = am_sum (fun p => if s 9 p = 0 then am_pry w h s p i else 0) p + if s 9 p = 0 then am_pry w h s p i else 0 := rfl
      rw [e, show ((p + 1 : Nat) : Int) = (p : Int) + 1 by omega] at nx
      refine s_Mo_resolved_33 ?_
      rw [eP, Int.toNat_natCast, hM2.1.at 156 9 12 (by decide) a, show (8 * (p : Int) + (i : Int)).toNat = 8 * p + i by omega]
      refine ⟨by omega, by omega, fun q => absurd q (by omega), fun _ => ⟨by omega, by omega, fun q9 => s_Mo_resolved_66 ?_, fun q9 => ⟨by omega, s_Mo_resolved_66 ?_⟩⟩⟩
      · rw [if_neg q9] at nx; exact nx
      · rw [if_pos q9] at nx
        rw [hY2 p i (by omega) (by omega) q9]; exact nx
  exact loop _ 0 (Nat.zero_add _)
end AMRK
