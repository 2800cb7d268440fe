/-! ===== heap, move, off ===== -/
section AMJ
variable {x : am_Sc} {Po : Option am_AV → am_Sh → am_St → Prop} {σ : am_St} {w h w2 h2 : Nat} {s s2 : Nat → Nat → Int}
theorem am_off0 {lo hi v : Int} : am_off lo hi v = 0 ↔ (lo ≤ v ∧ v ≤ hi) := by
  unfold am_off
  by_cases q : v < lo
  · rw [if_pos q]; omega
  · rw [if_neg q]
    by_cases q2 : hi < v
    · rw [if_pos q2]; omega
    · rw [if_neg q2]; omega
theorem am_cF_b {P : Nat} {Q : Nat → Bool} {F G : Nat → Int} {X : Int} (lP : P ≤ 12) : 0 ≤ am_cF P Q F G X ∧ am_cF P Q F G X ≤ 12 := by
  have := am_cnt_b (P := fun p => Q p && (decide (F p ≤ X) && decide (X ≤ G p))) (n := P)
  unfold am_cF; omega
noncomputable def A_heap (w h : Nat) (s : Nat → Nat → Int) (sh c v : Int) : Int := if (0 ≤ sh ∧ sh < s 0 3) ∧ (0 ≤ c ∧ c < ((w * h : Nat) : Int)) then (if 0 ≤ v ∧ v ≤ 1 then (if v = 0 then (am_ax (am_hC w h s sh.toNat c.toNat) 1000).1 else ((am_ax (am_hC w h s sh.toNat c.toNat) 1000).2 : Int)) else -3) else -2
theorem x_heap {sh c v : Int} (hX : am_RX w h s σ) (hM : am_RM w2 h2 s2 σ) (hO : am_OK w h s) (rs : am_r sh) (rc : am_r c) (rv : am_r v) (kk : ∀ σ', am_RX w h s σ' → am_RM w2 h2 s2 σ' → Po (some (Zi (A_heap w h s sh c v))) am_SH σ') : am_U x m_Sp_heap Po σ 0 [some (Zr 0), some (Zi sh), some (Zi c), some (Zi v)] [] := by
  obtain ⟨bP, bT, bD, bE, bS⟩ := am_OKb hO
  refine s_Sp_heap_0 (x_isShake hX bS rs (fun q => br1e (x_isCell hX (am_wh hO).2 rc (fun q2 => br1n (c_isW rv (by decide) (by decide) (fun q3 => br1n ?_) (fun q3 => br0n (am_fX kk (by simp only [A_heap]; rw [if_pos ⟨q, q2⟩, if_neg q3]) rfl hX hM)))) (fun q2 => br0n (s_Sp_heap_16 (am_fX kk (by simp only [A_heap]; rw [if_neg (fun z => q2 z.2)]) rfl hX hM))))) (fun q => br0e (s_Sp_heap_16 (am_fX kk (by simp only [A_heap]; rw [if_neg (fun z => q z.1)]) rfl hX hM))))
  rw [show sh = ((sh.toNat : Nat) : Int) by omega, show c = ((c.toNat : Nat) : Int) by omega]
  refine x_heapUp hX hO (by omega) (by omega) (fun σ1 f1 e5 e6 => ⟨rfl, rfl, rv, fun qv => s_Sp_heap_61 ?_, fun qv => s_Sp_heap_61 ?_⟩)
  · rw [e6]; exact am_fX kk (by simp only [A_heap]; rw [if_pos ⟨q, q2⟩, if_pos q3, if_neg qv]) rfl (hX.fx f1 (by decide)) (hM.fx f1 (by decide))
  · rw [e5]; exact am_fX kk (by simp only [A_heap]; rw [if_pos ⟨q, q2⟩, if_pos q3, if_pos qv]) rfl (hX.fx f1 (by decide)) (hM.fx f1 (by decide))
/-! move -/
noncomputable def am_mvC (w h : Nat) (s : Nat → Nat → Int) (sh : Nat) : Nat := (am_ax (fun c => (am_ax (am_hC w h s sh c) 1000).1) (w * h - 1)).2
noncomputable def am_mvB (w h : Nat) (s : Nat → Nat → Int) (sh : Nat) : Nat := (am_ax (am_hC w h s sh (am_mvC w h s sh)) 1000).2
noncomputable def A_move (w h : Nat) (s : Nat → Nat → Int) (sh : Int) : Int := if 0 ≤ sh ∧ sh < s 0 3 then (if am_cnt (am_hQ s sh.toNat) (am_P s) = 0 then -4 else (am_mvC w h s sh.toNat : Int)) else -2
noncomputable def N_move (w h : Nat) (s : Nat → Nat → Int) (sh : Int) : Nat → Nat → Int := if (0 ≤ sh ∧ sh < s 0 3) ∧ ¬ am_cnt (am_hQ s sh.toNat) (am_P s) = 0 then am_up (am_up s 5 sh.toNat (am_mvC w h s sh.toNat : Int)) 6 sh.toNat (am_mvB w h s sh.toNat : Int) else s
theorem x_hasPicks {sh : Nat} (hX : am_RX w h s σ) (hO : am_OK w h s) (hsh : sh < 5) (h1 : ¬ am_cnt (am_hQ s sh) (am_P s) = 0 → Po (some (Zi 1)) am_SH σ) (h0 : am_cnt (am_hQ s sh) (am_P s) = 0 → Po (some (Zi 0)) am_SH σ) : am_U x m_Bo_hasPicks Po σ 0 [some (Zr 8), some (Zi (sh : Int)), none] [] := by
  obtain ⟨bP, bT, bD, bE, bS⟩ := am_OKb hO
  have eP : σ.1 8 6 = (am_P s : Int) := by rw [hX.1.as 8 6 4 (by decide)]; unfold am_P; omega
  have lP : am_P s ≤ 12 := by unfold am_P; omega
  have loop : ∀ (d i : Nat), i + d = am_P s → (∀ j, j < i → am_hQ s sh j = false) → am_U x m_Bo_hasPicks Po σ 2 [some (Zr 8), some (Zi (sh : Int)), some (Zi (i : Int))] [] := by
    intro d
    induction d with
    | zero =>
      intro i hi hn
      refine s_Bo_hasPicks_2 ?_
      rw [eP]
      exact ⟨by omega, by omega, fun _ => h0 (am_cnt0.mpr (fun j hj => hn j (by omega))), fun q => absurd (by omega) q⟩
    | succ d ih =>
      intro i hi hn
      obtain ⟨a, b, c8, -⟩ := am_OKp hO (show i < am_P s by omega)
      refine s_Bo_hasPicks_2 ?_
      rw [eP, Int.toNat_natCast, hX.1.at 14 8 12 (by decide) a]
      refine ⟨by omega, by omega, fun q => absurd q (by omega), fun _ => ⟨by omega, by omega, by omega, fun q => ih (i + 1) (by omega) (fun j hj => ?_), fun q => h1 (fun z => ?_)⟩⟩
      · rcases Nat.lt_or_ge j i with g | g
        · exact hn j g
        · rw [show j = i by omega]; unfold am_hQ; exact decide_eq_false q
      · have := am_cnt0.mp z i (by omega)
        unfold am_hQ at this
        exact absurd q (of_decide_eq_false this)
  exact s_Bo_hasPicks_0 (loop _ 0 (Nat.zero_add _) (fun j hj => absurd hj (by omega)))
theorem am_hC_b (hO : am_OK w h s) {sh c b : Nat} : 0 ≤ am_hC w h s sh c b ∧ am_hC w h s sh c b ≤ 12 := by
  obtain ⟨bP, -⟩ := am_OKb hO
  exact am_cF_b (by unfold am_P; omega)
theorem am_hm_b (hO : am_OK w h s) {sh c : Nat} : 0 ≤ (am_ax (am_hC w h s sh c) 1000).1 ∧ (am_ax (am_hC w h s sh c) 1000).1 ≤ 12 ∧ (am_ax (am_hC w h s sh c) 1000).2 ≤ 1000 := by
  obtain ⟨a1, a2, -, -⟩ := am_ax_is (C := am_hC w h s sh c) 1000
  have := am_hC_b hO (sh := sh) (c := c) (b := (am_ax (am_hC w h s sh c) 1000).2)
  exact ⟨by omega, by omega, a2⟩
theorem x_move {sh : Int} (hX : am_RX w h s σ) (hM : am_RM w2 h2 s2 σ) (hO : am_OK w h s) (rs : am_r sh) (kk : ∀ σ', am_RX w h (N_move w h s sh) σ' → am_RM w2 h2 s2 σ' → Po (some (Zi (A_move w h s sh))) am_SH σ') : am_U x m_Sp_move Po σ 0 [some (Zr 0), some (Zi sh)] [] := by
  obtain ⟨bP, bT, bD, bE, bS⟩ := am_OKb hO
  have hwh := am_wh hO
  refine s_Sp_move_0 (x_isShake hX bS rs (fun q => br1n ?_) (fun q => br0n (am_fX kk (by simp only [A_move]; rw [if_neg q]) (by simp only [N_move]; rw [if_neg (fun z => q z.1)]) hX hM)))
  obtain ⟨i, rfl⟩ : ∃ i : Nat, sh = (i : Int) := ⟨sh.toNat, by omega⟩
  refine x_hasPicks hX hO (by omega) (fun q2 => br1n ?_) (fun q2 => br0n (am_fX kk (by simp only [A_move]; rw [if_pos q, Int.toNat_natCast, if_pos q2]) (by simp only [N_move]; rw [Int.toNat_natCast, if_neg (fun z => z.2 q2)]) hX hM))
  have loop : ∀ (d c : Nat) (τ : am_St) (best : Nat) (size : Int) (begun : Nat), c + d = w * h → am_RX w h s τ → am_RM w2 h2 s2 τ → (c = 0 → size = -1) → (∀ c', c = c' + 1 → (size, best) = am_ax (fun c => (am_ax (am_hC w h s i c) 1000).1) c' ∧ begun = (am_ax (am_hC w h s i best) 1000).2) → am_U x m_Fi_moveShake (fun ro3 so3 σ3 => ∃ z3 : Int, ro3 = some (Zi z3) ∧ so3 = am_SH ∧ Po (some (Zi z3)) am_SH σ3) τ 10 [some (Zr 134), some (Zi (i : Int)), some (Zi (best : Int)), some (Zi size), some (Zi (begun : Int)), some (Zi (c : Int))] [] := by
    intro d
    induction d with
    | zero =>
      intro c τ best size begun hc hX hM h0 h1
      refine s_Fi_moveShake_10 ?_
      rw [hX.2.1]
      refine ⟨by omega, by omega, fun _ => x_place hX hM (by omega) (fun σ1 hX1 hM1 => ⟨rfl, rfl, _, rfl, rfl, am_fX kk ?_ ?_ hX1 hM1⟩), fun q => absurd (by omega) q⟩
      · obtain ⟨g1, g2⟩ := h1 (w * h - 1) (by omega)
        simp only [A_move]; rw [if_pos q, Int.toNat_natCast, if_neg q2]; unfold am_mvC; rw [← g1]
      · obtain ⟨g1, g2⟩ := h1 (w * h - 1) (by omega)
        have e1 : am_mvC w h s i = best := by unfold am_mvC; rw [← g1]
        simp only [N_move]; rw [Int.toNat_natCast, if_pos ⟨q, q2⟩]; unfold am_mvB; rw [e1, ← g2]
    | succ d ih =>
      intro c τ best size begun hc hX hM h0 h1
      have hb := am_hm_b hO (sh := i) (c := c)
      have sb : -1 ≤ size ∧ size ≤ 12 := by
        rcases Nat.eq_zero_or_pos c with g | g
        · have := h0 g; omega
        · obtain ⟨g1, -⟩ := h1 (c - 1) (by omega)
          have a := (am_ax_is (C := fun c => (am_ax (am_hC w h s i c) 1000).1) (c - 1)).1
          rw [← g1] at a
          have := am_hm_b hO (sh := i) (c := best)
          have a' : (am_ax (am_hC w h s i best) 1000).1 = size := a
          omega
      refine s_Fi_moveShake_10 ?_
      rw [hX.2.1]
      refine ⟨by omega, by omega, fun q => absurd q (by omega), fun _ => x_heapUp hX hO (by omega) (by omega) (fun σ1 f1 e5 e6 => ⟨rfl, rfl, ?_⟩)⟩
      have hX1 := hX.fx f1 (by decide)
      have hM1 := hM.fx f1 (by decide)
      rw [e5, e6]
      refine ⟨by omega, by omega, fun q3 => s_Fi_moveShake_51 (ih (c + 1) σ1 best size begun (by omega) hX1 hM1 (fun z => absurd z (by omega)) (fun c' hc' => ?_)), fun q3 => s_Fi_moveShake_51 (ih (c + 1) σ1 c _ _ (by omega) hX1 hM1 (fun z => absurd z (by omega)) (fun c' hc' => ⟨?_, rfl⟩))⟩
      · rcases Nat.eq_zero_or_pos c with g | g
        · have := h0 g; omega
        · obtain ⟨g1, g2⟩ := h1 (c - 1) (by omega)
          refine ⟨?_, g2⟩
          have e : c' = (c - 1) + 1 := by omega
          have ec : c - 1 + 1 = c := by omega
          rw [e]
          show _ = if (am_ax (fun c => (am_ax (am_hC w h s i c) 1000).1) (c - 1)).1 < (am_ax (am_hC w h s i (c - 1 + 1)) 1000).1 then _ else am_ax (fun c => (am_ax (am_hC w h s i c) 1000).1) (c - 1)
          rw [← g1, ec, if_neg (by omega)]
      · rcases Nat.eq_zero_or_pos c with g | g
        · have e : c' = 0 := by omega
          rw [e, g]; rfl
        · obtain ⟨g1, g2⟩ := h1 (c - 1) (by omega)
          have e : c' = (c - 1) + 1 := by omega
          have ec : c - 1 + 1 = c := by omega
          rw [e]
          show _ = if (am_ax (fun c => (am_ax (am_hC w h s i c) 1000).1) (c - 1)).1 < (am_ax (am_hC w h s i (c - 1 + 1)) 1000).1 then ((am_ax (am_hC w h s i (c - 1 + 1)) 1000).1, c - 1 + 1) else _
          rw [← g1, ec, if_pos (by omega)]
  exact s_Fi_moveShake_0 (loop _ 0 σ 0 (-1) 0 (Nat.zero_add _) hX hM (fun _ => rfl) (fun c' hc' => absurd hc' (by omega)))
/-! off -/
noncomputable def am_oK (w h : Nat) (s : Nat → Nat → Int) (p : Nat) : Int := am_bg s p + am_dst w h (am_cost s (s 9 p)) (am_sC s p) (am_eC s p)
def am_oQ (s : Nat → Nat → Int) (e p : Nat) : Bool := decide (s 7 p = (e : Int))
def am_seq (k : Nat) : Int := if k % 2 = 1 then -(((k + 1) / 2 : Nat) : Int) else ((k / 2 : Nat) : Int)
noncomputable def am_oC (w h : Nat) (s : Nat → Nat → Int) (e : Nat) (X : Int) : Int := am_cF (am_P s) (am_oQ s e) (fun p => am_lo s p - am_oK w h s p) (fun p => am_hi s p - am_oK w h s p) X
noncomputable def A_offE (w h : Nat) (s : Nat → Nat → Int) (e : Int) : Int := if 0 ≤ e ∧ e < s 0 2 then am_seq (am_ax (fun k => am_oC w h s e.toNat (am_seq k)) 198).2 else -102
theorem am_oK_b (hO : am_OK w h s) {p : Nat} (hp : p < am_P s) : 0 ≤ am_oK w h s p ∧ am_oK w h s p ≤ 3160 := by
  obtain ⟨-, -, -, -, ⟨-, e⟩, ⟨-, f⟩, g, i, -⟩ := am_OKp hO hp
  have := am_dst_b (k := s 9 p) hO f e
  unfold am_oK; omega
theorem x_offE {e : Int} (hX : am_RX w h s σ) (hM : am_RM w2 h2 s2 σ) (hO : am_OK w h s) (re : am_r e) (kk : ∀ σ', am_RX w h s σ' → am_RM w2 h2 s2 σ' → Po (some (Zi (A_offE w h s e))) am_SH σ') : am_U x m_Sp_off Po σ 0 [some (Zr 0), some (Zi e)] [] := by
  obtain ⟨bP, bT, bD, bE, bS⟩ := am_OKb hO
  have hwh := am_wh hO
  have lP : am_P s ≤ 12 := by unfold am_P; omega
  refine s_Sp_off_0 (x_isEar hX bE re (fun q => br1e ?_) (fun q => br0e (s_Sp_off_21 (am_fX kk (by simp only [A_offE]; rw [if_neg q]) rfl hX hM))))
  obtain ⟨i, rfl⟩ : ∃ i : Nat, e = (i : Int) := ⟨e.toNat, by omega⟩
  have seqB : ∀ k, k ≤ 198 → -99 ≤ am_seq k ∧ am_seq k ≤ 99 := fun k hk => by unfold am_seq; split <;> omega
  have ob : ∀ X, 0 ≤ am_oC w h s i X ∧ am_oC w h s i X ≤ 12 := fun X => am_cF_b lP
  have far : ∀ (d k : Nat) (τ : am_St), k + d = 100 → 1 ≤ k → am_RX w h s τ → am_RM w2 h2 s2 τ → am_FS (am_P s) (am_oQ s i) (fun p => am_lo s p - am_oK w h s p) (fun p => am_hi s p - am_oK w h s p) τ → am_U x m_Fi_clockOff (fun ro2 so2 σ2 => ∃ z2 : Int, ro2 = some (Zi z2) ∧ so2 = am_SH ∧ am_U x m_Sp_off Po σ2 21 [none, none] [Zi z2]) τ 103 [some (Zr 134), none, some (Zi (am_seq (am_ax (fun k => am_oC w h s i (am_seq k)) (2 * k - 2)).2)), some (Zi (am_ax (fun k => am_oC w h s i (am_seq k)) (2 * k - 2)).1), some (Zi (k : Int)), none, none] [] := by
    intro d
    induction d with
    | zero =>
      intro k τ hk h1 hX hM hS
      refine s_Fi_clockOff_103 ⟨by omega, fun _ => ⟨_, rfl, rfl, s_Sp_off_21 (am_fX kk ?_ rfl hX hM)⟩, fun q => absurd (by omega) q⟩
      simp only [A_offE]; rw [if_pos q, show k = 100 by omega]; rfl
    | succ d ih =>
      intro k τ hk h1 hX hM hS
      have nx := ih (k + 1) τ (by omega) (by omega) hX hM hS
      obtain ⟨k0, rfl⟩ : ∃ k0, k = k0 + 1 := ⟨k - 1, by omega⟩
      rw [show 2 * (k0 + 1 + 1) - 2 = 2 * k0 + 1 + 1 by omega] at nx
      rw [show 2 * (k0 + 1) - 2 = 2 * k0 by omega]
      have s1 : am_seq (2 * k0 + 1) = -((k0 + 1 : Nat) : Int) := by unfold am_seq; rw [if_pos (by omega)]; omega
      have s2 : am_seq (2 * k0 + 1 + 1) = ((k0 + 1 : Nat) : Int) := by unfold am_seq; rw [if_neg (by omega)]; omega
      generalize eC : (fun k => am_oC w h s i (am_seq k)) = C at *
      have c1 : am_oC w h s i (-((k0 + 1 : Nat) : Int)) = C (2 * k0 + 1) := by rw [← eC]; show _ = am_oC w h s i (am_seq (2 * k0 + 1)); rw [s1]
      have c2 : am_oC w h s i ((k0 + 1 : Nat) : Int) = C (2 * k0 + 1 + 1) := by rw [← eC]; show _ = am_oC w h s i (am_seq (2 * k0 + 1 + 1)); rw [s2]
      have axb : ∀ n, 0 ≤ (am_ax C n).1 ∧ (am_ax C n).1 ≤ 12 := fun n => by
        have := (am_ax_is (C := C) n).1
        have h2 := ob (am_seq (am_ax C n).2)
        have h3 : am_oC w h s i (am_seq (am_ax C n).2) = C (am_ax C n).2 := by rw [← eC]
        omega
      have a0 := axb (2 * k0)
      have a1 := axb (2 * k0 + 1)
      have b1 := ob (-((k0 + 1 : Nat) : Int))
      have b2 := ob ((k0 + 1 : Nat) : Int)
      have ax1 : am_ax C (2 * k0 + 1) = if (am_ax C (2 * k0)).1 < C (2 * k0 + 1) then (C (2 * k0 + 1), 2 * k0 + 1) else am_ax C (2 * k0) := rfl
      have ax2 : am_ax C (2 * k0 + 1 + 1) = if (am_ax C (2 * k0 + 1)).1 < C (2 * k0 + 1 + 1) then (C (2 * k0 + 1 + 1), 2 * k0 + 1 + 1) else am_ax C (2 * k0 + 1) := rfl
      have second : am_U x m_Fi_clockOff (fun ro2 so2 σ2 => ∃ z2 : Int, ro2 = some (Zi z2) ∧ so2 = am_SH ∧ am_U x m_Sp_off Po σ2 21 [none, none] [Zi z2]) τ 115 [some (Zr 134), none, some (Zi (am_seq (am_ax C (2 * k0 + 1)).2)), some (Zi (am_ax C (2 * k0 + 1)).1), some (Zi ((k0 + 1 : Nat) : Int)), some (Zi ((k0 + 1 : Nat) : Int)), none] [] := by
        have last : ∀ b m, am_U x m_Fi_clockOff (fun ro2 so2 σ2 => ∃ z2 : Int, ro2 = some (Zi z2) ∧ so2 = am_SH ∧ am_U x m_Sp_off Po σ2 21 [none, none] [Zi z2]) τ 103 [some (Zr 134), none, some (Zi b), some (Zi m), some (Zi ((k0 + 1 + 1 : Nat) : Int)), none, none] [] → am_U x m_Fi_clockOff (fun ro2 so2 σ2 => ∃ z2 : Int, ro2 = some (Zi z2) ∧ so2 = am_SH ∧ am_U x m_Sp_off Po σ2 21 [none, none] [Zi z2]) τ 142 [some (Zr 134), none, some (Zi b), some (Zi m), some (Zi ((k0 + 1 : Nat) : Int)), some (Zi ((k0 + 1 : Nat) : Int)), none] [] := fun b m hh => s_Fi_clockOff_142 (s_Fi_clockOff_115 ⟨by omega, by omega, fun _ => hh, fun q => absurd (by omega) q⟩)
        refine s_Fi_clockOff_115 ⟨by omega, by omega, fun q => absurd q (by omega), fun _ => x_countFit lP hS (by omega) ⟨_, rfl, rfl, ?_⟩⟩
        have e9 : am_cF (am_P s) (am_oQ s i) (fun p => am_lo s p - am_oK w h s p) (fun p => am_hi s p - am_oK w h s p) ((k0 + 1 : Nat) : Int) = C (2 * k0 + 1 + 1) := c2
        rw [e9, ← c2]
        rw [← c2] at ax2
        refine ⟨by omega, by omega, fun q3 => last _ _ ?_, fun q3 => last _ _ ?_⟩
        · rw [ax2, if_neg (by omega)] at nx; exact nx
        · rw [ax2, if_pos (by omega), s2] at nx; exact nx
      refine s_Fi_clockOff_103 ⟨by omega, fun q => absurd q (by omega), fun _ => s_Fi_clockOff_115 ⟨by omega, by omega, fun q => absurd q (by omega), fun _ => x_countFit lP hS (by omega) ⟨_, rfl, rfl, ?_⟩⟩⟩
      have e9 : am_cF (am_P s) (am_oQ s i) (fun p => am_lo s p - am_oK w h s p) (fun p => am_hi s p - am_oK w h s p) (-((k0 + 1 : Nat) : Int)) = C (2 * k0 + 1) := c1
      rw [e9, ← c1]
      rw [← c1] at ax1
      have arith : -((k0 + 1 : Nat) : Int) + 2 * ((k0 + 1 : Nat) : Int) = ((k0 + 1 : Nat) : Int) := by omega
      refine ⟨by omega, by omega, fun q3 => s_Fi_clockOff_142 ?_, fun q3 => s_Fi_clockOff_142 ?_⟩
      · rw [arith]
        rw [ax1, if_neg (by omega)] at second; exact second
      · rw [arith]
        rw [ax1, if_pos (by omega), s1] at second; exact second
  have gather : ∀ (d v : Nat) (τ : am_St), v + d = am_P s → am_RX w h s τ → am_RM w2 h2 s2 τ → am_FS (am_P s) (fun p => am_oQ s i p && decide (p < v)) (fun p => am_lo s p - am_oK w h s p) (fun p => am_hi s p - am_oK w h s p) τ → am_U x m_Fi_clockOff (fun ro2 so2 σ2 => ∃ z2 : Int, ro2 = some (Zi z2) ∧ so2 = am_SH ∧ am_U x m_Sp_off Po σ2 21 [none, none] [Zi z2]) τ 7 [some (Zr 134), some (Zi (i : Int)), some (Zi (v : Int)), none, none, none, none] [] := by
    intro d
    induction d with
    | zero =>
      intro v τ hv hX hM hS
      have eP : τ.1 8 6 = (am_P s : Int) := by rw [hX.1.as 8 6 4 (by decide)]; unfold am_P; omega
      have hS' : am_FS (am_P s) (am_oQ s i) (fun p => am_lo s p - am_oK w h s p) (fun p => am_hi s p - am_oK w h s p) τ := hS.c (fun p hp => by rw [decide_eq_true (p := p < v) (by omega), Bool.and_true])
      refine s_Fi_clockOff_7 ?_
      rw [eP]
      refine ⟨by omega, by omega, fun _ => x_countFit lP hS' (by decide) ⟨_, rfl, rfl, ?_⟩, fun q => absurd (by omega) q⟩
      have := far 99 1 τ (by omega) (by omega) hX hM hS'
      rw [show 2 * 1 - 2 = 0 from rfl, show am_ax (fun k => am_oC w h s i (am_seq k)) 0 = (am_oC w h s i 0, 0) from rfl, show am_seq ((am_oC w h s i 0, (0 : Nat))).2 = 0 from (show am_seq 0 = 0 by decide)] at this
      exact this
    | succ d ih =>
      intro v τ hv hX hM hS
      have hvP : v < am_P s := by omega
      obtain ⟨a, b, c8, d9, e1, f1, g, i1, -⟩ := am_OKp hO hvP
      have eP : τ.1 8 6 = (am_P s : Int) := by rw [hX.1.as 8 6 4 (by decide)]; unfold am_P; omega
      refine s_Fi_clockOff_7 ?_
      rw [eP, Int.toNat_natCast v, hX.1.at 13 7 12 (by decide) a]
      refine ⟨by omega, by omega, fun q => absurd q (by omega), fun _ => ⟨by omega, by omega, by omega, fun q2 => s_Fi_clockOff_86 (ih (v + 1) τ (by omega) hX hM (hS.c (fun p hp => ?_))), fun q2 => x_cellOfShake hX hO hvP ⟨_, rfl, rfl, ?_⟩⟩⟩
      · by_cases ep : p = v
        · subst ep
          rw [show am_oQ s i p = false by unfold am_oQ; exact decide_eq_false q2, Bool.false_and, Bool.false_and]
        · congr 1
          exact decide_eq_decide.mpr (by omega)
      · rw [hX.1.at 15 9 12 (by decide) a]
        refine x_spread hX hO f1.2 d9 (fun τ1 g1 h5 h6 => ⟨rfl, rfl, ?_⟩)
        have hX1 := hX.fx g1 (by decide)
        have hM1 := hM.fx g1 (by decide)
        have ec : s 3 i = (am_eC s v : Int) := by have := e1.1; rw [q2, Int.toNat_natCast] at this; exact this
        refine x_begunOf hX1 hO hvP ⟨_, rfl, rfl, ?_⟩
        rw [Int.toNat_natCast i, hX1.1.at 9 3 6 (by decide) (show i < 6 by omega), ec, Int.toNat_natCast, h6 _ e1.2]
        have bK := am_oK_b hO hvP
        have eK : am_bg s v + am_dst w h (am_cost s (s 9 v)) (am_sC s v) (am_eC s v) = am_oK w h s v := rfl
        rw [eK]
        refine ⟨by omega, by omega, x_addSpan hX1 hO hvP (hS.fx (g1.q 134 (by decide)) (fun i => g1.q 135 (by decide)) (fun i => g1.q 136 (by decide))) ?_ rfl rfl (by omega) (fun τ2 g2 hS2 => ⟨rfl, rfl, s_Fi_clockOff_86 (ih (v + 1) τ2 (by omega) (hX1.fx g2 (by decide)) (hM1.fx g2 (by decide)) (hS2.c (fun p hp => ?_)))⟩)⟩
        · show (am_oQ s i v && decide (v < v)) = false
          rw [decide_eq_false (p := v < v) (by omega), Bool.and_false]
        · show ((am_oQ s i p && decide (p < v)) || p == v) = (am_oQ s i p && decide (p < v + 1))
          by_cases ep : p = v
          · subst ep
            rw [show am_oQ s i p = true by unfold am_oQ; exact decide_eq_true q2, decide_eq_true (p := p < p + 1) (by omega)]; simp
          · rw [show (p == v) = false by simpa using ep, Bool.or_false]
            congr 1
            exact decide_eq_decide.mpr (by omega)
  refine s_Fi_clockOff_0 (fun τ f => gather _ 0 τ (Nat.zero_add _) (hX.fx (am_fx.p1 f) (by decide)) (hM.fx (am_fx.p1 f) (by decide)) ⟨0, am_stE f, (am_cnt0.mpr (fun p hp => by rw [decide_eq_false (p := p < 0) (by omega), Bool.and_false])).symm, fun X => (am_cnt0.mpr (fun p hp => by show ((am_oQ s i p && decide (p < 0)) && _) = false; rw [decide_eq_false (p := p < 0) (by omega), Bool.and_false, Bool.false_and])).symm, fun j hj => absurd hj (by omega), fun p hp hq => ?_⟩)
  have hq' : (am_oQ s i p && decide (p < 0)) = true := hq
  rw [decide_eq_false (p := p < 0) (by omega), Bool.and_false] at hq'; cases hq'
end AMJ
