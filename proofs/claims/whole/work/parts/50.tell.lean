/-! ===== tellings, spans, foretold times ===== -/
def am_lst (s : Nat → Nat → Int) (p : Nat) (D : Int) : Nat → Int
  | 0 => -1
  | n + 1 => if s 10 n = (p : Int) ∧ s 11 n ≤ D then (n : Int) else am_lst s p D n
theorem am_lst_b {s : Nat → Nat → Int} {p : Nat} {D : Int} : ∀ n : Nat, -1 ≤ am_lst s p D n ∧ am_lst s p D n < (n : Int)
  | 0 => by show (-1 : Int) ≤ -1 ∧ (-1 : Int) < 0; decide
  | n + 1 => by
    have := am_lst_b (s := s) (p := p) (D := D) n
    show -1 ≤ (if s 10 n = (p : Int) ∧ s 11 n ≤ D then (n : Int) else am_lst s p D n) ∧ (if s 10 n = (p : Int) ∧ s 11 n ≤ D then (n : Int) else am_lst s p D n) < _
    split <;> omega
theorem am_lst_in {s : Nat → Nat → Int} {p : Nat} {D : Int} : ∀ {n t : Nat}, t < n → s 10 t = (p : Int) → s 11 t ≤ D → 0 ≤ am_lst s p D n
  | 0, t, h, _, _ => absurd h (Nat.not_lt_zero t)
  | n + 1, t, h, h1, h2 => by
    show 0 ≤ (if s 10 n = (p : Int) ∧ s 11 n ≤ D then (n : Int) else am_lst s p D n)
    split
    · exact Int.natCast_nonneg _
    · rename_i q
      rcases Nat.lt_or_ge t n with g | g
      · exact am_lst_in g h1 h2
      · have : t = n := by omega
        rw [this] at h1 h2
        exact absurd ⟨h1, h2⟩ q
def am_T (s : Nat → Nat → Int) : Nat := (s 0 5).toNat
def am_P (s : Nat → Nat → Int) : Nat := (s 0 4).toNat
theorem am_lst_day {w h : Nat} {s : Nat → Nat → Int} (hO : am_OK w h s) {p : Nat} (hp : p < am_P s) : 0 ≤ am_lst s p (s 0 1) (am_T s) := by
  obtain ⟨-, -, -, -, -, hP, hT, -, -, -, -, -, -, -, -, ht, -, he, -⟩ := hO
  unfold am_P at hp
  obtain ⟨t, h1, h2⟩ := he p (by omega)
  exact am_lst_in (t := t) (by unfold am_T; omega) h2 (ht t h1).2.1.2
def am_lo (s : Nat → Nat → Int) (p : Nat) : Int := s 12 (am_lst s p (s 0 1) (am_T s)).toNat
def am_hi (s : Nat → Nat → Int) (p : Nat) : Int := s 13 (am_lst s p (s 0 1) (am_T s)).toNat
def am_off (lo hi v : Int) : Int := if v < lo then lo - v else if hi < v then v - hi else 0
def am_eC (s : Nat → Nat → Int) (p : Nat) : Nat := (s 3 (s 7 p).toNat).toNat
def am_sC (s : Nat → Nat → Int) (p : Nat) : Nat := (s 5 (s 8 p).toNat).toNat
def am_clk (s : Nat → Nat → Int) (p : Nat) : Int := s 4 (s 7 p).toNat
def am_bg (s : Nat → Nat → Int) (p : Nat) : Int := s 6 (s 8 p).toNat
noncomputable def am_ft (w h : Nat) (s : Nat → Nat → Int) (p : Nat) : Int := am_bg s p + am_dst w h (am_cost s (s 9 p)) (am_sC s p) (am_eC s p) + am_clk s p
theorem am_OKp {w h : Nat} {s : Nat → Nat → Int} (hO : am_OK w h s) {p : Nat} (hp : p < am_P s) : p < 12 ∧ (0 ≤ s 7 p ∧ s 7 p < 6) ∧ (0 ≤ s 8 p ∧ s 8 p < 5) ∧ (s 9 p = 0 ∨ s 9 p = 1) ∧ (s 3 (s 7 p).toNat = (am_eC s p : Int) ∧ am_eC s p < w * h) ∧ (s 5 (s 8 p).toNat = (am_sC s p : Int) ∧ am_sC s p < w * h) ∧ (-99 ≤ am_clk s p ∧ am_clk s p ≤ 99) ∧ (0 ≤ am_bg s p ∧ am_bg s p ≤ 1000) ∧ s 7 p < s 0 2 ∧ s 8 p < s 0 3 := by
  obtain ⟨-, -, -, hE, hS, hP, -, -, -, -, h3, h4, h5, h6, h7, -⟩ := hO
  unfold am_P at hp
  obtain ⟨⟨a1, a2⟩, ⟨b1, b2⟩, c⟩ := h7 p (by omega)
  have e3 := h3 (s 7 p).toNat (by omega)
  have e5 := h5 (s 8 p).toNat (by omega)
  have e4 := h4 (s 7 p).toNat (by omega)
  have e6 := h6 (s 8 p).toNat (by omega)
  unfold am_eC am_sC am_clk am_bg
  exact ⟨by omega, by omega, by omega, c, by omega, by omega, e4, e6, a2, b2⟩
theorem am_OKb {w h : Nat} {s : Nat → Nat → Int} (hO : am_OK w h s) : (0 ≤ s 0 4 ∧ s 0 4 ≤ 12) ∧ (0 ≤ s 0 5 ∧ s 0 5 ≤ 40) ∧ (0 ≤ s 0 1 ∧ s 0 1 ≤ 500) ∧ (0 ≤ s 0 2 ∧ s 0 2 ≤ 6) ∧ (0 ≤ s 0 3 ∧ s 0 3 ≤ 5) := ⟨hO.2.2.2.2.2.1, hO.2.2.2.2.2.2.1, hO.2.2.1, hO.2.2.2.1, hO.2.2.2.2.1⟩
theorem am_OKt {w h : Nat} {s : Nat → Nat → Int} (hO : am_OK w h s) {t : Nat} (ht : t < am_T s) : t < 40 ∧ (0 ≤ s 10 t ∧ s 10 t < s 0 4) ∧ (0 ≤ s 11 t ∧ s 11 t ≤ s 0 1) ∧ (0 ≤ s 12 t ∧ s 12 t ≤ s 13 t ∧ s 13 t ≤ 3000) := by
  obtain ⟨-, -, -, -, -, -, hT, -, -, -, -, -, -, -, -, h7, -⟩ := hO
  unfold am_T at ht
  exact ⟨by omega, h7 t (by omega)⟩
theorem am_dst_b {w h : Nat} {s : Nat → Nat → Int} {k : Int} {f b : Nat} (hO : am_OK w h s) (hf : f < w * h) (hb : b < w * h) : 0 ≤ am_dst w h (am_cost s k) f b ∧ am_dst w h (am_cost s k) f b ≤ 2160 :=
  have hc : ∀ b, b < w * h → 1 ≤ am_cost s k b ∧ am_cost s k b ≤ 180 := fun _ hb => am_cost_b hO hb
  (am_dst_is hO.1 hc hf).bd hO.1 hc hb
theorem am_ft_b {w h : Nat} {s : Nat → Nat → Int} (hO : am_OK w h s) {p : Nat} (hp : p < am_P s) : -99 ≤ am_ft w h s p ∧ am_ft w h s p ≤ 3259 := by
  obtain ⟨-, -, -, -, ⟨-, e⟩, ⟨-, f⟩, g, i, -⟩ := am_OKp hO hp
  have := am_dst_b (k := s 9 p) hO f e
  unfold am_ft
  omega
theorem am_lohi {w h : Nat} {s : Nat → Nat → Int} (hO : am_OK w h s) {p : Nat} (hp : p < am_P s) : 0 ≤ am_lo s p ∧ am_lo s p ≤ am_hi s p ∧ am_hi s p ≤ 3000 := by
  have h1 := am_lst_day hO hp
  have h2 := am_lst_b (s := s) (p := p) (D := s 0 1) (am_T s)
  exact (am_OKt hO (t := (am_lst s p (s 0 1) (am_T s)).toNat) (by omega)).2.2.2
def am_sum (f : Nat → Int) : Nat → Int
  | 0 => 0
  | n + 1 => am_sum f n + f n
theorem am_sum_b {f : Nat → Int} {B : Int} : ∀ {n : Nat}, (∀ i, i < n → 0 ≤ f i ∧ f i ≤ B) → 0 ≤ am_sum f n ∧ am_sum f n ≤ (n : Int) * B
  | 0, _ => by show (0 : Int) ≤ 0 ∧ (0 : Int) ≤ ((0 : Nat) : Int) * B; simp
  | n + 1, h => by
    have h1 := am_sum_b (n := n) (fun i hi => h i (by omega))
    have h2 := h n (by omega)
    show 0 ≤ am_sum f n + f n ∧ am_sum f n + f n ≤ ((n + 1 : Nat) : Int) * B
    have : ((n + 1 : Nat) : Int) * B = (n : Int) * B + B := by push_cast; rw [Int.add_mul, Int.one_mul]
    omega
theorem am_sum_c {f g : Nat → Int} : ∀ {n : Nat}, (∀ i, i < n → f i = g i) → am_sum f n = am_sum g n
  | 0, _ => rfl
  | n + 1, h => by
    show am_sum f n + f n = am_sum g n + g n
    rw [am_sum_c (fun i hi => h i (by omega)), h n (by omega)]
theorem am_off_b {lo hi v : Int} (h1 : -5000 ≤ lo ∧ lo ≤ 5000) (h2 : -5000 ≤ hi ∧ hi ≤ 5000) (h3 : -5000 ≤ v ∧ v ≤ 5000) : 0 ≤ am_off lo hi v ∧ am_off lo hi v ≤ 10000 := by
  unfold am_off
  split
  · omega
  · split <;> omega
section AMX
variable {x : am_Sc} {Po : Option am_AV → am_Sh → am_St → Prop} {σ : am_St} {w h w2 h2 : Nat} {s s2 : Nat → Nat → Int}
theorem c_max {a b : Int} (ra : am_r a) (rb : am_r b) (kk : Po (some (Zi (if a < b then b else a))) am_SH σ) : am_U x m_Ma_max Po σ 0 [some (Zi a), some (Zi b)] [] := by
  refine s_Ma_max_0 ⟨ra, rb, fun q => s_Ma_max_10 ?_, fun q => s_Ma_max_10 ?_⟩
  · rw [if_pos q] at kk; exact kk
  · rw [if_neg q] at kk; exact kk
theorem c_missed {v lo hi : Int} (rv : -5000 ≤ v ∧ v ≤ 5000) (rl : -5000 ≤ lo ∧ lo ≤ 5000) (rh : -5000 ≤ hi ∧ hi ≤ 5000) (hl : lo ≤ hi) (kk : Po (some (Zi (am_off lo hi v))) am_SH σ) : am_U x m_Sp_missedBy Po σ 0 [some (Zi v), some (Zi lo), some (Zi hi)] [] := by
  refine s_Sp_missedBy_0 (c_max (by omega) (by omega) ⟨_, rfl, rfl, c_max (by decide) (by split <;> omega) ⟨_, rfl, rfl, ?_⟩⟩)
  have e : (if 0 < (if lo - v < v - hi then v - hi else lo - v) then (if lo - v < v - hi then v - hi else lo - v) else 0) = am_off lo hi v := by
    unfold am_off
    by_cases q1 : lo - v < v - hi
    · rw [if_pos q1, if_neg (show ¬ v < lo by omega)]
      by_cases q2 : hi < v
      · rw [if_pos q2, if_pos (by omega)]
      · rw [if_neg q2, if_neg (by omega)]
    · rw [if_neg q1]
      by_cases q2 : v < lo
      · rw [if_pos q2, if_pos (by omega)]
      · rw [if_neg q2, if_neg (by omega), if_neg (by omega)]
  rw [e]; exact kk
theorem x_lastT {p : Nat} {D : Int} (hX : am_RX w h s σ) (hO : am_OK w h s) (hp : p < 12) (rD : am_r D) (kk : Po (some (Zi (am_lst s p D (am_T s)))) am_SH σ) : am_U x m_Bo_lastTelling Po σ 0 [some (Zr 8), some (Zi (p : Int)), some (Zi D), none] [] := by
  obtain ⟨bP, bT, bD, -⟩ := am_OKb hO
  have eT : σ.1 8 10 = ((am_T s : Nat) : Int) := by rw [hX.1.as 8 10 5 (by decide)]; unfold am_T; omega
  have loop : ∀ n : Nat, n ≤ am_T s → am_lst s p D (am_T s) = am_lst s p D n → am_U x m_Bo_lastTelling Po σ 7 [some (Zr 8), some (Zi (p : Int)), some (Zi D), some (Zi ((n : Int) - 1))] [] := by
    intro n
    induction n with
    | zero =>
      intro hn he
      refine s_Bo_lastTelling_7 ⟨by omega, fun _ => ?_, fun q => absurd (by omega) q⟩
      rw [he] at kk; exact kk
    | succ n ih =>
      intro hn he
      obtain ⟨t1, t2, t3, t4⟩ := am_OKt hO (t := n) (by omega)
      have e1 : σ.1 16 n = s 10 n := hX.1.at 16 10 40 (by decide) t1
      have e2 : σ.1 17 n = s 11 n := hX.1.at 17 11 40 (by decide) t1
      rw [show ((n + 1 : Nat) : Int) - 1 = (n : Int) by omega]
      have he2 : am_lst s p D (n + 1) = if s 10 n = (p : Int) ∧ s 11 n ≤ D then (n : Int) else am_lst s p D n := rfl
      have nxt : am_lst s p D (am_T s) = am_lst s p D n → am_U x m_Bo_lastTelling Po σ 33 [some (Zr 8), some (Zi (p : Int)), some (Zi D), some (Zi (n : Int))] [] := fun e => s_Bo_lastTelling_33 (ih (by omega) e)
      refine s_Bo_lastTelling_7 ⟨by omega, fun q => absurd q (by omega), fun _ => ⟨by omega, ?_⟩⟩
      rw [Int.toNat_natCast, e1, e2]
      refine ⟨by omega, by omega, fun q => nxt ?_, fun q => ⟨by omega, rD, fun q2 => nxt ?_, fun q2 => ?_⟩⟩
      · rw [he, he2, if_neg (fun z => q z.1)]
      · rw [he, he2, if_neg (by omega)]
      · rw [he, he2, if_pos ⟨q, by omega⟩] at kk; exact kk
  refine s_Bo_lastTelling_0 ?_
  rw [eT]
  exact loop _ (Nat.le_refl _) rfl
theorem x_lowNow {p : Nat} (hX : am_RX w h s σ) (hO : am_OK w h s) (hp : p < am_P s) (kk : Po (some (Zi (am_lo s p))) am_SH σ) : am_U x m_Bo_lowNow Po σ 0 [some (Zr 8), some (Zi (p : Int)), none] [] := by
  obtain ⟨bP, bT, bD, -⟩ := am_OKb hO
  have h1 := am_lst_day hO hp
  have h2 := am_lst_b (s := s) (p := p) (D := s 0 1) (am_T s)
  have eT : (am_T s : Int) ≤ 40 := by unfold am_T; omega
  refine s_Bo_lowNow_0 ?_
  rw [hX.1.as 8 15 1 (by decide)]
  refine x_lastT hX hO (am_OKp hO hp).1 (by omega) ⟨_, rfl, rfl, by omega, fun q => absurd q (by omega), fun _ => ⟨by omega, s_Bo_lowNow_24 ?_⟩⟩
  rw [hX.1.at 18 12 40 (by decide) (by omega)]; exact kk
theorem x_highNow {p : Nat} (hX : am_RX w h s σ) (hO : am_OK w h s) (hp : p < am_P s) (kk : Po (some (Zi (am_hi s p))) am_SH σ) : am_U x m_Bo_highNow Po σ 0 [some (Zr 8), some (Zi (p : Int)), none] [] := by
  obtain ⟨bP, bT, bD, -⟩ := am_OKb hO
  have h1 := am_lst_day hO hp
  have h2 := am_lst_b (s := s) (p := p) (D := s 0 1) (am_T s)
  have eT : (am_T s : Int) ≤ 40 := by unfold am_T; omega
  refine s_Bo_highNow_0 ?_
  rw [hX.1.as 8 15 1 (by decide)]
  refine x_lastT hX hO (am_OKp hO hp).1 (by omega) ⟨_, rfl, rfl, by omega, fun q => absurd q (by omega), fun _ => ⟨by omega, s_Bo_highNow_24 ?_⟩⟩
  rw [hX.1.at 19 13 40 (by decide) (by omega)]; exact kk
theorem x_cellOfEar {p : Nat} (hX : am_RX w h s σ) (hO : am_OK w h s) (hp : p < am_P s) (kk : Po (some (Zi (am_eC s p : Int))) am_SH σ) : am_U x m_Bo_cellOfEar Po σ 0 [some (Zr 8), some (Zi (p : Int))] [] := by
  obtain ⟨a, b, c, d, e, f, g, i, -⟩ := am_OKp hO hp
  refine s_Bo_cellOfEar_0 ?_
  rw [Int.toNat_natCast, hX.1.at 13 7 12 (by decide) a, hX.1.at 9 3 6 (by decide) (show (s 7 p).toNat < 6 by omega), e.1]
  exact ⟨by omega, by omega, kk⟩
theorem x_cellOfShake {p : Nat} (hX : am_RX w h s σ) (hO : am_OK w h s) (hp : p < am_P s) (kk : Po (some (Zi (am_sC s p : Int))) am_SH σ) : am_U x m_Bo_cellOfShake Po σ 0 [some (Zr 8), some (Zi (p : Int))] [] := by
  obtain ⟨a, b, c, d, e, f, g, i, -⟩ := am_OKp hO hp
  refine s_Bo_cellOfShake_0 ?_
  rw [Int.toNat_natCast, hX.1.at 14 8 12 (by decide) a, hX.1.at 11 5 5 (by decide) (show (s 8 p).toNat < 5 by omega), f.1]
  exact ⟨by omega, by omega, kk⟩
theorem x_clockOf {p : Nat} (hX : am_RX w h s σ) (hO : am_OK w h s) (hp : p < am_P s) (kk : Po (some (Zi (am_clk s p))) am_SH σ) : am_U x m_Bo_clockOf Po σ 0 [some (Zr 8), some (Zi (p : Int))] [] := by
  obtain ⟨a, b, c, d, e, f, g, i, -⟩ := am_OKp hO hp
  refine s_Bo_clockOf_0 ?_
  rw [Int.toNat_natCast, hX.1.at 13 7 12 (by decide) a, hX.1.at 10 4 6 (by decide) (show (s 7 p).toNat < 6 by omega)]
  exact ⟨by omega, by omega, kk⟩
theorem x_begunOf {p : Nat} (hX : am_RX w h s σ) (hO : am_OK w h s) (hp : p < am_P s) (kk : Po (some (Zi (am_bg s p))) am_SH σ) : am_U x m_Bo_begunOf Po σ 0 [some (Zr 8), some (Zi (p : Int))] [] := by
  obtain ⟨a, b, c, d, e, f, g, i, -⟩ := am_OKp hO hp
  refine s_Bo_begunOf_0 ?_
  rw [Int.toNat_natCast, hX.1.at 14 8 12 (by decide) a, hX.1.at 12 6 5 (by decide) (show (s 8 p).toNat < 5 by omega)]
  exact ⟨by omega, by omega, kk⟩
theorem x_foretold {p : Nat} (hX : am_RX w h s σ) (hO : am_OK w h s) (hp : p < am_P s) (kk : ∀ σ', am_fx [5, 6] [] σ σ' → Po (some (Zi (am_ft w h s p))) am_SH σ') : am_U x m_Ft_foretold Po σ 0 [some (Zr 35), some (Zi (p : Int))] [] := by
  obtain ⟨a, b, c, d, e, f, g, i, -⟩ := am_OKp hO hp
  have hwh := am_wh hO
  refine s_Ft_foretold_0 (x_cellOfShake hX hO hp ⟨_, rfl, rfl, by omega, ?_⟩)
  rw [Int.toNat_natCast, hX.1.at 15 9 12 (by decide) a]
  refine x_spread hX hO f.2 d (fun σ1 hf h5 h6 => ⟨rfl, rfl, ?_⟩)
  have hX1 := hX.fx hf (by decide)
  refine x_begunOf hX1 hO hp ⟨_, rfl, rfl, x_cellOfEar hX1 hO hp ⟨_, rfl, rfl, by omega, x_clockOf hX1 hO hp ⟨_, rfl, rfl, ?_⟩⟩⟩
  rw [Int.toNat_natCast, h6 _ e.2]
  exact kk σ1 hf
/-! the model's -/
def am_SP (s : Nat → Nat → Int) (D : Int) (T : Nat) (σ : am_St) : Prop := ∀ p, p < am_P s → σ.1 163 p = (if 0 ≤ am_lst s p D T then 1 else 0) ∧ (0 ≤ am_lst s p D T → σ.1 161 p = s 12 (am_lst s p D T).toNat ∧ σ.1 162 p = s 13 (am_lst s p D T).toNat)
theorem m_findSpans {D : Int} (hM : am_RM w h s σ) (hO : am_OK w h s) (rD : am_r D) (kk : ∀ σ', am_fx [161, 162, 163] [] σ σ' → am_SP s D (am_T s) σ' → Po none am_SH σ') : am_U x m_Mo_findSpans Po σ 0 [some (Zr 147), some (Zi D), none] [] := by
  obtain ⟨bP, bT, bD, -⟩ := am_OKb hO
  have eP : σ.1 147 11 = (am_P s : Int) := by rw [hM.1.as 147 11 4 (by decide)]; unfold am_P; omega
  have eT : σ.1 147 15 = (am_T s : Int) := by rw [hM.1.as 147 15 5 (by decide)]; unfold am_T; omega
  have lP : am_P s ≤ 12 := by unfold am_P; omega
  have lT : am_T s ≤ 40 := by unfold am_T; omega
  have loop2 : ∀ (d t : Nat) (τ : am_St), t + d = am_T s → am_fx [161, 162, 163] [] σ τ → am_SP s D t τ → am_U x m_Mo_findSpans Po τ 25 [some (Zr 147), some (Zi D), some (Zi (t : Int))] [] := by
    intro d
    induction d with
    | zero =>
      intro t τ ht hf hS
      refine s_Mo_findSpans_25 ?_
      rw [hf.g 147 (by decide), eT]
      refine ⟨by omega, by omega, fun _ => kk τ hf ?_, fun q => absurd (by omega) q⟩
      rw [← show t = am_T s by omega]; exact hS
    | succ d ih =>
      intro t τ ht hf hS
      obtain ⟨t1, t2, t3, t4⟩ := am_OKt hO (t := t) (by omega)
      have e1 : τ.1 157 t = s 10 t := by rw [hf.g 157 (by decide)]; exact hM.1.at 157 10 40 (by decide) t1
      have e2 : τ.1 158 t = s 11 t := by rw [hf.g 158 (by decide)]; exact hM.1.at 158 11 40 (by decide) t1
      have e3 : τ.1 159 t = s 12 t := by rw [hf.g 159 (by decide)]; exact hM.1.at 159 12 40 (by decide) t1
      have e4 : τ.1 160 t = s 13 t := by rw [hf.g 160 (by decide)]; exact hM.1.at 160 13 40 (by decide) t1
      have he2 : ∀ p : Nat, am_lst s p D (t + 1) = if s 10 t = (p : Int) ∧ s 11 t ≤ D then (t : Int) else am_lst s p D t := fun _ => rfl
      refine s_Mo_findSpans_25 ?_
      rw [hf.g 147 (by decide), eT, Int.toNat_natCast, e2, e1]
      refine ⟨by omega, by omega, fun q => absurd q (by omega), fun _ => ⟨by omega, by omega, rD, fun q => ?_, fun q => ⟨by omega, fun τ1 f1 => ?_⟩⟩⟩
      · refine s_Mo_findSpans_89 (ih (t + 1) τ (by omega) hf (fun p hp => ?_))
        rw [he2, if_neg (show ¬ (s 10 t = (p : Int) ∧ s 11 t ≤ D) by omega)]; exact hS p hp
      · have g1 : τ1.1 157 t = s 10 t := by rw [f1]; exact e1
        rw [g1]
        refine ⟨by omega, fun τ2 f2 => ?_⟩
        have g2 : τ2.1 157 t = s 10 t := by rw [f2]; exact g1
        rw [g2]
        refine ⟨by omega, fun τ3 f3 => s_Mo_findSpans_89 (ih (t + 1) τ3 (by omega) ?_ (fun p hp => ?_))⟩
        · refine hf.tr (σ1 := τ) (ks' := [161, 162, 163]) (ps' := []) ?_ (by decide) (by decide)
          refine am_fx.tr (σ1 := τ1) (ks := [163]) (ps := []) (ks' := [161, 162]) (ps' := []) (by rw [f1]; exact am_fx.up) ?_ (by decide) (by decide)
          exact am_fx.tr (σ1 := τ2) (ks := [161]) (ps := []) (ks' := [162]) (ps' := []) (by rw [f2]; exact am_fx.up) (by rw [f3]; exact am_fx.up) (by decide) (by decide)
        · have k3 : τ3.1 163 p = if p = (s 10 t).toNat then 1 else τ.1 163 p := by
            rw [f3]; show τ2.1 163 p = _; rw [f2]; show τ1.1 163 p = _; rw [f1]
            show am_up τ.1 163 _ _ 163 p = _
            rw [am_up_row]
          have k1 : τ3.1 161 p = if p = (s 10 t).toNat then s 12 t else τ.1 161 p := by
            rw [f3]; show τ2.1 161 p = _; rw [f2]
            show am_up τ1.1 161 _ _ 161 p = _
            rw [am_up_row, f1]
            show (if p = _ then τ.1 159 t else τ.1 161 p) = _
            rw [e3]
          have k2 : τ3.1 162 p = if p = (s 10 t).toNat then s 13 t else τ.1 162 p := by
            rw [f3]
            show am_up τ2.1 162 _ _ 162 p = _
            rw [am_up_row, f2, f1]
            show (if p = _ then τ.1 160 t else τ.1 162 p) = _
            rw [e4]
          rw [he2, k3, k1, k2]
          by_cases ep : p = (s 10 t).toNat
          · rw [if_pos ep, if_pos ep, if_pos ep, if_pos (show s 10 t = (p : Int) ∧ s 11 t ≤ D by omega), if_pos (by omega), Int.toNat_natCast]
            exact ⟨rfl, fun _ => ⟨rfl, rfl⟩⟩
          · rw [if_neg ep, if_neg ep, if_neg ep, if_neg (show ¬ (s 10 t = (p : Int) ∧ s 11 t ≤ D) by omega)]
            exact hS p hp
  have loop1 : ∀ (d p : Nat) (τ : am_St), p + d = am_P s → am_fx [161, 162, 163] [] σ τ → (∀ p', p' < p → τ.1 163 p' = 0) → am_U x m_Mo_findSpans Po τ 2 [some (Zr 147), some (Zi D), some (Zi (p : Int))] [] := by
    intro d
    induction d with
    | zero =>
      intro p τ hp hf h0
      refine s_Mo_findSpans_2 ?_
      rw [hf.g 147 (by decide), eP]
      refine ⟨by omega, by omega, fun _ => loop2 _ 0 τ (Nat.zero_add _) hf (fun p' hp' => ⟨?_, fun q => absurd q (show ¬ (0 : Int) ≤ -1 by decide)⟩), fun q => absurd (by omega) q⟩
      rw [h0 p' (by omega)]; rfl
    | succ d ih =>
      intro p τ hp hf h0
      refine s_Mo_findSpans_2 ?_
      rw [hf.g 147 (by decide), eP, Int.toNat_natCast]
      refine ⟨by omega, by omega, fun q => absurd q (by omega), fun _ => ⟨by omega, fun τ1 f1 => ih (p + 1) τ1 (by omega) (hf.tr (σ1 := τ) (ks' := [163]) (ps' := []) (by rw [f1]; exact am_fx.up) (by decide) (by decide)) (fun p' hp' => ?_)⟩⟩
      rw [f1]
      show am_up τ.1 163 p 0 163 p' = 0
      rw [am_up_row]
      show (if p' = p then (0 : Int) else τ.1 163 p') = 0
      split
      · rfl
      · exact h0 p' (by omega)
  exact s_Mo_findSpans_0 (loop1 _ 0 σ (Nat.zero_add _) am_fx.rf (fun p' hp' => absurd hp' (by omega)))
def am_ST (w h : Nat) (s : Nat → Nat → Int) (n : Nat) (σ : am_St) : Prop := ∀ sh kd c : Nat, 2 * sh + kd < n → kd < 2 → c < w * h → σ.1 165 (16 * (2 * sh + kd) + c) = am_dst w h (am_cost s (kd : Int)) (s 5 sh).toNat c
theorem m_shakeTimes (hM : am_RM w h s σ) (hO : am_OK w h s) (kk : ∀ σ', am_fx [164, 165] [] σ σ' → am_ST w h s (2 * (s 0 3).toNat) σ' → Po none am_SH σ') : am_U x m_Mo_findShakeTimes Po σ 0 [some (Zr 147), none, none] [] := by
  obtain ⟨-, -, -, -, bS⟩ := am_OKb hO
  have hwh := am_wh hO
  have eS : σ.1 147 8 = s 0 3 := hM.1.as 147 8 3 (by decide)
  have loop : ∀ (d k : Nat) (τ : am_St), k + d = 2 * (s 0 3).toNat → am_fx [164, 165] [] σ τ → am_ST w h s k τ → am_U x m_Mo_findShakeTimes Po τ 2 [some (Zr 147), some (Zi (k : Int)), none] [] := by
    intro d
    induction d with
    | zero =>
      intro k τ hk hf hS
      refine s_Mo_findShakeTimes_2 ?_
      rw [hf.g 147 (by decide), eS]
      refine ⟨by omega, by omega, fun _ => kk τ hf ?_, fun q => absurd (by omega) q⟩
      rw [← show k = 2 * (s 0 3).toNat by omega]; exact hS
    | succ d ih =>
      intro k τ hk hf hS
      have ed : am_div (k : Int) 2 = ((k / 2 : Nat) : Int) := by rw [am_div_nn (by omega) (by decide) (by omega) (by decide)]; rfl
      have er : am_rem (k : Int) 2 = ((k % 2 : Nat) : Int) := by rw [am_rem_nn (by omega) (by decide) (by omega)]; rfl
      have e5 : τ.1 152 (k / 2) = s 5 (k / 2) := by rw [hf.g 152 (by decide)]; exact hM.1.at 152 5 5 (by decide) (by omega)
      have b5 := hO.2.2.2.2.2.2.2.2.2.2.2.2.1 (k / 2) (by omega)
      have hMt := hM.fx hf (by decide)
      refine s_Mo_findShakeTimes_2 ?_
      rw [hf.g 147 (by decide), eS, ed, er, Int.toNat_natCast, e5]
      refine ⟨by omega, by omega, fun q => absurd q (by omega), fun _ => ⟨by omega, ?_⟩⟩
      have e55 : s 5 (k / 2) = ((s 5 (k / 2)).toNat : Int) := by omega
      rw [e55]
      refine m_findTimes hMt hO (by omega) (by omega) (fun τ1 f1 h1 => ⟨rfl, rfl, ?_⟩)
      have inner : ∀ (d c : Nat) (τ2 : am_St), c + d = 16 → am_fx [164, 165] [] σ τ2 → am_ST w h s k τ2 → (∀ b, b < w * h → τ2.1 164 b = am_dst w h (am_cost s ((k % 2 : Nat) : Int)) (s 5 (k / 2)).toNat b) → (∀ c', c' < c → τ2.1 165 (16 * k + c') = τ2.1 164 c') → am_U x m_Mo_findShakeTimes Po τ2 29 [some (Zr 147), some (Zi (k : Int)), some (Zi (c : Int))] [] := by
        intro d
        induction d with
        | zero =>
          intro c τ2 hc hf2 hS2 h2 h3
          refine s_Mo_findShakeTimes_29 ⟨by omega, fun _ => ih (k + 1) τ2 (by omega) hf2 (fun sh kd c' h4 h5 h6 => ?_), fun q => absurd (by omega) q⟩
          rcases Nat.lt_or_ge (2 * sh + kd) k with q | q
          · exact hS2 sh kd c' q h5 h6
          · have e9 : 2 * sh + kd = k := by omega
            rw [e9, h3 c' (by omega), h2 c' h6, show kd = k % 2 by omega, show sh = k / 2 by omega]
        | succ d ihd =>
          intro c τ2 hc hf2 hS2 h2 h3
          refine s_Mo_findShakeTimes_29 ⟨by omega, fun q => absurd q (by omega), fun _ => ⟨by omega, by omega, fun τ3 f3 => ?_⟩⟩
          rw [Int.toNat_natCast, show (16 * (k : Int) + (c : Int)).toNat = 16 * k + c by omega] at f3
          have k5 : ∀ j, τ3.1 165 j = if j = 16 * k + c then τ2.1 164 c else τ2.1 165 j := fun j => by
            rw [f3]; show am_up τ2.1 165 _ _ 165 j = _; rw [am_up_row]
          have k4 : ∀ j, τ3.1 164 j = τ2.1 164 j := fun j => by rw [f3]; rfl
          refine ihd (c + 1) τ3 (by omega) (hf2.tr (σ1 := τ2) (ks' := [165]) (ps' := []) (by rw [f3]; exact am_fx.up) (by decide) (by decide)) (fun sh kd c' h4 h5 h6 => ?_) (fun b hb => by rw [k4]; exact h2 b hb) (fun c' hc' => ?_)
          · rw [k5, if_neg (by omega)]; exact hS2 sh kd c' h4 h5 h6
          · rw [k5, k4]
            by_cases e : c' = c
            · rw [if_pos (by omega), e]
            · rw [if_neg (by omega)]; exact h3 c' (by omega)
      exact inner 16 0 τ1 (by omega) (hf.tr f1 (by decide) (by decide)) (fun sh kd c' h4 h5 h6 => by rw [f1.g 165 (by decide)]; exact hS sh kd c' h4 h5 h6) h1 (fun c' hc' => absurd hc' (by omega))
  exact s_Mo_findShakeTimes_0 (loop _ 0 σ (Nat.zero_add _) am_fx.rf (fun sh kd c' h4 => absurd h4 (by omega)))
theorem m_foretold {p : Nat} (hM : am_RM w h s σ) (hO : am_OK w h s) (hp : p < am_P s) (hS : am_ST w h s (2 * (s 0 3).toNat) σ) (kk : Po (some (Zi (am_ft w h s p))) am_SH σ) : am_U x m_Mo_foretold Po σ 0 [some (Zr 147), some (Zi (p : Int)), none] [] := by
  obtain ⟨a, b, c, d, e, f, g, i, j1, j2⟩ := am_OKp hO hp
  have hwh := am_wh hO
  refine s_Mo_foretold_0 ?_
  rw [Int.toNat_natCast, hM.1.at 155 8 12 (by decide) a, hM.1.at 154 7 12 (by decide) a, hM.1.at 156 9 12 (by decide) a, hM.1.at 150 3 6 (by decide) (show (s 7 p).toNat < 6 by omega), hM.1.at 151 4 6 (by decide) (show (s 7 p).toNat < 6 by omega), hM.1.at 153 6 5 (by decide) (show (s 8 p).toNat < 5 by omega), e.1]
  refine ⟨by omega, by omega, by omega, by omega, ?_⟩
  have := hS (s 8 p).toNat (s 9 p).toNat (am_eC s p) (by omega) (by omega) e.2
  rw [show (16 * (2 * s 8 p + s 9 p) + (am_eC s p : Int)).toNat = 16 * (2 * (s 8 p).toNat + (s 9 p).toNat) + am_eC s p by omega, this, show (((s 9 p).toNat : Nat) : Int) = s 9 p by omega]
  exact kk
theorem m_offOf {p : Nat} {v lo hi : Int} (hp : p < 12) (hv : am_r v) (el : σ.1 161 p = lo) (eh : σ.1 162 p = hi) (rl : am_r lo) (rh : am_r hi) (kk : Po (some (Zi (am_off lo hi v))) am_SH σ) : am_U x m_Mo_offOf Po σ 0 [some (Zr 147), some (Zi (p : Int)), some (Zi v)] [] := by
  refine s_Mo_offOf_0 ?_
  rw [Int.toNat_natCast, el, eh]
  refine ⟨by omega, hv, rl, fun q => ⟨rh, fun q2 => s_Mo_offOf_43 ?_, fun q2 => s_Mo_offOf_43 ?_⟩, fun q => s_Mo_offOf_43 ?_⟩
  · unfold am_off at kk; rw [if_neg (by omega), if_neg (by omega)] at kk; exact kk
  · unfold am_off at kk; rw [if_neg (by omega), if_pos (by omega)] at kk; exact kk
  · unfold am_off at kk; rw [if_pos (by omega)] at kk; exact kk
end AMX
