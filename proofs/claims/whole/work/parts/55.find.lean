/-! ===== the finder of the class: heaps of picks, clocks off ===== -/
theorem am_stR {σ σ1 : am_St} {k j : Nat} {v : Int} (e : σ1 = (am_up σ.1 k j v, σ.2)) (j' : Nat) : σ1.1 k j' = if j' = j then v else σ.1 k j' := by rw [e]; show am_up σ.1 k j v k j' = _; rw [am_up_row]
theorem am_stE {σ σ1 : am_St} {k j : Nat} {v : Int} (e : σ1 = (am_up σ.1 k j v, σ.2)) : σ1.1 k j = v := by rw [am_stR e, if_pos rfl]
theorem am_stN {σ σ1 : am_St} {k j : Nat} {v : Int} (e : σ1 = (am_up σ.1 k j v, σ.2)) {j' : Nat} (h : j' ≠ j) : σ1.1 k j' = σ.1 k j' := by rw [am_stR e, if_neg h]
theorem am_stO {σ σ1 : am_St} {k j : Nat} {v : Int} (e : σ1 = (am_up σ.1 k j v, σ.2)) {k' j' : Nat} (h : k' ≠ k) : σ1.1 k' j' = σ.1 k' j' := by rw [e]; show am_up σ.1 k j v k' j' = _; rw [am_up_o h]
theorem am_fx.o1 {σ σ1 : am_St} {k j : Nat} {v : Int} (e : σ1 = (am_up σ.1 k j v, σ.2)) : am_fx [k] [] σ σ1 := by rw [e]; exact am_fx.up
theorem am_fx.p1 {σ σ1 : am_St} {k j : Nat} {v : Int} (e : σ1 = (am_up σ.1 k j v, σ.2)) : am_fx [] [(k, j)] σ σ1 := by rw [e]; exact am_fx.upp
theorem am_cnt_c {P Q : Nat → Bool} {n : Nat} (h : ∀ i, i < n → P i = Q i) : am_cnt P n = am_cnt Q n := am_sum_c (fun i hi => by show (if P i then (1 : Int) else 0) = if Q i then 1 else 0; rw [h i hi])
theorem am_cnt_up {Q Q' : Nat → Bool} {v : Nat} (hq : ∀ p, p ≠ v → Q' p = Q p) (h0 : Q v = false) (h1 : Q' v = true) : ∀ {n : Nat}, v < n → am_cnt Q' n = am_cnt Q n + 1
  | 0, h => absurd h (Nat.not_lt_zero v)
  | n + 1, h => by
    have e : am_cnt Q (n + 1) = am_cnt Q n + if Q n then 1 else 0 := rfl
    have e' : am_cnt Q' (n + 1) = am_cnt Q' n + if Q' n then 1 else 0 := rfl
    rw [e, e']
    by_cases q : v = n
    · subst q
      rw [am_cnt_c (fun i hi => hq i (by omega)), h0, h1]; simp
    · rw [am_cnt_up hq h0 h1 (n := n) (by omega), hq n (fun z => q z.symm)]; omega
theorem am_cnt_lt {A B : Nat → Bool} : ∀ {n : Nat}, am_cnt A n < am_cnt B n → ∃ p, p < n ∧ B p = true ∧ A p = false
  | 0, h => absurd h (Int.lt_irrefl _)
  | n + 1, h => by
    have e : am_cnt A (n + 1) = am_cnt A n + if A n then 1 else 0 := rfl
    have e' : am_cnt B (n + 1) = am_cnt B n + if B n then 1 else 0 := rfl
    rw [e, e'] at h
    by_cases q : B n = true ∧ A n = false
    · exact ⟨n, by omega, q⟩
    · obtain ⟨p, hp, g⟩ := am_cnt_lt (A := A) (B := B) (n := n) (by
        cases hB : B n <;> cases hA : A n <;> rw [hA, hB] at h <;> simp [hA, hB] at q h <;> omega)
      exact ⟨p, by omega, g⟩
/-- the greatest of C 0 .. C n, and where it first is -/
def am_ax (C : Nat → Int) : Nat → Int × Nat
  | 0 => (C 0, 0)
  | n + 1 => if (am_ax C n).1 < C (n + 1) then (C (n + 1), n + 1) else am_ax C n
theorem am_ax_is {C : Nat → Int} : ∀ n, C (am_ax C n).2 = (am_ax C n).1 ∧ (am_ax C n).2 ≤ n ∧ (∀ b, b ≤ n → C b ≤ (am_ax C n).1) ∧ ∀ b, b < (am_ax C n).2 → C b < (am_ax C n).1
  | 0 => ⟨rfl, Nat.le_refl 0, fun b hb => by rw [show b = 0 by omega]; exact Int.le_refl _, fun b hb => absurd hb (Nat.not_lt_zero b)⟩
  | n + 1 => by
    obtain ⟨h1, h2, h3, h4⟩ := am_ax_is (C := C) n
    have e : am_ax C (n + 1) = if (am_ax C n).1 < C (n + 1) then (C (n + 1), n + 1) else am_ax C n := rfl
    rw [e]
    by_cases q : (am_ax C n).1 < C (n + 1)
    · rw [if_pos q]
      refine ⟨rfl, Nat.le_refl _, fun b hb => ?_, fun b hb => ?_⟩
      · rcases Nat.lt_or_ge b (n + 1) with g | g
        · have := h3 b (by omega); show C b ≤ C (n + 1); omega
        · rw [show b = n + 1 by omega]; exact Int.le_refl _
      · have hb' : b < n + 1 := hb
        have := h3 b (by omega); show C b < C (n + 1); omega
    · rw [if_neg q]
      refine ⟨h1, by omega, fun b hb => ?_, h4⟩
      rcases Nat.lt_or_ge b (n + 1) with g | g
      · exact h3 b (by omega)
      · rw [show b = n + 1 by omega]; omega
theorem am_ax_c {C D : Nat → Int} : ∀ {n : Nat}, (∀ i, i ≤ n → C i = D i) → am_ax C n = am_ax D n
  | 0, h => by show (C 0, 0) = (D 0, 0); rw [h 0 (Nat.le_refl 0)]
  | n + 1, h => by
    have ih := am_ax_c (C := C) (D := D) (n := n) (fun i hi => h i (by omega))
    show (if (am_ax C n).1 < C (n + 1) then (C (n + 1), n + 1) else am_ax C n) = if (am_ax D n).1 < D (n + 1) then (D (n + 1), n + 1) else am_ax D n
    rw [ih, h (n + 1) (Nat.le_refl _)]
def am_fitI (σ : am_St) (X : Int) (i : Nat) : Bool := decide (σ.1 135 i ≤ X) && decide (X ≤ σ.1 136 i)
def am_cF (P : Nat) (Q : Nat → Bool) (F G : Nat → Int) (X : Int) : Int := am_cnt (fun p => Q p && (decide (F p ≤ X) && decide (X ≤ G p))) P
def am_FS (P : Nat) (Q : Nat → Bool) (F G : Nat → Int) (σ : am_St) : Prop := ∃ m : Nat, σ.1 134 4 = (m : Int) ∧ (m : Int) = am_cnt Q P ∧ (∀ X, am_cnt (am_fitI σ X) m = am_cF P Q F G X) ∧ (∀ i, i < m → (∃ p, p < P ∧ Q p = true ∧ σ.1 135 i = F p) ∧ am_r (σ.1 135 i) ∧ am_r (σ.1 136 i)) ∧ ∀ p, p < P → Q p = true → ∃ i, i < m ∧ σ.1 135 i = F p
theorem am_FS.fx {P : Nat} {Q : Nat → Bool} {F G : Nat → Int} {σ σ' : am_St} (h : am_FS P Q F G σ) (e4 : σ'.1 134 4 = σ.1 134 4) (e5 : ∀ i, σ'.1 135 i = σ.1 135 i) (e6 : ∀ i, σ'.1 136 i = σ.1 136 i) : am_FS P Q F G σ' := by
  obtain ⟨m, h1, h2, h3, h4, h5⟩ := h
  refine ⟨m, e4.trans h1, h2, fun X => ?_, fun i hi => ?_, fun p hp hq => ?_⟩
  · rw [← h3 X]; exact am_cnt_c (fun i hi => by unfold am_fitI; rw [e5, e6])
  · rw [e5, e6]; exact h4 i hi
  · obtain ⟨i, hi, e⟩ := h5 p hp hq; exact ⟨i, hi, by rw [e5]; exact e⟩
theorem am_FS.c {P : Nat} {Q Q' : Nat → Bool} {F G : Nat → Int} {σ : am_St} (h : am_FS P Q F G σ) (e : ∀ p, p < P → Q p = Q' p) : am_FS P Q' F G σ := by
  obtain ⟨m, h1, h2, h3, h4, h5⟩ := h
  refine ⟨m, h1, h2.trans (am_cnt_c e), fun X => (h3 X).trans (am_cnt_c (fun p hp => by show (Q p && _) = (Q' p && _); rw [e p hp])), fun i hi => ?_, fun p hp hq => h5 p hp (by rw [e p hp]; exact hq)⟩
  obtain ⟨⟨p, hp, hq, ep⟩, r⟩ := h4 i hi
  exact ⟨⟨p, hp, by rw [← e p hp]; exact hq, ep⟩, r⟩
section AMH
variable {x : am_Sc} {Po : Option am_AV → am_Sh → am_St → Prop} {σ : am_St} {w h w2 h2 : Nat} {s s2 : Nat → Nat → Int}
theorem x_addSpan {Q : Nat → Bool} {F G : Nat → Int} {v : Nat} {K : Int} (hX : am_RX w h s σ) (hO : am_OK w h s) (hv : v < am_P s) (hS : am_FS (am_P s) Q F G σ) (hQ : Q v = false) (hF : F v = am_lo s v - K) (hG : G v = am_hi s v - K) (bK : -10000 ≤ K ∧ K ≤ 10000)
    (kk : ∀ σ', am_fx [135, 136] [(134, 4)] σ σ' → am_FS (am_P s) (fun p => Q p || p == v) F G σ' → Po none am_SH σ') : am_U x m_Fi_addSpan Po σ 0 [some (Zr 134), some (Zi (v : Int)), some (Zi K)] [] := by
  obtain ⟨bP, -⟩ := am_OKb hO
  obtain ⟨m, h1, h2, h3, h4, h5⟩ := hS
  have lh := am_lohi hO hv
  have cu : am_cnt (fun p => Q p || p == v) (am_P s) = am_cnt Q (am_P s) + 1 := am_cnt_up (fun p hp => by simp [hp]) hQ (by simp) hv
  have cb := am_cnt_b (P := fun p => Q p || p == v) (n := am_P s)
  have lP : (am_P s : Int) ≤ 12 := by unfold am_P; omega
  refine s_Fi_addSpan_0 (x_lowNow hX hO hv ⟨_, rfl, rfl, ?_⟩)
  rw [h1, Int.toNat_natCast]
  refine ⟨by omega, fun σ2 f2 => ?_⟩
  have hX2 : am_RX w h s σ2 := by rw [f2]; exact hX.fx am_fx.up (by decide)
  have h12 : σ2.1 134 4 = (m : Int) := by rw [f2]; exact h1
  refine x_highNow hX2 hO hv ⟨_, rfl, rfl, ?_⟩
  rw [h12, Int.toNat_natCast]
  refine ⟨by omega, fun σ4 f4 σ5 f5 => ?_⟩
  have h14 : σ4.1 134 4 = (m : Int) := by rw [f4]; exact h12
  rw [h14] at f5
  have e5 : ∀ i, σ5.1 135 i = if i = m then am_lo s v - K else σ.1 135 i := fun i => by
    rw [f5]; show σ4.1 135 i = _; rw [f4]; show σ2.1 135 i = _; rw [f2]; show am_up σ.1 135 m _ 135 i = _; rw [am_up_row]
  have e6 : ∀ i, σ5.1 136 i = if i = m then am_hi s v - K else σ.1 136 i := fun i => by
    rw [f5]; show σ4.1 136 i = _; rw [f4]; show am_up σ2.1 136 m _ 136 i = _; rw [am_up_row, f2]; rfl
  have e4 : σ5.1 134 4 = ((m + 1 : Nat) : Int) := by
    rw [f5]; show am_up σ4.1 134 4 _ 134 4 = _; rw [am_up_row]; exact if_pos rfl
  refine kk σ5 ?_ ⟨m + 1, e4, by omega, fun X => ?_, fun i hi => ?_, fun p hp hq => ?_⟩
  · refine am_fx.tr (σ1 := σ2) (ks := [135]) (ps := []) (ks' := [136]) (ps' := [(134, 4)]) (by rw [f2]; exact am_fx.up) ?_ (by decide) (by decide)
    exact am_fx.tr (σ1 := σ4) (ks := [136]) (ps := []) (ks' := []) (ps' := [(134, 4)]) (by rw [f4]; exact am_fx.up) (by rw [f5]; exact am_fx.upp) (by decide) (by decide)
  · have ea : am_cnt (am_fitI σ5 X) (m + 1) = am_cnt (am_fitI σ5 X) m + if am_fitI σ5 X m then 1 else 0 := rfl
    have eb : am_cnt (am_fitI σ5 X) m = am_cnt (am_fitI σ X) m := am_cnt_c (fun i hi => by unfold am_fitI; rw [e5, e6, if_neg (by omega), if_neg (by omega)])
    have ec : am_fitI σ5 X m = (decide (F v ≤ X) && decide (X ≤ G v)) := by unfold am_fitI; rw [e5, e6, if_pos rfl, if_pos rfl, hF, hG]
    rw [ea, eb, ec, h3 X]
    unfold am_cF
    by_cases q : (decide (F v ≤ X) && decide (X ≤ G v)) = true
    · rw [if_pos q]
      exact (am_cnt_up (v := v) (fun p hp => by show ((Q p || p == v) && _) = _; rw [show (p == v) = false by simpa using hp, Bool.or_false]) (by simp [hQ]) (by simp only [beq_self_eq_true, Bool.or_true, Bool.true_and]; exact q) hv).symm
    · rw [if_neg q, Int.add_zero]
      refine am_cnt_c (fun p hp => ?_)
      by_cases ep : p = v
      · subst ep
        simp only [hQ, Bool.false_and, beq_self_eq_true, Bool.or_true, Bool.true_and]
        simpa using q
      · have : (p == v) = false := by simpa using ep
        simp only [this, Bool.or_false]
  · rw [e5, e6]
    by_cases q : i = m
    · rw [if_pos q, if_pos q]; exact ⟨⟨v, hv, by simp, hF.symm⟩, by omega, by omega⟩
    · rw [if_neg q, if_neg q]
      obtain ⟨⟨p, hp, hq, ep⟩, r⟩ := h4 i (by omega)
      exact ⟨⟨p, hp, by simp [hq], ep⟩, r⟩
  · by_cases ep : p = v
    · exact ⟨m, by omega, by rw [e5, if_pos rfl, ep, hF]⟩
    · obtain ⟨i, hi, e⟩ := h5 p hp (by simpa [ep] using hq)
      exact ⟨i, by omega, by rw [e5, if_neg (by omega)]; exact e⟩
theorem x_countFit {P : Nat} {Q : Nat → Bool} {F G : Nat → Int} {X : Int} (lP : P ≤ 12) (hS : am_FS P Q F G σ) (rX : am_r X) (kk : Po (some (Zi (am_cF P Q F G X))) am_SH σ) : am_U x m_Fi_countFitting Po σ 0 [some (Zr 134), some (Zi X), none, none] [] := by
  obtain ⟨m, h1, h2, h3, h4, h5⟩ := hS
  have cb := am_cnt_b (P := Q) (n := P)
  have loop : ∀ (d i : Nat), i + d = m → am_U x m_Fi_countFitting Po σ 4 [some (Zr 134), some (Zi X), some (Zi (am_cnt (am_fitI σ X) i)), some (Zi (i : Int))] [] := by
    intro d
    induction d with
    | zero =>
      intro i hi
      refine s_Fi_countFitting_4 ?_
      rw [h1]
      refine ⟨by omega, by omega, fun _ => ?_, fun q => absurd (by omega) q⟩
      rw [show i = m by omega, h3 X]; exact kk
    | succ d ih =>
      intro i hi
      obtain ⟨-, r1, r2⟩ := h4 i (by omega)
      have nx := ih (i + 1) (by omega)
      have ea : am_cnt (am_fitI σ X) (i + 1) = am_cnt (am_fitI σ X) i + if am_fitI σ X i then 1 else 0 := rfl
      rw [ea] at nx
      refine s_Fi_countFitting_4 ?_
      rw [h1, Int.toNat_natCast]
      refine ⟨by omega, by omega, fun q => absurd q (by omega), fun _ => ⟨by omega, rX, r1, fun q => s_Fi_countFitting_37 (s_Fi_countFitting_38 ?_), fun q => ⟨r2, fun q2 => s_Fi_countFitting_37 (s_Fi_countFitting_38 ?_), fun q2 => s_Fi_countFitting_38 ?_⟩⟩⟩
      · rw [show am_fitI σ X i = false by unfold am_fitI; rw [decide_eq_false (by omega)]; rfl] at nx; exact nx
      · rw [show am_fitI σ X i = false by unfold am_fitI; rw [decide_eq_false (p := X ≤ _) (by omega), Bool.and_false]] at nx; exact nx
      · rw [show am_fitI σ X i = true by unfold am_fitI; rw [decide_eq_true (by omega), decide_eq_true (by omega)]; rfl] at nx; exact nx
  exact s_Fi_countFitting_0 (loop m 0 (by omega))
noncomputable def am_hK (w h : Nat) (s : Nat → Nat → Int) (c p : Nat) : Int := am_dst w h (am_cost s (s 9 p)) c (am_eC s p) + am_clk s p
noncomputable def am_hF (w h : Nat) (s : Nat → Nat → Int) (c p : Nat) : Int := am_lo s p - am_hK w h s c p
noncomputable def am_hG (w h : Nat) (s : Nat → Nat → Int) (c p : Nat) : Int := am_hi s p - am_hK w h s c p
def am_hQ (s : Nat → Nat → Int) (sh p : Nat) : Bool := decide (s 8 p = (sh : Int))
noncomputable def am_hC (w h : Nat) (s : Nat → Nat → Int) (sh c b : Nat) : Int := am_cF (am_P s) (am_hQ s sh) (am_hF w h s c) (am_hG w h s c) (b : Int)
theorem am_hK_b (hO : am_OK w h s) {c p : Nat} (hc : c < w * h) (hp : p < am_P s) : -99 ≤ am_hK w h s c p ∧ am_hK w h s c p ≤ 2259 := by
  obtain ⟨-, -, -, -, ⟨-, e⟩, -, g, -⟩ := am_OKp hO hp
  have := am_dst_b (k := s 9 p) hO hc e
  unfold am_hK; omega
def am_gQ (s : Nat → Nat → Int) (sh : Nat) (k v p : Nat) : Bool := decide (s 8 p = (sh : Int)) && (decide (s 9 p < (k : Int)) || (decide (s 9 p = (k : Int)) && decide (p < v)))
theorem x_gather {sh c : Nat} (hX : am_RX w h s σ) (hO : am_OK w h s) (hsh : sh < 5) (hc : c < w * h)
    (kk : ∀ σ', am_fx [5, 6, 135, 136] [(134, 4)] σ σ' → am_FS (am_P s) (am_hQ s sh) (am_hF w h s c) (am_hG w h s c) σ' → Po none am_SH σ') : am_U x m_Fi_gatherBegun Po σ 0 [some (Zr 134), some (Zi (sh : Int)), some (Zi (c : Int)), none, none] [] := by
  obtain ⟨bP, -⟩ := am_OKb hO
  have lP : am_P s ≤ 12 := by unfold am_P; omega
  have loopK : ∀ (d k : Nat) (τ : am_St), k + d = 2 → am_fx [5, 6, 135, 136] [(134, 4)] σ τ → am_FS (am_P s) (am_gQ s sh k 0) (am_hF w h s c) (am_hG w h s c) τ → am_U x m_Fi_gatherBegun Po τ 7 [some (Zr 134), some (Zi (sh : Int)), some (Zi (c : Int)), some (Zi (k : Int)), none] [] := by
    intro d
    induction d with
    | zero =>
      intro k τ hk hf hS
      refine s_Fi_gatherBegun_7 ⟨by omega, fun _ => kk τ hf (hS.c (fun p hp => ?_)), fun q => absurd (by omega) q⟩
      obtain ⟨-, -, -, d9, -⟩ := am_OKp hO hp
      unfold am_gQ am_hQ
      rw [decide_eq_true (p := s 9 p < (k : Int)) (by omega), Bool.true_or, Bool.and_true]
    | succ d ih =>
      intro k τ hk hf hS
      have hXt := hX.fx hf (by decide)
      refine s_Fi_gatherBegun_7 ⟨by omega, fun q => absurd q (by omega), fun _ => x_spread hXt hO hc (by omega) (fun τ1 f1 h5 h6 => ⟨rfl, rfl, ?_⟩)⟩
      have loopP : ∀ (e v : Nat) (τ2 : am_St), v + e = am_P s → am_fx [5, 6, 135, 136] [(134, 4)] σ τ2 → (∀ b, b < w * h → τ2.1 6 b = am_dst w h (am_cost s (k : Int)) c b) → am_FS (am_P s) (am_gQ s sh k v) (am_hF w h s c) (am_hG w h s c) τ2 → am_U x m_Fi_gatherBegun Po τ2 24 [some (Zr 134), some (Zi (sh : Int)), some (Zi (c : Int)), some (Zi (k : Int)), some (Zi (v : Int))] [] := by
        intro e
        induction e with
        | zero =>
          intro v τ2 hv hf2 h62 hS2
          have hX2 := hX.fx hf2 (by decide)
          have eP : τ2.1 8 6 = (am_P s : Int) := by rw [hX2.1.as 8 6 4 (by decide)]; unfold am_P; omega
          refine s_Fi_gatherBegun_24 ?_
          rw [eP]
          refine ⟨by omega, by omega, fun _ => ih (k + 1) τ2 (by omega) hf2 (hS2.c (fun p hp => ?_)), fun q => absurd (by omega) q⟩
          unfold am_gQ
          congr 1
          rw [decide_eq_true (p := p < v) (by omega), Bool.and_true, decide_eq_false (p := p < 0) (by omega), Bool.and_false, Bool.or_false, ← Bool.decide_or]
          exact decide_eq_decide.mpr (by omega)
        | succ e ihe =>
          intro v τ2 hv hf2 h62 hS2
          have hX2 := hX.fx hf2 (by decide)
          have hvP : v < am_P s := by omega
          obtain ⟨a, b, c8, d9, e1, f1', g, i1, -⟩ := am_OKp hO hvP
          have eP : τ2.1 8 6 = (am_P s : Int) := by rw [hX2.1.as 8 6 4 (by decide)]; unfold am_P; omega
          have skip : ¬ (s 8 v = (sh : Int) ∧ s 9 v = (k : Int)) → am_U x m_Fi_gatherBegun Po τ2 97 [some (Zr 134), some (Zi (sh : Int)), some (Zi (c : Int)), some (Zi (k : Int)), some (Zi (v : Int))] [] := fun no => by
            refine s_Fi_gatherBegun_97 (ihe (v + 1) τ2 (by omega) hf2 h62 (hS2.c (fun p hp => ?_)))
            unfold am_gQ
            rw [← Bool.decide_and, ← Bool.decide_and, ← Bool.decide_or, ← Bool.decide_or, ← Bool.decide_and, ← Bool.decide_and]
            refine decide_eq_decide.mpr ?_
            by_cases ep : p = v
            · subst ep; constructor <;> intro z <;> exact ⟨z.1, by rcases z.2 with z2 | z2; exact Or.inl z2; exact absurd ⟨z.1, z2.1⟩ no⟩
            · constructor <;> intro z <;> exact ⟨z.1, by omega⟩
          have hwh := am_wh hO
          refine s_Fi_gatherBegun_24 ?_
          rw [eP, Int.toNat_natCast, hX2.1.at 14 8 12 (by decide) a, hX2.1.at 15 9 12 (by decide) a]
          refine ⟨by omega, by omega, fun q => absurd q (by omega), fun _ => ⟨by omega, by omega, by omega, fun q => skip (fun z => q z.1), fun q => ⟨by omega, by omega, fun q2 => skip (fun z => q2 z.2), fun q2 => ?_⟩⟩⟩
          refine x_cellOfEar hX2 hO hvP ⟨_, rfl, rfl, by omega, x_clockOf hX2 hO hvP ⟨_, rfl, rfl, ?_⟩⟩
          rw [Int.toNat_natCast, h62 _ e1.2]
          have eK : am_dst w h (am_cost s (k : Int)) c (am_eC s v) + am_clk s v = am_hK w h s c v := by unfold am_hK; rw [q2]
          rw [eK]
          have bK := am_hK_b hO hc hvP
          refine x_addSpan hX2 hO hvP hS2 ?_ rfl rfl (by omega) (fun τ3 f3 hS3 => ⟨rfl, rfl, s_Fi_gatherBegun_97 (ihe (v + 1) τ3 (by omega) (hf2.tr f3 (by decide) (by decide)) (fun b hb => by rw [f3.q 6 (by decide)]; exact h62 b hb) (hS3.c (fun p hp => ?_)))⟩)
          · unfold am_gQ
            rw [decide_eq_false (p := s 9 v < (k : Int)) (by omega), decide_eq_false (p := v < v) (by omega), Bool.and_false, Bool.or_false, Bool.and_false]
          · by_cases ep : p = v
            · subst ep
              simp only [beq_self_eq_true, Bool.or_true]
              unfold am_gQ
              rw [decide_eq_true q, decide_eq_true q2, decide_eq_true (p := p < p + 1) (by omega)]; simp
            · rw [show (p == v) = false by simpa using ep, Bool.or_false]
              unfold am_gQ
              congr 3
              exact decide_eq_decide.mpr (by omega)
      exact loopP _ 0 τ1 (Nat.zero_add _) (hf.tr f1 (by decide) (by decide)) h6 (hS.fx (f1.q 134 (by decide)) (fun i => f1.q 135 (by decide)) (fun i => f1.q 136 (by decide)))
  refine s_Fi_gatherBegun_0 (fun τ f => loopK 2 0 τ (by omega) ?_ ⟨0, by rw [f]; show am_up σ.1 134 4 0 134 4 = _; rw [am_up_row]; rfl, ?_, fun X => ?_, fun i hi => absurd hi (by omega), fun p hp hq => ?_⟩)
  · exact am_fx.tr (σ1 := τ) (ks := []) (ps := [(134, 4)]) (by rw [f]; exact am_fx.upp) (am_fx.rf (ks := []) (ps := [])) (by decide) (by decide)
  · refine (am_cnt0.mpr (fun p hp => ?_)).symm
    obtain ⟨-, -, -, d9, -⟩ := am_OKp hO hp
    unfold am_gQ
    rw [decide_eq_false (p := s 9 p < ((0 : Nat) : Int)) (by omega), decide_eq_false (p := p < 0) (by omega)]; simp
  · refine (am_cnt0.mpr (fun p hp => ?_)).symm
    obtain ⟨-, -, -, d9, -⟩ := am_OKp hO hp
    unfold am_gQ
    rw [decide_eq_false (p := s 9 p < ((0 : Nat) : Int)) (by omega), decide_eq_false (p := p < 0) (by omega)]; simp
  · exfalso
    obtain ⟨-, -, -, d9, -⟩ := am_OKp hO hp
    unfold am_gQ at hq
    rw [decide_eq_false (p := s 9 p < ((0 : Nat) : Int)) (by omega), decide_eq_false (p := p < 0) (by omega)] at hq
    simp at hq
theorem x_heapUp {sh c : Nat} (hX : am_RX w h s σ) (hO : am_OK w h s) (hsh : sh < 5) (hc : c < w * h)
    (kk : ∀ σ', am_fx [5, 6, 135, 136] [(134, 4), (134, 5), (134, 6)] σ σ' → σ'.1 134 5 = (am_ax (am_hC w h s sh c) 1000).1 → σ'.1 134 6 = ((am_ax (am_hC w h s sh c) 1000).2 : Int) → Po none am_SH σ') : am_U x m_Fi_heapUp Po σ 0 [some (Zr 134), some (Zi (sh : Int)), some (Zi (c : Int)), none, none, none] [] := by
  obtain ⟨bP, -⟩ := am_OKb hO
  have lP : am_P s ≤ 12 := by unfold am_P; omega
  have cb : ∀ X : Int, 0 ≤ am_cF (am_P s) (am_hQ s sh) (am_hF w h s c) (am_hG w h s c) X ∧ am_cF (am_P s) (am_hQ s sh) (am_hF w h s c) (am_hG w h s c) X ≤ 12 := fun X => by
    have := am_cnt_b (P := fun p => am_hQ s sh p && (decide (am_hF w h s c p ≤ X) && decide (X ≤ am_hG w h s c p))) (n := am_P s)
    unfold am_cF; omega
  obtain ⟨a1, a2, a3, a4⟩ := am_ax_is (C := am_hC w h s sh c) 1000
  -- where the greatest first is, a span begins
  have cand : (am_ax (am_hC w h s sh c) 1000).2 = 0 ∨ ∃ p, p < am_P s ∧ am_hQ s sh p = true ∧ am_hF w h s c p = ((am_ax (am_hC w h s sh c) 1000).2 : Int) := by
    generalize (am_ax (am_hC w h s sh c) 1000).2 = b at *
    rcases Nat.eq_zero_or_pos b with q | q
    · exact Or.inl q
    · right
      have lt := a4 (b - 1) (by omega)
      rw [← a1] at lt
      obtain ⟨p, hp, h1, h2⟩ := am_cnt_lt lt
      simp only [Bool.and_eq_true, decide_eq_true_eq] at h1
      refine ⟨p, hp, h1.1, ?_⟩
      have h3 : ¬ (am_hF w h s c p ≤ ((b - 1 : Nat) : Int) ∧ ((b - 1 : Nat) : Int) ≤ am_hG w h s c p) := fun z => by
        rw [h1.1, decide_eq_true z.1, decide_eq_true z.2] at h2; cases h2
      omega
  refine s_Fi_heapUp_0 (x_gather hX hO hsh hc (fun σ1 f1 hS1 => ⟨rfl, rfl, fun σ2 f2 => ?_⟩))
  have hS2 : am_FS (am_P s) (am_hQ s sh) (am_hF w h s c) (am_hG w h s c) σ2 := hS1.fx (by rw [f2]; rfl) (fun i => by rw [f2]; rfl) (fun i => by rw [f2]; rfl)
  refine x_countFit lP hS2 (by decide) ⟨_, rfl, rfl, fun σ4 f4 => ?_⟩
  have hS4 : am_FS (am_P s) (am_hQ s sh) (am_hF w h s c) (am_hG w h s c) σ4 := hS2.fx (by rw [f4]; rfl) (fun i => by rw [f4]; rfl) (fun i => by rw [f4]; rfl)
  have hf4 : am_fx [5, 6, 135, 136] [(134, 4), (134, 5), (134, 6)] σ σ4 := by
    refine f1.tr (σ1 := σ1) (ks' := []) (ps' := [(134, 5), (134, 6)]) ?_ (by decide) (by decide)
    exact am_fx.tr (σ1 := σ2) (ks := []) (ps := [(134, 6)]) (ks' := []) (ps' := [(134, 5)]) (by rw [f2]; exact am_fx.upp) (by rw [f4]; exact am_fx.upp) (by decide) (by decide)
  obtain ⟨m, m1, m2, m3, m4, m5⟩ := hS4
  have lm : m ≤ 12 := by have := am_cnt_b (P := am_hQ s sh) (n := am_P s); omega
  have loop : ∀ (d i : Nat) (τ : am_St) (B : Nat), i + d = m → am_fx [5, 6, 135, 136] [(134, 4), (134, 5), (134, 6)] σ τ → τ.1 134 4 = (m : Int) → (∀ j, τ.1 135 j = σ4.1 135 j) → (∀ j, τ.1 136 j = σ4.1 136 j) → τ.1 134 6 = (B : Int) → τ.1 134 5 = am_hC w h s sh c B → B ≤ 1000 → (∀ b : Nat, b ≤ 1000 → (b = 0 ∨ ∃ j, j < i ∧ σ4.1 135 j = (b : Int)) → am_hC w h s sh c b < am_hC w h s sh c B ∨ (am_hC w h s sh c b = am_hC w h s sh c B ∧ B ≤ b)) → am_U x m_Fi_heapUp Po τ 22 [some (Zr 134), none, none, some (Zi (i : Int)), none, none] [] := by
    intro d
    induction d with
    | zero =>
      intro i τ B hi hf t4 t5 t6 t7 t8 hB hall
      refine s_Fi_heapUp_22 ?_
      rw [t4]
      refine ⟨by omega, by omega, fun _ => ?_, fun q => absurd (by omega) q⟩
      have fin : am_hC w h s sh c B = (am_ax (am_hC w h s sh c) 1000).1 ∧ B = (am_ax (am_hC w h s sh c) 1000).2 := by
        have g := hall (am_ax (am_hC w h s sh c) 1000).2 a2 (by
          rcases cand with q | ⟨p, hp, hq, e⟩
          · exact Or.inl q
          · obtain ⟨j, hj, ej⟩ := m5 p hp hq
            exact Or.inr ⟨j, by omega, by rw [ej]; exact e⟩)
        have g2 := a3 B hB
        rw [a1] at g
        rcases g with g | ⟨g, g'⟩
        · omega
        · refine ⟨by omega, ?_⟩
          rcases Nat.lt_or_ge B (am_ax (am_hC w h s sh c) 1000).2 with q | q
          · have := a4 B q; omega
          · omega
      exact kk τ hf (by rw [t8]; exact fin.1) (by rw [t7, fin.2])
    | succ d ih =>
      intro i τ B hi hf t4 t5 t6 t7 t8 hB hall
      obtain ⟨⟨p, hp, hq, ep⟩, r1, r2⟩ := m4 i (by omega)
      have same : ∀ (τ' : am_St) (B' : Nat), am_fx [5, 6, 135, 136] [(134, 4), (134, 5), (134, 6)] σ τ' → τ'.1 134 4 = (m : Int) → (∀ j, τ'.1 135 j = σ4.1 135 j) → (∀ j, τ'.1 136 j = σ4.1 136 j) → τ'.1 134 6 = (B' : Int) → τ'.1 134 5 = am_hC w h s sh c B' → B' ≤ 1000 → (∀ b : Nat, b ≤ 1000 → (b = 0 ∨ ∃ j, j < i ∧ σ4.1 135 j = (b : Int)) → am_hC w h s sh c b < am_hC w h s sh c B' ∨ (am_hC w h s sh c b = am_hC w h s sh c B' ∧ B' ≤ b)) → (∀ b : Nat, b ≤ 1000 → σ4.1 135 i = (b : Int) → am_hC w h s sh c b < am_hC w h s sh c B' ∨ (am_hC w h s sh c b = am_hC w h s sh c B' ∧ B' ≤ b)) → am_U x m_Fi_heapUp Po τ' 98 [some (Zr 134), none, none, some (Zi (i : Int)), none, none] [] := fun τ' B' k1 k2 k3 k4 k5 k6 k7 k8 k9 => by
        refine s_Fi_heapUp_98 (ih (i + 1) τ' B' (by omega) k1 k2 k3 k4 k5 k6 k7 (fun b hb hh => ?_))
        rcases hh with q | ⟨j, hj, ej⟩
        · exact k8 b hb (Or.inl q)
        · rcases Nat.lt_or_ge j i with g | g
          · exact k8 b hb (Or.inr ⟨j, g, ej⟩)
          · rw [show j = i by omega] at ej; exact k9 b hb ej
      have hSt : am_FS (am_P s) (am_hQ s sh) (am_hF w h s c) (am_hG w h s c) τ := ⟨m, t4, m2, fun X => by rw [← m3 X]; exact am_cnt_c (fun j _ => by unfold am_fitI; rw [t5, t6]), fun j hj => by rw [t5, t6]; exact m4 j hj, fun p hp hq => by obtain ⟨j, hj, ej⟩ := m5 p hp hq; exact ⟨j, hj, by rw [t5]; exact ej⟩⟩
      refine s_Fi_heapUp_22 ?_
      rw [t4, Int.toNat_natCast, t5]
      have z0 := hall 0 (by omega) (Or.inl rfl)
      refine ⟨by omega, by omega, fun q => absurd q (by omega), fun _ => ⟨by omega, r1, fun q => same τ B hf t4 t5 t6 t7 t8 hB hall (fun b hb eb => ?_), fun q => ⟨fun q2 => same τ B hf t4 t5 t6 t7 t8 hB hall (fun b hb eb => by omega), fun q2 => ?_⟩⟩⟩
      · have : b = 0 := by omega
        rw [this]; exact z0
      · obtain ⟨b0, eb0⟩ : ∃ b0 : Nat, σ4.1 135 i = (b0 : Int) := ⟨(σ4.1 135 i).toNat, by omega⟩
        rw [eb0]
        have c1 := cb (b0 : Int)
        have c2 := cb (B : Int)
        have eC : am_cF (am_P s) (am_hQ s sh) (am_hF w h s c) (am_hG w h s c) (b0 : Int) = am_hC w h s sh c b0 := rfl
        have eB : am_cF (am_P s) (am_hQ s sh) (am_hF w h s c) (am_hG w h s c) (B : Int) = am_hC w h s sh c B := rfl
        rw [eB] at c2
        rw [eC] at c1
        refine x_countFit lP hSt (by omega) ⟨_, rfl, rfl, ?_⟩
        rw [eC, t8, t7]
        have put : (∀ b : Nat, b ≤ 1000 → (b = 0 ∨ ∃ j, j < i ∧ σ4.1 135 j = (b : Int)) → am_hC w h s sh c b < am_hC w h s sh c b0 ∨ (am_hC w h s sh c b = am_hC w h s sh c b0 ∧ b0 ≤ b)) → am_U x m_Fi_heapUp Po τ 86 [some (Zr 134), none, none, some (Zi (i : Int)), some (Zi (b0 : Int)), some (Zi (am_hC w h s sh c b0))] [] := fun hh => by
          refine s_Fi_heapUp_86 (fun τ1 g1 τ2 g2 => same τ2 b0 ?_ (by rw [g2, g1]; exact t4) (fun j => by rw [g2, g1]; exact t5 j) (fun j => by rw [g2, g1]; exact t6 j) ?_ ?_ (by omega) hh (fun b hb eb => Or.inr ⟨by rw [show b = b0 by omega], by omega⟩))
          · refine hf.tr (σ1 := τ) (ks' := []) (ps' := [(134, 5), (134, 6)]) ?_ (by decide) (by decide)
            exact am_fx.tr (σ1 := τ1) (ks := []) (ps := [(134, 5)]) (ks' := []) (ps' := [(134, 6)]) (by rw [g1]; exact am_fx.upp) (by rw [g2]; exact am_fx.upp) (by decide) (by decide)
          · exact am_stE g2
          · rw [am_stN g2 (by decide)]; exact am_stE g1
        refine ⟨by omega, by omega, fun q3 => put (fun b hb hh => ?_), fun q3 => ⟨fun q4 => same τ B hf t4 t5 t6 t7 t8 hB hall (fun b hb eb => Or.inl ?_), fun q4 => ⟨by omega, fun q5 => same τ B hf t4 t5 t6 t7 t8 hB hall (fun b hb eb => Or.inr ⟨?_, by omega⟩), fun q5 => put (fun b hb hh => ?_)⟩⟩⟩
        · rcases hall b hb hh with g | ⟨g, g'⟩ <;> exact Or.inl (by omega)
        · rw [show b = b0 by omega]; omega
        · rw [show b = b0 by omega]; exact q4
        · rcases hall b hb hh with g | ⟨g, g'⟩
          · exact Or.inl (by omega)
          · exact Or.inr ⟨by omega, by omega⟩
  refine loop m 0 σ4 0 (by omega) hf4 m1 (fun _ => rfl) (fun _ => rfl) (by rw [am_stN f4 (by decide)]; exact am_stE f2) (am_stE f4) (by omega) (fun b hb hh => ?_)
  rcases hh with q | ⟨j, hj, -⟩
  · exact Or.inr ⟨by rw [q], by omega⟩
  · exact absurd hj (by omega)
end AMH
