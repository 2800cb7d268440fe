/-! ===== the class's basis ===== -/
theorem am_Lb3 : ∀ b, b = 109 ∨ b = 121 → ∀ i, i < 9 → am_SH[b + 3 + i]? = some (13, 8, []) := by
  rintro b (rfl | rfl) <;> decide +kernel
theorem am_mulp {a b : Int} (ha : 0 ≤ a ∧ a < 2147483647) (hb : 0 ≤ b ∧ b < 2147483647) : 0 ≤ a * b ∧ a * b ≤ 4611686014132420609 := by
  have h1 : a * b ≤ 2147483647 * 2147483647 := Int.mul_le_mul (by omega) (by omega) hb.1 (by omega)
  exact ⟨Int.mul_nonneg ha.1 hb.1, by omega⟩
def am_hs (b : Nat) (σ : am_St) (i : Nat) : Bool := decide (σ.1 (b + 1) i = 1)
def am_BI (b : Nat) (V : (Nat → Int) → Prop) (σ : am_St) : Prop := (∀ i, i < 8 → σ.1 (b + 1) i = 0 ∨ σ.1 (b + 1) i = 1) ∧ σ.1 b 0 = am_cnt (am_hs b σ) 8 ∧ am_BV (am_hs b σ) (fun i => σ.2 (b + 3 + i)) V
theorem am_BV_B {hs hs' : Nat → Bool} {B B' : Nat → Nat → Int} {V : (Nat → Int) → Prop} (h : am_BV hs B V) (hh : ∀ c, c < 8 → hs' c = hs c) (hb : ∀ c k, c < 8 → k < 8 → hs c = true → B' c k = B c k) : am_BV hs' B' V := by
  have e : ∀ v, am_Sp (am_Bh hs B) 8 v ↔ am_Sp (am_Bh hs' B') 8 v := fun v => by
    have e2 : ∀ c k, k < 8 → am_LC c (am_Bh hs' B') 8 k = am_LC c (am_Bh hs B) 8 k := fun c k hk => am_LC_lo (fun i hi => by
      unfold am_Bh
      rw [hh i hi]
      by_cases q : hs i = true
      · rw [if_pos q, if_pos q, hb i k hi hk q]
      · rw [if_neg q, if_neg q])
    constructor <;> rintro ⟨c, hc⟩ <;> refine ⟨c, fun k hk => ?_⟩
    · rw [e2 c k hk]; exact hc k hk
    · rw [← e2 c k hk]; exact hc k hk
  refine ⟨h.1, fun v => (h.2.1 v).trans (e v), fun c hc q => ?_⟩
  rw [hh c hc] at q
  obtain ⟨g1, g2, g3, g4⟩ := h.2.2 c hc q
  refine ⟨fun k hk => by rw [hb c k hc hk q]; exact g1 k hk, by rw [hb c c hc hc q]; exact g2, fun j hj => by rw [hb c j hc (by omega) q]; exact g3 j hj, fun c' hc' e' q' => ?_⟩
  rw [hh c' hc'] at q'
  rw [hb c c' hc hc' q]; exact g4 c' hc' e' q'
theorem am_BI.k {b : Nat} {V : (Nat → Int) → Prop} {σ σ' : am_St} (h : am_BI b V σ) (h0 : σ'.1 b 0 = σ.1 b 0) (h1 : ∀ i, i < 8 → σ'.1 (b + 1) i = σ.1 (b + 1) i) (h2 : ∀ c k, c < 8 → k < 8 → σ'.2 (b + 3 + c) k = σ.2 (b + 3 + c) k) : am_BI b V σ' := by
  have e : ∀ c, c < 8 → am_hs b σ' c = am_hs b σ c := fun c hc => by unfold am_hs; rw [h1 c hc]
  refine ⟨fun i hi => by rw [h1 i hi]; exact h.1 i hi, ?_, am_BV_B h.2.2 e (fun c k hc hk _ => h2 c k hc hk)⟩
  rw [h0, h.2.1]; exact (am_cnt_c e).symm
section AMBX
variable {x : am_Sc} {Po : Option am_AV → am_Sh → am_St → Prop} {σ : am_St} {w h w2 h2 : Nat} {s s2 : Nat → Nat → Int}
theorem c_floorMod {a : Int} (ha : -2147483647 < a ∧ a < 2147483647) (kk : Po (some (Zl (a % 2147483647))) am_SH σ) : am_U x m_Ma_floorMod Po σ 0 [some (Zl a), none, some (Zl 2147483647), none, none, none] [] := by
  obtain ⟨x1, x2⟩ := am_xorL_s (a := a) (b := 2147483647) (by omega) (by omega)
  obtain ⟨c1, c2, c3, c4⟩ := am_cmp0 (a := am_xorL a 2147483647)
  obtain ⟨d1, d2, d3, d4⟩ := am_cmp0 (a := am_remL a 2147483647)
  refine s_Ma_floorMod_0 ⟨by decide, by decide, x1, c1, fun q => s_Ma_floorMod_25 ?_, fun q => ?_⟩
  · have : 0 ≤ a := x2.mp (c3.mp q)
    rw [am_remL_nn (by omega) (by decide) this]; exact kk
  · have an : ¬ 0 ≤ a := fun z => q (c3.mpr (x2.mpr z))
    have e : am_remL a 2147483647 = a := by
      rw [am_remL_t (by omega) (by decide), show a = -(-a) by omega, Int.neg_tmod, Int.tmod_eq_of_lt (by omega) (by omega)]
    rw [e] at d1 d2 ⊢
    refine ⟨by omega, d1, fun z => absurd (d2.mp z) (by omega), fun _ => ?_⟩
    rw [show a % 2147483647 = a + 2147483647 by omega] at kk
    exact kk
theorem c_clearCol {r0 r1 c : Nat} (h0 : am_SH[r0]? = some (13, 8, [])) (h1 : am_SH[r1]? = some (13, 8, [])) (hne : r0 ≠ r1) (hc : c < 8) (p0 : am_pr8 (σ.2 r0)) (p1 : am_pr8 (σ.2 r1)) (hn : σ.2 r1 c ≠ 0)
    (kk : ∀ σ', σ'.1 = σ.1 → (∀ k j, k ≠ r0 → σ'.2 k j = σ.2 k j) → am_pr8 (σ'.2 r0) → σ'.2 r0 c = 0 → (σ.2 r0 c = 0 → ∀ k, k < 8 → σ'.2 r0 k = σ.2 r0 k) → (∃ al be : Int, ¬ am_q al 0 ∧ ∀ k, k < 8 → am_q (σ'.2 r0 k) (al * σ.2 r0 k - be * σ.2 r1 k)) → Po none am_SH σ') : am_U x m_Ba_clearColumn Po σ 0 [some (Zr r0), some (Zr r1), some (Zi (c : Int)), none, none, none, none, none] [] := by
  obtain ⟨c1, c2, c3, c4⟩ := am_cmp0 (a := σ.2 r0 c)
  have m0 := p0 c hc
  have i0 := p1 c hc
  refine s_Ba_clearColumn_0 h0 h1 ?_
  rw [Int.toNat_natCast]
  refine ⟨by omega, by omega, c1, fun q => ?_, fun q => ?_⟩
  · have mn : σ.2 r0 c ≠ 0 := fun z => q (c2.mpr z)
    have loop : ∀ (d i : Nat) (τ : am_St), i + d = 8 → τ.1 = σ.1 → (∀ k j, k ≠ r0 → τ.2 k j = σ.2 k j) → (∀ k, k < 8 → i ≤ k → τ.2 r0 k = σ.2 r0 k) → (∀ k, k < i → (0 ≤ τ.2 r0 k ∧ τ.2 r0 k < 2147483647) ∧ am_q (τ.2 r0 k) (σ.2 r1 c * σ.2 r0 k - σ.2 r0 c * σ.2 r1 k)) → am_U x m_Ba_clearColumn Po τ 19 [some (Zr r0), some (Zr r1), none, some (Zl (σ.2 r0 c)), none, some (Zl (σ.2 r1 c)), none, some (Zi (i : Int))] [] := by
      intro d
      induction d with
      | zero =>
        intro i τ hi e1 e2 e3 e4
        refine s_Ba_clearColumn_19 h0 h1 ⟨by omega, fun _ => kk τ e1 e2 (fun k hk => (e4 k (by omega)).1) ?_ (fun z => absurd z mn) ⟨σ.2 r1 c, σ.2 r0 c, am_nq i0.1 i0.2 hn, fun k hk => (e4 k (by omega)).2⟩, fun q => absurd (by omega) q⟩
        have := (e4 c (by omega)).2
        refine am_q0 (this.tr (am_q.eq ?_)) (e4 c (by omega)).1.1 (e4 c (by omega)).1.2
        rw [Int.mul_comm]; omega
      | succ d ih =>
        intro i τ hi e1 e2 e3 e4
        have b1 := p0 i (by omega)
        have b2 := p1 i (by omega)
        have u1 := am_mulp b1 i0
        have u2 := am_mulp b2 m0
        refine s_Ba_clearColumn_19 h0 h1 ⟨by omega, fun q => absurd q (by omega), fun _ => ?_⟩
        rw [Int.toNat_natCast, e3 i (by omega) (Nat.le_refl i), e2 r1 i (fun z => hne z.symm), am_remL_nn (by omega) (by decide) u1.1, am_remL_nn (by omega) (by decide) u2.1]
        refine ⟨by omega, c_floorMod (by omega) ⟨_, rfl, rfl, fun τ1 f1 => ?_⟩⟩
        have g1 : τ1.1 = σ.1 := by rw [f1]; exact e1
        have g2 : ∀ k j, τ1.2 k j = am_up τ.2 r0 i ((σ.2 r0 i * σ.2 r1 c % 2147483647 - σ.2 r1 i * σ.2 r0 c % 2147483647) % 2147483647) k j := fun k j => by rw [f1]
        have := ih (i + 1) τ1 (by omega) g1 (fun k j hk => by rw [g2, am_up_o hk]; exact e2 k j hk) (fun k hk hk2 => by rw [g2, am_up_row]; show (if k = i then _ else τ.2 r0 k) = _; rw [if_neg (by omega)]; exact e3 k hk (by omega)) (fun k hk => by
          rw [g2, am_up_row]
          show (0 ≤ (if k = i then _ else τ.2 r0 k) ∧ (if k = i then _ else τ.2 r0 k) < _) ∧ am_q (if k = i then _ else τ.2 r0 k) _
          by_cases e : k = i
          · rw [if_pos e, e]
            refine ⟨by omega, (am_q.md _).tr (((am_q.md _).sb (am_q.md _)).tr (am_q.eq ?_))⟩
            rw [Int.mul_comm (σ.2 r0 i), Int.mul_comm (σ.2 r1 i)]
          · rw [if_neg e]; exact e4 k (by omega))
        rw [show ((i + 1 : Nat) : Int) = (i : Int) + 1 by omega] at this
        exact this
    exact loop 8 0 σ (by omega) rfl (fun _ _ _ => rfl) (fun _ _ _ => rfl) (fun k hk => absurd hk (Nat.not_lt_zero k))
  · have mz : σ.2 r0 c = 0 := c2.mp q
    exact kk σ rfl (fun _ _ _ => rfl) p0 mz (fun _ _ _ => rfl) ⟨1, 0, am_nq (by decide) (by decide) (by decide), fun k hk => am_q.eq (by rw [Int.one_mul, Int.zero_mul, Int.sub_zero])⟩
theorem c_firstCol {b : Nat} (hb : b = 109 ∨ b = 121) (pf : am_pr8 (σ.2 (b + 11))) (k1 : ∀ o : Nat, o < 8 → σ.2 (b + 11) o ≠ 0 → (∀ j, j < o → σ.2 (b + 11) j = 0) → Po (some (Zi (o : Int))) am_SH σ) (k0 : (∀ k, k < 8 → σ.2 (b + 11) k = 0) → Po (some (Zi (-1))) am_SH σ) : am_U x m_Ba_firstColumn Po σ 0 [some (Zr b), none] [] := by
  have loop : ∀ (d i : Nat), i + d = 8 → (∀ j, j < i → σ.2 (b + 11) j = 0) → am_U x m_Ba_firstColumn Po σ 2 [some (Zr b), some (Zi (i : Int))] [] := by
    intro d
    induction d with
    | zero => intro i hi h0; exact s_Ba_firstColumn_2 hb ⟨by omega, fun _ => k0 (fun k hk => h0 k (by omega)), fun q => absurd (by omega) q⟩
    | succ d ih =>
      intro i hi h0
      obtain ⟨c1, c2, c3, c4⟩ := am_cmp0 (a := σ.2 (b + 11) i)
      have pi := pf i (by omega)
      refine s_Ba_firstColumn_2 hb ?_
      rw [Int.toNat_natCast]
      refine ⟨by omega, fun q => absurd q (by omega), fun _ => ⟨by omega, by omega, c1, fun q => ?_, fun q => k1 i (by omega) (fun z => q (c2.mpr z)) h0⟩⟩
      exact ih (i + 1) (by omega) (fun j hj => by
        rcases Nat.lt_or_ge j i with g | g
        · exact h0 j g
        · rw [show j = i by omega]; exact c2.mp q)
  exact s_Ba_firstColumn_0 hb (loop 8 0 (by omega) (fun j hj => absurd hj (Nat.not_lt_zero j)))
theorem x_badd {b r1 : Nat} {R : Nat → Int} {V : (Nat → Int) → Prop} (hb : b = 109 ∨ b = 121) (hr1 : am_SH[r1]? = some (12, 8, [])) (hR : ∀ k, k < 8 → σ.1 r1 k = R k ∧ 0 ≤ R k ∧ R k ≤ 30) (hI : am_BI b V σ)
    (kk : ∀ σ', am_fx [b, b + 1] [] σ σ' → (∀ k j, (k < b + 3 ∨ b + 11 < k) → σ'.2 k j = σ.2 k j) → am_BI b (am_Ad V R) σ' → Po none am_SH σ') : am_U x m_Ba_add Po σ 0 [some (Zr b), some (Zr r1), none, none] [] := by
  obtain ⟨hI1, hI2, hI3⟩ := hI
  have hV := hI3.1
  have sh := am_Lb3 b hb
  have shF : am_SH[b + 11]? = some (13, 8, []) := sh 8 (by decide)
  have hs0 : ∀ i, i < 8 → (am_hs b σ i = true ↔ ¬ σ.1 (b + 1) i = 0) := fun i hi => by
    unfold am_hs
    rw [decide_eq_true_eq]
    rcases hI1 i hi with z | z <;> rw [z] <;> decide
  -- the rows cleared by the new one
  have loop3 : ∀ (f : Nat → Int) (own : Nat), am_pr8 f → (∀ v, am_Ad V R v ↔ am_Ad V f v) → (∀ c, c < 8 → am_hs b σ c = true → f c = 0) → own < 8 → f own ≠ 0 → (∀ j, j < own → f j = 0) → ∀ (d c : Nat) (τ : am_St), c + d = 8 → τ.1 = σ.1 → (∀ k j, (k < b + 3 ∨ b + 11 < k) → τ.2 k j = σ.2 k j) → (∀ k, τ.2 (b + 11) k = f k) → (∀ c', c' < 8 → c ≤ c' → ∀ k, τ.2 (b + 3 + c') k = σ.2 (b + 3 + c') k) → (∀ c', c' < c → am_hs b σ c' = true → am_pr8 (τ.2 (b + 3 + c')) ∧ τ.2 (b + 3 + c') own = 0 ∧ (σ.2 (b + 3 + c') own = 0 → ∀ k, k < 8 → τ.2 (b + 3 + c') k = σ.2 (b + 3 + c') k) ∧ ∃ al be : Int, ¬ am_q al 0 ∧ ∀ k, k < 8 → am_q (τ.2 (b + 3 + c') k) (al * σ.2 (b + 3 + c') k - be * f k)) → am_U x m_Ba_add Po τ 73 [some (Zr b), none, some (Zi (own : Int)), some (Zi (c : Int))] [] := by
    intro f own hf hA hz ho hn hl d
    have no : ¬ am_hs b σ own = true := fun z => hn (hz own ho z)
    induction d with
    | zero =>
      intro c τ hc e1 e2 e3 e4 e5
      refine s_Ba_add_73 hb ?_
      rw [Int.toNat_natCast]
      refine ⟨by omega, fun _ => ⟨by omega, fun τ4 f4 τ5 f5 τ6 f6 => ?_⟩, fun q => absurd (by omega) q⟩
      have g1 : ∀ k j, k ≠ b → k ≠ b + 1 → τ6.1 k j = σ.1 k j := fun k j h1 h2 => by
        rw [f6]
        show am_up τ5.1 b 0 _ k j = _
        rw [am_up_o h1, f5]
        show am_up τ4.1 (b + 1) own 1 k j = _
        rw [am_up_o h2, f4]
        show τ.1 k j = _
        rw [e1]
      have g2 : ∀ k j, τ6.2 k j = am_cp τ.2 (b + 11) (b + 3 + own) 8 k j := fun k j => by rw [f6, f5, f4]
      have g3 : ∀ j, τ6.1 (b + 1) j = if j = own then 1 else σ.1 (b + 1) j := fun j => by
        rw [f6]
        show am_up τ5.1 b 0 _ (b + 1) j = _
        rw [am_up_o (by omega), am_stR f5, f4]
        show (if j = own then 1 else τ.1 (b + 1) j) = _
        rw [e1]
      have g4 : τ6.1 b 0 = σ.1 b 0 + 1 := by
        rw [f6]
        show am_up τ5.1 b 0 (τ5.1 b 0 + 1) b 0 = _
        rw [am_up_row]
        show τ5.1 b 0 + 1 = _
        rw [am_stO f5 (by omega), f4]
        show τ.1 b 0 + 1 = _
        rw [e1]
      have hh : ∀ c, c < 8 → am_hs b τ6 c = (am_hs b σ c || c == own) := fun c hc => by
        unfold am_hs
        rw [g3]
        by_cases e : c = own
        · rw [if_pos e, e]; simp
        · rw [if_neg e, show (c == own) = false by simpa using e, Bool.or_false]
      refine kk τ6 (fun k j hk _ => by simp only [List.mem_cons, List.not_mem_nil, or_false, not_or] at hk; exact g1 k j hk.1 hk.2) (fun k j hk => ?_) ⟨fun i hi => ?_, ?_, am_BV_add (f := f) (own := own) hI3 hf hA hz ho hn hl hh (fun k hk => ?_) (fun c' hc' q => ?_)⟩
      · rw [g2]; unfold am_cp; rw [if_neg (by omega)]; exact e2 k j hk
      · rw [g3]; by_cases e : i = own
        · rw [if_pos e]; exact Or.inr rfl
        · rw [if_neg e]; exact hI1 i hi
      · rw [g4, hI2]
        have := am_cnt_up (Q := am_hs b σ) (Q' := fun c => am_hs b σ c || c == own) (v := own) (fun p hp => by show (am_hs b σ p || p == own) = _; rw [show (p == own) = false by simpa using hp, Bool.or_false]) (by simpa using no) (by simp) (n := 8) ho
        rw [← this]; exact (am_cnt_c hh).symm
      · show τ6.2 (b + 3 + own) k = f k
        rw [g2]; unfold am_cp; rw [if_pos rfl, if_pos hk]; exact e3 k
      · have co : c' ≠ own := fun z => no (by rw [← z]; exact q)
        have eB : ∀ k, τ6.2 (b + 3 + c') k = τ.2 (b + 3 + c') k := fun k => by rw [g2]; unfold am_cp; rw [if_neg (by omega)]
        obtain ⟨a1, a2, a3, al, be, a4, a5⟩ := e5 c' (by omega) q
        exact ⟨fun k hk => by show 0 ≤ τ6.2 (b + 3 + c') k ∧ τ6.2 (b + 3 + c') k < _; rw [eB]; exact a1 k hk, by show τ6.2 (b + 3 + c') own = 0; rw [eB]; exact a2, fun z k hk => by show τ6.2 (b + 3 + c') k = _; rw [eB]; exact a3 z k hk, al, be, a4, fun k hk => by show am_q (τ6.2 (b + 3 + c') k) _; rw [eB]; exact a5 k hk⟩
    | succ d ih =>
      intro c τ hc e1 e2 e3 e4 e5
      have go : ∀ τ' : am_St, τ'.1 = σ.1 → (∀ k j, (k < b + 3 ∨ b + 11 < k) → τ'.2 k j = σ.2 k j) → (∀ k, τ'.2 (b + 11) k = f k) → (∀ c', c' < 8 → c + 1 ≤ c' → ∀ k, τ'.2 (b + 3 + c') k = σ.2 (b + 3 + c') k) → (∀ c', c' < c + 1 → am_hs b σ c' = true → am_pr8 (τ'.2 (b + 3 + c')) ∧ τ'.2 (b + 3 + c') own = 0 ∧ (σ.2 (b + 3 + c') own = 0 → ∀ k, k < 8 → τ'.2 (b + 3 + c') k = σ.2 (b + 3 + c') k) ∧ ∃ al be : Int, ¬ am_q al 0 ∧ ∀ k, k < 8 → am_q (τ'.2 (b + 3 + c') k) (al * σ.2 (b + 3 + c') k - be * f k)) → am_U x m_Ba_add Po τ' 102 [some (Zr b), none, some (Zi (own : Int)), some (Zi (c : Int))] [] := fun τ' a1 a2 a3 a4 a5 => by
        have := ih (c + 1) τ' (by omega) a1 a2 a3 a4 a5
        rw [show ((c + 1 : Nat) : Int) = (c : Int) + 1 by omega] at this
        exact s_Ba_add_102 hb this
      refine s_Ba_add_73 hb ?_
      rw [Int.toNat_natCast (n := c), e1]
      refine ⟨by omega, fun q => absurd q (by omega), fun _ => ⟨by omega, by rcases hI1 c (by omega) with z | z <;> rw [z] <;> decide, fun q => go τ e1 e2 e3 (fun c' h1 h2 => e4 c' h1 (by omega)) (fun c' h1 h2 => ?_), fun q => ?_⟩⟩
      · rcases Nat.lt_or_ge c' c with g | g
        · exact e5 c' g h2
        · rw [show c' = c by omega] at h2; exact absurd q ((hs0 c (by omega)).mp h2)
      · have hc' : am_hs b σ c = true := (hs0 c (by omega)).mpr q
        have eC : ∀ k, τ.2 (b + 3 + c) k = σ.2 (b + 3 + c) k := e4 c (by omega) (Nat.le_refl c)
        have pC : am_pr8 (τ.2 (b + 3 + c)) := fun k hk => by rw [eC]; exact ((hI3.2.2 c (by omega) hc').1 k hk)
        refine c_clearCol (sh c (by omega)) shF (by omega) ho pC (fun k hk => by rw [e3]; exact hf k hk) (by rw [e3]; exact hn) (fun τ1 a1 a2 a3 a4 a5 ⟨al, be, a6, a7⟩ => ⟨rfl, rfl, go τ1 (by rw [a1, e1]) (fun k j hk => by rw [a2 k j (by omega)]; exact e2 k j hk) (fun k => by rw [a2 _ _ (by omega)]; exact e3 k) (fun c' h1 h2 k => by rw [a2 _ _ (by omega)]; exact e4 c' h1 (by omega) k) (fun c' h1 h2 => ?_)⟩)
        rcases Nat.lt_or_ge c' c with g | g
        · obtain ⟨b1, b2, b3, al', be', b4, b5⟩ := e5 c' g h2
          have eq : ∀ k, τ1.2 (b + 3 + c') k = τ.2 (b + 3 + c') k := fun k => a2 _ k (by omega)
          exact ⟨fun k hk => by rw [eq]; exact b1 k hk, by rw [eq]; exact b2, fun z k hk => by rw [eq]; exact b3 z k hk, al', be', b4, fun k hk => by rw [eq]; exact b5 k hk⟩
        · rw [show c' = c by omega]
          refine ⟨a3, a4, fun z k hk => ?_, al, be, a6, fun k hk => ?_⟩
          · rw [a5 (by rw [eC]; exact z) k hk]; exact eC k
          · have := a7 k hk
            rw [eC, e3] at this; exact this
  -- the new row, cleared by those that are there
  have loop2 : ∀ (d c : Nat) (τ : am_St), c + d = 8 → τ.1 = σ.1 → (∀ k j, k ≠ b + 11 → τ.2 k j = σ.2 k j) → am_pr8 (τ.2 (b + 11)) → (∀ v, am_Ad V R v ↔ am_Ad V (τ.2 (b + 11)) v) → (∀ c', c' < c → am_hs b σ c' = true → τ.2 (b + 11) c' = 0) → am_U x m_Ba_add Po τ 26 [some (Zr b), none, some (Zi (c : Int)), none] [] := by
    intro d
    induction d with
    | zero =>
      intro c τ hc e1 e2 e3 e4 e5
      refine s_Ba_add_26 hb ⟨by omega, fun _ => c_firstCol hb e3 (fun o ho hn hl => ⟨_, rfl, rfl, by omega, fun _ => ?_, fun q => absurd (by omega) q⟩) (fun h0 => ⟨_, rfl, rfl, by decide, fun q => absurd q (by decide), fun _ => ?_⟩), fun q => absurd (by omega) q⟩
      · exact loop3 (τ.2 (b + 11)) o e3 e4 (fun c' hc' q => e5 c' (by omega) q) ho hn hl 8 0 τ (by omega) e1 (fun k j hk => e2 k j (by omega)) (fun _ => rfl) (fun c' hc' _ k => e2 _ k (by omega)) (fun c' hc' => absurd hc' (Nat.not_lt_zero c'))
      · have hsE : ∀ c, c < 8 → am_hs b τ c = am_hs b σ c := fun c _ => by unfold am_hs; rw [e1]
        refine kk τ (fun k j _ _ => by rw [e1]) (fun k j hk => e2 k j (by omega)) ⟨fun i hi => by rw [e1]; exact hI1 i hi, by rw [e1, hI2]; exact (am_cnt_c hsE).symm, am_BV_B (am_BV_same hI3 e4 h0) hsE (fun c k hc hk _ => e2 _ k (by omega))⟩
    | succ d ih =>
      intro c τ hc e1 e2 e3 e4 e5
      refine s_Ba_add_26 hb ?_
      rw [Int.toNat_natCast, e1]
      refine ⟨by omega, fun q => absurd q (by omega), fun _ => ⟨by omega, by rcases hI1 c (by omega) with z | z <;> rw [z] <;> decide, fun q => s_Ba_add_55 hb ?_, fun q => ?_⟩⟩
      · have := ih (c + 1) τ (by omega) e1 e2 e3 e4 (fun c' h1 h2 => by
          rcases Nat.lt_or_ge c' c with g | g
          · exact e5 c' g h2
          · rw [show c' = c by omega] at h2; exact absurd q ((hs0 c (by omega)).mp h2))
        rw [show ((c + 1 : Nat) : Int) = (c : Int) + 1 by omega] at this
        exact this
      · have hc' : am_hs b σ c = true := (hs0 c (by omega)).mpr q
        obtain ⟨g1, g2, g3, g4⟩ := hI3.2.2 c (by omega) hc'
        have eC : ∀ k, τ.2 (b + 3 + c) k = σ.2 (b + 3 + c) k := fun k => e2 _ k (by omega)
        refine c_clearCol shF (sh c (by omega)) (by omega) (by omega) e3 (fun k hk => by rw [eC]; exact g1 k hk) (by rw [eC]; exact g2) (fun τ1 a1 a2 a3 a4 a5 ⟨al, be, a6, a7⟩ => ⟨rfl, rfl, s_Ba_add_55 hb ?_⟩)
        have := ih (c + 1) τ1 (by omega) (by rw [a1, e1]) (fun k j hk => by rw [a2 k j hk]; exact e2 k j hk) a3 (fun v => (e4 v).trans (am_Ad_sc hV (g := σ.2 (b + 3 + c)) a6 (am_BV_row hI3 (by omega) hc') (fun k hk => by have := a7 k hk; rw [eC] at this; exact this) v).symm) (fun c' h1 h2 => by
          rcases Nat.lt_or_ge c' c with g | g
          · have z1 := e5 c' g h2
            have z2 := a7 c' (by omega)
            rw [z1, eC, show σ.2 (b + 3 + c) c' = 0 from g4 c' (by omega) (by omega) h2, Int.mul_zero, Int.mul_zero] at z2
            exact am_q0 z2 (a3 c' (by omega)).1 (a3 c' (by omega)).2
          · rw [show c' = c by omega]; exact a4)
        rw [show ((c + 1 : Nat) : Int) = (c : Int) + 1 by omega] at this
        exact this
  have loop1 : ∀ (d i : Nat) (τ : am_St), i + d = 8 → τ.1 = σ.1 → (∀ k j, k ≠ b + 11 → τ.2 k j = σ.2 k j) → (∀ k, k < i → τ.2 (b + 11) k = R k) → am_U x m_Ba_add Po τ 2 [some (Zr b), some (Zr r1), some (Zi (i : Int)), none] [] := by
    intro d
    induction d with
    | zero =>
      intro i τ hi e1 e2 e3
      refine s_Ba_add_2 hb hr1 ⟨by omega, fun _ => loop2 8 0 τ (by omega) e1 e2 (fun k hk => ?_) (fun v => ?_) (fun c' hc' => absurd hc' (Nat.not_lt_zero c')), fun q => absurd (by omega) q⟩
      · rw [e3 k (by omega)]; have := (hR k hk).2; omega
      · have h1 : ∀ k, k < 8 → am_q (R k) (τ.2 (b + 11) k) := fun k hk => am_q.eq (e3 k (by omega)).symm
        exact ⟨am_Ad_in (am_Ad_sm hV) (fun _ h => am_Ad_v hV h) ((am_Ad_sm hV).2.2 _ _ (am_Ad_u hV) (fun k hk => (h1 k hk).sy)) v, am_Ad_in (am_Ad_sm hV) (fun _ h => am_Ad_v hV h) ((am_Ad_sm hV).2.2 _ _ (am_Ad_u hV) h1) v⟩
    | succ d ih =>
      intro i τ hi e1 e2 e3
      refine s_Ba_add_2 hb hr1 ⟨by omega, fun q => absurd q (by omega), fun _ => ⟨by omega, fun τ1 f1 => ?_⟩⟩
      obtain ⟨r1', r2⟩ := hR i (by omega)
      rw [Int.toNat_natCast, e1, r1', am_i2l_id (by omega)] at f1
      have g2 : ∀ k j, τ1.2 k j = am_up τ.2 (b + 11) i (R i) k j := fun k j => by rw [f1]
      have := ih (i + 1) τ1 (by omega) (by rw [f1]) (fun k j hk => by rw [g2, am_up_o hk]; exact e2 k j hk) (fun k hk => by
        rw [g2, am_up_row]
        show (if k = i then _ else τ.2 (b + 11) k) = _
        by_cases e : k = i
        · rw [if_pos e, e]
        · rw [if_neg e]; exact e3 k (by omega))
      rw [show ((i + 1 : Nat) : Int) = (i : Int) + 1 by omega] at this
      exact this
  exact s_Ba_add_0 hb hr1 (loop1 8 0 σ (by omega) rfl (fun _ _ _ => rfl) (fun k hk => absurd hk (Nat.not_lt_zero k)))
def am_V0 (v : Nat → Int) : Prop := ∀ k, k < 8 → am_q (v k) 0
theorem am_V0_sp {M : Nat → Nat → Int} {v : Nat → Int} : am_Sp M 0 v ↔ am_V0 v := ⟨fun ⟨c, hc⟩ k hk => (hc k hk).sy, fun h => ⟨fun _ => 0, fun k hk => (h k hk).sy⟩⟩
theorem x_bclear {b : Nat} {M : Nat → Nat → Int} (hb : b = 109 ∨ b = 121) (kk : ∀ σ', am_fx [b, b + 1] [] σ σ' → σ'.2 = σ.2 → am_BI b (am_Sp M 0) σ' → Po none am_SH σ') : am_U x m_Ba_clear Po σ 0 [some (Zr b), none] [] := by
  refine s_Ba_clear_0 hb (fun σ1 f1 => ?_)
  have loop : ∀ (d i : Nat) (τ : am_St), i + d = 8 → am_fx [b, b + 1] [] σ τ → τ.2 = σ.2 → τ.1 b 0 = 0 → (∀ j, j < i → τ.1 (b + 1) j = 0) → am_U x m_Ba_clear Po τ 7 [some (Zr b), some (Zi (i : Int))] [] := by
    intro d
    induction d with
    | zero =>
      intro i τ hi hf e2 e0 e1
      have hsf : ∀ c, c < 8 → am_hs b τ c = false := fun c hc => by unfold am_hs; rw [e1 c (by omega)]; rfl
      refine s_Ba_clear_7 hb ⟨by omega, fun _ => kk τ hf e2 ⟨fun j hj => Or.inl (e1 j (by omega)), by rw [e0]; exact (am_cnt0.mpr hsf).symm, am_Sp_sm, fun v => ?_, fun c hc q => absurd q (by rw [hsf c hc]; decide)⟩, fun q => absurd (by omega) q⟩
      rw [am_V0_sp]
      constructor
      · intro hv
        exact ⟨fun _ => 0, fun k hk => (am_LC_z (fun i _ => Or.inl am_q.rf)).tr (hv k hk).sy⟩
      · rintro ⟨c, hc⟩ k hk
        exact (hc k hk).sy.tr (am_LC_z (fun i hi => Or.inr (by unfold am_Bh; rw [hsf i hi]; exact am_q.rf)))
    | succ d ih =>
      intro i τ hi hf e2 e0 e1
      refine s_Ba_clear_7 hb ⟨by omega, fun q => absurd q (by omega), fun _ => ⟨by omega, fun τ1 f1 => ?_⟩⟩
      rw [Int.toNat_natCast] at f1
      have := ih (i + 1) τ1 (by omega) (fun k j hk hp => by
        rw [am_stO f1 (by simp only [List.mem_cons, List.not_mem_nil, or_false, not_or] at hk; exact hk.2)]; exact hf k j hk hp) (by rw [f1]; exact e2) (by rw [am_stO f1 (by omega)]; exact e0) (fun j hj => by
        rw [am_stR f1]
        by_cases e : j = i
        · rw [if_pos e]
        · rw [if_neg e]; exact e1 j (by omega))
      rw [show ((i + 1 : Nat) : Int) = (i : Int) + 1 by omega] at this
      exact this
  exact loop 8 0 σ1 (by omega) (fun k j hk _ => am_stO f1 (by simp only [List.mem_cons, List.not_mem_nil, or_false, not_or] at hk; exact hk.1)) (by rw [f1]) (am_stE f1) (fun j hj => absurd hj (Nat.not_lt_zero j))
theorem x_bres {b i : Nat} {V : (Nat → Int) → Prop} (hb : b = 109 ∨ b = 121) (hi : i < 8) (hI : am_BI b V σ) (k1 : V (am_un i) → Po (some (Zi 1)) am_SH σ) (k0 : ¬ V (am_un i) → Po (some (Zi 0)) am_SH σ) : am_U x m_Ba_isResolved Po σ 0 [some (Zr b), some (Zi (i : Int)), none] [] := by
  obtain ⟨hI1, hI2, hI3⟩ := hI
  have hr := am_BV_res hI3 hi
  refine s_Ba_isResolved_0 hb ?_
  rw [Int.toNat_natCast]
  refine ⟨by omega, by rcases hI1 i hi with z | z <;> rw [z] <;> decide, fun q => ?_, fun q => k0 (fun z => ?_)⟩
  · have hh : am_hs b σ i = true := by unfold am_hs; rw [decide_eq_true_eq]; rcases hI1 i hi with z | z; exact absurd z q; exact z
    have pB := (hI3.2.2 i hi hh).1
    have loop : ∀ (d j : Nat), j + d = 8 → (∀ k, k < j → k ≠ i → σ.2 (b + 3 + i) k = 0) → am_U x m_Ba_isResolved Po σ 13 [some (Zr b), some (Zi (i : Int)), some (Zi (j : Int))] [] := by
      intro d
      induction d with
      | zero =>
        intro j hj h0
        exact s_Ba_isResolved_13 hb ⟨by omega, fun _ => k1 (hr.mp ⟨hh, fun k hk e => h0 k (by omega) e⟩), fun q => absurd (by omega) q⟩
      | succ d ih =>
        intro j hj h0
        obtain ⟨c1, c2, c3, c4⟩ := am_cmp0 (a := σ.2 (b + 3 + i) j)
        have pj : 0 ≤ σ.2 (b + 3 + i) j ∧ σ.2 (b + 3 + i) j < 2147483647 := pB j (by omega)
        have go : (j ≠ i → σ.2 (b + 3 + i) j = 0) → am_U x m_Ba_isResolved Po σ 39 [some (Zr b), some (Zi (i : Int)), some (Zi (j : Int))] [] := fun hz => by
          have := ih (j + 1) (by omega) (fun k hk e => by
            rcases Nat.lt_or_ge k j with g | g
            · exact h0 k g e
            · rw [show k = j by omega] at e ⊢; exact hz e)
          rw [show ((j + 1 : Nat) : Int) = (j : Int) + 1 by omega] at this
          exact s_Ba_isResolved_39 hb this
        refine s_Ba_isResolved_13 hb ?_
        rw [Int.toNat_natCast, Int.toNat_natCast]
        refine ⟨by omega, fun q => absurd q (by omega), fun _ => ⟨by omega, fun e => go (fun z => absurd (by omega) z), fun e => ⟨by omega, by omega, ⟨by have := pj.1; omega, by have := pj.2; omega⟩, c1, fun q => go (fun _ => c2.mp q), fun q => k0 (fun z => q (c2.mpr ((hr.mpr z).2 j (by omega) (by omega))))⟩⟩⟩
    exact loop 8 0 (by omega) (fun k hk => absurd hk (Nat.not_lt_zero k))
  · have := (hr.mpr z).1
    unfold am_hs at this
    rw [q] at this; exact absurd this (by decide)
noncomputable def am_vb1 (V : (Nat → Int) → Prop) (i : Nat) : Bool := @decide (V (am_un i)) (Classical.propDecidable _)
theorem am_vb1_t {V : (Nat → Int) → Prop} {i : Nat} : am_vb1 V i = true ↔ V (am_un i) := by unfold am_vb1; exact @decide_eq_true_iff _ (Classical.propDecidable _)
theorem x_bcount {b : Nat} {V : (Nat → Int) → Prop} (hb : b = 109 ∨ b = 121) (hI : am_BI b V σ) (kk : Po (some (Zi (am_cnt (am_vb1 V) 8))) am_SH σ) : am_U x m_Ba_countResolved Po σ 0 [some (Zr b), none, none] [] := by
  have loop : ∀ (d i : Nat), i + d = 8 → am_U x m_Ba_countResolved Po σ 4 [some (Zr b), some (Zi (am_cnt (am_vb1 V) i)), some (Zi (i : Int))] [] := by
    intro d
    induction d with
    | zero =>
      intro i hi
      refine s_Ba_countResolved_4 hb ⟨by omega, fun _ => ?_, fun q => absurd (by omega) q⟩
      rw [show i = 8 by omega]; exact kk
    | succ d ih =>
      intro i hi
      have nx := ih (i + 1) (by omega)
      rw [show ((i + 1 : Nat) : Int) = (i : Int) + 1 by omega, show am_cnt (am_vb1 V) (i + 1) = am_cnt (am_vb1 V) i + if am_vb1 V i then 1 else 0 from rfl] at nx
      refine s_Ba_countResolved_4 hb ⟨by omega, fun q => absurd q (by omega), fun _ => x_bres hb (by omega) hI (fun q => br1e (s_Ba_countResolved_24 hb ?_)) (fun q => br0e (s_Ba_countResolved_24 hb ?_))⟩
      · rw [am_vb1_t.mpr q] at nx; exact nx
      · rw [show am_vb1 V i = false by cases hq : am_vb1 V i; rfl; exact absurd (am_vb1_t.mp hq) q] at nx; exact nx
  exact s_Ba_countResolved_0 hb (loop 8 0 (by omega))
theorem x_bcopy {V : (Nat → Int) → Prop} (hI : am_BI 109 V σ) (kk : ∀ σ', am_fx [121, 122] [] σ σ' → (∀ k j, k < 124 → σ'.2 k j = σ.2 k j) → am_BI 121 V σ' → Po none am_SH σ') : am_U x m_Ba_copyFrom Po σ 0 [some (Zr 121), some (Zr 109), none] [] := by
  refine s_Ba_copyFrom_0 (Or.inr rfl) (Or.inl rfl) (fun σ1 f1 => ?_)
  have loop : ∀ (d i : Nat) (τ : am_St), i + d = 8 → am_fx [121, 122] [] σ τ → (∀ k j, k < 124 → τ.2 k j = σ.2 k j) → τ.1 121 0 = σ.1 109 0 → (∀ j, j < i → τ.1 122 j = σ.1 110 j) → (∀ c k, c < i → k < 8 → τ.2 (124 + c) k = σ.2 (112 + c) k) → am_U x m_Ba_copyFrom Po τ 10 [some (Zr 121), some (Zr 109), some (Zi (i : Int))] [] := by
    intro d
    induction d with
    | zero =>
      intro i τ hi hf e2 e0 e1 e3
      have hsE : ∀ c, c < 8 → am_hs 121 τ c = am_hs 109 σ c := fun c hc => by unfold am_hs; rw [e1 c (by omega)]
      exact s_Ba_copyFrom_10 (Or.inr rfl) (Or.inl rfl) ⟨by omega, fun _ => kk τ hf e2 ⟨fun j hj => by rw [e1 j (by omega)]; exact hI.1 j hj, by rw [e0, hI.2.1]; exact (am_cnt_c hsE).symm, am_BV_B hI.2.2 hsE (fun c k hc hk _ => e3 c k (by omega) hk)⟩, fun q => absurd (by omega) q⟩
    | succ d ih =>
      intro i τ hi hf e2 e0 e1 e3
      refine s_Ba_copyFrom_10 (Or.inr rfl) (Or.inl rfl) ?_
      rw [Int.toNat_natCast, hf.g 110 (by decide)]
      refine ⟨by omega, fun q => absurd q (by omega), fun _ => ⟨by omega, hI.1 i (by omega), fun τ1 f1 τ2 f2 => ?_⟩⟩
      have g1 : τ2.1 = τ1.1 := by rw [f2]
      have g2 : ∀ k j, τ2.2 k j = am_cp τ.2 (112 + i) (124 + i) 8 k j := fun k j => by rw [f2, f1]
      have := ih (i + 1) τ2 (by omega) (fun k j hk hp => by
        rw [g1, am_stO f1 (by simp only [List.mem_cons, List.not_mem_nil, or_false, not_or] at hk; exact hk.2)]; exact hf k j hk hp) (fun k j hk => by rw [g2]; unfold am_cp; rw [if_neg (by omega)]; exact e2 k j hk) (by rw [g1, am_stO f1 (by decide)]; exact e0) (fun j hj => by
        rw [g1, am_stR f1]
        by_cases e : j = i
        · rw [if_pos e, e]
        · rw [if_neg e]; exact e1 j (by omega)) (fun c k hc hk => by
        rw [g2]; unfold am_cp
        by_cases e : c = i
        · rw [e, if_pos rfl, if_pos hk]; exact e2 _ k (by omega)
        · rw [if_neg (by omega)]; exact e3 c k (by omega) hk)
      rw [show ((i + 1 : Nat) : Int) = (i : Int) + 1 by omega] at this
      exact this
  exact loop 8 0 σ1 (by omega) (fun k j hk _ => am_stO f1 (by simp only [List.mem_cons, List.not_mem_nil, or_false, not_or] at hk; exact hk.1)) (fun k j _ => by rw [f1]) (am_stE f1) (fun j hj => absurd hj (Nat.not_lt_zero j)) (fun c k hc => absurd hc (Nat.not_lt_zero c))
/-- the rows of the picks of kind 0, in their order -/
noncomputable def am_Mx (w h : Nat) (s : Nat → Nat → Int) (i : Nat) : Nat → Int := am_pry w h s (am_ke s (am_P s) i)
theorem x_takePicks (hO : am_OK w h s) (hR : am_RS w h s (am_P s) σ) (kk : ∀ σ', am_fx [109, 110] [] σ σ' → am_BI 109 (am_Sp (am_Mx w h s) (am_km s (am_P s))) σ' → Po none am_SH σ') : am_U x m_Re_takePicks Po σ 0 [some (Zr 108), none] [] := by
  obtain ⟨bP, -⟩ := am_OKb hO
  have lP : am_P s ≤ 12 := by unfold am_P; omega
  have lK := am_km_le (s := s) (am_P s)
  have loop : ∀ (d i : Nat) (τ : am_St), i + d = am_km s (am_P s) → am_fx [109, 110] [] σ τ → am_BI 109 (am_Sp (am_Mx w h s) i) τ → am_U x m_Re_takePicks Po τ 9 [some (Zr 108), some (Zi (i : Int))] [] := by
    intro d
    induction d with
    | zero =>
      intro i τ hi hf hI
      refine s_Re_takePicks_9 ?_
      rw [hf.g 20 (by decide), hR.1]
      refine ⟨by omega, by omega, fun _ => kk τ hf ?_, fun q => absurd (by omega) q⟩
      rw [← show i = am_km s (am_P s) by omega]; exact hI
    | succ d ih =>
      intro i τ hi hf hI
      have hp := ((am_ke_is (s := s) (am_P s)).1 i (by omega)).1
      refine s_Re_takePicks_9 ?_
      rw [hf.g 20 (by decide), hR.1, Int.toNat_natCast]
      refine ⟨by omega, by omega, fun q => absurd q (by omega), fun _ => ⟨by omega, x_badd (R := am_Mx w h s i) (Or.inl rfl) (am_rws_sh i (by omega)) (fun k hk => ⟨?_, am_pry_b hO hp k⟩) hI (fun τ1 f1 f2 hI1 => ⟨rfl, rfl, ?_⟩)⟩⟩
      · rw [hf (23 + i) k (by simp; omega) (by simp)]; exact hR.2.2 i k (by omega) hk
      · have := ih (i + 1) τ1 (by omega) (hf.tr f1 (by decide) (by decide)) (by
          rw [show am_Sp (am_Mx w h s) (i + 1) = am_Ad (am_Sp (am_Mx w h s) i) (am_Mx w h s i) from funext (fun v => propext am_Sp_s)]; exact hI1)
        rw [show ((i + 1 : Nat) : Int) = (i : Int) + 1 by omega] at this
        exact this
  exact s_Re_takePicks_0 (x_bclear (M := am_Mx w h s) (Or.inl rfl) (fun τ f1 f2 hI => ⟨rfl, rfl, loop _ 0 τ (Nat.zero_add _) f1 hI⟩))
end AMBX
