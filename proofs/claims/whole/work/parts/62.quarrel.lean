/-! ===== quarrel ===== -/
def am_bits (v : Nat) (i : Nat) : Bool := v.testBit i
theorem am_set_self {v n : Nat} (hv : v < 2 ^ n) : am_set (am_bits v) n = v := Nat.eq_of_testBit_eq (fun i => by
  rw [am_set_bit]
  unfold am_bits
  by_cases q : i < n
  · rw [decide_eq_true q, Bool.true_and]
  · rw [decide_eq_false q, Bool.false_and, Nat.testBit_lt_two_pow (Nat.lt_of_lt_of_le hv (Nat.pow_le_pow_right (by decide) (by omega)))])
def am_k0 (s : Nat → Nat → Int) (p : Nat) : Bool := decide (s 9 p = 0)
def am_ph (s : Nat → Nat → Int) (v p : Nat) : Bool := am_k0 s p && v.testBit (am_km s p)
theorem am_km_mono {s : Nat → Nat → Int} {n m : Nat} (h : n ≤ m) : am_km s n ≤ am_km s m := by
  obtain ⟨d, rfl⟩ := Nat.exists_eq_add_of_le h
  clear h
  induction d with
  | zero => exact Nat.le_refl _
  | succ d ih =>
    have : am_km s (n + d + 1) = if s 9 (n + d) = 0 then am_km s (n + d) + 1 else am_km s (n + d) := rfl
    show am_km s n ≤ am_km s (n + d + 1)
    rw [this]; split <;> omega
theorem am_km_lt {s : Nat → Nat → Int} {p n : Nat} (h : p < n) (h0 : s 9 p = 0) : am_km s p < am_km s n := by
  have h1 : am_km s (p + 1) = if s 9 p = 0 then am_km s p + 1 else am_km s p := rfl
  rw [if_pos h0] at h1
  have := am_km_mono (s := s) (show p + 1 ≤ n by omega)
  omega
theorem am_ke_km {s : Nat → Nat → Int} {p : Nat} (h0 : s 9 p = 0) : ∀ {n : Nat}, p < n → am_ke s n (am_km s p) = p
  | 0, h => absurd h (Nat.not_lt_zero p)
  | n + 1, h => by
    show (if s 9 n = 0 ∧ am_km s p = am_km s n then n else am_ke s n (am_km s p)) = p
    by_cases e : p = n
    · rw [if_pos ⟨by rw [← e]; exact h0, by rw [e]⟩, e]
    · have := am_km_lt (s := s) (show p < n by omega) h0
      rw [if_neg (fun z => by omega)]
      exact am_ke_km h0 (by omega)
theorem am_km_ke {s : Nat → Nat → Int} {n i : Nat} (hi : i < am_km s n) : am_km s (am_ke s n i) = i := by
  obtain ⟨k1, k2, k3⟩ := am_ke_is (s := s) n
  obtain ⟨h1, h2⟩ := k1 i hi
  have e := am_ke_km h2 h1
  have l := am_km_lt h1 h2
  rcases Nat.lt_trichotomy (am_km s (am_ke s n i)) i with q | q | q
  · have := k2 _ _ q hi; omega
  · exact q
  · have := k2 _ _ q l; omega
theorem am_ph_cnt {s : Nat → Nat → Int} {v : Nat} : ∀ n, am_cnt (am_ph s v) n = am_cnt (am_bits v) (am_km s n)
  | 0 => rfl
  | n + 1 => by
    have ih := am_ph_cnt (s := s) (v := v) n
    have e : am_cnt (am_ph s v) (n + 1) = am_cnt (am_ph s v) n + if am_ph s v n then 1 else 0 := rfl
    have e1 : am_km s (n + 1) = if s 9 n = 0 then am_km s n + 1 else am_km s n := rfl
    rw [e, e1, ih]
    unfold am_ph am_k0
    by_cases q : s 9 n = 0
    · rw [if_pos q, decide_eq_true q, Bool.true_and]; rfl
    · rw [if_neg q, decide_eq_false q, Bool.false_and]; exact Int.add_zero _
theorem am_ph_mono {s : Nat → Nat → Int} {u v : Nat} : ∀ n, (am_set (am_bits u) (am_km s n) < am_set (am_bits v) (am_km s n) → am_set (am_ph s u) n < am_set (am_ph s v) n) ∧ (am_set (am_bits u) (am_km s n) = am_set (am_bits v) (am_km s n) → am_set (am_ph s u) n = am_set (am_ph s v) n)
  | 0 => ⟨fun h => h, fun h => h⟩
  | n + 1 => by
    obtain ⟨i1, i2⟩ := am_ph_mono (s := s) (u := u) (v := v) n
    have e1 : am_km s (n + 1) = if s 9 n = 0 then am_km s n + 1 else am_km s n := rfl
    have p1 : am_set (am_ph s u) (n + 1) = am_set (am_ph s u) n + if am_ph s u n then 2 ^ n else 0 := rfl
    have p2 : am_set (am_ph s v) (n + 1) = am_set (am_ph s v) n + if am_ph s v n then 2 ^ n else 0 := rfl
    have l1 := am_set_lt (P := am_ph s u) n
    have l2 := am_set_lt (P := am_ph s v) n
    rw [p1, p2, e1]
    by_cases q : s 9 n = 0
    · have h1 : am_ph s u n = am_bits u (am_km s n) := by unfold am_ph am_k0 am_bits; rw [decide_eq_true q, Bool.true_and]
      have h2 : am_ph s v n = am_bits v (am_km s n) := by unfold am_ph am_k0 am_bits; rw [decide_eq_true q, Bool.true_and]
      rw [if_pos q, h1, h2]
      have m1 := am_set_lt (P := am_bits u) (am_km s n)
      have m2 := am_set_lt (P := am_bits v) (am_km s n)
      have q1 : am_set (am_bits u) (am_km s n + 1) = am_set (am_bits u) (am_km s n) + if am_bits u (am_km s n) then 2 ^ am_km s n else 0 := rfl
      have q2 : am_set (am_bits v) (am_km s n + 1) = am_set (am_bits v) (am_km s n) + if am_bits v (am_km s n) then 2 ^ am_km s n else 0 := rfl
      rw [q1, q2]
      cases am_bits u (am_km s n) <;> cases am_bits v (am_km s n) <;> simp only [if_true, Bool.false_eq_true, if_false] <;> constructor <;> intro z
      · have := i1 (by omega); omega
      · have := i2 (by omega); omega
      · omega
      · omega
      · omega
      · omega
      · have := i1 (by omega); omega
      · have := i2 (by omega); omega
    · have h1 : am_ph s u n = false := by unfold am_ph am_k0; rw [decide_eq_false q, Bool.false_and]
      have h2 : am_ph s v n = false := by unfold am_ph am_k0; rw [decide_eq_false q, Bool.false_and]
      rw [if_neg q, h1, h2]
      exact ⟨fun z => by have := i1 z; simpa using this, fun z => by have := i2 z; simpa using this⟩
def am_phi (s : Nat → Nat → Int) (v : Nat) : Nat := am_set (am_ph s v) (am_P s)
def am_sub (s : Nat → Nat → Int) (u : Nat) : Prop := ∀ p, u.testBit p = true → p < am_P s ∧ s 9 p = 0
def am_Qr (w h : Nat) (s : Nat → Nat → Int) (u : Nat) : Prop := ∀ l g, ¬ am_CSp w h s (fun p => u.testBit p = true) l g
def am_all (s : Nat → Nat → Int) : Nat := am_set (am_k0 s) (am_P s)
theorem am_all_bit {s : Nat → Nat → Int} {p : Nat} : (am_all s).testBit p = true ↔ p < am_P s ∧ s 9 p = 0 := by
  unfold am_all am_k0
  rw [am_set_bit, Bool.and_eq_true, decide_eq_true_eq, decide_eq_true_eq]
theorem am_phi_sub {s : Nat → Nat → Int} {v : Nat} : am_sub s (am_phi s v) := fun p hp => by
  unfold am_phi at hp
  rw [am_set_bit, Bool.and_eq_true, decide_eq_true_eq] at hp
  unfold am_ph am_k0 at hp
  rw [Bool.and_eq_true, decide_eq_true_eq] at hp
  exact ⟨hp.1, hp.2.1⟩
theorem am_phi_onto {s : Nat → Nat → Int} {a : Nat} (ha : am_sub s a) : ∃ u, u < 2 ^ am_km s (am_P s) ∧ am_phi s u = a := by
  refine ⟨am_set (fun i => a.testBit (am_ke s (am_P s) i)) (am_km s (am_P s)), am_set_lt _, Nat.eq_of_testBit_eq (fun p => ?_)⟩
  unfold am_phi
  rw [am_set_bit]
  unfold am_ph am_k0
  rw [am_set_bit]
  by_cases q : p < am_P s ∧ s 9 p = 0
  · have l := am_km_lt q.1 q.2
    rw [decide_eq_true q.1, decide_eq_true q.2, decide_eq_true l, am_ke_km q.2 q.1]; simp
  · have : a.testBit p = false := by
      cases hb : a.testBit p
      · rfl
      · exact absurd (ha p hb) q
    rw [this]
    by_cases q1 : p < am_P s
    · have q2 : ¬ s 9 p = 0 := fun z => q ⟨q1, z⟩
      rw [decide_eq_false q2]; simp
    · rw [decide_eq_false q1]; simp
theorem am_phi_le {s : Nat → Nat → Int} {u v : Nat} (hu : u < 2 ^ am_km s (am_P s)) (hv : v < 2 ^ am_km s (am_P s)) (h : u ≤ v) : am_phi s u ≤ am_phi s v := by
  obtain ⟨i1, i2⟩ := am_ph_mono (s := s) (u := u) (v := v) (am_P s)
  rw [am_set_self hu, am_set_self hv] at i1 i2
  rcases Nat.lt_or_ge u v with q | q
  · exact Nat.le_of_lt (i1 q)
  · exact Nat.le_of_eq (i2 (by omega))
theorem am_pop_self {v n : Nat} (hn : n ≤ 16) (hv : v < 2 ^ n) : ((am_pop v 16 : Nat) : Int) = am_cnt (am_bits v) n := by
  have := am_pop_cnt (P := am_bits v) (n := n) (m := 16) hn
  rw [am_set_self hv] at this; exact this
theorem am_phi_pop {s : Nat → Nat → Int} {v : Nat} (hP : am_P s ≤ 12) (hv : v < 2 ^ am_km s (am_P s)) : am_pop (am_phi s v) 16 = am_pop v 16 := by
  have lK := am_km_le (s := s) (am_P s)
  have h1 := am_pop_self (v := v) (show am_km s (am_P s) ≤ 16 by omega) hv
  have h2 := am_pop_cnt (P := am_ph s v) (n := am_P s) (m := 16) (by omega)
  have h3 := am_ph_cnt (s := s) (v := v) (am_P s)
  have h4 : ((am_pop (am_phi s v) 16 : Nat) : Int) = am_cnt (am_ph s v) (am_P s) := h2
  omega
def am_QA (w h : Nat) (s : Nat → Nat → Int) (a : Nat) : Prop := (a = 0 ∧ ∀ u, am_sub s u → ¬ am_Qr w h s u) ∨ (am_sub s a ∧ am_Qr w h s a ∧ ∀ u, am_sub s u → am_Qr w h s u → am_pop a 16 < am_pop u 16 ∨ (am_pop a 16 = am_pop u 16 ∧ a ≤ u))
theorem am_QA_u {w h : Nat} {s : Nat → Nat → Int} {a a' : Nat} (h1 : am_QA w h s a) (h2 : am_QA w h s a') : a = a' := by
  rcases h1 with ⟨h1, g1⟩ | ⟨h1, g1, k1⟩ <;> rcases h2 with ⟨h2, g2⟩ | ⟨h2, g2, k2⟩
  · rw [h1, h2]
  · exact absurd g2 (g1 _ h2)
  · exact absurd g1 (g2 _ h1)
  · have a1 := k1 _ h2 g2
    have a2 := k2 _ h1 g1
    omega
noncomputable def A_quarrel (w h : Nat) (s : Nat → Nat → Int) : Int := ((Classical.epsilon (am_QA w h s) : Nat) : Int)
theorem am_QA_eq {w h : Nat} {s : Nat → Nat → Int} {a : Nat} (h1 : am_QA w h s a) : A_quarrel w h s = (a : Int) := by
  unfold A_quarrel
  rw [am_QA_u (Classical.epsilon_spec (p := am_QA w h s) ⟨a, h1⟩) h1]
theorem am_Qr_mono {w h : Nat} {s : Nat → Nat → Int} {a : Nat} (ha : am_sub s a) (hq : am_Qr w h s a) : am_Qr w h s (am_all s) := fun l g hC => hq l g (am_CN_S hC (fun p _ hb => am_all_bit.mpr (ha p hb)))
theorem am_Qr_0 {w h : Nat} {s : Nat → Nat → Int} : ¬ am_Qr w h s 0 := fun hq => hq (fun _ => 1) (fun _ => 60) ⟨fun b _ => by show (1 : Int) ≤ 1 ∧ (1 : Int) ≤ 60 ∧ (60 : Int) ≤ 60; decide, fun p _ hb => by simp at hb⟩
theorem am_phi_all {s : Nat → Nat → Int} : am_phi s (2 ^ am_km s (am_P s) - 1) = am_all s := Nat.eq_of_testBit_eq (fun p => by
  unfold am_phi am_all
  rw [am_set_bit, am_set_bit]
  unfold am_ph
  by_cases q : p < am_P s ∧ s 9 p = 0
  · have l := am_km_lt q.1 q.2
    rw [Nat.testBit_two_pow_sub_one, decide_eq_true l, Bool.and_true]
  · by_cases q1 : p < am_P s
    · have : am_k0 s p = false := by unfold am_k0; exact decide_eq_false (fun z => q ⟨q1, z⟩)
      rw [this, Bool.false_and]
    · rw [decide_eq_false q1, Bool.false_and, Bool.false_and])
theorem am_sub_and {a b : Nat} (ha : a < 2147483648) (hb : b < 2147483648) : am_r (am_and (a : Int) (am_xor (b : Int) (-1))) ∧ (am_and (a : Int) (am_xor (b : Int) (-1)) = 0 ↔ ∀ i, a.testBit i = true → b.testBit i = true) := by
  have e1 : Int32.ofInt (am_xor (b : Int) (-1)) = Int32.ofInt (b : Int) ^^^ Int32.ofInt (-1) := by unfold am_xor; rw [Int32.ofInt_toInt]
  have r1 := Int32.toInt_lt (Int32.ofInt (a : Int) &&& Int32.ofInt (am_xor (b : Int) (-1)))
  have r2 := Int32.le_toInt (Int32.ofInt (a : Int) &&& Int32.ofInt (am_xor (b : Int) (-1)))
  have r3 : (Int32.ofInt (a : Int) &&& Int32.ofInt (am_xor (b : Int) (-1))).toInt = am_and (a : Int) (am_xor (b : Int) (-1)) := rfl
  rw [r3] at r1 r2
  refine ⟨⟨r2, r1⟩, ?_⟩
  have Y : (Int32.ofInt (b : Int) ^^^ Int32.ofInt (-1)).toBitVec.toNat = b ^^^ (2 ^ 32 - 1) := by
    rw [Int32.toBitVec_xor, BitVec.toNat_xor, am_bv hb]; rfl
  have Z : am_and (a : Int) (am_xor (b : Int) (-1)) = 0 ↔ a &&& (b ^^^ (2 ^ 32 - 1)) = 0 := by
    unfold am_and
    rw [e1]
    constructor
    · intro h
      have h2 : (Int32.ofInt (a : Int) &&& (Int32.ofInt (b : Int) ^^^ Int32.ofInt (-1))) = 0 := Int32.toInt_inj.mp (by rw [h]; rfl)
      have h3 := congrArg (fun z : Int32 => z.toBitVec.toNat) h2
      simp only [Int32.toBitVec_and, BitVec.toNat_and] at h3
      rw [am_bv ha, Y] at h3
      exact h3
    · intro h
      refine am_vb (n := 0) ?_ (by decide)
      rw [Int32.toBitVec_and, BitVec.toNat_and, am_bv ha, Y, h]
  rw [Z, am_bits0]
  have al : a < 2 ^ 32 := by show a < 4294967296; omega
  constructor
  · intro h i hi
    have := h i
    rw [Nat.testBit_and, hi, Bool.true_and, Nat.testBit_xor, Nat.testBit_two_pow_sub_one] at this
    have hi2 : i < 32 := by
      rcases Nat.lt_or_ge i 32 with g | g
      · exact g
      · have := Nat.testBit_lt_two_pow (Nat.lt_of_lt_of_le al (Nat.pow_le_pow_right (by decide) g))
        rw [hi] at this; cases this
    rw [decide_eq_true hi2] at this
    simpa using this
  · intro h i
    rw [Nat.testBit_and, Nat.testBit_xor, Nat.testBit_two_pow_sub_one]
    cases hb : a.testBit i
    · rfl
    · have hi2 : i < 32 := by
        rcases Nat.lt_or_ge i 32 with g | g
        · exact g
        · have := Nat.testBit_lt_two_pow (Nat.lt_of_lt_of_le al (Nat.pow_le_pow_right (by decide) g))
          rw [hb] at this; cases this
      rw [h i hb, decide_eq_true hi2]; rfl
section AMQQ
variable {x : am_Sc} {Po : Option am_AV → am_Sh → am_St → Prop} {σ : am_St} {w h w2 h2 : Nat} {s s2 : Nat → Nat → Int}
theorem x_picksOf {v : Nat} (hO : am_OK w h s) (hR : am_RS w h s (am_P s) σ) (hv : v < 2 ^ am_km s (am_P s)) (kk : Po (some (Zi (am_phi s v : Int))) am_SH σ) : am_U x m_Ra_picksOf Po σ 0 [some (Zr 20), some (Zi (v : Int)), none, none] [] := by
  obtain ⟨bP, -⟩ := am_OKb hO
  have lP : am_P s ≤ 12 := by unfold am_P; omega
  have lK := am_km_le (s := s) (am_P s)
  obtain ⟨ke1, ke2, ke3⟩ := am_ke_is (s := s) (am_P s)
  have pw : 2 ^ am_km s (am_P s) ≤ 2 ^ 12 := Nat.pow_le_pow_right (by decide) (by omega)
  have loop : ∀ (d i a : Nat), i + d = am_km s (am_P s) → a < 4096 → (∀ p, a.testBit p = true ↔ ∃ i', i' < i ∧ am_ke s (am_P s) i' = p ∧ v.testBit i' = true) → am_U x m_Ra_picksOf Po σ 4 [some (Zr 20), some (Zi (v : Int)), some (Zi (a : Int)), some (Zi (i : Int))] [] := by
    intro d
    induction d with
    | zero =>
      intro i a hi ha hb
      refine s_Ra_picksOf_4 ?_
      rw [hR.1]
      refine ⟨by omega, by omega, fun _ => ?_, fun q => absurd (by omega) q⟩
      have e : a = am_phi s v := Nat.eq_of_testBit_eq (fun p => by
        rw [Bool.eq_iff_iff, hb p]
        unfold am_phi am_ph am_k0
        rw [am_set_bit, Bool.and_eq_true, Bool.and_eq_true, decide_eq_true_eq, decide_eq_true_eq]
        constructor
        · rintro ⟨i', h1, h2, h3⟩
          have g := ke1 i' (by omega)
          rw [h2] at g
          refine ⟨g.1, g.2, ?_⟩
          rw [← h2, am_km_ke (by omega)]; exact h3
        · rintro ⟨h1, h2, h3⟩
          exact ⟨am_km s p, by have := am_km_lt h1 h2; omega, am_ke_km h2 h1, h3⟩)
      rw [e]; exact kk
    | succ d ih =>
      intro i a hi ha hb
      have g := ke1 i (by omega)
      refine s_Ra_picksOf_4 ?_
      rw [hR.1, am_bit (by omega) (by omega)]
      refine ⟨by omega, by omega, fun q => absurd q (by omega), fun _ => ⟨by split <;> decide, fun qb => s_Ra_picksOf_32 ?_, fun qb => ⟨by omega, s_Ra_picksOf_32 ?_⟩⟩⟩
      · have nb : ¬ v.testBit i = true := fun z => qb (by rw [if_pos z])
        have := ih (i + 1) a (by omega) ha (fun p => by
          rw [hb p]
          constructor
          · rintro ⟨i', h1, h2⟩; exact ⟨i', by omega, h2⟩
          · rintro ⟨i', h1, h2, h3⟩
            rcases Nat.lt_or_ge i' i with g | g
            · exact ⟨i', g, h2, h3⟩
            · rw [show i' = i by omega] at h3; exact absurd h3 nb)
        rw [show ((i + 1 : Nat) : Int) = (i : Int) + 1 by omega] at this
        exact this
      · have nb : v.testBit i = true := by
          by_cases z : v.testBit i = true
          · exact z
          · rw [if_neg z] at qb; exact absurd qb (by decide)
        rw [Int.toNat_natCast, hR.2.1 i (by omega), am_shl1 (by omega) (by omega), Int.toNat_natCast, show (2 : Int) ^ am_ke s (am_P s) i = ((2 ^ am_ke s (am_P s) i : Nat) : Int) by push_cast; rfl]
        have p2 : 2 ^ am_ke s (am_P s) i < 2 ^ 12 := Nat.pow_lt_pow_right (by decide) (by omega)
        rw [am_or_n (by omega) (by omega)]
        have := ih (i + 1) (a ||| 2 ^ am_ke s (am_P s) i) (by omega) (Nat.or_lt_two_pow (n := 12) ha p2) (fun p => by
          rw [Nat.testBit_or, Bool.or_eq_true, hb p, Nat.testBit_two_pow, decide_eq_true_eq]
          constructor
          · rintro (⟨i', h1, h2⟩ | h1)
            · exact ⟨i', by omega, h2⟩
            · exact ⟨i, by omega, h1, nb⟩
          · rintro ⟨i', h1, h2, h3⟩
            rcases Nat.lt_or_ge i' i with g | g
            · exact Or.inl ⟨i', g, h2, h3⟩
            · rw [show i' = i by omega] at h2; exact Or.inr h2)
        rw [show ((i + 1 : Nat) : Int) = (i : Int) + 1 by omega] at this
        exact this
  exact s_Ra_picksOf_0 (loop _ 0 0 (Nat.zero_add _) (by decide) (fun p => by simp))
theorem x_quarrel (hX : am_RX w h s σ) (hM : am_RM w2 h2 s2 σ) (hO : am_OK w h s) (kk : ∀ σ', am_RX w h s σ' → am_RM w2 h2 s2 σ' → Po (some (Zi (A_quarrel w h s))) am_SH σ') : am_U x m_Sp_quarrel Po σ 0 [some (Zr 0)] [] := by
  obtain ⟨bP, -⟩ := am_OKb hO
  have lP : am_P s ≤ 12 := by unfold am_P; omega
  have lK := am_km_le (s := s) (am_P s)
  obtain ⟨ke1, ke2, ke3⟩ := am_ke_is (s := s) (am_P s)
  have pw : 2 ^ am_km s (am_P s) ≤ 2 ^ 12 := Nat.pow_le_pow_right (by decide) (by omega)
  have p1 : 1 ≤ 2 ^ am_km s (am_P s) := Nat.one_le_two_pow
  refine s_Sp_quarrel_0 (x_rays hX hO (fun σ1 f1 hR1 => ⟨rfl, rfl, ?_⟩))
  have hX1 := hX.fx f1 (by decide)
  have hM1 := hM.fx f1 (by decide)
  refine x_setBounds hX1 hO hR1 (fun σ2 f2 hB2 => ⟨rfl, rfl, ?_⟩)
  have hX2 := hX1.fx f2 (by decide)
  have hM2 := hM1.fx f2 (by decide)
  have hR2 : am_RS w h s (am_P s) σ2 := hR1.k (by omega) (fun k j h1 h2 => f2 k j (by simp; omega) (by simp))
  have RSk : ∀ {τ : am_St}, am_fx [106, 107] [(103, 6)] σ2 τ → am_RS w h s (am_P s) τ := fun hf => hR2.k (by omega) (fun k j h1 h2 => hf k j (by simp; omega) (by simp; omega))
  have BDk : ∀ {τ : am_St}, am_fx [106, 107] [(103, 6)] σ2 τ → am_BD s (am_km s (am_P s)) τ := fun hf i hi => by rw [hf.q 104 (by decide), hf.q 105 (by decide)]; exact hB2 i hi
  have bitS : ∀ v : Nat, (∀ i, i < am_km s (am_P s) → (v.testBit i = true ↔ (am_phi s v).testBit (am_ke s (am_P s) i) = true)) ∧ ∀ p, p < am_P s → (am_phi s v).testBit p = true → s 9 p = 0 := fun v => by
    refine ⟨fun i hi => ?_, fun p _ hb => (am_phi_sub p hb).2⟩
    unfold am_phi am_ph am_k0
    rw [am_set_bit, am_km_ke hi, decide_eq_true (ke1 i hi).1, decide_eq_true (ke1 i hi).2]; simp
  -- the end
  have fin : ∀ (τ : am_St) (r : Nat), am_fx [106, 107] [(103, 6)] σ2 τ → r < 2 ^ am_km s (am_P s) → am_QA w h s (am_phi s r) → am_U x m_Ra_picksOf (fun ro4 so4 σ4 => ∃ z4 : Int, ro4 = some (Zi z4) ∧ so4 = am_SH ∧ Po (some (Zi z4)) am_SH σ4) τ 0 [some (Zr 20), some (Zi (r : Int)), none, none] [] := fun τ r hf hr hq => x_picksOf hO (RSk hf) hr ⟨_, rfl, rfl, am_fX kk (am_QA_eq hq) rfl (hX2.fx hf (by decide)) (hM2.fx hf (by decide))⟩
  have phi0 : am_phi s 0 = 0 := by
    unfold am_phi
    rw [am_set0, am_cnt0]
    intro i _; unfold am_ph; rw [Nat.zero_testBit, Bool.and_false]
  refine s_Pr_leastQuarrel_0 (x_allRows hR2.1 (by omega) ⟨_, rfl, rfl, ?_⟩)
  refine x_quarrels (S := fun p => (am_phi s (2 ^ am_km s (am_P s) - 1)).testBit p = true) hO hR2 hB2 (by omega) (bitS _).1 (bitS _).2 (fun σ3 f3 hC hI => ⟨_, rfl, rfl, by decide, fun z => absurd rfl z, fun _ => ⟨_, rfl, rfl, ?_⟩⟩) (fun σ3 f3 hno => ⟨_, rfl, rfl, by decide, fun _ => ?_, fun z => absurd z (by decide)⟩)
  · refine fin σ3 0 f3 (by omega) ?_
    rw [phi0]
    refine Or.inl ⟨rfl, fun u hu hq => ?_⟩
    have := am_Qr_mono hu hq
    rw [← am_phi_all] at this
    exact this _ _ hC
  · have qall : am_Qr w h s (am_all s) := by rw [← am_phi_all]; exact hno
    -- what is known of the sets gone through
    have ans : ∀ (τ : am_St) (r : Nat), am_fx [106, 107] [(103, 6)] σ2 τ → r < 2 ^ am_km s (am_P s) → am_Qr w h s (am_phi s r) → (∀ u, u < 2 ^ am_km s (am_P s) → am_Qr w h s (am_phi s u) → am_pop r 16 < am_pop u 16 ∨ (am_pop r 16 = am_pop u 16 ∧ r ≤ u)) → am_U x m_Ra_picksOf (fun ro4 so4 σ4 => ∃ z4 : Int, ro4 = some (Zi z4) ∧ so4 = am_SH ∧ Po (some (Zi z4)) am_SH σ4) τ 0 [some (Zr 20), some (Zi (r : Int)), none, none] [] := fun τ r hf hr hq hall => by
      refine fin τ r hf hr (Or.inr ⟨am_phi_sub, hq, fun u hu hqu => ?_⟩)
      obtain ⟨u0, hu0, eu⟩ := am_phi_onto hu
      rw [← eu] at hqu ⊢
      rw [am_phi_pop lP hr, am_phi_pop lP hu0]
      rcases hall u0 hu0 hqu with g | ⟨g, g'⟩
      · exact Or.inl g
      · exact Or.inr ⟨g, am_phi_le hr hu0 g'⟩
    have popK : ∀ u, u < 2 ^ am_km s (am_P s) → (am_pop u 16 ≤ am_km s (am_P s)) ∧ (am_km s (am_P s) ≤ am_pop u 16 → u = 2 ^ am_km s (am_P s) - 1) := fun u hu => by
      have h1 := am_pop_self (v := u) (show am_km s (am_P s) ≤ 16 by omega) hu
      have h2 := am_cnt_b (P := am_bits u) (n := am_km s (am_P s))
      refine ⟨by omega, fun h3 => ?_⟩
      have h4 : ∀ n, am_cnt (fun _ => true) n = (n : Int) := fun n => by
        induction n with
        | zero => rfl
        | succ n ih => show am_cnt (fun _ => true) n + 1 = _; rw [ih]; omega
      have h5 := (am_cnt_eq (P := fun _ => true) (Q := am_bits u) (fun _ _ => rfl) (n := am_km s (am_P s))).1.mp (by rw [h4]; omega)
      refine Nat.eq_of_testBit_eq (fun i => ?_)
      rw [Nat.testBit_two_pow_sub_one]
      by_cases q : i < am_km s (am_P s)
      · rw [decide_eq_true q]; exact h5 i q rfl
      · rw [decide_eq_false q, Nat.testBit_lt_two_pow (Nat.lt_of_lt_of_le hu (Nat.pow_le_pow_right (by decide) (by omega)))]
    have pop0 : ∀ u, am_pop u 16 = 0 → u < 2 ^ am_km s (am_P s) → u = 0 := fun u h0 hu => by
      have h1 := am_pop_self (v := u) (show am_km s (am_P s) ≤ 16 by omega) hu
      have h2 := am_cnt0.mp (show am_cnt (am_bits u) (am_km s (am_P s)) = 0 by omega)
      rw [← am_set_self hu, am_set0]; exact am_cnt0.mpr h2
    have nz : ∀ u, u < 2 ^ am_km s (am_P s) → am_Qr w h s (am_phi s u) → 1 ≤ am_pop u 16 := fun u hu hq => by
      rcases Nat.eq_zero_or_pos (am_pop u 16) with g | g
      · rw [pop0 u g hu, phi0] at hq; exact absurd hq am_Qr_0
      · exact g
    have sizes : ∀ (d z : Nat) (τ : am_St), (z + d = am_km s (am_P s) ∨ (d = 0 ∧ am_km s (am_P s) ≤ z)) → am_fx [106, 107] [(103, 6)] σ2 τ → (∀ u, u < 2 ^ am_km s (am_P s) → am_Qr w h s (am_phi s u) → z ≤ am_pop u 16) → am_U x m_Pr_leastQuarrel (fun ro3 so3 σ3 => ∃ z3 : Int, ro3 = some (Zi z3) ∧ so3 = am_SH ∧ am_U x m_Ra_picksOf (fun ro4 so4 σ4 => ∃ z4 : Int, ro4 = some (Zi z4) ∧ so4 = am_SH ∧ Po (some (Zi z4)) am_SH σ4) σ3 0 [some (Zr 20), some (Zi z3), none, none] []) τ 20 [some (Zr 103), some (Zi ((2 ^ am_km s (am_P s) - 1 : Nat) : Int)), some (Zi (z : Int)), none] [] := by
      intro d
      induction d with
      | zero =>
        intro z τ hz hf hlow
        refine s_Pr_leastQuarrel_20 ?_
        rw [(RSk hf).1]
        refine ⟨?_, by omega, fun _ => ⟨_, rfl, rfl, ans τ _ hf (by omega) (by rw [am_phi_all]; exact qall) (fun u hu hq => ?_)⟩, fun q => absurd (by omega) q⟩
        · have h5 := hlow _ (show 2 ^ am_km s (am_P s) - 1 < 2 ^ am_km s (am_P s) by omega) (by rw [am_phi_all]; exact qall)
          have h6 := (popK _ (show 2 ^ am_km s (am_P s) - 1 < 2 ^ am_km s (am_P s) by omega)).1
          omega
        · have h1 := hlow u hu hq
          rw [(popK u hu).2 (by omega)]
          exact Or.inr ⟨rfl, Nat.le_refl _⟩
      | succ d ih =>
        intro z τ hz hf hlow
        have hzK : z < am_km s (am_P s) := by omega
        have sets : ∀ (e v : Nat) (τ : am_St), v + e = 2 ^ am_km s (am_P s) - 1 → am_fx [106, 107] [(103, 6)] σ2 τ → (∀ u, u < v → am_Qr w h s (am_phi s u) → z + 1 ≤ am_pop u 16) → am_U x m_Pr_leastQuarrel (fun ro3 so3 σ3 => ∃ z3 : Int, ro3 = some (Zi z3) ∧ so3 = am_SH ∧ am_U x m_Ra_picksOf (fun ro4 so4 σ4 => ∃ z4 : Int, ro4 = some (Zi z4) ∧ so4 = am_SH ∧ Po (some (Zi z4)) am_SH σ4) σ3 0 [some (Zr 20), some (Zi z3), none, none] []) τ 33 [some (Zr 103), some (Zi ((2 ^ am_km s (am_P s) - 1 : Nat) : Int)), some (Zi (z : Int)), some (Zi (v : Int))] [] := by
          intro e
          induction e with
          | zero =>
            intro v τ hv hf hlow2
            refine s_Pr_leastQuarrel_33 ⟨by omega, by omega, fun _ => ?_, fun q => absurd (by omega) q⟩
            have := ih (z + 1) τ (by omega) hf (fun u hu hq => by
              rcases Nat.lt_or_ge u v with g | g
              · exact hlow2 u g hq
              · have h1 := hlow u hu hq
                have h2 : am_cnt (am_bits u) (am_km s (am_P s)) = (am_km s (am_P s) : Int) := by
                  have e1 : u = 2 ^ am_km s (am_P s) - 1 := by omega
                  have h3 : ∀ n, n ≤ am_km s (am_P s) → am_cnt (am_bits u) n = (n : Int) := fun n => by
                    induction n with
                    | zero => intro _; rfl
                    | succ n ihn =>
                      intro hn
                      show am_cnt (am_bits u) n + (if am_bits u n then 1 else 0) = _
                      rw [ihn (by omega), show am_bits u n = true by unfold am_bits; rw [e1, Nat.testBit_two_pow_sub_one]; simp; omega]
                      simp
                  exact h3 _ (Nat.le_refl _)
                have h4 := am_pop_self (v := u) (show am_km s (am_P s) ≤ 16 by omega) hu
                omega)
            rw [show ((z + 1 : Nat) : Int) = (z : Int) + 1 by omega] at this
            exact this
          | succ e ihe =>
            intro v τ hv hf hlow2
            have vlt : v < 2 ^ am_km s (am_P s) := by omega
            have go : ∀ τ' : am_St, am_fx [106, 107] [(103, 6)] σ2 τ' → (am_Qr w h s (am_phi s v) → z + 1 ≤ am_pop v 16) → am_U x m_Pr_leastQuarrel (fun ro3 so3 σ3 => ∃ z3 : Int, ro3 = some (Zi z3) ∧ so3 = am_SH ∧ am_U x m_Ra_picksOf (fun ro4 so4 σ4 => ∃ z4 : Int, ro4 = some (Zi z4) ∧ so4 = am_SH ∧ Po (some (Zi z4)) am_SH σ4) σ3 0 [some (Zr 20), some (Zi z3), none, none] []) τ' 56 [some (Zr 103), some (Zi ((2 ^ am_km s (am_P s) - 1 : Nat) : Int)), some (Zi (z : Int)), some (Zi (v : Int))] [] := fun τ' hf' hq => by
              have := ihe (v + 1) τ' (by omega) hf' (fun u hu hqu => by
                rcases Nat.lt_or_ge u v with g | g
                · exact hlow2 u g hqu
                · rw [show u = v by omega] at hqu ⊢; exact hq hqu)
              rw [show ((v + 1 : Nat) : Int) = (v : Int) + 1 by omega] at this
              exact s_Pr_leastQuarrel_56 this
            have pk := (popK v vlt).1
            refine s_Pr_leastQuarrel_33 ⟨by omega, by omega, fun q => absurd q (by omega), fun _ => c_bitCount (by omega) ⟨_, rfl, rfl, by omega, by omega, fun q => go τ hf (fun hq => by have := hlow v vlt hq; omega), fun q => ?_⟩⟩
            refine x_quarrels (S := fun p => (am_phi s v).testBit p = true) hO (RSk hf) (BDk hf) (by omega) (bitS v).1 (bitS v).2 (fun σ4 f4 hC hI => ⟨_, rfl, rfl, by decide, fun _ => go σ4 (hf.tr f4 (by decide) (by decide)) (fun hq => absurd hC (hq _ _)), fun z => absurd rfl z⟩) (fun σ4 f4 hno => ⟨_, rfl, rfl, by decide, fun z => absurd z (by decide), fun _ => ⟨_, rfl, rfl, ans σ4 v (hf.tr f4 (by decide) (by decide)) vlt hno (fun u hu hqu => ?_)⟩⟩)
            have h1 := hlow u hu hqu
            rcases Nat.lt_or_ge u v with g | g
            · have := hlow2 u g hqu; left; omega
            · omega
        refine s_Pr_leastQuarrel_20 ?_
        rw [(RSk hf).1]
        refine ⟨by omega, by omega, fun q => absurd q (by omega), fun _ => sets (2 ^ am_km s (am_P s) - 1 - 1) 1 τ ?_ hf (fun u hu hq => ?_)⟩
        · have : 2 ^ 1 ≤ 2 ^ am_km s (am_P s) := Nat.pow_le_pow_right (by decide) (by omega)
          omega
        · rw [show u = 0 by omega, phi0] at hq; exact absurd hq am_Qr_0
    have K1 : am_km s (am_P s) = 0 ∨ 1 + (am_km s (am_P s) - 1) = am_km s (am_P s) := by omega
    rcases K1 with g | g
    · exact sizes 0 1 σ3 (by omega) f3 nz
    · exact sizes (am_km s (am_P s) - 1) 1 σ3 (Or.inl g) f3 nz
theorem m_bits {v : Nat} (hv : v < 65536) (kk : Po (some (Zi ((am_pop v 16 : Nat) : Int))) am_SH σ) : am_U x m_Mo_bits Po σ 0 [some (Zi (v : Int)), none, none] [] := by
  have loop : ∀ (d i : Nat), i + d = 16 → am_U x m_Mo_bits Po σ 4 [some (Zi (v : Int)), some (Zi ((am_pop v i : Nat) : Int)), some (Zi (i : Int))] [] := by
    intro d
    induction d with
    | zero =>
      intro i hi
      refine s_Mo_bits_4 ⟨by omega, fun _ => ?_, fun q => absurd (by omega) q⟩
      rw [show i = 16 by omega]; exact kk
    | succ d ih =>
      intro i hi
      refine s_Mo_bits_4 ⟨by omega, fun q => absurd q (by omega), fun _ => ?_⟩
      have h1 : v / 2 ^ i ≤ v := Nat.div_le_self _ _
      have h2 : 0 ≤ ((v / 2 ^ i : Nat) : Int) := Int.natCast_nonneg _
      rw [am_shr_n (by omega) (by omega), am_and1 (by omega)]
      have := ih (i + 1) (by omega)
      rw [show ((i + 1 : Nat) : Int) = (i : Int) + 1 by omega, show am_pop v (i + 1) = am_pop v i + v / 2 ^ i % 2 from rfl, show ((am_pop v i + v / 2 ^ i % 2 : Nat) : Int) = ((am_pop v i : Nat) : Int) + ((v / 2 ^ i : Nat) : Int) % 2 by omega] at this
      exact this
  exact s_Mo_bits_0 (loop 16 0 (by omega))
theorem m_quarrel (hM : am_RM w h s σ) (hX : am_RX w2 h2 s2 σ) (hO : am_OK w h s) (kk : ∀ σ', am_RM w h s σ' → am_RX w2 h2 s2 σ' → Po (some (Zi (A_quarrel w h s))) am_SH σ') : am_U x m_Mo_quarrel Po σ 0 [some (Zr 147), none, none, none] [] := by
  obtain ⟨bP, -⟩ := am_OKb hO
  have lP : am_P s ≤ 12 := by unfold am_P; omega
  refine s_Mo_quarrel_0 (m_findRays hM hO (fun σ1 f1 hL hY => ⟨rfl, rfl, ?_⟩))
  have hX1 := hX.fx f1 (by decide)
  have hM1 := hM.fx f1 (by decide)
  have al := am_set_lt (P := am_k0 s) (am_P s)
  have pw : 2 ^ am_P s ≤ 2 ^ 12 := Nat.pow_le_pow_right (by decide) (by omega)
  have alb : am_all s < 4096 := by have : am_all s < 2 ^ am_P s := al; omega
  have subI : ∀ u, (∀ i, u.testBit i = true → (am_all s).testBit i = true) ↔ am_sub s u := fun u => ⟨fun h p hp => am_all_bit.mp (h p hp), fun h p hp => am_all_bit.mpr (h p hp)⟩
  have sub_le : ∀ u, am_sub s u → u ≤ am_all s := fun u hu => by
    have : u &&& am_all s = u := Nat.eq_of_testBit_eq (fun i => by
      rw [Nat.testBit_and]
      cases hb : u.testBit i
      · rfl
      · rw [(subI u).mpr hu i hb]; rfl)
    rw [← this]; exact Nat.and_le_right
  have sets : ∀ (d v best : Nat) (τ : am_St), v + d = am_all s + 1 → 1 ≤ v → am_fx [167, 168] [] σ1 τ → ((best = 0 ∧ ∀ u, u < v → am_sub s u → ¬ am_Qr w h s u) ∨ (best ≠ 0 ∧ best < v ∧ am_sub s best ∧ am_Qr w h s best ∧ ∀ u, u < v → am_sub s u → am_Qr w h s u → am_pop best 16 < am_pop u 16 ∨ (am_pop best 16 = am_pop u 16 ∧ best ≤ u))) → am_U x m_Mo_quarrel Po τ 45 [some (Zr 147), some (Zi (am_all s : Int)), some (Zi (best : Int)), some (Zi (v : Int))] [] := by
    intro d
    induction d with
    | zero =>
      intro v best τ hv h1 hf hinv
      refine s_Mo_quarrel_45 ⟨by omega, by omega, fun _ => am_fM kk (am_QA_eq ?_) rfl (hM1.fx hf (by decide)) (hX1.fx hf (by decide)), fun q => absurd (by omega) q⟩
      rcases hinv with ⟨a1, a2⟩ | ⟨a1, a2, a3, a4, a5⟩
      · exact Or.inl ⟨a1, fun u hu => a2 u (by have := sub_le u hu; omega) hu⟩
      · exact Or.inr ⟨a3, a4, fun u hu => a5 u (by have := sub_le u hu; omega) hu⟩
    | succ d ih =>
      intro v best τ hv h1 hf hinv
      have bb : best < 4096 := by rcases hinv with ⟨a1, -⟩ | ⟨-, a2, -⟩ <;> omega
      obtain ⟨s1, s2'⟩ := am_sub_and (a := v) (b := am_all s) (by omega) (by omega)
      rw [subI v] at s2'
      have go : ∀ (τ' : am_St) (b' : Nat), am_fx [167, 168] [] σ1 τ' → ((b' = 0 ∧ ∀ u, u < v + 1 → am_sub s u → ¬ am_Qr w h s u) ∨ (b' ≠ 0 ∧ b' < v + 1 ∧ am_sub s b' ∧ am_Qr w h s b' ∧ ∀ u, u < v + 1 → am_sub s u → am_Qr w h s u → am_pop b' 16 < am_pop u 16 ∨ (am_pop b' 16 = am_pop u 16 ∧ b' ≤ u))) → am_U x m_Mo_quarrel Po τ' 83 [some (Zr 147), some (Zi (am_all s : Int)), some (Zi (b' : Int)), some (Zi (v : Int))] [] := fun τ' b' a1 a2 => by
        have := ih (v + 1) b' τ' (by omega) (by omega) a1 a2
        rw [show ((v + 1 : Nat) : Int) = (v : Int) + 1 by omega] at this
        exact s_Mo_quarrel_83 this
      -- v changes nothing
      have keep : (am_sub s v → am_Qr w h s v → best ≠ 0 ∧ am_pop best 16 ≤ am_pop v 16) → ((best = 0 ∧ ∀ u, u < v + 1 → am_sub s u → ¬ am_Qr w h s u) ∨ (best ≠ 0 ∧ best < v + 1 ∧ am_sub s best ∧ am_Qr w h s best ∧ ∀ u, u < v + 1 → am_sub s u → am_Qr w h s u → am_pop best 16 < am_pop u 16 ∨ (am_pop best 16 = am_pop u 16 ∧ best ≤ u))) := fun hk => by
        rcases hinv with ⟨a1, a2⟩ | ⟨a1, a2, a3, a4, a5⟩
        · refine Or.inl ⟨a1, fun u hu hs hq => ?_⟩
          rcases Nat.lt_or_ge u v with g | g
          · exact a2 u g hs hq
          · rw [show u = v by omega] at hs hq; exact (hk hs hq).1 a1
        · refine Or.inr ⟨a1, by omega, a3, a4, fun u hu hs hq => ?_⟩
          rcases Nat.lt_or_ge u v with g | g
          · exact a5 u g hs hq
          · rw [show u = v by omega] at hs hq ⊢
            have := (hk hs hq).2
            omega
      have at73 : am_sub s v → (best = 0 ∨ am_pop v 16 < am_pop best 16) → am_U x m_Mo_quarrel Po τ 73 [some (Zr 147), some (Zi (am_all s : Int)), some (Zi (best : Int)), some (Zi (v : Int))] [] := fun hs hlt => by
        refine s_Mo_quarrel_73 (m_press (v := v) (S := fun p => v.testBit p = true) (hM1.fx hf (by decide)) hO (fun p hp => by rw [hf.g 161 (by decide), hf.g 162 (by decide)]; exact hL p hp) (fun p b hp hb h0 => by rw [hf.g 166 (by decide)]; exact hY p b hp hb h0) (by omega) (fun p hp => ⟨fun z => ⟨z, (hs p z).2⟩, fun z => z.1⟩) (fun σ4 f4 hC hI => ⟨_, rfl, rfl, by decide, fun _ => go σ4 best (hf.tr f4 (by decide) (by decide)) (keep (fun _ hq => absurd hC (hq _ _))), fun z => absurd z (by decide)⟩) (fun σ4 f4 hno => ⟨_, rfl, rfl, by decide, fun z => absurd rfl z, fun _ => go σ4 v (hf.tr f4 (by decide) (by decide)) (Or.inr ⟨by omega, by omega, hs, hno, fun u hu hsu hq => ?_⟩)⟩))
        rcases Nat.lt_or_ge u v with g | g
        · rcases hinv with ⟨a1, a2⟩ | ⟨a1, a2, a3, a4, a5⟩
          · exact absurd hq (a2 u g hsu)
          · have := a5 u g hsu hq; omega
        · rw [show u = v by omega]; exact Or.inr ⟨rfl, Nat.le_refl _⟩
      have pb : ∀ u : Nat, u < 4096 → am_pop u 16 ≤ 16 := fun u hu => by
        have := am_pop_self (v := u) (n := 12) (by decide) hu
        have := am_cnt_b (P := am_bits u) (n := 12)
        omega
      have p1 := pb v (by omega)
      have p2 := pb best bb
      refine s_Mo_quarrel_45 ⟨by omega, by omega, fun q => absurd q (by omega), fun _ => ⟨s1, fun q => go τ best hf (keep (fun hs => absurd (s2'.mpr hs) q)), fun q => ⟨by omega, fun q2 => at73 (s2'.mp q) (Or.inl (by omega)), fun q2 => m_bits (by omega) ⟨_, rfl, rfl, m_bits (by omega) ⟨_, rfl, rfl, by omega, by omega, fun q3 => go τ best hf (keep (fun _ _ => ⟨by omega, by omega⟩)), fun q3 => at73 (s2'.mp q) (Or.inr (by omega))⟩⟩⟩⟩⟩
  have alls : ∀ (d p : Nat), p + d = am_P s → am_U x m_Mo_quarrel Po σ1 8 [some (Zr 147), some (Zi ((am_set (am_k0 s) p : Nat) : Int)), some (Zi (p : Int)), none] [] := by
    intro d
    induction d with
    | zero =>
      intro p hp
      have eP : σ1.1 147 11 = (am_P s : Int) := by rw [hM1.1.as 147 11 4 (by decide)]; unfold am_P; omega
      refine s_Mo_quarrel_8 ?_
      rw [eP]
      refine ⟨by omega, by omega, fun _ => ?_, fun q => absurd (by omega) q⟩
      rw [show p = am_P s by omega]
      refine sets (am_all s) 1 0 σ1 (by omega) (by omega) am_fx.rf (Or.inl ⟨rfl, fun u hu hs hq => ?_⟩)
      rw [show u = 0 by omega] at hq; exact am_Qr_0 hq
    | succ d ih =>
      intro p hp
      obtain ⟨a, -, -, d9, -⟩ := am_OKp hO (show p < am_P s by omega)
      have eP : σ1.1 147 11 = (am_P s : Int) := by rw [hM1.1.as 147 11 4 (by decide)]; unfold am_P; omega
      have nx := ih (p + 1) (by omega)
      have e9 : am_set (am_k0 s) (p + 1) = am_set (am_k0 s) p + if am_k0 s p then 2 ^ p else 0 := rfl
      have lt := am_set_lt (P := am_k0 s) p
      have p12 : 2 ^ p ≤ 2 ^ 12 := Nat.pow_le_pow_right (by decide) (by omega)
      rw [show ((p + 1 : Nat) : Int) = (p : Int) + 1 by omega, e9] at nx
      refine s_Mo_quarrel_8 ?_
      rw [eP, Int.toNat_natCast, hM1.1.at 156 9 12 (by decide) a]
      refine ⟨by omega, by omega, fun q => absurd q (by omega), fun _ => ⟨by omega, by omega, fun q => s_Mo_quarrel_33 ?_, fun q => s_Mo_quarrel_33 ?_⟩⟩
      · rw [show am_k0 s p = false by unfold am_k0; exact decide_eq_false q] at nx
        have := am_or_n (a := am_set (am_k0 s) p) (b := 0) (by omega) (by decide)
        rw [Nat.or_zero] at this
        rw [show (0 : Int) = ((0 : Nat) : Int) by rfl, this]
        simpa using nx
      · rw [show am_k0 s p = true by unfold am_k0; exact decide_eq_true q] at nx
        rw [am_shl1 (by omega) (by omega), Int.toNat_natCast, show (2 : Int) ^ p = ((2 ^ p : Nat) : Int) by push_cast; rfl, am_or_n (by omega) (by omega), am_set_or]
        exact nx
  exact alls _ 0 (Nat.zero_add _)
end AMQQ
