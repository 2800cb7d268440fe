/-! ===== blocks: sizes, split, join, count ===== -/
theorem am_rel.arr {R S : List (Nat × Nat × Nat)} {s s' : Nat → Nat → Int} {σ σ' : am_St} {k r n : Nat} (h : am_rel R S s σ) (hf : am_fx [k] [] σ σ') (hk : (R.all (fun q => (q.1 == k) == (q.2.1 == r) && (!(q.1 == k) || q.2.2 == n)) && (S.all (fun q => !(q.1 == k)) && !(r == 0))) = true) (hs : ∀ r' j, r' ≠ r → s' r' j = s r' j) (h1 : ∀ j, j < n → σ'.1 k j = s' r j) : am_rel R S s' σ' := by
  simp only [Bool.and_eq_true, List.all_eq_true, Bool.not_eq_true', beq_eq_false_iff_ne, beq_iff_eq] at hk
  obtain ⟨k1, k2, k3⟩ := hk
  refine ⟨fun q hq j hj => ?_, fun q hq => ?_⟩
  · obtain ⟨e1, e2⟩ := k1 q hq
    by_cases e : q.1 = k
    · have er : q.2.1 = r := by simpa [e] using e1.symm
      have en : q.2.2 = n := by simpa [e] using e2
      rw [e, er]; exact h1 j (by omega)
    · have er : q.2.1 ≠ r := fun z => e (by rw [beq_iff_eq.mpr z] at e1; exact beq_iff_eq.mp e1)
      rw [hf q.1 j (by simpa using e) (by simp), hs _ _ er]; exact h.1 q hq j hj
  · rw [hf q.1 q.2.1 (by simpa using k2 q hq) (by simp), hs 0 _ (fun z => k3 z.symm)]; exact h.2 q hq
theorem am_RX.arr {w h : Nat} {s s' : Nat → Nat → Int} {σ σ' : am_St} {k r n : Nat} (hX : am_RX w h s σ) (hf : am_fx [k] [] σ σ') (hk : ((am_XR.all (fun q => (q.1 == k) == (q.2.1 == r) && (!(q.1 == k) || q.2.2 == n)) && (am_XS.all (fun q => !(q.1 == k)) && !(r == 0))) && (!(k == 1) && !(k == 4))) = true) (hs : ∀ r' j, r' ≠ r → s' r' j = s r' j) (h1 : ∀ j, j < n → σ'.1 k j = s' r j) : am_RX w h s' σ' := by
  rw [Bool.and_eq_true] at hk
  have k2 := hk.2
  simp only [Bool.and_eq_true, Bool.not_eq_true', beq_eq_false_iff_ne] at k2
  refine ⟨hX.1.arr hf hk.1 hs h1, ?_, fun c i hc hi => ?_⟩
  · rw [hf 1 0 (by simpa using fun e : 1 = k => k2.1 e.symm) (by simp)]; exact hX.2.1
  · rw [hf 4 _ (by simpa using fun e : 4 = k => k2.2 e.symm) (by simp)]; exact hX.2.2 c i hc hi
theorem am_RM.arr {w h : Nat} {s s' : Nat → Nat → Int} {σ σ' : am_St} {k r n : Nat} (hM : am_RM w h s σ) (hf : am_fx [k] [] σ σ') (hk : ((am_MR.all (fun q => (q.1 == k) == (q.2.1 == r) && (!(q.1 == k) || q.2.2 == n)) && (am_MS.all (fun q => !(q.1 == k)) && !(r == 0))) && !(k == 147)) = true) (hs : ∀ r' j, r' ≠ r → s' r' j = s r' j) (h1 : ∀ j, j < n → σ'.1 k j = s' r j) : am_RM w h s' σ' := by
  rw [Bool.and_eq_true] at hk
  have k2 := hk.2
  simp only [Bool.not_eq_true', beq_eq_false_iff_ne] at k2
  refine ⟨hM.1.arr hf hk.1 hs h1, ?_, ?_⟩
  · rw [hf 147 0 (by simpa using fun e : 147 = k => k2 e.symm) (by simp)]; exact hM.2.1
  · rw [hf 147 1 (by simpa using fun e : 147 = k => k2 e.symm) (by simp)]; exact hM.2.2
def am_first (p : Nat → Bool) : Nat → Nat
  | 0 => 0
  | n + 1 => if am_first p n < n then am_first p n else if p n then n else n + 1
theorem am_first_is {p : Nat → Bool} : ∀ n, am_first p n ≤ n ∧ (∀ i, i < am_first p n → p i = false) ∧ (am_first p n < n → p (am_first p n) = true)
  | 0 => ⟨Nat.le_refl 0, fun i hi => absurd hi (Nat.not_lt_zero i), fun h => absurd h (Nat.not_lt_zero _)⟩
  | n + 1 => by
    obtain ⟨h1, h2, h3⟩ := am_first_is (p := p) n
    have e : am_first p (n + 1) = if am_first p n < n then am_first p n else if p n then n else n + 1 := rfl
    rw [e]
    by_cases q : am_first p n < n
    · rw [if_pos q]; exact ⟨by omega, h2, fun _ => h3 q⟩
    · rw [if_neg q]
      by_cases q2 : p n = true
      · rw [if_pos q2]; exact ⟨by omega, fun i hi => h2 i (by omega), fun _ => q2⟩
      · rw [if_neg q2]
        refine ⟨Nat.le_refl _, fun i hi => ?_, fun h => absurd h (by omega)⟩
        rcases Nat.lt_or_ge i n with g | g
        · exact h2 i (by omega)
        · rw [show i = n by omega]; simpa using q2
theorem am_first_eq {p : Nat → Bool} {n i : Nat} (hi : i < n) (hp : p i = true) (hj : ∀ j, j < i → p j = false) : am_first p n = i := by
  obtain ⟨h1, h2, h3⟩ := am_first_is (p := p) n
  rcases Nat.lt_trichotomy (am_first p n) i with q | q | q
  · have := h3 (by omega); rw [hj _ q] at this; cases this
  · exact q
  · have := h2 i q; rw [hp] at this; cases this
theorem am_first_none {p : Nat → Bool} {n : Nat} (hj : ∀ j, j < n → p j = false) : am_first p n = n := by
  obtain ⟨h1, h2, h3⟩ := am_first_is (p := p) n
  rcases Nat.lt_or_ge (am_first p n) n with q | q
  · have := h3 q; rw [hj _ q] at this; cases this
  · omega
def am_inB (s : Nat → Nat → Int) (b c : Nat) : Bool := decide (s 1 c = (b : Int))
def am_bsz (w h : Nat) (s : Nat → Nat → Int) (b : Nat) : Int := am_cnt (am_inB s b) (w * h)
def am_mv (N : Nat) (s : Nat → Nat → Int) (b v to : Nat) : Nat → Nat → Int := fun r c => if r = 1 ∧ c < N ∧ s 1 c = (b : Int) ∧ v.testBit c = true then (to : Int) else s r c
def am_ov (w h : Nat) (s : Nat → Nat → Int) (b v : Nat) : Int := am_cnt (fun c => am_inB s b c && v.testBit c) (w * h)
def am_free (w h : Nat) (s : Nat → Nat → Int) : Nat := am_first (fun b => decide (am_bsz w h s b = 0)) 8
def A_sb (w h : Nat) (s : Nat → Nat → Int) (b v : Nat) : Int := if am_ov w h s b v = 0 ∨ am_ov w h s b v = am_bsz w h s b then -4 else if am_free w h s < 8 then (am_free w h s : Int) else -5
def N_sb (w h : Nat) (s : Nat → Nat → Int) (b v : Nat) : Nat → Nat → Int := if am_ov w h s b v = 0 ∨ am_ov w h s b v = am_bsz w h s b then s else if am_free w h s < 8 then am_up (am_mv (w * h) s b v (am_free w h s)) 2 (am_free w h s) (s 2 b) else s
theorem am_set0 {P : Nat → Bool} {n : Nat} : am_set P n = 0 ↔ am_cnt P n = 0 := by
  rw [am_bits0, am_cnt0]
  constructor
  · intro h i hi
    have := h i
    rw [am_set_bit] at this
    simpa [hi] using this
  · intro h i
    rw [am_set_bit]
    by_cases q : i < n
    · simp [h i q]
    · simp [q]
theorem am_in_all {v : Int} {n : Nat} (hn : n ≤ 16) (rv : am_r v) : am_and v (am_xor (2 ^ n - 1) (-1)) = 0 ↔ 0 ≤ v ∧ v < 2 ^ n := by
  have p1 := Nat.pow_le_pow_right (n := 2) (by decide) hn
  have p0 : 0 < 2 ^ n := Nat.pow_pos (by decide)
  have e0 : ((2 : Int) ^ n - 1) = ((2 ^ n - 1 : Nat) : Int) := by
    have : ((2 ^ n : Nat) : Int) = (2 : Int) ^ n := by push_cast; rfl
    omega
  have e1 : Int32.ofInt (am_xor (2 ^ n - 1) (-1)) = Int32.ofInt (((2 ^ n - 1 : Nat)) : Int) ^^^ Int32.ofInt (-1) := by
    unfold am_xor; rw [Int32.ofInt_toInt, e0]
  have X : (Int32.ofInt v).toBitVec.toNat = (v % 4294967296).toNat := by
    show (BitVec.ofInt 32 v).toNat = _
    rw [BitVec.toNat_ofInt]; rfl
  have Xl : (v % 4294967296).toNat < 2 ^ 32 := by show _ < 4294967296; omega
  have Y : (Int32.ofInt (((2 ^ n - 1 : Nat)) : Int) ^^^ Int32.ofInt (-1)).toBitVec.toNat = (2 ^ n - 1) ^^^ (2 ^ 32 - 1) := by
    rw [Int32.toBitVec_xor, BitVec.toNat_xor, am_bv (by omega)]; rfl
  have Z : am_and v (am_xor (2 ^ n - 1) (-1)) = 0 ↔ (v % 4294967296).toNat &&& ((2 ^ n - 1) ^^^ (2 ^ 32 - 1)) = 0 := by
    unfold am_and
    rw [e1]
    constructor
    · intro h
      have h2 : (Int32.ofInt v &&& (Int32.ofInt (((2 ^ n - 1 : Nat)) : Int) ^^^ Int32.ofInt (-1))) = 0 := Int32.toInt_inj.mp (by rw [h]; rfl)
      have h3 := congrArg (fun z : Int32 => z.toBitVec.toNat) h2
      simp only [Int32.toBitVec_and, BitVec.toNat_and] at h3
      rw [X, Y] at h3
      exact h3
    · intro h
      refine am_vb (n := 0) ?_ (by decide)
      rw [Int32.toBitVec_and, BitVec.toNat_and, X, Y, h]
  rw [Z]
  have bitY : ∀ i, ((2 ^ n - 1) ^^^ (2 ^ 32 - 1)).testBit i = (decide (i < n) != decide (i < 32)) := fun i => by
    rw [Nat.testBit_xor, Nat.testBit_two_pow_sub_one, Nat.testBit_two_pow_sub_one]
  have en : ((2 ^ n : Nat) : Int) = (2 : Int) ^ n := by push_cast; rfl
  constructor
  · intro h
    have lt : (v % 4294967296).toNat < 2 ^ n := by
      rcases Nat.lt_or_ge (v % 4294967296).toNat (2 ^ n) with q | q
      · exact q
      · exfalso
        obtain ⟨i, hi, hb⟩ := Nat.exists_ge_and_testBit_of_ge_two_pow q
        have hi2 : i < 32 := by
          rcases Nat.lt_or_ge i 32 with g | g
          · exact g
          · have := Nat.testBit_lt_two_pow (Nat.lt_of_lt_of_le Xl (Nat.pow_le_pow_right (by decide) g))
            rw [hb] at this; cases this
        have := am_bits0.mp h i
        rw [Nat.testBit_and, hb, bitY] at this
        have d1 : decide (i < n) = false := by simp; omega
        have d2 : decide (i < 32) = true := by simp; omega
        rw [d1, d2] at this; cases this
    rw [← en]
    omega
  · rintro ⟨g1, g2⟩
    rw [← en] at g2
    refine am_bits0.mpr (fun i => ?_)
    rw [Nat.testBit_and, bitY]
    by_cases q : i < n
    · have d1 : decide (i < n) = true := by simp; omega
      have d2 : decide (i < 32) = true := by simp; omega
      rw [d1, d2]; simp
    · have : (v % 4294967296).toNat.testBit i = false := Nat.testBit_lt_two_pow (Nat.lt_of_lt_of_le (show (v % 4294967296).toNat < 2 ^ n by omega) (Nat.pow_le_pow_right (by decide) (by omega)))
      rw [this]; rfl
section AMK
variable {x : am_Sc} {Po : Option am_AV → am_Sh → am_St → Prop} {σ : am_St} {w h w2 h2 : Nat} {s s2 : Nat → Nat → Int}
theorem x_cellsOf {b : Nat} (hX : am_RX w h s σ) (hO : am_OK w h s) (hb : b < 100) (kk : Po (some (Zi ((am_set (am_inB s b) (w * h) : Nat) : Int))) am_SH σ) : am_U x m_Gr_cellsOf Po σ 0 [some (Zr 1), some (Zi (b : Int)), none, none] [] := by
  have hwh := am_wh hO
  have loop : ∀ (d i : Nat), i + d = w * h → am_U x m_Gr_cellsOf Po σ 4 [some (Zr 1), some (Zi (b : Int)), some (Zi ((am_set (am_inB s b) i : Nat) : Int)), some (Zi (i : Int))] [] := by
    intro d
    induction d with
    | zero =>
      intro i hi
      refine s_Gr_cellsOf_4 ?_
      rw [hX.2.1]
      refine ⟨by omega, by omega, fun _ => ?_, fun q => absurd (by omega) q⟩
      rw [show i = w * h by omega]; exact kk
    | succ d ih =>
      intro i hi
      have e2 : σ.1 2 i = s 1 i := hX.1.at 2 1 16 (by decide) (by omega)
      have b1 := hO.2.2.2.2.2.2.2.2.1 i (by omega)
      have nx := ih (i + 1) (by omega)
      have e9 : am_set (am_inB s b) (i + 1) = am_set (am_inB s b) i + if am_inB s b i then 2 ^ i else 0 := rfl
      have lt := am_set_lt (P := am_inB s b) i
      have p1 : 2 ^ i ≤ 2 ^ 16 := Nat.pow_le_pow_right (by decide) (by omega)
      refine s_Gr_cellsOf_4 ?_
      rw [hX.2.1, Int.toNat_natCast, e2]
      refine ⟨by omega, by omega, fun q => absurd q (by omega), fun _ => ⟨by omega, by omega, by omega, fun q => s_Gr_cellsOf_28 ?_, fun q => s_Gr_cellsOf_28 ?_⟩⟩
      · rw [e9, show am_inB s b i = false by unfold am_inB; simpa using q] at nx
        exact nx
      · rw [e9, show am_inB s b i = true by unfold am_inB; simpa using q] at nx
        rw [am_shl1 (by omega) (by omega), Int.toNat_natCast, show (2 : Int) ^ i = ((2 ^ i : Nat) : Int) by push_cast; rfl, am_or_n (by omega) (by omega), am_set_or]
        exact nx
  exact s_Gr_cellsOf_0 (loop _ 0 (Nat.zero_add _))
theorem am_bsz_b {b : Nat} : 0 ≤ am_bsz w h s b ∧ am_bsz w h s b ≤ ((w * h : Nat) : Int) := am_cnt_b
theorem x_cellsIn {b : Nat} (hX : am_RX w h s σ) (hO : am_OK w h s) (hb : b < 100) (kk : Po (some (Zi (am_bsz w h s b))) am_SH σ) : am_U x m_Gr_cellsIn Po σ 0 [some (Zr 1), some (Zi (b : Int))] [] := by
  have hwh := am_wh hO
  have lt := am_set_lt (P := am_inB s b) (w * h)
  have p1 : 2 ^ (w * h) ≤ 2 ^ 16 := Nat.pow_le_pow_right (by decide) (by omega)
  refine s_Gr_cellsIn_0 (x_cellsOf hX hO hb ⟨_, rfl, rfl, c_bitCount (by omega) ⟨_, rfl, rfl, ?_⟩⟩)
  rw [am_pop_cnt (by omega)]; exact kk
theorem m_sizeOf {b : Nat} (hM : am_RM w h s σ) (hO : am_OK w h s) (hb : b < 100) (kk : Po (some (Zi (am_bsz w h s b))) am_SH σ) : am_U x m_Mo_sizeOf Po σ 0 [some (Zr 147), some (Zi (b : Int)), none, none] [] := by
  have hwh := am_wh hO
  have loop : ∀ (d i : Nat), i + d = w * h → am_U x m_Mo_sizeOf Po σ 4 [some (Zr 147), some (Zi (b : Int)), some (Zi (am_cnt (am_inB s b) i)), some (Zi (i : Int))] [] := by
    intro d
    induction d with
    | zero =>
      intro i hi
      refine s_Mo_sizeOf_4 (m_cells hM ⟨_, rfl, rfl, by omega, by omega, fun _ => ?_, fun q => absurd (by omega) q⟩)
      rw [show i = w * h by omega]; exact kk
    | succ d ih =>
      intro i hi
      have e2 : σ.1 148 i = s 1 i := hM.1.at 148 1 16 (by decide) (by omega)
      have b1 := hO.2.2.2.2.2.2.2.2.1 i (by omega)
      have nx := ih (i + 1) (by omega)
      have e9 : am_cnt (am_inB s b) (i + 1) = am_cnt (am_inB s b) i + if am_inB s b i then 1 else 0 := rfl
      refine s_Mo_sizeOf_4 (m_cells hM ⟨_, rfl, rfl, by omega, by omega, fun q => absurd q (by omega), fun _ => ?_⟩)
      rw [Int.toNat_natCast, e2]
      refine ⟨by omega, by omega, by omega, fun q => s_Mo_sizeOf_28 ?_, fun q => s_Mo_sizeOf_28 ?_⟩
      · rw [e9, show am_inB s b i = false by unfold am_inB; simpa using q] at nx; exact nx
      · rw [e9, show am_inB s b i = true by unfold am_inB; simpa using q] at nx; exact nx
  exact s_Mo_sizeOf_0 (loop _ 0 (Nat.zero_add _))
def am_use (w h : Nat) (s : Nat → Nat → Int) : Int := am_sum (fun b => if am_bsz w h s b = 0 then 0 else 1) 8
theorem x_blocksInUse (hX : am_RX w h s σ) (hO : am_OK w h s) (kk : Po (some (Zi (am_use w h s))) am_SH σ) : am_U x m_Gr_blocksInUse Po σ 0 [some (Zr 1), none, none] [] := by
  have hwh := am_wh hO
  have loop : ∀ (d i : Nat), i + d = 8 → am_U x m_Gr_blocksInUse Po σ 4 [some (Zr 1), some (Zi (am_sum (fun b => if am_bsz w h s b = 0 then 0 else 1) i)), some (Zi (i : Int))] [] := by
    intro d
    induction d with
    | zero =>
      intro i hi
      refine s_Gr_blocksInUse_4 ⟨by omega, fun _ => ?_, fun q => absurd (by omega) q⟩
      rw [show i = 8 by omega]; exact kk
    | succ d ih =>
      intro i hi
      have nx := ih (i + 1) (by omega)
      have e9 : am_sum (fun b => if am_bsz w h s b = 0 then (0 : Int) else 1) (i + 1) = am_sum (fun b => if am_bsz w h s b = 0 then 0 else 1) i + if am_bsz w h s i = 0 then 0 else 1 := rfl
      have lt := am_set_lt (P := am_inB s i) (w * h)
      have p1 : 2 ^ (w * h) ≤ 2 ^ 16 := Nat.pow_le_pow_right (by decide) (by omega)
      have s0 : am_set (am_inB s i) (w * h) = 0 ↔ am_bsz w h s i = 0 := am_set0
      refine s_Gr_blocksInUse_4 ⟨by omega, fun q => absurd q (by omega), fun _ => x_cellsOf hX hO (by omega) ⟨_, rfl, rfl, by omega, fun q => s_Gr_blocksInUse_24 ?_, fun q => s_Gr_blocksInUse_24 ?_⟩⟩
      · rw [e9, if_pos (s0.mp (by omega))] at nx; exact nx
      · rw [e9, if_neg (fun z => q (by rw [s0.mpr z]; rfl))] at nx; exact nx
  exact s_Gr_blocksInUse_0 (loop _ 0 (Nat.zero_add _))
theorem x_moveCells {b v to : Nat} (hX : am_RX w h s σ) (hO : am_OK w h s) (hb : b < 8) (hv : v < 2147483648) (hne : b ≠ to) (kk : ∀ σ', am_fx [2] [] σ σ' → am_RX w h (am_mv (w * h) s b v to) σ' → Po none am_SH σ') : am_U x m_Gr_moveCells Po σ 0 [some (Zr 1), some (Zi (b : Int)), some (Zi (v : Int)), some (Zi (to : Int)), none] [] := by
  have hwh := am_wh hO
  have loop : ∀ (d i : Nat) (τ : am_St), i + d = w * h → am_fx [2] [] σ τ → (∀ c, c < 16 → τ.1 2 c = if c < i then am_mv (w * h) s b v to 1 c else s 1 c) → am_U x m_Gr_moveCells Po τ 3 [some (Zr 1), some (Zi (b : Int)), some (Zi (v : Int)), some (Zi (to : Int)), some (Zi (i : Int))] [] := by
    intro d
    induction d with
    | zero =>
      intro i τ hi hf h1
      refine s_Gr_moveCells_3 ?_
      rw [hf.g 1 (by decide), hX.2.1]
      refine ⟨by omega, by omega, fun _ => kk τ hf (hX.arr (r := 1) (n := 16) hf (by decide) (fun r' j hr => ?_) (fun j hj => ?_)), fun q => absurd (by omega) q⟩
      · unfold am_mv; rw [if_neg (fun z => hr z.1)]
      · rw [h1 j hj]
        by_cases q : j < i
        · rw [if_pos q]
        · rw [if_neg q]; unfold am_mv; rw [if_neg (fun z => q (by omega))]
    | succ d ih =>
      intro i τ hi hf h1
      have e1 : τ.1 2 i = s 1 i := by rw [h1 i (by omega), if_neg (by omega)]
      have b1 := hO.2.2.2.2.2.2.2.2.1 i (by omega)
      have skip : ¬ (s 1 i = (b : Int) ∧ v.testBit i = true) → am_U x m_Gr_moveCells Po τ 41 [some (Zr 1), some (Zi (b : Int)), some (Zi (v : Int)), some (Zi (to : Int)), some (Zi (i : Int))] [] := fun no => by
        refine s_Gr_moveCells_41 (ih (i + 1) τ (by omega) hf (fun c hc => ?_))
        rw [h1 c hc]
        by_cases q : c < i
        · rw [if_pos q, if_pos (by omega)]
        · rw [if_neg q]
          by_cases q2 : c = i
          · rw [if_pos (by omega), q2]; unfold am_mv; rw [if_neg (fun z => no z.2.2)]
          · rw [if_neg (by omega)]
      refine s_Gr_moveCells_3 ?_
      rw [hf.g 1 (by decide), hX.2.1, Int.toNat_natCast, e1, am_bit hv (by omega)]
      refine ⟨by omega, by omega, fun q => absurd q (by omega), fun _ => ⟨by omega, by omega, by omega, fun q => skip (fun z => q z.1), fun q => ⟨by split <;> decide, fun q2 => skip (fun z => q2 (by rw [if_pos z.2])), fun q2 τ1 f1 => ?_⟩⟩⟩
      have tb : v.testBit i = true := Classical.byContradiction (fun z => by rw [if_neg z] at q2; exact absurd q2 (by decide))
      refine s_Gr_moveCells_41 (ih (i + 1) τ1 (by omega) (hf.tr (σ1 := τ) (ks' := [2]) (ps' := []) (by rw [f1]; exact am_fx.up) (by decide) (by decide)) (fun c hc => ?_))
      rw [f1]
      show am_up τ.1 2 i (to : Int) 2 c = _
      rw [am_up_row]
      show (if c = i then (to : Int) else τ.1 2 c) = _
      by_cases q3 : c = i
      · rw [if_pos q3, if_pos (by omega), q3]; unfold am_mv; rw [if_pos ⟨rfl, by omega, q, tb⟩]
      · rw [if_neg q3, h1 c hc]
        by_cases q4 : c < i
        · rw [if_pos q4, if_pos (by omega)]
        · rw [if_neg q4, if_neg (by omega)]
  exact s_Gr_moveCells_0 (loop _ 0 σ (Nat.zero_add _) am_fx.rf (fun c hc => by rw [if_neg (by omega)]; exact hX.1.at 2 1 16 (by decide) hc))
theorem x_splitBlock {b v : Nat} (hX : am_RX w h s σ) (hO : am_OK w h s) (hb : b < 8) (hv : v < 2147483648) (kk : ∀ σ', am_fx [2, 3] [] σ σ' → am_RX w h (N_sb w h s b v) σ' → Po (some (Zi (A_sb w h s b v))) am_SH σ') : am_U x m_Gr_splitBlock Po σ 0 [some (Zr 1), some (Zi (b : Int)), some (Zi (v : Int)), none, none] [] := by
  have hwh := am_wh hO
  have lt := am_set_lt (P := am_inB s b) (w * h)
  have p1 : 2 ^ (w * h) ≤ 2 ^ 16 := Nat.pow_le_pow_right (by decide) (by omega)
  have bitA : ∀ i, (am_set (am_inB s b) (w * h) &&& v).testBit i = (decide (i < w * h) && (am_inB s b i && v.testBit i)) := fun i => by
    rw [Nat.testBit_and, am_set_bit, Bool.and_assoc]
  have z0 : am_set (am_inB s b) (w * h) &&& v = 0 ↔ am_ov w h s b v = 0 := by
    unfold am_ov
    rw [am_bits0, am_cnt0]
    constructor
    · intro hh i hi
      have := hh i
      rw [bitA] at this
      simpa [hi] using this
    · intro hh i
      rw [bitA]
      by_cases q : i < w * h
      · have := hh i q
        rw [this]; simp
      · simp [q]
  have z1 : am_set (am_inB s b) (w * h) &&& v = am_set (am_inB s b) (w * h) ↔ am_ov w h s b v = am_bsz w h s b := by
    have := (am_cnt_eq (P := am_inB s b) (Q := fun c => am_inB s b c && v.testBit c) (fun i q => (Bool.and_eq_true_iff.mp q).1) (n := w * h)).1
    unfold am_ov am_bsz
    rw [this]
    constructor
    · intro hh i hi hP
      have g := congrArg (fun z => Nat.testBit z i) hh
      simp only [bitA, am_set_bit] at g
      rw [hP] at g ⊢
      simpa [hi] using g
    · intro hh
      refine Nat.eq_of_testBit_eq (fun i => ?_)
      rw [bitA, am_set_bit]
      by_cases q : i < w * h
      · cases hP : am_inB s b i
        · simp
        · have := hh i q hP
          simp only [hP, Bool.true_and] at this
          simp [this]
      · simp [q]
  have le : am_set (am_inB s b) (w * h) &&& v ≤ am_set (am_inB s b) (w * h) := Nat.and_le_left
  have no : am_ov w h s b v = 0 ∨ am_ov w h s b v = am_bsz w h s b → am_U x m_Gr_splitBlock Po σ 19 [none, none, none, none, none] [] := fun q => by
    refine s_Gr_splitBlock_19 ?_
    have := kk σ am_fx.rf (by unfold N_sb; rw [if_pos q]; exact hX)
    unfold A_sb at this; rw [if_pos q] at this; exact this
  refine s_Gr_splitBlock_0 (x_cellsOf hX hO (by omega) ⟨_, rfl, rfl, ?_⟩)
  rw [am_and_n (by omega) hv]
  refine ⟨by omega, fun q => no (Or.inl (z0.mp (by omega))), fun q => ⟨by omega, fun q2 => ?_, fun q2 => no (Or.inr (z1.mp (by omega)))⟩⟩
  have yes : ¬ (am_ov w h s b v = 0 ∨ am_ov w h s b v = am_bsz w h s b) := fun z => by
    rcases z with z | z
    · exact q (by rw [z0.mpr z]; rfl)
    · exact q2 (by rw [z1.mpr z])
  have loop : ∀ (d i : Nat), i + d = 8 → (∀ j, j < i → ¬ am_bsz w h s j = 0) → am_U x m_Gr_splitBlock Po σ 25 [some (Zr 1), some (Zi (b : Int)), some (Zi (v : Int)), none, some (Zi (i : Int))] [] := by
    intro d
    induction d with
    | zero =>
      intro i hi hn
      have ef : am_free w h s = 8 := am_first_none (fun j hj => by simpa using hn j (by omega))
      refine s_Gr_splitBlock_25 ⟨by omega, fun _ => ?_, fun q => absurd (by omega) q⟩
      have := kk σ am_fx.rf (by unfold N_sb; rw [if_neg yes, if_neg (by omega)]; exact hX)
      unfold A_sb at this; rw [if_neg yes, if_neg (by omega)] at this; exact this
    | succ d ih =>
      intro i hi hn
      have lt := am_set_lt (P := am_inB s i) (w * h)
      have s0 : am_set (am_inB s i) (w * h) = 0 ↔ am_bsz w h s i = 0 := am_set0
      refine s_Gr_splitBlock_25 ⟨by omega, fun q => absurd q (by omega), fun _ => x_cellsOf hX hO (by omega) ⟨_, rfl, rfl, by omega, fun q => ih (i + 1) (by omega) (fun j hj => ?_), fun q => ?_⟩⟩
      · rcases Nat.lt_or_ge j i with g | g
        · exact hn j g
        · rw [show j = i by omega]; exact fun z => q (by rw [s0.mpr z]; rfl)
      · have si := s0.mp (by omega)
        have ef : am_free w h s = i := am_first_eq (by omega) (by simpa using si) (fun j hj => by simpa using hn j hj)
        have bne : b ≠ i := fun e => by
          have := am_cnt_b (P := fun c => am_inB s b c && v.testBit c) (n := w * h)
          have h2 := (am_cnt_eq (P := am_inB s b) (Q := fun c => am_inB s b c && v.testBit c) (fun i q => (Bool.and_eq_true_iff.mp q).1) (n := w * h)).2
          apply yes
          left
          unfold am_ov
          rw [← e] at si
          unfold am_bsz at si
          omega
        refine x_moveCells hX hO hb hv bne (fun σ1 f1 hX1 => ⟨rfl, rfl, by omega, by omega, fun σ2 f2 => ?_⟩)
        have e3 : σ1.1 3 b = s 2 b := by rw [f1.g 3 (by decide)]; exact hX.1.at 3 2 8 (by decide) hb
        rw [Int.toNat_natCast, Int.toNat_natCast, e3] at f2
        have := kk σ2 (f1.tr (σ1 := σ1) (ks' := [3]) (ps' := []) (by rw [f2]; exact am_fx.up) (by decide) (by decide)) (by unfold N_sb; rw [if_neg yes, if_pos (by omega), ef, f2]; exact hX1.row (by decide))
        unfold A_sb at this; rw [if_neg yes, if_pos (by omega), ef] at this; exact this
  exact loop 8 0 (by omega) (fun j hj => absurd hj (by omega))
def A_split (w h : Nat) (s : Nat → Nat → Int) (b v : Int) : Int := if 0 ≤ b ∧ b < 8 then (if 0 ≤ v ∧ v < 2 ^ (w * h) then A_sb w h s b.toNat v.toNat else -3) else -2
def N_split (w h : Nat) (s : Nat → Nat → Int) (b v : Int) : Nat → Nat → Int := if (0 ≤ b ∧ b < 8) ∧ (0 ≤ v ∧ v < 2 ^ (w * h)) then N_sb w h s b.toNat v.toNat else s
theorem x_split {b v : Int} (hX : am_RX w h s σ) (hM : am_RM w2 h2 s2 σ) (hO : am_OK w h s) (rb : am_r b) (rv : am_r v) (kk : ∀ σ', am_RX w h (N_split w h s b v) σ' → am_RM w2 h2 s2 σ' → Po (some (Zi (A_split w h s b v))) am_SH σ') : am_U x m_Sp_split Po σ 0 [some (Zr 0), some (Zi b), some (Zi v)] [] := by
  have hwh := am_wh hO
  have p1 : (2 : Int) ^ (w * h) ≤ 65536 := by have := am_pow_le (show w * h ≤ 16 by omega); exact this
  refine s_Sp_split_0 (x_isBlock rb (fun q => br1n (s_Gr_allCells_0 ⟨_, rfl, rfl, ?_⟩)) (fun q => br0n (am_fX kk (by simp only [A_split]; rw [if_neg q]) (by simp only [N_split]; rw [if_neg (fun z => q z.1)]) hX hM)))
  rw [hX.2.1, am_shl1 (by omega) (by omega), Int.toNat_natCast]
  refine ⟨?_, fun q2 => ?_, fun q2 => ?_⟩
  · unfold am_and
    exact ⟨Int32.le_toInt _, Int32.toInt_lt _⟩
  · have q3 := (am_in_all (by omega) rv).mp q2
    rw [show b = ((b.toNat : Nat) : Int) by omega, show v = ((v.toNat : Nat) : Int) by omega]
    refine x_splitBlock hX hO (by omega) (by omega) (fun σ1 f1 hX1 => ⟨_, rfl, rfl, am_fX kk (by simp only [A_split]; rw [if_pos q, if_pos q3]) (by simp only [N_split]; rw [if_pos ⟨q, q3⟩]) hX1 (hM.fx f1 (by decide))⟩)
  · have q3 := fun z => q2 ((am_in_all (by omega) rv).mpr z)
    exact am_fX kk (by simp only [A_split]; rw [if_pos q, if_neg q3]) (by simp only [N_split]; rw [if_neg (fun z => q3 z.2)]) hX hM
end AMK
