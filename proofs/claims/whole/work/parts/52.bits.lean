/-! ===== sets by bits ===== -/
theorem am_bv {n : Nat} (h : n < 2147483648) : (Int32.ofInt (n : Int)).toBitVec.toNat = n := by
  show (BitVec.ofInt 32 (n : Int)).toNat = n
  rw [BitVec.toNat_ofInt]
  show ((n : Int) % (4294967296 : Int)).toNat = n
  omega
theorem am_vb {x : Int32} {n : Nat} (h : x.toBitVec.toNat = n) (hn : n < 2147483648) : x.toInt = (n : Int) := by
  show x.toBitVec.toInt = (n : Int)
  rw [BitVec.toInt_eq_toNat_cond, h, if_pos (by omega)]
theorem am_and_n {a b : Nat} (ha : a < 2147483648) (hb : b < 2147483648) : am_and (a : Int) (b : Int) = ((a &&& b : Nat) : Int) := by
  refine am_vb ?_ (Nat.lt_of_le_of_lt Nat.and_le_left ha)
  rw [Int32.toBitVec_and, BitVec.toNat_and, am_bv ha, am_bv hb]
theorem am_or_n {a b : Nat} (ha : a < 2147483648) (hb : b < 2147483648) : am_or (a : Int) (b : Int) = ((a ||| b : Nat) : Int) := by
  refine am_vb ?_ (Nat.or_lt_two_pow (n := 31) ha hb)
  rw [Int32.toBitVec_or, BitVec.toNat_or, am_bv ha, am_bv hb]
theorem am_shr_n {a k : Nat} (ha : a < 2147483648) (hk : k < 32) : am_shr (a : Int) (k : Int) = ((a / 2 ^ k : Nat) : Int) := by
  rw [am_shr_d (by omega) (by omega) (by omega), Int.toNat_natCast]
  push_cast
  rfl
theorem am_bit {a k : Nat} (ha : a < 2147483648) (hk : k < 32) : am_and (am_shr (a : Int) (k : Int)) 1 = if a.testBit k then 1 else 0 := by
  have h1 : a / 2 ^ k ≤ a := Nat.div_le_self _ _
  have h2 : 0 ≤ ((a / 2 ^ k : Nat) : Int) := Int.natCast_nonneg _
  rw [am_shr_n ha hk, am_and1 (by omega), Nat.testBit_eq_decide_div_mod_eq]
  by_cases q : a / 2 ^ k % 2 = 1
  · rw [if_pos (by rw [q]; rfl)]; omega
  · rw [if_neg (by simpa using q)]; omega
def am_set (P : Nat → Bool) : Nat → Nat
  | 0 => 0
  | n + 1 => am_set P n + if P n then 2 ^ n else 0
theorem am_set_lt {P : Nat → Bool} : ∀ n, am_set P n < 2 ^ n
  | 0 => by show (0 : Nat) < 1; decide
  | n + 1 => by
    have := am_set_lt (P := P) n
    show am_set P n + (if P n then 2 ^ n else 0) < 2 ^ (n + 1)
    rw [Nat.pow_succ]
    split <;> omega
theorem am_set_or {P : Nat → Bool} {n : Nat} : am_set P n ||| 2 ^ n = am_set P n + 2 ^ n := by
  have := am_set_lt (P := P) n
  rw [Nat.or_comm, Nat.add_comm]
  have h := Nat.two_pow_add_eq_or_of_lt (i := n) this 1
  rw [Nat.mul_one] at h
  exact h.symm
theorem am_set_bit {P : Nat → Bool} {i : Nat} : ∀ n, (am_set P n).testBit i = (decide (i < n) && P i)
  | 0 => by show Nat.testBit 0 i = _; simp
  | n + 1 => by
    have ih := am_set_bit (P := P) (i := i) n
    show (am_set P n + (if P n then 2 ^ n else 0)).testBit i = _
    by_cases q : P n = true
    · rw [if_pos q, ← am_set_or, Nat.testBit_or, ih, Nat.testBit_two_pow]
      by_cases e : i = n
      · subst e; simp [q]
      · have : decide (n = i) = false := by simp; omega
        rw [this, Bool.or_false]
        congr 1
        by_cases l : i < n
        · simp [l]; omega
        · simp [l]; omega
    · rw [if_neg q, Nat.add_zero, ih]
      by_cases e : i = n
      · subst e; simp at q; simp [q]
      · congr 1
        by_cases l : i < n
        · simp [l]; omega
        · simp [l]; omega
theorem am_bits0 {a : Nat} : a = 0 ↔ ∀ i, a.testBit i = false := by
  constructor
  · rintro rfl; simp
  · intro h; exact Nat.eq_of_testBit_eq (fun i => by rw [h i, Nat.zero_testBit])
def am_cnt (P : Nat → Bool) (n : Nat) : Int := am_sum (fun i => if P i then 1 else 0) n
theorem am_cnt_b {P : Nat → Bool} {n : Nat} : 0 ≤ am_cnt P n ∧ am_cnt P n ≤ n := by
  have := am_sum_b (f := fun i => if P i then (1 : Int) else 0) (B := 1) (n := n) (fun i hi => by show 0 ≤ (if P i then (1 : Int) else 0) ∧ (if P i then (1 : Int) else 0) ≤ 1; split <;> decide)
  unfold am_cnt; omega
theorem am_cnt0 {P : Nat → Bool} : ∀ {n : Nat}, am_cnt P n = 0 ↔ ∀ i, i < n → P i = false
  | 0 => ⟨fun _ i hi => absurd hi (Nat.not_lt_zero i), fun _ => rfl⟩
  | n + 1 => by
    have ih := am_cnt0 (P := P) (n := n)
    have b := am_cnt_b (P := P) (n := n)
    have e : am_cnt P (n + 1) = am_cnt P n + if P n then 1 else 0 := rfl
    rw [e]
    constructor
    · intro h i hi
      by_cases q : P n = true
      · rw [if_pos q] at h; omega
      · rcases Nat.lt_or_ge i n with g | g
        · exact ih.mp (by rw [if_neg q] at h; omega) i g
        · rw [show i = n by omega]; simpa using q
    · intro h
      rw [ih.mpr (fun i hi => h i (by omega)), h n (by omega)]; rfl
theorem am_cnt_eq {P Q : Nat → Bool} (hi : ∀ i, Q i = true → P i = true) : ∀ {n : Nat}, (am_cnt Q n = am_cnt P n ↔ ∀ i, i < n → P i = true → Q i = true) ∧ am_cnt Q n ≤ am_cnt P n
  | 0 => ⟨⟨fun _ i hi => absurd hi (Nat.not_lt_zero i), fun _ => rfl⟩, Int.le_refl _⟩
  | n + 1 => by
    obtain ⟨ih, le⟩ := am_cnt_eq (P := P) (Q := Q) hi (n := n)
    have e : am_cnt P (n + 1) = am_cnt P n + if P n then 1 else 0 := rfl
    have e2 : am_cnt Q (n + 1) = am_cnt Q n + if Q n then 1 else 0 := rfl
    have hn := hi n
    rw [e, e2]
    refine ⟨⟨fun h i hi hP => ?_, fun h => ?_⟩, ?_⟩
    · by_cases q : P n = true
      · by_cases q2 : Q n = true
        · rw [if_pos q, if_pos q2] at h
          rcases Nat.lt_or_ge i n with g | g
          · exact ih.mp (by omega) i g hP
          · rw [show i = n by omega]; exact q2
        · rw [if_pos q, if_neg q2] at h; omega
      · have q2 : ¬ Q n = true := fun z => q (hn z)
        rw [if_neg q, if_neg q2] at h
        rcases Nat.lt_or_ge i n with g | g
        · exact ih.mp (by omega) i g hP
        · rw [show i = n by omega] at hP; exact absurd hP q
    · rw [ih.mpr (fun i hi => h i (by omega))]
      by_cases q : P n = true
      · rw [if_pos q, if_pos (h n (by omega) q)]
      · rw [if_neg q, if_neg (fun z => q (hn z))]
    · by_cases q : P n = true
      · rw [if_pos q]; split <;> omega
      · rw [if_neg q, if_neg (fun z => q (hn z))]; omega
/-! bitCount -/
def am_pop (v : Nat) : Nat → Nat
  | 0 => 0
  | n + 1 => am_pop v n + v / 2 ^ n % 2
def am_bc (v : Nat) : Nat :=
  let t1 := v - ((v >>> 1) &&& 1431655765)
  let t2 := (t1 &&& 858993459) + ((t1 >>> 2) &&& 858993459)
  let t3 := (t2 + (t2 >>> 4)) &&& 252645135
  let t4 := t3 + (t3 >>> 8)
  let t5 := t4 + (t4 >>> 16)
  t5 &&& 63
def am_pp (v : Nat) : Nat := v % 2 + v / 2 % 2 + v / 4 % 2 + v / 8 % 2 + v / 16 % 2 + v / 32 % 2 + v / 64 % 2 + v / 128 % 2 + v / 256 % 2 + v / 512 % 2 + v / 1024 % 2 + v / 2048 % 2 + v / 4096 % 2 + v / 8192 % 2 + v / 16384 % 2 + v / 32768 % 2
theorem am_pp_eq (v : Nat) : am_pop v 16 = am_pp v := by
  show 0 + v / 1 % 2 + v / 2 % 2 + v / 4 % 2 + v / 8 % 2 + v / 16 % 2 + v / 32 % 2 + v / 64 % 2 + v / 128 % 2 + v / 256 % 2 + v / 512 % 2 + v / 1024 % 2 + v / 2048 % 2 + v / 4096 % 2 + v / 8192 % 2 + v / 16384 % 2 + v / 32768 % 2 = am_pp v
  unfold am_pp
  rw [Nat.zero_add, Nat.div_one]
theorem am_bc_ok0 : ∀ a, a < 32 → ∀ b, b < 256 → Nat.beq (am_bc (256 * (0 + a) + b)) (am_pp (256 * (0 + a) + b)) = true := by decide +kernel
theorem am_bc_ok1 : ∀ a, a < 32 → ∀ b, b < 256 → Nat.beq (am_bc (256 * (32 + a) + b)) (am_pp (256 * (32 + a) + b)) = true := by decide +kernel
theorem am_bc_ok2 : ∀ a, a < 32 → ∀ b, b < 256 → Nat.beq (am_bc (256 * (64 + a) + b)) (am_pp (256 * (64 + a) + b)) = true := by decide +kernel
theorem am_bc_ok3 : ∀ a, a < 32 → ∀ b, b < 256 → Nat.beq (am_bc (256 * (96 + a) + b)) (am_pp (256 * (96 + a) + b)) = true := by decide +kernel
theorem am_bc_ok4 : ∀ a, a < 32 → ∀ b, b < 256 → Nat.beq (am_bc (256 * (128 + a) + b)) (am_pp (256 * (128 + a) + b)) = true := by decide +kernel
theorem am_bc_ok5 : ∀ a, a < 32 → ∀ b, b < 256 → Nat.beq (am_bc (256 * (160 + a) + b)) (am_pp (256 * (160 + a) + b)) = true := by decide +kernel
theorem am_bc_ok6 : ∀ a, a < 32 → ∀ b, b < 256 → Nat.beq (am_bc (256 * (192 + a) + b)) (am_pp (256 * (192 + a) + b)) = true := by decide +kernel
theorem am_bc_ok7 : ∀ a, a < 32 → ∀ b, b < 256 → Nat.beq (am_bc (256 * (224 + a) + b)) (am_pp (256 * (224 + a) + b)) = true := by decide +kernel
theorem am_bc_ok (v : Nat) (hv : v < 65536) : am_bc v = am_pop v 16 := by
  rw [am_pp_eq]
  have e : v = 256 * (v / 256 / 32 * 32 + v / 256 % 32) + v % 256 := by omega
  rcases (show v / 256 / 32 = 0 ∨ v / 256 / 32 = 1 ∨ v / 256 / 32 = 2 ∨ v / 256 / 32 = 3 ∨ v / 256 / 32 = 4 ∨ v / 256 / 32 = 5 ∨ v / 256 / 32 = 6 ∨ v / 256 / 32 = 7 by omega) with q | q | q | q | q | q | q | q
  · have := Nat.eq_of_beq_eq_true (am_bc_ok0 (v / 256 % 32) (by omega) (v % 256) (by omega))
    rw [show 256 * (0 + v / 256 % 32) + v % 256 = v by omega] at this; exact this
  · have := Nat.eq_of_beq_eq_true (am_bc_ok1 (v / 256 % 32) (by omega) (v % 256) (by omega))
    rw [show 256 * (32 + v / 256 % 32) + v % 256 = v by omega] at this; exact this
  · have := Nat.eq_of_beq_eq_true (am_bc_ok2 (v / 256 % 32) (by omega) (v % 256) (by omega))
    rw [show 256 * (64 + v / 256 % 32) + v % 256 = v by omega] at this; exact this
  · have := Nat.eq_of_beq_eq_true (am_bc_ok3 (v / 256 % 32) (by omega) (v % 256) (by omega))
    rw [show 256 * (96 + v / 256 % 32) + v % 256 = v by omega] at this; exact this
  · have := Nat.eq_of_beq_eq_true (am_bc_ok4 (v / 256 % 32) (by omega) (v % 256) (by omega))
    rw [show 256 * (128 + v / 256 % 32) + v % 256 = v by omega] at this; exact this
  · have := Nat.eq_of_beq_eq_true (am_bc_ok5 (v / 256 % 32) (by omega) (v % 256) (by omega))
    rw [show 256 * (160 + v / 256 % 32) + v % 256 = v by omega] at this; exact this
  · have := Nat.eq_of_beq_eq_true (am_bc_ok6 (v / 256 % 32) (by omega) (v % 256) (by omega))
    rw [show 256 * (192 + v / 256 % 32) + v % 256 = v by omega] at this; exact this
  · have := Nat.eq_of_beq_eq_true (am_bc_ok7 (v / 256 % 32) (by omega) (v % 256) (by omega))
    rw [show 256 * (224 + v / 256 % 32) + v % 256 = v by omega] at this; exact this
theorem am_ushr_n {a k : Nat} (ha : a < 2147483648) (hk : k < 32) : am_ushr (a : Int) (k : Int) = ((a >>> k : Nat) : Int) := by
  have h1 : a >>> k ≤ a := Nat.shiftRight_le a k
  have e : ((Int32.ofInt (k : Int)).toUInt32 &&& Int32.toUInt32 31).toNat = k := by
    have : ∀ k : Nat, k < 32 → ((Int32.ofInt (k : Int)).toUInt32 &&& Int32.toUInt32 31).toNat = k := by decide +kernel
    exact this k hk
  unfold am_ushr
  rw [_root_.Jvm.Kit.i32_iushr (by rw [Int32.le_iff_toInt_le, am_toInt (by omega)]; exact Int.natCast_nonneg a) e hk, am_toInt (by omega), Nat.shiftRight_eq_div_pow]
  push_cast
  rfl
section AMBC
variable {x : am_Sc} {Po : Option am_AV → am_Sh → am_St → Prop} {σ : am_St} {w h w2 h2 : Nat} {s s2 : Nat → Nat → Int}
theorem c_bitCount {v : Nat} (hv : v < 65536) (kk : Po (some (Zi ((am_pop v 16 : Nat) : Int))) am_SH σ) : am_U x m_In_bitCount Po σ 0 [some (Zi (v : Int))] [] := by
  have hb : am_bc v = am_pop v 16 := am_bc_ok v hv
  have u : ∀ (a : Nat), a >>> 1 ≤ a := fun a => Nat.shiftRight_le a 1
  have a1 : am_and (am_ushr (v : Int) 1) 1431655765 = (((v >>> 1) &&& 1431655765 : Nat) : Int) := by
    rw [show (1 : Int) = ((1 : Nat) : Int) by rfl, am_ushr_n (by omega) (by decide), show (1431655765 : Int) = ((1431655765 : Nat) : Int) by rfl, am_and_n (by have := u v; omega) (by decide)]
  have l1 : (v >>> 1) &&& 1431655765 ≤ v := Nat.le_trans Nat.and_le_left (u v)
  refine s_In_bitCount_0 ?_
  rw [a1, show (v : Int) - (((v >>> 1) &&& 1431655765 : Nat) : Int) = ((v - ((v >>> 1) &&& 1431655765) : Nat) : Int) by omega]
  generalize e1 : v - ((v >>> 1) &&& 1431655765) = t1 at *
  have b1 : t1 < 65536 := by omega
  have a2 : am_and (t1 : Int) 858993459 = ((t1 &&& 858993459 : Nat) : Int) := am_and_n (by omega) (by decide)
  have a3 : am_and (am_ushr (t1 : Int) 2) 858993459 = (((t1 >>> 2) &&& 858993459 : Nat) : Int) := by
    have : t1 >>> 2 ≤ t1 := Nat.shiftRight_le _ _
    rw [show (2 : Int) = ((2 : Nat) : Int) by rfl, am_ushr_n (by omega) (by decide), show (858993459 : Int) = ((858993459 : Nat) : Int) by rfl, am_and_n (by omega) (by decide)]
  have l2 : t1 &&& 858993459 ≤ 858993459 := Nat.and_le_right
  have l3 : (t1 >>> 2) &&& 858993459 ≤ 858993459 := Nat.and_le_right
  rw [a2, a3, show ((t1 &&& 858993459 : Nat) : Int) + (((t1 >>> 2) &&& 858993459 : Nat) : Int) = (((t1 &&& 858993459) + ((t1 >>> 2) &&& 858993459) : Nat) : Int) by omega]
  generalize e2 : (t1 &&& 858993459) + ((t1 >>> 2) &&& 858993459) = t2 at *
  have l4 : t2 >>> 4 = t2 / 16 := Nat.shiftRight_eq_div_pow _ _
  have a4 : am_ushr (t2 : Int) 4 = ((t2 >>> 4 : Nat) : Int) := am_ushr_n (k := 4) (by omega) (by decide)
  rw [a4, show (t2 : Int) + ((t2 >>> 4 : Nat) : Int) = ((t2 + (t2 >>> 4) : Nat) : Int) by omega]
  have a5 : am_and ((t2 + (t2 >>> 4) : Nat) : Int) 252645135 = (((t2 + (t2 >>> 4)) &&& 252645135 : Nat) : Int) := am_and_n (by omega) (by decide)
  rw [a5]
  have l5 : (t2 + (t2 >>> 4)) &&& 252645135 ≤ 252645135 := Nat.and_le_right
  generalize e3 : (t2 + (t2 >>> 4)) &&& 252645135 = t3 at *
  have a6 : am_ushr (t3 : Int) 8 = ((t3 >>> 8 : Nat) : Int) := am_ushr_n (k := 8) (by omega) (by decide)
  have l6 : t3 >>> 8 ≤ t3 := Nat.shiftRight_le _ _
  rw [a6, show (t3 : Int) + ((t3 >>> 8 : Nat) : Int) = ((t3 + (t3 >>> 8) : Nat) : Int) by omega]
  generalize e4 : t3 + (t3 >>> 8) = t4 at *
  have a7 : am_ushr (t4 : Int) 16 = ((t4 >>> 16 : Nat) : Int) := am_ushr_n (k := 16) (by omega) (by decide)
  have l7 : t4 >>> 16 ≤ t4 := Nat.shiftRight_le _ _
  rw [a7, show (t4 : Int) + ((t4 >>> 16 : Nat) : Int) = ((t4 + (t4 >>> 16) : Nat) : Int) by omega]
  have a8 : am_and ((t4 + (t4 >>> 16) : Nat) : Int) 63 = (((t4 + (t4 >>> 16)) &&& 63 : Nat) : Int) := am_and_n (by omega) (by decide)
  rw [a8]
  have e5 : (t4 + (t4 >>> 16)) &&& 63 = am_bc v := by
    show _ = (let t1 := v - ((v >>> 1) &&& 1431655765); _)
    simp only [am_bc, e1, e2, e3, e4]
  rw [e5, hb]
  exact kk
theorem am_pop_cnt {P : Nat → Bool} {n : Nat} : ∀ {m : Nat}, n ≤ m → ((am_pop (am_set P n) m : Nat) : Int) = am_cnt P n := by
  have bit : ∀ i, am_set P n / 2 ^ i % 2 = if i < n ∧ P i = true then 1 else 0 := fun i => by
    have := am_set_bit (P := P) (i := i) n
    rw [Nat.testBit_eq_decide_div_mod_eq] at this
    by_cases q : i < n ∧ P i = true
    · rw [if_pos q]; simpa [q.1, q.2] using this
    · rw [if_neg q]
      have : (decide (i < n) && P i) = false := by
        by_cases q1 : i < n
        · have : P i = false := by
            cases hq : P i
            · rfl
            · exact absurd ⟨q1, hq⟩ q
          simp [this]
        · simp [q1]
      rename_i h0
      rw [this] at h0
      have := of_decide_eq_false h0
      omega
  have low : ∀ m, m ≤ n → ((am_pop (am_set P n) m : Nat) : Int) = am_cnt P m := by
    intro m
    induction m with
    | zero => intro _; rfl
    | succ m ih =>
      intro hm
      have e : am_cnt P (m + 1) = am_cnt P m + if P m then 1 else 0 := rfl
      show ((am_pop (am_set P n) m + am_set P n / 2 ^ m % 2 : Nat) : Int) = _
      rw [e, ← ih (by omega), bit m]
      by_cases q : P m = true
      · rw [if_pos ⟨by omega, q⟩, if_pos q]; rfl
      · rw [if_neg (fun z => q z.2), if_neg q]; rfl
  intro m hm
  obtain ⟨d, rfl⟩ := Nat.exists_eq_add_of_le hm
  clear hm
  induction d with
  | zero => exact low n (Nat.le_refl n)
  | succ d ih =>
    show ((am_pop (am_set P n) (n + d) + am_set P n / 2 ^ (n + d) % 2 : Nat) : Int) = _
    rw [bit, if_neg (by omega)]
    exact ih
end AMBC
