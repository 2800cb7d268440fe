/-! ===== numbers modulo the prime ===== -/
theorem am_prm_ok : ∀ a, a < 216 → ∀ b, b < 216 → Nat.beq (2147483647 % (216 * a + b + 2)) 0 = false := by decide +kernel
theorem am_prm_no (d : Nat) (h2 : 2 ≤ d) (h3 : d ≤ 46341) : ¬ d ∣ 2147483647 := fun hd => by
  have h := am_prm_ok ((d - 2) / 216) (by omega) ((d - 2) % 216) (by omega)
  rw [show 216 * ((d - 2) / 216) + (d - 2) % 216 + 2 = d by omega, Nat.mod_eq_zero_of_dvd hd] at h
  exact absurd h (by decide)
theorem am_prm (d : Nat) (hd : d ∣ 2147483647) : d = 1 ∨ d = 2147483647 := by
  obtain ⟨e, he⟩ := hd
  have d0 : 0 < d := by rcases Nat.eq_zero_or_pos d with q | q; rw [q, Nat.zero_mul] at he; cases he; exact q
  have e0 : 0 < e := by rcases Nat.eq_zero_or_pos e with q | q; rw [q, Nat.mul_zero] at he; cases he; exact q
  rcases Nat.lt_or_ge d 2 with q | q
  · left; omega
  · right
    rcases Nat.lt_or_ge 46341 d with q2 | q2
    · rcases Nat.lt_or_ge e 2 with q3 | q3
      · rw [show e = 1 by omega] at he; omega
      · rcases Nat.lt_or_ge 46341 e with q4 | q4
        · have := Nat.mul_le_mul (show 46342 ≤ d by omega) (show 46342 ≤ e by omega)
          omega
        · exact absurd ⟨d, by rw [Nat.mul_comm]; exact he⟩ (am_prm_no e q3 q4)
    · exact absurd ⟨e, he⟩ (am_prm_no d q q2)
def am_pm : Nat := 2147483647
theorem am_pm_v : am_pm = 2147483647 := rfl
theorem am_cop {a : Nat} (h : ¬ am_pm ∣ a) : Nat.Coprime am_pm a := by
  have g1 := Nat.gcd_dvd_left am_pm a
  have g2 := Nat.gcd_dvd_right am_pm a
  rcases am_prm _ g1 with q | q
  · exact q
  · rw [q] at g2; exact absurd g2 h
def am_q (a b : Int) : Prop := (am_pm : Int) ∣ a - b
theorem am_q.rf {a : Int} : am_q a a := by unfold am_q; rw [Int.sub_self]; exact Int.dvd_zero _
theorem am_q.sy {a b : Int} (h : am_q a b) : am_q b a := by
  unfold am_q at *
  have := Int.dvd_neg.mpr h
  rw [show -(a - b) = b - a by omega] at this; exact this
theorem am_q.tr {a b c : Int} (h : am_q a b) (h2 : am_q b c) : am_q a c := by
  unfold am_q at *
  have := Int.dvd_add h h2
  rw [show a - b + (b - c) = a - c by omega] at this; exact this
theorem am_q.ad {a b c d : Int} (h : am_q a b) (h2 : am_q c d) : am_q (a + c) (b + d) := by
  unfold am_q at *
  have := Int.dvd_add h h2
  rw [show a - b + (c - d) = a + c - (b + d) by omega] at this; exact this
theorem am_q.sb {a b c d : Int} (h : am_q a b) (h2 : am_q c d) : am_q (a - c) (b - d) := by
  unfold am_q at *
  have := Int.dvd_sub h h2
  rw [show a - b - (c - d) = a - c - (b - d) by omega] at this; exact this
theorem am_q.ml {a b c d : Int} (h : am_q a b) (h2 : am_q c d) : am_q (a * c) (b * d) := by
  unfold am_q at *
  have h3 := Int.dvd_add (Int.dvd_mul_of_dvd_right (b := a) h2) (Int.dvd_mul_of_dvd_left (c := d) h)
  rw [show a * (c - d) + (a - b) * d = a * c - b * d by rw [Int.mul_sub, Int.sub_mul]; omega] at h3
  exact h3
theorem am_q.eq {a b : Int} (h : a = b) : am_q a b := by rw [h]; exact am_q.rf
theorem am_q.md (a : Int) : am_q (a % 2147483647) a := by
  unfold am_q
  have h := Int.mul_ediv_add_emod a 2147483647
  refine ⟨-(a / 2147483647), ?_⟩
  have e : (am_pm : Int) = 2147483647 := rfl
  rw [e, Int.mul_neg]; omega
theorem am_q0 {a : Int} (h : am_q a 0) (h0 : 0 ≤ a) (h1 : a < 2147483647) : a = 0 := by
  unfold am_q at h
  rw [Int.sub_zero] at h
  have e : (am_pm : Int) = 2147483647 := rfl
  rw [e] at h
  have := Int.emod_eq_zero_of_dvd h
  rw [Int.emod_eq_of_lt h0 h1] at this
  exact this
theorem am_qz {a b : Int} (h : am_q (a * b) 0) : am_q a 0 ∨ am_q b 0 := by
  unfold am_q at *
  rw [Int.sub_zero] at *
  rw [Int.sub_zero]
  by_cases q : (am_pm : Int) ∣ a
  · exact Or.inl q
  · right
    have n1 : ¬ am_pm ∣ a.natAbs := fun z => q (Int.ofNat_dvd_left.mpr z)
    have n2 : am_pm ∣ a.natAbs * b.natAbs := by rw [← Int.natAbs_mul]; exact Int.ofNat_dvd_left.mp h
    exact Int.ofNat_dvd_left.mpr ((am_cop n1).dvd_of_dvd_mul_left n2)
/-! Fermat -/
def am_ch : Nat → Nat → Nat
  | _, 0 => 1
  | 0, _ + 1 => 0
  | n + 1, k + 1 => am_ch n k + am_ch n (k + 1)
theorem am_ch_hi : ∀ (n k : Nat), n < k → am_ch n k = 0
  | _, 0, h => absurd h (Nat.not_lt_zero _)
  | 0, _ + 1, _ => rfl
  | n + 1, k + 1, h => by
    show am_ch n k + am_ch n (k + 1) = 0
    rw [am_ch_hi n k (by omega), am_ch_hi n (k + 1) (by omega)]
theorem am_ch_self : ∀ n : Nat, am_ch n n = 1
  | 0 => rfl
  | n + 1 => by
    show am_ch n n + am_ch n (n + 1) = 1
    rw [am_ch_self n, am_ch_hi n (n + 1) (by omega)]
theorem am_ch_0 (n : Nat) : am_ch n 0 = 1 := by cases n <;> rfl
theorem am_ch_mul : ∀ (n k : Nat), (k + 1) * am_ch (n + 1) (k + 1) = (n + 1) * am_ch n k
  | 0, 0 => rfl
  | 0, k + 1 => by
    show (k + 1 + 1) * (am_ch 0 (k + 1) + am_ch 0 (k + 1 + 1)) = 1 * am_ch 0 (k + 1)
    rw [am_ch_hi 0 (k + 1) (by omega), am_ch_hi 0 (k + 1 + 1) (by omega)]; rfl
  | n + 1, 0 => by
    have ih := am_ch_mul n 0
    rw [am_ch_0] at ih
    show (0 + 1) * (am_ch (n + 1) 0 + am_ch (n + 1) (0 + 1)) = (n + 1 + 1) * am_ch (n + 1) 0
    rw [am_ch_0]; omega
  | n + 1, k + 1 => by
    have i1 := am_ch_mul n k
    have i2 := am_ch_mul n (k + 1)
    show (k + 1 + 1) * (am_ch (n + 1) (k + 1) + am_ch (n + 1) (k + 1 + 1)) = (n + 1 + 1) * am_ch (n + 1) (k + 1)
    have e : am_ch (n + 1) (k + 1) = am_ch n k + am_ch n (k + 1) := rfl
    rw [Nat.mul_add, i2]
    have h1 : (k + 1 + 1) * am_ch (n + 1) (k + 1) = (k + 1) * am_ch (n + 1) (k + 1) + am_ch (n + 1) (k + 1) := Nat.succ_mul _ _
    have h2 : (n + 1 + 1) * am_ch (n + 1) (k + 1) = (n + 1) * am_ch (n + 1) (k + 1) + am_ch (n + 1) (k + 1) := Nat.succ_mul _ _
    rw [h1, h2, i1, e, Nat.mul_add]; omega
theorem am_bin1 (a : Int) (n : Nat) : ∀ m : Nat, am_sum (fun k => (am_ch (n + 1) k : Int) * a ^ k) (m + 1) = a * am_sum (fun k => (am_ch n k : Int) * a ^ k) m + am_sum (fun k => (am_ch n k : Int) * a ^ k) (m + 1)
  | 0 => by
    show (0 : Int) + (am_ch (n + 1) 0 : Int) * a ^ 0 = a * 0 + (0 + (am_ch n 0 : Int) * a ^ 0)
    rw [am_ch_0, am_ch_0]; omega
  | m + 1 => by
    have ih := am_bin1 a n m
    have e1 : am_sum (fun k => (am_ch (n + 1) k : Int) * a ^ k) (m + 1 + 1) = am_sum (fun k => (am_ch (n + 1) k : Int) * a ^ k) (m + 1) + (am_ch (n + 1) (m + 1) : Int) * a ^ (m + 1) := rfl
    have e2 : am_sum (fun k => (am_ch n k : Int) * a ^ k) (m + 1 + 1) = am_sum (fun k => (am_ch n k : Int) * a ^ k) (m + 1) + (am_ch n (m + 1) : Int) * a ^ (m + 1) := rfl
    have e3 : am_sum (fun k => (am_ch n k : Int) * a ^ k) (m + 1) = am_sum (fun k => (am_ch n k : Int) * a ^ k) m + (am_ch n m : Int) * a ^ m := rfl
    have e4 : ((am_ch (n + 1) (m + 1) : Nat) : Int) = (am_ch n m : Int) + (am_ch n (m + 1) : Int) := by show ((am_ch n m + am_ch n (m + 1) : Nat) : Int) = _; push_cast; rfl
    rw [e1, ih, e2, e4, e3, Int.mul_add, Int.add_mul]
    have e5 : a * ((am_ch n m : Int) * a ^ m) = (am_ch n m : Int) * a ^ (m + 1) := by rw [Int.pow_succ, Int.mul_left_comm, Int.mul_comm a]
    rw [e5]; omega
theorem am_bin (a : Int) : ∀ n : Nat, am_sum (fun k => (am_ch n k : Int) * a ^ k) (n + 1) = (a + 1) ^ n
  | 0 => by
    show (0 : Int) + (am_ch 0 0 : Int) * a ^ 0 = (a + 1) ^ 0
    rw [am_ch_0, Int.pow_zero, Int.pow_zero]; rfl
  | n + 1 => by
    have ih := am_bin a n
    have e : am_sum (fun k => (am_ch n k : Int) * a ^ k) (n + 1 + 1) = am_sum (fun k => (am_ch n k : Int) * a ^ k) (n + 1) + (am_ch n (n + 1) : Int) * a ^ (n + 1) := rfl
    rw [am_bin1, e, ih, am_ch_hi n (n + 1) (by omega), Int.pow_succ (a + 1), Int.mul_add, Int.mul_one, Int.mul_comm a, show ((0 : Nat) : Int) = 0 by rfl, Int.zero_mul]
    omega
theorem am_fer1 {n : Nat} (hn : n + 1 = am_pm) (a : Int) : ∀ m : Nat, m ≤ n → am_q (am_sum (fun k => (am_ch (n + 1) k : Int) * a ^ k) (m + 1)) 1
  | 0, _ => by
    refine am_q.eq ?_
    show (0 : Int) + (am_ch (n + 1) 0 : Int) * a ^ 0 = 1
    rw [am_ch_0, Int.pow_zero]; rfl
  | m + 1, h => by
    have ih := am_fer1 hn a m (by omega)
    have hm := am_ch_mul n m
    have dv : am_pm ∣ am_ch (n + 1) (m + 1) := by
      have c : Nat.Coprime am_pm (m + 1) := am_cop (fun z => by have := Nat.le_of_dvd (by omega) z; omega)
      refine c.dvd_of_dvd_mul_left ?_
      rw [hm, hn]; exact Nat.dvd_mul_right _ _
    have q1 : am_q ((am_ch (n + 1) (m + 1) : Int) * a ^ (m + 1)) 0 := by
      unfold am_q
      rw [Int.sub_zero]
      exact Int.dvd_mul_of_dvd_left (Int.natCast_dvd_natCast.mpr dv)
    have := ih.ad q1
    exact this
theorem am_fer2 {n : Nat} (hn : n + 1 = am_pm) (a : Int) : am_q ((a + 1) ^ (n + 1)) (a ^ (n + 1) + 1) := by
  have h := am_bin a (n + 1)
  have e : am_sum (fun k => (am_ch (n + 1) k : Int) * a ^ k) (n + 1 + 1) = am_sum (fun k => (am_ch (n + 1) k : Int) * a ^ k) (n + 1) + (am_ch (n + 1) (n + 1) : Int) * a ^ (n + 1) := rfl
  rw [← h, e, am_ch_self]
  have := (am_fer1 hn a n (Nat.le_refl n)).ad (am_q.rf (a := ((1 : Nat) : Int) * a ^ (n + 1)))
  refine this.tr (am_q.eq ?_)
  rw [show ((1 : Nat) : Int) = 1 by rfl, Int.one_mul, Int.add_comm]
theorem am_fer3 {n : Nat} (hn : n + 1 = am_pm) : ∀ a : Nat, am_q ((a : Int) ^ (n + 1)) (a : Int)
  | 0 => am_q.eq (by show (0 : Int) ^ (n + 1) = 0; rw [Int.pow_succ, Int.mul_zero])
  | a + 1 => by
    have ih := am_fer3 hn a
    have := am_fer2 hn (a : Int)
    rw [show ((a + 1 : Nat) : Int) = (a : Int) + 1 by omega]
    exact this.tr (ih.ad am_q.rf)
/-- for a not 0 modulo the prime: a times its (p - 2)-nd power is 1 -/
theorem am_inv {a : Int} {e : Nat} (he : e + 2 = am_pm) (h0 : 0 ≤ a) (hn : ¬ am_q a 0) : am_q (a * a ^ e) 1 := by
  obtain ⟨m, rfl⟩ : ∃ m : Nat, a = (m : Int) := ⟨a.toNat, by omega⟩
  have h := am_fer3 (n := e + 1) (by omega) m
  rw [Int.pow_succ, Int.pow_succ] at h
  have h2 : am_q ((m : Int) * ((m : Int) ^ e * m - 1)) 0 := by
    unfold am_q at *
    rw [Int.sub_zero, Int.mul_sub, Int.mul_one, Int.mul_comm (m : Int)]; exact h
  rcases am_qz h2 with q | q
  · exact absurd q hn
  · unfold am_q at *
    rw [Int.sub_zero] at q
    rw [Int.mul_comm]; exact q
theorem am_inv' {a : Int} (hn : ¬ am_q a 0) : ∃ b : Int, am_q (a * b) 1 := by
  have h1 := am_q.md a
  have h2 : ¬ am_q (a % 2147483647) 0 := fun z => hn (h1.sy.tr z)
  have h3 := am_inv (a := a % 2147483647) (e := 2147483645) rfl (by omega) h2
  exact ⟨_, (h1.sy.ml am_q.rf).tr h3⟩
/-! ===== rows, what they span, the columns that lead ===== -/
def am_LC (c : Nat → Int) (M : Nat → Nat → Int) (n k : Nat) : Int := am_sum (fun i => c i * M i k) n
theorem am_LC_add {c d : Nat → Int} {M : Nat → Nat → Int} {k : Nat} {a : Int} : ∀ n, am_LC (fun i => c i + a * d i) M n k = am_LC c M n k + a * am_LC d M n k
  | 0 => by show (0 : Int) = 0 + a * 0; omega
  | n + 1 => by
    show am_LC (fun i => c i + a * d i) M n k + (c n + a * d n) * M n k = am_LC c M n k + c n * M n k + a * (am_LC d M n k + d n * M n k)
    rw [am_LC_add n, Int.add_mul, Int.mul_add, Int.mul_assoc]; omega
theorem am_LC_lo {c : Nat → Int} {M M' : Nat → Nat → Int} {k : Nat} : ∀ {n : Nat}, (∀ i, i < n → M' i k = M i k) → am_LC c M' n k = am_LC c M n k := fun h => am_sum_c (fun i hi => by show c i * _ = c i * _; rw [h i hi])
theorem am_LC_loc {c c' : Nat → Int} {M : Nat → Nat → Int} {k : Nat} : ∀ {n : Nat}, (∀ i, i < n → c' i = c i) → am_LC c' M n k = am_LC c M n k := fun h => am_sum_c (fun i hi => by show _ * M i k = _ * M i k; rw [h i hi])
theorem am_LC_upd {c : Nat → Int} {M M' : Nat → Nat → Int} {k r : Nat} : ∀ {n : Nat}, r < n → (∀ i, i < n → i ≠ r → M' i k = M i k) → am_LC c M' n k = am_LC c M n k + c r * (M' r k - M r k)
  | 0, h, _ => absurd h (Nat.not_lt_zero r)
  | n + 1, h, hm => by
    show am_LC c M' n k + c n * M' n k = am_LC c M n k + c n * M n k + c r * (M' r k - M r k)
    by_cases e : r = n
    · rw [am_LC_lo (M := M) (fun i hi => hm i (by omega) (by omega)), e, Int.mul_sub]; omega
    · rw [am_LC_upd (M := M) (M' := M') (r := r) (n := n) (by omega) (fun i hi => hm i (by omega)), hm n (by omega) (fun z => e z.symm)]; omega
theorem am_LC_updc {c c' : Nat → Int} {M : Nat → Nat → Int} {k r : Nat} : ∀ {n : Nat}, r < n → (∀ i, i < n → i ≠ r → c' i = c i) → am_LC c' M n k = am_LC c M n k + (c' r - c r) * M r k
  | 0, h, _ => absurd h (Nat.not_lt_zero r)
  | n + 1, h, hm => by
    show am_LC c' M n k + c' n * M n k = am_LC c M n k + c n * M n k + (c' r - c r) * M r k
    by_cases e : r = n
    · rw [am_LC_loc (c := c) (fun i hi => hm i (by omega) (by omega)), e, Int.sub_mul]; omega
    · rw [am_LC_updc (c := c) (c' := c') (r := r) (n := n) (by omega) (fun i hi => hm i (by omega)), hm n (by omega) (fun z => e z.symm)]; omega
theorem am_LC_q {c : Nat → Int} {M M' : Nat → Nat → Int} {k : Nat} : ∀ {n : Nat}, (∀ i, i < n → am_q (M i k) (M' i k)) → am_q (am_LC c M n k) (am_LC c M' n k)
  | 0, _ => am_q.rf
  | n + 1, h => by
    have := am_LC_q (c := c) (M := M) (M' := M') (k := k) (n := n) (fun i hi => h i (by omega))
    exact this.ad (am_q.rf.ml (h n (by omega)))
theorem am_LC_z {c : Nat → Int} {M : Nat → Nat → Int} {k : Nat} : ∀ {n : Nat}, (∀ i, i < n → am_q (c i) 0 ∨ am_q (M i k) 0) → am_q (am_LC c M n k) 0
  | 0, _ => am_q.rf
  | n + 1, h => by
    have := am_LC_z (c := c) (M := M) (k := k) (n := n) (fun i hi => h i (by omega))
    have h2 : am_q (c n * M n k) 0 := by
      rcases h n (by omega) with q | q
      · exact (q.ml (am_q.rf (a := M n k))).tr (am_q.eq (Int.zero_mul _))
      · exact ((am_q.rf (a := c n)).ml q).tr (am_q.eq (Int.mul_zero _))
    exact (this.ad h2).tr (am_q.eq (by decide))
theorem am_LC_one {c : Nat → Int} {M : Nat → Nat → Int} {k r : Nat} {n : Nat} (hr : r < n) (h : ∀ i, i < n → i ≠ r → am_q (c i) 0 ∨ am_q (M i k) 0) : am_q (am_LC c M n k) (c r * M r k) := by
  have h1 : am_q (am_LC (fun i => if i = r then 0 else c i) M n k) 0 := am_LC_z (fun i hi => by
    by_cases e : i = r
    · left; show am_q (if i = r then 0 else c i) 0; rw [if_pos e]; exact am_q.rf
    · have := h i hi e
      show am_q (if i = r then 0 else c i) 0 ∨ _
      rw [if_neg e]; exact this)
  have h2 : am_LC c M n k = am_LC (fun i => if i = r then 0 else c i) M n k + c r * M r k := by
    rw [am_LC_updc (c := fun i => if i = r then 0 else c i) (c' := c) hr (fun i hi e => by show c i = if i = r then 0 else c i; rw [if_neg e])]
    show _ = _; simp
  rw [h2]
  exact (h1.ad am_q.rf).tr (am_q.eq (Int.zero_add _))
def am_Sp (M : Nat → Nat → Int) (n : Nat) (v : Nat → Int) : Prop := ∃ c : Nat → Int, ∀ k, k < 8 → am_q (am_LC c M n k) (v k)
def am_Sm (V : (Nat → Int) → Prop) : Prop := (∀ v, (∀ k, k < 8 → am_q (v k) 0) → V v) ∧ (∀ u v a, V u → V v → V (fun k => u k + a * v k)) ∧ ∀ u v, V u → (∀ k, k < 8 → am_q (u k) (v k)) → V v
theorem am_Sp_sm {M : Nat → Nat → Int} {n : Nat} : am_Sm (am_Sp M n) := by
  refine ⟨fun v h => ⟨fun _ => 0, fun k hk => ?_⟩, fun u v a ⟨c, hc⟩ ⟨d, hd⟩ => ⟨fun i => c i + a * d i, fun k hk => ?_⟩, fun u v ⟨c, hc⟩ h => ⟨c, fun k hk => (hc k hk).tr (h k hk)⟩⟩
  · exact (am_LC_z (fun i _ => Or.inl am_q.rf)).tr (h k hk).sy
  · rw [am_LC_add]; exact (hc k hk).ad (am_q.rf.ml (hd k hk))
theorem am_Sp_row {M : Nat → Nat → Int} {n r : Nat} (hr : r < n) : am_Sp M n (M r) := ⟨fun i => if i = r then 1 else 0, fun k hk => by
  have h := am_LC_one (c := fun i => if i = r then 1 else 0) (M := M) (k := k) hr (fun i hi e => Or.inl (by show am_q (if i = r then 1 else 0) 0; rw [if_neg e]; exact am_q.rf))
  refine h.tr (am_q.eq ?_)
  show (if r = r then (1 : Int) else 0) * M r k = M r k
  rw [if_pos rfl, Int.one_mul]⟩
theorem am_Sp_in {V : (Nat → Int) → Prop} (hV : am_Sm V) {M : Nat → Nat → Int} : ∀ {n : Nat}, (∀ i, i < n → V (M i)) → ∀ v, am_Sp M n v → V v
  | 0, _, v, ⟨c, hc⟩ => hV.1 v (fun k hk => (hc k hk).sy)
  | n + 1, h, v, ⟨c, hc⟩ => by
    have ih := am_Sp_in hV (M := M) (n := n) (fun i hi => h i (by omega)) (fun k => am_LC c M n k) ⟨c, fun k _ => am_q.rf⟩
    have := hV.2.1 _ _ (c n) ih (h n (by omega))
    exact hV.2.2 _ _ this (fun k hk => hc k hk)
def am_Ad (V : (Nat → Int) → Prop) (u : Nat → Int) (v : Nat → Int) : Prop := ∃ a : Int, V (fun k => v k - a * u k)
theorem am_Ad_sm {V : (Nat → Int) → Prop} (hV : am_Sm V) {u : Nat → Int} : am_Sm (am_Ad V u) := by
  refine ⟨fun v h => ⟨0, hV.1 _ (fun k hk => ?_)⟩, fun x y a ⟨b, hb⟩ ⟨c, hc⟩ => ⟨b + a * c, ?_⟩, fun x y ⟨b, hb⟩ h => ⟨b, hV.2.2 _ _ hb (fun k hk => (h k hk).sb am_q.rf)⟩⟩
  · show am_q (v k - 0 * u k) 0
    rw [Int.zero_mul, Int.sub_zero]; exact h k hk
  · have := hV.2.1 _ _ a hb hc
    refine hV.2.2 _ _ this (fun k hk => am_q.eq ?_)
    show x k - b * u k + a * (y k - c * u k) = x k + a * y k - (b + a * c) * u k
    rw [Int.mul_sub, Int.add_mul, Int.mul_assoc]; omega
theorem am_Ad_v {V : (Nat → Int) → Prop} (hV : am_Sm V) {u v : Nat → Int} (h : V v) : am_Ad V u v := ⟨0, hV.2.2 _ _ h (fun k hk => am_q.eq (by show v k = v k - 0 * u k; rw [Int.zero_mul, Int.sub_zero]))⟩
theorem am_Ad_u {V : (Nat → Int) → Prop} (hV : am_Sm V) {u : Nat → Int} : am_Ad V u u := ⟨1, hV.1 _ (fun k hk => am_q.eq (by show u k - 1 * u k = 0; omega))⟩
theorem am_Ad_in {V W : (Nat → Int) → Prop} (hW : am_Sm W) {u : Nat → Int} (h1 : ∀ v, V v → W v) (h2 : W u) : ∀ v, am_Ad V u v → W v := fun v ⟨a, ha⟩ => hW.2.2 _ _ (hW.2.1 _ _ a (h1 _ ha) h2) (fun k hk => am_q.eq (by show v k - a * u k + a * u k = v k; omega))
theorem am_Sp_s {M : Nat → Nat → Int} {n : Nat} {v : Nat → Int} : am_Sp M (n + 1) v ↔ am_Ad (am_Sp M n) (M n) v := by
  constructor
  · rintro ⟨c, hc⟩
    refine ⟨c n, c, fun k hk => ?_⟩
    have : am_q (am_LC c M n k + c n * M n k) (v k) := hc k hk
    have h2 := this.sb (am_q.rf (a := c n * M n k))
    rw [show am_LC c M n k + c n * M n k - c n * M n k = am_LC c M n k by omega] at h2
    exact h2
  · exact am_Ad_in am_Sp_sm (fun v ⟨c, hc⟩ => ⟨fun i => if i < n then c i else 0, fun k hk => by
      show am_q (am_LC (fun i => if i < n then c i else 0) M n k + (if n < n then c n else 0) * M n k) (v k)
      rw [if_neg (Nat.lt_irrefl n), Int.zero_mul, Int.add_zero, am_LC_loc (c := c) (fun i hi => if_pos hi)]
      exact hc k hk⟩) (am_Sp_row (Nat.lt_succ_self n)) v
def am_Ld (V : (Nat → Int) → Prop) (b : Nat) : Prop := ∃ v, V v ∧ ¬ am_q (v b) 0 ∧ ∀ j, j < b → am_q (v j) 0
noncomputable def am_ldb (V : (Nat → Int) → Prop) (b : Nat) : Bool := @decide (am_Ld V b) (Classical.propDecidable _)
theorem am_ldb_t {V : (Nat → Int) → Prop} {b : Nat} : am_ldb V b = true ↔ am_Ld V b := by unfold am_ldb; exact @decide_eq_true_iff _ (Classical.propDecidable _)
noncomputable def am_rank (V : (Nat → Int) → Prop) : Int := am_cnt (am_ldb V) 8
theorem am_rank_c {V W : (Nat → Int) → Prop} (h : ∀ v, V v ↔ W v) : am_rank V = am_rank W := by rw [show V = W from funext (fun v => propext (h v))]
def am_un (b : Nat) (k : Nat) : Int := if k = b then 1 else 0
/-- one row more raises the rank just if it isn't spanned -/
theorem am_rank_ad {V : (Nat → Int) → Prop} (hV : am_Sm V) {u : Nat → Int} : am_rank (am_Ad V u) = am_rank V ↔ V u := by
  constructor
  · intro h
    have h2 := (am_cnt_eq (P := am_ldb (am_Ad V u)) (Q := am_ldb V) (fun i hi => by
      obtain ⟨v, v1, v2⟩ := am_ldb_t.mp hi
      exact am_ldb_t.mpr ⟨v, am_Ad_v hV v1, v2⟩) (n := 8)).1.mp h.symm
    by_cases hu : V u
    · exact hu
    · exfalso
      have step : ∀ j, j ≤ 8 → ∃ v : Nat → Int, V (fun k => v k - u k) ∧ ∀ c, c < j → am_q (v c) 0 := by
        intro j
        induction j with
        | zero => intro _; exact ⟨u, hV.1 _ (fun k hk => am_q.eq (by show u k - u k = 0; omega)), fun c hc => absurd hc (Nat.not_lt_zero c)⟩
        | succ j ih =>
          intro hj
          obtain ⟨v, v1, v2⟩ := ih (by omega)
          have vA : am_Ad V u v := ⟨1, hV.2.2 _ _ v1 (fun k hk => am_q.eq (by show v k - u k = v k - 1 * u k; omega))⟩
          by_cases q : am_q (v j) 0
          · exact ⟨v, v1, fun c hc => by
              rcases Nat.lt_or_ge c j with g | g
              · exact v2 c g
              · rw [show c = j by omega]; exact q⟩
          · obtain ⟨y, y1, y2, y3⟩ := am_ldb_t.mp (h2 j (by omega) (am_ldb_t.mpr ⟨v, vA, q, v2⟩))
            obtain ⟨z, hz⟩ := am_inv' y2
            refine ⟨fun k => v k - v j * z * y k, ?_, fun c hc => ?_⟩
            · have := hV.2.1 _ _ (-(v j * z)) v1 y1
              refine hV.2.2 _ _ this (fun k hk => am_q.eq ?_)
              show v k - u k + -(v j * z) * y k = v k - v j * z * y k - u k
              rw [Int.neg_mul]; omega
            · show am_q (v c - v j * z * y c) 0
              rcases Nat.lt_or_ge c j with g | g
              · exact ((v2 c g).sb (am_q.rf.ml (y3 c g))).tr (am_q.eq (by rw [Int.mul_zero]; rfl))
              · rw [show c = j by omega]
                have h5 : am_q (v j * z * y j) (v j * 1) := by
                  rw [Int.mul_assoc, Int.mul_comm z]; exact am_q.rf.ml hz
                exact (am_q.rf.sb h5).tr (am_q.eq (by rw [Int.mul_one]; omega))
      obtain ⟨v, v1, v2⟩ := step 8 (Nat.le_refl 8)
      have := hV.2.1 _ _ (-1) (hV.1 (fun _ => 0) (fun _ _ => am_q.rf)) v1
      exact hu (hV.2.2 _ _ this (fun k hk => (show am_q (0 + -1 * (v k - u k)) (u k) from by
        have h6 := (am_q.rf (a := u k)).sb (v2 k hk)
        rw [show 0 + -1 * (v k - u k) = u k - v k by omega]
        exact h6.tr (am_q.eq (by omega)))))
  · intro hu
    exact am_rank_c (fun v => ⟨am_Ad_in hV (fun _ h => h) hu v, am_Ad_v hV⟩)
