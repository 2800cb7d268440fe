/-! ===== numbers of the machine ===== -/
theorem am_div_t {a b : Int} (ha : am_r a) (hb : am_r b) (h : ¬ (a = -2147483648 ∧ b = -1)) : am_div a b = a.tdiv b := by
  unfold am_div
  rw [_root_.Jvm.Kit.i32_div (by rw [am_toInt ha, am_toInt hb]; exact h), am_toInt ha, am_toInt hb]
theorem am_rem_t {a b : Int} (ha : am_r a) (hb : am_r b) : am_rem a b = a.tmod b := by
  unfold am_rem
  rw [rem_toInt, am_toInt ha, am_toInt hb]
theorem am_rem_nn {a b : Int} (ha : am_r a) (hb : am_r b) (h0 : 0 ≤ a) : am_rem a b = a % b := by
  rw [am_rem_t ha hb, Int.tmod_eq_emod_of_nonneg h0]
theorem am_and_mask {v m : Int} {k : Nat} (hv : am_r v) (hk : k < 32) (hm : (Int32.ofInt m).toBitVec.toNat = 2 ^ k - 1) : am_and v m = v % 2 ^ k := by
  unfold am_and
  rw [_root_.Jvm.Kit.i32_mask _ _ hk hm, am_toInt hv]
theorem am_and1 {v : Int} (hv : am_r v) : am_and v 1 = v % 2 := am_and_mask (k := 1) hv (by decide) (by decide)
theorem am_and31 {v : Int} (hv : am_r v) : am_and v 31 = v % 32 := am_and_mask (k := 5) hv (by decide) (by decide)
theorem am_sh_ok : ∀ n : Nat, n < 32 → ((Int32.ofInt (n : Int) &&& 31).toBitVec.smod 32).toNat = n := by decide +kernel
theorem am_shr_d {v n : Int} (hv : am_r v) (h0 : 0 ≤ n) (h1 : n < 32) : am_shr v n = v / 2 ^ n.toNat := by
  unfold am_shr
  have := am_sh_ok n.toNat (by omega)
  rw [show ((n.toNat : Nat) : Int) = n by omega] at this
  rw [_root_.Jvm.Kit.i32_shr _ _ this, am_toInt hv]
theorem am_pow_le {n m : Nat} (h : n ≤ m) : (2 : Int) ^ n ≤ 2 ^ m := by
  have := Nat.pow_le_pow_right (n := 2) (by decide) h
  exact_mod_cast this
theorem am_pow_pos (n : Nat) : (0 : Int) < 2 ^ n := by
  have := Nat.pow_pos (n := n) (show 0 < 2 by decide)
  exact_mod_cast this
theorem am_shl1 {n : Int} (h0 : 0 ≤ n) (h1 : n < 31) : am_shl 1 n = 2 ^ n.toNat := by
  unfold am_shl
  have := am_sh_ok n.toNat (by omega)
  rw [show ((n.toNat : Nat) : Int) = n by omega] at this
  have h2 := am_pow_le (show n.toNat ≤ 30 by omega)
  have h3 := am_pow_pos n.toNat
  have e1 : (Int32.ofInt 1).toInt = 1 := by decide
  have e2 : (2 : Int) ^ 30 = 1073741824 := by decide
  rw [_root_.Jvm.Kit.i32_shl _ _ this (by rw [e1]; omega) (by rw [e1]; omega), e1, Int.one_mul]
theorem am_fx.g {ks : List Nat} {σ σ' : am_St} (h : am_fx ks [] σ σ') (k : Nat) {j : Nat} (hk : ks.contains k = false) : σ'.1 k j = σ.1 k j := h k j (fun e => by rw [List.contains_iff_mem.mpr e] at hk; cases hk) (by simp)
theorem am_fx.q {ks : List Nat} {ps : List (Nat × Nat)} {σ σ' : am_St} (h : am_fx ks ps σ σ') (k : Nat) {j : Nat} (hk : (ks.contains k || ps.any (fun p => p.1 == k)) = false) : σ'.1 k j = σ.1 k j := by
  rw [Bool.or_eq_false_iff] at hk
  refine h k j (fun e => by rw [List.contains_iff_mem.mpr e] at hk; cases hk.1) (fun e => ?_)
  have := hk.2
  rw [List.any_eq_true.mpr ⟨_, e, by simp⟩] at this
  cases this
