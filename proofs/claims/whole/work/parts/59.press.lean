/-! ===== pressing: the greatest box that no row presses any more ===== -/
theorem am_sum_le {f g : Nat → Int} : ∀ {n : Nat}, (∀ i, i < n → f i ≤ g i) → am_sum f n ≤ am_sum g n
  | 0, _ => Int.le_refl _
  | n + 1, h => by
    have := am_sum_le (f := f) (g := g) (n := n) (fun i hi => h i (by omega))
    have h2 := h n (by omega)
    show am_sum f n + f n ≤ am_sum g n + g n
    omega
def am_oth (R v : Nat → Int) (b : Nat) (n : Nat) : Int := am_sum (fun k => if k = b then 0 else R k * v k) n
def am_dot (R v : Nat → Int) (n : Nat) : Int := am_sum (fun k => R k * v k) n
theorem am_oth_hi {R v : Nat → Int} {b : Nat} : ∀ {n : Nat}, n ≤ b → am_oth R v b n = am_dot R v n
  | 0, _ => rfl
  | n + 1, h => by
    have := am_oth_hi (R := R) (v := v) (b := b) (n := n) (by omega)
    show am_oth R v b n + (if n = b then 0 else R n * v n) = am_dot R v n + R n * v n
    rw [if_neg (by omega), this]
theorem am_oth_dot {R v : Nat → Int} {b : Nat} : ∀ {n : Nat}, b < n → am_dot R v n = am_oth R v b n + R b * v b
  | 0, h => absurd h (Nat.not_lt_zero b)
  | n + 1, h => by
    show am_dot R v n + R n * v n = am_oth R v b n + (if n = b then 0 else R n * v n) + R b * v b
    by_cases e : n = b
    · rw [if_pos e, am_oth_hi (by omega), e]; omega
    · rw [if_neg e, am_oth_dot (R := R) (v := v) (b := b) (n := n) (by omega)]; omega
theorem am_oth_up {R v : Nat → Int} {b n : Nat} {u : Int} : am_oth R (fun j => if j = b then u else v j) b n = am_oth R v b n := am_sum_c (fun k hk => by
  show (if k = b then (0 : Int) else R k * (if k = b then u else v k)) = if k = b then 0 else R k * v k
  by_cases e : k = b
  · rw [if_pos e, if_pos e]
  · rw [if_neg e, if_neg e, if_neg e])
theorem am_oth_c {R v v' : Nat → Int} {b n : Nat} (h : ∀ k, k < n → v k = v' k) : am_oth R v b n = am_oth R v' b n := am_sum_c (fun k hk => by
  show (if k = b then (0 : Int) else R k * v k) = if k = b then 0 else R k * v' k
  rw [h k hk])
theorem am_dot_up {R v : Nat → Int} {b n : Nat} {u : Int} (hb : b < n) : am_dot R (fun j => if j = b then u else v j) n = am_dot R v n + R b * (u - v b) := by
  rw [am_oth_dot hb, am_oth_dot (R := R) (v := v) hb, am_oth_up, if_pos rfl, Int.mul_sub]; omega
theorem am_oth_le {R v v' : Nat → Int} {b n : Nat} (hR : ∀ k, k < n → 0 ≤ R k) (h : ∀ k, k < n → v k ≤ v' k) : am_oth R v b n ≤ am_oth R v' b n := am_sum_le (fun k hk => by
  show (if k = b then (0 : Int) else R k * v k) ≤ if k = b then 0 else R k * v' k
  by_cases e : k = b
  · rw [if_pos e, if_pos e]; exact Int.le_refl _
  · rw [if_neg e, if_neg e]; exact Int.mul_le_mul_of_nonneg_left (h k hk) (hR k hk))
theorem am_oth_b {R v : Nat → Int} {b : Nat} (hR : ∀ k, k < 8 → 0 ≤ R k ∧ R k ≤ 30) (hv : ∀ k, k < 8 → 1 ≤ v k ∧ v k ≤ 60) : 0 ≤ am_oth R v b 8 ∧ am_oth R v b 8 ≤ 14400 := by
  have := am_sum_b (f := fun k => if k = b then (0 : Int) else R k * v k) (B := 1800) (n := 8) (fun k hk => by
    show 0 ≤ (if k = b then (0 : Int) else R k * v k) ∧ (if k = b then (0 : Int) else R k * v k) ≤ 1800
    by_cases e : k = b
    · rw [if_pos e]; decide
    · rw [if_neg e]
      have h1 := hR k hk
      have h2 := hv k hk
      have h3 : R k * v k ≤ 30 * 60 := Int.mul_le_mul h1.2 h2.2 (by omega) (by omega)
      have h4 : 0 ≤ R k * v k := Int.mul_nonneg h1.1 (by omega)
      omega)
  unfold am_oth
  omega
theorem am_ediv_b {N r B : Int} (hr : 1 ≤ r) (h1 : -B ≤ N) (h2 : N ≤ B) : -B ≤ N / r ∧ N / r ≤ B := by
  have hB : 0 ≤ B := by omega
  constructor
  · refine Int.le_ediv_of_mul_le (by omega) ?_
    have : -B * r ≤ -B * 1 := by
      rw [Int.neg_mul, Int.neg_mul]
      have := Int.mul_le_mul_of_nonneg_left hr hB
      omega
    omega
  · refine Int.ediv_le_of_le_mul (by omega) ?_
    have := Int.mul_le_mul_of_nonneg_left hr hB
    omega
def am_bx (l g : Nat → Int) : Prop := ∀ b, b < 8 → 1 ≤ l b ∧ l b ≤ g b ∧ g b ≤ 60
def am_rc (R : Nat → Int) (a z : Int) (l g : Nat → Int) (b : Nat) : Prop := 0 < R b → R b * g b + am_oth R l b 8 ≤ z ∧ a ≤ R b * l b + am_oth R g b 8
def am_CN (n : Nat) (R : Nat → Nat → Int) (a z : Nat → Int) (S : Nat → Prop) (l g : Nat → Int) : Prop := am_bx l g ∧ ∀ p, p < n → S p → ∀ b, b < 8 → am_rc (R p) (a p) (z p) l g b
def am_PI (C : (Nat → Int) → (Nat → Int) → Prop) (l g : Nat → Int) : Prop := ∀ l' g', C l' g' → ∀ b, b < 8 → l b ≤ l' b ∧ g' b ≤ g b
theorem am_ps_g {C : (Nat → Int) → (Nat → Int) → Prop} {l g : Nat → Int} {b : Nat} {u : Int} (hI : am_PI C l g) (hu : ∀ l' g', C l' g' → g' b ≤ u) : am_PI C l (fun j => if j = b then u else g j) := fun l' g' hC j hj => by
  have := hI l' g' hC j hj
  refine ⟨this.1, ?_⟩
  show g' j ≤ if j = b then u else g j
  by_cases e : j = b
  · rw [if_pos e, e]; exact hu l' g' hC
  · rw [if_neg e]; exact this.2
theorem am_ps_l {C : (Nat → Int) → (Nat → Int) → Prop} {l g : Nat → Int} {b : Nat} {u : Int} (hI : am_PI C l g) (hu : ∀ l' g', C l' g' → u ≤ l' b) : am_PI C (fun j => if j = b then u else l j) g := fun l' g' hC j hj => by
  have := hI l' g' hC j hj
  refine ⟨?_, this.2⟩
  show (if j = b then u else l j) ≤ l' j
  by_cases e : j = b
  · rw [if_pos e, e]; exact hu l' g' hC
  · rw [if_neg e]; exact this.1
theorem am_ps_u {n : Nat} {R : Nat → Nat → Int} {a z : Nat → Int} {S : Nat → Prop} {l g : Nat → Int} {p b : Nat} (hI : am_PI (am_CN n R a z S) l g) (hp : p < n) (hS : S p) (hb : b < 8) (hR : ∀ k, k < 8 → 0 ≤ R p k) (hr : 0 < R p b) : ∀ l' g', am_CN n R a z S l' g' → g' b ≤ (z p - am_oth (R p) l b 8) / R p b := fun l' g' hC => by
  have h1 := (hC.2 p hp hS b hb hr).1
  have h2 := am_oth_le (R := R p) (b := b) hR (fun k hk => (hI l' g' hC k hk).1)
  refine Int.le_ediv_of_mul_le hr ?_
  rw [Int.mul_comm]; omega
theorem am_ps_d {n : Nat} {R : Nat → Nat → Int} {a z : Nat → Int} {S : Nat → Prop} {l g : Nat → Int} {p b : Nat} (hI : am_PI (am_CN n R a z S) l g) (hp : p < n) (hS : S p) (hb : b < 8) (hR : ∀ k, k < 8 → 0 ≤ R p k) (hr : 0 < R p b) : ∀ l' g', am_CN n R a z S l' g' → -((am_oth (R p) g b 8 - a p) / R p b) ≤ l' b := fun l' g' hC => by
  have h1 := (hC.2 p hp hS b hb hr).2
  have h2 := am_oth_le (R := R p) (b := b) hR (fun k hk => (hI l' g' hC k hk).2)
  have h3 : -(l' b) ≤ (am_oth (R p) g b 8 - a p) / R p b := by
    refine Int.le_ediv_of_mul_le hr ?_
    rw [Int.neg_mul, Int.mul_comm]; omega
  omega
theorem am_rc_of {R : Nat → Int} {a z : Int} {l g : Nat → Int} {b : Nat} (h1 : 0 < R b → g b ≤ (z - am_oth R l b 8) / R b) (h2 : 0 < R b → -((am_oth R g b 8 - a) / R b) ≤ l b) : am_rc R a z l g b := fun hr => by
  have k1 := Int.mul_le_of_le_ediv hr (h1 hr)
  have k2 : -(l b) ≤ (am_oth R g b 8 - a) / R b := by have := h2 hr; omega
  have k3 := Int.mul_le_of_le_ediv hr k2
  rw [Int.mul_comm] at k1
  rw [Int.neg_mul, Int.mul_comm] at k3
  exact ⟨by omega, by omega⟩
theorem am_rc_c {R : Nat → Int} {a z : Int} {l g l' g' : Nat → Int} {b : Nat} (hb : b < 8) (h : am_rc R a z l g b) (h1 : ∀ k, k < 8 → l' k = l k) (h2 : ∀ k, k < 8 → g' k = g k) : am_rc R a z l' g' b := fun hr => by
  have := h hr
  rw [h1 b hb, h2 b hb, am_oth_c h1, am_oth_c h2]; exact this
def am_wd (l g : Nat → Int) : Int := am_sum (fun b => g b - l b) 8
theorem am_wd_b {l g : Nat → Int} (h : am_bx l g) : 0 ≤ am_wd l g ∧ am_wd l g ≤ 472 := by
  have := am_sum_b (f := fun b => g b - l b) (B := 59) (n := 8) (fun b hb => by have := h b hb; show 0 ≤ g b - l b ∧ g b - l b ≤ 59; omega)
  unfold am_wd; omega
theorem am_sum_up {f : Nat → Int} {b : Nat} {u : Int} : ∀ {n : Nat}, b < n → am_sum (fun j => if j = b then u else f j) n = am_sum f n + (u - f b)
  | 0, h => absurd h (Nat.not_lt_zero b)
  | n + 1, h => by
    show am_sum (fun j => if j = b then u else f j) n + (if n = b then u else f n) = am_sum f n + f n + (u - f b)
    by_cases e : n = b
    · have : am_sum (fun j => if j = b then u else f j) n = am_sum f n := am_sum_c (fun i hi => by show (if i = b then u else f i) = f i; rw [if_neg (by omega)])
      rw [if_pos e, this, e]; omega
    · rw [if_neg e, am_sum_up (f := f) (b := b) (u := u) (n := n) (by omega)]; omega
theorem am_wd_g {l g : Nat → Int} {b : Nat} {u : Int} (hb : b < 8) : am_wd l (fun j => if j = b then u else g j) = am_wd l g + (u - g b) := by
  unfold am_wd
  have : am_sum (fun j => (if j = b then u else g j) - l j) 8 = am_sum (fun j => if j = b then u - l b else g j - l j) 8 := am_sum_c (fun i hi => by
    show (if i = b then u else g i) - l i = if i = b then u - l b else g i - l i
    by_cases e : i = b
    · rw [if_pos e, if_pos e, e]
    · rw [if_neg e, if_neg e])
  rw [this, am_sum_up (f := fun j => g j - l j) hb]; omega
theorem am_wd_l {l g : Nat → Int} {b : Nat} {u : Int} (hb : b < 8) : am_wd (fun j => if j = b then u else l j) g = am_wd l g + (l b - u) := by
  unfold am_wd
  have : am_sum (fun j => g j - (if j = b then u else l j)) 8 = am_sum (fun j => if j = b then g b - u else g j - l j) 8 := am_sum_c (fun i hi => by
    show g i - (if i = b then u else l i) = if i = b then g b - u else g i - l i
    by_cases e : i = b
    · rw [if_pos e, if_pos e, e]
    · rw [if_neg e, if_neg e])
  rw [this, am_sum_up (f := fun j => g j - l j) hb]; omega
theorem am_xor_s {a b : Int} (ha : am_r a) (hb : 0 < b ∧ b < 2147483648) : am_r (am_xor a b) ∧ (0 ≤ am_xor a b ↔ 0 ≤ a) := by
  have r1 := Int32.toInt_lt (Int32.ofInt a ^^^ Int32.ofInt b)
  have r2 := Int32.le_toInt (Int32.ofInt a ^^^ Int32.ofInt b)
  have e1 : (Int32.ofInt a ^^^ Int32.ofInt b).toBitVec.msb = ((Int32.ofInt a).toBitVec.msb ^^ (Int32.ofInt b).toBitVec.msb) := by rw [Int32.toBitVec_xor, BitVec.msb_xor]
  rw [BitVec.msb_eq_toInt, BitVec.msb_eq_toInt, BitVec.msb_eq_toInt] at e1
  have ea : (Int32.ofInt a).toBitVec.toInt = a := am_toInt ha
  have eb : (Int32.ofInt b).toBitVec.toInt = b := am_toInt ⟨by omega, by omega⟩
  rw [ea, eb, decide_eq_false (p := b < 0) (by omega), Bool.xor_false] at e1
  have e2 : (Int32.ofInt a ^^^ Int32.ofInt b).toBitVec.toInt = am_xor a b := rfl
  rw [e2, decide_eq_decide] at e1
  have r3 : (Int32.ofInt a ^^^ Int32.ofInt b).toInt = am_xor a b := rfl
  rw [r3] at r1 r2
  exact ⟨⟨r2, r1⟩, by omega⟩
theorem am_tdiv_lt {a b : Int} (ha : a < 0) (hb : 0 < b) : (a.tdiv b * b = a → a.tdiv b = a / b) ∧ (¬ a.tdiv b * b = a → a.tdiv b - 1 = a / b) := by
  have e := Int.tdiv_eq_ediv (a := a) (b := b)
  by_cases q : b ∣ a
  · rw [if_pos (Or.inr q)] at e
    exact ⟨fun _ => by omega, fun h => absurd (Int.tdiv_mul_cancel q) h⟩
  · rw [if_neg (by intro z; rcases z with z | z; omega; exact q z), Int.sign_eq_one_of_pos hb] at e
    exact ⟨fun h => absurd (⟨a.tdiv b, by rw [Int.mul_comm]; exact h.symm⟩ : b ∣ a) q, fun _ => by omega⟩
section AMPR
variable {x : am_Sc} {Po : Option am_AV → am_Sh → am_St → Prop} {σ : am_St} {w h w2 h2 : Nat} {s s2 : Nat → Nat → Int}
theorem c_floorDiv {a b : Int} (ha : -1000000 ≤ a ∧ a ≤ 1000000) (hb : 1 ≤ b ∧ b ≤ 1000000) (kk : Po (some (Zi (a / b))) am_SH σ) : am_U x m_Ma_floorDiv Po σ 0 [some (Zi a), some (Zi b), none] [] := by
  obtain ⟨x1, x2⟩ := am_xor_s (a := a) (b := b) (by omega) (by omega)
  have ed : am_div a b = a.tdiv b := am_div_t (by omega) (by omega) (by omega)
  refine s_Ma_floorDiv_0 ?_
  rw [ed]
  by_cases q : 0 ≤ a
  · have e : a.tdiv b = a / b := by rw [Int.tdiv_eq_ediv, if_pos (Or.inl q)]; omega
    rw [e]
    exact ⟨by omega, by omega, x1, fun _ => s_Ma_floorDiv_21 kk, fun z => absurd (x2.mpr q) z⟩
  · obtain ⟨t1, t2⟩ := am_tdiv_lt (a := a) (b := b) (by omega) (by omega)
    refine ⟨by omega, by omega, x1, fun z => absurd (x2.mp z) q, fun _ => ?_⟩
    have bb := am_ediv_b (N := a) (r := b) (B := 1000000) (by omega) (by omega) (by omega)
    have hm := Int.mul_tdiv_add_tmod a b
    have hm2 := Int.tmod_lt_of_pos
    have rr : am_r (a.tdiv b * b) := by
      have h1 := Int.ediv_mul_le a (b := b) (by omega)
      have h2 := Int.lt_ediv_add_one_mul_self a (b := b) (by omega)
      by_cases q2 : a.tdiv b * b = a
      · rw [q2]; omega
      · have := t2 q2
        have e3 : a.tdiv b = a / b + 1 := by omega
        rw [e3, Int.add_mul]; rw [Int.add_mul] at h2; omega
    exact ⟨rr, by omega, fun z => s_Ma_floorDiv_21 (by rw [t1 z]; exact kk), fun z => by rw [t2 z]; exact kk⟩
theorem m_floorOf {a b : Int} (ha : -1000000 ≤ a ∧ a ≤ 1000000) (hb : 1 ≤ b ∧ b ≤ 1000000) (kk : Po (some (Zi (a / b))) am_SH σ) : am_U x m_Mo_floorOf Po σ 0 [some (Zi a), some (Zi b), none] [] := by
  have ed : am_div a b = a.tdiv b := am_div_t (by omega) (by omega) (by omega)
  have er : am_rem a b = a.tmod b := am_rem_t (by omega) (by omega)
  have hm := Int.mul_tdiv_add_tmod a b
  have m1 : a.tmod b < b := Int.tmod_lt_of_pos a (by omega)
  have m2 : -b < a.tmod b := Int.lt_tmod_of_pos a (by omega)
  refine s_Mo_floorOf_0 ?_
  rw [ed, er]
  by_cases q : 0 ≤ a
  · have e : a.tdiv b = a / b := by rw [Int.tdiv_eq_ediv, if_pos (Or.inl q)]; omega
    rw [e]
    exact ⟨by omega, by omega, by omega, fun _ => s_Mo_floorOf_20 (s_Mo_floorOf_21 kk), fun _ => ⟨by omega, fun _ => s_Mo_floorOf_20 (s_Mo_floorOf_21 kk), fun z => absurd q z⟩⟩
  · obtain ⟨t1, t2⟩ := am_tdiv_lt (a := a) (b := b) (by omega) (by omega)
    rw [Int.mul_comm] at hm
    exact ⟨by omega, by omega, by omega, fun z => s_Mo_floorOf_20 (s_Mo_floorOf_21 (by rw [t1 (by omega)]; exact kk)), fun z => ⟨by omega, fun z2 => absurd z2 q, fun _ => s_Mo_floorOf_21 (by rw [t2 (by omega)]; exact kk)⟩⟩
theorem x_weigh {r0 r1 : Nat} {R v : Nat → Int} (h0 : am_SH[r0]? = some (12, 8, [])) (h1 : am_SH[r1]? = some (12, 8, [])) (e0 : ∀ k, k < 8 → σ.1 r0 k = R k) (e1 : σ.1 r1 = v) (kk : Po (some (Zi (am_dot R v 8))) am_SH σ) : am_U x m_Pr_weigh Po σ 0 [some (Zr r0), some (Zr r1), none, none] [] := by
  have loop : ∀ (d i : Nat), i + d = 8 → am_U x m_Pr_weigh Po σ 4 [some (Zr r0), some (Zr r1), some (Zi (am_dot R v i)), some (Zi (i : Int))] [] := by
    intro d
    induction d with
    | zero =>
      intro i hi
      refine s_Pr_weigh_4 h0 h1 ⟨by omega, fun _ => ?_, fun q => absurd (by omega) q⟩
      rw [show i = 8 by omega]; exact kk
    | succ d ih =>
      intro i hi
      refine s_Pr_weigh_4 h0 h1 ⟨by omega, fun q => absurd q (by omega), fun _ => ⟨by omega, ?_⟩⟩
      rw [Int.toNat_natCast, e0 i (by omega), e1]
      exact ih (i + 1) (by omega)
  exact s_Pr_weigh_0 h0 h1 (loop 8 0 (by omega))
/-- what one row's pressing leaves -/
def am_nrP (R : Nat → Int) (a z : Int) (l g l' g' : Nat → Int) (cr ch : Int) : Prop := (cr = 0 ∨ cr = 1) ∧ (ch = 0 ∨ ch = 1) ∧ (cr = 1 → ∃ b, b < 8 ∧ g' b < l' b) ∧ (cr = 0 → am_bx l' g' ∧ am_wd l' g' ≤ am_wd l g ∧ (ch = 1 → am_wd l' g' < am_wd l g) ∧ (ch = 0 → (∀ k, k < 8 → l' k = l k) ∧ ∀ k, k < 8 → g' k = g k))
theorem x_narrow {n p i : Nat} {R : Nat → Nat → Int} {a z : Nat → Int} {S : Nat → Prop} (hi : i < 12) (hp : p < n) (hS : S p) (hR : ∀ k, k < 8 → 0 ≤ R p k ∧ R p k ≤ 30) (ha : -20000 ≤ a p ∧ a p ≤ 20000) (hz : -20000 ≤ z p ∧ z p ≤ 20000)
    (er : ∀ k, k < 8 → σ.1 (23 + i) k = R p k) (ea : σ.1 104 i = a p) (ez : σ.1 105 i = z p) (hI : am_PI (am_CN n R a z S) (σ.1 106) (σ.1 107)) (hB : am_bx (σ.1 106) (σ.1 107)) (hc : σ.1 103 6 = 0)
    (kk : ∀ σ' ch, am_fx [106, 107] [(103, 6)] σ σ' → am_PI (am_CN n R a z S) (σ'.1 106) (σ'.1 107) → am_nrP (R p) (a p) (z p) (σ.1 106) (σ.1 107) (σ'.1 106) (σ'.1 107) (σ'.1 103 6) ch → (σ'.1 103 6 = 0 → ch = 0 → ∀ b, b < 8 → am_rc (R p) (a p) (z p) (σ'.1 106) (σ'.1 107) b) → Po (some (Zi ch)) am_SH σ') : am_U x m_Pr_narrow Po σ 0 [some (Zr 103), some (Zi (i : Int)), none, none, none, none, none, none, none, none] [] := by
  have rsh := am_rws_sh i hi
  have loop : ∀ (d b : Nat) (τ : am_St) (ch : Int), b + d = 8 → am_fx [106, 107] [(103, 6)] σ τ → am_PI (am_CN n R a z S) (τ.1 106) (τ.1 107) → am_nrP (R p) (a p) (z p) (σ.1 106) (σ.1 107) (τ.1 106) (τ.1 107) (τ.1 103 6) ch → (τ.1 103 6 = 0 → ch = 0 → ∀ b', b' < b → am_rc (R p) (a p) (z p) (σ.1 106) (σ.1 107) b') → am_U x m_Pr_narrow Po τ 35 [some (Zr 103), some (Zi (i : Int)), some (Zr (23 + i)), some (Zi (am_dot (R p) (τ.1 106) 8)), some (Zi (am_dot (R p) (τ.1 107) 8)), some (Zi ch), some (Zi (b : Int)), none, none, none] [] := by
    intro d
    induction d with
    | zero =>
      intro b τ ch hb hf hIt hN hr
      refine s_Pr_narrow_35 rsh ⟨by omega, fun _ => s_Pr_narrow_228 ⟨hN.2.1, kk τ ch hf hIt hN (fun h1 h2 b' hb' => ?_)⟩, fun q => absurd (by omega) q⟩
      obtain ⟨e1, e2⟩ := (hN.2.2.2 h1).2.2.2 h2
      exact am_rc_c hb' (hr h1 h2 b' (by omega)) e1 e2
    | succ d ih =>
      intro b τ ch hb hf hIt hN hr
      have c01 := hN.1
      have ch01 := hN.2.1
      have eR : ∀ k, k < 8 → τ.1 (23 + i) k = R p k := fun k hk => by rw [hf (23 + i) k (by simp; omega) (by simp; omega)]; exact er k hk
      have eA : τ.1 104 i = a p := by rw [hf.q 104 (by decide)]; exact ea
      have eZ : τ.1 105 i = z p := by rw [hf.q 105 (by decide)]; exact ez
      have b8 : b < 8 := by omega
      have hRb := hR b b8
      refine s_Pr_narrow_35 rsh ?_
      rw [Int.toNat_natCast, Int.toNat_natCast, eR b b8, eZ]
      refine ⟨by omega, fun q => absurd q (by omega), fun _ => ⟨by omega, fun qc => s_Pr_narrow_228 ⟨ch01, kk τ ch hf hIt hN (fun h1 _ => absurd h1 qc)⟩, fun qc => ⟨by omega, by omega, fun q0 => ?_, fun q0 => ⟨by omega, ?_⟩⟩⟩⟩
      · have := ih (b + 1) τ ch (by omega) hf hIt hN (fun h1 h2 b' hb' => by
          rcases Nat.lt_or_ge b' b with g | g
          · exact hr h1 h2 b' g
          · rw [show b' = b by omega]; exact fun z => absurd z (by omega))
        exact s_Pr_narrow_222 rsh (by rw [show (b : Int) + 1 = ((b + 1 : Nat) : Int) by omega]; exact this)
      · obtain ⟨hBt, hw1, hw2, hw3⟩ := hN.2.2.2 qc
        have o1 := am_oth_b (R := R p) (v := τ.1 106) (b := b) hR (fun k hk => by have := hBt k hk; omega)
        have o2 := am_oth_b (R := R p) (v := τ.1 107) (b := b) hR (fun k hk => by have := hBt k hk; omega)
        have bb := hBt b b8
        have r0 : 0 < R p b := by omega
        have hR0 : ∀ k, k < 8 → 0 ≤ R p k := fun k hk => (hR k hk).1
        have e1 : z p - (am_dot (R p) (τ.1 106) 8 - R p b * τ.1 106 b) = z p - am_oth (R p) (τ.1 106) b 8 := by rw [am_oth_dot b8]; omega
        rw [e1]
        have u1 := am_ps_u hIt hp hS b8 hR0 r0
        have bu := am_ediv_b (N := z p - am_oth (R p) (τ.1 106) b 8) (r := R p b) (B := 40000) (by omega) (by omega) (by omega)
        refine c_floorDiv (by omega) (by omega) ⟨_, rfl, rfl, by omega, by omega, ?_⟩
        -- the second half, from a store whose row 107 is g1
        have second : ∀ (τ1 : am_St) (c1 : Int), am_fx [106, 107] [(103, 6)] σ τ1 → τ1.1 106 = τ.1 106 → τ1.1 103 6 = 0 → am_PI (am_CN n R a z S) (τ1.1 106) (τ1.1 107) → (∀ k, k < 8 → k ≠ b → τ1.1 107 k = τ.1 107 k) → (-40000 ≤ τ1.1 107 b ∧ τ1.1 107 b ≤ τ.1 107 b) → (c1 = 0 ∨ c1 = 1) → (c1 = 0 → ch = 0 ∧ τ1.1 107 = τ.1 107 ∧ τ.1 107 b ≤ (z p - am_oth (R p) (τ.1 106) b 8) / R p b) → (am_wd (τ1.1 106) (τ1.1 107) ≤ am_wd (σ.1 106) (σ.1 107)) → (c1 = 1 → am_wd (τ1.1 106) (τ1.1 107) < am_wd (σ.1 106) (σ.1 107)) → am_U x m_Pr_narrow Po τ1 128 [some (Zr 103), some (Zi (i : Int)), some (Zr (23 + i)), some (Zi (am_dot (R p) (τ.1 106) 8)), some (Zi (am_dot (R p) (τ1.1 107) 8)), some (Zi c1), some (Zi (b : Int)), some (Zi (R p b)), none, none] [] := by
          intro τ1 c1 f1 e6 ec hI1 e7 b7 c1b c1z wle wlt
          have eA1 : τ1.1 104 i = a p := by rw [f1.q 104 (by decide)]; exact ea
          have oth1 : am_oth (R p) (τ1.1 107) b 8 = am_oth (R p) (τ.1 107) b 8 := am_sum_c (fun k hk => by
            show (if k = b then (0 : Int) else R p k * τ1.1 107 k) = if k = b then 0 else R p k * τ.1 107 k
            by_cases e : k = b
            · rw [if_pos e, if_pos e]
            · rw [if_neg e, if_neg e, e7 k hk e])
          have d1 := am_ps_d hI1 hp hS b8 hR0 r0
          rw [oth1] at d1
          have bd := am_ediv_b (N := am_oth (R p) (τ.1 107) b 8 - a p) (r := R p b) (B := 40000) (by omega) (by omega) (by omega)
          -- the last test, from a store whose row 106 is l1
          have third : ∀ (τ2 : am_St) (c2 : Int), am_fx [106, 107] [(103, 6)] σ τ2 → τ2.1 107 = τ1.1 107 → τ2.1 103 6 = 0 → am_PI (am_CN n R a z S) (τ2.1 106) (τ2.1 107) → (∀ k, k < 8 → k ≠ b → τ2.1 106 k = τ.1 106 k) → (τ.1 106 b ≤ τ2.1 106 b ∧ τ2.1 106 b ≤ 40000) → (c2 = 0 ∨ c2 = 1) → (c2 = 0 → ch = 0 ∧ τ2.1 107 = τ.1 107 ∧ τ2.1 106 = τ.1 106 ∧ am_rc (R p) (a p) (z p) (σ.1 106) (σ.1 107) b) → (am_wd (τ2.1 106) (τ2.1 107) ≤ am_wd (σ.1 106) (σ.1 107)) → (c2 = 1 → am_wd (τ2.1 106) (τ2.1 107) < am_wd (σ.1 106) (σ.1 107)) → am_U x m_Pr_narrow Po τ2 196 [some (Zr 103), some (Zi (i : Int)), some (Zr (23 + i)), some (Zi (am_dot (R p) (τ2.1 106) 8)), some (Zi (am_dot (R p) (τ2.1 107) 8)), some (Zi c2), some (Zi (b : Int)), none, none, none] [] := by
            intro τ2 c2 f2 g7 gc hI2 g6 b6 c2b c2z wle2 wlt2
            refine s_Pr_narrow_196 rsh ?_
            rw [Int.toNat_natCast]
            have b77 : -40000 ≤ τ2.1 107 b ∧ τ2.1 107 b ≤ τ.1 107 b := by rw [g7]; exact b7
            refine ⟨by omega, by omega, by omega, fun q => s_Pr_narrow_219 rsh ⟨Or.inl rfl, fun τ3 f3 => ?_⟩, fun q => s_Pr_narrow_219 rsh ⟨Or.inr rfl, fun τ3 f3 => ?_⟩⟩
            · have k6 : τ3.1 106 = τ2.1 106 := by funext j; exact am_stO f3 (by decide)
              have k7 : τ3.1 107 = τ2.1 107 := by funext j; exact am_stO f3 (by decide)
              have kc : τ3.1 103 6 = 0 := am_stE f3
              have := ih (b + 1) τ3 c2 (by omega) (f2.tr (am_fx.p1 f3) (by decide) (by decide)) (by rw [k6, k7]; exact hI2) (by
                rw [kc, k6, k7]
                refine ⟨Or.inl rfl, c2b, fun z => absurd z (by decide), fun _ => ⟨fun k hk => ?_, wle2, wlt2, fun z => ?_⟩⟩
                · have hk0 := hBt k hk
                  by_cases e : k = b
                  · rw [e]; omega
                  · rw [g6 k hk e, g7, e7 k hk e]; exact hk0
                · obtain ⟨z1, z2, z3, -⟩ := c2z z
                  rw [z2, z3]; exact hw3 z1) (fun _ h2 b' hb' => by
                obtain ⟨z1, z2, z3, z4⟩ := c2z h2
                rcases Nat.lt_or_ge b' b with g | g
                · exact hr qc z1 b' g
                · rw [show b' = b by omega]; exact z4)
              rw [k6, k7] at this
              exact s_Pr_narrow_222 rsh (by rw [show (b : Int) + 1 = ((b + 1 : Nat) : Int) by omega]; exact this)
            · have k6 : τ3.1 106 = τ2.1 106 := by funext j; exact am_stO f3 (by decide)
              have k7 : τ3.1 107 = τ2.1 107 := by funext j; exact am_stO f3 (by decide)
              have kc : τ3.1 103 6 = 1 := am_stE f3
              have := ih (b + 1) τ3 c2 (by omega) (f2.tr (am_fx.p1 f3) (by decide) (by decide)) (by rw [k6, k7]; exact hI2) (by
                rw [kc, k6, k7]
                exact ⟨Or.inr rfl, c2b, fun _ => ⟨b, b8, by omega⟩, fun z => absurd z (by decide)⟩) (fun h1 => absurd (kc.symm.trans h1) (by decide))
              rw [k6, k7] at this
              exact s_Pr_narrow_222 rsh (by rw [show (b : Int) + 1 = ((b + 1 : Nat) : Int) by omega]; exact this)
          refine s_Pr_narrow_128 rsh ?_
          rw [Int.toNat_natCast, Int.toNat_natCast, eA1]
          have e2 : am_dot (R p) (τ1.1 107) 8 - R p b * τ1.1 107 b - a p = am_oth (R p) (τ.1 107) b 8 - a p := by rw [am_oth_dot b8, oth1]; omega
          rw [e2]
          refine ⟨by omega, by omega, c_floorDiv (by omega) (by omega) ⟨_, rfl, rfl, by omega, by rw [e6]; omega, ?_⟩⟩
          rw [e6]
          refine ⟨fun q => ?_, fun q τ2 f2 => ?_⟩
          · have := third τ1 c1 f1 rfl ec hI1 (fun k _ _ => by rw [e6]) (by rw [e6]; omega) c1b (fun zq => by
              obtain ⟨z1, z2, z3⟩ := c1z zq
              refine ⟨z1, z2, e6, ?_⟩
              have := hw3 z1
              exact am_rc_c b8 (am_rc_of (R := R p) (a := a p) (z := z p) (l := τ.1 106) (g := τ.1 107) (b := b) (fun _ => z3) (fun _ => q)) (fun k hk => (this.1 k hk).symm) (fun k hk => (this.2 k hk).symm)) wle wlt
            rw [e6] at this
            exact this
          · have k7 : τ2.1 107 = τ1.1 107 := by funext j; exact am_stO f2 (by decide)
            have k6 : τ2.1 106 = fun j => if j = b then -((am_oth (R p) (τ.1 107) b 8 - a p) / R p b) else τ.1 106 j := by funext j; rw [am_stR f2, e6]
            have kd : am_dot (R p) (τ2.1 106) 8 = am_dot (R p) (τ.1 106) 8 + R p b * (-((am_oth (R p) (τ.1 107) b 8 - a p) / R p b) - τ.1 106 b) := by rw [k6, am_dot_up b8]
            have kw : am_wd (τ2.1 106) (τ2.1 107) = am_wd (τ1.1 106) (τ1.1 107) + (τ.1 106 b - -((am_oth (R p) (τ.1 107) b 8 - a p) / R p b)) := by rw [k7, k6, am_wd_l b8, e6]
            have := third τ2 1 (f1.tr (am_fx.o1 f2) (by decide) (by decide)) k7 (by rw [am_stO f2 (by decide)]; exact ec) (by
              rw [k7, k6]
              rw [e6] at hI1
              exact am_ps_l hI1 d1) (fun k hk e => by rw [k6]; show (if k = b then _ else τ.1 106 k) = _; rw [if_neg e]) (by rw [k6]; show _ ≤ (if b = b then _ else τ.1 106 b) ∧ (if b = b then _ else τ.1 106 b) ≤ _; rw [if_pos rfl]; omega) (Or.inr rfl) (fun z => absurd z (by decide)) (by omega) (fun _ => by omega)
            rw [kd, k7] at this
            exact this
        refine ⟨fun q => second τ ch hf rfl qc hIt (fun k _ _ => rfl) (by omega) ch01 (fun z => ⟨z, rfl, q⟩) hw1 hw2, fun q τ1 f1 => ?_⟩
        have k6 : τ1.1 106 = τ.1 106 := by funext j; exact am_stO f1 (by decide)
        have k7 : τ1.1 107 = fun j => if j = b then (z p - am_oth (R p) (τ.1 106) b 8) / R p b else τ.1 107 j := by funext j; rw [am_stR f1]
        have kd : am_dot (R p) (τ1.1 107) 8 = am_dot (R p) (τ.1 107) 8 - R p b * (τ.1 107 b - (z p - am_oth (R p) (τ.1 106) b 8) / R p b) := by rw [k7, am_dot_up b8, Int.mul_sub, Int.mul_sub]; omega
        have kw : am_wd (τ1.1 106) (τ1.1 107) = am_wd (τ.1 106) (τ.1 107) + ((z p - am_oth (R p) (τ.1 106) b 8) / R p b - τ.1 107 b) := by rw [k6, k7, am_wd_g b8]
        have := second τ1 1 (hf.tr (am_fx.o1 f1) (by decide) (by decide)) k6 (by rw [am_stO f1 (by decide)]; exact qc) (by rw [k6, k7]; exact am_ps_g hIt u1) (fun k hk e => by rw [k7]; show (if k = b then _ else τ.1 107 k) = _; rw [if_neg e]) (by rw [k7]; show _ ≤ (if b = b then _ else τ.1 107 b) ∧ (if b = b then _ else τ.1 107 b) ≤ _; rw [if_pos rfl]; omega) (Or.inr rfl) (fun z => absurd z (by decide)) (by omega) (fun _ => by omega)
        rw [kd] at this
        exact this
  refine s_Pr_narrow_0 ⟨by omega, ?_⟩
  rw [Int.toNat_natCast]
  refine x_weigh rsh (by decide +kernel) er rfl ⟨_, rfl, rfl, x_weigh rsh (by decide +kernel) er rfl ⟨_, rfl, rfl, loop 8 0 σ 0 (by omega) am_fx.rf hI ?_ (fun _ _ b' hb' => absurd hb' (by omega))⟩⟩
  rw [hc]
  exact ⟨Or.inl rfl, Or.inl rfl, fun z => absurd z (by decide), fun _ => ⟨hB, Int.le_refl _, fun z => absurd z (by decide), fun _ => ⟨fun _ _ => rfl, fun _ _ => rfl⟩⟩⟩
end AMPR
