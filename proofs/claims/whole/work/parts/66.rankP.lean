/-! ===== the model's rank ===== -/
theorem am_q.pw {a b : Int} (h : am_q a b) : ∀ n : Nat, am_q (a ^ n) (b ^ n)
  | 0 => by rw [Int.pow_zero, Int.pow_zero]; exact am_q.rf
  | n + 1 => by rw [Int.pow_succ, Int.pow_succ]; exact (am_q.pw h n).ml h
theorem am_sqp (a : Int) : ∀ n : Nat, (a * a) ^ n = a ^ (2 * n)
  | 0 => by rw [Int.pow_zero, Nat.mul_zero, Int.pow_zero]
  | n + 1 => by rw [Int.pow_succ, am_sqp a n, show 2 * (n + 1) = 2 * n + 1 + 1 by omega, Int.pow_succ, Int.pow_succ, Int.mul_assoc]
theorem am_cmpE {a b : Int} : am_r (am_cmp a b) ∧ (am_cmp a b = 0 ↔ a = b) := by
  unfold am_cmp
  by_cases q : b < a
  · rw [if_pos q]; exact ⟨by decide, by constructor <;> omega⟩
  · rw [if_neg q]
    by_cases q2 : a = b
    · rw [if_pos q2]; exact ⟨by decide, by constructor <;> omega⟩
    · rw [if_neg q2]; exact ⟨by decide, by constructor <;> omega⟩
theorem am_divL_nn {a b : Int} (ha : am_rl a) (hb : am_rl b) (h0 : 0 ≤ a) (h1 : 0 < b) : am_divL a b = a / b := by
  unfold am_divL
  rw [_root_.Jvm.Kit.i64_div (by rw [am_toIntL ha, am_toIntL hb]; omega), am_toIntL ha, am_toIntL hb, Int.tdiv_eq_ediv_of_nonneg h0]
def am_EI (V : (Nat → Int) → Prop) (n b r : Nat) (T : Nat → Nat → Int) : Prop := (∀ i, i < n → am_pr8 (T i)) ∧ (∀ v, V v ↔ am_Sp T n v) ∧ (∀ i, r ≤ i → i < n → ∀ j, j < b → T i j = 0) ∧ ∀ c : Nat → Int, (∀ j, j < b → am_q (am_LC c T n j) 0) → ∀ i, i < r → am_q (c i) 0
theorem am_Sp_eq {T T' : Nat → Nat → Int} {n : Nat} (h1 : ∀ i, i < n → am_Sp T n (T' i)) (h2 : ∀ i, i < n → am_Sp T' n (T i)) (v : Nat → Int) : am_Sp T n v ↔ am_Sp T' n v := ⟨am_Sp_in am_Sp_sm h2 v, am_Sp_in am_Sp_sm h1 v⟩
theorem am_EI_elim {V : (Nat → Int) → Prop} {n b r i : Nat} {T T' : Nat → Nat → Int} {a : Int} (h : am_EI V n b r T) (hb : b ≤ 8) (hr : r < i) (hi : i < n) (hp : am_pr8 (T' i)) (hq : ∀ k, k < 8 → am_q (T' i k) (T i k + a * T r k)) (ho : ∀ i', i' < n → i' ≠ i → ∀ k, k < 8 → T' i' k = T i' k) : am_EI V n b r T' := by
  obtain ⟨h1, h2, h3, h4⟩ := h
  have row : ∀ i', i' < n → i' ≠ i → am_Sp T' n (T i') := fun i' hi' e => am_Sp_sm.2.2 _ _ (am_Sp_row hi') (fun k hk => am_q.eq (ho i' hi' e k hk))
  refine ⟨fun i' hi' => ?_, fun v => (h2 v).trans (am_Sp_eq (fun i' hi' => ?_) (fun i' hi' => ?_) v), fun i' g1 g2 j hj => ?_, fun c hc i' hi' => ?_⟩
  · by_cases e : i' = i
    · rw [e]; exact hp
    · intro k hk; rw [ho i' hi' e k hk]; exact h1 i' hi' k hk
  · by_cases e : i' = i
    · rw [e]
      exact am_Sp_sm.2.2 _ _ (am_Sp_sm.2.1 _ _ a (am_Sp_row hi) (am_Sp_row (show r < n by omega))) (fun k hk => (hq k hk).sy)
    · exact am_Sp_sm.2.2 _ _ (am_Sp_row hi') (fun k hk => am_q.eq (ho i' hi' e k hk).symm)
  · by_cases e : i' = i
    · rw [e]
      refine am_Sp_sm.2.2 _ _ (am_Sp_sm.2.1 _ _ (-a) (am_Sp_row hi) (row r (by omega) (by omega))) (fun k hk => ?_)
      show am_q (T' i k + -a * T r k) (T i k)
      refine ((hq k hk).ad am_q.rf).tr (am_q.eq ?_)
      rw [Int.neg_mul]; omega
    · exact row i' hi' e
  · by_cases e : i' = i
    · rw [e]
      have := hq j (by omega)
      rw [h3 i (by omega) hi j hj, h3 r (Nat.le_refl r) (by omega) j hj, Int.mul_zero] at this
      exact am_q0 this (hp j (by omega)).1 (hp j (by omega)).2
    · rw [ho i' g2 e j (by omega)]; exact h3 i' g1 g2 j hj
  · have key := h4 (fun x => if x = r then c r + a * c i else c x) (fun j hj => by
      have e1 : am_LC c T' n j = am_LC c T n j + c i * (T' i j - T i j) := am_LC_upd hi (fun x hx e => ho x hx e j (by omega))
      have e2 : am_LC (fun x => if x = r then c r + a * c i else c x) T n j = am_LC c T n j + ((if r = r then c r + a * c i else c r) - c r) * T r j := am_LC_updc (r := r) (by omega) (fun x hx e => if_neg e)
      have e3 := hc j hj
      rw [e1] at e3
      rw [e2, if_pos rfl]
      have e4 : am_q (c i * (T' i j - T i j)) (c i * (a * T r j)) := am_q.rf.ml (((hq j (by omega)).sb am_q.rf).tr (am_q.eq (by omega)))
      have z := (am_q.rf (a := am_LC c T n j)).ad e4.sy
      refine (am_q.eq ?_).tr (z.tr e3)
      rw [show c r + a * c i - c r = a * c i by omega, Int.mul_comm a (c i), Int.mul_assoc]) i' hi'
    rw [if_neg (by omega)] at key
    exact key
theorem am_EI_swap {V : (Nat → Int) → Prop} {n b r i : Nat} {T T' : Nat → Nat → Int} (h : am_EI V n b r T) (hb : b ≤ 8) (hr : r ≤ i) (hi : i < n) (h1' : ∀ k, k < 8 → T' r k = T i k) (h2' : ∀ k, k < 8 → T' i k = T r k) (ho : ∀ i', i' < n → i' ≠ i → i' ≠ r → ∀ k, k < 8 → T' i' k = T i' k) : am_EI V n b r T' := by
  obtain ⟨h1, h2, h3, h4⟩ := h
  have hrn : r < n := by omega
  have cases3 : ∀ i', i' = r ∨ i' = i ∨ (i' ≠ i ∧ i' ≠ r) := fun i' => by omega
  refine ⟨fun i' hi' => ?_, fun v => (h2 v).trans (am_Sp_eq (fun i' hi' => ?_) (fun i' hi' => ?_) v), fun i' g1 g2 j hj => ?_, fun c hc i' hi' => ?_⟩
  · intro k hk
    rcases cases3 i' with e | e | e
    · rw [e, h1' k hk]; exact h1 i hi k hk
    · rw [e, h2' k hk]; exact h1 r hrn k hk
    · rw [ho i' hi' e.1 e.2 k hk]; exact h1 i' hi' k hk
  · rcases cases3 i' with e | e | e
    · rw [e]; exact am_Sp_sm.2.2 _ _ (am_Sp_row hi) (fun k hk => am_q.eq (h1' k hk).symm)
    · rw [e]; exact am_Sp_sm.2.2 _ _ (am_Sp_row hrn) (fun k hk => am_q.eq (h2' k hk).symm)
    · exact am_Sp_sm.2.2 _ _ (am_Sp_row hi') (fun k hk => am_q.eq (ho i' hi' e.1 e.2 k hk).symm)
  · rcases cases3 i' with e | e | e
    · rw [e]; exact am_Sp_sm.2.2 _ _ (am_Sp_row hi) (fun k hk => am_q.eq (h2' k hk))
    · rw [e]; exact am_Sp_sm.2.2 _ _ (am_Sp_row hrn) (fun k hk => am_q.eq (h1' k hk))
    · exact am_Sp_sm.2.2 _ _ (am_Sp_row hi') (fun k hk => am_q.eq (ho i' hi' e.1 e.2 k hk))
  · rcases cases3 i' with e | e | e
    · rw [e, h1' j (by omega)]; exact h3 i hr hi j hj
    · rw [e, h2' j (by omega)]; exact h3 r (Nat.le_refl r) hrn j hj
    · rw [ho i' g2 e.1 e.2 j (by omega)]; exact h3 i' g1 g2 j hj
  · by_cases eri : r = i
    · refine h4 c (fun j hj => ?_) i' hi'
      rw [← am_LC_lo (M := T) (M' := T') (fun x hx => by
        rcases cases3 x with e | e | e
        · rw [e, h1' j (by omega), ← eri]
        · rw [e, h2' j (by omega), eri]
        · exact ho x hx e.1 e.2 j (by omega))]
      exact hc j hj
    · have key := h4 (fun x => if x = r then c i else if x = i then c r else c x) (fun j hj => by
        -- both rows in turn
        have e1 : am_LC c T' n j = am_LC c (fun x k => if x = r then T i k else T x k) n j + c i * (T' i j - (if i = r then T i j else T i j)) := am_LC_upd hi (fun x hx e => by
          show T' x j = if x = r then T i j else T x j
          by_cases ex : x = r
          · rw [if_pos ex, ex]; exact h1' j (by omega)
          · rw [if_neg ex]; exact ho x hx e ex j (by omega))
        have e2 : am_LC c (fun x k => if x = r then T i k else T x k) n j = am_LC c T n j + c r * ((if r = r then T i j else T r j) - T r j) := am_LC_upd hrn (fun x hx e => if_neg e)
        have e3 : am_LC (fun x => if x = r then c i else if x = i then c r else c x) T n j = am_LC (fun x => if x = r then c i else c x) T n j + ((if i = r then c i else if i = i then c r else c i) - (if i = r then c i else c i)) * T i j := am_LC_updc hi (fun x hx e => by
          show (if x = r then c i else if x = i then c r else c x) = if x = r then c i else c x
          rw [if_neg e])
        have e4 : am_LC (fun x => if x = r then c i else c x) T n j = am_LC c T n j + ((if r = r then c i else c r) - c r) * T r j := am_LC_updc hrn (fun x hx e => if_neg e)
        have e5 := hc j hj
        rw [e1, e2, h2' j (by omega), if_pos rfl, if_neg (fun z => eri z.symm)] at e5
        rw [e3, e4, if_pos rfl, if_pos rfl, if_neg (fun z => eri z.symm), if_neg (fun z => eri z.symm)]
        refine am_q.tr (am_q.eq ?_) e5
        rw [Int.mul_sub, Int.mul_sub, Int.sub_mul, Int.sub_mul]; omega) i' hi'
      rw [if_neg (by omega), if_neg (by omega)] at key
      exact key
theorem am_EI_fin {V : (Nat → Int) → Prop} {n b r : Nat} {T : Nat → Nat → Int} (h : am_EI V n b r T) (hb : b < 8) (hr : r < n) (hn : T r b ≠ 0) (hz : ∀ i, r < i → i < n → T i b = 0) : am_EI V n (b + 1) (r + 1) T ∧ am_Ld V b := by
  obtain ⟨h1, h2, h3, h4⟩ := h
  have nq := am_nq (h1 r hr b hb).1 (h1 r hr b hb).2 hn
  refine ⟨⟨h1, h2, fun i g1 g2 j hj => ?_, fun c hc i hi => ?_⟩, T r, (h2 _).mpr (am_Sp_row hr), nq, fun j hj => am_q.eq (h3 r (Nat.le_refl r) hr j hj)⟩
  · by_cases e : j = b
    · rw [e]; exact hz i (by omega) g2
    · exact h3 i (by omega) g2 j (by omega)
  · have low := h4 c (fun j hj => hc j (by omega))
    by_cases e : i = r
    · rw [e]
      have k1 := am_LC_one (c := c) (M := T) (k := b) hr (fun i' hi' e' => by
        rcases Nat.lt_or_ge i' r with g | g
        · left; exact low i' g
        · right; exact am_q.eq (hz i' (by omega) hi'))
      rcases am_qz (k1.sy.tr (hc b (by omega))) with z | z
      · exact z
      · exact absurd z nq
    · exact low i (by omega)
theorem am_EI_none {V : (Nat → Int) → Prop} {n b r : Nat} {T : Nat → Nat → Int} (h : am_EI V n b r T) (hb : b < 8) (hz : ∀ i, r ≤ i → i < n → T i b = 0) : am_EI V n (b + 1) r T ∧ ¬ am_Ld V b := by
  obtain ⟨h1, h2, h3, h4⟩ := h
  refine ⟨⟨h1, h2, fun i g1 g2 j hj => ?_, fun c hc i hi => h4 c (fun j hj => hc j (by omega)) i hi⟩, ?_⟩
  · by_cases e : j = b
    · rw [e]; exact hz i g1 g2
    · exact h3 i g1 g2 j (by omega)
  · rintro ⟨v, v1, v2, v3⟩
    obtain ⟨c, hc⟩ := (h2 v).mp v1
    have low := h4 c (fun j hj => (hc j (by omega)).tr (v3 j hj))
    apply v2
    refine (hc b hb).sy.tr (am_LC_z (fun i hi => ?_))
    rcases Nat.lt_or_ge i r with g | g
    · left; exact low i g
    · right; exact am_q.eq (hz i g hi)
