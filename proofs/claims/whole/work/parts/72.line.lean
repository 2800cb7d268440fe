/-! ===== a time is the least of straight lines in the price of a block ===== -/
def am_Ln (D : Int → Int) : Prop := ∀ q, 1 ≤ q → q ≤ 180 → ∃ al be : Int, D q = al + be * q ∧ ∀ q', 1 ≤ q' → q' ≤ 180 → D q' ≤ al + be * q'
theorem am_str {D : Int → Int} {q1 q2 q3 : Int} (hL : am_Ln D) (h1 : 1 ≤ q1) (h2 : q1 < q2) (h3 : q2 < q3) (h4 : q3 ≤ 180) (hs : (D q2 - D q1) * (q3 - q1) = (D q3 - D q1) * (q2 - q1)) : ∃ be : Int, D q3 - D q1 = be * (q3 - q1) ∧ ∀ q, q1 ≤ q → q ≤ q3 → D q = D q1 + be * (q - q1) := by
  obtain ⟨al, be, e2, le⟩ := hL q2 (by omega) (by omega)
  have l1 := le q1 h1 (by omega)
  have l3 := le q3 (by omega) h4
  obtain ⟨A, hA⟩ : ∃ A, A = q2 - q1 := ⟨_, rfl⟩
  obtain ⟨B, hB⟩ : ∃ B, B = q3 - q2 := ⟨_, rfl⟩
  obtain ⟨x1, hx1⟩ : ∃ x1, x1 = al + be * q1 - D q1 := ⟨_, rfl⟩
  obtain ⟨x3, hx3⟩ : ∃ x3, x3 = al + be * q3 - D q3 := ⟨_, rfl⟩
  have m1 : be * A = be * q2 - be * q1 := by rw [hA, Int.mul_sub]
  have m2 : be * B = be * q3 - be * q2 := by rw [hB, Int.mul_sub]
  have f1 : D q2 - D q1 = be * A + x1 := by omega
  have f2 : D q3 - D q1 = be * A + be * B + x1 - x3 := by omega
  have f3 : q3 - q1 = A + B := by omega
  rw [f1, f2, f3, ← hA, Int.add_mul, Int.mul_add, Int.mul_add, Int.sub_mul, Int.add_mul, Int.add_mul, Int.mul_right_comm be B A] at hs
  have n1 : 0 ≤ x1 * B := Int.mul_nonneg (by omega) (by omega)
  have n3 : 0 ≤ x3 * A := Int.mul_nonneg (by omega) (by omega)
  have z1 : x1 * B = 0 := by omega
  have z3 : x3 * A = 0 := by omega
  have x10 : x1 = 0 := by rcases Int.mul_eq_zero.mp z1 with z | z; exact z; omega
  have x30 : x3 = 0 := by rcases Int.mul_eq_zero.mp z3 with z | z; exact z; omega
  refine ⟨be, by rw [Int.mul_sub]; omega, fun q g1 g2 => ?_⟩
  have up := le q (by omega) (by omega)
  obtain ⟨al', be', e', le'⟩ := hL q (by omega) (by omega)
  have k1 := le' q1 h1 (by omega)
  have k3 := le' q3 (by omega) h4
  rw [Int.mul_sub]
  rcases Int.lt_or_le be be' with y | y
  · have := Int.mul_nonneg (show 0 ≤ be' - be by omega) (show 0 ≤ q - q1 by omega)
    rw [Int.sub_mul, Int.mul_sub, Int.mul_sub] at this
    omega
  · have := Int.mul_nonneg (show 0 ≤ be - be' by omega) (show 0 ≤ q3 - q by omega)
    rw [Int.sub_mul, Int.mul_sub, Int.mul_sub] at this
    omega
/-- the cost where the cells of a set have the price q -/
def am_cq (de : Nat → Bool) (g : Nat → Int) (q : Int) (x : Nat) : Int := if de x then q else g x
theorem am_cq_ln {w h : Nat} {de : Nat → Bool} {g : Nat → Int} {f b : Nat} (hw : 2 ≤ w ∧ w ≤ 4 ∧ 2 ≤ h ∧ h ≤ 4) (hg : ∀ x, x < w * h → 1 ≤ g x ∧ g x ≤ 180) (hf : f < w * h) (hb : b < w * h) : am_Ln (fun q => am_dst w h (am_cq de g q) f b) := by
  intro q q1 q2
  have hc : ∀ q, 1 ≤ q → q ≤ 180 → ∀ x, x < w * h → 1 ≤ am_cq de g q x ∧ am_cq de g q x ≤ 180 := fun q q1 q2 x hx => by
    unfold am_cq; split
    · exact ⟨q1, q2⟩
    · exact hg x hx
  have hD := fun q q1 q2 => am_dst_is hw (hc q q1 q2) hf
  have lin : ∀ x, ∃ al be : Int, ∀ q, am_cq de g q x = al + be * q := fun x => by
    by_cases e : de x = true
    · exact ⟨0, 1, fun q => by unfold am_cq; rw [if_pos e]; omega⟩
    · exact ⟨g x, 0, fun q => by unfold am_cq; rw [if_neg e]; omega⟩
  have main : ∀ (N b : Nat), b < w * h → am_dst w h (am_cq de g q) f b ≤ (N : Int) → ∃ al be : Int, am_dst w h (am_cq de g q) f b = al + be * q ∧ ∀ q', 1 ≤ q' → q' ≤ 180 → am_dst w h (am_cq de g q') f b ≤ al + be * q' := by
    intro N
    induction N with
    | zero =>
      intro b hb hN
      by_cases e : b = f
      · subst e
        exact ⟨0, 0, by rw [(hD q q1 q2).2.1]; omega, fun q' a1 a2 => by rw [(hD q' a1 a2).2.1]; omega⟩
      · obtain ⟨a, ha, he⟩ := (hD q q1 q2).2.2.2.2 b hb e
        have := (hD q q1 q2).2.2.1 a ha.1
        have := hc q q1 q2 a ha.1
        have := hc q q1 q2 b hb
        omega
    | succ N ih =>
      intro b hb hN
      by_cases e : b = f
      · subst e
        exact ⟨0, 0, by rw [(hD q q1 q2).2.1]; omega, fun q' a1 a2 => by rw [(hD q' a1 a2).2.1]; omega⟩
      · obtain ⟨a, ha, he⟩ := (hD q q1 q2).2.2.2.2 b hb e
        have c1 := hc q q1 q2 a ha.1
        have c2 := hc q q1 q2 b hb
        obtain ⟨al, be, k1, k2⟩ := ih a ha.1 (by omega)
        obtain ⟨a1, b1, l1⟩ := lin a
        obtain ⟨a2, b2, l2⟩ := lin b
        refine ⟨al + a1 + a2, be + b1 + b2, ?_, fun q' g1 g2 => ?_⟩
        · rw [he, k1, l1, l2, Int.add_mul, Int.add_mul]; omega
        · have t := (hD q' g1 g2).2.2.2.1 a b ha
          have := k2 q' g1 g2
          rw [l1, l2] at t
          rw [Int.add_mul, Int.add_mul]; omega
  have nn := (hD q q1 q2).2.2.1 b hb
  exact main (am_dst w h (am_cq de g q) f b).toNat b hb (by omega)
theorem am_pr_lt {r v v' k : Int} (hr : 10 ≤ r ∧ r ≤ 30) (hv : 1 ≤ v) (hl : v < v') : am_pr r v k < am_pr r v' k := by
  unfold am_pr
  by_cases q : k = 0
  · rw [if_pos q, if_pos q]; exact hl
  · rw [if_neg q, if_neg q]
    have h1 : (v + 1) * r ≤ v' * r := Int.mul_le_mul_of_nonneg_right (by omega) (by omega)
    rw [Int.add_mul, Int.one_mul] at h1
    omega
/-- the numbers with one block's slowness set -/
abbrev am_sv (s : Nat → Nat → Int) (b : Nat) (v : Int) : Nat → Nat → Int := am_up s 2 b v
theorem am_sv_o {s : Nat → Nat → Int} {b : Nat} {v : Int} {r j : Nat} (h : r ≠ 2) : am_sv s b v r j = s r j := by show am_up s 2 b v r j = _; rw [am_up_o h]
theorem am_sv_2 {s : Nat → Nat → Int} {b : Nat} {v : Int} {j : Nat} : am_sv s b v 2 j = if j = b then v else s 2 j := by show am_up s 2 b v 2 j = _; rw [am_up_row]
theorem am_sv_sv {s : Nat → Nat → Int} {b : Nat} {u v : Int} : am_sv (am_sv s b u) b v = am_sv s b v := by
  funext r j
  by_cases e : r = 2
  · subst e
    rw [am_sv_2, am_sv_2, am_sv_2]
    by_cases e2 : j = b
    · rw [if_pos e2, if_pos e2]
    · rw [if_neg e2, if_neg e2, if_neg e2]
  · rw [am_sv_o e, am_sv_o e, am_sv_o e]
theorem am_sv_id {s : Nat → Nat → Int} {b : Nat} : am_sv s b (s 2 b) = s := by
  funext r j
  by_cases e : r = 2
  · subst e
    rw [am_sv_2]
    by_cases e2 : j = b
    · rw [if_pos e2, e2]
    · rw [if_neg e2]
  · rw [am_sv_o e]
theorem am_OK_row2 {w h : Nat} {s s' : Nat → Nat → Int} (hO : am_OK w h s) (hs : ∀ r j, r ≠ 2 → s' r j = s r j) (h2 : ∀ b, b < 8 → 1 ≤ s' 2 b ∧ s' 2 b ≤ 60) : am_OK w h s' := by
  have e : ∀ r j, r ≠ 2 → s' r j = s r j := hs
  obtain ⟨o1, o2, o3, o4, o5, o6, o7, o8, o9, o10, o11, o12, o13, o14, o15, o16, o17, o18, o19⟩ := hO
  unfold am_OK
  simp only [e 0 _ (by decide), e 1 _ (by decide), e 3 _ (by decide), e 4 _ (by decide), e 5 _ (by decide), e 6 _ (by decide), e 7 _ (by decide), e 8 _ (by decide), e 9 _ (by decide), e 10 _ (by decide), e 11 _ (by decide), e 12 _ (by decide), e 13 _ (by decide), e 14 _ (by decide)]
  exact ⟨o1, o2, o3, o4, o5, o6, o7, o8, o9, h2, o11, o12, o13, o14, o15, o16, o17, o18, o19⟩
theorem am_OK_sv {w h : Nat} {s : Nat → Nat → Int} (hO : am_OK w h s) {b : Nat} {v : Int} (hv : 1 ≤ v ∧ v ≤ 60) : am_OK w h (am_sv s b v) := am_OK_row2 hO (fun r j hr => am_sv_o hr) (fun j hj => by
  rw [am_sv_2]
  by_cases e : j = b
  · rw [if_pos e]; exact hv
  · rw [if_neg e]; exact hO.2.2.2.2.2.2.2.2.2.1 j hj)
theorem am_cost_sv {s : Nat → Nat → Int} {b : Nat} {v k : Int} : am_cost (am_sv s b v) k = am_cq (fun x => decide ((s 1 x).toNat = b)) (am_cost s k) (am_pr (s 0 0) v k) := by
  funext x
  unfold am_cost am_cq
  rw [am_sv_o (r := 0) (by decide), am_sv_o (r := 1) (by decide), am_sv_2]
  by_cases e : (s 1 x).toNat = b
  · rw [if_pos e, if_pos (by simpa using e)]
  · rw [if_neg e, if_neg (by simpa using e)]
noncomputable def am_Dv (w h : Nat) (s : Nat → Nat → Int) (b : Nat) (k : Int) (f to : Nat) (v : Int) : Int := am_dst w h (am_cost (am_sv s b v) k) f to
/-- where the middle lies on the line between two ends, all between does -/
theorem am_Dv_str {w h : Nat} {s : Nat → Nat → Int} (hO : am_OK w h s) {b : Nat} {k : Int} {f to : Nat} (hf : f < w * h) (ht : to < w * h) {l m r : Int} (h1 : 1 ≤ l) (h2 : l < m) (h3 : m < r) (h4 : r ≤ 60)
    (hs : (am_Dv w h s b k f to m - am_Dv w h s b k f to l) * (am_pr (s 0 0) r k - am_pr (s 0 0) l k) = (am_Dv w h s b k f to r - am_Dv w h s b k f to l) * (am_pr (s 0 0) m k - am_pr (s 0 0) l k)) :
    ∀ v, l < v → v < r → am_Dv w h s b k f to v = am_Dv w h s b k f to l + am_div (am_Dv w h s b k f to r - am_Dv w h s b k f to l) (am_pr (s 0 0) r k - am_pr (s 0 0) l k) * (am_pr (s 0 0) v k - am_pr (s 0 0) l k) := by
  intro v v1 v2
  have hr := hO.2.1
  have p1 := am_pr_b (k := k) hr (show 1 ≤ l ∧ l ≤ 60 by omega)
  have p3 := am_pr_b (k := k) hr (show 1 ≤ r ∧ r ≤ 60 by omega)
  have a1 := am_pr_lt (k := k) hr h1 h2
  have a2 := am_pr_lt (k := k) hr (show 1 ≤ m by omega) h3
  have a3 := am_pr_lt (k := k) hr h1 v1
  have a4 := am_pr_lt (k := k) hr (show 1 ≤ v by omega) v2
  have bd : ∀ u, 1 ≤ u → u ≤ 60 → 0 ≤ am_Dv w h s b k f to u ∧ am_Dv w h s b k f to u ≤ 2160 := fun u u1 u2 => am_dst_b (am_OK_sv hO ⟨u1, u2⟩) hf ht
  have d1 := bd l (by omega) (by omega)
  have d3 := bd r (by omega) (by omega)
  have e : ∀ u, am_Dv w h s b k f to u = am_dst w h (am_cq (fun x => decide ((s 1 x).toNat = b)) (am_cost s k) (am_pr (s 0 0) u k)) f to := fun u => by unfold am_Dv; rw [am_cost_sv]
  have hL : am_Ln (fun q => am_dst w h (am_cq (fun x => decide ((s 1 x).toNat = b)) (am_cost s k) q) f to) := am_cq_ln hO.1 (fun x hx => am_cost_b hO hx) hf ht
  rw [e m, e l, e r] at hs
  obtain ⟨be, k1, k2⟩ := am_str hL p1.1 a1 a2 p3.2 hs
  rw [← e r, ← e l] at k1
  have k3 := k2 (am_pr (s 0 0) v k) (by omega) (by omega)
  rw [← e v, ← e l] at k3
  rw [k3, am_div_t (by omega) (by omega) (by omega), k1, Int.mul_tdiv_cancel _ (by omega)]
