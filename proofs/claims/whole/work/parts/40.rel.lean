/-! ===== what both sides hold: one table of numbers s, w by h cells ===== -/
/-- R: (cell, row of s, length); S: (cell, place, place in row 0 of s) -/
def am_rel (R S : List (Nat × Nat × Nat)) (s : Nat → Nat → Int) (σ : am_St) : Prop := (∀ q ∈ R, ∀ j, j < q.2.2 → σ.1 q.1 j = s q.2.1 j) ∧ ∀ q ∈ S, σ.1 q.1 q.2.1 = s 0 q.2.2
def am_okR (R S : List (Nat × Nat × Nat)) (k r : Nat) : Bool := R.all (fun q => (q.1 == k) == (q.2.1 == r)) && (S.all (fun q => !(q.1 == k)) && !(r == 0))
def am_okS (R S : List (Nat × Nat × Nat)) (k j i : Nat) : Bool := R.all (fun q => !(q.1 == k) && !(q.2.1 == 0)) && S.all (fun q => (q.1 == k && q.2.1 == j) == (q.2.2 == i))
theorem am_rel.row {R S : List (Nat × Nat × Nat)} {s : Nat → Nat → Int} {σ : am_St} {k r n : Nat} {v : Int} (h : am_rel R S s σ) (hk : am_okR R S k r = true) : am_rel R S (am_up s r n v) (am_up σ.1 k n v, σ.2) := by
  simp only [am_okR, Bool.and_eq_true, List.all_eq_true, Bool.not_eq_true', beq_eq_false_iff_ne, beq_iff_eq] at hk
  obtain ⟨h1, h2, h3⟩ := hk
  refine ⟨fun q hq j hj => ?_, fun q hq => ?_⟩
  · have e := h1 q hq
    have h0 := h.1 q hq j hj
    show am_up σ.1 k n v q.1 j = am_up s r n v q.2.1 j
    unfold am_up
    by_cases e1 : q.1 = k
    · have e2 : q.2.1 = r := by simpa [e1] using e.symm
      rw [e1, e2] at h0
      rw [if_pos e1, if_pos e2]
      by_cases e3 : j = n
      · rw [if_pos e3, if_pos e3]
      · rw [if_neg e3, if_neg e3]; exact h0
    · have e2 : ¬ q.2.1 = r := fun z => e1 (by rw [beq_iff_eq.mpr z] at e; exact beq_iff_eq.mp e)
      rw [if_neg e1, if_neg e2]
      exact h0
  · show am_up σ.1 k n v q.1 q.2.1 = am_up s r n v 0 q.2.2
    rw [am_up_o (h2 q hq), am_up_o (fun e => h3 e.symm)]
    exact h.2 q hq
theorem am_rel.sc {R S : List (Nat × Nat × Nat)} {s : Nat → Nat → Int} {σ : am_St} {k j i : Nat} {v : Int} (h : am_rel R S s σ) (hk : am_okS R S k j i = true) : am_rel R S (am_up s 0 i v) (am_up σ.1 k j v, σ.2) := by
  simp only [am_okS, Bool.and_eq_true, List.all_eq_true, Bool.not_eq_true', beq_eq_false_iff_ne, beq_iff_eq] at hk
  obtain ⟨h1, h2⟩ := hk
  refine ⟨fun q hq j' hj => ?_, fun q hq => ?_⟩
  · show am_up σ.1 k j v q.1 j' = am_up s 0 i v q.2.1 j'
    rw [am_up_o (h1 q hq).1, am_up_o (h1 q hq).2]
    exact h.1 q hq j' hj
  · have e := h2 q hq
    have h0 := h.2 q hq
    show am_up σ.1 k j v q.1 q.2.1 = am_up s 0 i v 0 q.2.2
    unfold am_up
    rw [if_pos rfl]
    by_cases e1 : q.1 = k
    · by_cases e2 : q.2.1 = j
      · have e3 : q.2.2 = i := by simpa [e1, e2] using e.symm
        rw [if_pos e1, if_pos e2, if_pos e3]
      · have e3 : ¬ q.2.2 = i := fun z => e2 (by rw [beq_iff_eq.mpr z] at e; exact beq_iff_eq.mp (Bool.and_eq_true_iff.mp e).2)
        rw [if_pos e1, if_neg e2, if_neg e3, ← e1]
        exact h0
    · have e3 : ¬ q.2.2 = i := fun z => e1 (by rw [beq_iff_eq.mpr z] at e; exact beq_iff_eq.mp (Bool.and_eq_true_iff.mp e).1)
      rw [if_neg e1, if_neg e3]
      exact h0
/-- only the cells ks and the places ps (and longs) may have changed -/
def am_fx (ks : List Nat) (ps : List (Nat × Nat)) (σ σ' : am_St) : Prop := ∀ k j, k ∉ ks → (k, j) ∉ ps → σ'.1 k j = σ.1 k j
theorem am_fx.rf {ks : List Nat} {ps : List (Nat × Nat)} {σ : am_St} : am_fx ks ps σ σ := fun _ _ _ _ => rfl
theorem am_fx.tr {ks ks' ks2 : List Nat} {ps ps' ps2 : List (Nat × Nat)} {σ σ1 σ2 : am_St} (h : am_fx ks ps σ σ1) (h' : am_fx ks' ps' σ1 σ2) (hk : (ks.all (fun k => ks2.contains k) && ks'.all (fun k => ks2.contains k)) = true) (hp : (ps.all (fun p => ps2.contains p) && ps'.all (fun p => ps2.contains p)) = true) : am_fx ks2 ps2 σ σ2 := by
  simp only [Bool.and_eq_true, List.all_eq_true, List.contains_iff_mem] at hk hp
  intro k j h1 h2
  rw [h' k j (fun q => h1 (hk.2 k q)) (fun q => h2 (hp.2 _ q)), h k j (fun q => h1 (hk.1 k q)) (fun q => h2 (hp.1 _ q))]
theorem am_fx.up {k j : Nat} {v : Int} {σ : am_St} : am_fx [k] [] σ (am_up σ.1 k j v, σ.2) := fun k' j' h1 _ => by
  show am_up σ.1 k j v k' j' = _
  rw [am_up_o (by simpa using h1)]
theorem am_fx.upp {k j : Nat} {v : Int} {σ : am_St} : am_fx [] [(k, j)] σ (am_up σ.1 k j v, σ.2) := fun k' j' _ h2 => by
  show am_up σ.1 k j v k' j' = _
  unfold am_up
  by_cases e : k' = k
  · subst e
    have e2 : ¬ j' = j := fun e2 => h2 (by simp [e2])
    rw [if_pos rfl, if_neg e2]
  · rw [if_neg e]
def am_okF (R S : List (Nat × Nat × Nat)) (ks : List Nat) (ps : List (Nat × Nat)) : Bool := R.all (fun q => !ks.contains q.1 && ps.all (fun p => !(p.1 == q.1))) && S.all (fun q => !ks.contains q.1 && !ps.contains (q.1, q.2.1))
theorem am_rel.fx {R S : List (Nat × Nat × Nat)} {s : Nat → Nat → Int} {σ σ' : am_St} {ks : List Nat} {ps : List (Nat × Nat)} (h : am_rel R S s σ) (hf : am_fx ks ps σ σ') (hk : am_okF R S ks ps = true) : am_rel R S s σ' := by
  simp only [am_okF, Bool.and_eq_true, List.all_eq_true, Bool.not_eq_true', beq_eq_false_iff_ne] at hk
  obtain ⟨h1, h2⟩ := hk
  refine ⟨fun q hq j hj => ?_, fun q hq => ?_⟩
  · rw [hf q.1 j (fun e => by have := (h1 q hq).1; rw [List.contains_iff_mem.mpr e] at this; cases this) (fun e => (h1 q hq).2 _ e rfl)]
    exact h.1 q hq j hj
  · rw [hf q.1 q.2.1 (fun e => by have := (h2 q hq).1; rw [List.contains_iff_mem.mpr e] at this; cases this) (fun e => by have := (h2 q hq).2; rw [List.contains_iff_mem.mpr e] at this; cases this)]
    exact h.2 q hq
/-! the two sides' tables. s: row 0: ratio, day, ears, shakes, picks, tellings, bytes; 1 block of a cell, 2 slow of a block, 3 ear's cell, 4 clock, 5 shake's cell, 6 begun, 7 pick's ear, 8 shake, 9 kind, 10 telling's pick, 11 day, 12 lo, 13 hi, 14 text -/
def am_XR : List (Nat × Nat × Nat) := [(2, 1, 16), (3, 2, 8), (9, 3, 6), (10, 4, 6), (11, 5, 5), (12, 6, 5), (13, 7, 12), (14, 8, 12), (15, 9, 12), (16, 10, 40), (17, 11, 40), (18, 12, 40), (19, 13, 40), (138, 14, 160)]
def am_XS : List (Nat × Nat × Nat) := [(1, 1, 0), (8, 15, 1), (8, 0, 2), (8, 3, 3), (8, 6, 4), (8, 10, 5), (137, 3, 6)]
def am_MR : List (Nat × Nat × Nat) := [(148, 1, 16), (149, 2, 8), (150, 3, 6), (151, 4, 6), (152, 5, 5), (153, 6, 5), (154, 7, 12), (155, 8, 12), (156, 9, 12), (157, 10, 40), (158, 11, 40), (159, 12, 40), (160, 13, 40), (171, 14, 160)]
def am_MS : List (Nat × Nat × Nat) := [(147, 4, 0), (147, 20, 1), (147, 5, 2), (147, 8, 3), (147, 11, 4), (147, 15, 5), (147, 31, 6)]
def am_RX (w h : Nat) (s : Nat → Nat → Int) (σ : am_St) : Prop := am_rel am_XR am_XS s σ ∧ σ.1 1 0 = ((w * h : Nat) : Int) ∧ ∀ c i, c < w * h → i < 4 → σ.1 4 (4 * c + i) = am_bs w h c i
def am_RM (w h : Nat) (s : Nat → Nat → Int) (σ : am_St) : Prop := am_rel am_MR am_MS s σ ∧ σ.1 147 0 = (w : Int) ∧ σ.1 147 1 = (h : Int)
theorem am_RX.fx {w h : Nat} {s : Nat → Nat → Int} {σ σ' : am_St} {ks : List Nat} {ps : List (Nat × Nat)} (hr : am_RX w h s σ) (hf : am_fx ks ps σ σ') (hk : (am_okF am_XR am_XS ks ps && (!ks.contains 1 && (!ks.contains 4 && (!ps.contains (1, 0) && ps.all (fun p => !(p.1 == 4)))))) = true) : am_RX w h s σ' := by
  simp only [Bool.and_eq_true, Bool.not_eq_true', List.all_eq_true, beq_eq_false_iff_ne] at hk
  obtain ⟨k0, k1, k2, k3, k4⟩ := hk
  have nc : ∀ {k : Nat}, ks.contains k = false → k ∉ ks := fun h e => by rw [List.contains_iff_mem.mpr e] at h; cases h
  refine ⟨hr.1.fx hf k0, ?_, fun c i hc hi => ?_⟩
  · rw [hf 1 0 (nc k1) (fun e => by rw [List.contains_iff_mem.mpr e] at k3; cases k3)]; exact hr.2.1
  · rw [hf 4 _ (nc k2) (fun e => k4 _ e rfl)]; exact hr.2.2 c i hc hi
theorem am_RM.fx {w h : Nat} {s : Nat → Nat → Int} {σ σ' : am_St} {ks : List Nat} {ps : List (Nat × Nat)} (hr : am_RM w h s σ) (hf : am_fx ks ps σ σ') (hk : (am_okF am_MR am_MS ks ps && (!ks.contains 147 && (!ps.contains (147, 0) && !ps.contains (147, 1)))) = true) : am_RM w h s σ' := by
  simp only [Bool.and_eq_true, Bool.not_eq_true'] at hk
  obtain ⟨k0, k1, k2, k3⟩ := hk
  have nc : ∀ {k : Nat}, ks.contains k = false → k ∉ ks := fun h e => by rw [List.contains_iff_mem.mpr e] at h; cases h
  refine ⟨hr.1.fx hf k0, ?_, ?_⟩
  · rw [hf 147 0 (nc k1) (fun e => by rw [List.contains_iff_mem.mpr e] at k2; cases k2)]; exact hr.2.1
  · rw [hf 147 1 (nc k1) (fun e => by rw [List.contains_iff_mem.mpr e] at k3; cases k3)]; exact hr.2.2
theorem am_RX.row {w h : Nat} {s : Nat → Nat → Int} {σ : am_St} {k r n : Nat} {v : Int} (hr : am_RX w h s σ) (hk : (am_okR am_XR am_XS k r && (!(k == 1) && !(k == 4))) = true) : am_RX w h (am_up s r n v) (am_up σ.1 k n v, σ.2) := by
  simp only [Bool.and_eq_true, Bool.not_eq_true', beq_eq_false_iff_ne] at hk
  refine ⟨hr.1.row hk.1, ?_, fun c i hc hi => ?_⟩
  · show am_up σ.1 k n v 1 0 = _
    rw [am_up_o (fun e => hk.2.1 e.symm)]; exact hr.2.1
  · show am_up σ.1 k n v 4 _ = _
    rw [am_up_o (fun e => hk.2.2 e.symm)]; exact hr.2.2 c i hc hi
theorem am_RX.sc {w h : Nat} {s : Nat → Nat → Int} {σ : am_St} {k j i : Nat} {v : Int} (hr : am_RX w h s σ) (hk : (am_okS am_XR am_XS k j i && (!(k == 1 && j == 0) && !(k == 4))) = true) : am_RX w h (am_up s 0 i v) (am_up σ.1 k j v, σ.2) := by
  simp only [Bool.and_eq_true, Bool.not_eq_true', beq_eq_false_iff_ne, Bool.and_eq_false_iff] at hk
  refine ⟨hr.1.sc hk.1, ?_, fun c i hc hi => ?_⟩
  · show am_up σ.1 k j v 1 0 = _
    unfold am_up
    by_cases e : (1 : Nat) = k
    · rw [if_pos e]
      by_cases e2 : (0 : Nat) = j
      · rcases hk.2.1 with q | q
        · exact absurd e.symm q
        · exact absurd e2.symm q
      · rw [if_neg e2, ← e]; exact hr.2.1
    · rw [if_neg e]; exact hr.2.1
  · show am_up σ.1 k j v 4 _ = _
    rw [am_up_o (fun e => hk.2.2 e.symm)]; exact hr.2.2 c i hc hi
theorem am_RM.row {w h : Nat} {s : Nat → Nat → Int} {σ : am_St} {k r n : Nat} {v : Int} (hr : am_RM w h s σ) (hk : (am_okR am_MR am_MS k r && !(k == 147)) = true) : am_RM w h (am_up s r n v) (am_up σ.1 k n v, σ.2) := by
  simp only [Bool.and_eq_true, Bool.not_eq_true', beq_eq_false_iff_ne] at hk
  refine ⟨hr.1.row hk.1, ?_, ?_⟩
  · show am_up σ.1 k n v 147 0 = _
    rw [am_up_o (fun e => hk.2 e.symm)]; exact hr.2.1
  · show am_up σ.1 k n v 147 1 = _
    rw [am_up_o (fun e => hk.2 e.symm)]; exact hr.2.2
theorem am_RM.sc {w h : Nat} {s : Nat → Nat → Int} {σ : am_St} {k j i : Nat} {v : Int} (hr : am_RM w h s σ) (hk : (am_okS am_MR am_MS k j i && (!(j == 0) && !(j == 1))) = true) : am_RM w h (am_up s 0 i v) (am_up σ.1 k j v, σ.2) := by
  simp only [Bool.and_eq_true, Bool.not_eq_true', beq_eq_false_iff_ne] at hk
  have e : ∀ j', j' ≠ j → am_up σ.1 k j v 147 j' = σ.1 147 j' := fun j' hj => by
    unfold am_up
    by_cases e : (147 : Nat) = k
    · rw [if_pos e, if_neg hj, e]
    · rw [if_neg e]
  refine ⟨hr.1.sc hk.1, ?_, ?_⟩
  · show am_up σ.1 k j v 147 0 = _
    rw [e 0 (fun q => hk.2.1 q.symm)]; exact hr.2.1
  · show am_up σ.1 k j v 147 1 = _
    rw [e 1 (fun q => hk.2.2 q.symm)]; exact hr.2.2
/-- reading -/
theorem am_rel.at {R S : List (Nat × Nat × Nat)} {s : Nat → Nat → Int} {σ : am_St} (h : am_rel R S s σ) (k r n : Nat) (hm : (k, r, n) ∈ R) {j : Nat} (hj : j < n) : σ.1 k j = s r j := h.1 _ hm j hj
theorem am_rel.as {R S : List (Nat × Nat × Nat)} {s : Nat → Nat → Int} {σ : am_St} (h : am_rel R S s σ) (k j i : Nat) (hm : (k, j, i) ∈ S) : σ.1 k j = s 0 i := h.2 _ hm
/-- the numbers are in their bounds -/
def am_OK (w h : Nat) (s : Nat → Nat → Int) : Prop :=
  (2 ≤ w ∧ w ≤ 4 ∧ 2 ≤ h ∧ h ≤ 4) ∧ (10 ≤ s 0 0 ∧ s 0 0 ≤ 30) ∧ (0 ≤ s 0 1 ∧ s 0 1 ≤ 500) ∧ (0 ≤ s 0 2 ∧ s 0 2 ≤ 6) ∧ (0 ≤ s 0 3 ∧ s 0 3 ≤ 5) ∧ (0 ≤ s 0 4 ∧ s 0 4 ≤ 12) ∧ (0 ≤ s 0 5 ∧ s 0 5 ≤ 40) ∧ (0 ≤ s 0 6 ∧ s 0 6 ≤ 160) ∧
  (∀ c, c < 16 → 0 ≤ s 1 c ∧ s 1 c ≤ 7) ∧ (∀ b, b < 8 → 1 ≤ s 2 b ∧ s 2 b ≤ 60) ∧
  (∀ e : Nat, (e : Int) < s 0 2 → 0 ≤ s 3 e ∧ s 3 e < ((w * h : Nat) : Int)) ∧ (∀ e, e < 6 → -99 ≤ s 4 e ∧ s 4 e ≤ 99) ∧
  (∀ k : Nat, (k : Int) < s 0 3 → 0 ≤ s 5 k ∧ s 5 k < ((w * h : Nat) : Int)) ∧ (∀ k, k < 5 → 0 ≤ s 6 k ∧ s 6 k ≤ 1000) ∧
  (∀ p : Nat, (p : Int) < s 0 4 → (0 ≤ s 7 p ∧ s 7 p < s 0 2) ∧ (0 ≤ s 8 p ∧ s 8 p < s 0 3) ∧ (s 9 p = 0 ∨ s 9 p = 1)) ∧
  (∀ t : Nat, (t : Int) < s 0 5 → (0 ≤ s 10 t ∧ s 10 t < s 0 4) ∧ (0 ≤ s 11 t ∧ s 11 t ≤ s 0 1) ∧ (0 ≤ s 12 t ∧ s 12 t ≤ s 13 t ∧ s 13 t ≤ 3000)) ∧
  (∀ t u : Nat, t < u → (u : Int) < s 0 5 → s 11 t ≤ s 11 u) ∧
  (∀ p : Nat, (p : Int) < s 0 4 → ∃ t : Nat, (t : Int) < s 0 5 ∧ s 10 t = (p : Int)) ∧
  (∀ j : Nat, (j : Int) < s 0 6 → 0 ≤ s 14 j ∧ s 14 j ≤ 255)
