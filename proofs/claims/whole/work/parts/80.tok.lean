/-! ===== tokens of the text ===== -/
def am_skp (T : Nat → Int) : Nat → Nat → Nat
  | 0, o => o
  | d + 1, o => if T o = 32 then am_skp T d (o + 1) else o
def am_so (T : Nat → Int) (n j : Nat) : Int := if j < n then (if 97 ≤ T j ∧ T j ≤ 122 then 1 else if 48 ≤ T j ∧ T j ≤ 57 then 2 else 3) else 0
def am_ru (T : Nat → Int) (n : Nat) (k : Int) : Nat → Nat → Nat
  | 0, o => o
  | d + 1, o => if am_so T n o = k then am_ru T n k d (o + 1) else o
def am_ts (T : Nat → Int) (n o : Nat) : Nat := am_skp T (n - o) o
def am_te (T : Nat → Int) (n o : Nat) : Nat := if am_ts T n o < n then (if am_so T n (am_ts T n o) = 3 then am_ts T n o + 1 else am_ru T n (am_so T n (am_ts T n o)) (n - (am_ts T n o + 1)) (am_ts T n o + 1)) else am_ts T n o
def am_nv (T : Nat → Int) (p : Nat) : Nat → Int
  | 0 => 0
  | k + 1 => 10 * am_nv T p k + T (p + k) - 48
def am_cd (T : Nat → Int) (p : Nat) : Nat → Int
  | 0 => 0
  | k + 1 => 27 * am_cd T p k + T (p + k) - 96
def am_tl0 (T : Nat → Int) (n o : Nat) : Nat := am_te T n o - am_ts T n o
def am_nu (T : Nat → Int) (n o : Nat) : Int := if am_so T n (am_ts T n o) = 2 ∧ am_tl0 T n o ≤ 4 then am_nv T (am_ts T n o) (am_tl0 T n o) else -1
def am_wdP (T : Nat → Int) (n o i : Nat) : Prop := am_so T n (am_ts T n o) = 1 ∧ am_tl0 T n o = am_len.getD i 0 ∧ ∀ j, j < am_len.getD i 0 → T (am_ts T n o + j) = am_chr i j
def am_tok (T : Nat → Int) (n o : Nat) : Int := if am_so T n (am_ts T n o) = 0 then -2 else if am_so T n (am_ts T n o) = 1 then (if am_tl0 T n o ≤ 9 then am_cd T (am_ts T n o) (am_tl0 T n o) else -4) else if am_so T n (am_ts T n o) = 2 then (if am_tl0 T n o ≤ 4 then -1 else -4) else (if T (am_ts T n o) = 59 then -3 else -4)
def am_Wc (i : Nat) : Nat → Int
  | 0 => 0
  | k + 1 => 27 * am_Wc i k + am_chr i k - 96
theorem am_skp_b {T : Nat → Int} : ∀ d o, o ≤ am_skp T d o ∧ am_skp T d o ≤ o + d
  | 0, o => ⟨Nat.le_refl o, Nat.le_refl o⟩
  | d + 1, o => by
    show o ≤ (if T o = 32 then am_skp T d (o + 1) else o) ∧ (if T o = 32 then am_skp T d (o + 1) else o) ≤ o + (d + 1)
    split
    · have := am_skp_b (T := T) d (o + 1); omega
    · omega
theorem am_ts_b {T : Nat → Int} {n o : Nat} (ho : o ≤ n) : o ≤ am_ts T n o ∧ am_ts T n o ≤ n := by
  have := am_skp_b (T := T) (n - o) o
  unfold am_ts; omega
theorem am_ts_s {T : Nat → Int} {n o : Nat} (ho : o < n) : am_ts T n o = if T o = 32 then am_ts T n (o + 1) else o := by
  unfold am_ts
  rw [show n - o = (n - (o + 1)) + 1 by omega]; rfl
theorem am_ts_e {T : Nat → Int} {n o : Nat} (ho : n ≤ o) : am_ts T n o = o := by
  unfold am_ts
  rw [show n - o = 0 by omega]; rfl
theorem am_so_b {T : Nat → Int} {n j : Nat} : 0 ≤ am_so T n j ∧ am_so T n j ≤ 3 := by
  unfold am_so
  split
  · split
    · decide
    · split <;> decide
  · decide
theorem am_so_0 {T : Nat → Int} {n j : Nat} : am_so T n j = 0 ↔ n ≤ j := by
  unfold am_so
  by_cases q : j < n
  · rw [if_pos q]
    constructor
    · intro z
      split at z
      · exact absurd z (by decide)
      · split at z <;> exact absurd z (by decide)
    · intro z; omega
  · rw [if_neg q]; exact ⟨fun _ => by omega, fun _ => rfl⟩
theorem am_so_1 {T : Nat → Int} {n j : Nat} : am_so T n j = 1 ↔ (j < n ∧ 97 ≤ T j ∧ T j ≤ 122) := by
  unfold am_so
  by_cases q : j < n
  · rw [if_pos q]
    by_cases q1 : 97 ≤ T j ∧ T j ≤ 122
    · rw [if_pos q1]; exact ⟨fun _ => ⟨q, q1⟩, fun _ => rfl⟩
    · rw [if_neg q1]
      constructor
      · intro z; split at z <;> exact absurd z (by decide)
      · rintro ⟨-, z⟩; exact absurd z q1
  · rw [if_neg q]; exact ⟨fun z => absurd z (by decide), fun z => absurd z.1 q⟩
theorem am_so_2 {T : Nat → Int} {n j : Nat} : am_so T n j = 2 ↔ (j < n ∧ 48 ≤ T j ∧ T j ≤ 57) := by
  unfold am_so
  by_cases q : j < n
  · rw [if_pos q]
    by_cases q1 : 97 ≤ T j ∧ T j ≤ 122
    · rw [if_pos q1]; exact ⟨fun z => absurd z (by decide), fun z => by omega⟩
    · rw [if_neg q1]
      by_cases q2 : 48 ≤ T j ∧ T j ≤ 57
      · rw [if_pos q2]; exact ⟨fun _ => ⟨q, q2⟩, fun _ => rfl⟩
      · rw [if_neg q2]; exact ⟨fun z => absurd z (by decide), fun z => absurd z.2 q2⟩
  · rw [if_neg q]; exact ⟨fun z => absurd z (by decide), fun z => absurd z.1 q⟩
theorem am_ru_b {T : Nat → Int} {n : Nat} {k : Int} : ∀ d o, o ≤ am_ru T n k d o ∧ am_ru T n k d o ≤ o + d
  | 0, o => ⟨Nat.le_refl o, Nat.le_refl o⟩
  | d + 1, o => by
    show o ≤ (if am_so T n o = k then am_ru T n k d (o + 1) else o) ∧ (if am_so T n o = k then am_ru T n k d (o + 1) else o) ≤ o + (d + 1)
    split
    · have := am_ru_b (T := T) (n := n) (k := k) d (o + 1); omega
    · omega
theorem am_ru_all {T : Nat → Int} {n : Nat} {k : Int} : ∀ d o j, o ≤ j → j < am_ru T n k d o → am_so T n j = k
  | 0, o, j, h1, h2 => absurd h2 (by show ¬ j < o; omega)
  | d + 1, o, j, h1, h2 => by
    have e : am_ru T n k (d + 1) o = if am_so T n o = k then am_ru T n k d (o + 1) else o := rfl
    rw [e] at h2
    by_cases q : am_so T n o = k
    · rw [if_pos q] at h2
      by_cases ej : j = o
      · rw [ej]; exact q
      · exact am_ru_all d (o + 1) j (by omega) h2
    · rw [if_neg q] at h2; omega
theorem am_te_b {T : Nat → Int} {n o : Nat} (ho : o ≤ n) : am_ts T n o ≤ am_te T n o ∧ am_te T n o ≤ n ∧ (am_ts T n o < n → am_ts T n o < am_te T n o) := by
  have h1 := am_ts_b (T := T) ho
  have h2 := am_ru_b (T := T) (n := n) (k := am_so T n (am_ts T n o)) (n - (am_ts T n o + 1)) (am_ts T n o + 1)
  unfold am_te
  by_cases q : am_ts T n o < n
  · rw [if_pos q]
    by_cases q3 : am_so T n (am_ts T n o) = 3
    · rw [if_pos q3]; omega
    · rw [if_neg q3]; omega
  · rw [if_neg q]; omega
theorem am_te_all {T : Nat → Int} {n o : Nat} (ho : o ≤ n) (h3 : am_so T n (am_ts T n o) ≠ 3) : ∀ j, am_ts T n o ≤ j → j < am_te T n o → am_so T n j = am_so T n (am_ts T n o) := fun j h1 h2 => by
  unfold am_te at h2
  by_cases q : am_ts T n o < n
  · rw [if_pos q, if_neg h3] at h2
    by_cases e : j = am_ts T n o
    · rw [e]
    · exact am_ru_all _ _ j (by omega) h2
  · rw [if_neg q] at h2; omega
theorem am_nv_b {T : Nat → Int} {p : Nat} : ∀ k, (∀ j, j < k → 48 ≤ T (p + j) ∧ T (p + j) ≤ 57) → 0 ≤ am_nv T p k ∧ (k ≤ 4 → am_nv T p k ≤ 9999 ∧ (k ≤ 3 → am_nv T p k ≤ 999) ∧ (k ≤ 2 → am_nv T p k ≤ 99) ∧ (k ≤ 1 → am_nv T p k ≤ 9) ∧ (k = 0 → am_nv T p k = 0))
  | 0, _ => by show 0 ≤ (0 : Int) ∧ _; exact ⟨Int.le_refl 0, fun _ => ⟨by show (0 : Int) ≤ 9999; decide, fun _ => by show (0 : Int) ≤ 999; decide, fun _ => by show (0 : Int) ≤ 99; decide, fun _ => by show (0 : Int) ≤ 9; decide, fun _ => rfl⟩⟩
  | k + 1, h => by
    have ih := am_nv_b (T := T) (p := p) k (fun j hj => h j (by omega))
    have hk := h k (by omega)
    have e : am_nv T p (k + 1) = 10 * am_nv T p k + T (p + k) - 48 := rfl
    rw [e]
    refine ⟨by omega, fun h4 => ?_⟩
    obtain ⟨g1, g2, g3, g4, g5⟩ := ih.2 (by omega)
    refine ⟨by have := g2 (by omega); omega, fun _ => by have := g3 (by omega); omega, fun _ => by have := g4 (by omega); omega, fun _ => by have := g5 (by omega); omega, fun z => absurd z (by omega)⟩
theorem am_nu_b {T : Nat → Int} {n o : Nat} (ho : o ≤ n) : -1 ≤ am_nu T n o ∧ am_nu T n o ≤ 9999 ∧ (0 ≤ am_nu T n o ↔ (am_so T n (am_ts T n o) = 2 ∧ am_tl0 T n o ≤ 4)) := by
  unfold am_nu
  by_cases q : am_so T n (am_ts T n o) = 2 ∧ am_tl0 T n o ≤ 4
  · rw [if_pos q]
    have := am_nv_b (T := T) (p := am_ts T n o) (am_tl0 T n o) (fun j hj => by
      have := am_te_all (T := T) ho (by rw [q.1]; decide) (am_ts T n o + j) (by omega) (by unfold am_tl0 at hj; omega)
      rw [q.1] at this
      exact (am_so_2.mp this).2)
    have h2 := this.2 q.2
    exact ⟨by omega, by omega, fun _ => q, fun _ => by omega⟩
  · rw [if_neg q]; exact ⟨by decide, by decide, fun z => absurd z (by decide), fun z => absurd z q⟩
theorem am_cd_b {T : Nat → Int} {p : Nat} : ∀ k, (∀ j, j < k → 97 ≤ T (p + j) ∧ T (p + j) ≤ 122) → 0 ≤ am_cd T p k ∧ (0 < k → 0 < am_cd T p k) ∧ am_cd T p k < 27 ^ k
  | 0, _ => by show 0 ≤ (0 : Int) ∧ (0 < 0 → _) ∧ (0 : Int) < 27 ^ 0; exact ⟨by decide, fun z => absurd z (by decide), by decide⟩
  | k + 1, h => by
    have ih := am_cd_b (T := T) (p := p) k (fun j hj => h j (by omega))
    have hk := h k (by omega)
    have e : am_cd T p (k + 1) = 27 * am_cd T p k + T (p + k) - 96 := rfl
    rw [e, Int.pow_succ]
    exact ⟨by omega, fun _ => by omega, by omega⟩
theorem am_cd_W {T : Nat → Int} {p i : Nat} : ∀ (L k : Nat), (∀ j, j < k → 97 ≤ T (p + j) ∧ T (p + j) ≤ 122) → (∀ j, j < L → 97 ≤ am_chr i j ∧ am_chr i j ≤ 122) → (am_cd T p k = am_Wc i L ↔ (k = L ∧ ∀ j, j < L → T (p + j) = am_chr i j))
  | 0, 0, _, _ => ⟨fun _ => ⟨rfl, fun j hj => absurd hj (Nat.not_lt_zero j)⟩, fun _ => rfl⟩
  | 0, k + 1, h, _ => by
    have := (am_cd_b (T := T) (p := p) (k + 1) h).2.1 (by omega)
    exact ⟨fun z => by rw [z] at this; exact absurd this (by show ¬ (0 : Int) < 0; decide), fun z => absurd z.1 (by omega)⟩
  | L + 1, 0, _, hc => by
    have wp : ∀ L, (∀ j, j < L → 97 ≤ am_chr i j ∧ am_chr i j ≤ 122) → 0 ≤ am_Wc i L := fun L => by
      induction L with
      | zero => intro _; exact Int.le_refl 0
      | succ L ih =>
        intro hc
        have := ih (fun j hj => hc j (by omega))
        have := hc L (by omega)
        show 0 ≤ 27 * am_Wc i L + am_chr i L - 96
        omega
    have h1 := wp L (fun j hj => hc j (by omega))
    have h2 := hc L (by omega)
    refine ⟨fun z => ?_, fun z => absurd z.1 (by omega)⟩
    have z' : (0 : Int) = 27 * am_Wc i L + am_chr i L - 96 := z
    omega
  | L + 1, k + 1, h, hc => by
    have ih := am_cd_W (T := T) (p := p) (i := i) L k (fun j hj => h j (by omega)) (fun j hj => hc j (by omega))
    have hk := h k (by omega)
    have hL := hc L (by omega)
    have e1 : am_cd T p (k + 1) = 27 * am_cd T p k + T (p + k) - 96 := rfl
    have e2 : am_Wc i (L + 1) = 27 * am_Wc i L + am_chr i L - 96 := rfl
    rw [e1, e2]
    constructor
    · intro z
      have z1 : am_cd T p k = am_Wc i L := by omega
      have z2 : T (p + k) = am_chr i L := by omega
      obtain ⟨g1, g2⟩ := ih.mp z1
      refine ⟨by omega, fun j hj => ?_⟩
      by_cases ej : j = L
      · rw [ej, ← z2, g1]
      · exact g2 j (by omega)
    · rintro ⟨z1, z2⟩
      have z3 := ih.mpr ⟨by omega, fun j hj => z2 j (by omega)⟩
      have z4 := z2 L (by omega)
      have z5 : k = L := by omega
      rw [z3, z5, z4]
theorem am_W_c : am_Wc 0 4 = 383153 ∧ am_Wc 1 3 = 4637 ∧ am_Wc 2 4 = 267413 ∧ am_Wc 3 5 = 1841546 ∧ am_Wc 4 5 = 10421318 ∧ am_Wc 5 2 = 79 ∧ am_Wc 6 3 = 1111 := by decide
theorem am_tok_b {T : Nat → Int} {n o : Nat} (ho : o ≤ n) : -4 ≤ am_tok T n o ∧ am_tok T n o ≤ 7625597484987 := by
  unfold am_tok
  by_cases q0 : am_so T n (am_ts T n o) = 0
  · rw [if_pos q0]; decide
  · rw [if_neg q0]
    by_cases q1 : am_so T n (am_ts T n o) = 1
    · rw [if_pos q1]
      by_cases q9 : am_tl0 T n o ≤ 9
      · rw [if_pos q9]
        have := am_cd_b (T := T) (p := am_ts T n o) (am_tl0 T n o) (fun j hj => by
          have := am_te_all (T := T) ho (by rw [q1]; decide) (am_ts T n o + j) (by omega) (by unfold am_tl0 at hj; omega)
          rw [q1] at this
          exact (am_so_1.mp this).2)
        have p : (27 : Int) ^ am_tl0 T n o ≤ 27 ^ 9 := by
          have := Nat.pow_le_pow_right (n := 27) (by decide) q9
          exact_mod_cast this
        have p9 : (27 : Int) ^ 9 = 7625597484987 := by decide
        omega
      · rw [if_neg q9]; decide
    · rw [if_neg q1]
      split
      · split <;> decide
      · split <;> decide
theorem am_tok_W {T : Nat → Int} {n o i : Nat} (ho : o ≤ n) (hi : i < 7) : am_tok T n o = am_Wc i (am_len.getD i 0) ↔ am_wdP T n o i := by
  have hl := am_len_b i hi
  have wpos : 0 < am_Wc i (am_len.getD i 0) := by
    have : ∀ i, i < 7 → 0 < am_Wc i (am_len.getD i 0) := by decide
    exact this i hi
  unfold am_tok am_wdP
  by_cases q0 : am_so T n (am_ts T n o) = 0
  · rw [if_pos q0]; exact ⟨fun z => by omega, fun z => by omega⟩
  · rw [if_neg q0]
    by_cases q1 : am_so T n (am_ts T n o) = 1
    · rw [if_pos q1]
      have key := am_cd_W (T := T) (p := am_ts T n o) (i := i) (am_len.getD i 0) (am_tl0 T n o) (fun j hj => by
          have := am_te_all (T := T) ho (by rw [q1]; decide) (am_ts T n o + j) (by omega) (by unfold am_tl0 at hj; omega)
          rw [q1] at this
          exact (am_so_1.mp this).2) (fun j hj => am_chr_b i hi j hj)
      by_cases q9 : am_tl0 T n o ≤ 9
      · rw [if_pos q9, key]
        exact ⟨fun z => ⟨q1, z.1, z.2⟩, fun z => ⟨z.2.1, z.2.2⟩⟩
      · rw [if_neg q9]; exact ⟨fun z => by omega, fun z => by omega⟩
    · rw [if_neg q1]
      refine ⟨fun z => ?_, fun z => absurd z.1 q1⟩
      split at z
      · split at z <;> omega
      · split at z <;> omega
theorem am_tok_1 {T : Nat → Int} {n o : Nat} (ho : o ≤ n) : am_tok T n o = -1 ↔ 0 ≤ am_nu T n o := by
  rw [(am_nu_b ho).2.2]
  unfold am_tok
  by_cases q0 : am_so T n (am_ts T n o) = 0
  · rw [if_pos q0]; exact ⟨fun z => by omega, fun z => by omega⟩
  · rw [if_neg q0]
    by_cases q1 : am_so T n (am_ts T n o) = 1
    · rw [if_pos q1]
      refine ⟨fun z => ?_, fun z => by omega⟩
      split at z
      · have := (am_cd_b (T := T) (p := am_ts T n o) (am_tl0 T n o) (fun j hj => by
          have := am_te_all (T := T) ho (by rw [q1]; decide) (am_ts T n o + j) (by omega) (by unfold am_tl0 at hj; omega)
          rw [q1] at this
          exact (am_so_1.mp this).2)).1
        omega
      · omega
    · rw [if_neg q1]
      by_cases q2 : am_so T n (am_ts T n o) = 2
      · rw [if_pos q2]
        by_cases q4 : am_tl0 T n o ≤ 4
        · rw [if_pos q4]; exact ⟨fun _ => ⟨q2, q4⟩, fun _ => rfl⟩
        · rw [if_neg q4]; exact ⟨fun z => by omega, fun z => absurd z.2 q4⟩
      · rw [if_neg q2]; refine ⟨fun z => ?_, fun z => absurd z.1 q2⟩
        split at z <;> omega
theorem am_tok_2 {T : Nat → Int} {n o : Nat} (ho : o ≤ n) : (am_tok T n o = -2 ↔ am_so T n (am_ts T n o) = 0) ∧ (am_tok T n o = -3 ↔ (am_so T n (am_ts T n o) = 3 ∧ T (am_ts T n o) = 59)) := by
  have sb := am_so_b (T := T) (n := n) (j := am_ts T n o)
  unfold am_tok
  by_cases q0 : am_so T n (am_ts T n o) = 0
  · rw [if_pos q0]; exact ⟨⟨fun _ => q0, fun _ => rfl⟩, ⟨fun z => by omega, fun z => by omega⟩⟩
  · rw [if_neg q0]
    by_cases q1 : am_so T n (am_ts T n o) = 1
    · rw [if_pos q1]
      have := (am_cd_b (T := T) (p := am_ts T n o) (am_tl0 T n o) (fun j hj => by
          have := am_te_all (T := T) ho (by rw [q1]; decide) (am_ts T n o + j) (by omega) (by unfold am_tl0 at hj; omega)
          rw [q1] at this
          exact (am_so_1.mp this).2)).1
      refine ⟨⟨fun z => ?_, fun z => absurd z q0⟩, ⟨fun z => ?_, fun z => by omega⟩⟩ <;> split at z <;> omega
    · rw [if_neg q1]
      by_cases q2 : am_so T n (am_ts T n o) = 2
      · rw [if_pos q2]
        refine ⟨⟨fun z => ?_, fun z => absurd z q0⟩, ⟨fun z => ?_, fun z => by omega⟩⟩ <;> split at z <;> omega
      · rw [if_neg q2]
        by_cases q5 : T (am_ts T n o) = 59
        · rw [if_pos q5]; exact ⟨⟨fun z => by omega, fun z => absurd z q0⟩, ⟨fun _ => ⟨by omega, q5⟩, fun _ => rfl⟩⟩
        · rw [if_neg q5]; exact ⟨⟨fun z => by omega, fun z => absurd z q0⟩, ⟨fun z => by omega, fun z => absurd z.2 q5⟩⟩
