/-! ===== the bounds stand after every call ===== -/
section AMOK
variable {w h : Nat} {s : Nat → Nat → Int}
theorem am_OK_ground {a b : Int} (hO : am_OK w h s) (ha : 2 ≤ a ∧ a ≤ 4) (hb : 2 ≤ b ∧ b ≤ 4) : am_OK a.toNat b.toNat (N_ground s) := by
  obtain ⟨o1, o2, o3, o4, o5, o6, o7, o8, o9, o10, o11, o12, o13, o14, o15, o16, o17, o18, o19⟩ := hO
  have z : ∀ r j, r ≠ 0 → r ≠ 1 → r ≠ 2 → N_ground s r j = s r j := fun r j h0 h1 h2 => by unfold N_ground; rw [if_neg h1, if_neg h2, if_neg (fun q => h0 q.1)]
  have g1 : ∀ j, N_ground s 1 j = 0 := fun j => rfl
  have g2 : ∀ j, N_ground s 2 j = 10 := fun j => rfl
  have a0 : N_ground s 0 0 = s 0 0 := rfl
  have a1 : N_ground s 0 1 = s 0 1 := rfl
  have a6 : N_ground s 0 6 = s 0 6 := rfl
  have a2 : N_ground s 0 2 = 0 := rfl
  have a3 : N_ground s 0 3 = 0 := rfl
  have a4 : N_ground s 0 4 = 0 := rfl
  have a5 : N_ground s 0 5 = 0 := rfl
  unfold am_OK
  simp only [a0, a1, a2, a3, a4, a5, a6, g1, g2, z 4 _ (by decide) (by decide) (by decide), z 6 _ (by decide) (by decide) (by decide), z 14 _ (by decide) (by decide) (by decide)]
  exact ⟨by omega, o2, o3, by omega, by omega, by omega, by omega, o8, fun _ _ => by omega, fun _ _ => by omega, fun e he => by omega, o12, fun e he => by omega, o14, fun e he => by omega, fun e he => by omega, fun t u _ he => by omega, fun e he => by omega, o19⟩
theorem am_OK_u0 {s' : Nat → Nat → Int} (hO : am_OK w h s) (e : ∀ r j, r ≠ 0 → s' r j = s r j) (e2 : s' 0 2 = s 0 2) (e3 : s' 0 3 = s 0 3) (e4 : s' 0 4 = s 0 4) (e5 : s' 0 5 = s 0 5) (h0 : 10 ≤ s' 0 0 ∧ s' 0 0 ≤ 30) (h1 : s 0 1 ≤ s' 0 1 ∧ s' 0 1 ≤ 500) (h6 : 0 ≤ s' 0 6 ∧ s' 0 6 ≤ s 0 6) : am_OK w h s' := by
  obtain ⟨o1, o2, o3, o4, o5, o6, o7, o8, o9, o10, o11, o12, o13, o14, o15, o16, o17, o18, o19⟩ := hO
  unfold am_OK
  simp only [e 1 _ (by decide), e 2 _ (by decide), e 3 _ (by decide), e 4 _ (by decide), e 5 _ (by decide), e 6 _ (by decide), e 7 _ (by decide), e 8 _ (by decide), e 9 _ (by decide), e 10 _ (by decide), e 11 _ (by decide), e 12 _ (by decide), e 13 _ (by decide), e 14 _ (by decide), e2, e3, e4, e5]
  exact ⟨o1, h0, by omega, o4, o5, o6, o7, by omega, o9, o10, o11, o12, o13, o14, o15, fun t ht => ⟨(o16 t ht).1, ⟨(o16 t ht).2.1.1, by have := (o16 t ht).2.1.2; omega⟩, (o16 t ht).2.2⟩, o17, o18, fun j hj => o19 j (by omega)⟩
theorem am_OK_ratio (hO : am_OK w h s) {v : Int} : am_OK w h (N_ratio s v) := by
  obtain ⟨o1, o2, o3, o4, o5, o6, o7, o8, -⟩ := id hO
  unfold N_ratio
  by_cases q : 10 ≤ v ∧ v ≤ 30
  · rw [if_pos q]
    refine am_OK_u0 hO (fun r j hr => by rw [am_up_o hr]) ?_ ?_ ?_ ?_ ?_ ?_ ?_ <;> rw [am_up_v] <;> simp <;> omega
  · rw [if_neg q]; exact hO
theorem am_OK_days (hO : am_OK w h s) {n : Int} : am_OK w h (N_days s n) := by
  obtain ⟨o1, o2, o3, o4, o5, o6, o7, o8, -⟩ := id hO
  unfold N_days
  by_cases q : (1 ≤ n ∧ n ≤ 50) ∧ s 0 1 + n ≤ 500
  · rw [if_pos q]
    refine am_OK_u0 hO (fun r j hr => by rw [am_up_o hr]) ?_ ?_ ?_ ?_ ?_ ?_ ?_ <;> rw [am_up_v] <;> simp <;> omega
  · rw [if_neg q]; exact hO
theorem am_OK_erase (hO : am_OK w h s) : am_OK w h (am_up s 0 6 0) := by
  obtain ⟨o1, o2, o3, o4, o5, o6, o7, o8, -⟩ := id hO
  refine am_OK_u0 hO (fun r j hr => by rw [am_up_o hr]) ?_ ?_ ?_ ?_ ?_ ?_ ?_ <;> rw [am_up_v] <;> simp <;> omega
theorem am_OK_slow (hO : am_OK w h s) {b v : Int} : am_OK w h (N_slow s b v) := by
  unfold N_slow
  by_cases q : (0 ≤ b ∧ b < 8) ∧ 1 ≤ v ∧ v ≤ 60
  · rw [if_pos q]; exact am_OK_u2 hO q.2
  · rw [if_neg q]; exact hO
theorem am_OK_split (hO : am_OK w h s) {b v : Int} : am_OK w h (N_split w h s b v) := by
  unfold N_split
  by_cases q : (0 ≤ b ∧ b < 8) ∧ (0 ≤ v ∧ v < 2 ^ (w * h))
  · rw [if_pos q]; exact am_OK_sb hO (by omega)
  · rw [if_neg q]; exact hO
theorem am_OK_join (hO : am_OK w h s) {a b : Int} : am_OK w h (N_join w h s a b) := by
  unfold N_join
  by_cases q : ((0 ≤ a ∧ a < 8) ∧ (0 ≤ b ∧ b < 8)) ∧ ¬ a = b
  · rw [if_pos q]; exact am_OK_mv hO (by omega)
  · rw [if_neg q]; exact hO
theorem am_OK_clock (hO : am_OK w h s) {e v : Int} : am_OK w h (N_clock s e v) := by
  unfold N_clock
  by_cases q : (0 ≤ e ∧ e < s 0 2) ∧ -99 ≤ v ∧ v ≤ 99
  · rw [if_pos q]; exact am_OK_u4 hO q.2
  · rw [if_neg q]; exact hO
theorem am_OK_put (hO : am_OK w h s) {i c b : Int} : am_OK w h (N_put w h s i c b) := by
  unfold N_put
  by_cases q : ((0 ≤ i ∧ i < s 0 3) ∧ (0 ≤ c ∧ c < ((w * h : Nat) : Int))) ∧ (0 ≤ b ∧ b ≤ 1000)
  · rw [if_pos q]; exact am_OK_u6 (am_OK_u5 hO q.1.2) q.2
  · rw [if_neg q]; exact hO
theorem am_OK_move (hO : am_OK w h s) {sh : Int} : am_OK w h (N_move w h s sh) := by
  have hwh := am_wh hO
  unfold N_move
  by_cases q : (0 ≤ sh ∧ sh < s 0 3) ∧ ¬ am_cnt (am_hQ s sh.toNat) (am_P s) = 0
  · rw [if_pos q]
    have c1 : am_mvC w h s sh.toNat ≤ w * h - 1 := (am_ax_is (C := fun c => (am_ax (am_hC w h s sh.toNat c) 1000).1) (w * h - 1)).2.1
    have c2 : am_mvB w h s sh.toNat ≤ 1000 := (am_ax_is (C := am_hC w h s sh.toNat (am_mvC w h s sh.toNat)) 1000).2.1
    exact am_OK_u6 (am_OK_u5 hO (by omega)) (by omega)
  · rw [if_neg q]; exact hO
theorem am_OK_fit (hO : am_OK w h s) {n : Int} : am_OK w h (N_fit w h s n) := by
  unfold N_fit
  by_cases q : 1 ≤ n ∧ n ≤ 10
  · rw [if_pos q]; exact am_OK_fitN hO _
  · rw [if_neg q]; exact hO
theorem am_OK_ear (hO : am_OK w h s) {c : Int} : am_OK w h (N_ear w h s c) := by
  unfold N_ear
  by_cases q : (0 ≤ c ∧ c < ((w * h : Nat) : Int)) ∧ s 0 2 < 6
  · rw [if_pos q]
    obtain ⟨o1, o2, o3, o4, o5, o6, o7, o8, o9, o10, o11, o12, o13, o14, o15, o16, o17, o18, o19⟩ := hO
    generalize hs' : am_up (am_up (am_up s 3 (s 0 2).toNat c) 4 (s 0 2).toNat 0) 0 2 (s 0 2 + 1) = s'
    have e : ∀ r j, r ≠ 0 → r ≠ 3 → r ≠ 4 → s' r j = s r j := fun r j h0 h3 h4 => by rw [← hs', am_up_o h0, am_up_o h4, am_up_o h3]
    have e0 : ∀ j, s' 0 j = if j = 2 then s 0 2 + 1 else s 0 j := fun j => by rw [← hs', am_up_v, am_up_o (by decide), am_up_o (by decide)]
    have e3 : ∀ j, s' 3 j = if j = (s 0 2).toNat then c else s 3 j := fun j => by rw [← hs', am_up_o (by decide), am_up_o (by decide), am_up_v]
    have e4 : ∀ j, s' 4 j = if j = (s 0 2).toNat then 0 else s 4 j := fun j => by rw [← hs', am_up_o (by decide), am_up_v, am_up_o (by decide)]
    have a2 : s' 0 2 = s 0 2 + 1 := by rw [e0]; rfl
    have a : ∀ j, j ≠ 2 → s' 0 j = s 0 j := fun j hj => by rw [e0, if_neg hj]
    unfold am_OK
    simp only [e 1 _ (by decide) (by decide) (by decide), e 2 _ (by decide) (by decide) (by decide), e 5 _ (by decide) (by decide) (by decide), e 6 _ (by decide) (by decide) (by decide), e 7 _ (by decide) (by decide) (by decide), e 8 _ (by decide) (by decide) (by decide), e 9 _ (by decide) (by decide) (by decide), e 10 _ (by decide) (by decide) (by decide), e 11 _ (by decide) (by decide) (by decide), e 12 _ (by decide) (by decide) (by decide), e 13 _ (by decide) (by decide) (by decide), e 14 _ (by decide) (by decide) (by decide), a2, a 0 (by decide), a 1 (by decide), a 3 (by decide), a 4 (by decide), a 5 (by decide), a 6 (by decide)]
    refine ⟨o1, o2, o3, by omega, o5, o6, o7, o8, o9, o10, fun j hj => ?_, fun j hj => ?_, o13, o14, fun p hp => ?_, o16, o17, o18, o19⟩
    · rw [e3]
      by_cases qj : j = (s 0 2).toNat
      · rw [if_pos qj]; exact q.1
      · rw [if_neg qj]; exact o11 j (by omega)
    · rw [e4]
      by_cases qj : j = (s 0 2).toNat
      · rw [if_pos qj]; decide
      · rw [if_neg qj]; exact o12 j hj
    · have := o15 p hp
      exact ⟨by omega, this.2.1, this.2.2⟩
  · rw [if_neg q]; exact hO
theorem am_OK_shake (hO : am_OK w h s) {c b : Int} : am_OK w h (N_shake w h s c b) := by
  unfold N_shake
  by_cases q : (0 ≤ c ∧ c < ((w * h : Nat) : Int)) ∧ (0 ≤ b ∧ b ≤ 1000) ∧ s 0 3 < 5
  · rw [if_pos q]
    obtain ⟨o1, o2, o3, o4, o5, o6, o7, o8, o9, o10, o11, o12, o13, o14, o15, o16, o17, o18, o19⟩ := hO
    generalize hs' : am_up (am_up (am_up s 5 (s 0 3).toNat c) 6 (s 0 3).toNat b) 0 3 (s 0 3 + 1) = s'
    have e : ∀ r j, r ≠ 0 → r ≠ 5 → r ≠ 6 → s' r j = s r j := fun r j h0 h3 h4 => by rw [← hs', am_up_o h0, am_up_o h4, am_up_o h3]
    have e0 : ∀ j, s' 0 j = if j = 3 then s 0 3 + 1 else s 0 j := fun j => by rw [← hs', am_up_v, am_up_o (by decide), am_up_o (by decide)]
    have e3 : ∀ j, s' 5 j = if j = (s 0 3).toNat then c else s 5 j := fun j => by rw [← hs', am_up_o (by decide), am_up_o (by decide), am_up_v]
    have e4 : ∀ j, s' 6 j = if j = (s 0 3).toNat then b else s 6 j := fun j => by rw [← hs', am_up_o (by decide), am_up_v, am_up_o (by decide)]
    have a2 : s' 0 3 = s 0 3 + 1 := by rw [e0]; rfl
    have a : ∀ j, j ≠ 3 → s' 0 j = s 0 j := fun j hj => by rw [e0, if_neg hj]
    unfold am_OK
    simp only [e 1 _ (by decide) (by decide) (by decide), e 2 _ (by decide) (by decide) (by decide), e 3 _ (by decide) (by decide) (by decide), e 4 _ (by decide) (by decide) (by decide), e 7 _ (by decide) (by decide) (by decide), e 8 _ (by decide) (by decide) (by decide), e 9 _ (by decide) (by decide) (by decide), e 10 _ (by decide) (by decide) (by decide), e 11 _ (by decide) (by decide) (by decide), e 12 _ (by decide) (by decide) (by decide), e 13 _ (by decide) (by decide) (by decide), e 14 _ (by decide) (by decide) (by decide), a2, a 0 (by decide), a 1 (by decide), a 2 (by decide), a 4 (by decide), a 5 (by decide), a 6 (by decide)]
    refine ⟨o1, o2, o3, o4, by omega, o6, o7, o8, o9, o10, o11, o12, fun j hj => ?_, fun j hj => ?_, fun p hp => ?_, o16, o17, o18, o19⟩
    · rw [e3]
      by_cases qj : j = (s 0 3).toNat
      · rw [if_pos qj]; exact q.1
      · rw [if_neg qj]; exact o13 j (by omega)
    · rw [e4]
      by_cases qj : j = (s 0 3).toNat
      · rw [if_pos qj]; exact q.2.1
      · rw [if_neg qj]; exact o14 j hj
    · have := o15 p hp
      exact ⟨this.1, by omega, this.2.2⟩
  · rw [if_neg q]; exact hO
/-- all but that pp has a telling -/
def am_OKx (w h : Nat) (s : Nat → Nat → Int) (pp : Int) : Prop :=
  (2 ≤ w ∧ w ≤ 4 ∧ 2 ≤ h ∧ h ≤ 4) ∧ (10 ≤ s 0 0 ∧ s 0 0 ≤ 30) ∧ (0 ≤ s 0 1 ∧ s 0 1 ≤ 500) ∧ (0 ≤ s 0 2 ∧ s 0 2 ≤ 6) ∧ (0 ≤ s 0 3 ∧ s 0 3 ≤ 5) ∧ (0 ≤ s 0 4 ∧ s 0 4 ≤ 12) ∧ (0 ≤ s 0 5 ∧ s 0 5 ≤ 40) ∧ (0 ≤ s 0 6 ∧ s 0 6 ≤ 160) ∧
  (∀ c, c < 16 → 0 ≤ s 1 c ∧ s 1 c ≤ 7) ∧ (∀ b, b < 8 → 1 ≤ s 2 b ∧ s 2 b ≤ 60) ∧
  (∀ e : Nat, (e : Int) < s 0 2 → 0 ≤ s 3 e ∧ s 3 e < ((w * h : Nat) : Int)) ∧ (∀ e, e < 6 → -99 ≤ s 4 e ∧ s 4 e ≤ 99) ∧
  (∀ k : Nat, (k : Int) < s 0 3 → 0 ≤ s 5 k ∧ s 5 k < ((w * h : Nat) : Int)) ∧ (∀ k, k < 5 → 0 ≤ s 6 k ∧ s 6 k ≤ 1000) ∧
  (∀ p : Nat, (p : Int) < s 0 4 → (0 ≤ s 7 p ∧ s 7 p < s 0 2) ∧ (0 ≤ s 8 p ∧ s 8 p < s 0 3) ∧ (s 9 p = 0 ∨ s 9 p = 1)) ∧
  (∀ t : Nat, (t : Int) < s 0 5 → (0 ≤ s 10 t ∧ s 10 t < s 0 4) ∧ (0 ≤ s 11 t ∧ s 11 t ≤ s 0 1) ∧ (0 ≤ s 12 t ∧ s 12 t ≤ s 13 t ∧ s 13 t ≤ 3000)) ∧
  (∀ t u : Nat, t < u → (u : Int) < s 0 5 → s 11 t ≤ s 11 u) ∧
  (∀ p : Nat, (p : Int) < s 0 4 → (p : Int) = pp ∨ ∃ t : Nat, (t : Int) < s 0 5 ∧ s 10 t = (p : Int)) ∧
  (∀ j : Nat, (j : Int) < s 0 6 → 0 ≤ s 14 j ∧ s 14 j ≤ 255)
theorem am_OKx_tl {pp lo hi : Int} (hO : am_OKx w h s pp) (hp : 0 ≤ pp ∧ pp < s 0 4) (hb : 0 ≤ lo ∧ lo ≤ hi ∧ hi ≤ 3000) (h5 : s 0 5 < 40) : am_OK w h (N_tl s pp lo hi) := by
  obtain ⟨o1, o2, o3, o4, o5, o6, o7, o8, o9, o10, o11, o12, o13, o14, o15, o16, o17, o18, o19⟩ := hO
  generalize hs' : N_tl s pp lo hi = s'
  unfold N_tl at hs'
  have e : ∀ r j, r ≠ 0 → r ≠ 10 → r ≠ 11 → r ≠ 12 → r ≠ 13 → s' r j = s r j := fun r j h0 h1 h2 h3 h4 => by rw [← hs', am_up_o h0, am_up_o h4, am_up_o h3, am_up_o h2, am_up_o h1]
  have e0 : ∀ j, s' 0 j = if j = 5 then s 0 5 + 1 else s 0 j := fun j => by rw [← hs', am_up_v, am_up_o (by decide), am_up_o (by decide), am_up_o (by decide), am_up_o (by decide)]
  have e10 : ∀ j, s' 10 j = if j = (s 0 5).toNat then pp else s 10 j := fun j => by rw [← hs', am_up_o (by decide), am_up_o (by decide), am_up_o (by decide), am_up_o (by decide), am_up_v]
  have e11 : ∀ j, s' 11 j = if j = (s 0 5).toNat then s 0 1 else s 11 j := fun j => by rw [← hs', am_up_o (by decide), am_up_o (by decide), am_up_o (by decide), am_up_v, am_up_o (by decide)]
  have e12 : ∀ j, s' 12 j = if j = (s 0 5).toNat then lo else s 12 j := fun j => by rw [← hs', am_up_o (by decide), am_up_o (by decide), am_up_v, am_up_o (by decide), am_up_o (by decide)]
  have e13 : ∀ j, s' 13 j = if j = (s 0 5).toNat then hi else s 13 j := fun j => by rw [← hs', am_up_o (by decide), am_up_v, am_up_o (by decide), am_up_o (by decide), am_up_o (by decide)]
  have a2 : s' 0 5 = s 0 5 + 1 := by rw [e0]; rfl
  have a : ∀ j, j ≠ 5 → s' 0 j = s 0 j := fun j hj => by rw [e0, if_neg hj]
  unfold am_OK
  simp only [e 1 _ (by decide) (by decide) (by decide) (by decide) (by decide), e 2 _ (by decide) (by decide) (by decide) (by decide) (by decide), e 3 _ (by decide) (by decide) (by decide) (by decide) (by decide), e 4 _ (by decide) (by decide) (by decide) (by decide) (by decide), e 5 _ (by decide) (by decide) (by decide) (by decide) (by decide), e 6 _ (by decide) (by decide) (by decide) (by decide) (by decide), e 7 _ (by decide) (by decide) (by decide) (by decide) (by decide), e 8 _ (by decide) (by decide) (by decide) (by decide) (by decide), e 9 _ (by decide) (by decide) (by decide) (by decide) (by decide), e 14 _ (by decide) (by decide) (by decide) (by decide) (by decide), a2, a 0 (by decide), a 1 (by decide), a 2 (by decide), a 3 (by decide), a 4 (by decide), a 6 (by decide)]
  refine ⟨o1, o2, o3, o4, o5, o6, by omega, o8, o9, o10, o11, o12, o13, o14, o15, fun t ht => ?_, fun t u htu hu => ?_, fun p hpp => ?_, o19⟩
  · rw [e10, e11, e12, e13]
    by_cases q : t = (s 0 5).toNat
    · rw [if_pos q, if_pos q, if_pos q, if_pos q]; exact ⟨hp, ⟨by omega, by omega⟩, hb⟩
    · rw [if_neg q, if_neg q, if_neg q, if_neg q]; exact o16 t (by omega)
  · rw [e11, e11]
    have nt : ¬ t = (s 0 5).toNat := by omega
    rw [if_neg nt]
    by_cases q : u = (s 0 5).toNat
    · rw [if_pos q]; exact (o16 t (by omega)).2.1.2
    · rw [if_neg q]; exact o17 t u htu (by omega)
  · rcases o18 p hpp with q | ⟨t, t1, t2⟩
    · exact ⟨(s 0 5).toNat, by omega, by rw [e10, if_pos rfl, q]⟩
    · exact ⟨t, by omega, by rw [e10, if_neg (by omega)]; exact t2⟩
theorem am_OK_tell (hO : am_OK w h s) {p lo hi : Int} : am_OK w h (N_tell s p lo hi) := by
  unfold N_tell
  by_cases q : (0 ≤ p ∧ p < s 0 4) ∧ (0 ≤ lo ∧ lo ≤ hi ∧ hi ≤ 3000) ∧ s 0 5 < 40
  · rw [if_pos q]
    obtain ⟨o1, o2, o3, o4, o5, o6, o7, o8, o9, o10, o11, o12, o13, o14, o15, o16, o17, o18, o19⟩ := hO
    exact am_OKx_tl ⟨o1, o2, o3, o4, o5, o6, o7, o8, o9, o10, o11, o12, o13, o14, o15, o16, o17, fun p hp => Or.inr (o18 p hp), o19⟩ q.1 q.2.1 q.2.2
  · rw [if_neg q]; exact hO
theorem am_OK_pick (hO : am_OK w h s) {e k kd lo hi : Int} : am_OK w h (N_pick s e k kd lo hi) := by
  unfold N_pick
  by_cases q : ((0 ≤ e ∧ e < s 0 2) ∧ (0 ≤ k ∧ k < s 0 3)) ∧ ((kd = 0 ∨ kd = 1) ∧ (0 ≤ lo ∧ lo ≤ hi ∧ hi ≤ 3000)) ∧ s 0 4 < 12 ∧ s 0 5 < 40
  · rw [if_pos q]
    obtain ⟨o1, o2, o3, o4, o5, o6, o7, o8, o9, o10, o11, o12, o13, o14, o15, o16, o17, o18, o19⟩ := hO
    generalize hs' : am_up (N_pk s e k kd) 0 4 (s 0 4 + 1) = s'
    unfold N_pk at hs'
    have ee : ∀ r j, r ≠ 0 → r ≠ 7 → r ≠ 8 → r ≠ 9 → s' r j = s r j := fun r j h0 h1 h2 h3 => by rw [← hs', am_up_o h0, am_up_o h3, am_up_o h2, am_up_o h1]
    have e0 : ∀ j, s' 0 j = if j = 4 then s 0 4 + 1 else s 0 j := fun j => by rw [← hs', am_up_v, am_up_o (by decide), am_up_o (by decide), am_up_o (by decide)]
    have e7 : ∀ j, s' 7 j = if j = (s 0 4).toNat then e else s 7 j := fun j => by rw [← hs', am_up_o (by decide), am_up_o (by decide), am_up_o (by decide), am_up_v]
    have e8 : ∀ j, s' 8 j = if j = (s 0 4).toNat then k else s 8 j := fun j => by rw [← hs', am_up_o (by decide), am_up_o (by decide), am_up_v, am_up_o (by decide)]
    have e9 : ∀ j, s' 9 j = if j = (s 0 4).toNat then kd else s 9 j := fun j => by rw [← hs', am_up_o (by decide), am_up_v, am_up_o (by decide), am_up_o (by decide)]
    have a2 : s' 0 4 = s 0 4 + 1 := by rw [e0]; rfl
    have a : ∀ j, j ≠ 4 → s' 0 j = s 0 j := fun j hj => by rw [e0, if_neg hj]
    refine am_OKx_tl ?_ (by rw [a2]; omega) q.2.1.2 (by rw [a 5 (by decide)]; exact q.2.2.2)
    unfold am_OKx
    simp only [ee 1 _ (by decide) (by decide) (by decide) (by decide), ee 2 _ (by decide) (by decide) (by decide) (by decide), ee 3 _ (by decide) (by decide) (by decide) (by decide), ee 4 _ (by decide) (by decide) (by decide) (by decide), ee 5 _ (by decide) (by decide) (by decide) (by decide), ee 6 _ (by decide) (by decide) (by decide) (by decide), ee 10 _ (by decide) (by decide) (by decide) (by decide), ee 11 _ (by decide) (by decide) (by decide) (by decide), ee 12 _ (by decide) (by decide) (by decide) (by decide), ee 13 _ (by decide) (by decide) (by decide) (by decide), ee 14 _ (by decide) (by decide) (by decide) (by decide), a2, a 0 (by decide), a 1 (by decide), a 2 (by decide), a 3 (by decide), a 5 (by decide), a 6 (by decide)]
    refine ⟨o1, o2, o3, o4, o5, by omega, o7, o8, o9, o10, o11, o12, o13, o14, fun p hp => ?_, fun t ht => ?_, o17, fun p hp => ?_, o19⟩
    · rw [e7, e8, e9]
      by_cases qp : p = (s 0 4).toNat
      · rw [if_pos qp, if_pos qp, if_pos qp]; exact ⟨q.1.1, q.1.2, q.2.1.1⟩
      · rw [if_neg qp, if_neg qp, if_neg qp]; exact o15 p (by omega)
    · have := o16 t ht
      exact ⟨by omega, this.2⟩
    · by_cases qp : p = (s 0 4).toNat
      · exact Or.inl (by omega)
      · exact Or.inr (o18 p (by omega))
  · rw [if_neg q]; exact hO
end AMOK
