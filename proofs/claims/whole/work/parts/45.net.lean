/-! ===== least times on the net: what they are, that there is one such row of numbers, that relaxing finds it ===== -/
theorem am_div_nn {a b : Int} (ha : am_r a) (hb : am_r b) (h0 : 0 ≤ a) (h1 : 0 < b) : am_div a b = a / b := by
  unfold am_div
  rw [lg_idiv_nonneg (by rw [am_toInt ha]; exact h0) (by rw [am_toInt hb]; exact h1), am_toInt ha, am_toInt hb]
def am_pr (r v k : Int) : Int := if k = 0 then v else v * r / 10
def am_cost (s : Nat → Nat → Int) (k : Int) (b : Nat) : Int := am_pr (s 0 0) (s 2 (s 1 b).toNat) k
theorem am_pr_b {r v k : Int} (hr : 10 ≤ r ∧ r ≤ 30) (hv : 1 ≤ v ∧ v ≤ 60) : 1 ≤ am_pr r v k ∧ am_pr r v k ≤ 180 := by
  unfold am_pr
  split
  · omega
  · have h1 : 1 * 10 ≤ v * r := Int.mul_le_mul hv.1 hr.1 (by omega) (by omega)
    have h2 : v * r ≤ 60 * 30 := Int.mul_le_mul hv.2 hr.2 (by omega) (by omega)
    omega
theorem am_pr_div {r v k : Int} (hr : 10 ≤ r ∧ r ≤ 30) (hv : 1 ≤ v ∧ v ≤ 60) (hk : ¬ k = 0) : am_div (v * r) 10 = am_pr r v k := by
  have h1 : 1 * 10 ≤ v * r := Int.mul_le_mul hv.1 hr.1 (by omega) (by omega)
  have h2 : v * r ≤ 60 * 30 := Int.mul_le_mul hv.2 hr.2 (by omega) (by omega)
  unfold am_pr
  rw [am_div_nn ⟨by omega, by omega⟩ (by decide) (by omega) (by decide), if_neg hk]
theorem am_cost_b {w h : Nat} {s : Nat → Nat → Int} {k : Int} (hO : am_OK w h s) {b : Nat} (hb : b < w * h) : 1 ≤ am_cost s k b ∧ am_cost s k b ≤ 180 := by
  have h1 := hO.2.2.2.2.2.2.2.2.1 b (by have := (am_wh hO).2; omega)
  exact am_pr_b hO.2.1 (hO.2.2.2.2.2.2.2.2.2.1 _ (by omega))
def am_adjb (w h a b : Nat) : Bool := Nat.blt a (w * h) && (Nat.blt b (w * h) && ((b == a + w) || ((a == b + w) || ((b == a + 1 && !(b % w == 0)) || (a == b + 1 && !(a % w == 0))))))
def am_adj (w h a b : Nat) : Prop := a < w * h ∧ b < w * h ∧ (b = a + w ∨ a = b + w ∨ (b = a + 1 ∧ b % w ≠ 0) ∨ (a = b + 1 ∧ a % w ≠ 0))
theorem am_adj_iff {w h a b : Nat} : am_adjb w h a b = true ↔ am_adj w h a b := by
  unfold am_adjb am_adj
  simp only [Bool.and_eq_true, Bool.or_eq_true, beq_iff_eq, Bool.not_eq_true', beq_eq_false_iff_ne, ne_eq, Nat.blt_eq]
theorem am_adj.sym {w h a b : Nat} (hh : am_adj w h a b) : am_adj w h b a := by
  obtain ⟨h1, h2, h3⟩ := hh
  exact ⟨h2, h1, by omega⟩
theorem am_adj.ne {w h a b : Nat} (hw : 0 < w) (hh : am_adj w h a b) : a ≠ b := by
  obtain ⟨h1, h2, h3⟩ := hh
  omega
/-- the sides of a cell are its neighbours -/
theorem am_bs_adj {w h c i : Nat} (hw : 2 ≤ w ∧ w ≤ 4 ∧ 2 ≤ h ∧ h ≤ 4) (hc : c < w * h) (hi : i < 4) : am_bs w h c i = -1 ∨ ∃ b : Nat, am_bs w h c i = (b : Int) ∧ am_adj w h b c := by
  unfold am_bs am_adj
  rcases (show i = 0 ∨ i = 1 ∨ i = 2 ∨ i = 3 by omega) with rfl | rfl | rfl | rfl
  · simp only [if_true]
    by_cases q : c < w
    · left; rw [if_pos q]
    · right; rw [if_neg q]; exact ⟨c - w, by omega, by omega, hc, by omega⟩
  · simp only [if_true, if_neg (show ¬ (1 : Nat) = 0 by decide)]
    by_cases q : c % w = 0
    · left; rw [if_pos q]
    · right; rw [if_neg q]
      have : c ≠ 0 := fun e => q (by rw [e]; exact Nat.zero_mod w)
      exact ⟨c - 1, by omega, by omega, hc, by omega⟩
  · simp only [if_true, if_neg (show ¬ (2 : Nat) = 0 by decide), if_neg (show ¬ (2 : Nat) = 1 by decide)]
    by_cases q : c % w + 1 = w
    · left; rw [if_pos q]
    · right; rw [if_neg q]
      refine ⟨c + 1, by omega, ?_, hc, Or.inr (Or.inr (Or.inr ⟨rfl, ?_⟩))⟩ <;>
      · obtain ⟨h1, h2, h3, h4⟩ := hw
        rcases (show w = 2 ∨ w = 3 ∨ w = 4 by omega) with rfl | rfl | rfl <;> rcases (show h = 2 ∨ h = 3 ∨ h = 4 by omega) with rfl | rfl | rfl <;> omega
  · simp only [if_neg (show ¬ (3 : Nat) = 0 by decide), if_neg (show ¬ (3 : Nat) = 1 by decide), if_neg (show ¬ (3 : Nat) = 2 by decide)]
    by_cases q : c + w < w * h
    · right; rw [if_pos q]; exact ⟨c + w, by omega, q, hc, by omega⟩
    · left; rw [if_neg q]
theorem am_adj_bs {w h b c : Nat} (hw : 2 ≤ w ∧ w ≤ 4 ∧ 2 ≤ h ∧ h ≤ 4) (hb : am_adj w h b c) : ∃ i, i < 4 ∧ am_bs w h c i = (b : Int) := by
  obtain ⟨h1, h2, h3⟩ := hb
  rcases h3 with q | q | ⟨q, q2⟩ | ⟨q, q2⟩
  · exact ⟨0, by decide, by unfold am_bs; rw [if_pos rfl, if_neg (by omega)]; omega⟩
  · exact ⟨3, by decide, by unfold am_bs; rw [if_neg (by decide), if_neg (by decide), if_neg (by decide), if_pos (by omega)]; omega⟩
  · exact ⟨1, by decide, by unfold am_bs; rw [if_neg (by decide), if_pos rfl, if_neg q2]; omega⟩
  · refine ⟨2, by decide, ?_⟩
    unfold am_bs
    rw [if_neg (by decide), if_neg (by decide), if_pos rfl, if_neg ?_]
    · omega
    · obtain ⟨g1, g2, g3, g4⟩ := hw
      rcases (show w = 2 ∨ w = 3 ∨ w = 4 by omega) with rfl | rfl | rfl <;> omega
def am_man (w f b : Nat) : Nat := (f % w - b % w) + (b % w - f % w) + ((f / w - b / w) + (b / w - f / w))
theorem am_man_okb : ∀ w, w < 5 → ∀ h, h < 5 → ∀ f, f < w * h → ∀ b, b < w * h → (Nat.blt w 2 || (Nat.blt h 2 || (b == f || (Nat.ble (am_man w f b) 6 && (List.range (w * h)).any fun a => am_adjb w h a b && (am_man w f a + 1 == am_man w f b))))) = true := by decide +kernel
theorem am_man_ok (w : Nat) (hw : w < 5) (h : Nat) (hh : h < 5) (h2 : 2 ≤ w) (h3 : 2 ≤ h) (f : Nat) (hf : f < w * h) (b : Nat) (hb : b < w * h) (hn : b ≠ f) : (Nat.ble (am_man w f b) 6 && (List.range (w * h)).any fun a => am_adjb w h a b && (am_man w f a + 1 == am_man w f b)) = true := by
  have := am_man_okb w hw h hh f hf b hb
  rw [show Nat.blt w 2 = false by rw [Bool.eq_false_iff]; intro q; rw [Nat.blt_eq] at q; omega, show Nat.blt h 2 = false by rw [Bool.eq_false_iff]; intro q; rw [Nat.blt_eq] at q; omega, show (b == f) = false by rw [beq_eq_false_iff_ne]; exact hn] at this
  simpa only [Bool.false_or] using this
/-- the least times from f -/
def am_IsD (w h : Nat) (c : Nat → Int) (f : Nat) (d : Nat → Int) : Prop := f < w * h ∧ d f = 0 ∧ (∀ b, b < w * h → 0 ≤ d b) ∧ (∀ a b, am_adj w h a b → d b ≤ d a + c a + c b) ∧ ∀ b, b < w * h → b ≠ f → ∃ a, am_adj w h a b ∧ d b = d a + c a + c b
theorem am_IsD.le {w h : Nat} {c : Nat → Int} {f : Nat} {d d' : Nat → Int} (hc : ∀ b, b < w * h → 1 ≤ c b) (hd : am_IsD w h c f d) (hd' : am_IsD w h c f d') : ∀ (n b : Nat), b < w * h → d' b ≤ (n : Int) → d b ≤ d' b := by
  intro n
  induction n with
  | zero =>
    intro b hb hn
    by_cases e : b = f
    · subst e; rw [hd.2.1, hd'.2.1]; exact Int.le_refl 0
    · obtain ⟨a, ha, he⟩ := hd'.2.2.2.2 b hb e
      have := hd'.2.2.1 a ha.1
      have := hc a ha.1
      have := hc b hb
      omega
  | succ n ih =>
    intro b hb hn
    by_cases e : b = f
    · subst e; rw [hd.2.1, hd'.2.1]; exact Int.le_refl 0
    · obtain ⟨a, ha, he⟩ := hd'.2.2.2.2 b hb e
      have h1 := hc a ha.1
      have h2 := hc b hb
      have h3 := ih a ha.1 (by omega)
      have h4 := hd.2.2.2.1 a b ha
      omega
theorem am_IsD.uniq {w h : Nat} {c : Nat → Int} {f : Nat} {d d' : Nat → Int} (hc : ∀ b, b < w * h → 1 ≤ c b) (hd : am_IsD w h c f d) (hd' : am_IsD w h c f d') {b : Nat} (hb : b < w * h) : d b = d' b := by
  have h1 := hd.2.2.1 b hb
  have h2 := hd'.2.2.1 b hb
  have a1 := hd.le hc hd' (d' b).toNat b hb (by omega)
  have a2 := hd'.le hc hd (d b).toNat b hb (by omega)
  omega
/-- what relaxing keeps -/
def am_RI (w h : Nat) (c : Nat → Int) (f : Nat) (L : Nat → Int) : Prop := f < w * h ∧ L f = 0 ∧ (∀ b, b < w * h → 0 ≤ L b ∧ L b ≤ 1000000) ∧ ∀ b, b < w * h → b ≠ f → L b = 1000000 ∨ ∃ a, am_adj w h a b ∧ L a + c a + c b ≤ L b
theorem am_RI.relax {w h : Nat} {c : Nat → Int} {f : Nat} {L : Nat → Int} (hw : 0 < w) (hc : ∀ b, b < w * h → 1 ≤ c b) (hr : am_RI w h c f L) {a b : Nat} {v : Int} (ha : am_adj w h a b) (hv : v = L a + c a + c b) (hl : v < L b) : am_RI w h c f (fun j => if j = b then v else L j) := by
  obtain ⟨h1, h2, h3, h4⟩ := hr
  have b1 := h3 a ha.1
  have b2 := h3 b ha.2.1
  have c1 := hc a ha.1
  have c2 := hc b ha.2.1
  have nf : ¬ f = b := fun e => by rw [← e, h2] at hl; omega
  have nab := ha.ne hw
  have E : ∀ j, (fun j => if j = b then v else L j) j = if j = b then v else L j := fun _ => rfl
  refine ⟨h1, by rw [E, if_neg nf]; exact h2, fun j hj => ?_, fun j hj hjf => ?_⟩
  · rw [E]
    by_cases e : j = b
    · rw [if_pos e]; omega
    · rw [if_neg e]; exact h3 j hj
  · rw [E]
    by_cases e : j = b
    · rw [if_pos e]
      right
      refine ⟨a, e ▸ ha, ?_⟩
      rw [E, if_neg nab, e]
      omega
    · rw [if_neg e]
      rcases h4 j hj hjf with q | ⟨a', ha', q⟩
      · exact Or.inl q
      · right
        refine ⟨a', ha', ?_⟩
        rw [E]
        by_cases e' : a' = b
        · rw [if_pos e']; rw [e'] at q ⊢; omega
        · rw [if_neg e']; exact q
/-- where no step helps, these are the least times -/
theorem am_RI.fix {w h : Nat} {c : Nat → Int} {f : Nat} {L : Nat → Int} (hw : 2 ≤ w ∧ w ≤ 4 ∧ 2 ≤ h ∧ h ≤ 4) (hc : ∀ b, b < w * h → 1 ≤ c b ∧ c b ≤ 180) (hr : am_RI w h c f L) (hf : ∀ a b, am_adj w h a b → L b ≤ L a + c a + c b) : am_IsD w h c f L := by
  obtain ⟨h1, h2, h3, h4⟩ := hr
  have up : ∀ (m b : Nat), b < w * h → am_man w f b ≤ m → L b ≤ 360 * (m : Int) := by
    intro m
    induction m with
    | zero =>
      intro b hb hm
      by_cases e : b = f
      · subst e; rw [h2]; omega
      · have hk := am_man_ok w (by omega) h (by omega) hw.1 hw.2.2.1 f h1 b hb e
        simp only [Bool.and_eq_true, List.any_eq_true, beq_iff_eq] at hk
        obtain ⟨-, a, -, -, q⟩ := hk
        omega
    | succ m ih =>
      intro b hb hm
      by_cases e : b = f
      · subst e; rw [h2]; omega
      · have hk := am_man_ok w (by omega) h (by omega) hw.1 hw.2.2.1 f h1 b hb e
        simp only [Bool.and_eq_true, List.any_eq_true, beq_iff_eq] at hk
        obtain ⟨-, a, -, q1, q⟩ := hk
        have ha := am_adj_iff.mp q1
        have g1 := ih a ha.1 (by omega)
        have g2 := hf a b ha
        have g3 := hc a ha.1
        have g4 := hc b hb
        omega
  refine ⟨h1, h2, fun b hb => (h3 b hb).1, hf, fun b hb hbf => ?_⟩
  have hk := am_man_ok w (by omega) h (by omega) hw.1 hw.2.2.1 f h1 b hb hbf
  have h6 := Nat.le_of_ble_eq_true (Bool.and_eq_true_iff.mp hk).1
  have g1 := up 6 b hb h6
  rcases h4 b hb hbf with q | ⟨a, ha, q⟩
  · omega
  · exact ⟨a, ha, by have := hf a b ha; omega⟩
def am_mu (L : Nat → Int) : Nat → Nat
  | 0 => 0
  | n + 1 => am_mu L n + (L n).toNat
theorem am_mu_o {L : Nat → Int} {b : Nat} {v : Int} : ∀ {n : Nat}, n ≤ b → am_mu (fun j => if j = b then v else L j) n = am_mu L n
  | 0, _ => rfl
  | n + 1, h => by
    have ih := am_mu_o (L := L) (b := b) (v := v) (n := n) (by omega)
    show am_mu _ n + _ = am_mu L n + _
    rw [ih]
    show _ + (if n = b then v else L n).toNat = _
    rw [if_neg (by omega)]
theorem am_mu_lt {L : Nat → Int} {b : Nat} {v : Int} (h0 : 0 ≤ v) (hv : v < L b) : ∀ {n : Nat}, b < n → am_mu (fun j => if j = b then v else L j) n < am_mu L n
  | 0, h => absurd h (Nat.not_lt_zero b)
  | n + 1, h => by
    show am_mu _ n + (if n = b then v else L n).toNat < am_mu L n + (L n).toNat
    by_cases e : n = b
    · subst e
      rw [am_mu_o (Nat.le_refl n), if_pos rfl]
      omega
    · have ih := am_mu_lt (L := L) (b := b) (v := v) h0 hv (n := n) (by omega)
      rw [if_neg e]
      omega
theorem am_IsD_ex {w h : Nat} {c : Nat → Int} {f : Nat} (hw : 2 ≤ w ∧ w ≤ 4 ∧ 2 ≤ h ∧ h ≤ 4) (hc : ∀ b, b < w * h → 1 ≤ c b ∧ c b ≤ 180) (hf : f < w * h) : ∃ d, am_IsD w h c f d := by
  have go : ∀ (n : Nat) (L : Nat → Int), am_RI w h c f L → am_mu L (w * h) ≤ n → ∃ d, am_IsD w h c f d := by
    intro n
    induction n with
    | zero =>
      intro L hr hm
      by_cases q : ∀ a b, am_adj w h a b → L b ≤ L a + c a + c b
      · exact ⟨L, hr.fix hw hc q⟩
      · exfalso
        apply q
        intro a b ha
        have hz : ∀ (n b : Nat), b < n → (L b).toNat ≤ am_mu L n := by
          intro n
          induction n with
          | zero => intro b hb; omega
          | succ n ih =>
            intro b hb
            show _ ≤ am_mu L n + (L n).toNat
            by_cases e : b = n
            · subst e; omega
            · have := ih b (by omega); omega
        have h1 := hz _ b ha.2.1
        have h2 := (hr.2.2.1 a ha.1).1
        have h3 := hc a ha.1
        have h4 := hc b ha.2.1
        omega
    | succ n ih =>
      intro L hr hm
      by_cases q : ∀ a b, am_adj w h a b → L b ≤ L a + c a + c b
      · exact ⟨L, hr.fix hw hc q⟩
      · simp only [Classical.not_forall] at q
        obtain ⟨a, b, ha, q⟩ := q
        have h2 := (hr.2.2.1 a ha.1).1
        have h3 := hc a ha.1
        have h4 := hc b ha.2.1
        refine ih (fun j => if j = b then L a + c a + c b else L j) (hr.relax (by omega) (fun b hb => (hc b hb).1) ha rfl (by omega)) ?_
        have := am_mu_lt (L := L) (b := b) (v := L a + c a + c b) (by omega) (by omega) ha.2.1
        omega
  have E : ∀ j, (fun j => if j = f then (0 : Int) else 1000000) j = if j = f then 0 else 1000000 := fun _ => rfl
  refine go _ (fun j => if j = f then 0 else 1000000) ⟨hf, by rw [E, if_pos rfl], fun b hb => ?_, fun b hb e => Or.inl (by rw [E, if_neg e])⟩ (Nat.le_refl _)
  rw [E]
  by_cases e : b = f
  · rw [if_pos e]; omega
  · rw [if_neg e]; omega
/-- how many cells are nearer -/
def am_rk (d : Nat → Int) (b : Nat) : Nat → Nat
  | 0 => 0
  | n + 1 => am_rk d b n + if d n < d b then 1 else 0
theorem am_rk_le {d : Nat → Int} {b : Nat} : ∀ n, am_rk d b n ≤ n
  | 0 => Nat.le_refl 0
  | n + 1 => by
    have := am_rk_le (d := d) (b := b) n
    show am_rk d b n + _ ≤ n + 1
    split <;> omega
theorem am_rk_self {d : Nat → Int} {b : Nat} : ∀ {n}, b < n → am_rk d b n < n
  | 0, h => absurd h (Nat.not_lt_zero b)
  | n + 1, h => by
    show am_rk d b n + _ < n + 1
    by_cases e : b = n
    · subst e
      rw [if_neg (by omega)]
      have := am_rk_le (d := d) (b := b) b
      omega
    · have := am_rk_self (d := d) (b := b) (n := n) (by omega)
      split <;> omega
theorem am_rk_mono {d : Nat → Int} {a b : Nat} (h : d a < d b) : ∀ n, am_rk d a n ≤ am_rk d b n
  | 0 => Nat.le_refl 0
  | n + 1 => by
    have := am_rk_mono (d := d) h n
    show am_rk d a n + _ ≤ am_rk d b n + _
    by_cases q : d n < d a
    · rw [if_pos q, if_pos (by omega)]; omega
    · rw [if_neg q]; omega
theorem am_rk_lt {d : Nat → Int} {a b : Nat} (h : d a < d b) : ∀ {n}, a < n → am_rk d a n < am_rk d b n
  | 0, ha => absurd ha (Nat.not_lt_zero a)
  | n + 1, ha => by
    show am_rk d a n + _ < am_rk d b n + _
    by_cases e : a = n
    · subst e
      rw [if_neg (by omega), if_pos h]
      have := am_rk_mono (d := d) h a
      omega
    · have := am_rk_lt (d := d) h (n := n) (by omega)
      by_cases q : d n < d a
      · rw [if_pos q, if_pos (by omega)]; omega
      · rw [if_neg q]; omega
/-- relaxing never goes below -/
theorem am_RI.ge {w h : Nat} {c : Nat → Int} {f : Nat} {L d : Nat → Int} (hc : ∀ b, b < w * h → 1 ≤ c b ∧ c b ≤ 180) (hr : am_RI w h c f L) (hd : am_IsD w h c f d) (hb6 : ∀ b, b < w * h → d b ≤ 1000000) : ∀ (n b : Nat), b < w * h → L b ≤ (n : Int) → d b ≤ L b := by
  intro n
  induction n with
  | zero =>
    intro b hb hn
    by_cases e : b = f
    · subst e; rw [hd.2.1, hr.2.1]; exact Int.le_refl 0
    · rcases hr.2.2.2 b hb e with q | ⟨a, ha, q⟩
      · have := hb6 b hb; omega
      · have := (hr.2.2.1 a ha.1).1
        have := hc a ha.1
        have := hc b hb
        omega
  | succ n ih =>
    intro b hb hn
    by_cases e : b = f
    · subst e; rw [hd.2.1, hr.2.1]; exact Int.le_refl 0
    · rcases hr.2.2.2 b hb e with q | ⟨a, ha, q⟩
      · have := hb6 b hb; omega
      · have g1 := hc a ha.1
        have g2 := hc b hb
        have g3 := ih a ha.1 (by omega)
        have g4 := hd.2.2.2.1 a b ha
        omega
theorem am_IsD.bd {w h : Nat} {c : Nat → Int} {f : Nat} {d : Nat → Int} (hw : 2 ≤ w ∧ w ≤ 4 ∧ 2 ≤ h ∧ h ≤ 4) (hc : ∀ b, b < w * h → 1 ≤ c b ∧ c b ≤ 180) (hd : am_IsD w h c f d) {b : Nat} (hb : b < w * h) : 0 ≤ d b ∧ d b ≤ 2160 := by
  have up : ∀ (m b : Nat), b < w * h → am_man w f b ≤ m → d b ≤ 360 * (m : Int) := by
    intro m
    induction m with
    | zero =>
      intro b hb hm
      by_cases e : b = f
      · subst e; rw [hd.2.1]; omega
      · have hk := am_man_ok w (by omega) h (by omega) hw.1 hw.2.2.1 f hd.1 b hb e
        simp only [Bool.and_eq_true, List.any_eq_true, beq_iff_eq] at hk
        obtain ⟨-, a, -, -, q⟩ := hk
        omega
    | succ m ih =>
      intro b hb hm
      by_cases e : b = f
      · subst e; rw [hd.2.1]; omega
      · have hk := am_man_ok w (by omega) h (by omega) hw.1 hw.2.2.1 f hd.1 b hb e
        simp only [Bool.and_eq_true, List.any_eq_true, beq_iff_eq] at hk
        obtain ⟨-, a, -, q1, q⟩ := hk
        have ha := am_adj_iff.mp q1
        have g1 := ih a ha.1 (by omega)
        have g2 := hd.2.2.2.1 a b ha
        have g3 := hc a ha.1
        have g4 := hc b hb
        omega
  refine ⟨hd.2.2.1 b hb, ?_⟩
  by_cases e : b = f
  · subst e; rw [hd.2.1]; omega
  · have hk := am_man_ok w (by omega) h (by omega) hw.1 hw.2.2.1 f hd.1 b hb e
    have h6 := Nat.le_of_ble_eq_true (Bool.and_eq_true_iff.mp hk).1
    exact up 6 b hb h6
/-- the least times, as a function -/
noncomputable def am_dst (w h : Nat) (c : Nat → Int) (f : Nat) : Nat → Int := Classical.epsilon (am_IsD w h c f)
theorem am_dst_is {w h : Nat} {c : Nat → Int} {f : Nat} (hw : 2 ≤ w ∧ w ≤ 4 ∧ 2 ≤ h ∧ h ≤ 4) (hc : ∀ b, b < w * h → 1 ≤ c b ∧ c b ≤ 180) (hf : f < w * h) : am_IsD w h c f (am_dst w h c f) := Classical.epsilon_spec (am_IsD_ex hw hc hf)
