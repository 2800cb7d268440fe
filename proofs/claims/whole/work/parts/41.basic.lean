/-! ===== tests; the simple calls ===== -/
theorem br1e {A B : Prop} (b : B) : ∃ z : Int, (some (Zi 1) : Option am_AV) = some (Zi z) ∧ am_SH = am_SH ∧ am_r z ∧ ((z = 0 → A) ∧ (¬ z = 0 → B)) := ⟨1, rfl, rfl, by decide, fun h => absurd h (by decide), fun _ => b⟩
theorem br0e {A B : Prop} (a : A) : ∃ z : Int, (some (Zi 0) : Option am_AV) = some (Zi z) ∧ am_SH = am_SH ∧ am_r z ∧ ((z = 0 → A) ∧ (¬ z = 0 → B)) := ⟨0, rfl, rfl, by decide, fun _ => a, fun h => absurd rfl h⟩
theorem br1n {A B : Prop} (b : B) : ∃ z : Int, (some (Zi 1) : Option am_AV) = some (Zi z) ∧ am_SH = am_SH ∧ am_r z ∧ ((¬ z = 0 → B) ∧ (z = 0 → A)) := ⟨1, rfl, rfl, by decide, fun _ => b, fun h => absurd h (by decide)⟩
theorem br0n {A B : Prop} (a : A) : ∃ z : Int, (some (Zi 0) : Option am_AV) = some (Zi z) ∧ am_SH = am_SH ∧ am_r z ∧ ((¬ z = 0 → B) ∧ (z = 0 → A)) := ⟨0, rfl, rfl, by decide, fun h => absurd rfl h, fun _ => a⟩
theorem bz1 {P : Option am_AV → am_Sh → am_St → Prop} {σ : am_St} (h : P (some (Zi 1)) am_SH σ) : ∃ z : Int, (some (Zi 1) : Option am_AV) = some (Zi z) ∧ am_SH = am_SH ∧ (z = 0 ∨ z = 1) ∧ P (some (Zi z)) am_SH σ := ⟨1, rfl, rfl, Or.inr rfl, h⟩
theorem bz0 {P : Option am_AV → am_Sh → am_St → Prop} {σ : am_St} (h : P (some (Zi 0)) am_SH σ) : ∃ z : Int, (some (Zi 0) : Option am_AV) = some (Zi z) ∧ am_SH = am_SH ∧ (z = 0 ∨ z = 1) ∧ P (some (Zi z)) am_SH σ := ⟨0, rfl, rfl, Or.inl rfl, h⟩
section AMB
variable {x : am_Sc} {Po : Option am_AV → am_Sh → am_St → Prop} {σ : am_St} {w h w2 h2 : Nat} {s s2 : Nat → Nat → Int}
theorem c_isW {v a b : Int} (rv : am_r v) (ra : am_r a) (rb : am_r b) (h1 : a ≤ v ∧ v ≤ b → Po (some (Zi 1)) am_SH σ) (h0 : ¬ (a ≤ v ∧ v ≤ b) → Po (some (Zi 0)) am_SH σ) : am_U x m_Sp_isWithin Po σ 0 [some (Zi v), some (Zi a), some (Zi b)] [] :=
  s_Sp_isWithin_0 ⟨rv, ra, fun h => s_Sp_isWithin_14 (s_Sp_isWithin_15 ⟨Or.inl rfl, h0 (by omega)⟩), fun h => ⟨rb, fun h' => s_Sp_isWithin_14 (s_Sp_isWithin_15 ⟨Or.inl rfl, h0 (by omega)⟩), fun h' => s_Sp_isWithin_15 ⟨Or.inr rfl, h1 (by omega)⟩⟩⟩
theorem c_in {v a b : Int} (rv : am_r v) (ra : am_r a) (rb : am_r b) (h1 : a ≤ v ∧ v ≤ b → Po (some (Zi 1)) am_SH σ) (h0 : ¬ (a ≤ v ∧ v ≤ b) → Po (some (Zi 0)) am_SH σ) : am_U x m_Mo_in Po σ 0 [some (Zi v), some (Zi a), some (Zi b)] [] :=
  s_Mo_in_0 ⟨rv, ra, fun h => s_Mo_in_14 (s_Mo_in_15 ⟨Or.inl rfl, h0 (by omega)⟩), fun h => ⟨rb, fun h' => s_Mo_in_14 (s_Mo_in_15 ⟨Or.inl rfl, h0 (by omega)⟩), fun h' => s_Mo_in_15 ⟨Or.inr rfl, h1 (by omega)⟩⟩⟩
theorem am_wh (hO : am_OK w h s) : 4 ≤ w * h ∧ w * h ≤ 16 := by
  obtain ⟨⟨a, b, c, d⟩, -⟩ := hO
  have h1 := Nat.mul_le_mul a c
  have h2 := Nat.mul_le_mul b d
  omega
theorem x_isCell {v : Int} (hX : am_RX w h s σ) (hb : w * h ≤ 16) (rv : am_r v) (h1 : 0 ≤ v ∧ v < ((w * h : Nat) : Int) → Po (some (Zi 1)) am_SH σ) (h0 : ¬ (0 ≤ v ∧ v < ((w * h : Nat) : Int)) → Po (some (Zi 0)) am_SH σ) : am_U x m_Sp_isCell Po σ 0 [some (Zr 0), some (Zi v)] [] := by
  have e := hX.2.1
  refine s_Sp_isCell_0 (c_isW rv (by decide) (by rw [e]; omega) (fun q => bz1 (h1 (by rw [e] at q; omega))) (fun q => bz0 (h0 (by rw [e] at q; omega))))
theorem m_isCell {v : Int} (hM : am_RM w h s σ) (hb : w * h ≤ 16) (rv : am_r v) (h1 : 0 ≤ v ∧ v < ((w * h : Nat) : Int) → Po (some (Zi 1)) am_SH σ) (h0 : ¬ (0 ≤ v ∧ v < ((w * h : Nat) : Int)) → Po (some (Zi 0)) am_SH σ) : am_U x m_Mo_isCell Po σ 0 [some (Zr 147), some (Zi v)] [] := by
  have e : σ.1 147 0 * σ.1 147 1 = ((w * h : Nat) : Int) := by rw [hM.2.1, hM.2.2]; push_cast; rfl
  refine s_Mo_isCell_0 (s_Mo_cells_0 ⟨_, rfl, rfl, ?_⟩)
  rw [e]
  exact c_in rv (by decide) (by omega) (fun q => bz1 (h1 (by omega))) (fun q => bz0 (h0 (by omega)))
theorem x_isBlock {v : Int} (rv : am_r v) (h1 : 0 ≤ v ∧ v < 8 → Po (some (Zi 1)) am_SH σ) (h0 : ¬ (0 ≤ v ∧ v < 8) → Po (some (Zi 0)) am_SH σ) : am_U x m_Sp_isBlock Po σ 0 [some (Zr 0), some (Zi v)] [] :=
  s_Sp_isBlock_0 (c_isW rv (by decide) (by decide) (fun q => bz1 (h1 (by omega))) (fun q => bz0 (h0 (by omega))))
theorem m_isBlock {v : Int} (rv : am_r v) (h1 : 0 ≤ v ∧ v < 8 → Po (some (Zi 1)) am_SH σ) (h0 : ¬ (0 ≤ v ∧ v < 8) → Po (some (Zi 0)) am_SH σ) : am_U x m_Mo_isBlock Po σ 0 [some (Zi v)] [] :=
  s_Mo_isBlock_0 (c_in rv (by decide) (by decide) (fun q => bz1 (h1 (by omega))) (fun q => bz0 (h0 (by omega))))
theorem x_isKind {v : Int} (rv : am_r v) (h1 : v = 0 ∨ v = 1 → Po (some (Zi 1)) am_SH σ) (h0 : ¬ (v = 0 ∨ v = 1) → Po (some (Zi 0)) am_SH σ) : am_U x m_Sp_isKind Po σ 0 [some (Zi v)] [] :=
  s_Sp_isKind_0 (c_isW rv (by decide) (by decide) (fun q => bz1 (h1 (by omega))) (fun q => bz0 (h0 (by omega))))
theorem m_isKind {v : Int} (rv : am_r v) (h1 : v = 0 ∨ v = 1 → Po (some (Zi 1)) am_SH σ) (h0 : ¬ (v = 0 ∨ v = 1) → Po (some (Zi 0)) am_SH σ) : am_U x m_Mo_isKind Po σ 0 [some (Zi v)] [] :=
  s_Mo_isKind_0 (c_in rv (by decide) (by decide) (fun q => bz1 (h1 (by omega))) (fun q => bz0 (h0 (by omega))))
theorem x_isEar {v : Int} (hX : am_RX w h s σ) (hb : 0 ≤ s 0 2 ∧ s 0 2 ≤ 6) (rv : am_r v) (h1 : 0 ≤ v ∧ v < s 0 2 → Po (some (Zi 1)) am_SH σ) (h0 : ¬ (0 ≤ v ∧ v < s 0 2) → Po (some (Zi 0)) am_SH σ) : am_U x m_Sp_isEar Po σ 0 [some (Zr 0), some (Zi v)] [] := by
  have e := hX.1.as 8 0 2 (by decide)
  exact s_Sp_isEar_0 (by rw [e]; exact c_isW rv (by decide) (by omega) (fun q => bz1 (h1 (by omega))) (fun q => bz0 (h0 (by omega))))
theorem x_isShake {v : Int} (hX : am_RX w h s σ) (hb : 0 ≤ s 0 3 ∧ s 0 3 ≤ 5) (rv : am_r v) (h1 : 0 ≤ v ∧ v < s 0 3 → Po (some (Zi 1)) am_SH σ) (h0 : ¬ (0 ≤ v ∧ v < s 0 3) → Po (some (Zi 0)) am_SH σ) : am_U x m_Sp_isShake Po σ 0 [some (Zr 0), some (Zi v)] [] := by
  have e := hX.1.as 8 3 3 (by decide)
  exact s_Sp_isShake_0 (by rw [e]; exact c_isW rv (by decide) (by omega) (fun q => bz1 (h1 (by omega))) (fun q => bz0 (h0 (by omega))))
theorem x_isPick {v : Int} (hX : am_RX w h s σ) (hb : 0 ≤ s 0 4 ∧ s 0 4 ≤ 12) (rv : am_r v) (h1 : 0 ≤ v ∧ v < s 0 4 → Po (some (Zi 1)) am_SH σ) (h0 : ¬ (0 ≤ v ∧ v < s 0 4) → Po (some (Zi 0)) am_SH σ) : am_U x m_Sp_isPick Po σ 0 [some (Zr 0), some (Zi v)] [] := by
  have e := hX.1.as 8 6 4 (by decide)
  exact s_Sp_isPick_0 (by rw [e]; exact c_isW rv (by decide) (by omega) (fun q => bz1 (h1 (by omega))) (fun q => bz0 (h0 (by omega))))
theorem m_isEar {v : Int} (hM : am_RM w h s σ) (hb : 0 ≤ s 0 2 ∧ s 0 2 ≤ 6) (rv : am_r v) (h1 : 0 ≤ v ∧ v < s 0 2 → Po (some (Zi 1)) am_SH σ) (h0 : ¬ (0 ≤ v ∧ v < s 0 2) → Po (some (Zi 0)) am_SH σ) : am_U x m_Mo_isEar Po σ 0 [some (Zr 147), some (Zi v)] [] := by
  have e := hM.1.as 147 5 2 (by decide)
  exact s_Mo_isEar_0 (by rw [e]; exact c_in rv (by decide) (by omega) (fun q => bz1 (h1 (by omega))) (fun q => bz0 (h0 (by omega))))
theorem m_isShake {v : Int} (hM : am_RM w h s σ) (hb : 0 ≤ s 0 3 ∧ s 0 3 ≤ 5) (rv : am_r v) (h1 : 0 ≤ v ∧ v < s 0 3 → Po (some (Zi 1)) am_SH σ) (h0 : ¬ (0 ≤ v ∧ v < s 0 3) → Po (some (Zi 0)) am_SH σ) : am_U x m_Mo_isShake Po σ 0 [some (Zr 147), some (Zi v)] [] := by
  have e := hM.1.as 147 8 3 (by decide)
  exact s_Mo_isShake_0 (by rw [e]; exact c_in rv (by decide) (by omega) (fun q => bz1 (h1 (by omega))) (fun q => bz0 (h0 (by omega))))
theorem m_isPick {v : Int} (hM : am_RM w h s σ) (hb : 0 ≤ s 0 4 ∧ s 0 4 ≤ 12) (rv : am_r v) (h1 : 0 ≤ v ∧ v < s 0 4 → Po (some (Zi 1)) am_SH σ) (h0 : ¬ (0 ≤ v ∧ v < s 0 4) → Po (some (Zi 0)) am_SH σ) : am_U x m_Mo_isPick Po σ 0 [some (Zr 147), some (Zi v)] [] := by
  have e := hM.1.as 147 11 4 (by decide)
  exact s_Mo_isPick_0 (by rw [e]; exact c_in rv (by decide) (by omega) (fun q => bz1 (h1 (by omega))) (fun q => bz0 (h0 (by omega))))
theorem x_isSpan {a b : Int} (ra : am_r a) (rb : am_r b) (h1 : 0 ≤ a ∧ a ≤ b ∧ b ≤ 3000 → Po (some (Zi 1)) am_SH σ) (h0 : ¬ (0 ≤ a ∧ a ≤ b ∧ b ≤ 3000) → Po (some (Zi 0)) am_SH σ) : am_U x m_Sp_isSpan Po σ 0 [some (Zi a), some (Zi b)] [] :=
  s_Sp_isSpan_0 ⟨ra, fun q => s_Sp_isSpan_20 (s_Sp_isSpan_21 ⟨Or.inl rfl, h0 (by omega)⟩), fun q => ⟨rb, fun q2 => s_Sp_isSpan_20 (s_Sp_isSpan_21 ⟨Or.inl rfl, h0 (by omega)⟩), fun q2 => ⟨fun q3 => s_Sp_isSpan_20 (s_Sp_isSpan_21 ⟨Or.inl rfl, h0 (by omega)⟩), fun q3 => s_Sp_isSpan_21 ⟨Or.inr rfl, h1 (by omega)⟩⟩⟩⟩
theorem m_isSpan {a b : Int} (ra : am_r a) (rb : am_r b) (h1 : 0 ≤ a ∧ a ≤ b ∧ b ≤ 3000 → Po (some (Zi 1)) am_SH σ) (h0 : ¬ (0 ≤ a ∧ a ≤ b ∧ b ≤ 3000) → Po (some (Zi 0)) am_SH σ) : am_U x m_Mo_isSpan Po σ 0 [some (Zi a), some (Zi b)] [] :=
  s_Mo_isSpan_0 (c_in ra (by decide) (by decide) (fun q => br1e (c_in rb ra (by decide) (fun q2 => br1e (s_Mo_isSpan_27 ⟨Or.inr rfl, h1 (by omega)⟩)) (fun q2 => br0e (s_Mo_isSpan_26 (s_Mo_isSpan_27 ⟨Or.inl rfl, h0 (by omega)⟩))))) (fun q => br0e (s_Mo_isSpan_26 (s_Mo_isSpan_27 ⟨Or.inl rfl, h0 (by omega)⟩))))
/-- an end, with the answer and the numbers named -/
theorem am_fX {A a : Int} {N n : Nat → Nat → Int} (k : ∀ σ', am_RX w h N σ' → am_RM w2 h2 s2 σ' → Po (some (Zi A)) am_SH σ') (ea : A = a) (en : N = n) (hX : am_RX w h n σ) (hM : am_RM w2 h2 s2 σ) : Po (some (Zi a)) am_SH σ := by
  subst ea; subst en; exact k σ hX hM
theorem am_fM {A a : Int} {N n : Nat → Nat → Int} (k : ∀ σ', am_RM w h N σ' → am_RX w2 h2 s2 σ' → Po (some (Zi A)) am_SH σ') (ea : A = a) (en : N = n) (hM : am_RM w h n σ) (hX : am_RX w2 h2 s2 σ) : Po (some (Zi a)) am_SH σ := by
  subst ea; subst en; exact k σ hM hX
/-! ratio -/
def A_ratio (s : Nat → Nat → Int) (v : Int) : Int := if 10 ≤ v ∧ v ≤ 30 then s 0 0 else -3
def N_ratio (s : Nat → Nat → Int) (v : Int) : Nat → Nat → Int := if 10 ≤ v ∧ v ≤ 30 then am_up s 0 0 v else s
theorem x_ratio {v : Int} (hX : am_RX w h s σ) (hM : am_RM w2 h2 s2 σ) (rv : am_r v) (k : ∀ σ', am_RX w h (N_ratio s v) σ' → am_RM w2 h2 s2 σ' → Po (some (Zi (A_ratio s v))) am_SH σ') : am_U x m_Sp_ratio Po σ 0 [some (Zr 0), some (Zi v), none] [] := by
  refine s_Sp_ratio_0 (c_isW rv (by decide) (by decide) (fun q => br1n (fun σ2 e => ?_)) (fun q => br0n (am_fX k (by simp [A_ratio, q]) (by simp [N_ratio, q]) hX hM)))
  subst e
  exact am_fX k (by simp only [A_ratio, if_pos q]; exact (hX.1.as 1 1 0 (by decide)).symm) (by simp only [N_ratio, if_pos q]) (hX.sc (i := 0) (by decide)) (hM.fx am_fx.up (by decide))
theorem m_ratio {v : Int} (hM : am_RM w h s σ) (hX : am_RX w2 h2 s2 σ) (rv : am_r v) (k : ∀ σ', am_RM w h (N_ratio s v) σ' → am_RX w2 h2 s2 σ' → Po (some (Zi (A_ratio s v))) am_SH σ') : am_U x m_Mo_ratio Po σ 0 [some (Zr 147), some (Zi v), none] [] := by
  refine s_Mo_ratio_0 (c_in rv (by decide) (by decide) (fun q => br1n (fun σ2 e => ?_)) (fun q => br0n (am_fM k (by simp [A_ratio, q]) (by simp [N_ratio, q]) hM hX)))
  subst e
  exact am_fM k (by simp only [A_ratio, if_pos q]; exact (hM.1.as 147 4 0 (by decide)).symm) (by simp only [N_ratio, if_pos q]) (hM.sc (i := 0) (by decide)) (hX.fx am_fx.up (by decide))
/-! slow -/
def A_slow (s : Nat → Nat → Int) (b v : Int) : Int := if ¬ (0 ≤ b ∧ b < 8) then -2 else if 1 ≤ v ∧ v ≤ 60 then s 2 b.toNat else -3
def N_slow (s : Nat → Nat → Int) (b v : Int) : Nat → Nat → Int := if (0 ≤ b ∧ b < 8) ∧ 1 ≤ v ∧ v ≤ 60 then am_up s 2 b.toNat v else s
theorem x_slow {b v : Int} (hX : am_RX w h s σ) (hM : am_RM w2 h2 s2 σ) (rb : am_r b) (rv : am_r v) (k : ∀ σ', am_RX w h (N_slow s b v) σ' → am_RM w2 h2 s2 σ' → Po (some (Zi (A_slow s b v))) am_SH σ') : am_U x m_Sp_slow Po σ 0 [some (Zr 0), some (Zi b), some (Zi v), none] [] := by
  refine s_Sp_slow_0 (x_isBlock rb (fun q => br1n (c_isW rv (by decide) (by decide) (fun q2 => br1n ⟨q, fun σ2 e => ?_⟩) (fun q2 => br0n (am_fX k (by simp [A_slow, q, q2]) (by simp [N_slow, q2]) hX hM)))) (fun q => br0n (am_fX k (by simp [A_slow, q]) (by simp [N_slow, q]) hX hM)))
  subst e
  exact am_fX k (by simp only [A_slow, if_neg (Classical.not_not.mpr q), if_pos q2]; exact (hX.1.at 3 2 8 (by decide) (by omega)).symm) (by simp only [N_slow, if_pos (And.intro q q2)]) (hX.row (r := 2) (by decide)) (hM.fx am_fx.up (by decide))
theorem m_slow {b v : Int} (hM : am_RM w h s σ) (hX : am_RX w2 h2 s2 σ) (rb : am_r b) (rv : am_r v) (k : ∀ σ', am_RM w h (N_slow s b v) σ' → am_RX w2 h2 s2 σ' → Po (some (Zi (A_slow s b v))) am_SH σ') : am_U x m_Mo_slow Po σ 0 [some (Zr 147), some (Zi b), some (Zi v), none] [] := by
  refine s_Mo_slow_0 (m_isBlock rb (fun q => br1n (c_in rv (by decide) (by decide) (fun q2 => br1n ⟨q, fun σ2 e => ?_⟩) (fun q2 => br0n (am_fM k (by simp [A_slow, q, q2]) (by simp [N_slow, q2]) hM hX)))) (fun q => br0n (am_fM k (by simp [A_slow, q]) (by simp [N_slow, q]) hM hX)))
  subst e
  exact am_fM k (by simp only [A_slow, if_neg (Classical.not_not.mpr q), if_pos q2]; exact (hM.1.at 149 2 8 (by decide) (by omega)).symm) (by simp only [N_slow, if_pos (And.intro q q2)]) (hM.row (r := 2) (by decide)) (hX.fx am_fx.up (by decide))
/-! days, erase -/
def A_days (s : Nat → Nat → Int) (n : Int) : Int := if (1 ≤ n ∧ n ≤ 50) ∧ s 0 1 + n ≤ 500 then s 0 1 + n else -3
def N_days (s : Nat → Nat → Int) (n : Int) : Nat → Nat → Int := if (1 ≤ n ∧ n ≤ 50) ∧ s 0 1 + n ≤ 500 then am_up s 0 1 (s 0 1 + n) else s
theorem x_days {n : Int} (hX : am_RX w h s σ) (hM : am_RM w2 h2 s2 σ) (hb : 0 ≤ s 0 1 ∧ s 0 1 ≤ 500) (rv : am_r n) (k : ∀ σ', am_RX w h (N_days s n) σ' → am_RM w2 h2 s2 σ' → Po (some (Zi (A_days s n))) am_SH σ') : am_U x m_Sp_days Po σ 0 [some (Zr 0), some (Zi n)] [] := by
  have e := hX.1.as 8 15 1 (by decide)
  refine s_Sp_days_0 (c_isW rv (by decide) (by decide) (fun q => br1e ?_) (fun q => br0e (s_Sp_days_25 (am_fX k (by simp [A_days, q]) (by simp [N_days, q]) hX hM))))
  rw [e]
  refine ⟨by omega, fun q2 σ2 e2 => ?_, fun q2 => s_Sp_days_25 (am_fX k (by simp only [A_days]; rw [if_neg (by omega)]) (by simp only [N_days]; rw [if_neg (by omega)]) hX hM)⟩
  subst e2
  refine am_fX k ?_ (by simp only [N_days]; rw [if_pos ⟨q, q2⟩]) (hX.sc (by decide)) (hM.fx am_fx.up (by decide))
  simp only [A_days]
  rw [if_pos ⟨q, q2⟩]
  simp [am_up]
theorem m_days {n : Int} (hM : am_RM w h s σ) (hX : am_RX w2 h2 s2 σ) (hb : 0 ≤ s 0 1 ∧ s 0 1 ≤ 500) (rv : am_r n) (k : ∀ σ', am_RM w h (N_days s n) σ' → am_RX w2 h2 s2 σ' → Po (some (Zi (A_days s n))) am_SH σ') : am_U x m_Mo_days Po σ 0 [some (Zr 147), some (Zi n)] [] := by
  have e := hM.1.as 147 20 1 (by decide)
  refine s_Mo_days_0 (c_in rv (by decide) (by decide) (fun q => br1e ?_) (fun q => br0e (s_Mo_days_22 (am_fM k (by simp [A_days, q]) (by simp [N_days, q]) hM hX))))
  rw [e]
  refine ⟨by omega, fun q2 σ2 e2 => ?_, fun q2 => s_Mo_days_22 (am_fM k (by simp only [A_days]; rw [if_neg (by omega)]) (by simp only [N_days]; rw [if_neg (by omega)]) hM hX)⟩
  subst e2
  refine am_fM k ?_ (by simp only [N_days]; rw [if_pos ⟨q, q2⟩]) (hM.sc (by decide)) (hX.fx am_fx.up (by decide))
  simp only [A_days]
  rw [if_pos ⟨q, q2⟩]
  simp [am_up]
theorem x_erase (hX : am_RX w h s σ) (hM : am_RM w2 h2 s2 σ) (k : ∀ σ', am_RX w h (am_up s 0 6 0) σ' → am_RM w2 h2 s2 σ' → Po (some (Zi (s 0 6))) am_SH σ') : am_U x m_Sp_erase Po σ 0 [some (Zr 0), none] [] := by
  refine s_Sp_erase_0 (fun σ1 e => ?_)
  subst e
  exact am_fX k (hX.1.as 137 3 6 (by decide)).symm rfl (hX.sc (by decide)) (hM.fx am_fx.up (by decide))
theorem m_erase (hM : am_RM w h s σ) (hX : am_RX w2 h2 s2 σ) (k : ∀ σ', am_RM w h (am_up s 0 6 0) σ' → am_RX w2 h2 s2 σ' → Po (some (Zi (s 0 6))) am_SH σ') : am_U x m_Mo_erase Po σ 0 [some (Zr 147), none] [] := by
  refine s_Mo_erase_0 (fun σ1 e => ?_)
  subst e
  exact am_fM k (hM.1.as 147 31 6 (by decide)).symm rfl (hM.sc (by decide)) (hX.fx am_fx.up (by decide))
end AMB
