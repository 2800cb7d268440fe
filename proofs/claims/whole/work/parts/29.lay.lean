/-! ===== the net: the cells beside each one ===== -/
def am_bs (w h c i : Nat) : Int := if i = 0 then (if c < w then -1 else (c : Int) - w) else if i = 1 then (if c % w = 0 then -1 else (c : Int) - 1) else if i = 2 then (if c % w + 1 = w then -1 else (c : Int) + 1) else (if c + w < w * h then (c : Int) + w else -1)
theorem am_bs_f {w h y x : Nat} (hw : 2 ≤ w ∧ w ≤ 4) (hx : x < w) : (w * y + x < w ↔ y = 0) ∧ (w * y + x) % w = x ∧ (w * y + x + w < w * h ↔ y + 1 < h) := by
  rcases (show w = 2 ∨ w = 3 ∨ w = 4 by omega) with rfl | rfl | rfl <;> refine ⟨by omega, by omega, by omega⟩
/-- the cells before c are laid, and of c the first i sides -/
def am_lp (w h c i : Nat) (σ0 σ : am_St) : Prop := σ.2 = σ0.2 ∧ (∀ k, k ≠ 4 → σ.1 k = σ0.1 k) ∧ (∀ c' i', c' < c → i' < 4 → σ.1 4 (4 * c' + i') = am_bs w h c' i') ∧ ∀ i', i' < i → σ.1 4 (4 * c + i') = am_bs w h c i'
theorem am_lp_up {w h c i : Nat} {σ0 σ : am_St} {v : Int} (h1 : am_lp w h c i σ0 σ) (hi : i < 4) (hv : v = am_bs w h c i) : am_lp w h c (i + 1) σ0 (am_up σ.1 4 (4 * c + i) v, σ.2) := by
  obtain ⟨a, b, c1, d⟩ := h1
  refine ⟨a, fun k hk => by show am_up σ.1 4 _ v k = _; rw [am_up_o hk]; exact b k hk, fun c' i' hc hi' => ?_, fun i' hi' => ?_⟩
  · show am_up σ.1 4 (4 * c + i) v 4 (4 * c' + i') = _
    rw [am_up_row]
    show (if _ then _ else _) = _
    rw [if_neg (by omega)]
    exact c1 c' i' hc hi'
  · show am_up σ.1 4 (4 * c + i) v 4 (4 * c + i') = _
    rw [am_up_row]
    show (if _ then _ else _) = _
    by_cases e : i' = i
    · subst e; rw [if_pos rfl]; exact hv
    · rw [if_neg (by omega)]; exact d i' (by omega)
theorem am_lp_next {w h c : Nat} {σ0 σ : am_St} (h1 : am_lp w h c 4 σ0 σ) : am_lp w h (c + 1) 0 σ0 σ := by
  obtain ⟨a, b, c1, d⟩ := h1
  refine ⟨a, b, fun c' i' hc hi' => ?_, fun i' hi' => absurd hi' (by omega)⟩
  by_cases e : c' = c
  · subst e; exact d i' hi'
  · exact c1 c' i' (by omega) hi'
/-- what lay does -/
def am_layP (w h : Nat) (σ σ' : am_St) : Prop := σ'.2 = σ.2 ∧ (∀ k, k ≠ 1 → k ≠ 2 → k ≠ 3 → k ≠ 4 → σ'.1 k = σ.1 k) ∧ σ'.1 1 0 = ((w * h : Nat) : Int) ∧ (∀ j, j ≠ 0 → σ'.1 1 j = σ.1 1 j) ∧ (∀ j, j < 16 → σ'.1 2 j = 0) ∧ (∀ j, j < 8 → σ'.1 3 j = 10) ∧ ∀ c i, c < w * h → i < 4 → σ'.1 4 (4 * c + i) = am_bs w h c i
theorem c_lay {sh : am_Sh} (hl : Nat.ble sh.length 1000000 = true) (hs1 : sh[1]? = some (0, 9, [none, none, some 2, some 3, some 4, some 5, some 6, some 7, none])) (hs2 : sh[2]? = some (12, 16, [])) (hs3 : sh[3]? = some (12, 8, [])) (hs4 : sh[4]? = some (12, 64, [])) {x : am_Sc} {Po : Option am_AV → am_Sh → am_St → Prop} {σ : am_St} {w h : Nat} (hw : 2 ≤ w ∧ w ≤ 4) (hh : 2 ≤ h ∧ h ≤ 4)
    (k : ∀ σ', am_layP w h σ σ' → Po none sh σ') : am_W sh x m_Gr_lay Po σ 0 [some (Zr 1), some (Zi (w : Int)), some (Zi (h : Int)), none, none, none, none] [] := by
  refine t_Gr_lay_0 hl hs1 hs2 hs3 hs4 (fun σ1 e1 => ?_)
  refine c_fillW hl hs2 rfl ⟨rfl, rfl, ?_⟩
  refine c_fillW hl hs3 rfl ⟨rfl, rfl, ?_⟩
  generalize hσ0 : ((am_fr (am_fr σ1.1 2 0 16 0) 3 0 8 10, σ1.2) : am_St) = σ0
  have fin : ∀ σ', am_lp w h (w * h) 0 σ0 σ' → Po none sh σ' := by
    intro σ' hp
    obtain ⟨a, b, c1, -⟩ := hp
    subst hσ0
    subst e1
    refine k σ' ⟨a, fun k h1 h2 h3 h4 => ?_, ?_, fun j hj => ?_, fun j hj => ?_, fun j hj => ?_, c1⟩
    · rw [b k h4]; funext j; simp [am_fr, am_up, h1, h2, h3]
    · rw [b 1 (by decide)]; simp [am_fr, am_up]
    · rw [b 1 (by decide)]; simp [am_fr, am_up, hj]
    · rw [b 2 (by decide)]; simp [am_fr, am_up, hj]
    · rw [b 3 (by decide)]; simp [am_fr, am_up, hj]
  have hwh : w * h ≤ 16 := by
    have := Nat.mul_le_mul hw.2 hh.2
    omega
  -- a cell's four sides
  have cell : ∀ (y x0 : Nat) (σ : am_St), y < h → x0 < w → am_lp w h (w * y + x0) 0 σ0 σ → (∀ σ', am_lp w h (w * y + (x0 + 1)) 0 σ0 σ' → am_W sh x m_Gr_lay Po σ' 34 [some (Zr 1), some (Zi (w : Int)), some (Zi (h : Int)), some (Zi (y : Int)), some (Zi ((x0 : Int) + 1)), none, none] []) →
      am_W sh x m_Gr_lay Po σ 34 [some (Zr 1), some (Zi (w : Int)), some (Zi (h : Int)), some (Zi (y : Int)), some (Zi (x0 : Int)), none, none] [] := by
    intro y x0 σ hy hx hp kk
    obtain ⟨f1, f2, f3⟩ := am_bs_f (w := w) (h := h) (y := y) (x := x0) hw hx
    have hcl : w * y + x0 < w * h := by
      have : w * (y + 1) ≤ w * h := Nat.mul_le_mul_left w hy
      rw [Nat.mul_add] at this
      omega
    generalize hc : w * y + x0 = c at hp f1 f2 f3 hcl
    have ec : (w : Int) * (y : Int) + (x0 : Int) = (c : Int) := by rw [← hc]; push_cast; rfl
    have s143 : ∀ (σ : am_St) (v : Int), am_lp w h c 3 σ0 σ → v = am_bs w h c 3 → am_W sh x m_Gr_lay Po σ 143 [some (Zr 1), some (Zi (w : Int)), some (Zi (h : Int)), some (Zi (y : Int)), some (Zi (x0 : Int)), none, none] [Zi v, Zi ((c : Int) * 4 + 3), Zr 4] := by
      intro σ v hp hv
      refine t_Gr_lay_143 hl hs1 hs2 hs3 hs4 ⟨by omega, fun σ7 e7 => kk σ7 ?_⟩
      rw [show w * y + (x0 + 1) = c + 1 by omega]
      subst e7
      rw [show ((c : Int) * 4 + 3).toNat = 4 * c + 3 by omega]
      exact am_lp_next (am_lp_up hp (by omega) hv)
    have s119 : ∀ (σ : am_St) (v : Int), am_lp w h c 2 σ0 σ → v = am_bs w h c 2 → am_W sh x m_Gr_lay Po σ 119 [some (Zr 1), some (Zi (w : Int)), some (Zi (h : Int)), some (Zi (y : Int)), some (Zi (x0 : Int)), some (Zi (c : Int)), some (Zi ((c : Int) * 4))] [Zi v, Zi ((c : Int) * 4 + 2), Zr 4] := by
      intro σ v hp hv
      refine t_Gr_lay_119 hl hs1 hs2 hs3 hs4 ⟨by omega, fun σ6 e6 => ⟨by omega, by omega, fun h1 => ?_, fun h1 => ?_⟩⟩
      all_goals
        refine s143 σ6 _ ?_ ?_
        · subst e6
          rw [show ((c : Int) * 4 + 2).toNat = 4 * c + 2 by omega]
          exact am_lp_up hp (by omega) hv
        · simp only [am_bs]
          simp [f3]
          omega
    have s94 : ∀ (σ : am_St) (v : Int), am_lp w h c 1 σ0 σ → v = am_bs w h c 1 → am_W sh x m_Gr_lay Po σ 94 [some (Zr 1), some (Zi (w : Int)), some (Zi (h : Int)), some (Zi (y : Int)), some (Zi (x0 : Int)), some (Zi (c : Int)), some (Zi ((c : Int) * 4))] [Zi v, Zi ((c : Int) * 4 + 1), Zr 4] := by
      intro σ v hp hv
      refine t_Gr_lay_94 hl hs1 hs2 hs3 hs4 ⟨by omega, fun σ6 e6 => ⟨by omega, by omega, fun h1 => ?_, fun h1 => ?_⟩⟩
      all_goals
        refine s119 σ6 _ ?_ ?_
        · subst e6
          rw [show ((c : Int) * 4 + 1).toNat = 4 * c + 1 by omega]
          exact am_lp_up hp (by omega) hv
        · simp only [am_bs, f2]
          simp
          omega
    have s72 : ∀ (σ : am_St) (v : Int), am_lp w h c 0 σ0 σ → v = am_bs w h c 0 → am_W sh x m_Gr_lay Po σ 72 [some (Zr 1), some (Zi (w : Int)), some (Zi (h : Int)), some (Zi (y : Int)), some (Zi (x0 : Int)), some (Zi (c : Int)), some (Zi ((c : Int) * 4))] [Zi v, Zi ((c : Int) * 4), Zr 4] := by
      intro σ v hp hv
      refine t_Gr_lay_72 hl hs1 hs2 hs3 hs4 ⟨by omega, fun σ6 e6 => ⟨by omega, fun h1 => ?_, fun h1 => ?_⟩⟩
      all_goals
        refine s94 σ6 _ ?_ ?_
        · subst e6
          rw [show ((c : Int) * 4).toNat = 4 * c + 0 by omega]
          exact am_lp_up hp (by omega) hv
        · simp only [am_bs, f2]
          simp
          omega
    refine t_Gr_lay_34 hl hs1 hs2 hs3 hs4 ⟨by omega, by omega, fun h1 => absurd h1 (by omega), fun h1 => ⟨by omega, fun h2 => ?_, fun h2 => ?_⟩⟩
    all_goals
      rw [ec]
      refine s72 σ _ hp ?_
      simp only [am_bs]
      simp [f1]
      omega
  have row : ∀ (d y x0 : Nat) (σ : am_St), y < h → x0 + d = w → am_lp w h (w * y + x0) 0 σ0 σ → (∀ σ', am_lp w h (w * (y + 1)) 0 σ0 σ' → am_W sh x m_Gr_lay Po σ' 26 [some (Zr 1), some (Zi (w : Int)), some (Zi (h : Int)), some (Zi ((y : Int) + 1)), none, none, none] []) →
      am_W sh x m_Gr_lay Po σ 34 [some (Zr 1), some (Zi (w : Int)), some (Zi (h : Int)), some (Zi (y : Int)), some (Zi (x0 : Int)), none, none] [] := by
    intro d
    induction d with
    | zero =>
      intro y x0 σ hy hx hp kk
      refine t_Gr_lay_34 hl hs1 hs2 hs3 hs4 ⟨by omega, by omega, fun h1 => kk σ ?_, fun h1 => absurd (by omega) h1⟩
      rw [Nat.mul_add, Nat.mul_one]
      rw [show x0 = w by omega] at hp
      exact hp
    | succ d ih =>
      intro y x0 σ hy hx hp kk
      refine cell y x0 σ hy (by omega) hp (fun σ' hp' => ?_)
      have := ih y (x0 + 1) σ' hy (by omega) hp' kk
      rw [show ((x0 + 1 : Nat) : Int) = (x0 : Int) + 1 by omega] at this
      exact this
  have all : ∀ (d y : Nat) (σ : am_St), y + d = h → am_lp w h (w * y) 0 σ0 σ → am_W sh x m_Gr_lay Po σ 26 [some (Zr 1), some (Zi (w : Int)), some (Zi (h : Int)), some (Zi (y : Int)), none, none, none] [] := by
    intro d
    induction d with
    | zero =>
      intro y σ hy hp
      refine t_Gr_lay_26 hl hs1 hs2 hs3 hs4 ⟨by omega, by omega, fun h1 => fin σ ?_, fun h1 => absurd (by omega) h1⟩
      rw [show y = h by omega] at hp
      exact hp
    | succ d ih =>
      intro y σ hy hp
      refine t_Gr_lay_26 hl hs1 hs2 hs3 hs4 ⟨by omega, by omega, fun h1 => absurd h1 (by omega), fun h1 => ?_⟩
      refine row w y 0 σ (by omega) (by omega) hp (fun σ' hp' => ?_)
      have := ih (y + 1) σ' (by omega) hp'
      rw [show ((y + 1 : Nat) : Int) = (y : Int) + 1 by omega] at this
      exact this
  exact all h 0 σ0 (by omega) ⟨rfl, fun _ _ => rfl, fun _ _ hc => absurd hc (by omega), fun _ hc => absurd hc (by omega)⟩
