/-! ===== least times of the model ===== -/
def am_nX (w c kk : Nat) : Int := ((c % w : Nat) : Int) + (if kk = 0 then 1 else if kk = 1 then -1 else 0)
def am_nY (w c kk : Nat) : Int := ((c / w : Nat) : Int) + (if kk = 2 then 1 else if kk = 3 then -1 else 0)
theorem am_nX0 {w c : Nat} : am_nX w c 0 = ((c % w : Nat) : Int) + 1 := rfl
theorem am_nX1 {w c : Nat} : am_nX w c 1 = ((c % w : Nat) : Int) + -1 := rfl
theorem am_nX2 {w c : Nat} : am_nX w c 2 = ((c % w : Nat) : Int) + 0 := rfl
theorem am_nX3 {w c : Nat} : am_nX w c 3 = ((c % w : Nat) : Int) + 0 := rfl
theorem am_nY0 {w c : Nat} : am_nY w c 0 = ((c / w : Nat) : Int) + 0 := rfl
theorem am_nY1 {w c : Nat} : am_nY w c 1 = ((c / w : Nat) : Int) + 0 := rfl
theorem am_nY2 {w c : Nat} : am_nY w c 2 = ((c / w : Nat) : Int) + 1 := rfl
theorem am_nY3 {w c : Nat} : am_nY w c 3 = ((c / w : Nat) : Int) + -1 := rfl
theorem am_nb_in {w h c kk : Nat} (hw : 2 ≤ w ∧ w ≤ 4 ∧ 2 ≤ h ∧ h ≤ 4) (hc : c < w * h) (hk : kk < 4) (hx : 0 ≤ am_nX w c kk ∧ am_nX w c kk ≤ (w : Int) - 1) (hy : 0 ≤ am_nY w c kk ∧ am_nY w c kk ≤ (h : Int) - 1) : ∃ b : Nat, (w : Int) * am_nY w c kk + am_nX w c kk = (b : Int) ∧ am_adj w h c b := by
  refine ⟨((w : Int) * am_nY w c kk + am_nX w c kk).toNat, ?_⟩
  unfold am_adj
  obtain ⟨h1, h2, h3, h4⟩ := hw
  rcases (show kk = 0 ∨ kk = 1 ∨ kk = 2 ∨ kk = 3 by omega) with rfl | rfl | rfl | rfl <;>
  rcases (show w = 2 ∨ w = 3 ∨ w = 4 by omega) with rfl | rfl | rfl <;>
  rcases (show h = 2 ∨ h = 3 ∨ h = 4 by omega) with rfl | rfl | rfl <;>
  simp only [am_nX0, am_nX1, am_nX2, am_nX3, am_nY0, am_nY1, am_nY2, am_nY3] at hx hy ⊢ <;> omega
theorem am_nb_of {w h c b : Nat} (hw : 2 ≤ w ∧ w ≤ 4 ∧ 2 ≤ h ∧ h ≤ 4) (ha : am_adj w h c b) : ∃ kk, kk < 4 ∧ (0 ≤ am_nX w c kk ∧ am_nX w c kk ≤ (w : Int) - 1) ∧ (0 ≤ am_nY w c kk ∧ am_nY w c kk ≤ (h : Int) - 1) ∧ (w : Int) * am_nY w c kk + am_nX w c kk = (b : Int) := by
  obtain ⟨g1, g2, g3⟩ := ha
  obtain ⟨h1, h2, h3, h4⟩ := hw
  rcases g3 with q | q | q | q
  · refine ⟨2, by decide, ?_⟩
    rcases (show w = 2 ∨ w = 3 ∨ w = 4 by omega) with rfl | rfl | rfl <;>
    rcases (show h = 2 ∨ h = 3 ∨ h = 4 by omega) with rfl | rfl | rfl <;>
    simp only [am_nX0, am_nX1, am_nX2, am_nX3, am_nY0, am_nY1, am_nY2, am_nY3] <;> omega
  · refine ⟨3, by decide, ?_⟩
    rcases (show w = 2 ∨ w = 3 ∨ w = 4 by omega) with rfl | rfl | rfl <;>
    rcases (show h = 2 ∨ h = 3 ∨ h = 4 by omega) with rfl | rfl | rfl <;>
    simp only [am_nX0, am_nX1, am_nX2, am_nX3, am_nY0, am_nY1, am_nY2, am_nY3] <;> omega
  · refine ⟨0, by decide, ?_⟩
    rcases (show w = 2 ∨ w = 3 ∨ w = 4 by omega) with rfl | rfl | rfl <;>
    rcases (show h = 2 ∨ h = 3 ∨ h = 4 by omega) with rfl | rfl | rfl <;>
    simp only [am_nX0, am_nX1, am_nX2, am_nX3, am_nY0, am_nY1, am_nY2, am_nY3] <;> omega
  · refine ⟨1, by decide, ?_⟩
    rcases (show w = 2 ∨ w = 3 ∨ w = 4 by omega) with rfl | rfl | rfl <;>
    rcases (show h = 2 ∨ h = 3 ∨ h = 4 by omega) with rfl | rfl | rfl <;>
    simp only [am_nX0, am_nX1, am_nX2, am_nX3, am_nY0, am_nY1, am_nY2, am_nY3] <;> omega
section AMT
variable {x : am_Sc} {Po : Option am_AV → am_Sh → am_St → Prop} {σ : am_St} {w h w2 h2 : Nat} {s s2 : Nat → Nat → Int}
theorem m_slowAt {c : Nat} {k : Int} (hM : am_RM w h s σ) (hO : am_OK w h s) (hc : c < 16) (hk : k = 0 ∨ k = 1) (kk : Po (some (Zi (am_cost s k c))) am_SH σ) : am_U x m_Mo_slowAt Po σ 0 [some (Zr 147), some (Zi (c : Int)), some (Zi k), none] [] := by
  have e1 : σ.1 148 c = s 1 c := hM.1.at 148 1 16 (by decide) hc
  have b1 := hO.2.2.2.2.2.2.2.2.1 c hc
  have e2 : σ.1 149 (s 1 c).toNat = s 2 (s 1 c).toNat := hM.1.at 149 2 8 (by decide) (by omega)
  have b2 := hO.2.2.2.2.2.2.2.2.2.1 (s 1 c).toNat (by omega)
  have er : σ.1 147 4 = s 0 0 := hM.1.as 147 4 0 (by decide)
  refine s_Mo_slowAt_0 ?_
  rw [Int.toNat_natCast, e1, e2, er]
  refine ⟨by omega, by omega, by omega, fun q => s_Mo_slowAt_29 ?_, fun q => s_Mo_slowAt_29 ?_⟩
  · rw [am_pr_div hO.2.1 b2 q]; exact kk
  · rw [show am_cost s k c = s 2 (s 1 c).toNat by unfold am_cost am_pr; rw [if_pos q]] at kk; exact kk
theorem m_cells (hM : am_RM w h s σ) (kk : Po (some (Zi ((w * h : Nat) : Int))) am_SH σ) : am_U x m_Mo_cells Po σ 0 [some (Zr 147)] [] := by
  have e : σ.1 147 0 * σ.1 147 1 = ((w * h : Nat) : Int) := by rw [hM.2.1, hM.2.2]; push_cast; rfl
  refine s_Mo_cells_0 ?_
  rw [e]; exact kk
theorem m_findTimes {f : Nat} {k : Int} (hM : am_RM w h s σ) (hO : am_OK w h s) (hf : f < w * h) (hk : k = 0 ∨ k = 1)
    (kk : ∀ σ', am_fx [164] [] σ σ' → (∀ b, b < w * h → σ'.1 164 b = am_dst w h (am_cost s k) f b) → Po none am_SH σ') :
    am_U x m_Mo_findTimes Po σ 0 [some (Zr 147), some (Zi (f : Int)), some (Zi k), none, none, none, none, none, none, none] [] := by
  have hw := hO.1
  have hwh := am_wh hO
  have hc : ∀ b, b < w * h → 1 ≤ am_cost s k b ∧ am_cost s k b ≤ 180 := fun b hb => am_cost_b hO hb
  have hD := am_dst_is hw hc hf
  have main : ∀ (N : Nat) (τ : am_St), am_mu (τ.1 164) (w * h) < N → am_fx [164] [] σ τ → am_RI w h (am_cost s k) f (τ.1 164) → am_U x m_Mo_findTimes Po τ 33 [some (Zr 147), none, some (Zi k), some (Zi 1), none, none, none, none, none, none] [] := by
    intro N
    induction N with
    | zero => intro τ hN; exact absurd hN (Nat.not_lt_zero _)
    | succ N ih =>
      intro τ0 hN hfx0 hR0
      refine s_Mo_findTimes_33 ⟨by decide, fun q => absurd q (by decide), fun _ => ?_⟩
      -- a pass, from cell c
      have cellsL : ∀ (d c : Nat) (τ : am_St) (m : Int), c + d = w * h → (m = 0 ∨ m = 1) → am_fx [164] [] σ τ → am_RI w h (am_cost s k) f (τ.1 164) → (m = 1 → am_mu (τ.1 164) (w * h) < am_mu (τ0.1 164) (w * h)) → (m = 0 → τ.1 164 = τ0.1 164 ∧ ∀ c', c' < c → ∀ b, am_adj w h c' b → τ.1 164 b ≤ τ.1 164 c' + am_cost s k c' + am_cost s k b) → am_U x m_Mo_findTimes Po τ 42 [some (Zr 147), none, some (Zi k), some (Zi m), some (Zi (c : Int)), none, none, none, none, none] [] := by
        intro d
        induction d with
        | zero =>
          intro c τ m hc' hm hfx hR h1 h0
          refine s_Mo_findTimes_42 (m_cells (hM.fx hfx (by decide)) ⟨_, rfl, rfl, by omega, by omega, fun _ => ?_, fun q => absurd (by omega) q⟩)
          rcases hm with rfl | rfl
          · refine s_Mo_findTimes_33 ⟨by decide, fun _ => kk τ hfx (fun b hb => ?_), fun q => absurd rfl q⟩
            exact (hR.fix hw hc (fun a b ha => (h0 rfl).2 a (by have := ha.1; omega) b ha)).uniq (fun b hb => (hc b hb).1) hD hb
          · exact ih τ (by have := h1 rfl; omega) hfx hR
        | succ d ihd =>
          intro c τ m hc' hm hfx hR h1 h0
          refine s_Mo_findTimes_42 (m_cells (hM.fx hfx (by decide)) ⟨_, rfl, rfl, by omega, by omega, fun q => absurd q (by omega), fun _ => ?_⟩)
          have sides : ∀ (e j : Nat) (τ : am_St) (m : Int), j + e = 4 → (m = 0 ∨ m = 1) → am_fx [164] [] σ τ → am_RI w h (am_cost s k) f (τ.1 164) → (m = 1 → am_mu (τ.1 164) (w * h) < am_mu (τ0.1 164) (w * h)) → (m = 0 → τ.1 164 = τ0.1 164 ∧ (∀ c', c' < c → ∀ b, am_adj w h c' b → τ.1 164 b ≤ τ.1 164 c' + am_cost s k c' + am_cost s k b) ∧ ∀ j', j' < j → ∀ b : Nat, am_adj w h c b → (w : Int) * am_nY w c j' + am_nX w c j' = (b : Int) → τ.1 164 b ≤ τ.1 164 c + am_cost s k c + am_cost s k b) → am_U x m_Mo_findTimes Po τ 54 [some (Zr 147), none, some (Zi k), some (Zi m), some (Zi (c : Int)), some (Zi (j : Int)), none, none, none, none] [] := by
            intro e
            induction e with
            | zero =>
              intro j τ m hj hm hfx hR h1 h0
              refine s_Mo_findTimes_54 ⟨by omega, fun _ => ihd (c + 1) τ m (by omega) hm hfx hR h1 (fun q => ⟨(h0 q).1, fun c' hc2 b hb => ?_⟩), fun q => absurd (by omega) q⟩
              rcases Nat.lt_or_ge c' c with q2 | q2
              · exact (h0 q).2.1 c' q2 b hb
              · have ec : c' = c := by omega
                rw [ec] at hb ⊢
                obtain ⟨j', hj', -, -, ej⟩ := am_nb_of hw hb
                exact (h0 q).2.2 j' (by omega) b hb ej
            | succ e ihe =>
              intro j τ m hj hm hfx hR h1 h0
              have hMt := hM.fx hfx (by decide)
              have ew : τ.1 147 0 = (w : Int) := hMt.2.1
              have eh : τ.1 147 1 = (h : Int) := hMt.2.2
              have erem : am_rem (c : Int) (w : Int) = ((c % w : Nat) : Int) := by rw [am_rem_nn (by omega) (by omega) (by omega)]; rfl
              have ediv : am_div (c : Int) (w : Int) = ((c / w : Nat) : Int) := by rw [am_div_nn (by omega) (by omega) (by omega) (by omega)]; rfl
              have nxt : ∀ (τ : am_St) (m : Int), (m = 0 ∨ m = 1) → am_fx [164] [] σ τ → am_RI w h (am_cost s k) f (τ.1 164) → (m = 1 → am_mu (τ.1 164) (w * h) < am_mu (τ0.1 164) (w * h)) → (m = 0 → τ.1 164 = τ0.1 164 ∧ (∀ c', c' < c → ∀ b, am_adj w h c' b → τ.1 164 b ≤ τ.1 164 c' + am_cost s k c' + am_cost s k b) ∧ ∀ j', j' < j + 1 → ∀ b : Nat, am_adj w h c b → (w : Int) * am_nY w c j' + am_nX w c j' = (b : Int) → τ.1 164 b ≤ τ.1 164 c + am_cost s k c + am_cost s k b) → am_U x m_Mo_findTimes Po τ 211 [some (Zr 147), none, some (Zi k), some (Zi m), some (Zi (c : Int)), some (Zi (j : Int)), none, none, none, none] [] := fun τ m g1 g2 g3 g4 g5 => s_Mo_findTimes_211 (ihe (j + 1) τ m (by omega) g1 g2 g3 g4 g5)
              -- the step itself
              have at118 : ∀ (X Y1 Y2 : Int), X = am_nX w c j → Y1 + Y2 = am_nY w c j → am_U x m_Mo_findTimes Po τ 118 [some (Zr 147), none, some (Zi k), some (Zi m), some (Zi (c : Int)), some (Zi (j : Int)), some (Zi X), none, none, none] [Zi Y2, Zi Y1] := by
                intro X Y1 Y2 eX eY
                have hcw : c / w ≤ c := Nat.div_le_self c w
                have hcm : c % w < w := Nat.mod_lt c (by omega)
                have hcw0 : 0 ≤ ((c / w : Nat) : Int) := Int.natCast_nonneg _
                have rX : am_r (am_nX w c j) := by unfold am_nX; split <;> (try split) <;> omega
                have rY : am_r (am_nY w c j) := by unfold am_nY; split <;> (try split) <;> omega
                refine s_Mo_findTimes_118 ?_
                rw [ew, eX, eY]
                have out : ¬ ((0 ≤ am_nX w c j ∧ am_nX w c j ≤ (w : Int) - 1) ∧ (0 ≤ am_nY w c j ∧ am_nY w c j ≤ (h : Int) - 1)) → am_U x m_Mo_findTimes Po τ 211 [some (Zr 147), none, some (Zi k), some (Zi m), some (Zi (c : Int)), some (Zi (j : Int)), none, none, none, none] [] := by
                  intro no
                  refine nxt τ m hm hfx hR h1 (fun q => ⟨(h0 q).1, (h0 q).2.1, fun j' hj' b hb ej => ?_⟩)
                  rcases Nat.lt_or_ge j' j with q2 | q2
                  · exact (h0 q).2.2 j' q2 b hb ej
                  · have e2 : j' = j := by omega
                    rw [e2] at ej
                    obtain ⟨j3, hj3, x3, y3, ej3⟩ := am_nb_of hw hb
                    -- the number names the place
                    exfalso
                    apply no
                    have : am_nX w c j3 = am_nX w c j ∧ am_nY w c j3 = am_nY w c j := by
                      obtain ⟨w1, w2, w3, w4⟩ := hw
                      rcases (show j = 0 ∨ j = 1 ∨ j = 2 ∨ j = 3 by omega) with rfl | rfl | rfl | rfl <;>
                      rcases (show j3 = 0 ∨ j3 = 1 ∨ j3 = 2 ∨ j3 = 3 by omega) with rfl | rfl | rfl | rfl <;>
                      simp only [am_nX0, am_nX1, am_nX2, am_nX3, am_nY0, am_nY1, am_nY2, am_nY3] at * <;>
                      rcases (show w = 2 ∨ w = 3 ∨ w = 4 by omega) with rfl | rfl | rfl <;> omega
                    rw [← this.1, ← this.2]; exact ⟨x3, y3⟩
                refine c_in rX (by decide) (by omega) (fun qx => br1e ?_) (fun qx => br0e (out (fun z => qx z.1)))
                rw [eh]
                refine c_in rY (by decide) (by omega) (fun qy => br1e ⟨by omega, ?_⟩) (fun qy => br0e (out (fun z => qy z.2)))
                rw [ew, Int.toNat_natCast]
                obtain ⟨b, eb, ha⟩ := am_nb_in hw (show c < w * h by omega) (by omega) qx qy
                rw [eb, Int.toNat_natCast]
                have hb := ha.2.1
                have nab := ha.ne (by omega)
                have g1 := hR.2.2.1 c ha.1
                have g2 := hR.2.2.1 b hb
                have g3 := hc c ha.1
                have g4 := hc b hb
                have cov : ∀ (j' : Nat) (b' : Nat), ¬ j' < j → j' < j + 1 → (w : Int) * am_nY w c j' + am_nX w c j' = (b' : Int) → b' = b := fun j' b' q1 q2 ej => by
                  have e2 : j' = j := by omega
                  rw [e2, eb] at ej; omega
                refine m_slowAt hMt hO (by omega) hk ⟨_, rfl, rfl, m_slowAt hMt hO (by omega) hk ⟨_, rfl, rfl, by omega, by omega, by omega, fun q => ?_, fun q τ1 e1 => ?_⟩⟩
                · refine nxt τ m hm hfx hR h1 (fun q0 => ⟨(h0 q0).1, (h0 q0).2.1, fun j' hj' b' hb' ej => ?_⟩)
                  by_cases q2 : j' < j
                  · exact (h0 q0).2.2 j' q2 b' hb' ej
                  · rw [cov j' b' q2 hj' ej]; exact q
                · have e6 : τ1.1 164 = fun i => if i = b then τ.1 164 c + am_cost s k c + am_cost s k b else τ.1 164 i := by rw [e1]; exact am_up_row τ.1 164 b _
                  have hlt : am_mu (τ1.1 164) (w * h) < am_mu (τ.1 164) (w * h) := by rw [e6]; exact am_mu_lt (by omega) (by omega) hb
                  refine nxt τ1 1 (Or.inr rfl) (hfx.tr (by rw [e1]; exact am_fx.up) (ks' := [164]) (ps' := []) (by decide) (by decide)) ?_ (fun _ => ?_) (fun q => absurd q (by decide))
                  · rw [e6]; exact hR.relax (by omega) (fun b hb => (hc b hb).1) ha rfl (by omega)
                  · rcases hm with rfl | rfl
                    · rw [(h0 rfl).1] at hlt; exact hlt
                    · exact Nat.lt_trans hlt (h1 rfl)
              refine s_Mo_findTimes_54 ⟨by omega, fun q => absurd q (by omega), fun _ => ?_⟩
              rw [ew, erem]
              refine ⟨by omega, by omega, fun q0 => ⟨fun q1 => s_Mo_findTimes_87 ?_, fun q1 => s_Mo_findTimes_87 ?_⟩, fun q0 => s_Mo_findTimes_87 ?_⟩
              · rw [ew, ediv]
                have eX : ((c % w : Nat) : Int) + 0 = am_nX w c j := by unfold am_nX; rw [if_neg (by omega), if_neg (by omega)]
                refine ⟨by omega, by omega, by omega, fun q2 => ⟨fun q3 => absurd (show j < 4 by omega) (by omega), fun q3 => at118 _ _ _ eX ?_⟩, fun q2 => at118 _ _ _ eX ?_⟩
                · unfold am_nY; rw [if_neg (by omega), if_pos (by omega)]
                · unfold am_nY; rw [if_pos (by omega)]
              · rw [ew, ediv]
                have eX : ((c % w : Nat) : Int) + -1 = am_nX w c j := by unfold am_nX; rw [if_neg (by omega), if_pos (by omega)]
                refine ⟨by omega, by omega, by omega, fun q2 => ⟨fun q3 => at118 _ _ _ eX ?_, fun q3 => absurd q3 (by omega)⟩, fun q2 => absurd q2 (by omega)⟩
                unfold am_nY; rw [if_neg (by omega), if_neg (by omega)]
              · rw [ew, ediv]
                have eX : ((c % w : Nat) : Int) + 1 = am_nX w c j := by unfold am_nX; rw [if_pos (by omega)]
                refine ⟨by omega, by omega, by omega, fun q2 => ⟨fun q3 => at118 _ _ _ eX ?_, fun q3 => absurd q3 (by omega)⟩, fun q2 => absurd q2 (by omega)⟩
                unfold am_nY; rw [if_neg (by omega), if_neg (by omega)]
          exact sides 4 0 τ m (by omega) hm hfx hR h1 (fun q => ⟨(h0 q).1, (h0 q).2, fun j' hj' => absurd hj' (by omega)⟩)
      exact cellsL (w * h) 0 τ0 0 (by omega) (Or.inl rfl) hfx0 hR0 (fun q => absurd q (by decide)) (fun _ => ⟨rfl, fun c' hc' => absurd hc' (by omega)⟩)
  have init : ∀ (d i : Nat) (τ : am_St), i + d = 16 → am_fx [164] [] σ τ → (∀ j, j < i → τ.1 164 j = if j = f then 0 else 1000000) → am_U x m_Mo_findTimes Po τ 2 [some (Zr 147), some (Zi (f : Int)), some (Zi k), some (Zi (i : Int)), none, none, none, none, none, none] [] := by
    intro d
    induction d with
    | zero =>
      intro i τ hi hfx h1
      refine s_Mo_findTimes_2 ⟨by omega, fun _ => main _ τ (Nat.lt_succ_self _) hfx ⟨hf, ?_, fun b hb => ?_, fun b hb hb2 => Or.inl ?_⟩, fun q => absurd (by omega) q⟩
      · rw [h1 f (by omega), if_pos rfl]
      · rw [h1 b (by omega)]; split <;> omega
      · rw [h1 b (by omega), if_neg hb2]
    | succ d ih =>
      intro i τ hi hfx h1
      have nx : ∀ v : Int, v = (if i = f then 0 else 1000000) → am_U x m_Mo_findTimes Po τ 24 [some (Zr 147), some (Zi (f : Int)), some (Zi k), some (Zi (i : Int)), none, none, none, none, none, none] [Zi v, Zi (i : Int), Zr 164] := by
        intro v hv
        refine s_Mo_findTimes_24 ⟨by omega, fun τ1 e1 => ih (i + 1) τ1 (by omega) (hfx.tr (by rw [e1]; exact am_fx.up) (ks' := [164]) (ps' := []) (by decide) (by decide)) (fun j hj => ?_)⟩
        rw [e1, Int.toNat_natCast]
        show am_up τ.1 164 i v 164 j = _
        rw [am_up_row]
        show (if j = i then v else τ.1 164 j) = _
        by_cases e : j = i
        · rw [if_pos e, e, hv]
        · rw [if_neg e]; exact h1 j (by omega)
      refine s_Mo_findTimes_2 ⟨by omega, fun q => absurd q (by omega), fun _ => ⟨by omega, fun q => nx _ ?_, fun q => nx _ ?_⟩⟩
      · rw [if_neg (by omega)]
      · rw [if_pos (by omega)]
  exact s_Mo_findTimes_0 (init 16 0 σ (by omega) am_fx.rf (fun j hj => absurd hj (by omega)))
end AMT
