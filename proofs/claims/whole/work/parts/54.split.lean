/-! ===== split of the model; join, count ===== -/
section AML
variable {x : am_Sc} {Po : Option am_AV → am_Sh → am_St → Prop} {σ : am_St} {w h w2 h2 : Nat} {s s2 : Nat → Nat → Int}
theorem m_splitG {b v : Int} (hM : am_RM w h s σ) (hO : am_OK w h s) (rb : am_r b) (rv : am_r v) (kk : ∀ σ', am_fx [148, 149] [] σ σ' → am_RM w h (N_split w h s b v) σ' → Po (some (Zi (A_split w h s b v))) am_SH σ') : am_U x m_Mo_split Po σ 0 [some (Zr 147), some (Zi b), some (Zi v), none, none, none] [] := by
  have hwh := am_wh hO
  have p1 : (2 : Int) ^ (w * h) ≤ 65536 := by have := am_pow_le (show w * h ≤ 16 by omega); exact this
  have p2 := am_pow_pos (w * h)
  have ends : ∀ {a : Int} {n : Nat → Nat → Int} {σ' : am_St}, am_fx [148, 149] [] σ σ' → am_RM w h n σ' → N_split w h s b v = n → A_split w h s b v = a → Po (some (Zi a)) am_SH σ' := fun hf hM en ea => by subst en; subst ea; exact kk _ hf hM
  refine s_Mo_split_0 (m_isBlock rb (fun q => br1n (m_cells hM ⟨_, rfl, rfl, ?_⟩)) (fun q => br0n (ends am_fx.rf hM (by simp only [N_split]; rw [if_neg (fun z => q z.1)]) (by simp only [A_split]; rw [if_neg q]))))
  rw [am_shl1 (by omega) (by omega), Int.toNat_natCast]
  refine c_in rv (by decide) (by omega) (fun q2 => br1n ?_) (fun q2 => br0n (ends am_fx.rf hM (by simp only [N_split]; rw [if_neg (fun z => q2 ⟨z.2.1, by omega⟩)]) (by simp only [A_split]; rw [if_pos q, if_neg (fun z => q2 ⟨z.1, by omega⟩)])))
  have q3 : 0 ≤ v ∧ v < 2 ^ (w * h) := ⟨q2.1, by omega⟩
  obtain ⟨b', rfl⟩ : ∃ b' : Nat, b = (b' : Int) := ⟨b.toNat, by omega⟩
  obtain ⟨v', rfl⟩ : ∃ v' : Nat, v = (v' : Int) := ⟨v.toNat, by omega⟩
  have hb : b' < 8 := by omega
  have hv : v' < 2147483648 := by omega
  have eN : N_split w h s (b' : Int) (v' : Int) = N_sb w h s b' v' := by simp only [N_split]; rw [if_pos ⟨q, q3⟩, Int.toNat_natCast, Int.toNat_natCast]
  have eA : A_split w h s (b' : Int) (v' : Int) = A_sb w h s b' v' := by simp only [A_split]; rw [if_pos q, if_pos q3, Int.toNat_natCast, Int.toNat_natCast]
  have szb := am_bsz_b (w := w) (h := h) (s := s) (b := b')
  have no : am_ov w h s b' v' = 0 ∨ am_ov w h s b' v' = am_bsz w h s b' → am_U x m_Mo_split Po σ 86 [none, none, none, none, none, none] [] := fun z => by
    refine s_Mo_split_86 (ends am_fx.rf hM (eN.trans ?_) (eA.trans ?_))
    · unfold N_sb; rw [if_pos z]
    · unfold A_sb; rw [if_pos z]
  have yes : ¬ (am_ov w h s b' v' = 0 ∨ am_ov w h s b' v' = am_bsz w h s b') → am_U x m_Mo_split Po σ 92 [some (Zr 147), some (Zi (b' : Int)), some (Zi (v' : Int)), none, some (Zi 0), none] [] := fun z => by
    have find : ∀ (d i : Nat), i + d = 8 → (∀ j, j < i → ¬ am_bsz w h s j = 0) → am_U x m_Mo_split Po σ 92 [some (Zr 147), some (Zi (b' : Int)), some (Zi (v' : Int)), none, some (Zi (i : Int)), none] [] := by
      intro d
      induction d with
      | zero =>
        intro i hi hn
        have ef : am_free w h s = 8 := am_first_none (fun j hj => by simpa using hn j (by omega))
        refine s_Mo_split_92 ⟨by omega, fun _ => s_Mo_split_114 ⟨by omega, fun q => absurd (by omega) q, fun _ => ends am_fx.rf hM (eN.trans ?_) (eA.trans ?_)⟩, fun q => absurd (by omega) q⟩
        · unfold N_sb; rw [if_neg z, if_neg (by omega)]
        · unfold A_sb; rw [if_neg z, if_neg (by omega)]
      | succ d ih =>
        intro i hi hn
        have sb := am_bsz_b (w := w) (h := h) (s := s) (b := i)
        refine s_Mo_split_92 ⟨by omega, fun q => absurd q (by omega), fun _ => m_sizeOf hM hO (by omega) ⟨_, rfl, rfl, by omega, fun q => s_Mo_split_114 ⟨by omega, fun _ => ?_, fun q => absurd q (by omega)⟩, fun q => ih (i + 1) (by omega) (fun j hj => ?_)⟩⟩
        · have si : am_bsz w h s i = 0 := by omega
          have ef : am_free w h s = i := am_first_eq (by omega) (by simpa using si) (fun j hj => by simpa using hn j hj)
          have bne : b' ≠ i := fun e => by
            have := am_cnt_b (P := fun c => am_inB s b' c && v'.testBit c) (n := w * h)
            have h2 := (am_cnt_eq (P := am_inB s b') (Q := fun c => am_inB s b' c && v'.testBit c) (fun i q => (Bool.and_eq_true_iff.mp q).1) (n := w * h)).2
            apply z
            left
            unfold am_ov
            rw [← e] at si
            unfold am_bsz at si
            omega
          have move : ∀ (d c : Nat) (τ : am_St), c + d = w * h → am_fx [148] [] σ τ → (∀ c', c' < 16 → τ.1 148 c' = if c' < c then am_mv (w * h) s b' v' i 1 c' else s 1 c') → am_U x m_Mo_split Po τ 127 [some (Zr 147), some (Zi (b' : Int)), some (Zi (v' : Int)), none, some (Zi (i : Int)), some (Zi (c : Int))] [] := by
            intro d
            induction d with
            | zero =>
              intro c τ hc hf h1
              have hMt := hM.fx hf (ks := [148]) (ps := [])
              have hM1 : am_RM w h (am_mv (w * h) s b' v' i) τ := hM.arr (r := 1) (n := 16) hf (by decide) (fun r' j hr => by unfold am_mv; rw [if_neg (fun z => hr z.1)]) (fun j hj => by
                rw [h1 j hj]
                by_cases q : j < c
                · rw [if_pos q]
                · rw [if_neg q]; unfold am_mv; rw [if_neg (fun z => q (by omega))])
              refine s_Mo_split_127 (m_cells hM1 ⟨_, rfl, rfl, by omega, by omega, fun _ => ⟨by omega, by omega, fun τ1 f1 => ?_⟩, fun q => absurd (by omega) q⟩)
              have e3 : τ.1 149 b' = s 2 b' := by rw [hf.g 149 (by decide)]; exact hM.1.at 149 2 8 (by decide) hb
              rw [Int.toNat_natCast, Int.toNat_natCast, e3] at f1
              refine ends (hf.tr (σ1 := τ) (ks' := [149]) (ps' := []) (by rw [f1]; exact am_fx.up) (by decide) (by decide)) (n := N_sb w h s b' v') ?_ eN (eA.trans ?_)
              · unfold N_sb; rw [if_neg z, if_pos (by omega), ef, f1]; exact hM1.row (by decide)
              · unfold A_sb; rw [if_neg z, if_pos (by omega), ef]
            | succ d ihd =>
              intro c τ hc hf h1
              have e1 : τ.1 148 c = s 1 c := by rw [h1 c (by omega), if_neg (by omega)]
              have b1 := hO.2.2.2.2.2.2.2.2.1 c (by omega)
              have ec : ∀ σ' : am_St, σ'.1 147 0 = (w : Int) → σ'.1 147 1 = (h : Int) → ∀ {P : Option am_AV → am_Sh → am_St → Prop}, P (some (Zi ((w * h : Nat) : Int))) am_SH σ' → am_U x m_Mo_cells P σ' 0 [some (Zr 147)] [] := fun σ' g1 g2 P hP => by
                refine s_Mo_cells_0 ?_
                rw [g1, g2, show (w : Int) * (h : Int) = ((w * h : Nat) : Int) by push_cast; rfl]; exact hP
              have store : ∀ (u : Int), u = am_mv (w * h) s b' v' i 1 c → am_U x m_Mo_split Po τ 175 [some (Zr 147), some (Zi (b' : Int)), some (Zi (v' : Int)), none, some (Zi (i : Int)), some (Zi (c : Int))] [Zi u, Zi (c : Int), Zr 148] := fun u hu => by
                refine s_Mo_split_175 ⟨by omega, fun τ1 f1 => ihd (c + 1) τ1 (by omega) (hf.tr (σ1 := τ) (ks' := [148]) (ps' := []) (by rw [f1]; exact am_fx.up) (by decide) (by decide)) (fun c' hc' => ?_)⟩
                rw [f1, Int.toNat_natCast]
                show am_up τ.1 148 c u 148 c' = _
                rw [am_up_row]
                show (if c' = c then u else τ.1 148 c') = _
                by_cases q3 : c' = c
                · rw [if_pos q3, if_pos (by omega), q3]; exact hu
                · rw [if_neg q3, h1 c' hc']
                  by_cases q4 : c' < c
                  · rw [if_pos q4, if_pos (by omega)]
                  · rw [if_neg q4, if_neg (by omega)]
              have keep : ¬ (s 1 c = (b' : Int) ∧ v'.testBit c = true) → am_U x m_Mo_split Po τ 168 [some (Zr 147), some (Zi (b' : Int)), some (Zi (v' : Int)), none, some (Zi (i : Int)), some (Zi (c : Int))] [Zi (c : Int), Zr 148] := fun no => by
                refine s_Mo_split_168 ⟨by omega, ?_⟩
                rw [Int.toNat_natCast, e1]
                exact store _ (by unfold am_mv; rw [if_neg (fun z => no z.2.2)])
              refine s_Mo_split_127 (ec τ (by rw [hf.g 147 (by decide)]; exact hM.2.1) (by rw [hf.g 147 (by decide)]; exact hM.2.2) ⟨_, rfl, rfl, by omega, by omega, fun q => absurd q (by omega), fun _ => ?_⟩)
              rw [Int.toNat_natCast, e1, am_bit hv (by omega)]
              refine ⟨by omega, by omega, by omega, fun q => keep (fun z => q z.1), fun q => ⟨by split <;> decide, fun q2 => keep (fun z => q2 (by rw [if_pos z.2])), fun q2 => store _ ?_⟩⟩
              have tb : v'.testBit c = true := Classical.byContradiction (fun z => by rw [if_neg z] at q2; exact absurd q2 (by decide))
              unfold am_mv; rw [if_pos ⟨rfl, by omega, q, tb⟩]
          exact move _ 0 σ (Nat.zero_add _) am_fx.rf (fun c' hc' => by rw [if_neg (by omega)]; exact hM.1.at 148 1 16 (by decide) hc')
        · rcases Nat.lt_or_ge j i with g | g
          · exact hn j g
          · rw [show j = i by omega]; omega
    exact find 8 0 (by omega) (fun j hj => absurd hj (by omega))
  have count : ∀ (d c : Nat), c + d = w * h → am_U x m_Mo_split Po σ 34 [some (Zr 147), some (Zi (b' : Int)), some (Zi (v' : Int)), some (Zi (am_cnt (fun c => am_inB s b' c && v'.testBit c) c)), some (Zi (c : Int)), none] [] := by
    intro d
    induction d with
    | zero =>
      intro c hc
      have eo : am_cnt (fun c => am_inB s b' c && v'.testBit c) c = am_ov w h s b' v' := by unfold am_ov; rw [show c = w * h by omega]
      have ob : 0 ≤ am_ov w h s b' v' ∧ am_ov w h s b' v' ≤ ((w * h : Nat) : Int) := am_cnt_b
      refine s_Mo_split_34 (m_cells hM ⟨_, rfl, rfl, by omega, by omega, fun _ => ?_, fun q => absurd (by omega) q⟩)
      rw [eo]
      refine ⟨by omega, fun q => no (Or.inl q), fun q => m_sizeOf hM hO (by omega) ⟨_, rfl, rfl, by omega, fun q2 => yes (fun z => z.elim q q2), fun q2 => no (Or.inr q2)⟩⟩
    | succ d ih =>
      intro c hc
      have e1 : σ.1 148 c = s 1 c := hM.1.at 148 1 16 (by decide) (by omega)
      have b1 := hO.2.2.2.2.2.2.2.2.1 c (by omega)
      have nx := ih (c + 1) (by omega)
      have e9 : am_cnt (fun c => am_inB s b' c && v'.testBit c) (c + 1) = am_cnt (fun c => am_inB s b' c && v'.testBit c) c + if (am_inB s b' c && v'.testBit c) then 1 else 0 := rfl
      refine s_Mo_split_34 (m_cells hM ⟨_, rfl, rfl, by omega, by omega, fun q => absurd q (by omega), fun _ => ?_⟩)
      rw [Int.toNat_natCast, e1, am_bit hv (by omega)]
      refine ⟨by omega, by omega, by omega, fun q => s_Mo_split_65 ?_, fun q => s_Mo_split_65 ?_⟩
      · rw [e9, show am_inB s b' c = false by unfold am_inB; simpa using q] at nx; exact nx
      · rw [e9, show am_inB s b' c = true by unfold am_inB; simpa using q, Bool.true_and] at nx; exact nx
  exact count _ 0 (Nat.zero_add _)
theorem m_split {b v : Int} (hM : am_RM w h s σ) (hX : am_RX w2 h2 s2 σ) (hO : am_OK w h s) (rb : am_r b) (rv : am_r v) (kk : ∀ σ', am_RM w h (N_split w h s b v) σ' → am_RX w2 h2 s2 σ' → Po (some (Zi (A_split w h s b v))) am_SH σ') : am_U x m_Mo_split Po σ 0 [some (Zr 147), some (Zi b), some (Zi v), none, none, none] [] := m_splitG hM hO rb rv (fun σ' hf hM' => kk σ' hM' (hX.fx hf (by decide)))
/-! join -/
def N_join (w h : Nat) (s : Nat → Nat → Int) (a b : Int) : Nat → Nat → Int := if ((0 ≤ a ∧ a < 8) ∧ (0 ≤ b ∧ b < 8)) ∧ ¬ a = b then am_mv (w * h) s b.toNat (2 ^ (w * h) - 1) a.toNat else s
def A_join (w h : Nat) (s : Nat → Nat → Int) (a b : Int) : Int := if (0 ≤ a ∧ a < 8) ∧ (0 ≤ b ∧ b < 8) then (if a = b then -3 else am_bsz w h (N_join w h s a b) a.toNat) else -2
theorem am_OK_row1 (hO : am_OK w h s) {s' : Nat → Nat → Int} (hs : ∀ r j, r ≠ 1 → s' r j = s r j) (h1 : ∀ c, c < 16 → 0 ≤ s' 1 c ∧ s' 1 c ≤ 7) : am_OK w h s' := by
  unfold am_OK
  simp only [hs 0 _ (by decide), hs 2 _ (by decide), hs 3 _ (by decide), hs 4 _ (by decide), hs 5 _ (by decide), hs 6 _ (by decide), hs 7 _ (by decide), hs 8 _ (by decide), hs 9 _ (by decide), hs 10 _ (by decide), hs 11 _ (by decide), hs 12 _ (by decide), hs 13 _ (by decide), hs 14 _ (by decide)]
  obtain ⟨a1, a2, a3, a4, a5, a6, a7, a8, -, rest⟩ := hO
  exact ⟨a1, a2, a3, a4, a5, a6, a7, a8, h1, rest⟩
theorem am_OK_mv (hO : am_OK w h s) {b v to : Nat} (ht : to < 8) : am_OK w h (am_mv (w * h) s b v to) := by
  refine am_OK_row1 hO (fun r j hr => by unfold am_mv; rw [if_neg (fun z => hr z.1)]) (fun c hc => ?_)
  have := hO.2.2.2.2.2.2.2.2.1 c hc
  unfold am_mv
  split <;> omega
theorem x_join {a b : Int} (hX : am_RX w h s σ) (hM : am_RM w2 h2 s2 σ) (hO : am_OK w h s) (ra : am_r a) (rb : am_r b) (kk : ∀ σ', am_RX w h (N_join w h s a b) σ' → am_RM w2 h2 s2 σ' → Po (some (Zi (A_join w h s a b))) am_SH σ') : am_U x m_Sp_join Po σ 0 [some (Zr 0), some (Zi a), some (Zi b)] [] := by
  have hwh := am_wh hO
  have p1 : 2 ^ (w * h) ≤ 2 ^ 16 := Nat.pow_le_pow_right (by decide) (by omega)
  have p0 : 0 < 2 ^ (w * h) := Nat.pow_pos (by decide)
  refine s_Sp_join_0 (x_isBlock ra (fun q => br1e (x_isBlock rb (fun q2 => br1n ⟨ra, rb, fun q3 => s_Gr_allCells_0 ⟨_, rfl, rfl, ?_⟩, fun q3 => am_fX kk (by simp only [A_join]; rw [if_pos ⟨q, q2⟩, if_pos q3]) (by simp only [N_join]; rw [if_neg (fun z => z.2 q3)]) hX hM⟩) (fun q2 => br0n (s_Sp_join_16 (am_fX kk (by simp only [A_join]; rw [if_neg (fun z => q2 z.2)]) (by simp only [N_join]; rw [if_neg (fun z => q2 z.1.2)]) hX hM))))) (fun q => br0e (s_Sp_join_16 (am_fX kk (by simp only [A_join]; rw [if_neg (fun z => q z.1)]) (by simp only [N_join]; rw [if_neg (fun z => q z.1.1)]) hX hM))))
  have eN : N_join w h s a b = am_mv (w * h) s b.toNat (2 ^ (w * h) - 1) a.toNat := by simp only [N_join]; rw [if_pos ⟨⟨q, q2⟩, q3⟩]
  have eA : A_join w h s a b = am_bsz w h (N_join w h s a b) a.toNat := by simp only [A_join]; rw [if_pos ⟨q, q2⟩, if_neg q3]
  rw [hX.2.1, am_shl1 (by omega) (by omega), Int.toNat_natCast, show (2 : Int) ^ (w * h) - 1 = ((2 ^ (w * h) - 1 : Nat) : Int) by
    have : ((2 ^ (w * h) : Nat) : Int) = (2 : Int) ^ (w * h) := by push_cast; rfl
    omega]
  rw [show b = ((b.toNat : Nat) : Int) by omega, show a = ((a.toNat : Nat) : Int) by omega]
  refine x_moveCells hX hO (by omega) (by omega) (by omega) (fun σ1 f1 hX1 => ⟨rfl, rfl, x_cellsIn hX1 (am_OK_mv hO (by omega)) (by omega) ⟨_, rfl, rfl, ?_⟩⟩)
  refine am_fX kk ?_ eN hX1 (hM.fx f1 (by decide))
  rw [eA, eN]
theorem m_join {a b : Int} (hM : am_RM w h s σ) (hX : am_RX w2 h2 s2 σ) (hO : am_OK w h s) (ra : am_r a) (rb : am_r b) (kk : ∀ σ', am_RM w h (N_join w h s a b) σ' → am_RX w2 h2 s2 σ' → Po (some (Zi (A_join w h s a b))) am_SH σ') : am_U x m_Mo_join Po σ 0 [some (Zr 147), some (Zi a), some (Zi b), none] [] := by
  have hwh := am_wh hO
  refine s_Mo_join_0 (m_isBlock ra (fun q => br1e (m_isBlock rb (fun q2 => br1n ⟨ra, rb, fun q3 => ?_, fun q3 => am_fM kk (by simp only [A_join]; rw [if_pos ⟨q, q2⟩, if_pos q3]) (by simp only [N_join]; rw [if_neg (fun z => z.2 q3)]) hM hX⟩) (fun q2 => br0n (s_Mo_join_14 (am_fM kk (by simp only [A_join]; rw [if_neg (fun z => q2 z.2)]) (by simp only [N_join]; rw [if_neg (fun z => q2 z.1.2)]) hM hX))))) (fun q => br0e (s_Mo_join_14 (am_fM kk (by simp only [A_join]; rw [if_neg (fun z => q z.1)]) (by simp only [N_join]; rw [if_neg (fun z => q z.1.1)]) hM hX))))
  have eN : N_join w h s a b = am_mv (w * h) s b.toNat (2 ^ (w * h) - 1) a.toNat := by simp only [N_join]; rw [if_pos ⟨⟨q, q2⟩, q3⟩]
  have eA : A_join w h s a b = am_bsz w h (N_join w h s a b) a.toNat := by simp only [A_join]; rw [if_pos ⟨q, q2⟩, if_neg q3]
  obtain ⟨a', rfl⟩ : ∃ a' : Nat, a = (a' : Int) := ⟨a.toNat, by omega⟩
  obtain ⟨b', rfl⟩ : ∃ b' : Nat, b = (b' : Int) := ⟨b.toNat, by omega⟩
  rw [Int.toNat_natCast, Int.toNat_natCast] at eN
  have emv : ∀ c, c < w * h → am_mv (w * h) s b' (2 ^ (w * h) - 1) a' 1 c = if s 1 c = (b' : Int) then (a' : Int) else s 1 c := fun c hc => by
    unfold am_mv
    have tb : (2 ^ (w * h) - 1).testBit c = true := by rw [Nat.testBit_two_pow_sub_one]; simpa using hc
    by_cases e : s 1 c = (b' : Int)
    · rw [if_pos ⟨rfl, hc, e, tb⟩, if_pos e]
    · rw [if_neg (fun z => e z.2.2.1), if_neg e]
  have move : ∀ (d c : Nat) (τ : am_St), c + d = w * h → am_fx [148] [] σ τ → (∀ c', c' < 16 → τ.1 148 c' = if c' < c then am_mv (w * h) s b' (2 ^ (w * h) - 1) a' 1 c' else s 1 c') → am_U x m_Mo_join Po τ 27 [some (Zr 147), some (Zi (a' : Int)), some (Zi (b' : Int)), some (Zi (c : Int))] [] := by
    intro d
    induction d with
    | zero =>
      intro c τ hc hf h1
      have hM1 : am_RM w h (am_mv (w * h) s b' (2 ^ (w * h) - 1) a') τ := hM.arr (r := 1) (n := 16) hf (by decide) (fun r' j hr => by unfold am_mv; rw [if_neg (fun z => hr z.1)]) (fun j hj => by
        rw [h1 j hj]
        by_cases q : j < c
        · rw [if_pos q]
        · rw [if_neg q]; unfold am_mv; rw [if_neg (fun z => q (by omega))])
      refine s_Mo_join_27 (m_cells hM1 ⟨_, rfl, rfl, by omega, by omega, fun _ => m_sizeOf hM1 (am_OK_mv hO (by omega)) (by omega) ⟨_, rfl, rfl, am_fM kk ?_ eN hM1 (hX.fx hf (by decide))⟩, fun q => absurd (by omega) q⟩)
      rw [eA, eN, Int.toNat_natCast]
    | succ d ih =>
      intro c τ hc hf h1
      have e1 : τ.1 148 c = s 1 c := by rw [h1 c (by omega), if_neg (by omega)]
      have b1 := hO.2.2.2.2.2.2.2.2.1 c (by omega)
      have ec : ∀ σ' : am_St, σ'.1 147 0 = (w : Int) → σ'.1 147 1 = (h : Int) → ∀ {P : Option am_AV → am_Sh → am_St → Prop}, P (some (Zi ((w * h : Nat) : Int))) am_SH σ' → am_U x m_Mo_cells P σ' 0 [some (Zr 147)] [] := fun σ' g1 g2 P hP => by
        refine s_Mo_cells_0 ?_
        rw [g1, g2, show (w : Int) * (h : Int) = ((w * h : Nat) : Int) by push_cast; rfl]; exact hP
      have store : ∀ (u : Int), u = am_mv (w * h) s b' (2 ^ (w * h) - 1) a' 1 c → am_U x m_Mo_join Po τ 60 [some (Zr 147), some (Zi (a' : Int)), some (Zi (b' : Int)), some (Zi (c : Int))] [Zi u, Zi (c : Int), Zr 148] := fun u hu => by
        refine s_Mo_join_60 ⟨by omega, fun τ1 f1 => ih (c + 1) τ1 (by omega) (hf.tr (σ1 := τ) (ks' := [148]) (ps' := []) (by rw [f1]; exact am_fx.up) (by decide) (by decide)) (fun c' hc' => ?_)⟩
        rw [f1, Int.toNat_natCast]
        show am_up τ.1 148 c u 148 c' = _
        rw [am_up_row]
        show (if c' = c then u else τ.1 148 c') = _
        by_cases q3 : c' = c
        · rw [if_pos q3, if_pos (by omega), q3]; exact hu
        · rw [if_neg q3, h1 c' hc']
          by_cases q4 : c' < c
          · rw [if_pos q4, if_pos (by omega)]
          · rw [if_neg q4, if_neg (by omega)]
      refine s_Mo_join_27 (ec τ (by rw [hf.g 147 (by decide)]; exact hM.2.1) (by rw [hf.g 147 (by decide)]; exact hM.2.2) ⟨_, rfl, rfl, by omega, by omega, fun q => absurd q (by omega), fun _ => ?_⟩)
      rw [Int.toNat_natCast, e1]
      refine ⟨by omega, by omega, by omega, fun q => store _ ?_, fun q => store _ ?_⟩
      · rw [emv c (by omega), if_neg q]
      · rw [emv c (by omega), if_pos q]
  exact move _ 0 σ (Nat.zero_add _) am_fx.rf (fun c' hc' => by rw [if_neg (by omega)]; exact hM.1.at 148 1 16 (by decide) hc')
/-! count -/
def A_count (w h : Nat) (s : Nat → Nat → Int) (v : Int) : Int := if v = 0 then ((w * h : Nat) : Int) else if v = 1 then am_use w h s else if v = 2 then s 0 2 else if v = 3 then s 0 3 else if v = 4 then s 0 4 else if v = 5 then s 0 5 else if v = 6 then s 0 1 else if v = 7 then s 0 6 else -3
theorem x_count {v : Int} (hX : am_RX w h s σ) (hM : am_RM w2 h2 s2 σ) (hO : am_OK w h s) (rv : am_r v) (kk : ∀ σ', am_RX w h s σ' → am_RM w2 h2 s2 σ' → Po (some (Zi (A_count w h s v))) am_SH σ') : am_U x m_Sp_count Po σ 0 [some (Zr 0), some (Zi v)] [] := by
  refine s_Sp_count_0 ⟨rv, fun q => ?_, fun q => ?_, fun q => ?_, fun q => ?_, fun q => ?_, fun q => ?_, fun q => ?_, fun q => ?_, fun q => ?_⟩
  · refine am_fX kk ?_ rfl hX hM
    unfold A_count; rw [if_neg (by omega), if_neg (by omega), if_neg (by omega), if_neg (by omega), if_neg (by omega), if_neg (by omega), if_neg (by omega), if_neg (by omega)]
  · subst q; exact am_fX kk (show ((w * h : Nat) : Int) = _ from hX.2.1.symm) rfl hX hM
  · subst q; exact x_blocksInUse hX hO ⟨_, rfl, rfl, am_fX kk rfl rfl hX hM⟩
  · subst q; exact am_fX kk (show s 0 2 = _ from (hX.1.as 8 0 2 (by decide)).symm) rfl hX hM
  · subst q; exact am_fX kk (show s 0 3 = _ from (hX.1.as 8 3 3 (by decide)).symm) rfl hX hM
  · subst q; exact am_fX kk (show s 0 4 = _ from (hX.1.as 8 6 4 (by decide)).symm) rfl hX hM
  · subst q; exact am_fX kk (show s 0 5 = _ from (hX.1.as 8 10 5 (by decide)).symm) rfl hX hM
  · subst q; exact am_fX kk (show s 0 1 = _ from (hX.1.as 8 15 1 (by decide)).symm) rfl hX hM
  · subst q; exact am_fX kk (show s 0 6 = _ from (hX.1.as 137 3 6 (by decide)).symm) rfl hX hM
theorem m_count {v : Int} (hM : am_RM w h s σ) (hX : am_RX w2 h2 s2 σ) (hO : am_OK w h s) (rv : am_r v) (kk : ∀ σ', am_RM w h s σ' → am_RX w2 h2 s2 σ' → Po (some (Zi (A_count w h s v))) am_SH σ') : am_U x m_Mo_count Po σ 0 [some (Zr 147), some (Zi v), none, none] [] := by
  have hwh := am_wh hO
  refine s_Mo_count_0 ⟨rv, fun q => ?_, fun q => ?_, fun q => ?_, fun q => ?_, fun q => ?_, fun q => ?_, fun q => ?_, fun q => ?_, fun q => ?_⟩
  · refine am_fM kk ?_ rfl hM hX
    unfold A_count; rw [if_neg (by omega), if_neg (by omega), if_neg (by omega), if_neg (by omega), if_neg (by omega), if_neg (by omega), if_neg (by omega), if_neg (by omega)]
  · subst q; exact m_cells hM ⟨_, rfl, rfl, am_fM kk rfl rfl hM hX⟩
  · subst q
    have loop : ∀ (d i : Nat), i + d = 8 → am_U x m_Mo_count Po σ 55 [some (Zr 147), none, some (Zi (am_sum (fun b => if am_bsz w h s b = 0 then 0 else 1) i)), some (Zi (i : Int))] [] := by
      intro d
      induction d with
      | zero =>
        intro i hi
        refine s_Mo_count_55 ⟨by omega, fun _ => ?_, fun q => absurd (by omega) q⟩
        rw [show i = 8 by omega]; exact am_fM kk rfl rfl hM hX
      | succ d ih =>
        intro i hi
        have nx := ih (i + 1) (by omega)
        have e9 : am_sum (fun b => if am_bsz w h s b = 0 then (0 : Int) else 1) (i + 1) = am_sum (fun b => if am_bsz w h s b = 0 then 0 else 1) i + if am_bsz w h s i = 0 then 0 else 1 := rfl
        have sb := am_bsz_b (w := w) (h := h) (s := s) (b := i)
        refine s_Mo_count_55 ⟨by omega, fun q => absurd q (by omega), fun _ => m_sizeOf hM hO (by omega) ⟨_, rfl, rfl, by omega, fun q => s_Mo_count_75 ?_, fun q => s_Mo_count_75 ?_⟩⟩
        · rw [e9, if_pos (by omega)] at nx; exact nx
        · rw [e9, if_neg (by omega)] at nx; exact nx
    exact loop 8 0 (by omega)
  · subst q; exact am_fM kk (show s 0 2 = _ from (hM.1.as 147 5 2 (by decide)).symm) rfl hM hX
  · subst q; exact am_fM kk (show s 0 3 = _ from (hM.1.as 147 8 3 (by decide)).symm) rfl hM hX
  · subst q; exact am_fM kk (show s 0 4 = _ from (hM.1.as 147 11 4 (by decide)).symm) rfl hM hX
  · subst q; exact am_fM kk (show s 0 5 = _ from (hM.1.as 147 15 5 (by decide)).symm) rfl hM hX
  · subst q; exact am_fM kk (show s 0 1 = _ from (hM.1.as 147 20 1 (by decide)).symm) rfl hM hX
  · subst q; exact am_fM kk (show s 0 6 = _ from (hM.1.as 147 31 6 (by decide)).symm) rfl hM hX
end AML
