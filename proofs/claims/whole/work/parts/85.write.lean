/-! ===== write ===== -/
def am_by (v : Int) (i : Nat) : Int := am_l2i (am_andL (am_shrL v (8 * (i : Int))) 255)
theorem am_by_b {v : Int} {i : Nat} : 0 ≤ am_by v i ∧ am_by v i ≤ 255 := by
  unfold am_by am_l2i am_andL
  rw [am_ofL, Int64.toInt_toInt32]
  generalize Int64.ofInt (am_shrL v (8 * (i : Int))) = y
  have hb : (y &&& Int64.ofInt 255).toInt = ((y.toBitVec.toNat &&& 255 : Nat) : Int) := by
    have h1 : (y &&& Int64.ofInt 255).toInt = (y.toBitVec &&& (255#64)).toInt := rfl
    have h2 : (y.toBitVec &&& (255#64)).toNat = y.toBitVec.toNat &&& 255 := by rw [BitVec.toNat_and]; rfl
    have h3 : y.toBitVec.toNat &&& 255 ≤ 255 := Nat.and_le_right
    rw [h1, BitVec.toInt_eq_toNat_of_lt (by rw [h2]; omega), h2]
  have h3 : y.toBitVec.toNat &&& 255 ≤ 255 := Nat.and_le_right
  rw [hb, Int.bmod_def]
  split <;> omega
def am_wb (s : Nat → Nat → Int) (v : Int) : Nat → (Nat → Nat → Int)
  | 0 => s
  | i + 1 => am_up (am_wb s v i) 14 ((s 0 6).toNat + i) (am_by v i)
def A_write (s : Nat → Nat → Int) (n : Int) : Int := if (1 ≤ n ∧ n ≤ 8) then (if s 0 6 + n ≤ 160 then s 0 6 + n else -5) else -3
def N_write (s : Nat → Nat → Int) (v n : Int) : Nat → Nat → Int := if (1 ≤ n ∧ n ≤ 8) ∧ s 0 6 + n ≤ 160 then am_up (am_wb s v n.toNat) 0 6 (s 0 6 + n) else s
theorem am_wb_o {s : Nat → Nat → Int} {v : Int} {r j : Nat} (hr : r ≠ 14) : ∀ i, am_wb s v i r j = s r j
  | 0 => rfl
  | i + 1 => by
    show am_up (am_wb s v i) 14 ((s 0 6).toNat + i) (am_by v i) r j = _
    rw [am_up_o hr]; exact am_wb_o hr i
theorem am_wb_14 {s : Nat → Nat → Int} {v : Int} : ∀ i j, (j < (s 0 6).toNat → am_wb s v i 14 j = s 14 j) ∧ ((s 0 6).toNat ≤ j → j < (s 0 6).toNat + i → 0 ≤ am_wb s v i 14 j ∧ am_wb s v i 14 j ≤ 255)
  | 0, j => ⟨fun _ => rfl, fun h1 h2 => by omega⟩
  | i + 1, j => by
    have e : am_wb s v (i + 1) 14 j = if j = (s 0 6).toNat + i then am_by v i else am_wb s v i 14 j := by
      show am_up (am_wb s v i) 14 ((s 0 6).toNat + i) (am_by v i) 14 j = _
      rw [am_up_row]
    rw [e]
    obtain ⟨i1, i2⟩ := am_wb_14 (s := s) (v := v) i j
    by_cases q : j = (s 0 6).toNat + i
    · rw [if_pos q]; exact ⟨fun z => by omega, fun _ _ => am_by_b⟩
    · rw [if_neg q]; exact ⟨i1, fun a b => i2 a (by omega)⟩
section AMWR
variable {x : am_Sc} {Po : Option am_AV → am_Sh → am_St → Prop} {σ : am_St} {w h w2 h2 : Nat} {s s2 : Nat → Nat → Int}
theorem am_OK_write (hO : am_OK w h s) {v n : Int} : am_OK w h (N_write s v n) := by
  unfold N_write
  by_cases q : (1 ≤ n ∧ n ≤ 8) ∧ s 0 6 + n ≤ 160
  · rw [if_pos q]
    have h6 := hO.2.2.2.2.2.2.2.1
    have e0 : ∀ j, j ≠ 6 → am_up (am_wb s v n.toNat) 0 6 (s 0 6 + n) 0 j = s 0 j := fun j hj => by rw [am_up_row]; show (if j = 6 then _ else _) = _; rw [if_neg hj]; exact am_wb_o (by decide) _
    have e6 : am_up (am_wb s v n.toNat) 0 6 (s 0 6 + n) 0 6 = s 0 6 + n := by rw [am_up_row]; rfl
    have eo : ∀ r j, r ≠ 0 → r ≠ 14 → am_up (am_wb s v n.toNat) 0 6 (s 0 6 + n) r j = s r j := fun r j h0 h1 => by rw [am_up_o h0]; exact am_wb_o h1 _
    have e14 : ∀ j, am_up (am_wb s v n.toNat) 0 6 (s 0 6 + n) 14 j = am_wb s v n.toNat 14 j := fun j => by rw [am_up_o (by decide)]
    unfold am_OK at hO ⊢
    obtain ⟨a0, a1, a2, a3, a4, a5, a6, a7, a8, a9, b0, b1, b2, b3, b4, b5, b6, b7, b8⟩ := hO
    simp only [e0 0 (by decide), e0 1 (by decide), e0 2 (by decide), e0 3 (by decide), e0 4 (by decide), e0 5 (by decide), e6, eo 1 _ (by decide) (by decide), eo 2 _ (by decide) (by decide), eo 3 _ (by decide) (by decide), eo 4 _ (by decide) (by decide), eo 5 _ (by decide) (by decide), eo 6 _ (by decide) (by decide), eo 7 _ (by decide) (by decide), eo 8 _ (by decide) (by decide), eo 9 _ (by decide) (by decide), eo 10 _ (by decide) (by decide), eo 11 _ (by decide) (by decide), eo 12 _ (by decide) (by decide), eo 13 _ (by decide) (by decide), e14]
    refine ⟨a0, a1, a2, a3, a4, a5, a6, by omega, a8, a9, b0, b1, b2, b3, b4, b5, b6, b7, fun j hj => ?_⟩
    have := am_wb_14 (s := s) (v := v) n.toNat j
    by_cases q2 : j < (s 0 6).toNat
    · rw [this.1 q2]; exact b8 j (by omega)
    · exact this.2 (by omega) (by omega)
  · rw [if_neg q]; exact hO
theorem x_write {v n : Int} (hX : am_RX w h s σ) (hM : am_RM w2 h2 s2 σ) (hO : am_OK w h s) (rn : am_r n) (k : ∀ σ', am_RX w h (N_write s v n) σ' → am_RM w2 h2 s2 σ' → Po (some (Zi (A_write s n))) am_SH σ') : am_U x m_Sp_write Po σ 0 [some (Zr 0), some (Zl v), none, some (Zi n)] [] := by
  have h6 := hO.2.2.2.2.2.2.2.1
  have e3 := hX.1.as 137 3 6 (by decide)
  refine s_Sp_write_0 (c_isW rn (by decide) (by decide) (fun q => ⟨1, rfl, rfl, by decide, fun _ => ?_, fun z => absurd z (by decide)⟩) (fun q => ⟨0, rfl, rfl, by decide, fun z => absurd rfl z, fun _ => am_fX k (by unfold A_write; rw [if_neg q]) (by unfold N_write; rw [if_neg (fun z => q z.1)]) hX hM⟩))
  rw [e3]
  refine ⟨by omega, fun q2 => ?_, fun q2 => am_fX k (by unfold A_write; rw [if_pos q, if_neg q2]) (by unfold N_write; rw [if_neg (fun z => q2 z.2)]) hX hM⟩
  have loop : ∀ (d i : Nat) (τ : am_St), i + d = n.toNat → am_RX w h (am_up (am_wb s v i) 0 6 (s 0 6 + (i : Int))) τ → am_RM w2 h2 s2 τ → am_U x m_Sc_append (fun ro2 so2 σ2 => ro2 = none ∧ so2 = am_SH ∧ Po (some (Zi (σ2.1 137 3))) am_SH σ2) τ 3 [some (Zr 137), some (Zl v), none, some (Zi n), some (Zi (i : Int))] [] := by
    intro d
    induction d with
    | zero =>
      intro i τ hi hXt hMt
      have et := hXt.1.as 137 3 6 (by decide)
      rw [am_up_row] at et
      have et : τ.1 137 3 = s 0 6 + (i : Int) := et
      refine s_Sc_append_3 ⟨by omega, rn, fun _ => s_Sc_append_56 ⟨rfl, rfl, ?_⟩, fun z => absurd (by omega) z⟩
      rw [et]
      have ei : (i : Int) = n := by omega
      have ei2 : n.toNat = i := by omega
      refine am_fX k ?_ ?_ hXt hMt
      · unfold A_write; rw [if_pos q, if_pos q2, ei]
      · unfold N_write; rw [if_pos ⟨q, q2⟩, ei2, ei]
    | succ d ih =>
      intro i τ hi hXt hMt
      have et := hXt.1.as 137 3 6 (by decide)
      rw [am_up_row] at et
      have et : τ.1 137 3 = s 0 6 + (i : Int) := et
      refine s_Sc_append_3 ⟨by omega, rn, fun z => absurd z (by omega), fun _ => ?_⟩
      rw [et, show (s 0 6 + (i : Int)).toNat = (s 0 6).toNat + i by omega]
      refine ⟨by omega, fun z => absurd z (by omega), fun _ => ⟨by omega, fun τ1 f1 τ2 f2 => ?_⟩⟩
      rw [am_stO f1 (by decide), et] at f2
      have hX1 : am_RX w h (am_up (am_up (am_wb s v i) 0 6 (s 0 6 + (i : Int))) 14 ((s 0 6).toNat + i) (am_by v i)) τ1 := by rw [f1]; exact hXt.row (by decide)
      have hX2 : am_RX w h (am_up (am_up (am_up (am_wb s v i) 0 6 (s 0 6 + (i : Int))) 14 ((s 0 6).toNat + i) (am_by v i)) 0 6 (s 0 6 + (i : Int) + 1)) τ2 := by rw [f2]; exact hX1.sc (by decide)
      rw [am_up_comm (r := 0) (n := 6) (r' := 14) (n' := (s 0 6).toNat + i) (v := s 0 6 + (i : Int)) (v' := am_by v i) (Or.inl (by decide))] at hX2
      have := ih (i + 1) τ2 (by omega) (by
        have e : am_up (am_wb s v (i + 1)) 0 6 (s 0 6 + ((i + 1 : Nat) : Int)) = am_up (am_up (am_up (am_wb s v i) 14 ((s 0 6).toNat + i) (am_by v i)) 0 6 (s 0 6 + (i : Int))) 0 6 (s 0 6 + (i : Int) + 1) := by
          show am_up (am_up (am_wb s v i) 14 ((s 0 6).toNat + i) (am_by v i)) 0 6 _ = _
          funext r j
          rw [show s 0 6 + ((i + 1 : Nat) : Int) = s 0 6 + (i : Int) + 1 by omega]
          by_cases hr : r = 0
          · rw [hr, am_up_row, am_up_row, am_up_row]; show (if j = 6 then _ else _) = if j = 6 then _ else (if j = 6 then _ else _)
            by_cases q6 : j = 6
            · rw [if_pos q6, if_pos q6]
            · rw [if_neg q6, if_neg q6, if_neg q6]
          · rw [am_up_o hr, am_up_o hr, am_up_o hr]
        rw [e]; exact hX2) (hMt.fx ((am_fx.o1 f1).tr (am_fx.p1 f2) (ks2 := [138]) (ps2 := [(137, 3)]) (by decide) (by decide)) (by decide))
      rw [show ((i + 1 : Nat) : Int) = (i : Int) + 1 by omega] at this
      exact this
  refine s_Sc_append_0 (loop n.toNat 0 σ (by omega) ?_ hM)
  have e : am_up (am_wb s v 0) 0 6 (s 0 6 + ((0 : Nat) : Int)) = s := by
    show am_up s 0 6 _ = s
    funext r j
    by_cases hr : r = 0
    · rw [hr, am_up_row]
      show (if j = 6 then _ else _) = _
      by_cases q6 : j = 6
      · rw [if_pos q6, q6]; omega
      · rw [if_neg q6]
    · rw [am_up_o hr]
  rw [e]; exact hX
theorem m_write {v n : Int} (hM : am_RM w h s σ) (hX : am_RX w2 h2 s2 σ) (hO : am_OK w h s) (rn : am_r n) (k : ∀ σ', am_RM w h (N_write s v n) σ' → am_RX w2 h2 s2 σ' → Po (some (Zi (A_write s n))) am_SH σ') : am_U x m_Mo_write Po σ 0 [some (Zr 147), some (Zl v), none, some (Zi n), none] [] := by
  have h6 := hO.2.2.2.2.2.2.2.1
  have e3 := hM.1.as 147 31 6 (by decide)
  refine s_Mo_write_0 (c_in rn (by decide) (by decide) (fun q => ⟨1, rfl, rfl, by decide, fun _ => ?_, fun z => absurd z (by decide)⟩) (fun q => ⟨0, rfl, rfl, by decide, fun z => absurd rfl z, fun _ => am_fM k (by unfold A_write; rw [if_neg q]) (by unfold N_write; rw [if_neg (fun z => q z.1)]) hM hX⟩))
  rw [e3]
  refine ⟨by omega, fun q2 => ?_, fun q2 => am_fM k (by unfold A_write; rw [if_pos q, if_neg q2]) (by unfold N_write; rw [if_neg (fun z => q2 z.2)]) hM hX⟩
  have loop : ∀ (d i : Nat) (τ : am_St), i + d = n.toNat → am_RM w h (am_wb s v i) τ → am_RX w2 h2 s2 τ → am_U x m_Mo_write Po τ 31 [some (Zr 147), some (Zl v), none, some (Zi n), some (Zi (i : Int))] [] := by
    intro d
    induction d with
    | zero =>
      intro i τ hi hMt hXt
      have et : τ.1 147 31 = s 0 6 := by rw [hMt.1.as 147 31 6 (by decide)]; exact am_wb_o (by decide) _
      refine s_Mo_write_31 ⟨by omega, rn, fun _ τ2 f2 => ?_, fun z => absurd (by omega) z⟩
      have ei2 : n.toNat = i := by omega
      rw [et] at f2
      rw [am_stE f2]
      refine am_fM k ?_ ?_ (n := am_up (am_wb s v i) 0 6 (s 0 6 + n)) (by rw [f2]; exact hMt.sc (by decide)) (hXt.fx (am_fx.p1 f2) (by decide))
      · unfold A_write; rw [if_pos q, if_pos q2]
      · unfold N_write; rw [if_pos ⟨q, q2⟩, ei2]
    | succ d ih =>
      intro i τ hi hMt hXt
      have et : τ.1 147 31 = s 0 6 := by rw [hMt.1.as 147 31 6 (by decide)]; exact am_wb_o (by decide) _
      refine s_Mo_write_31 ⟨by omega, rn, fun z => absurd z (by omega), fun _ => ?_⟩
      rw [et, show (s 0 6 + (i : Int)).toNat = (s 0 6).toNat + i by omega]
      refine ⟨by omega, fun τ1 f1 => ?_⟩
      have := ih (i + 1) τ1 (by omega) (by rw [f1]; exact hMt.row (by decide)) (hXt.fx (am_fx.o1 f1) (by decide))
      rw [show ((i + 1 : Nat) : Int) = (i : Int) + 1 by omega] at this
      exact this
  exact loop n.toNat 0 σ (by omega) hM hX
end AMWR
