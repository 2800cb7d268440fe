/-! ===== ears, shakes, picks, tellings ===== -/
section AMP
variable {x : am_Sc} {Po : Option am_AV → am_Sh → am_St → Prop} {σ : am_St} {w h w2 h2 : Nat} {s s2 : Nat → Nat → Int}
/-! ear -/
def A_ear (w h : Nat) (s : Nat → Nat → Int) (c : Int) : Int := if 0 ≤ c ∧ c < ((w * h : Nat) : Int) then (if s 0 2 < 6 then s 0 2 else -5) else -2
def N_ear (w h : Nat) (s : Nat → Nat → Int) (c : Int) : Nat → Nat → Int := if (0 ≤ c ∧ c < ((w * h : Nat) : Int)) ∧ s 0 2 < 6 then am_up (am_up (am_up s 3 (s 0 2).toNat c) 4 (s 0 2).toNat 0) 0 2 (s 0 2 + 1) else s
theorem x_ear {c : Int} (hX : am_RX w h s σ) (hM : am_RM w2 h2 s2 σ) (hO : am_OK w h s) (rc : am_r c) (k : ∀ σ', am_RX w h (N_ear w h s c) σ' → am_RM w2 h2 s2 σ' → Po (some (Zi (A_ear w h s c))) am_SH σ') : am_U x m_Sp_ear Po σ 0 [some (Zr 0), some (Zi c)] [] := by
  have e : σ.1 8 0 = s 0 2 := hX.1.as 8 0 2 (by decide)
  have hb := hO.2.2.2.1
  refine s_Sp_ear_0 (x_isCell hX (am_wh hO).2 rc (fun q => br1n ⟨by omega, fun q2 => ?_, fun q2 => am_fX k (by simp only [A_ear, if_pos q]; rw [if_neg (by omega)]) (by simp only [N_ear]; rw [if_neg (by omega)]) hX hM⟩) (fun q => br0n (am_fX k (by simp only [A_ear, if_neg q]) (by simp only [N_ear]; rw [if_neg (by omega)]) hX hM)))
  refine s_Bo_addEar_0 ⟨by omega, fun σ1 e1 => ?_⟩
  have hX1 : am_RX w h (am_up s 3 (s 0 2).toNat c) σ1 := by rw [e1, e]; exact hX.row (by decide)
  have hM1 : am_RM w2 h2 s2 σ1 := by rw [e1]; exact hM.fx am_fx.up (by decide)
  have f1 : σ1.1 8 0 = s 0 2 := hX1.1.as 8 0 2 (by decide)
  refine ⟨by omega, fun σ3 e3 => ?_⟩
  have hX3 : am_RX w h (am_up (am_up s 3 (s 0 2).toNat c) 4 (s 0 2).toNat 0) σ3 := by rw [e3, f1]; exact hX1.row (by decide)
  have hM3 : am_RM w2 h2 s2 σ3 := by rw [e3]; exact hM1.fx am_fx.up (by decide)
  have f3 : σ3.1 8 0 = s 0 2 := hX3.1.as 8 0 2 (by decide)
  intro σ4 e4
  have hX4 : am_RX w h (N_ear w h s c) σ4 := by rw [e4, f3]; simp only [N_ear]; rw [if_pos ⟨q, by omega⟩]; exact hX3.sc (by decide)
  have hM4 : am_RM w2 h2 s2 σ4 := by rw [e4]; exact hM3.fx am_fx.up (by decide)
  refine ⟨_, rfl, rfl, am_fX k ?_ rfl hX4 hM4⟩
  simp only [A_ear, if_pos q]
  rw [if_pos (by omega), e4, f3]
  simp [am_up]
theorem m_ear {c : Int} (hM : am_RM w h s σ) (hX : am_RX w2 h2 s2 σ) (hO : am_OK w h s) (rc : am_r c) (k : ∀ σ', am_RM w h (N_ear w h s c) σ' → am_RX w2 h2 s2 σ' → Po (some (Zi (A_ear w h s c))) am_SH σ') : am_U x m_Mo_ear Po σ 0 [some (Zr 147), some (Zi c)] [] := by
  have e : σ.1 147 5 = s 0 2 := hM.1.as 147 5 2 (by decide)
  have hb := hO.2.2.2.1
  refine s_Mo_ear_0 (m_isCell hM (am_wh hO).2 rc (fun q => br1n ⟨by omega, fun q2 => ⟨by omega, fun σ1 e1 => ?_⟩, fun q2 => am_fM k (by simp only [A_ear, if_pos q]; rw [if_neg (by omega)]) (by simp only [N_ear]; rw [if_neg (by omega)]) hM hX⟩) (fun q => br0n (am_fM k (by simp only [A_ear, if_neg q]) (by simp only [N_ear]; rw [if_neg (by omega)]) hM hX)))
  have hM1 : am_RM w h (am_up s 3 (s 0 2).toNat c) σ1 := by rw [e1, e]; exact hM.row (by decide)
  have hX1 : am_RX w2 h2 s2 σ1 := by rw [e1]; exact hX.fx am_fx.up (by decide)
  have f1 : σ1.1 147 5 = s 0 2 := hM1.1.as 147 5 2 (by decide)
  refine ⟨by omega, fun σ3 e3 => ?_⟩
  have hM3 : am_RM w h (am_up (am_up s 3 (s 0 2).toNat c) 4 (s 0 2).toNat 0) σ3 := by rw [e3, f1]; exact hM1.row (by decide)
  have hX3 : am_RX w2 h2 s2 σ3 := by rw [e3]; exact hX1.fx am_fx.up (by decide)
  have f3 : σ3.1 147 5 = s 0 2 := hM3.1.as 147 5 2 (by decide)
  intro σ4 e4
  have hM4 : am_RM w h (N_ear w h s c) σ4 := by rw [e4, f3]; simp only [N_ear]; rw [if_pos ⟨q, by omega⟩]; exact hM3.sc (by decide)
  have hX4 : am_RX w2 h2 s2 σ4 := by rw [e4]; exact hX3.fx am_fx.up (by decide)
  refine am_fM k ?_ rfl hM4 hX4
  simp only [A_ear, if_pos q]
  rw [if_pos (by omega), e4, f3]
  simp [am_up]
/-! clock -/
def A_clock (s : Nat → Nat → Int) (e v : Int) : Int := if 0 ≤ e ∧ e < s 0 2 then (if -99 ≤ v ∧ v ≤ 99 then 1 else -3) else -2
def N_clock (s : Nat → Nat → Int) (e v : Int) : Nat → Nat → Int := if (0 ≤ e ∧ e < s 0 2) ∧ -99 ≤ v ∧ v ≤ 99 then am_up s 4 e.toNat v else s
theorem x_clock {e v : Int} (hX : am_RX w h s σ) (hM : am_RM w2 h2 s2 σ) (hO : am_OK w h s) (re : am_r e) (rv : am_r v) (k : ∀ σ', am_RX w h (N_clock s e v) σ' → am_RM w2 h2 s2 σ' → Po (some (Zi (A_clock s e v))) am_SH σ') : am_U x m_Sp_clock Po σ 0 [some (Zr 0), some (Zi e), some (Zi v)] [] := by
  have hb := hO.2.2.2.1
  refine s_Sp_clock_0 (x_isEar hX hb re (fun q => br1n (c_isW rv (by decide) (by decide) (fun q2 => br1n ⟨by omega, fun σ2 e2 => ?_⟩) (fun q2 => br0n (am_fX k (by simp only [A_clock, if_pos q, if_neg q2]) (by simp only [N_clock]; rw [if_neg (by omega)]) hX hM)))) (fun q => br0n (am_fX k (by simp only [A_clock, if_neg q]) (by simp only [N_clock]; rw [if_neg (by omega)]) hX hM)))
  subst e2
  exact am_fX k (by simp only [A_clock, if_pos q, if_pos q2]) (by simp only [N_clock]; rw [if_pos ⟨q, q2⟩]) (hX.row (r := 4) (by decide)) (hM.fx am_fx.up (by decide))
theorem m_clock {e v : Int} (hM : am_RM w h s σ) (hX : am_RX w2 h2 s2 σ) (hO : am_OK w h s) (re : am_r e) (rv : am_r v) (k : ∀ σ', am_RM w h (N_clock s e v) σ' → am_RX w2 h2 s2 σ' → Po (some (Zi (A_clock s e v))) am_SH σ') : am_U x m_Mo_clock Po σ 0 [some (Zr 147), some (Zi e), some (Zi v)] [] := by
  have hb := hO.2.2.2.1
  refine s_Mo_clock_0 (m_isEar hM hb re (fun q => br1n (c_in rv (by decide) (by decide) (fun q2 => br1n ⟨by omega, fun σ2 e2 => ?_⟩) (fun q2 => br0n (am_fM k (by simp only [A_clock, if_pos q, if_neg q2]) (by simp only [N_clock]; rw [if_neg (by omega)]) hM hX)))) (fun q => br0n (am_fM k (by simp only [A_clock, if_neg q]) (by simp only [N_clock]; rw [if_neg (by omega)]) hM hX)))
  subst e2
  exact am_fM k (by simp only [A_clock, if_pos q, if_pos q2]) (by simp only [N_clock]; rw [if_pos ⟨q, q2⟩]) (hM.row (r := 4) (by decide)) (hX.fx am_fx.up (by decide))
/-! shake, put -/
def A_shake (w h : Nat) (s : Nat → Nat → Int) (c b : Int) : Int := if 0 ≤ c ∧ c < ((w * h : Nat) : Int) then (if 0 ≤ b ∧ b ≤ 1000 then (if s 0 3 < 5 then s 0 3 else -5) else -3) else -2
def N_shake (w h : Nat) (s : Nat → Nat → Int) (c b : Int) : Nat → Nat → Int := if (0 ≤ c ∧ c < ((w * h : Nat) : Int)) ∧ (0 ≤ b ∧ b ≤ 1000) ∧ s 0 3 < 5 then am_up (am_up (am_up s 5 (s 0 3).toNat c) 6 (s 0 3).toNat b) 0 3 (s 0 3 + 1) else s
theorem x_place {i c b : Int} (hX : am_RX w h s σ) (hM : am_RM w2 h2 s2 σ) (hi : 0 ≤ i ∧ i < 5) (k : ∀ σ', am_RX w h (am_up (am_up s 5 i.toNat c) 6 i.toNat b) σ' → am_RM w2 h2 s2 σ' → Po none am_SH σ') : am_U x m_Bo_placeShake Po σ 0 [some (Zr 8), some (Zi i), some (Zi c), some (Zi b)] [] := by
  refine s_Bo_placeShake_0 ⟨hi, fun σ1 e1 σ2 e2 => k σ2 ?_ ?_⟩
  · rw [e2, e1]; exact (hX.row (k := 11) (r := 5) (by decide)).row (by decide)
  · rw [e2, e1]; exact (hM.fx (am_fx.up (k := 11)) (by decide)).fx am_fx.up (by decide)
theorem x_shake {c b : Int} (hX : am_RX w h s σ) (hM : am_RM w2 h2 s2 σ) (hO : am_OK w h s) (rc : am_r c) (rb : am_r b) (k : ∀ σ', am_RX w h (N_shake w h s c b) σ' → am_RM w2 h2 s2 σ' → Po (some (Zi (A_shake w h s c b))) am_SH σ') : am_U x m_Sp_shake Po σ 0 [some (Zr 0), some (Zi c), some (Zi b)] [] := by
  have e : σ.1 8 3 = s 0 3 := hX.1.as 8 3 3 (by decide)
  have hb := hO.2.2.2.2.1
  refine s_Sp_shake_0 (x_isCell hX (am_wh hO).2 rc (fun q => br1n (c_isW rb (by decide) (by decide) (fun q2 => br1n ⟨by omega, fun q3 => ?_, fun q3 => am_fX k (by simp only [A_shake, if_pos q, if_pos q2]; rw [if_neg (by omega)]) (by simp only [N_shake]; rw [if_neg (by omega)]) hX hM⟩) (fun q2 => br0n (am_fX k (by simp only [A_shake, if_pos q, if_neg q2]) (by simp only [N_shake]; rw [if_neg (by omega)]) hX hM)))) (fun q => br0n (am_fX k (by simp only [A_shake, if_neg q]) (by simp only [N_shake]; rw [if_neg (by omega)]) hX hM)))
  refine s_Bo_addShake_0 ?_
  rw [e]
  refine x_place hX hM (by omega) (fun σ1 hX1 hM1 => ⟨rfl, rfl, fun σ2 e2 => ?_⟩)
  have f1 : σ1.1 8 3 = s 0 3 := hX1.1.as 8 3 3 (by decide)
  refine ⟨_, rfl, rfl, am_fX k ?_ (n := am_up (am_up (am_up s 5 (s 0 3).toNat c) 6 (s 0 3).toNat b) 0 3 (s 0 3 + 1)) ?_ (by rw [e2, f1]; exact hX1.sc (by decide)) (by rw [e2]; exact hM1.fx am_fx.up (by decide))⟩
  · simp only [A_shake, if_pos q, if_pos q2]
    rw [if_pos (by omega), e2, f1]
    simp [am_up]
  · simp only [N_shake]; rw [if_pos ⟨q, q2, by omega⟩]
theorem m_shake {c b : Int} (hM : am_RM w h s σ) (hX : am_RX w2 h2 s2 σ) (hO : am_OK w h s) (rc : am_r c) (rb : am_r b) (k : ∀ σ', am_RM w h (N_shake w h s c b) σ' → am_RX w2 h2 s2 σ' → Po (some (Zi (A_shake w h s c b))) am_SH σ') : am_U x m_Mo_shake Po σ 0 [some (Zr 147), some (Zi c), some (Zi b)] [] := by
  have e : σ.1 147 8 = s 0 3 := hM.1.as 147 8 3 (by decide)
  have hb := hO.2.2.2.2.1
  refine s_Mo_shake_0 (m_isCell hM (am_wh hO).2 rc (fun q => br1n (c_in rb (by decide) (by decide) (fun q2 => br1n ⟨by omega, fun q3 => ⟨by omega, fun σ1 e1 => ?_⟩, fun q3 => am_fM k (by simp only [A_shake, if_pos q, if_pos q2]; rw [if_neg (by omega)]) (by simp only [N_shake]; rw [if_neg (by omega)]) hM hX⟩) (fun q2 => br0n (am_fM k (by simp only [A_shake, if_pos q, if_neg q2]) (by simp only [N_shake]; rw [if_neg (by omega)]) hM hX)))) (fun q => br0n (am_fM k (by simp only [A_shake, if_neg q]) (by simp only [N_shake]; rw [if_neg (by omega)]) hM hX)))
  have hM1 : am_RM w h (am_up s 5 (s 0 3).toNat c) σ1 := by rw [e1, e]; exact hM.row (by decide)
  have hX1 : am_RX w2 h2 s2 σ1 := by rw [e1]; exact hX.fx am_fx.up (by decide)
  have f1 : σ1.1 147 8 = s 0 3 := hM1.1.as 147 8 3 (by decide)
  refine ⟨by omega, fun σ3 e3 σ4 e4 => ?_⟩
  have hM3 : am_RM w h (am_up (am_up s 5 (s 0 3).toNat c) 6 (s 0 3).toNat b) σ3 := by rw [e3, f1]; exact hM1.row (by decide)
  have hX3 : am_RX w2 h2 s2 σ3 := by rw [e3]; exact hX1.fx am_fx.up (by decide)
  have f3 : σ3.1 147 8 = s 0 3 := hM3.1.as 147 8 3 (by decide)
  refine am_fM k ?_ (n := am_up (am_up (am_up s 5 (s 0 3).toNat c) 6 (s 0 3).toNat b) 0 3 (s 0 3 + 1)) ?_ (by rw [e4, f3]; exact hM3.sc (by decide)) (by rw [e4]; exact hX3.fx am_fx.up (by decide))
  · simp only [A_shake, if_pos q, if_pos q2]
    rw [if_pos (by omega), e4, f3]
    simp [am_up]
  · simp only [N_shake]; rw [if_pos ⟨q, q2, by omega⟩]
def A_put (w h : Nat) (s : Nat → Nat → Int) (i c b : Int) : Int := if (0 ≤ i ∧ i < s 0 3) ∧ (0 ≤ c ∧ c < ((w * h : Nat) : Int)) then (if 0 ≤ b ∧ b ≤ 1000 then 1 else -3) else -2
def N_put (w h : Nat) (s : Nat → Nat → Int) (i c b : Int) : Nat → Nat → Int := if ((0 ≤ i ∧ i < s 0 3) ∧ (0 ≤ c ∧ c < ((w * h : Nat) : Int))) ∧ (0 ≤ b ∧ b ≤ 1000) then am_up (am_up s 5 i.toNat c) 6 i.toNat b else s
theorem x_put {i c b : Int} (hX : am_RX w h s σ) (hM : am_RM w2 h2 s2 σ) (hO : am_OK w h s) (ri : am_r i) (rc : am_r c) (rb : am_r b) (k : ∀ σ', am_RX w h (N_put w h s i c b) σ' → am_RM w2 h2 s2 σ' → Po (some (Zi (A_put w h s i c b))) am_SH σ') : am_U x m_Sp_put Po σ 0 [some (Zr 0), some (Zi i), some (Zi c), some (Zi b)] [] := by
  have hb := hO.2.2.2.2.1
  refine s_Sp_put_0 (x_isShake hX hb ri (fun q => br1e (x_isCell hX (am_wh hO).2 rc (fun q2 => br1n (c_isW rb (by decide) (by decide) (fun q3 => br1n (x_place hX hM (by omega) (fun σ1 hX1 hM1 => ⟨rfl, rfl, am_fX k (by simp only [A_put]; rw [if_pos ⟨q, q2⟩, if_pos q3]) (by simp only [N_put]; rw [if_pos ⟨⟨q, q2⟩, q3⟩]) hX1 hM1⟩))) (fun q3 => br0n (am_fX k (by simp only [A_put]; rw [if_pos ⟨q, q2⟩, if_neg q3]) (by simp only [N_put]; rw [if_neg (by omega)]) hX hM)))) (fun q2 => br0n (s_Sp_put_16 (am_fX k (by simp only [A_put]; rw [if_neg (by omega)]) (by simp only [N_put]; rw [if_neg (by omega)]) hX hM))))) (fun q => br0e (s_Sp_put_16 (am_fX k (by simp only [A_put]; rw [if_neg (by omega)]) (by simp only [N_put]; rw [if_neg (by omega)]) hX hM))))
theorem m_put {i c b : Int} (hM : am_RM w h s σ) (hX : am_RX w2 h2 s2 σ) (hO : am_OK w h s) (ri : am_r i) (rc : am_r c) (rb : am_r b) (k : ∀ σ', am_RM w h (N_put w h s i c b) σ' → am_RX w2 h2 s2 σ' → Po (some (Zi (A_put w h s i c b))) am_SH σ') : am_U x m_Mo_put Po σ 0 [some (Zr 147), some (Zi i), some (Zi c), some (Zi b)] [] := by
  have hb := hO.2.2.2.2.1
  refine s_Mo_put_0 (m_isShake hM hb ri (fun q => br1e (m_isCell hM (am_wh hO).2 rc (fun q2 => br1n (c_in rb (by decide) (by decide) (fun q3 => br1n ⟨by omega, fun σ1 e1 σ3 e3 => ?_⟩) (fun q3 => br0n (am_fM k (by simp only [A_put]; rw [if_pos ⟨q, q2⟩, if_neg q3]) (by simp only [N_put]; rw [if_neg (by omega)]) hM hX)))) (fun q2 => br0n (s_Mo_put_16 (am_fM k (by simp only [A_put]; rw [if_neg (by omega)]) (by simp only [N_put]; rw [if_neg (by omega)]) hM hX))))) (fun q => br0e (s_Mo_put_16 (am_fM k (by simp only [A_put]; rw [if_neg (by omega)]) (by simp only [N_put]; rw [if_neg (by omega)]) hM hX))))
  refine am_fM k (by simp only [A_put]; rw [if_pos ⟨q, q2⟩, if_pos q3]) (n := am_up (am_up s 5 i.toNat c) 6 i.toNat b) (by simp only [N_put]; rw [if_pos ⟨⟨q, q2⟩, q3⟩]) ?_ ?_
  · rw [e3, e1]; exact (hM.row (k := 152) (r := 5) (by decide)).row (by decide)
  · rw [e3, e1]; exact (hX.fx (am_fx.up (k := 152)) (by decide)).fx am_fx.up (by decide)
/-! tellings -/
def N_tl (s : Nat → Nat → Int) (p lo hi : Int) : Nat → Nat → Int := am_up (am_up (am_up (am_up (am_up s 10 (s 0 5).toNat p) 11 (s 0 5).toNat (s 0 1)) 12 (s 0 5).toNat lo) 13 (s 0 5).toNat hi) 0 5 (s 0 5 + 1)
theorem x_addT {p lo hi : Int} (hX : am_RX w h s σ) (hM : am_RM w2 h2 s2 σ) (hb : 0 ≤ s 0 5 ∧ s 0 5 < 40) (k : ∀ σ', am_RX w h (N_tl s p lo hi) σ' → am_RM w2 h2 s2 σ' → Po none am_SH σ') : am_U x m_Bo_addTelling Po σ 0 [some (Zr 8), some (Zi p), some (Zi lo), some (Zi hi)] [] := by
  have e : σ.1 8 10 = s 0 5 := hX.1.as 8 10 5 (by decide)
  refine s_Bo_addTelling_0 ⟨by omega, fun σ1 e1 => ?_⟩
  have hX1 : am_RX w h (am_up s 10 (s 0 5).toNat p) σ1 := by rw [e1, e]; exact hX.row (by decide)
  have hM1 : am_RM w2 h2 s2 σ1 := by rw [e1]; exact hM.fx am_fx.up (by decide)
  have f1 : σ1.1 8 10 = s 0 5 := hX1.1.as 8 10 5 (by decide)
  have g1 : σ1.1 8 15 = s 0 1 := hX1.1.as 8 15 1 (by decide)
  refine ⟨by omega, fun σ2 e2 => ?_⟩
  have hX2 : am_RX w h (am_up (am_up s 10 (s 0 5).toNat p) 11 (s 0 5).toNat (s 0 1)) σ2 := by rw [e2, f1, g1]; exact hX1.row (by decide)
  have hM2 : am_RM w2 h2 s2 σ2 := by rw [e2]; exact hM1.fx am_fx.up (by decide)
  have f2 : σ2.1 8 10 = s 0 5 := hX2.1.as 8 10 5 (by decide)
  refine ⟨by omega, fun σ3 e3 => ?_⟩
  have hX3 : am_RX w h (am_up (am_up (am_up s 10 (s 0 5).toNat p) 11 (s 0 5).toNat (s 0 1)) 12 (s 0 5).toNat lo) σ3 := by rw [e3, f2]; exact hX2.row (by decide)
  have hM3 : am_RM w2 h2 s2 σ3 := by rw [e3]; exact hM2.fx am_fx.up (by decide)
  have f3 : σ3.1 8 10 = s 0 5 := hX3.1.as 8 10 5 (by decide)
  refine ⟨by omega, fun σ4 e4 σ5 e5 => ?_⟩
  have hX4 : am_RX w h (am_up (am_up (am_up (am_up s 10 (s 0 5).toNat p) 11 (s 0 5).toNat (s 0 1)) 12 (s 0 5).toNat lo) 13 (s 0 5).toNat hi) σ4 := by rw [e4, f3]; exact hX3.row (by decide)
  have hM4 : am_RM w2 h2 s2 σ4 := by rw [e4]; exact hM3.fx am_fx.up (by decide)
  have f4 : σ4.1 8 10 = s 0 5 := hX4.1.as 8 10 5 (by decide)
  exact k σ5 (by rw [e5, f4]; exact hX4.sc (by decide)) (by rw [e5]; exact hM4.fx am_fx.up (by decide))
theorem m_addT {p lo hi : Int} (hM : am_RM w h s σ) (hX : am_RX w2 h2 s2 σ) (hb : 0 ≤ s 0 5 ∧ s 0 5 < 40) (k : ∀ σ', am_RM w h (N_tl s p lo hi) σ' → am_RX w2 h2 s2 σ' → Po none am_SH σ') : am_U x m_Mo_addTelling Po σ 0 [some (Zr 147), some (Zi p), some (Zi lo), some (Zi hi)] [] := by
  have e : σ.1 147 15 = s 0 5 := hM.1.as 147 15 5 (by decide)
  refine s_Mo_addTelling_0 ⟨by omega, fun σ1 e1 => ?_⟩
  have hM1 : am_RM w h (am_up s 10 (s 0 5).toNat p) σ1 := by rw [e1, e]; exact hM.row (by decide)
  have hX1 : am_RX w2 h2 s2 σ1 := by rw [e1]; exact hX.fx am_fx.up (by decide)
  have f1 : σ1.1 147 15 = s 0 5 := hM1.1.as 147 15 5 (by decide)
  have g1 : σ1.1 147 20 = s 0 1 := hM1.1.as 147 20 1 (by decide)
  refine ⟨by omega, fun σ2 e2 => ?_⟩
  have hM2 : am_RM w h (am_up (am_up s 10 (s 0 5).toNat p) 11 (s 0 5).toNat (s 0 1)) σ2 := by rw [e2, f1, g1]; exact hM1.row (by decide)
  have hX2 : am_RX w2 h2 s2 σ2 := by rw [e2]; exact hX1.fx am_fx.up (by decide)
  have f2 : σ2.1 147 15 = s 0 5 := hM2.1.as 147 15 5 (by decide)
  refine ⟨by omega, fun σ3 e3 => ?_⟩
  have hM3 : am_RM w h (am_up (am_up (am_up s 10 (s 0 5).toNat p) 11 (s 0 5).toNat (s 0 1)) 12 (s 0 5).toNat lo) σ3 := by rw [e3, f2]; exact hM2.row (by decide)
  have hX3 : am_RX w2 h2 s2 σ3 := by rw [e3]; exact hX2.fx am_fx.up (by decide)
  have f3 : σ3.1 147 15 = s 0 5 := hM3.1.as 147 15 5 (by decide)
  refine ⟨by omega, fun σ4 e4 σ5 e5 => ?_⟩
  have hM4 : am_RM w h (am_up (am_up (am_up (am_up s 10 (s 0 5).toNat p) 11 (s 0 5).toNat (s 0 1)) 12 (s 0 5).toNat lo) 13 (s 0 5).toNat hi) σ4 := by rw [e4, f3]; exact hM3.row (by decide)
  have hX4 : am_RX w2 h2 s2 σ4 := by rw [e4]; exact hX3.fx am_fx.up (by decide)
  have f4 : σ4.1 147 15 = s 0 5 := hM4.1.as 147 15 5 (by decide)
  exact k σ5 (by rw [e5, f4]; exact hM4.sc (by decide)) (by rw [e5]; exact hX4.fx am_fx.up (by decide))
def A_tell (s : Nat → Nat → Int) (p lo hi : Int) : Int := if 0 ≤ p ∧ p < s 0 4 then (if 0 ≤ lo ∧ lo ≤ hi ∧ hi ≤ 3000 then (if s 0 5 < 40 then s 0 5 + 1 else -5) else -3) else -2
def N_tell (s : Nat → Nat → Int) (p lo hi : Int) : Nat → Nat → Int := if (0 ≤ p ∧ p < s 0 4) ∧ (0 ≤ lo ∧ lo ≤ hi ∧ hi ≤ 3000) ∧ s 0 5 < 40 then N_tl s p lo hi else s
theorem x_tell {p lo hi : Int} (hX : am_RX w h s σ) (hM : am_RM w2 h2 s2 σ) (hO : am_OK w h s) (rp : am_r p) (rl : am_r lo) (rh : am_r hi) (k : ∀ σ', am_RX w h (N_tell s p lo hi) σ' → am_RM w2 h2 s2 σ' → Po (some (Zi (A_tell s p lo hi))) am_SH σ') : am_U x m_Sp_tell Po σ 0 [some (Zr 0), some (Zi p), some (Zi lo), some (Zi hi)] [] := by
  have e : σ.1 8 10 = s 0 5 := hX.1.as 8 10 5 (by decide)
  have hb := hO.2.2.2.2.2.1
  have hb2 := hO.2.2.2.2.2.2.1
  refine s_Sp_tell_0 (x_isPick hX hb rp (fun q => br1n (x_isSpan rl rh (fun q2 => br1n ⟨by omega, fun q3 => x_addT hX hM (by omega) (fun σ1 hX1 hM1 => ⟨rfl, rfl, am_fX k ?_ (by simp only [N_tell]; rw [if_pos ⟨q, q2, by omega⟩]) hX1 hM1⟩), fun q3 => am_fX k (by simp only [A_tell]; rw [if_pos q, if_pos q2, if_neg (by omega)]) (by simp only [N_tell]; rw [if_neg (by omega)]) hX hM⟩) (fun q2 => br0n (am_fX k (by simp only [A_tell]; rw [if_pos q, if_neg q2]) (by simp only [N_tell]; rw [if_neg (by omega)]) hX hM)))) (fun q => br0n (am_fX k (by simp only [A_tell]; rw [if_neg q]) (by simp only [N_tell]; rw [if_neg (by omega)]) hX hM)))
  have f1 : σ1.1 8 10 = s 0 5 + 1 := hX1.1.as 8 10 5 (by decide)
  rw [f1]
  simp only [A_tell]; rw [if_pos q, if_pos q2, if_pos (by omega)]
theorem m_tell {p lo hi : Int} (hM : am_RM w h s σ) (hX : am_RX w2 h2 s2 σ) (hO : am_OK w h s) (rp : am_r p) (rl : am_r lo) (rh : am_r hi) (k : ∀ σ', am_RM w h (N_tell s p lo hi) σ' → am_RX w2 h2 s2 σ' → Po (some (Zi (A_tell s p lo hi))) am_SH σ') : am_U x m_Mo_tell Po σ 0 [some (Zr 147), some (Zi p), some (Zi lo), some (Zi hi)] [] := by
  have e : σ.1 147 15 = s 0 5 := hM.1.as 147 15 5 (by decide)
  have hb := hO.2.2.2.2.2.1
  have hb2 := hO.2.2.2.2.2.2.1
  refine s_Mo_tell_0 (m_isPick hM hb rp (fun q => br1n (m_isSpan rl rh (fun q2 => br1n ⟨by omega, fun q3 => m_addT hM hX (by omega) (fun σ1 hM1 hX1 => ⟨rfl, rfl, am_fM k ?_ (by simp only [N_tell]; rw [if_pos ⟨q, q2, by omega⟩]) hM1 hX1⟩), fun q3 => am_fM k (by simp only [A_tell]; rw [if_pos q, if_pos q2, if_neg (by omega)]) (by simp only [N_tell]; rw [if_neg (by omega)]) hM hX⟩) (fun q2 => br0n (am_fM k (by simp only [A_tell]; rw [if_pos q, if_neg q2]) (by simp only [N_tell]; rw [if_neg (by omega)]) hM hX)))) (fun q => br0n (am_fM k (by simp only [A_tell]; rw [if_neg q]) (by simp only [N_tell]; rw [if_neg (by omega)]) hM hX)))
  have f1 : σ1.1 147 15 = s 0 5 + 1 := hM1.1.as 147 15 5 (by decide)
  rw [f1]
  simp only [A_tell]; rw [if_pos q, if_pos q2, if_pos (by omega)]
end AMP
