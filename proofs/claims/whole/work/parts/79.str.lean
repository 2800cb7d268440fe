/-! ===== the texts' lengths and letters ===== -/
def am_chr (i j : Nat) : Int := ((am_byt.getD i []).getD j 0).toInt
theorem am_chr_b : ∀ i, i < 7 → ∀ j, j < am_len.getD i 0 → 97 ≤ am_chr i j ∧ am_chr i j ≤ 122 := by decide
theorem am_len_b : ∀ i, i < 7 → 2 ≤ am_len.getD i 0 ∧ am_len.getD i 0 ≤ 5 := by decide
section AMSTR
variable {x : am_Sc} {Po : Option am_AV → am_Sh → am_St → Prop} {σ : am_St} {w h w2 h2 : Nat} {s s2 : Nat → Nat → Int}
theorem c_coder {i : Nat} (hi : i < 7) (kk : Po (some (Zi 0)) am_SH σ) : am_U x m_St_coder Po σ 0 [some (Zr (1000001 + i))] [] := by
  refine V_gets1 d_St_coder_0 fx_St_38 ?_
  refine V_if_eq 13 d_St_coder_3 (by decide) (fun z => absurd z (by decide)) (fun _ => ?_)
  refine V_aload_n d_St_coder_6 rfl ?_
  refine V_strc d_St_coder_7 fx_St_15 hi ?_
  refine V_goto 14 d_St_coder_10 ?_
  exact V_sret d_St_coder_14 rfl (by decide) rfl kk
theorem c_latin {i : Nat} (hi : i < 7) (kk : Po (some (Zi 1)) am_SH σ) : am_U x m_St_isLatin1 Po σ 0 [some (Zr (1000001 + i))] [] := by
  refine V_gets1 d_St_isLatin1_0 fx_St_38 ?_
  refine V_if_eq 17 d_St_isLatin1_3 (by decide) (fun z => absurd z (by decide)) (fun _ => ?_)
  refine V_aload_n d_St_isLatin1_6 rfl ?_
  refine V_strc d_St_isLatin1_7 fx_St_15 hi ?_
  refine V_if_ne 17 d_St_isLatin1_10 (by decide) (fun z => absurd rfl z) (fun _ => ?_)
  refine V_iconst d_St_isLatin1_13 ?_
  refine V_goto 18 d_St_isLatin1_14 ?_
  exact V_sret d_St_isLatin1_18 rfl (by decide) rfl kk
theorem c_strlen {i : Nat} (hi : i < 7) (kk : Po (some (Zi ((am_len.getD i 0 : Nat) : Int))) am_SH σ) : am_U x m_St_length Po σ 0 [some (Zr (1000001 + i))] [] := by
  refine V_aload_n d_St_length_0 rfl ?_
  refine V_strv d_St_length_1 fx_St_9 hi ?_
  refine V_tlen d_St_length_4 hi ?_
  refine V_aload_n d_St_length_5 rfl ?_
  refine U_iT0 cv_St_length_335 d_St_length_6 hi rfl rfl (c_coder hi ?_)
  refine V_ishr d_St_length_9 ?_
  have b := am_len_b i hi
  have e : am_shr ((am_len.getD i 0 : Nat) : Int) 0 = ((am_len.getD i 0 : Nat) : Int) := by
    have := am_shr_n (a := am_len.getD i 0) (k := 0) (by omega) (by decide)
    rw [Nat.pow_zero, Nat.div_one] at this
    exact this
  rw [e]
  exact V_iret d_St_length_10 rfl rfl kk
theorem c_pcCheck {j n : Int} (hj : 0 ≤ j ∧ j < n) (hn : n ≤ 100) (kk : Po (some (Zi j)) am_SH σ) : am_U x m_Pc_checkIndex Po σ 0 [some (Zi j), some (Zi n), some Zo] [] := by
  refine V_iload_n d_Pc_checkIndex_0 rfl ?_
  refine V_if_lt 9 d_Pc_checkIndex_1 (by omega) (fun z => absurd z (by omega)) (fun _ => ?_)
  refine V_iload_n d_Pc_checkIndex_4 rfl ?_
  refine V_iload_n d_Pc_checkIndex_5 rfl ?_
  refine V_icmp_lt 16 d_Pc_checkIndex_6 (by omega) (by omega) (fun _ => ?_) (fun z => absurd hj.2 z)
  refine V_iload_n d_Pc_checkIndex_16 rfl ?_
  exact V_iret d_Pc_checkIndex_17 rfl rfl kk
theorem c_stCheck {j n : Int} (hj : 0 ≤ j ∧ j < n) (hn : n ≤ 100) (kk : Po none am_SH σ) : am_U x m_St_checkIndex Po σ 0 [some (Zi j), some (Zi n)] [] := by
  refine V_iload_n d_St_checkIndex_0 rfl ?_
  refine V_iload_n d_St_checkIndex_1 rfl ?_
  refine V_getsF d_St_checkIndex_2 fx_St_1053 ?_
  refine U_is3 cv_St_checkIndex_1059 d_St_checkIndex_5 rfl (c_pcCheck hj hn ?_)
  refine V_pop d_St_checkIndex_8 ?_
  exact V_ret d_St_checkIndex_9 rfl rfl kk
theorem c_l1char {i j : Nat} (hi : i < 7) (hj : j < am_len.getD i 0) (kk : Po (some (Zi (am_chr i j))) am_SH σ) : am_U x m_L1_charAt Po σ 0 [some (Zr (1000008 + i)), some (Zi (j : Int))] [] := by
  have b := am_len_b i hi
  have cb := am_chr_b i hi j hj
  refine V_iload_n d_L1_charAt_0 rfl ?_
  refine V_aload_n d_L1_charAt_1 rfl ?_
  refine V_tlen d_L1_charAt_2 hi ?_
  refine U_is2 cv_L1_charAt_9 d_L1_charAt_3 rfl (c_stCheck (by omega) (by omega) ?_)
  refine V_aload_n d_L1_charAt_6 rfl ?_
  refine V_iload_n d_L1_charAt_7 rfl ?_
  refine V_tb (b := am_chr i j) d_L1_charAt_8 hi rfl hj (by unfold am_chr; rw [Int32.ofInt_toInt]) ?_
  refine V_sipush d_L1_charAt_9 ?_
  refine V_iand d_L1_charAt_12 ?_
  have e : am_and (am_chr i j) 255 = am_chr i j := by
    rw [am_and_mask (k := 8) (by omega) (by decide) (by decide)]
    omega
  rw [e]
  refine V_i2c d_L1_charAt_13 (by omega) ?_
  refine V_sret d_L1_charAt_14 rfl ?_ rfl kk
  have : ∀ i, i < 7 → ∀ j, j < am_len.getD i 0 → narrow .char (.int (Int32.ofInt (am_chr i j))) = .int (Int32.ofInt (am_chr i j)) := by decide
  exact this i hi j hj
theorem c_charAt {i j : Nat} (hi : i < 7) (hj : j < am_len.getD i 0) (kk : Po (some (Zi (am_chr i j))) am_SH σ) : am_U x m_St_charAt Po σ 0 [some (Zr (1000001 + i)), some (Zi (j : Int))] [] := by
  refine V_aload_n d_St_charAt_0 rfl ?_
  refine U_iT0 cv_St_charAt_492 d_St_charAt_1 hi rfl rfl (c_latin hi ?_)
  refine V_if_eq 16 d_St_charAt_4 (by decide) (fun z => absurd z (by decide)) (fun _ => ?_)
  refine V_aload_n d_St_charAt_7 rfl ?_
  refine V_strv d_St_charAt_8 fx_St_9 hi ?_
  refine V_iload_n d_St_charAt_11 rfl ?_
  refine U_is2 cv_St_charAt_495 d_St_charAt_12 rfl (c_l1char hi hj ?_)
  refine V_sret d_St_charAt_15 rfl ?_ rfl kk
  have : ∀ i, i < 7 → ∀ j, j < am_len.getD i 0 → narrow .char (.int (Int32.ofInt (am_chr i j))) = .int (Int32.ofInt (am_chr i j)) := by decide
  exact this i hi j hj
end AMSTR
