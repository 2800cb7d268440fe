/-! ===== the two constructors ===== -/
/-- the rows from n on are fresh -/
def am_Z (n : Nat) (σ : am_St) : Prop := ∀ k, n ≤ k → ∀ j, σ.1 k j = 0 ∧ σ.2 k j = 0
theorem am_Z.z1 {n k : Nat} {σ : am_St} (h : am_Z n σ) (hk : Nat.ble n k = true) : (am_z σ.1 k, am_z σ.2 k) = σ := by
  have hk := Nat.le_of_ble_eq_true hk
  apply Prod.ext
  · funext k' j
    by_cases e : k' = k
    · subst e; simp [am_z, (h k' hk j).1]
    · simp [am_z, e]
  · funext k' j
    by_cases e : k' = k
    · subst e; simp [am_z, (h k' hk j).2]
    · simp [am_z, e]
theorem am_Z.zz {n k : Nat} {σ : am_St} (h : am_Z n σ) (hk : Nat.ble n k = true) : (am_zz σ.1 k, am_zz σ.2 k) = σ := by
  have hk := Nat.le_of_ble_eq_true hk
  apply Prod.ext
  · funext k' j
    by_cases e : k ≤ k'
    · simp [am_zz, e, (h k' (by omega) j).1]
    · simp [am_zz, e]
  · funext k' j
    by_cases e : k ≤ k'
    · simp [am_zz, e, (h k' (by omega) j).2]
    · simp [am_zz, e]
theorem am_Z.up {n k j : Nat} {v : Int} {σ : am_St} (h : am_Z n σ) (hk : k < n) : am_Z n (am_up σ.1 k j v, σ.2) := fun k' h' j' => by
  have e : k' ≠ k := by omega
  exact ⟨by show am_up σ.1 k j v k' j' = 0; simp [am_up, e, (h k' h' j').1], (h k' h' j').2⟩
theorem am_Z.mono {n m : Nat} {σ : am_St} (h : am_Z n σ) (hm : n ≤ m) : am_Z m σ := fun k hk => h k (by omega)
section AMK
variable {x : am_Sc} {M : am_MT} {Po : Option am_AV → am_Sh → am_St → Prop} {cs : Nat × Nat} {sh : am_Sh} {σ : am_St} {pc : Nat} {lv : List (Option am_AV)} {st : List am_AV}
theorem Y_new {idx ci b : Nat} (N : Nat) (hz : am_Z b σ) (hd : decode (am_c M) pc = .ok (.new idx, 3)) (hf : am_NL M.1.cls idx ci) (hN : (am_TG.getD ci []).length = N) (hb : Nat.ble b sh.length = true) (hlen : Nat.blt sh.length 1000000 = true) (hc : (Nat.ble (cs.1 + 1) M.2.2.2.2.cells && Nat.ble (cs.2 + N) M.2.2.2.2.slots) = true)
    (kk : am_V x M Po (cs.1 + 1, cs.2 + N) (sh ++ [(ci, N, List.replicate N none)]) σ (pc + 3) lv (Zr sh.length :: st)) : am_V x M Po cs sh σ pc lv st := V_new N hd hf hN hlen hc (by rw [hz.z1 hb]; exact kk)
theorem Y_newI {n b : Nat} {z : Int} (hz : am_Z b σ) (hd : decode (am_c M) pc = .ok (.newarray .int, 2)) (hz0 : z = (n : Int)) (hn : Nat.blt n 1000 = true) (hb : Nat.ble b sh.length = true) (hlen : Nat.blt sh.length 1000000 = true) (hc : (Nat.ble (cs.1 + 1) M.2.2.2.2.cells && Nat.ble (cs.2 + n) M.2.2.2.2.slots) = true)
    (kk : am_V x M Po (cs.1 + 1, cs.2 + n) (sh ++ [(12, n, [])]) σ (pc + 2) lv (Zr sh.length :: st)) : am_V x M Po cs sh σ pc lv (Zi z :: st) := V_newI hd ac_int hz0 hn hlen hc (by rw [hz.z1 hb]; exact kk)
theorem Y_newL {n b : Nat} {z : Int} (hz : am_Z b σ) (hd : decode (am_c M) pc = .ok (.newarray .long, 2)) (hz0 : z = (n : Int)) (hn : Nat.blt n 1000 = true) (hb : Nat.ble b sh.length = true) (hlen : Nat.blt sh.length 1000000 = true) (hc : (Nat.ble (cs.1 + 1) M.2.2.2.2.cells && Nat.ble (cs.2 + n) M.2.2.2.2.slots) = true)
    (kk : am_V x M Po (cs.1 + 1, cs.2 + n) (sh ++ [(13, n, [])]) σ (pc + 2) lv (Zr sh.length :: st)) : am_V x M Po cs sh σ pc lv (Zi z :: st) := V_newL hd ac_long hz0 hn hlen hc (by rw [hz.z1 hb]; exact kk)
theorem Y_newZ {n b : Nat} {z : Int} (hz : am_Z b σ) (hd : decode (am_c M) pc = .ok (.newarray .boolean, 2)) (hz0 : z = (n : Int)) (hn : Nat.blt n 1000 = true) (hb : Nat.ble b sh.length = true) (hlen : Nat.blt sh.length 1000000 = true) (hc : (Nat.ble (cs.1 + 1) M.2.2.2.2.cells && Nat.ble (cs.2 + n) M.2.2.2.2.slots) = true)
    (kk : am_V x M Po (cs.1 + 1, cs.2 + n) (sh ++ [(14, n, [])]) σ (pc + 2) lv (Zr sh.length :: st)) : am_V x M Po cs sh σ pc lv (Zi z :: st) := V_newZ hd ac_boolean hz0 hn hlen hc (by rw [hz.z1 hb]; exact kk)
theorem Y_mnaI {idx n k b : Nat} {zn zk : Int} (hz : am_Z b σ) (hd : decode (am_c M) pc = .ok (.multianewarray idx 2, 4)) (hcl : Cond.classLink M.1.cls idx "[[I" ∈ am_tbl) (hzn : zn = (n : Int)) (hzk : zk = (k : Int)) (hnk : (Nat.blt n 1000 && Nat.blt k 1000) = true) (hb : Nat.ble b sh.length = true)
    (hlen : Nat.blt (sh.length + n + 1) 1000000 = true) (hc : (Nat.ble (cs.1 + (1 + n)) M.2.2.2.2.cells && Nat.ble (cs.2 + (n + n * k)) M.2.2.2.2.slots) = true)
    (kk : am_V x M Po (cs.1 + 1 + n, cs.2 + n + n * k) (sh ++ ((15, n, (List.range n).map fun i => some (sh.length + 1 + i)) :: List.replicate n (12, k, []))) σ (pc + 4) lv (Zr sh.length :: st)) : am_V x M Po cs sh σ pc lv (Zi zk :: Zi zn :: st) := V_mnaI hd hcl ac_int hzn hzk hnk hlen hc (by rw [hz.zz hb]; exact kk)
theorem Y_mnaL {idx n k b : Nat} {zn zk : Int} (hz : am_Z b σ) (hd : decode (am_c M) pc = .ok (.multianewarray idx 2, 4)) (hcl : Cond.classLink M.1.cls idx "[[J" ∈ am_tbl) (hzn : zn = (n : Int)) (hzk : zk = (k : Int)) (hnk : (Nat.blt n 1000 && Nat.blt k 1000) = true) (hb : Nat.ble b sh.length = true)
    (hlen : Nat.blt (sh.length + n + 1) 1000000 = true) (hc : (Nat.ble (cs.1 + (1 + n)) M.2.2.2.2.cells && Nat.ble (cs.2 + (n + n * k)) M.2.2.2.2.slots) = true)
    (kk : am_V x M Po (cs.1 + 1 + n, cs.2 + n + n * k) (sh ++ ((16, n, (List.range n).map fun i => some (sh.length + 1 + i)) :: List.replicate n (13, k, []))) σ (pc + 4) lv (Zr sh.length :: st)) : am_V x M Po cs sh σ pc lv (Zi zk :: Zi zn :: st) := V_mnaL hd hcl ac_long hzn hzk hnk hlen hc (by rw [hz.zz hb]; exact kk)
end AMK
def y_0 : am_Sh := [(10, 9, [none, none, none, none, none, none, none, none, none]), (0, 9, [none, none, none, none, none, none, none, none, none])]
def y_1 : am_Sh := [(10, 9, [none, none, none, none, none, none, none, none, none]), (0, 9, [none, none, some 2, some 3, some 4, some 5, some 6, some 7, none]), (12, 16, []), (12, 8, []), (12, 64, []), (12, 16, []), (12, 16, []), (12, 16, [])]
theorem c_Gr_init {x : am_Sc} {Po : Option am_AV → am_Sh → am_St → Prop} {σ : am_St} (hz : am_Z 2 σ) (h : Po none y_1 (am_up σ.1 1 1 17, σ.2)) : am_V x m_Gr_init Po (0, 0) y_0 σ 0 [some (Zr 1)] [] := by
  refine V_aload_n d_Gr_init_0 rfl ?_
  refine V_obj d_Gr_init_1 ⟨ml_Gr_3, mo_obj.1, mo_obj.2⟩ rfl rfl ?_
  refine V_aload_n d_Gr_init_4 rfl ?_
  refine V_bipush d_Gr_init_5 ?_
  refine V_puti d_Gr_init_7 fw_Gr_9 rfl rfl ?_
  have hz1 := hz.up (k := 1) (j := 1) (v := 17) (by decide)
  refine V_aload_n d_Gr_init_10 rfl ?_
  refine V_bipush d_Gr_init_11 ?_
  refine Y_newI (n := 16) hz1 d_Gr_init_13 rfl rfl rfl rfl rfl ?_
  refine V_puta d_Gr_init_15 fl_Gr_15 (fun C T N h => by cases h; exact ⟨rfl, rfl⟩) rfl rfl (fun g => ⟨rfl, rfl⟩) rfl ?_
  refine V_aload_n d_Gr_init_18 rfl ?_
  refine V_bipush d_Gr_init_19 ?_
  refine Y_newI (n := 8) hz1 d_Gr_init_21 rfl rfl rfl rfl rfl ?_
  refine V_puta d_Gr_init_23 fl_Gr_19 (fun C T N h => by cases h; exact ⟨rfl, rfl⟩) rfl rfl (fun g => ⟨rfl, rfl⟩) rfl ?_
  refine V_aload_n d_Gr_init_26 rfl ?_
  refine V_bipush d_Gr_init_27 ?_
  refine Y_newI (n := 64) hz1 d_Gr_init_29 rfl rfl rfl rfl rfl ?_
  refine V_puta d_Gr_init_31 fl_Gr_22 (fun C T N h => by cases h; exact ⟨rfl, rfl⟩) rfl rfl (fun g => ⟨rfl, rfl⟩) rfl ?_
  refine V_aload_n d_Gr_init_34 rfl ?_
  refine V_bipush d_Gr_init_35 ?_
  refine Y_newI (n := 16) hz1 d_Gr_init_37 rfl rfl rfl rfl rfl ?_
  refine V_puta d_Gr_init_39 fl_Gr_25 (fun C T N h => by cases h; exact ⟨rfl, rfl⟩) rfl rfl (fun g => ⟨rfl, rfl⟩) rfl ?_
  refine V_aload_n d_Gr_init_42 rfl ?_
  refine V_bipush d_Gr_init_43 ?_
  refine Y_newI (n := 16) hz1 d_Gr_init_45 rfl rfl rfl rfl rfl ?_
  refine V_puta d_Gr_init_47 fl_Gr_28 (fun C T N h => by cases h; exact ⟨rfl, rfl⟩) rfl rfl (fun g => ⟨rfl, rfl⟩) rfl ?_
  refine V_aload_n d_Gr_init_50 rfl ?_
  refine V_bipush d_Gr_init_51 ?_
  refine Y_newI (n := 16) hz1 d_Gr_init_53 rfl rfl rfl rfl rfl ?_
  refine V_puta d_Gr_init_55 fl_Gr_31 (fun C T N h => by cases h; exact ⟨rfl, rfl⟩) rfl rfl (fun g => ⟨rfl, rfl⟩) rfl ?_
  exact V_ret d_Gr_init_58 rfl rfl h
def y_2 : am_Sh := [(10, 9, [none, none, none, none, none, none, none, none, none]), (0, 9, [none, none, some 2, some 3, some 4, some 5, some 6, some 7, none]), (12, 16, []), (12, 8, []), (12, 64, []), (12, 16, []), (12, 16, []), (12, 16, []), (1, 16, [none, none, none, none, none, none, none, none, none, none, none, none, none, none, none, none])]
def y_3 : am_Sh := [(10, 9, [none, none, none, none, none, none, none, none, none]), (0, 9, [none, none, some 2, some 3, some 4, some 5, some 6, some 7, none]), (12, 16, []), (12, 8, []), (12, 64, []), (12, 16, []), (12, 16, []), (12, 16, []), (1, 16, [none, some 9, some 10, none, some 11, some 12, none, some 13, some 14, some 15, none, some 16, some 17, some 18, some 19, none]), (12, 6, []), (12, 6, []), (12, 5, []), (12, 5, []), (12, 12, []), (12, 12, []), (12, 12, []), (12, 40, []), (12, 40, []), (12, 40, []), (12, 40, [])]
theorem c_Bo_init {x : am_Sc} {Po : Option am_AV → am_Sh → am_St → Prop} {σ : am_St} (hz : am_Z 9 σ) (h : Po none y_3 σ) : am_V x m_Bo_init Po (0, 0) y_2 σ 0 [some (Zr 8)] [] := by
  refine V_aload_n d_Bo_init_0 rfl ?_
  refine V_obj d_Bo_init_1 ⟨ml_Bo_3, mo_obj.1, mo_obj.2⟩ rfl rfl ?_
  refine V_aload_n d_Bo_init_4 rfl ?_
  refine V_bipush d_Bo_init_5 ?_
  refine Y_newI (n := 6) hz d_Bo_init_7 rfl rfl rfl rfl rfl ?_
  refine V_puta d_Bo_init_9 fl_Bo_9 (fun C T N h => by cases h; exact ⟨rfl, rfl⟩) rfl rfl (fun g => ⟨rfl, rfl⟩) rfl ?_
  refine V_aload_n d_Bo_init_12 rfl ?_
  refine V_bipush d_Bo_init_13 ?_
  refine Y_newI (n := 6) hz d_Bo_init_15 rfl rfl rfl rfl rfl ?_
  refine V_puta d_Bo_init_17 fl_Bo_15 (fun C T N h => by cases h; exact ⟨rfl, rfl⟩) rfl rfl (fun g => ⟨rfl, rfl⟩) rfl ?_
  refine V_aload_n d_Bo_init_20 rfl ?_
  refine V_iconst d_Bo_init_21 ?_
  refine Y_newI (n := 5) hz d_Bo_init_22 rfl rfl rfl rfl rfl ?_
  refine V_puta d_Bo_init_24 fl_Bo_18 (fun C T N h => by cases h; exact ⟨rfl, rfl⟩) rfl rfl (fun g => ⟨rfl, rfl⟩) rfl ?_
  refine V_aload_n d_Bo_init_27 rfl ?_
  refine V_iconst d_Bo_init_28 ?_
  refine Y_newI (n := 5) hz d_Bo_init_29 rfl rfl rfl rfl rfl ?_
  refine V_puta d_Bo_init_31 fl_Bo_21 (fun C T N h => by cases h; exact ⟨rfl, rfl⟩) rfl rfl (fun g => ⟨rfl, rfl⟩) rfl ?_
  refine V_aload_n d_Bo_init_34 rfl ?_
  refine V_bipush d_Bo_init_35 ?_
  refine Y_newI (n := 12) hz d_Bo_init_37 rfl rfl rfl rfl rfl ?_
  refine V_puta d_Bo_init_39 fl_Bo_24 (fun C T N h => by cases h; exact ⟨rfl, rfl⟩) rfl rfl (fun g => ⟨rfl, rfl⟩) rfl ?_
  refine V_aload_n d_Bo_init_42 rfl ?_
  refine V_bipush d_Bo_init_43 ?_
  refine Y_newI (n := 12) hz d_Bo_init_45 rfl rfl rfl rfl rfl ?_
  refine V_puta d_Bo_init_47 fl_Bo_27 (fun C T N h => by cases h; exact ⟨rfl, rfl⟩) rfl rfl (fun g => ⟨rfl, rfl⟩) rfl ?_
  refine V_aload_n d_Bo_init_50 rfl ?_
  refine V_bipush d_Bo_init_51 ?_
  refine Y_newI (n := 12) hz d_Bo_init_53 rfl rfl rfl rfl rfl ?_
  refine V_puta d_Bo_init_55 fl_Bo_30 (fun C T N h => by cases h; exact ⟨rfl, rfl⟩) rfl rfl (fun g => ⟨rfl, rfl⟩) rfl ?_
  refine V_aload_n d_Bo_init_58 rfl ?_
  refine V_bipush d_Bo_init_59 ?_
  refine Y_newI (n := 40) hz d_Bo_init_61 rfl rfl rfl rfl rfl ?_
  refine V_puta d_Bo_init_63 fl_Bo_33 (fun C T N h => by cases h; exact ⟨rfl, rfl⟩) rfl rfl (fun g => ⟨rfl, rfl⟩) rfl ?_
  refine V_aload_n d_Bo_init_66 rfl ?_
  refine V_bipush d_Bo_init_67 ?_
  refine Y_newI (n := 40) hz d_Bo_init_69 rfl rfl rfl rfl rfl ?_
  refine V_puta d_Bo_init_71 fl_Bo_36 (fun C T N h => by cases h; exact ⟨rfl, rfl⟩) rfl rfl (fun g => ⟨rfl, rfl⟩) rfl ?_
  refine V_aload_n d_Bo_init_74 rfl ?_
  refine V_bipush d_Bo_init_75 ?_
  refine Y_newI (n := 40) hz d_Bo_init_77 rfl rfl rfl rfl rfl ?_
  refine V_puta d_Bo_init_79 fl_Bo_39 (fun C T N h => by cases h; exact ⟨rfl, rfl⟩) rfl rfl (fun g => ⟨rfl, rfl⟩) rfl ?_
  refine V_aload_n d_Bo_init_82 rfl ?_
  refine V_bipush d_Bo_init_83 ?_
  refine Y_newI (n := 40) hz d_Bo_init_85 rfl rfl rfl rfl rfl ?_
  refine V_puta d_Bo_init_87 fl_Bo_42 (fun C T N h => by cases h; exact ⟨rfl, rfl⟩) rfl rfl (fun g => ⟨rfl, rfl⟩) rfl ?_
  exact V_ret d_Bo_init_90 rfl rfl h
def y_4 : am_Sh := [(10, 9, [none, none, none, none, none, none, none, none, none]), (0, 9, [none, none, some 2, some 3, some 4, some 5, some 6, some 7, none]), (12, 16, []), (12, 8, []), (12, 64, []), (12, 16, []), (12, 16, []), (12, 16, []), (1, 16, [none, some 9, some 10, none, some 11, some 12, none, some 13, some 14, some 15, none, some 16, some 17, some 18, some 19, none]), (12, 6, []), (12, 6, []), (12, 5, []), (12, 5, []), (12, 12, []), (12, 12, []), (12, 12, []), (12, 40, []), (12, 40, []), (12, 40, []), (12, 40, []), (3, 5, [none, none, none, none, none])]
def y_5 : am_Sh := [(10, 9, [none, none, none, none, none, none, none, none, none]), (0, 9, [none, none, some 2, some 3, some 4, some 5, some 6, some 7, none]), (12, 16, []), (12, 8, []), (12, 64, []), (12, 16, []), (12, 16, []), (12, 16, []), (1, 16, [none, some 9, some 10, none, some 11, some 12, none, some 13, some 14, some 15, none, some 16, some 17, some 18, some 19, none]), (12, 6, []), (12, 6, []), (12, 5, []), (12, 5, []), (12, 12, []), (12, 12, []), (12, 12, []), (12, 40, []), (12, 40, []), (12, 40, []), (12, 40, []), (3, 5, [some 1, some 8, none, some 21, some 22]), (12, 12, []), (15, 12, [some 23, some 24, some 25, some 26, some 27, some 28, some 29, some 30, some 31, some 32, some 33, some 34]), (12, 8, []), (12, 8, []), (12, 8, []), (12, 8, []), (12, 8, []), (12, 8, []), (12, 8, []), (12, 8, []), (12, 8, []), (12, 8, []), (12, 8, []), (12, 8, [])]
theorem c_Ra_init {x : am_Sc} {Po : Option am_AV → am_Sh → am_St → Prop} {σ : am_St} (hz : am_Z 21 σ) (h : Po none y_5 σ) : am_V x m_Ra_init Po (0, 0) y_4 σ 0 [some (Zr 20), some (Zr 1), some (Zr 8)] [] := by
  refine V_aload_n d_Ra_init_0 rfl ?_
  refine V_obj d_Ra_init_1 ⟨ml_Ra_3, mo_obj.1, mo_obj.2⟩ rfl rfl ?_
  refine V_aload_n d_Ra_init_4 rfl ?_
  refine V_bipush d_Ra_init_5 ?_
  refine Y_newI (n := 12) hz d_Ra_init_7 rfl rfl rfl rfl rfl ?_
  refine V_puta d_Ra_init_9 fl_Ra_9 (fun C T N h => by cases h; exact ⟨rfl, rfl⟩) rfl rfl (fun g => ⟨rfl, rfl⟩) rfl ?_
  refine V_aload_n d_Ra_init_12 rfl ?_
  refine V_bipush d_Ra_init_13 ?_
  refine V_bipush d_Ra_init_15 ?_
  refine Y_mnaI (n := 12) (k := 8) hz d_Ra_init_17 nx_Ra_15 rfl rfl rfl rfl rfl rfl ?_
  refine V_puta d_Ra_init_21 fl_Ra_17 (fun C T N h => by cases h; exact ⟨rfl, rfl⟩) rfl rfl (fun g => ⟨rfl, rfl⟩) rfl ?_
  refine V_aload_n d_Ra_init_24 rfl ?_
  refine V_aload_n d_Ra_init_25 rfl ?_
  refine V_puta d_Ra_init_26 fl_Ra_20 (fun C T N h => by cases h; exact ⟨rfl, rfl⟩) rfl rfl (fun g => ⟨rfl, rfl⟩) rfl ?_
  refine V_aload_n d_Ra_init_29 rfl ?_
  refine V_aload_n d_Ra_init_30 rfl ?_
  refine V_puta d_Ra_init_31 fl_Ra_24 (fun C T N h => by cases h; exact ⟨rfl, rfl⟩) rfl rfl (fun g => ⟨rfl, rfl⟩) rfl ?_
  exact V_ret d_Ra_init_34 rfl rfl h
