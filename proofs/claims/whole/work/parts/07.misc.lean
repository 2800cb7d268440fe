/-! ===== rows of rows; copies; texts; weaker ends; fewer locals ===== -/
theorem am_outer (c : ClassId) (N h0 : Nat) : ∀ i : Nat, Jvm.Free.Multi.outerC c N h0 i = arrV c N (fun j => va_rf (if j < i then some (h0 + 1 + j) else none))
  | 0 => by
    show ({ cls := c, slots := Array.replicate N .null, vm := .none } : Cell) = _
    rw [arrV_new]
    refine congrArg (arrV c N) (funext fun j => ?_)
    simp [va_rf]
  | i + 1 => by
    show (Jvm.Free.Multi.outerC c N h0 i).setSlot i (.ref (h0 + 1 + i)) = _
    rw [am_outer c N h0 i, arrV_store]
    refine congrArg (arrV c N) (funext fun j => ?_)
    by_cases e : j = i
    · subst e
      simp [updV, va_rf]
    · by_cases h : j < i
      · simp [updV, e, h, Nat.lt_succ_of_lt h]
      · simp [updV, e, h, show ¬ j < i + 1 by omega]
/-- all rows from k on fresh -/
def am_zz (f : Nat → Nat → Int) (k : Nat) : Nat → Nat → Int := fun k' j => if k ≤ k' then 0 else f k' j
section AMM
variable {x : am_Sc} {M : am_MT} {Po Po' : Option am_AV → am_Sh → am_St → Prop} {cs : Nat × Nat} {sh : am_Sh} {σ : am_St} {pc : Nat} {lv : List (Option am_AV)} {st : List am_AV}
/-- t 0: int[n][k], t 1: long[n][k] -/
theorem am_mna {idx n k t : Nat} {ty : FieldType} (hd : decode (am_c M) pc = .ok (.multianewarray idx 2, 4)) (hcl : Cond.classLink M.1.cls idx ("[" ++ (FieldType.array ty).toString) ∈ am_tbl) (hac : Cond.arrayClass ty ∈ am_tbl) (hty : ty ∈ [FieldType.int, FieldType.long]) (hn : n < 1000) (hk : k < 1000)
    (ht0 : ∀ g, (am_tys g)[t]? = some (am_cy g t, ty)) (ht3 : ∀ g, (am_tys g)[3 + t]? = some (am_cy g (3 + t), .array ty)) (hdf : fits ty (defaultValue ty) = true) (hdd : (defaultValue ty).isDefault = true) (hcb : componentBytes ty ≤ 8) (htt : t ≤ 1)
    (hin : ∀ g (σ' : am_St) k', σ'.1 k' = (fun _ => 0) → σ'.2 k' = (fun _ => 0) → ∃ a0, am_ce g σ' k' (12 + t, k, []) = .inl (am_cy g t, a0) ∧ vp_cell (am_cy g t) a0 = Jvm.Free.Multi.innerC (am_cy g t) k (defaultValue ty))
    (hlen : sh.length + n + 1 < 1000000) (hc : cs.1 + (1 + n) ≤ M.2.2.2.2.cells ∧ cs.2 + (n + n * k) ≤ M.2.2.2.2.slots)
    (kk : am_V x M Po (cs.1 + 1 + n, cs.2 + n + n * k) (sh ++ ((15 + t, n, (List.range n).map fun i => some (sh.length + 1 + i)) :: List.replicate n (12 + t, k, []))) (am_zz σ.1 sh.length, am_zz σ.2 sh.length) (pc + 4) lv (Zr sh.length :: st)) : am_V x M Po cs sh σ pc lv (Zi (k : Int) :: Zi (n : Int) :: st) := by
  intro p l e s m args below meth c g X H locs ls hP hz hS hl
  obtain ⟨hx, hb, hret, hml, hown, hts, hK, hlk, hnm, hxs⟩ := id X
  refine am_size hP hS hz hK.2.1 (fun hsz => ?_)
  intro T hT Xs
  have hneg : ∀ i : Nat, i < 1000 → ¬ Int32.ofInt (i : Int) < 0 := fun i hi => by
    rw [show (0 : Int32) = Int32.ofInt 0 from rfl, am_lt ⟨by omega, by omega⟩ (by decide)]
    omega
  have en := am_ix (i := n) (by omega)
  have ek := am_ix (i := k) (by omega)
  have hkb : k * componentBytes ty ≤ 536870912 := Nat.le_trans (Nat.mul_le_mul (Nat.le_of_lt hk) hcb) (by omega)
  obtain ⟨vm₁, cA, comp, -, fA, fC, hO, -, X', step⟩ := Xs.multianewarray2F hx hown (hts _ hcl) (hK.2.2.2.2.2.2.2.1 ty hty) (hts _ hac) (g := F0 m pc ls (.int (Int32.ofInt (k : Int)) :: .int (Int32.ofInt (n : Int)) :: st.map (am_cv g))) rfl (by rw [hb]; exact hd) rfl (hneg n hn) (hneg k hk) (by rw [en]; omega) (by rw [ek]; exact hkb) (by rw [ek]; omega) hdf hdd (by rw [en]; exact hc.1) (by rw [en, ek]; exact hc.2)
  rw [en, ek] at X' step
  have e1 : cA = am_cy g (3 + t) := by
    have h2 := (hK.1.2 (3 + t) _ (ht3 g)).2
    exact Option.some.inj (fA.symm.trans h2)
  have e2 : comp = am_cy g t := by
    have h2 := (hK.1.2 t _ (ht0 g)).2
    have h3 : s.vm.findClass ("[" ++ ty.toString) = some (am_cy g t) := by
      simp only [List.mem_cons, List.not_mem_nil, or_false] at hty
      rcases hty with rfl | rfl <;> exact h2
    exact Option.some.inj (fC.symm.trans h3)
  subst e1; subst e2
  generalize hF : Jvm.Free.Multi.fill (T.setVm vm₁) (am_cy g (3 + t)) (am_cy g t) n k (defaultValue ty) n = F at X' step
  have hTh : (T.setVm vm₁).heap = H := hT
  obtain ⟨f1, f2, -, -⟩ := Jvm.Free.Multi.fill_facts (T.setVm vm₁) (am_cy g (3 + t)) (am_cy g t) n k (defaultValue ty) n
  rw [hF, hTh] at f1 f2
  have hold : ∀ x : Nat, x < H.size → F.heap[x]? = H[x]? := fun x hx => by
    have := Jvm.Free.Multi.fill_old (T.setVm vm₁) (am_cy g (3 + t)) (am_cy g t) n k (defaultValue ty) (a := x) (by rw [hTh]; exact hx) n
    rw [hF, hTh] at this
    exact this
  have hrow : ∀ j : Nat, j < n → F.heap[H.size + 1 + j]? = some (Jvm.Free.Multi.innerC (am_cy g t) k (defaultValue ty)) := fun j hj => by
    have := Jvm.Free.Multi.fill_inner (T.setVm vm₁) (am_cy g (3 + t)) (am_cy g t) n k (defaultValue ty) n j hj
    rw [hF, hTh] at this
    exact this
  rw [am_outer] at f2
  have hP1 : va_P (am_D g) am_cl (am_ws g (sh ++ ((15 + t, n, (List.range n).map fun i => some (sh.length + 1 + i)) :: List.replicate n (12 + t, k, []))) (am_zz σ.1 sh.length, am_zz σ.2 sh.length)) F.heap := by
    intro i q hq
    obtain ⟨q', h1, rfl⟩ := am_ws_inv hq
    by_cases hi : i < sh.length
    · rw [List.getElem?_append_left hi] at h1
      rw [am_ce_o (σ := σ) (σ' := (am_zz σ.1 sh.length, am_zz σ.2 sh.length)) (by funext j; simp [am_zz, show ¬ sh.length ≤ i by omega]) (by funext j; simp [am_zz, show ¬ sh.length ≤ i by omega])]
      exact (hP i _ (am_ws_at h1)).kept (hold _ (by show am_n0 g + i < H.size; omega))
    · rw [List.getElem?_append_right (by omega)] at h1
      by_cases h0 : i = sh.length
      · subst h0
        rw [Nat.sub_self, List.getElem?_cons_zero] at h1
        cases h1
        have e5 : am_ce g (am_zz σ.1 sh.length, am_zz σ.2 sh.length) sh.length (15 + t, n, (List.range n).map fun i => some (sh.length + 1 + i)) = .inl (am_cy g (3 + t), n, .inr (.inr (.inr (.inr (am_rr g ((List.range n).map fun i => some (sh.length + 1 + i))))))) := by
          rcases (show t = 0 ∨ t = 1 by omega) with rfl | rfl <;> simp [am_ce]
        rw [e5]
        show F.heap[am_n0 g + sh.length]? = some (vp_cell _ _)
        rw [← hsz, f2, vp_cell_q]
        congr 2
        funext j
        congr 1
        unfold am_rr
        rw [List.getD_eq_getElem?_getD, List.getElem?_map]
        by_cases hj : j < n
        · rw [List.getElem?_range hj, if_pos hj]
          show _ = some (am_ad g (sh.length + 1 + j))
          unfold am_ad
          rw [if_pos (by omega)]
          congr 1
          show _ = am_n0 g + _
          omega
        · rw [List.getElem?_eq_none (by simp; omega), if_neg hj]
          rfl
      · obtain ⟨j, rfl⟩ : ∃ j, i = sh.length + 1 + j := ⟨i - sh.length - 1, by omega⟩
        rw [show sh.length + 1 + j - sh.length = j + 1 by omega, List.getElem?_cons_succ, List.getElem?_replicate] at h1
        split at h1
        · rename_i hj
          cases h1
          obtain ⟨a0, h5, h6⟩ := hin g (am_zz σ.1 sh.length, am_zz σ.2 sh.length) (sh.length + 1 + j) (by funext i; simp [am_zz, show sh.length ≤ sh.length + 1 + j by omega]) (by funext i; simp [am_zz, show sh.length ≤ sh.length + 1 + j by omega])
          rw [h5]
          show F.heap[am_n0 g + (sh.length + 1 + j)]? = some (vp_cell _ _)
          rw [h6, ← hrow j hj]
          congr 1
          omega
        · cases h1
  have hS1 : va_S (am_A g) s.heap F.heap locs := ⟨Nat.le_trans hS.1 (by omega), fun q h1 h2 => (hold q (Nat.lt_of_lt_of_le h1 hS.1)).trans (hS.2.1 q h1 h2), hS.2.2⟩
  have k9 := kk p l e s m args below meth c g X F.heap locs ls hP1 (by simp; omega) hS1 hl
  have e9 : am_cv g (Zr sh.length) = .ref H.size := by
    show Value.ref (am_ad g sh.length) = _
    unfold am_ad
    rw [if_pos (by omega), hsz]
  rw [List.map_cons, e9] at k9
  obtain ⟨t9, a1, b1⟩ := k9 F rfl X'
  refine ⟨t9, step t9 ?_, b1⟩
  rw [hT]
  exact a1
theorem V_mnaI {idx n k : Nat} {zn zk : Int} (hd : decode (am_c M) pc = .ok (.multianewarray idx 2, 4)) (hcl : Cond.classLink M.1.cls idx "[[I" ∈ am_tbl) (hac : Cond.arrayClass .int ∈ am_tbl) (hzn : zn = (n : Int)) (hzk : zk = (k : Int)) (hnk : (Nat.blt n 1000 && Nat.blt k 1000) = true)
    (hlen : Nat.blt (sh.length + n + 1) 1000000 = true) (hc : (Nat.ble (cs.1 + (1 + n)) M.2.2.2.2.cells && Nat.ble (cs.2 + (n + n * k)) M.2.2.2.2.slots) = true)
    (kk : am_V x M Po (cs.1 + 1 + n, cs.2 + n + n * k) (sh ++ ((15, n, (List.range n).map fun i => some (sh.length + 1 + i)) :: List.replicate n (12, k, []))) (am_zz σ.1 sh.length, am_zz σ.2 sh.length) (pc + 4) lv (Zr sh.length :: st)) : am_V x M Po cs sh σ pc lv (Zi zk :: Zi zn :: st) := by
  subst hzn; subst hzk
  exact am_mna (t := 0) (ty := .int) hd hcl hac (by simp) (Nat.le_of_ble_eq_true (Bool.and_eq_true_iff.mp hnk).1) (Nat.le_of_ble_eq_true (Bool.and_eq_true_iff.mp hnk).2) (fun g => rfl) (fun g => rfl) rfl rfl (by decide) (by omega)
    (fun g σ' k' h1 h2 => ⟨(k, .inl (fun _ => 0)), by simp [am_ce, h1], by rw [vp_cell_i]; show _ = ({ cls := _, slots := Array.replicate k (.int 0), vm := .none } : Cell); rw [arrV_new]⟩) (Nat.le_of_ble_eq_true hlen) (am_fitc hc) kk
theorem V_mnaL {idx n k : Nat} {zn zk : Int} (hd : decode (am_c M) pc = .ok (.multianewarray idx 2, 4)) (hcl : Cond.classLink M.1.cls idx "[[J" ∈ am_tbl) (hac : Cond.arrayClass .long ∈ am_tbl) (hzn : zn = (n : Int)) (hzk : zk = (k : Int)) (hnk : (Nat.blt n 1000 && Nat.blt k 1000) = true)
    (hlen : Nat.blt (sh.length + n + 1) 1000000 = true) (hc : (Nat.ble (cs.1 + (1 + n)) M.2.2.2.2.cells && Nat.ble (cs.2 + (n + n * k)) M.2.2.2.2.slots) = true)
    (kk : am_V x M Po (cs.1 + 1 + n, cs.2 + n + n * k) (sh ++ ((16, n, (List.range n).map fun i => some (sh.length + 1 + i)) :: List.replicate n (13, k, []))) (am_zz σ.1 sh.length, am_zz σ.2 sh.length) (pc + 4) lv (Zr sh.length :: st)) : am_V x M Po cs sh σ pc lv (Zi zk :: Zi zn :: st) := by
  subst hzn; subst hzk
  exact am_mna (t := 1) (ty := .long) hd hcl hac (by simp) (Nat.le_of_ble_eq_true (Bool.and_eq_true_iff.mp hnk).1) (Nat.le_of_ble_eq_true (Bool.and_eq_true_iff.mp hnk).2) (fun g => rfl) (fun g => rfl) rfl rfl (by decide) (by omega)
    (fun g σ' k' h1 h2 => ⟨(k, .inr (.inl (fun _ => 0))), by simp [am_ce, h2], by rw [vp_cell_l]; show _ = ({ cls := _, slots := Array.replicate k (.long 0), vm := .none } : Cell); rw [arrV_new]⟩) (Nat.le_of_ble_eq_true hlen) (am_fitc hc) kk
/-! copies, from the first place on -/
def am_cp (f : Nat → Nat → Int) (k0 k1 n : Nat) : Nat → Nat → Int := fun k j => if k = k1 then (if j < n then f k0 j else f k1 j) else f k j
def am_AC (M : am_MT) (idx : Nat) : Prop := Cond.methodLink M.1.cls idx arraycopyName ∈ am_tbl ∧ Cond.native arraycopyName ∈ am_tbl ∧ Cond.static arraycopyName ∈ am_tbl ∧ Cond.initialized "java/lang/System" ∈ am_tbl ∧ 1 ≤ M.2.2.2.2.frames ∧ 40 ≤ M.2.2.2.2.locals
theorem V_cpyI {idx k0 k1 n0 n1 n : Nat} {rs0 rs1 : List (Option Nat)} {zn : Int} (hd : decode (am_c M) pc = .ok (.invokestatic idx, 3)) (hw : am_AC M idx) (h0 : sh[k0]? = some (12, n0, rs0)) (h1 : sh[k1]? = some (12, n1, rs1)) (hzn : zn = (n : Int)) (hn : (Nat.ble n n0 && Nat.ble n n1) = true) (hlen : (Nat.ble sh.length 1000000 && Nat.blt n 1000) = true) (hst : Nat.ble st.length 4 = true)
    (kk : am_V x M Po cs sh (am_cp σ.1 k0 k1 n, σ.2) (pc + 3) lv st) : am_V x M Po cs sh σ pc lv (Zi zn :: Zi 0 :: Zr k1 :: Zi 0 :: Zr k0 :: st) := by
  subst hzn
  intro p l e s m args below meth c g X H locs ls hP hz hS hl
  obtain ⟨hx, hb, hret, hml, hown, hts, hK, hlk, hnm, hxs⟩ := id X
  have hl1 := Nat.le_of_ble_eq_true (Bool.and_eq_true_iff.mp hlen).1
  have hl2 : n < 1000 := Nat.le_of_ble_eq_true (Bool.and_eq_true_iff.mp hlen).2
  have he0 : (am_ws g sh σ)[k0]? = some (am_n0 g + k0, .inl (am_cy g 0, n0, .inl (fun j => Int32.ofInt (σ.1 k0 j)))) := am_ws_at h0
  have he1 : (am_ws g sh σ)[k1]? = some (am_n0 g + k1, .inl (am_cy g 0, n1, .inl (fun j => Int32.ofInt (σ.1 k1 j)))) := am_ws_at h1
  have h8 := am_catsum g st hst
  simp only [List.map_cons]
  show W _ _ _ _ _ _ _ _ _ _ _ _ _ _ _ (F0 m pc ls (.int (Int32.ofInt (n : Int)) :: .int (Int32.ofInt 0) :: .ref (am_ad g k1) :: .int (Int32.ofInt 0) :: .ref (am_ad g k0) :: _))
  rw [am_lift h0 hl1, am_lift h1 hl1]
  have en := am_ix (i := n) (by omega)
  have e0 : (Int32.ofInt 0).toNatClampNeg = 0 := rfl
  refine va_copyi hx hb (hml.trans hl.1.symm) hown (hts _ hw.1) (hts _ hw.2.1) (hts _ hw.2.2.1) (hts _ hw.2.2.2.1) hK.1 hP (am_ws_D g sh σ) hS k0 k1 0 0 he0 he1 rfl rfl rfl (by decide) (by decide) ?_ (by rw [en, e0]; have := (am_fitc hn).1; omega) (by rw [en, e0]; have := (am_fitc hn).2; omega) (fun i hi => rfl) hw.2.2.2.2.1 ?_ hd (fun H1 locs1 hP1 hD1 hS1 => ?_)
  · rw [show (0 : Int32) = Int32.ofInt 0 from rfl, am_lt ⟨by omega, by omega⟩ (by decide)]
    omega
  · have := hw.2.2.2.2.2
    have e3 : nativeFrameWords "java/lang/System" "arraycopy" 5 = 7 := by decide
    omega
  · rw [en, e0] at hP1
    have e4 : am_ce g (am_cp σ.1 k0 k1 n, σ.2) k1 (12, n1, rs1) = .inl (am_cy g 0, n1, .inl (va_cpy (fun j => Int32.ofInt (σ.1 k0 j)) (fun j => Int32.ofInt (σ.1 k1 j)) 0 0 n)) := by
      show Sum.inl (am_cy g 0, n1, Sum.inl (fun j => Int32.ofInt (am_cp σ.1 k0 k1 n k1 j))) = _
      congr 4
      funext j
      by_cases hj : j < n <;> simp [am_cp, va_cpy, hj]
    have e5 := am_ws_set (g := g) (σ := σ) (σ' := (am_cp σ.1 k0 k1 n, σ.2)) h1 (fun k' q' hk hq => am_ce_o (σ := σ) (σ' := (am_cp σ.1 k0 k1 n, σ.2)) (by funext j; simp [am_cp, hk]) rfl q')
    rw [e4] at e5
    rw [e5] at hP1
    exact kk p l e s m args below meth c g X H1 locs1 ls hP1 hz hS1 hl
theorem V_cpyL {idx k0 k1 n0 n1 n : Nat} {rs0 rs1 : List (Option Nat)} {zn : Int} (hd : decode (am_c M) pc = .ok (.invokestatic idx, 3)) (hw : am_AC M idx) (h0 : sh[k0]? = some (13, n0, rs0)) (h1 : sh[k1]? = some (13, n1, rs1)) (hzn : zn = (n : Int)) (hn : (Nat.ble n n0 && Nat.ble n n1) = true) (hlen : (Nat.ble sh.length 1000000 && Nat.blt n 1000) = true) (hst : Nat.ble st.length 4 = true)
    (kk : am_V x M Po cs sh (σ.1, am_cp σ.2 k0 k1 n) (pc + 3) lv st) : am_V x M Po cs sh σ pc lv (Zi zn :: Zi 0 :: Zr k1 :: Zi 0 :: Zr k0 :: st) := by
  subst hzn
  intro p l e s m args below meth c g X H locs ls hP hz hS hl
  obtain ⟨hx, hb, hret, hml, hown, hts, hK, hlk, hnm, hxs⟩ := id X
  have hl1 := Nat.le_of_ble_eq_true (Bool.and_eq_true_iff.mp hlen).1
  have hl2 : n < 1000 := Nat.le_of_ble_eq_true (Bool.and_eq_true_iff.mp hlen).2
  have he0 : (am_ws g sh σ)[k0]? = some (am_n0 g + k0, .inl (am_cy g 1, n0, .inr (.inl (fun j => Int64.ofInt (σ.2 k0 j))))) := am_ws_at h0
  have he1 : (am_ws g sh σ)[k1]? = some (am_n0 g + k1, .inl (am_cy g 1, n1, .inr (.inl (fun j => Int64.ofInt (σ.2 k1 j))))) := am_ws_at h1
  have h8 := am_catsum g st hst
  simp only [List.map_cons]
  show W _ _ _ _ _ _ _ _ _ _ _ _ _ _ _ (F0 m pc ls (.int (Int32.ofInt (n : Int)) :: .int (Int32.ofInt 0) :: .ref (am_ad g k1) :: .int (Int32.ofInt 0) :: .ref (am_ad g k0) :: _))
  rw [am_lift h0 hl1, am_lift h1 hl1]
  have en := am_ix (i := n) (by omega)
  have e0 : (Int32.ofInt 0).toNatClampNeg = 0 := rfl
  refine va_copyl hx hb (hml.trans hl.1.symm) hown (hts _ hw.1) (hts _ hw.2.1) (hts _ hw.2.2.1) (hts _ hw.2.2.2.1) hK.1 hP (am_ws_D g sh σ) hS k0 k1 1 1 he0 he1 rfl rfl rfl (by decide) (by decide) ?_ (by rw [en, e0]; have := (am_fitc hn).1; omega) (by rw [en, e0]; have := (am_fitc hn).2; omega) (fun i hi => rfl) hw.2.2.2.2.1 ?_ hd (fun H1 locs1 hP1 hD1 hS1 => ?_)
  · rw [show (0 : Int32) = Int32.ofInt 0 from rfl, am_lt ⟨by omega, by omega⟩ (by decide)]
    omega
  · have := hw.2.2.2.2.2
    have e3 : nativeFrameWords "java/lang/System" "arraycopy" 5 = 7 := by decide
    omega
  · rw [en, e0] at hP1
    have e4 : am_ce g (σ.1, am_cp σ.2 k0 k1 n) k1 (13, n1, rs1) = .inl (am_cy g 1, n1, .inr (.inl (va_cpy (fun j => Int64.ofInt (σ.2 k0 j)) (fun j => Int64.ofInt (σ.2 k1 j)) 0 0 n))) := by
      show Sum.inl (am_cy g 1, n1, Sum.inr (Sum.inl (fun j => Int64.ofInt (am_cp σ.2 k0 k1 n k1 j)))) = _
      congr 5
      funext j
      by_cases hj : j < n <;> simp [am_cp, va_cpy, hj]
    have e5 := am_ws_set (g := g) (σ := σ) (σ' := (σ.1, am_cp σ.2 k0 k1 n)) h1 (fun k' q' hk hq => am_ce_o (σ := σ) (σ' := (σ.1, am_cp σ.2 k0 k1 n)) rfl (by funext j; simp [am_cp, hk]) q')
    rw [e4] at e5
    rw [e5] at hP1
    exact kk p l e s m args below meth c g X H1 locs1 ls hP1 hz hS1 hl
/-- a weaker end -/
theorem am_mono (K : am_V x M Po cs sh σ pc lv st) (h : ∀ r s t, Po r s t → Po' r s t) : am_V x M Po' cs sh σ pc lv st := by
  intro p l e s m args below meth c g X H locs ls hP hz hS hl T hT XT
  obtain ⟨t, a, o, b1, b2, ⟨⟨r, sh', σ', q1, q2, q3⟩, b4⟩, b5⟩ := K p l e s m args below meth c g X H locs ls hP hz hS hl T hT XT
  exact ⟨t, a, o, b1, b2, ⟨⟨r, sh', σ', q1, h _ _ _ q2, q3⟩, b4⟩, b5⟩
/-- a local is forgotten -/
theorem V_drop (i : Nat) (K : am_V x M Po cs sh σ pc (lv.set i none) st) : am_V x M Po cs sh σ pc lv st := by
  intro p l e s m args below meth c g X H locs ls hP hz hS hl
  refine K p l e s m args below meth c g X H locs ls hP hz hS ⟨hl.1, hl.2.1, by rw [List.length_set]; exact hl.2.2.1, fun j v hj => ?_⟩
  rw [List.getElem?_set] at hj
  by_cases e1 : i = j
  · rw [if_pos e1] at hj
    split at hj <;> cases hj
  · rw [if_neg e1] at hj
    exact hl.2.2.2 j v hj
/-! texts: text i is 1000001 + i, its bytes 1000008 + i -/
theorem V_ldcS {n i : Nat} {tx : String} (hd : decode (am_c M) pc = .ok (.ldc n, 2)) (hm : (n, tx, i) ∈ am_txt) (hC : M.1.cls = "ShakePictures$Script") (kk : am_V x M Po cs sh σ (pc + 2) lv (Zr (1000001 + i) :: st)) : am_V x M Po cs sh σ pc lv st := by
  intro p l e s m args below meth c g X H locs ls hP hz hS hl
  obtain ⟨hx, hb, hret, hml, hown, hts, hK, hlk, hnm, hxs⟩ := id X
  have k9 := kk p l e s m args below meth c g X H locs ls hP hz hS hl
  have e9 : am_cv g (Zr (1000001 + i)) = .ref (g.2.1 (i + 1)) := by
    show Value.ref (am_ad g (1000001 + i)) = _
    unfold am_ad
    rw [if_neg (by omega), show 1000001 + i - 1000000 = i + 1 by omega]
  rw [List.map_cons, e9] at k9
  rw [hC] at hown
  exact va_ldcS hx hb hown (hK.2.2.2.1 _ hm) hd k9
theorem V_strv {idx i : Nat} (hd : decode (am_c M) pc = .ok (.getfield idx, 3)) (hw : Cond.fieldLink M.1.cls idx "java/lang/String" "value" "[B" ∈ am_tbl) (hi : i < 7) (kk : am_V x M Po cs sh σ (pc + 3) lv (Zr (1000008 + i) :: st)) : am_V x M Po cs sh σ pc lv (Zr (1000001 + i) :: st) := by
  intro p l e s m args below meth c g X H locs ls hP hz hS hl
  obtain ⟨hx, hb, hret, hml, hown, hts, hK, hlk, hnm, hxs⟩ := id X
  have k9 := kk p l e s m args below meth c g X H locs ls hP hz hS hl
  have e9 : am_cv g (Zr (1000001 + i)) = .ref (g.2.1 (i + 1)) := by
    show Value.ref (am_ad g (1000001 + i)) = _
    unfold am_ad
    rw [if_neg (by omega), show 1000001 + i - 1000000 = i + 1 by omega]
  have e8 : am_cv g (Zr (1000008 + i)) = .ref (g.2.1 (i + 8)) := by
    show Value.ref (am_ad g (1000008 + i)) = _
    unfold am_ad
    rw [if_neg (by omega), show 1000008 + i - 1000000 = i + 8 by omega]
  rw [List.map_cons, e8] at k9
  rw [List.map_cons, e9]
  exact vk_getf hx hb (hK.2.2.1.1 i hi).2.2.1 hS hown (hts _ hw) (fun _ h => h) hd k9
theorem V_strc {idx i : Nat} (hd : decode (am_c M) pc = .ok (.getfield idx, 3)) (hw : Cond.fieldLink M.1.cls idx "java/lang/String" "coder" "B" ∈ am_tbl) (hi : i < 7) (kk : am_V x M Po cs sh σ (pc + 3) lv (Zi 0 :: st)) : am_V x M Po cs sh σ pc lv (Zr (1000001 + i) :: st) := by
  intro p l e s m args below meth c g X H locs ls hP hz hS hl
  obtain ⟨hx, hb, hret, hml, hown, hts, hK, hlk, hnm, hxs⟩ := id X
  have e9 : am_cv g (Zr (1000001 + i)) = .ref (g.2.1 (i + 1)) := by
    show Value.ref (am_ad g (1000001 + i)) = _
    unfold am_ad
    rw [if_neg (by omega), show 1000001 + i - 1000000 = i + 1 by omega]
  rw [List.map_cons, e9]
  exact vk_getf hx hb (hK.2.2.1.1 i hi).2.1 hS hown (hts _ hw) (fun _ h => h) hd (kk p l e s m args below meth c g X H locs ls hP hz hS hl)
theorem V_tlen {i : Nat} (hd : decode (am_c M) pc = .ok (.arraylength, 1)) (hi : i < 7) (kk : am_V x M Po cs sh σ (pc + 1) lv (Zi ((am_len.getD i 0 : Nat) : Int) :: st)) : am_V x M Po cs sh σ pc lv (Zr (1000008 + i) :: st) := by
  intro p l e s m args below meth c g X H locs ls hP hz hS hl
  obtain ⟨hx, hb, hret, hml, hown, hts, hK, hlk, hnm, hxs⟩ := id X
  have e8 : am_cv g (Zr (1000008 + i)) = .ref (g.2.1 (i + 8)) := by
    show Value.ref (am_ad g (1000008 + i)) = _
    unfold am_ad
    rw [if_neg (by omega), show 1000008 + i - 1000000 = i + 8 by omega]
  rw [List.map_cons, e8]
  exact va_tlen hx hb (hK.2.2.1.1 i hi).2.2.2 hS rfl hd (kk p l e s m args below meth c g X H locs ls hP hz hS hl)
theorem V_tb {i j : Nat} {z b : Int} (hd : decode (am_c M) pc = .ok (.baload, 1)) (hi : i < 7) (hz0 : z = (j : Int)) (hj : j < am_len.getD i 0) (hv : (am_byt.getD i []).getD j 0 = Int32.ofInt b) (kk : am_V x M Po cs sh σ (pc + 1) lv (Zi b :: st)) : am_V x M Po cs sh σ pc lv (Zi z :: Zr (1000008 + i) :: st) := by
  subst hz0
  intro p l e s m args below meth c g X H locs ls hP hz hS hl
  obtain ⟨hx, hb, hret, hml, hown, hts, hK, hlk, hnm, hxs⟩ := id X
  have e8 : am_cv g (Zr (1000008 + i)) = .ref (g.2.1 (i + 8)) := by
    show Value.ref (am_ad g (1000008 + i)) = _
    unfold am_ad
    rw [if_neg (by omega), show 1000008 + i - 1000000 = i + 8 by omega]
  have hlt : ∀ i, i < 7 → am_len.getD i 0 < 10 := by decide
  have h9 := hlt i hi
  rw [List.map_cons, List.map_cons, e8]
  exact va_tb hx hb (hK.2.2.1.1 i hi).2.2.2 hS (am_inb hj (by omega)) (v := .int (Int32.ofInt b)) (by rw [am_ix (by omega), hv]) hd (kk p l e s m args below meth c g X H locs ls hP hz hS hl)
theorem V_gets1 {idx : Nat} (hd : decode (am_c M) pc = .ok (.getstatic idx, 3)) (hw : Cond.fieldLink M.1.cls idx "java/lang/String" "COMPACT_STRINGS" "Z" ∈ am_tbl) (kk : am_V x M Po cs sh σ (pc + 3) lv (Zi 1 :: st)) : am_V x M Po cs sh σ pc lv st := by
  intro p l e s m args below meth c g X H locs ls hP hz hS hl
  obtain ⟨hx, hb, hret, hml, hown, hts, hK, hlk, hnm, hxs⟩ := id X
  exact va_gets hx hb hK.2.2.2.2.2.2.2.2.1 hS hown (hts _ hw) (fun _ h => h) hd (kk p l e s m args below meth c g X H locs ls hP hz hS hl)
theorem V_getsF {idx : Nat} (hd : decode (am_c M) pc = .ok (.getstatic idx, 3)) (hw : Cond.fieldLink M.1.cls idx "jdk/internal/util/Preconditions" "SIOOBE_FORMATTER" "Ljava/util/function/BiFunction;" ∈ am_tbl) (kk : am_V x M Po cs sh σ (pc + 3) lv (Zo :: st)) : am_V x M Po cs sh σ pc lv st := by
  intro p l e s m args below meth c g X H locs ls hP hz hS hl
  obtain ⟨hx, hb, hret, hml, hown, hts, hK, hlk, hnm, hxs⟩ := id X
  exact va_gets hx hb hK.2.2.2.2.2.2.2.2.2 hS hown (hts _ hw) (fun _ h => h) hd (kk p l e s m args below meth c g X H locs ls hP hz hS hl)
theorem V_i2c {a : Int} (hd : decode (am_c M) pc = .ok (.i2c, 1)) (ha : 0 ≤ a ∧ a < 65536) (kk : am_V x M Po cs sh σ (pc + 1) lv (Zi a :: st)) : am_V x M Po cs sh σ pc lv (Zi a :: st) := by
  intro p l e s m args below meth c g X H locs ls hP hz hS hl
  obtain ⟨hx, hb, hret, hml, hown, hts, hK, hlk, hnm, hxs⟩ := id X
  have h1 : (Int32.ofInt a).toInt = a := am_toInt ⟨by omega, by omega⟩
  exact lv_i2c hx hb hd (lg_i2c_word (by rw [h1]; exact ha.1) (by rw [h1]; exact ha.2)) (kk p l e s m args below meth c g X H locs ls hP hz hS hl)
/-- what a method of a small type returns -/
theorem V_sret {z : Int} {ty : FieldType} (hd : decode (am_c M) pc = .ok (.ireturn, 1)) (hr : M.2.2.2.1 = some ty) (hn : narrow ty (.int (Int32.ofInt z)) = .int (Int32.ofInt z)) (hc : (Nat.ble cs.1 M.2.2.2.2.cells && Nat.ble cs.2 M.2.2.2.2.slots) = true) (h : Po (some (Zi z)) sh σ) : am_V x M Po cs sh σ pc lv [Zi z] := by
  intro p l e s m args below meth c g X H locs ls hP hz hS hl
  obtain ⟨hx, hb, hret, hml, hown, hts, hK, hlk, hnm, hxs⟩ := id X
  refine am_size hP hS hz hK.2.1 (fun hsz => ?_)
  refine W.widen (am_fitc hc).1 (am_fitc hc).2 ?_
  exact W.zret hx hb (hret.trans hr) hn (fun t ht hW => ⟨⟨some (Zi z), sh, σ, rfl, h, by rw [ht]; exact hP, by rw [ht]; exact hsz⟩, hS.F ht⟩) hS.2.2 hd hlk
end AMM
section AMCS
variable {x : am_Sc} {M M' : am_MT} {Po Po' : Option am_AV → am_Sh → am_St → Prop} {cs : Nat × Nat} {sh : am_Sh} {σ : am_St} {pc : Nat} {lv : List (Option am_AV)} {st vs : List am_AV}
/-- a text's own method -/
theorem am_callT {n i idx : Nat} (L : am_CV M M' idx n) (hd : decode (am_c M) pc = .ok (.invokevirtual idx, 3)) (hi : i < 7) (hC : M'.1.cls = "java/lang/String") (hn : vs.length = n)
    (hent : (am_ent (Zr (1000001 + i) :: vs)).length ≤ M'.2.2.1) (hst : Nat.ble st.length 4 = true) (hcc : cs.1 + M'.2.2.2.2.cells ≤ M.2.2.2.2.cells ∧ cs.2 + M'.2.2.2.2.slots ≤ M.2.2.2.2.slots)
    (K : am_V x M' Po' (0, 0) sh σ 0 (am_lv (Zr (1000001 + i) :: vs) M'.2.2.1) []) (k : ∀ r sh' σ', Po' r sh' σ' → (M'.2.2.2.2.cells = 0 ∨ sh'.length = sh.length + M'.2.2.2.2.cells) ∧ am_V x M Po (cs.1 + M'.2.2.2.2.cells, cs.2 + M'.2.2.2.2.slots) sh' σ' (pc + 3) lv (am_psh r st)) :
    am_V x M Po cs sh σ pc lv (vs.reverse ++ Zr (1000001 + i) :: st) := by
  intro p l e s m args below meth c g X H locs ls hP hz hS hl
  obtain ⟨hx, hb, hret, hml, hown, hts, hK, hlk, hnm, hxs⟩ := id X
  refine am_size hP hS hz hK.2.1 (fun hsz => ?_)
  have e9 : am_cv g (Zr (1000001 + i)) = .ref (g.2.1 (i + 1)) := by
    show Value.ref (am_ad g (1000001 + i)) = _
    unfold am_ad
    rw [if_neg (by omega), show 1000001 + i - 1000000 = i + 1 by omega]
  have hrv := vk_recv hK.2.2.1 hi hS
  rw [List.map_append, List.map_cons, e9]
  have e0 : (Zr (1000001 + i) :: vs).map (am_cv g) = .ref (g.2.1 (i + 1)) :: vs.map (am_cv g) := by rw [List.map_cons, e9]
  rw [← hC] at hrv
  refine am_back X hP hz hS hl (va_runV (As := vs.map (am_cv g)) (C := M'.1.cls) (nL := M.2.2.1) (n := n) ⟨hx, hb, hml, hown, hts⟩ (am_met K L.1.2.2.1 hent l g hxs) (cwV n hts (fun w hw => ?_) rfl rfl rfl ⟨rfl, L.1.2.2.2.1⟩ L.1.2.2.2.2) ⟨am_blind g _ sh σ, hrv, fun U hU hW => ⟨by rw [e0], by rw [hU]; exact hsz, by rw [hU]; exact hP, am_K_warm hS hU hW hK⟩⟩ rfl (by simpa using hn) hl.1 (by simp [List.map_reverse]) (lv_room (am_catsum g st hst)) hd hcc) k
  simp only [wsV, List.cons_append, List.nil_append, List.mem_cons] at hw
  rcases hw with rfl | rfl | rfl | rfl | rfl | hw
  · exact am_good2 L.2.1
  · exact am_good2 L.2.2.1
  · exact am_good2 L.2.2.2
  · exact am_good2 L.1.2.1
  · exact am_good2 L.1.1
  · exact am_good2 hw
end AMCS
