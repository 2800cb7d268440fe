/-! ===== returns and calls ===== -/
theorem am_size {p : Program} {l : Launch} {e : Env} {R : Room} {s : State} {m : MethodId} {args : Array Value} {below : List Frame} {meth : Method} {c : Code} {H : Heap} {locs : List Loc} {cells slots : Nat} {Q : State → Prop} {gf : JFrame} {g : am_G} {sh : am_Sh} {σ : am_St}
    (hP : va_P (am_D g) am_cl (am_ws g sh σ) H) (hS : va_S (am_A g) s.heap H locs) (h0 : s.heap.size + cells = am_n0 g + sh.length) (hn : am_n0 g ≤ s.heap.size)
    (k : H.size = am_n0 g + sh.length → W p l e R s m args below meth c H locs cells slots Q gf) : W p l e R s m args below meth c H locs cells slots Q gf := by
  intro T hT X
  have h1 := X.heapSize
  rw [hT] at h1
  have h2 : am_n0 g + sh.length ≤ H.size := by
    by_cases hl : sh.length = 0
    · have := hS.1; omega
    · have h3 : sh.length - 1 < sh.length := by omega
      have h4 : sh[sh.length - 1]? = some sh[sh.length - 1] := List.getElem?_eq_getElem h3
      have h5 : am_n0 g + (sh.length - 1) < H.size := (hP _ _ (am_ws_at h4)).lt
      omega
  exact k (by omega) T hT X
section AMT
variable {x : am_Sc} {M : am_MT} {Po : Option am_AV → am_Sh → am_St → Prop} {cs : Nat × Nat} {sh : am_Sh} {σ : am_St} {pc : Nat} {lv : List (Option am_AV)} {st : List am_AV}
theorem am_fitc {a b c d : Nat} (h : (Nat.ble a b && Nat.ble c d) = true) : a ≤ b ∧ c ≤ d := ⟨Nat.le_of_ble_eq_true (Bool.and_eq_true_iff.mp h).1, Nat.le_of_ble_eq_true (Bool.and_eq_true_iff.mp h).2⟩
theorem V_iret {z : Int} (hd : decode (am_c M) pc = .ok (.ireturn, 1)) (hr : M.2.2.2.1 = some .int) (hc : (Nat.ble cs.1 M.2.2.2.2.cells && Nat.ble cs.2 M.2.2.2.2.slots) = true) (h : Po (some (Zi z)) sh σ) : am_V x M Po cs sh σ pc lv [Zi z] := by
  intro p l e s m args below meth c g X H locs ls hP hz hS hl
  obtain ⟨hx, hb, hret, hml, hown, hts, hK, hlk, hnm, hxs⟩ := id X
  refine am_size hP hS hz hK.2.1 (fun hsz => ?_)
  refine W.widen (am_fitc hc).1 (am_fitc hc).2 ?_
  exact W.iret hx hb (hret.trans hr) (fun t ht hW => ⟨⟨some (Zi z), sh, σ, rfl, h, by rw [ht]; exact hP, by rw [ht]; exact hsz⟩, hS.F ht⟩) hS.2.2 hd hlk
theorem V_zret {z : Int} (hd : decode (am_c M) pc = .ok (.ireturn, 1)) (hr : M.2.2.2.1 = some .boolean) (hc : (Nat.ble cs.1 M.2.2.2.2.cells && Nat.ble cs.2 M.2.2.2.2.slots) = true) (hv : z = 0 ∨ z = 1) (h : Po (some (Zi z)) sh σ) : am_V x M Po cs sh σ pc lv [Zi z] := by
  intro p l e s m args below meth c g X H locs ls hP hz hS hl
  obtain ⟨hx, hb, hret, hml, hown, hts, hK, hlk, hnm, hxs⟩ := id X
  refine am_size hP hS hz hK.2.1 (fun hsz => ?_)
  refine W.widen (am_fitc hc).1 (am_fitc hc).2 ?_
  exact W.zret hx hb (hret.trans hr) (by rcases hv with rfl | rfl <;> rfl) (fun t ht hW => ⟨⟨some (Zi z), sh, σ, rfl, h, by rw [ht]; exact hP, by rw [ht]; exact hsz⟩, hS.F ht⟩) hS.2.2 hd hlk
theorem V_lret {z : Int} (hd : decode (am_c M) pc = .ok (.lreturn, 1)) (hr : M.2.2.2.1 = some .long) (hc : (Nat.ble cs.1 M.2.2.2.2.cells && Nat.ble cs.2 M.2.2.2.2.slots) = true) (h : Po (some (Zl z)) sh σ) : am_V x M Po cs sh σ pc lv [Zl z] := by
  intro p l e s m args below meth c g X H locs ls hP hz hS hl
  obtain ⟨hx, hb, hret, hml, hown, hts, hK, hlk, hnm, hxs⟩ := id X
  refine am_size hP hS hz hK.2.1 (fun hsz => ?_)
  refine W.widen (am_fitc hc).1 (am_fitc hc).2 ?_
  exact W.lret hx hb (hret.trans hr) (fun t ht hW => ⟨⟨some (Zl z), sh, σ, rfl, h, by rw [ht]; exact hP, by rw [ht]; exact hsz⟩, hS.F ht⟩) hS.2.2 hd hlk
theorem V_aret {k : Nat} {n : String} (hd : decode (am_c M) pc = .ok (.areturn, 1)) (hr : M.2.2.2.1 = some (.object n)) (hc : (Nat.ble cs.1 M.2.2.2.2.cells && Nat.ble cs.2 M.2.2.2.2.slots) = true) (h : Po (some (Zr k)) sh σ) : am_V x M Po cs sh σ pc lv [Zr k] := by
  intro p l e s m args below meth c g X H locs ls hP hz hS hl
  obtain ⟨hx, hb, hret, hml, hown, hts, hK, hlk, hnm, hxs⟩ := id X
  refine am_size hP hS hz hK.2.1 (fun hsz => ?_)
  refine W.widen (am_fitc hc).1 (am_fitc hc).2 ?_
  exact W.aret hx hb (hret.trans hr) (Or.inl ⟨n, rfl⟩) (Or.inr ⟨am_ad g k, rfl⟩) (fun t ht hW => ⟨⟨some (Zr k), sh, σ, rfl, h, by rw [ht]; exact hP, by rw [ht]; exact hsz⟩, hS.F ht⟩) hS.2.2 hd hlk
theorem V_ret (hd : decode (am_c M) pc = .ok (.return_, 1)) (hr : M.2.2.2.1 = none) (hc : (Nat.ble cs.1 M.2.2.2.2.cells && Nat.ble cs.2 M.2.2.2.2.slots) = true) (h : Po none sh σ) : am_V x M Po cs sh σ pc lv [] := by
  intro p l e s m args below meth c g X H locs ls hP hz hS hl
  obtain ⟨hx, hb, hret, hml, hown, hts, hK, hlk, hnm, hxs⟩ := id X
  refine am_size hP hS hz hK.2.1 (fun hsz => ?_)
  refine W.widen (am_fitc hc).1 (am_fitc hc).2 ?_
  exact W.vret hx hb (hret.trans hr) (fun t ht hW => ⟨⟨none, sh, σ, rfl, h, by rw [ht]; exact hP, by rw [ht]; exact hsz⟩, hS.F ht⟩) hS.2.2 hd hlk
theorem V_alen {k n : Nat} {rs : List (Option Nat)} (hd : decode (am_c M) pc = .ok (.arraylength, 1)) (hq : sh[k]? = some (12, n, rs)) (hlen : Nat.ble sh.length 1000000 = true)
    (kk : am_V x M Po cs sh σ (pc + 1) lv (Zi (n : Int) :: st)) : am_V x M Po cs sh σ pc lv (Zr k :: st) := by
  intro p l e s m args below meth c g X H locs ls hP hz hS hl
  obtain ⟨hx, hb, hret, hml, hown, hts, hK, hlk, hnm, hxs⟩ := id X
  have he : (am_ws g sh σ)[k]? = some (am_n0 g + k, .inl (am_cy g 0, n, .inl (fun j => Int32.ofInt (σ.1 k j)))) := am_ws_at hq
  rw [List.map_cons]
  show W _ _ _ _ _ _ _ _ _ _ _ _ _ _ _ (F0 m pc ls (.ref (am_ad g k) :: _))
  rw [am_lift hq (Nat.le_of_ble_eq_true hlen)]
  exact va_alen hx hb hK.1 hP k 0 he rfl (v := Int32.ofInt (n : Int)) rfl hd (kk p l e s m args below meth c g X H locs ls hP hz hS hl)
theorem V_aald {k n i r kd : Nat} {z : Int} {rs : List (Option Nat)} (hd : decode (am_c M) pc = .ok (.aaload, 1)) (hq : sh[k]? = some (kd, n, rs)) (hkd : kd = 15 ∨ kd = 16) (hlen : (Nat.ble sh.length 1000000 && Nat.blt n 2147483648) = true) (hz : z = (i : Int)) (hi : i < n) (hr : rs.getD i none = some r)
    (kk : am_V x M Po cs sh σ (pc + 1) lv (Zr r :: st)) : am_V x M Po cs sh σ pc lv (Zi z :: Zr k :: st) := by
  subst hz
  have hl1 := Nat.le_of_ble_eq_true (Bool.and_eq_true_iff.mp hlen).1
  have hl2 : n < 2147483648 := Nat.le_of_ble_eq_true (Bool.and_eq_true_iff.mp hlen).2
  intro p l e s m args below meth c g X H locs ls hP hz hS hl
  obtain ⟨hx, hb, hret, hml, hown, hts, hK, hlk, hnm, hxs⟩ := id X
  rw [List.map_cons, List.map_cons]
  show W _ _ _ _ _ _ _ _ _ _ _ _ _ _ _ (F0 m pc ls (.int (Int32.ofInt (i : Int)) :: .ref (am_ad g k) :: _))
  rw [am_lift hq hl1]
  have hv : am_rr g rs i = some (am_ad g r) := by unfold am_rr; rw [hr]; rfl
  have kk2 := kk p l e s m args below meth c g X H locs ls hP hz hS hl
  rcases hkd with rfl | rfl
  · have he : H[am_n0 g + k]? = some (vp_cell (am_cy g 3) (n, .inr (.inr (.inr (.inr (am_rr g rs)))))) := hP k _ (am_ws_at hq)
    rw [vp_cell_q] at he
    exact W.aald (v := va_rf (am_rr g rs i)) (ty := .array .int) hx hb he ((hK.1.2 3 _ rfl).1 n _) rfl (fun q => by cases q) (by rw [arrV_size]; exact am_inb hi hl2) (by rw [am_ix (by omega), arrV_read _ _ hi]) rfl rfl hd (by rw [hv]; exact kk2)
  · have he : H[am_n0 g + k]? = some (vp_cell (am_cy g 4) (n, .inr (.inr (.inr (.inr (am_rr g rs)))))) := hP k _ (am_ws_at hq)
    rw [vp_cell_q] at he
    exact W.aald (v := va_rf (am_rr g rs i)) (ty := .array .long) hx hb he ((hK.1.2 4 _ rfl).1 n _) rfl (fun q => by cases q) (by rw [arrV_size]; exact am_inb hi hl2) (by rw [am_ix (by omega), arrV_read _ _ hi]) rfl rfl hd (by rw [hv]; exact kk2)
/-- the law's own script: 1000000 is its number -/
theorem V_sld {i : Nat} {z : Int} (hd : decode (am_c M) pc = .ok (.iaload, 1)) (hz : z = (i : Int)) (hi : i < x.1) (hL : x.1 < 2147483648)
    (kk : am_V x M Po cs sh σ (pc + 1) lv (Zi (x.2 i).toInt :: st)) : am_V x M Po cs sh σ pc lv (Zi z :: Zr 1000000 :: st) := by
  subst hz
  intro p l e s m args below meth c g X H locs ls hP hz hS hl
  obtain ⟨hx, hb, hret, hml, hown, hts, hK, hlk, hnm, hxs⟩ := id X
  obtain ⟨k1, k2, k3, k4, k5, k7, k6, k8⟩ := hK.2.2
  have e1 : g.2.2.2.2.1 = x.1 := by rw [← hxs]
  have e2 : g.2.2.2.2.2 = x.2 := by rw [← hxs]
  rw [e1, e2] at k3
  have k := kk p l e s m args below meth c g X H locs ls hP hz hS hl
  rw [List.map_cons, am_cv, am_of] at k
  rw [List.map_cons, List.map_cons]
  show W _ _ _ _ _ _ _ _ _ _ _ _ _ _ _ (F0 m pc ls (.int (Int32.ofInt (i : Int)) :: .ref (g.2.1 0) :: _))
  refine va_sld hx hb k3 (Nat.lt_of_lt_of_le k4 hK.2.1) (Nat.not_le.mpr k4) hS (am_inb hi hL) hd ?_
  rw [am_ix (by omega)]
  exact k
theorem V_slen (hd : decode (am_c M) pc = .ok (.arraylength, 1))
    (kk : am_V x M Po cs sh σ (pc + 1) lv (Zi (x.1 : Int) :: st)) : am_V x M Po cs sh σ pc lv (Zr 1000000 :: st) := by
  intro p l e s m args below meth c g X H locs ls hP hz hS hl
  obtain ⟨hx, hb, hret, hml, hown, hts, hK, hlk, hnm, hxs⟩ := id X
  obtain ⟨k1, k2, k3, k4, k5, k7, k6, k8⟩ := hK.2.2
  have e1 : g.2.2.2.2.1 = x.1 := by rw [← hxs]
  rw [e1] at k3
  rw [List.map_cons]
  show W _ _ _ _ _ _ _ _ _ _ _ _ _ _ _ (F0 m pc ls (.ref (g.2.1 0) :: _))
  exact va_slen hx hb k3 (Nat.lt_of_lt_of_le k4 hK.2.1) (Nat.not_le.mpr k4) hS hd (kk p l e s m args below meth c g X H locs ls hP hz hS hl)
end AMT
/-! a callee's start -/
def am_ent : List am_AV → List (Option am_AV)
  | [] => []
  | v :: vs => match v with
    | .inl z => some (Zi z) :: am_ent vs
    | .inr (.inl z) => some (Zl z) :: none :: am_ent vs
    | .inr (.inr (.inl k)) => some (Zr k) :: am_ent vs
    | .inr (.inr (.inr _)) => some Zo :: am_ent vs
def am_lv (vs : List am_AV) (n : Nat) : List (Option am_AV) := am_ent vs ++ List.replicate (n - (am_ent vs).length) none
theorem am_ent_len (g : am_G) : ∀ vs : List am_AV, (lg_sl (vs.map (am_cv g))).length = (am_ent vs).length
  | [] => rfl
  | v :: vs => by
    have ih := am_ent_len g vs
    rcases v with z | z | k | u
    · simp [lg_sl, am_ent, am_cv, Value.category] at ih ⊢; omega
    · simp [lg_sl, am_ent, am_cv, Value.category] at ih ⊢; omega
    · simp [lg_sl, am_ent, am_cv, Value.category] at ih ⊢; omega
    · rcases va_rf_or (am_fm g) with h | ⟨a, h⟩ <;> simp [lg_sl, am_ent, am_cv, h, Value.category] at ih ⊢ <;> omega
theorem am_ent_in (g : am_G) : ∀ (vs : List am_AV) (a i : Nat) (v : am_AV), (am_ent vs)[i]? = some (some v) → (a + i, am_cv g v) ∈ lv_args a (vs.map (am_cv g))
  | [], a, i, v, h => by simp [am_ent] at h
  | u :: vs, a, i, v, h => by
    have ih := am_ent_in g vs
    rcases u with z | z | k | u
    · cases i with
      | zero => simp [am_ent] at h; subst h; exact List.mem_cons_self
      | succ i =>
        have h2 := ih (a + 1) i v (by simpa [am_ent] using h)
        rw [show a + (i + 1) = a + 1 + i by omega]
        exact List.mem_cons_of_mem _ h2
    · cases i with
      | zero => simp [am_ent] at h; subst h; exact List.mem_cons_self
      | succ i =>
        cases i with
        | zero => simp [am_ent] at h
        | succ i =>
          have h2 := ih (a + 2) i v (by simpa [am_ent] using h)
          rw [show a + (i + 1 + 1) = a + 2 + i by omega]
          exact List.mem_cons_of_mem _ h2
    · cases i with
      | zero => simp [am_ent] at h; subst h; exact List.mem_cons_self
      | succ i =>
        have h2 := ih (a + 1) i v (by simpa [am_ent] using h)
        rw [show a + (i + 1) = a + 1 + i by omega]
        exact List.mem_cons_of_mem _ h2
    · have hc : ¬ (am_cv g Zo).category = 2 := by rcases va_rf_or (am_fm g) with h9 | ⟨a9, h9⟩ <;> simp [am_cv, h9, Value.category]
      cases i with
      | zero => simp [am_ent] at h; subst h; exact List.mem_cons_self
      | succ i =>
        have h2 := ih (a + 1) i v (by simpa [am_ent] using h)
        rw [show a + (i + 1) = a + 1 + i by omega]
        show _ ∈ (a, am_cv g Zo) :: lv_args (if (am_cv g Zo).category = 2 then a + 2 else a + 1) _
        rw [if_neg hc]
        exact List.mem_cons_of_mem _ h2
theorem am_L_ent (g : am_G) {vs : List am_AV} {n : Nat} (h : (am_ent vs).length ≤ n) : am_L g ((lg_sl (vs.map (am_cv g)) ++ List.replicate (n - (lg_sl (vs.map (am_cv g))).length) Slot.unset).toArray) n (am_lv vs n) := by
  obtain ⟨h1, h2, h3⟩ := lv_entry (vs.map (am_cv g)) (n := n) (by rw [am_ent_len]; exact h)
  refine ⟨h1, h2, by simp [am_lv]; omega, fun i v hi => ?_⟩
  have hi2 : (am_ent vs)[i]? = some (some v) := by
    unfold am_lv at hi
    by_cases hl : i < (am_ent vs).length
    · rwa [List.getElem?_append_left hl] at hi
    · rw [List.getElem?_append_right (by omega), List.getElem?_replicate] at hi
      split at hi <;> cases hi
  have h4 := am_ent_in g vs 0 i v hi2
  rw [Nat.zero_add] at h4
  exact h3 _ h4
theorem am_ao {s U : State} {ty : FieldType} (ha : s.vm.Alike U.vm) (h : (Cond.arrayOver (.array ty)).before #[] s = true) : (Cond.arrayOver (.array ty)).before #[] U = true := Jvm.Stand.arrayOver_alikeB ha h
theorem am_K_same {g : am_G} {U U' : State} (hh : U'.heap = U.heap) (hv : U'.vm = U.vm) (h : am_K g U) : am_K g U' := by
  have ha : U.vm.Alike U'.vm := by rw [hv]; exact Vm.Alike.refl _
  obtain ⟨h1, h2, k1, k2, k3, k4, k5, k7, k6, k8⟩ := h
  refine ⟨h1.moved ha, by rw [hh]; exact h2, by rw [hh]; exact k1.moved ha, fun q hq => (k2 q hq).same hv, by rw [hh]; exact k3.moved ha, k4, fun w hw => ?_, fun ty hty => am_ao ha (k7 ty hty), by rw [hh]; exact k6.moved ha, by rw [hh]; exact k8.moved ha⟩
  refine va_Nw.same ?_ hv.symm (k5 w hw)
  simp only [am_nst, List.mem_cons, List.not_mem_nil, or_false] at hw
  rcases hw with rfl | rfl | rfl | rfl <;> rfl
theorem am_K_warm {g : am_G} {s U : State} {H : Heap} {locs : List Loc} (hS : va_S (am_A g) s.heap H locs) (hU : U.heap = H) (hW : s.WarmedH U.vm) (h : am_K g s) : am_K g U := by
  have ha := hW.alike
  obtain ⟨h1, h2, k1, k2, k3, k4, k5, k7, k6, k8⟩ := h
  subst hU
  refine ⟨h1.moved ha, Nat.le_trans h2 hS.1, (k1.kept hS.2.1).moved ha, fun q hq => (k2 q hq).warm hW, (k3.kept (hS.2.1 _ (Nat.lt_of_lt_of_le k4 h2) (Nat.not_le.mpr k4))).moved ha, k4, fun w hw => ?_, fun ty hty => am_ao ha (k7 ty hty), (k6.kept hS.2.1).moved ha, (k8.kept hS.2.1).moved ha⟩
  have h9 := k5 w hw
  simp only [am_nst, List.mem_cons, List.not_mem_nil, or_false] at hw
  rcases hw with rfl | rfl | rfl | rfl <;> exact va_Nw.warmM hW h9
abbrev am_w (M : am_MT) : List Cond := Cond.code M.1 M.2.1 M.2.2.1 M.2.2.2.1 :: am_tbl
abbrev am_Pc (g : am_G) (vs : List am_AV) (sh : am_Sh) (σ : am_St) : Array Value → State → Prop := va_Pc (vs.map (am_cv g)) (fun U => U.heap.size = am_n0 g + sh.length ∧ va_P (am_D g) am_cl (am_ws g sh σ) U.heap ∧ am_K g U)
theorem am_blind (g : am_G) (vs : List am_AV) (sh : am_Sh) (σ : am_St) : FrameBlind (am_Pc g vs sh σ) := fun a U gf mk q => ⟨q.1, q.2.1, q.2.2.1, am_K_same (U := U) (U' := U.calling gf mk a) rfl rfl q.2.2.2⟩
theorem am_met {x : am_Sc} {M : am_MT} {Po : Option am_AV → am_Sh → am_St → Prop} {sh : am_Sh} {σ : am_St} {vs : List am_AV} (K : am_V x M Po (0, 0) sh σ 0 (am_lv vs M.2.2.1) []) (hp : plainFor M.1 = true) (hl : (am_ent vs).length ≤ M.2.2.1) (l : Launch) (g : am_G) (hg : g.2.2.2.2 = x) :
    Met l M.1 (am_w M) M.2.2.2.2 (am_Pc g vs sh σ) (am_Q g Po) M.2.2.2.2.cells M.2.2.2.2.slots (am_A g) := by
  refine va_MetF (cc := M.2.1) (maxL := M.2.2.1) (ret := M.2.2.2.1) hp rfl ?_
  intro p e s m args below meth c s₁ B hml hv
  obtain ⟨rfl, hsz, hP, hK⟩ := hv
  have hts := atoms_spec (ws := am_w M) B.pre
  rw [lg_entry_eq]
  exact K p l e s m _ below meth c g ⟨B.exec, B.bytes, B.returns, hml, findClass_of_methodNamed B.named, fun w hw => hts w (List.mem_cons_of_mem _ hw), hK, B.notSynchronized, (name_of_methodNamed B.named B.method).1, hg⟩ s.heap [] _ hP hsz va_S.rf (am_L_ent g hl)
def am_psh (r : Option am_AV) (st : List am_AV) : List am_AV := match r with
  | none => st
  | some v => v :: st
theorem am_good2 {w : Cond} (h : w ∈ am_tbl) : w ∈ am_tbl ∧ ((w.onTables && w.keeps) = true ∨ ∃ ty, w = .arrayClass ty) := am_good w h
/-- what every call needs: the callee's code and class among the words, its room within the caller's -/
def am_CB (M M' : am_MT) (n : Nat) : Prop := Cond.code M'.1 M'.2.1 M'.2.2.1 M'.2.2.2.1 ∈ am_tbl ∧ Cond.initialized M'.1.cls ∈ am_tbl ∧ plainFor M'.1 = true ∧ (M'.1.cls ≠ "java/lang/invoke/MethodHandle" ∧ M'.1.cls ≠ "java/lang/invoke/VarHandle" ∧ (parseMethodDescriptor M'.1.desc).map (fun d => d.parameters.length) = some n) ∧ (M'.2.2.2.2.frames + 1 ≤ M.2.2.2.2.frames ∧ 8 + (M'.2.2.1 + 11) + M'.2.2.2.2.locals ≤ M.2.2.2.2.locals)
theorem am_CB.w {M M' : am_MT} {n : Nat} (h : am_CB M M' n) : GoodIn am_tbl (am_w M') := fun w hw => (List.mem_cons.mp hw).elim (fun e => by rw [e]; exact am_good2 h.1) (fun q => am_good2 q)
def am_CV (M M' : am_MT) (idx n : Nat) : Prop := am_CB M M' n ∧ Cond.methodLink M.1.cls idx M'.1 ∈ am_tbl ∧ Cond.instanceMethod M'.1 ∈ am_tbl ∧ Cond.selects M'.1.cls M'.1 M'.1 ∈ am_tbl
def am_CS (M M' : am_MT) (idx n : Nat) : Prop := am_CB M M' n ∧ Cond.methodLink M.1.cls idx M'.1 ∈ am_tbl ∧ Cond.static M'.1 ∈ am_tbl
def am_CI (M M' : am_MT) (idx n : Nat) : Prop := am_CB M M' n ∧ Cond.methodLink M.1.cls idx M'.1 ∈ am_tbl ∧ Cond.instanceMethod M'.1 ∈ am_tbl ∧ M'.1.name = "<init>" ∧ M'.2.2.2.1 = none
def am_CSN (M M' : am_MT) (idx n : Nat) : Prop := am_CB M M' n ∧ (∃ host, Cond.methodLinkNest M.1.cls idx M'.1 host ∈ am_nst) ∧ Cond.static M'.1 ∈ am_tbl
def am_CIN (M M' : am_MT) (idx n : Nat) : Prop := am_CB M M' n ∧ (∃ host, Cond.methodLinkNest M.1.cls idx M'.1 host ∈ am_nst) ∧ Cond.instanceMethod M'.1 ∈ am_tbl ∧ M'.1.name = "<init>" ∧ M'.2.2.2.1 = none
theorem am_catsum (g : am_G) (st : List am_AV) (h : Nat.ble st.length 4 = true) : ((st.map (am_cv g)).map fun v => v.category).sum ≤ 8 := by
  have h := Nat.le_of_ble_eq_true h
  have : ∀ l : List am_AV, ((l.map (am_cv g)).map fun v => v.category).sum ≤ 2 * l.length := by
    intro l
    induction l with
    | nil => simp
    | cons v l ih =>
      simp only [List.map_cons, List.sum_cons, List.length_cons]
      rcases lv_cat (am_cv g v) with q | q <;> omega
  have := this st
  omega
section AMC
variable {x : am_Sc} {M M' : am_MT} {Po Po' : Option am_AV → am_Sh → am_St → Prop} {cs : Nat × Nat} {sh : am_Sh} {σ : am_St} {pc : Nat} {lv : List (Option am_AV)} {st vs : List am_AV}
/-- behind a call -/
theorem am_back {p : Program} {l : Launch} {e : Env} {s : State} {m : MethodId} {args a : Array Value} {below : List Frame} {meth : Method} {c : Code} {H : Heap} {locs : List Loc} {ls : Array Slot} {g : am_G} {st0 : List Value} {mc ms : Nat} (X : am_CX x M g p s m args meth c)
    (hP : va_P (am_D g) am_cl (am_ws g sh σ) H) (hz : s.heap.size + cs.1 = am_n0 g + sh.length) (hS : va_S (am_A g) s.heap H locs) (hl : am_L g ls M.2.2.1 lv)
    (hr : va_Run p l e M.2.2.2.2 s m args below meth c H locs cs.1 cs.2 mc ms (F0 m pc ls st0) (st.map (am_cv g)) (am_Q g Po' a) (am_A g))
    (k : ∀ r sh' σ', Po' r sh' σ' → (mc = 0 ∨ sh'.length = sh.length + mc) ∧ am_V x M Po (cs.1 + mc, cs.2 + ms) sh' σ' (pc + 3) lv (am_psh r st)) :
    W p l e M.2.2.2.2 s m args below meth c H locs cs.1 cs.2 (MQ below (am_Q g Po) args s M.2.2.2.2.cells M.2.2.2.2.slots (am_A g)) (F0 m pc ls st0) := by
  refine am_size hP hS hz X.2.2.2.2.2.2.1.2.1 (fun hsz => ?_)
  intro T hT XT
  obtain ⟨v, st₀, t, T', L, h0, X', hL, e1, e2, ⟨⟨r, sh', σ', hv, hp, hP1, hz1⟩, hzz, hk⟩, stp⟩ := hr T hT XT
  cases hv
  obtain ⟨k1, k2⟩ := k r sh' σ' hp
  have hup := X'.heapSize
  rw [h0] at hzz hk
  rw [e1] at hup
  have hlen : sh'.length = sh.length + mc := by
    rcases k1 with k1 | k1
    · omega
    · exact k1
  have hS1 : va_S (am_A g) s.heap T'.heap (locs ++ L) := ⟨Nat.le_trans hS.1 (by rw [e1]; exact hzz), fun q h1 h2 => by rw [e1, hk q (Nat.lt_of_lt_of_le h1 hS.1) h2]; exact hS.2.1 q h1 h2, fun q hq => by
      rcases List.mem_append.mp hq with h | h
      · exact hS.2.2 q h
      · exact hL q h⟩
  obtain ⟨t2, a1, b1⟩ := k2 p l e s m args below meth c g X T'.heap (locs ++ L) ls (by rw [e1]; exact hP1) (by show s.heap.size + (cs.1 + mc) = _; omega) hS1 hl T' rfl X'
  refine ⟨t2, stp t2 ?_, b1⟩
  have e9 : (r.map (am_cv g)).toList ++ st.map (am_cv g) = (am_psh r st).map (am_cv g) := by cases r <;> rfl
  show Steps p.tables e below (T'.setTop (F0 m (pc + 3) ls ((r.map (am_cv g)).toList ++ st.map (am_cv g)))) t2
  rw [e9]
  exact a1
theorem am_call0 {n b ci nn : Nat} {rs : List (Option Nat)} {C : String} {T : u_T} {N idx : Nat} (L : am_CV M M' idx n) (hd : decode (am_c M) pc = .ok (.invokevirtual idx, 3)) (hq : sh[b]? = some (ci, nn, rs)) (hc : am_cl[ci]? = some (C, T, N)) (hC : M'.1.cls = C) (hlen : sh.length ≤ 1000000) (hn : vs.length = n)
    (hent : (am_ent (Zr b :: vs)).length ≤ M'.2.2.1) (hst : Nat.ble st.length 4 = true) (hcc : cs.1 + M'.2.2.2.2.cells ≤ M.2.2.2.2.cells ∧ cs.2 + M'.2.2.2.2.slots ≤ M.2.2.2.2.slots)
    (K : am_V x M' Po' (0, 0) sh σ 0 (am_lv (Zr b :: vs) M'.2.2.1) []) (k : ∀ r sh' σ', Po' r sh' σ' → (M'.2.2.2.2.cells = 0 ∨ sh'.length = sh.length + M'.2.2.2.2.cells) ∧ am_V x M Po (cs.1 + M'.2.2.2.2.cells, cs.2 + M'.2.2.2.2.slots) sh' σ' (pc + 3) lv (am_psh r st)) :
    am_V x M Po cs sh σ pc lv (vs.reverse ++ Zr b :: st) := by
  intro p l e s m args below meth c g X H locs ls hP hz hS hl
  obtain ⟨hx, hb, hret, hml, hown, hts, hK, hlk, hnm, hxs⟩ := id X
  subst hC
  refine am_size hP hS hz hK.2.1 (fun hsz => ?_)
  have he := am_ws_at (g := g) (σ := σ) hq
  rw [am_ce_obj g σ b ci nn rs (am_cls hc).2.2.2.2] at he
  have hrv := va_recv hK.1 hP hc he
  rw [List.map_append, List.map_cons]
  show W _ _ _ _ _ _ _ _ _ _ _ _ _ _ _ (F0 m pc ls (_ ++ .ref (am_ad g b) :: _))
  rw [am_lift hq hlen]
  have e0 : (Zr b :: vs).map (am_cv g) = .ref (am_n0 g + b) :: vs.map (am_cv g) := by
    rw [List.map_cons]
    show Value.ref (am_ad g b) :: _ = _
    rw [am_lift hq hlen]
  refine am_back X hP hz hS hl (va_runV (As := vs.map (am_cv g)) (C := M'.1.cls) (nL := M.2.2.1) (n := n) ⟨hx, hb, hml, hown, hts⟩ (am_met K L.1.2.2.1 hent l g hxs) (cwV n hts (fun w hw => ?_) rfl rfl rfl ⟨rfl, L.1.2.2.2.1⟩ L.1.2.2.2.2) ⟨am_blind g _ sh σ, hrv, fun U hU hW => ⟨by rw [e0], by rw [hU]; exact hsz, by rw [hU]; exact hP, am_K_warm hS hU hW hK⟩⟩ rfl (by simpa using hn) hl.1 (by simp [List.map_reverse]) (lv_room (am_catsum g st hst)) hd hcc) k
  simp only [wsV, List.cons_append, List.nil_append, List.mem_cons] at hw
  rcases hw with rfl | rfl | rfl | rfl | rfl | hw
  · exact am_good2 L.2.1
  · exact am_good2 L.2.2.1
  · exact am_good2 L.2.2.2
  · exact am_good2 L.1.2.1
  · exact am_good2 L.1.1
  · exact am_good2 hw
theorem am_callS {n idx : Nat} (L : am_CS M M' idx n) (hd : decode (am_c M) pc = .ok (.invokestatic idx, 3)) (hn : vs.length = n)
    (hent : (am_ent vs).length ≤ M'.2.2.1) (hst : Nat.ble st.length 4 = true) (hcc : cs.1 + M'.2.2.2.2.cells ≤ M.2.2.2.2.cells ∧ cs.2 + M'.2.2.2.2.slots ≤ M.2.2.2.2.slots)
    (K : am_V x M' Po' (0, 0) sh σ 0 (am_lv vs M'.2.2.1) []) (k : ∀ r sh' σ', Po' r sh' σ' → (M'.2.2.2.2.cells = 0 ∨ sh'.length = sh.length + M'.2.2.2.2.cells) ∧ am_V x M Po (cs.1 + M'.2.2.2.2.cells, cs.2 + M'.2.2.2.2.slots) sh' σ' (pc + 3) lv (am_psh r st)) :
    am_V x M Po cs sh σ pc lv (vs.reverse ++ st) := by
  intro p l e s m args below meth c g X H locs ls hP hz hS hl
  obtain ⟨hx, hb, hret, hml, hown, hts, hK, hlk, hnm, hxs⟩ := id X
  refine am_size hP hS hz hK.2.1 (fun hsz => ?_)
  rw [List.map_append]
  exact am_back X hP hz hS hl (va_runS (As := vs.map (am_cv g)) (nL := M.2.2.1) (n := n) ⟨hx, hb, hml, hown, hts⟩ (am_met K L.1.2.2.1 hent l g hxs) ⟨callB_of n hts L.1.w rfl rfl rfl (hts _ L.1.2.1) (hts _ L.2.1) L.1.2.2.2.1 L.1.2.2.2.2, hts _ L.2.2⟩ ⟨am_blind g _ sh σ, fun U hU hW => ⟨rfl, by rw [hU]; exact hsz, by rw [hU]; exact hP, am_K_warm hS hU hW hK⟩⟩ rfl (by simpa using hn) hl.1 (by simp [List.map_reverse]) (lv_room (am_catsum g st hst)) hd hcc) k
theorem am_callSN {n idx : Nat} (L : am_CSN M M' idx n) (hd : decode (am_c M) pc = .ok (.invokestatic idx, 3)) (hn : vs.length = n)
    (hent : (am_ent vs).length ≤ M'.2.2.1) (hst : Nat.ble st.length 4 = true) (hcc : cs.1 + M'.2.2.2.2.cells ≤ M.2.2.2.2.cells ∧ cs.2 + M'.2.2.2.2.slots ≤ M.2.2.2.2.slots)
    (K : am_V x M' Po' (0, 0) sh σ 0 (am_lv vs M'.2.2.1) []) (k : ∀ r sh' σ', Po' r sh' σ' → (M'.2.2.2.2.cells = 0 ∨ sh'.length = sh.length + M'.2.2.2.2.cells) ∧ am_V x M Po (cs.1 + M'.2.2.2.2.cells, cs.2 + M'.2.2.2.2.slots) sh' σ' (pc + 3) lv (am_psh r st)) :
    am_V x M Po cs sh σ pc lv (vs.reverse ++ st) := by
  intro p l e s m args below meth c g X H locs ls hP hz hS hl
  obtain ⟨hx, hb, hret, hml, hown, hts, hK, hlk, hnm, hxs⟩ := id X
  obtain ⟨host, hh⟩ := L.2.1
  refine am_size hP hS hz hK.2.1 (fun hsz => ?_)
  rw [List.map_append]
  exact am_back X hP hz hS hl (va_runSN (As := vs.map (am_cv g)) (nL := M.2.2.1) (n := n) ⟨hx, hb, hml, hown, hts⟩ (am_met K L.1.2.2.1 hent l g hxs) ⟨va_cnB n hts L.1.w rfl rfl rfl (hK.2.2.2.2.2.2.1 _ hh) (hts _ L.1.2.1) L.1.2.2.2.1 L.1.2.2.2.2, hts _ L.2.2, trivial⟩ ⟨am_blind g _ sh σ, fun U hU hW => ⟨rfl, by rw [hU]; exact hsz, by rw [hU]; exact hP, am_K_warm hS hU hW hK⟩⟩ rfl (by simpa using hn) hl.1 (by simp [List.map_reverse]) (lv_room (am_catsum g st hst)) hd hcc) k
theorem am_callI {n idx b : Nat} {q : Nat × Nat × List (Option Nat)} (L : am_CI M M' idx n) (hd : decode (am_c M) pc = .ok (.invokespecial idx, 3)) (hq : sh[b]? = some q) (hlen : sh.length ≤ 1000000) (hn : vs.length = n)
    (hent : (am_ent (Zr b :: vs)).length ≤ M'.2.2.1) (hst : Nat.ble st.length 4 = true) (hcc : cs.1 + M'.2.2.2.2.cells ≤ M.2.2.2.2.cells ∧ cs.2 + M'.2.2.2.2.slots ≤ M.2.2.2.2.slots)
    (K : am_V x M' Po' (0, 0) sh σ 0 (am_lv (Zr b :: vs) M'.2.2.1) []) (k : ∀ r sh' σ', Po' r sh' σ' → (M'.2.2.2.2.cells = 0 ∨ sh'.length = sh.length + M'.2.2.2.2.cells) ∧ am_V x M Po (cs.1 + M'.2.2.2.2.cells, cs.2 + M'.2.2.2.2.slots) sh' σ' (pc + 3) lv (am_psh r st)) :
    am_V x M Po cs sh σ pc lv (vs.reverse ++ Zr b :: st) := by
  intro p l e s m args below meth c g X H locs ls hP hz hS hl
  obtain ⟨hx, hb, hret, hml, hown, hts, hK, hlk, hnm, hxs⟩ := id X
  have hw0 := L.1.w
  have hm := am_met K L.1.2.2.1 hent l g hxs
  obtain ⟨LB, LL, LM, LN, LR⟩ := L
  obtain ⟨y', c', n', r', rm'⟩ := M'
  dsimp only at LB LL LM LN LR hcc k hw0 hm hent
  subst LR
  refine am_size hP hS hz hK.2.1 (fun hsz => ?_)
  rw [List.map_append, List.map_cons]
  show W _ _ _ _ _ _ _ _ _ _ _ _ _ _ _ (F0 m pc ls (_ ++ .ref (am_ad g b) :: _))
  exact am_back X hP hz hS hl (va_runI (As := vs.map (am_cv g)) (b := am_ad g b) (nL := M.2.2.1) (n := n) ⟨hx, hb, hml, hown, hts⟩ hm (cwI n hts hw0 rfl rfl rfl (hts _ LB.2.1) (hts _ LL) (hts _ LM) LN LB.2.2.2.1 LB.2.2.2.2) ⟨am_blind g _ sh σ, fun U hU hW => ⟨rfl, by rw [hU]; exact hsz, by rw [hU]; exact hP, am_K_warm hS hU hW hK⟩⟩ rfl (by simpa using hn) hl.1 (by simp [List.map_reverse]) (lv_room (am_catsum g st hst)) hd hcc) k
theorem am_callIN {n idx b : Nat} {q : Nat × Nat × List (Option Nat)} (L : am_CIN M M' idx n) (hd : decode (am_c M) pc = .ok (.invokespecial idx, 3)) (hq : sh[b]? = some q) (hlen : sh.length ≤ 1000000) (hn : vs.length = n)
    (hent : (am_ent (Zr b :: vs)).length ≤ M'.2.2.1) (hst : Nat.ble st.length 4 = true) (hcc : cs.1 + M'.2.2.2.2.cells ≤ M.2.2.2.2.cells ∧ cs.2 + M'.2.2.2.2.slots ≤ M.2.2.2.2.slots)
    (K : am_V x M' Po' (0, 0) sh σ 0 (am_lv (Zr b :: vs) M'.2.2.1) []) (k : ∀ r sh' σ', Po' r sh' σ' → (M'.2.2.2.2.cells = 0 ∨ sh'.length = sh.length + M'.2.2.2.2.cells) ∧ am_V x M Po (cs.1 + M'.2.2.2.2.cells, cs.2 + M'.2.2.2.2.slots) sh' σ' (pc + 3) lv (am_psh r st)) :
    am_V x M Po cs sh σ pc lv (vs.reverse ++ Zr b :: st) := by
  intro p l e s m args below meth c g X H locs ls hP hz hS hl
  obtain ⟨hx, hb, hret, hml, hown, hts, hK, hlk, hnm, hxs⟩ := id X
  have hw0 := L.1.w
  have hm := am_met K L.1.2.2.1 hent l g hxs
  obtain ⟨LB, ⟨host, hh⟩, LM, LN, LR⟩ := L
  obtain ⟨y', c', n', r', rm'⟩ := M'
  dsimp only at LB LM LN LR hcc k hw0 hm hent hh
  subst LR
  refine am_size hP hS hz hK.2.1 (fun hsz => ?_)
  rw [List.map_append, List.map_cons]
  show W _ _ _ _ _ _ _ _ _ _ _ _ _ _ _ (F0 m pc ls (_ ++ .ref (am_ad g b) :: _))
  exact am_back X hP hz hS hl (va_runIN (As := vs.map (am_cv g)) (b := am_ad g b) (nL := M.2.2.1) (n := n) ⟨hx, hb, hml, hown, hts⟩ hm ⟨va_cnB n hts hw0 rfl rfl rfl (hK.2.2.2.2.2.2.1 _ hh) (hts _ LB.2.1) LB.2.2.2.1 LB.2.2.2.2, LN, hts _ LM⟩ ⟨am_blind g _ sh σ, fun U hU hW => ⟨rfl, by rw [hU]; exact hsz, by rw [hU]; exact hP, am_K_warm hS hU hW hK⟩⟩ rfl (by simpa using hn) hl.1 (by simp [List.map_reverse]) (lv_room (am_catsum g st hst)) hd hcc) k
end AMC
