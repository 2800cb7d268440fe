/-! ===== what is made: objects, arrays; a constructor's stores; copies; texts ===== -/
/-- a fresh row -/
def am_z (f : Nat → Nat → Int) (k : Nat) : Nat → Nat → Int := fun k' j => if k' = k then 0 else f k' j
theorem am_z_o {f : Nat → Nat → Int} {k k' : Nat} (h : k' ≠ k) : am_z f k k' = f k' := by funext j; simp [am_z, h]
theorem am_ws_push {g : am_G} {sh : am_Sh} {σ σ' : am_St} {q : Nat × Nat × List (Option Nat)} (h1 : ∀ k, k < sh.length → σ'.1 k = σ.1 k ∧ σ'.2 k = σ.2 k) :
    am_ws g (sh ++ [q]) σ' = am_ws g sh σ ++ [(am_n0 g + sh.length, am_ce g σ' sh.length q)] := by
  apply List.ext_getElem?
  intro i
  have hlen : (am_ws g sh σ).length = sh.length := by simp [am_ws]
  by_cases hi : i < sh.length
  · have e : sh[i]? = some sh[i] := List.getElem?_eq_getElem hi
    rw [List.getElem?_append_left (by omega), am_ws_at e, am_ws_at (q := sh[i]) (by rw [List.getElem?_append_left hi]; exact e), am_ce_o (h1 i hi).1 (h1 i hi).2]
  · by_cases h2 : i = sh.length
    · subst h2
      rw [am_ws_at (q := q) (by simp), List.getElem?_append_right (by omega), hlen]
      simp
    · rw [List.getElem?_eq_none (by simp [am_ws]; omega), List.getElem?_eq_none (by simp [hlen]; omega)]
/-- a new cell's address is the next one -/
theorem am_next {p : Program} {l : Launch} {e : Env} {R : Room} {s : State} {m : MethodId} {args : Array Value} {below : List Frame} {meth : Method} {c : Code} {H1 : Heap} {locs : List Loc} {cells slots : Nat} {Q : State → Prop} {gf : JFrame} {g : am_G} {sh : am_Sh} {σ : am_St} {q : Nat} {en : va_E}
    (hP : va_P (am_D g) am_cl (am_ws g sh σ ++ [(q, en)]) H1) (hD : va_D (am_A g) (am_ws g sh σ ++ [(q, en)])) (h0 : s.heap.size + cells = am_n0 g + sh.length + 1)
    (k : q = am_n0 g + sh.length → W p l e R s m args below meth c H1 locs cells slots Q gf) : W p l e R s m args below meth c H1 locs cells slots Q gf := by
  intro T hT X
  have h1 := X.heapSize
  rw [hT] at h1
  have hlen : (am_ws g sh σ).length = sh.length := by simp [am_ws]
  have hlast : (am_ws g sh σ ++ [(q, en)])[sh.length]? = some (q, en) := by rw [List.getElem?_append_right (by omega), hlen]; simp
  have h2 : q < H1.size := (hP _ _ hlast).lt
  have h3 : am_n0 g ≤ q := hD.2 _ _ hlast
  refine k ?_ T hT X
  by_cases h4 : q = am_n0 g + sh.length
  · exact h4
  · exfalso
    have h5 : q - am_n0 g < sh.length := by omega
    have e : sh[q - am_n0 g]? = some sh[q - am_n0 g] := List.getElem?_eq_getElem h5
    have h6 : (am_ws g sh σ ++ [(q, en)])[q - am_n0 g]? = some (am_n0 g + (q - am_n0 g), am_ce g σ (q - am_n0 g) sh[q - am_n0 g]) := by
      rw [List.getElem?_append_left (by omega)]
      exact am_ws_at e
    have h7 := hD.1 _ _ _ _ h6 hlast (by show am_n0 g + (q - am_n0 g) = q; omega)
    omega
theorem am_dflt : ∀ ci, ci < 12 → ∀ j, j < 51 → (match (am_TG.getD ci [])[j]? with | some t => decide (defaultValue (am_Y ci j) = (if t = 0 then .int 0 else if t = 1 then .long 0 else .null)) | none => true) = true := by decide +kernel
def am_NL (own : String) (idx ci : Nat) : Prop := ∃ (C : String) (T : u_T) (N : Nat), am_cl[ci]? = some (C, T, N) ∧ N ≤ 51 ∧ Cond.classLink own idx C ∈ am_tbl ∧ Cond.instantiable C N ∈ am_tbl ∧ Cond.initialized C ∈ am_tbl
section AMN
variable {x : am_Sc} {M : am_MT} {Po : Option am_AV → am_Sh → am_St → Prop} {cs : Nat × Nat} {sh : am_Sh} {σ : am_St} {pc : Nat} {lv : List (Option am_AV)} {st : List am_AV}
theorem V_new {idx ci : Nat} (N : Nat) (hd : decode (am_c M) pc = .ok (.new idx, 3)) (hf : am_NL M.1.cls idx ci) (hN : (am_TG.getD ci []).length = N) (hlen : Nat.blt sh.length 1000000 = true) (hc : (Nat.ble (cs.1 + 1) M.2.2.2.2.cells && Nat.ble (cs.2 + N) M.2.2.2.2.slots) = true)
    (kk : am_V x M Po (cs.1 + 1, cs.2 + N) (sh ++ [(ci, N, List.replicate N none)]) (am_z σ.1 sh.length, am_z σ.2 sh.length) (pc + 3) lv (Zr sh.length :: st)) : am_V x M Po cs sh σ pc lv st := by
  intro p l e s m args below meth c g X H locs ls hP hz hS hl
  obtain ⟨hx, hb, hret, hml, hown, hts, hK, hlk, hnm, hxs⟩ := id X
  obtain ⟨C, T, N', h1, h51, h2, h3, h4⟩ := hf
  obtain ⟨w1, w2, w3, w4, w5⟩ := am_cls h1
  have hNN : N' = N := w4.symm.trans hN
  subst hNN
  have hA : ∀ q, s.heap.size ≤ q → am_A g q := fun q h => Nat.le_trans hK.2.1 h
  have hl9 : sh.length < 1000000 := Nat.le_of_ble_eq_true hlen
  refine va_new (ci := ci) (fs := (am_TG.getD ci []).mapIdx fun j t => am_fv g (am_z σ.1 sh.length, am_z σ.2 sh.length) sh.length (List.replicate N' none) t j) hx hb hts w1 (am_Y ci) w2 hown (hts _ h2) (hts _ h3) (hts _ h4) hK.1 hP (am_ws_D g sh σ) hS hA h1 (fun j hj => ?_) (am_fitc hc).1 (am_fitc hc).2 hd (fun q H1 hP1 hD1 hS1 => ?_)
  · have h5 := am_dflt ci w5 j (by omega)
    have h6 : j < (am_TG.getD ci []).length := by omega
    obtain ⟨t, h7⟩ : ∃ t, (am_TG.getD ci [])[j]? = some t := ⟨_, List.getElem?_eq_getElem h6⟩
    rw [h7] at h5
    have h8 := of_decide_eq_true h5
    rw [h8]
    unfold vp_V
    show _ = (((am_TG.getD ci []).mapIdx _)[j]?).getD Value.null
    rw [List.getElem?_mapIdx, h7, Option.map_some, Option.getD_some]
    unfold am_fv
    have e1 : (List.replicate N' (none : Option Nat)).getD j none = none := by
      rw [List.getD_eq_getElem?_getD, List.getElem?_replicate]
      split <;> rfl
    rw [e1]
    simp [am_z, va_rf]
  · refine am_next hP1 hD1 (by omega) (fun hq => ?_)
    subst hq
    have hw := am_ws_push (g := g) (sh := sh) (σ := σ) (σ' := (am_z σ.1 sh.length, am_z σ.2 sh.length)) (q := (ci, N', List.replicate N' none)) (fun k hk => ⟨am_z_o (by omega), am_z_o (by omega)⟩)
    rw [am_ce_obj g _ sh.length ci N' _ w5] at hw
    rw [← hw] at hP1
    have k9 := kk p l e s m args below meth c g X H1 locs ls hP1 (by rw [List.length_append]; show s.heap.size + (cs.1 + 1) = _; simp; omega) hS1 hl
    have e9 : am_cv g (Zr sh.length) = .ref (am_n0 g + sh.length) := by show Value.ref (am_ad g sh.length) = _; unfold am_ad; rw [if_pos hl9]
    rw [List.map_cons, e9] at k9
    exact k9
/-- a new row: the kind t + 12 for t 0 (int), 1 (long), 2 (boolean) -/
theorem am_newa {n : Nat} {z : Int} {at' : ArrayType} {t : Nat} {ty : FieldType} {a0 : vp_A} (hd : decode (am_c M) pc = .ok (.newarray at', 2)) (hw : Cond.arrayClass (newarray.typeOf at') ∈ am_tbl) (hty : newarray.typeOf at' = ty) (hz0 : z = (n : Int)) (hn : n < 1000000) (ht : ∀ g, (am_tys g)[t]? = some (am_cy g t, ty)) (hRA : ∀ (U : State) (c1 c2 : ClassId), va_RA U c1 ty → va_RA U c2 ty → c1 = c2)
    (ha : ∀ cA : ClassId, vp_cell cA a0 = arrV cA n (fun _ => defaultValue ty)) (hce : ∀ g (σ : am_St) k, σ.1 k = (fun _ => 0) → σ.2 k = (fun _ => 0) → am_ce g σ k (12 + t, n, []) = .inl (am_cy g t, a0)) (hby : n * componentBytes ty ≤ 536870912)
    (hlen : Nat.blt sh.length 1000000 = true) (hc : (Nat.ble (cs.1 + 1) M.2.2.2.2.cells && Nat.ble (cs.2 + n) M.2.2.2.2.slots) = true)
    (kk : am_V x M Po (cs.1 + 1, cs.2 + n) (sh ++ [(12 + t, n, [])]) (am_z σ.1 sh.length, am_z σ.2 sh.length) (pc + 2) lv (Zr sh.length :: st)) : am_V x M Po cs sh σ pc lv (Zi z :: st) := by
  subst hz0
  intro p l e s m args below meth c g X H locs ls hP hz hS hl
  obtain ⟨hx, hb, hret, hml, hown, hts, hK, hlk, hnm, hxs⟩ := id X
  have hA : ∀ q, s.heap.size ≤ q → am_A g q := fun q h => Nat.le_trans hK.2.1 h
  have hl9 : sh.length < 1000000 := Nat.le_of_ble_eq_true hlen
  have hneg : ¬ Int32.ofInt (n : Int) < 0 := by
    rw [show (0 : Int32) = Int32.ofInt 0 from rfl, am_lt ⟨by omega, by omega⟩ (by decide)]
    omega
  refine va_newa (ty := ty) (a0 := a0) (N' := n) hx hb (hts _ hw) hty hK.1 hP (am_ws_D g sh σ) hS hA ha hneg (am_ix (by omega)) hby (am_fitc hc).1 (am_fitc hc).2 hd (fun q cA H1 hK1 hP1 hD1 hS1 => ?_)
  have e0 : cA = am_cy g t := by
    have h1 := (hK1.2 (am_tys g).length (cA, ty) (by simp)).2
    have h2 := (hK.1.2 t _ (ht g)).2
    exact hRA s _ _ h1 h2
  subst e0
  refine am_next hP1 hD1 (by omega) (fun hq => ?_)
  subst hq
  have hw := am_ws_push (g := g) (sh := sh) (σ := σ) (σ' := (am_z σ.1 sh.length, am_z σ.2 sh.length)) (q := (12 + t, n, [])) (fun k hk => ⟨am_z_o (by omega), am_z_o (by omega)⟩)
  rw [hce g _ sh.length (by funext j; simp [am_z]) (by funext j; simp [am_z])] at hw
  rw [← hw] at hP1
  have k9 := kk p l e s m args below meth c g X H1 locs ls hP1 (by rw [List.length_append]; show s.heap.size + (cs.1 + 1) = _; simp; omega) hS1 hl
  have e9 : am_cv g (Zr sh.length) = .ref (am_n0 g + sh.length) := by show Value.ref (am_ad g sh.length) = _; unfold am_ad; rw [if_pos hl9]
  rw [List.map_cons, e9] at k9
  exact k9
theorem am_RAeq {U : State} {c1 c2 : ClassId} {ty : FieldType} (hty : ty = .int ∨ ty = .long ∨ ty = .boolean ∨ ty = .array .int ∨ ty = .array .long) (h1 : va_RA U c1 ty) (h2 : va_RA U c2 ty) : c1 = c2 := by
  rcases hty with rfl | rfl | rfl | rfl | rfl <;> exact Option.some.inj (h1.symm.trans h2)
theorem V_newI {n : Nat} {z : Int} (hd : decode (am_c M) pc = .ok (.newarray .int, 2)) (hw : Cond.arrayClass .int ∈ am_tbl) (hz0 : z = (n : Int)) (hn : Nat.blt n 1000 = true) (hlen : Nat.blt sh.length 1000000 = true) (hc : (Nat.ble (cs.1 + 1) M.2.2.2.2.cells && Nat.ble (cs.2 + n) M.2.2.2.2.slots) = true)
    (kk : am_V x M Po (cs.1 + 1, cs.2 + n) (sh ++ [(12, n, [])]) (am_z σ.1 sh.length, am_z σ.2 sh.length) (pc + 2) lv (Zr sh.length :: st)) : am_V x M Po cs sh σ pc lv (Zi z :: st) := by
  have hn : n < 1000 := Nat.le_of_ble_eq_true hn
  exact am_newa (t := 0) (ty := .int) (a0 := (n, .inl (fun _ => 0))) hd hw rfl hz0 (by omega) (fun g => rfl) (fun U c1 c2 => am_RAeq (Or.inl rfl)) (fun cA => rfl) (fun g σ k h1 h2 => by simp [am_ce, h1]) (by show n * 4 ≤ _; omega) hlen hc kk
theorem V_newL {n : Nat} {z : Int} (hd : decode (am_c M) pc = .ok (.newarray .long, 2)) (hw : Cond.arrayClass .long ∈ am_tbl) (hz0 : z = (n : Int)) (hn : Nat.blt n 1000 = true) (hlen : Nat.blt sh.length 1000000 = true) (hc : (Nat.ble (cs.1 + 1) M.2.2.2.2.cells && Nat.ble (cs.2 + n) M.2.2.2.2.slots) = true)
    (kk : am_V x M Po (cs.1 + 1, cs.2 + n) (sh ++ [(13, n, [])]) (am_z σ.1 sh.length, am_z σ.2 sh.length) (pc + 2) lv (Zr sh.length :: st)) : am_V x M Po cs sh σ pc lv (Zi z :: st) := by
  have hn : n < 1000 := Nat.le_of_ble_eq_true hn
  exact am_newa (t := 1) (ty := .long) (a0 := (n, .inr (.inl (fun _ => 0)))) hd hw rfl hz0 (by omega) (fun g => rfl) (fun U c1 c2 => am_RAeq (Or.inr (Or.inl rfl))) (fun cA => rfl) (fun g σ k h1 h2 => by simp [am_ce, h2]) (by show n * 8 ≤ _; omega) hlen hc kk
theorem V_newZ {n : Nat} {z : Int} (hd : decode (am_c M) pc = .ok (.newarray .boolean, 2)) (hw : Cond.arrayClass .boolean ∈ am_tbl) (hz0 : z = (n : Int)) (hn : Nat.blt n 1000 = true) (hlen : Nat.blt sh.length 1000000 = true) (hc : (Nat.ble (cs.1 + 1) M.2.2.2.2.cells && Nat.ble (cs.2 + n) M.2.2.2.2.slots) = true)
    (kk : am_V x M Po (cs.1 + 1, cs.2 + n) (sh ++ [(14, n, [])]) (am_z σ.1 sh.length, am_z σ.2 sh.length) (pc + 2) lv (Zr sh.length :: st)) : am_V x M Po cs sh σ pc lv (Zi z :: st) := by
  have hn : n < 1000 := Nat.le_of_ble_eq_true hn
  exact am_newa (t := 2) (ty := .boolean) (a0 := (n, .inl (fun _ => 0))) hd hw rfl hz0 (by omega) (fun g => rfl) (fun U c1 c2 => am_RAeq (Or.inr (Or.inr (Or.inl rfl)))) (fun cA => rfl) (fun g σ k h1 h2 => by simp [am_ce, h1]) (by show n * 1 ≤ _; omega) hlen hc kk
/-- a constructor's store of a reference into a final field -/
theorem V_puta {idx ci j k n r : Nat} {rs : List (Option Nat)} (hd : decode (am_c M) pc = .ok (.putfield idx, 3)) (hf : am_FL M.1.cls idx ci j 2) (hfin : ∀ C T N, am_cl[ci]? = some (C, T, N) → (T j).2.2.2 = true ∧ (T j).1 = M.1.cls) (hin : M.1.name = "<init>") (hq : sh[k]? = some (ci, n, rs)) (hty : ∀ g, narrow (am_Y ci j) (am_cv g (Zr r)) = am_cv g (Zr r) ∧ fits (am_Y ci j) (am_cv g (Zr r)) = true) (hlen : (Nat.ble sh.length 1000000 && Nat.blt j rs.length) = true)
    (kk : am_V x M Po cs (sh.set k (ci, n, rs.set j (some r))) σ (pc + 3) lv st) : am_V x M Po cs sh σ pc lv (Zr r :: Zr k :: st) := by
  intro p l e s m args below meth c g X H locs ls hP hz hS hl
  obtain ⟨hx, hb, hret, hml, hown, hts, hK, hlk, hnm, hxs⟩ := id X
  obtain ⟨C, T, N, g1, g2, g3, g4⟩ := hf
  obtain ⟨w1, w2, w3, w4, w5⟩ := am_cls g1
  have hl1 := Nat.le_of_ble_eq_true (Bool.and_eq_true_iff.mp hlen).1
  have hl2 : j < rs.length := Nat.le_of_ble_eq_true (Bool.and_eq_true_iff.mp hlen).2
  have he := am_ws_at (g := g) (σ := σ) hq
  rw [am_ce_obj g σ k ci n rs w5] at he
  rw [List.map_cons, List.map_cons]
  show W _ _ _ _ _ _ _ _ _ _ _ _ _ _ _ (F0 m pc ls (am_cv g (Zr r) :: .ref (am_ad g k) :: _))
  rw [am_lift hq hl1]
  refine va_putF (ref := (T j).1) (v := am_cv g (Zr r)) (ty := am_Y ci j) hx hb hts w1 (am_Y ci) w2 w3 hown hK.1 hP (am_ws_D g sh σ) hS k he g1 j g2 (hts _ g3) (fun _ h9 => h9) (hfin C T N g1).1 (hnm.trans hin) (hfin C T N g1).2 (w2 j g2) (hty g).1 (hty g).2 (by rw [List.length_mapIdx, w4]; exact g2) hd (fun H1 locs1 hP1 hD1 hS1 => ?_)
  have hk : k < sh.length := (List.getElem?_eq_some_iff.mp hq).1
  have e9 : (am_ws g sh σ).set k (am_n0 g + k, .inr (ci, ((am_TG.getD ci []).mapIdx fun j t => am_fv g σ k rs t j).set j (am_cv g (Zr r)))) = am_ws g (sh.set k (ci, n, rs.set j (some r))) σ := by
    apply List.ext_getElem?
    intro i
    rw [List.getElem?_set]
    by_cases e1 : k = i
    · subst e1
      rw [if_pos rfl, if_pos (by simp [am_ws]; exact hk), am_ws_at (q := (ci, n, rs.set j (some r))) (by rw [List.getElem?_set, if_pos rfl, if_pos hk]), am_ce_obj g σ k ci n _ w5]
      congr 4
      apply List.ext_getElem?
      intro i
      rw [List.getElem?_set]
      by_cases e2 : j = i
      · subst e2
        have hl := (List.getElem?_eq_some_iff.mp g4).1
        rw [if_pos rfl, if_pos (by simpa using hl), List.getElem?_mapIdx, g4, Option.map_some]
        unfold am_fv
        rw [List.getD_eq_getElem?_getD, List.getElem?_set, if_pos rfl, if_pos hl2]
        rfl
      · rw [if_neg e2, List.getElem?_mapIdx, List.getElem?_mapIdx]
        cases (am_TG.getD ci [])[i]? with
        | none => rfl
        | some t' =>
          rw [Option.map_some, Option.map_some]
          unfold am_fv
          rw [List.getD_eq_getElem?_getD, List.getD_eq_getElem?_getD, List.getElem?_set, if_neg e2]
    · rw [if_neg e1]
      cases hi : sh[i]? with
      | none => simp [am_ws, hi, e1]
      | some q' => rw [am_ws_at hi, am_ws_at (q := q') (by rw [List.getElem?_set, if_neg e1]; exact hi)]
  rw [e9] at hP1
  exact kk p l e s m args below meth c g X H1 locs1 ls hP1 (by rw [List.length_set]; exact hz) hS1 hl
/-- Object's constructor -/
theorem V_obj {idx k : Nat} (hd : decode (am_c M) pc = .ok (.invokespecial idx, 3)) (hw : Cond.methodLink M.1.cls idx objectInit ∈ am_tbl ∧ Cond.instanceMethod objectInit ∈ am_tbl ∧ Cond.code objectInit ⟨#[0xb1]⟩ 1 none ∈ am_tbl) (hr : (Nat.ble 1 M.2.2.2.2.frames && Nat.ble 20 M.2.2.2.2.locals) = true) (hst : Nat.ble st.length 4 = true)
    (kk : am_V x M Po cs sh σ (pc + 3) lv st) : am_V x M Po cs sh σ pc lv (Zr k :: st) := by
  intro p l e s m args below meth c g X H locs ls hP hz hS hl
  obtain ⟨hx, hb, hret, hml, hown, hts, hK, hlk, hnm, hxs⟩ := id X
  rw [List.map_cons]
  have h8 := am_catsum g st hst
  refine W.objInit (g := F0 m pc ls (am_cv g (Zr k) :: st.map (am_cv g))) (rest := st.map (am_cv g)) hx hb hown (hts _ hw.1) (hts _ hw.2.1) (hts _ hw.2.2) rfl (hl.1.trans hml.symm) rfl hd (am_fitc hr).1 ?_ (kk p l e s m args below meth c g X H locs ls hP hz hS hl)
  have h9 := (am_fitc hr).2
  show 2 * 0 + _ + 12 ≤ _
  omega
end AMN
