/-! ===== the rules of the heap ===== -/
/-- an entry of a class's file that names a field of class ci, place j, of tag t -/
def am_FL (own : String) (idx ci j t : Nat) : Prop := ∃ (C : String) (T : u_T) (N : Nat), am_cl[ci]? = some (C, T, N) ∧ j < N ∧ Cond.fieldLink own idx (T j).1 (T j).2.1 (T j).2.2.1 ∈ am_tbl ∧ (am_TG.getD ci [])[j]? = some t
theorem am_ce_obj (g : am_G) (σ : am_St) (k ci n : Nat) (rs : List (Option Nat)) (h : ci < 12) : am_ce g σ k (ci, n, rs) = .inr (ci, (am_TG.getD ci []).mapIdx fun j t => am_fv g σ k rs t j) := by
  simp [am_ce, h]
theorem am_lift {g : am_G} {sh : am_Sh} {k : Nat} {q : Nat × Nat × List (Option Nat)} (h : sh[k]? = some q) (hl : sh.length ≤ 1000000) : am_ad g k = am_n0 g + k := by
  have := (List.getElem?_eq_some_iff.mp h).1
  unfold am_ad
  rw [if_pos (by omega)]
section AMH
variable {x : am_Sc} {M : am_MT} {Po : Option am_AV → am_Sh → am_St → Prop} {cs : Nat × Nat} {sh : am_Sh} {σ : am_St} {pc : Nat} {lv : List (Option am_AV)} {st : List am_AV}
theorem am_getf {idx ci j t k n : Nat} {rs : List (Option Nat)} {v : am_AV} (hd : decode (am_c M) pc = .ok (.getfield idx, 3)) (hf : am_FL M.1.cls idx ci j t) (hq : sh[k]? = some (ci, n, rs)) (hlen : sh.length ≤ 1000000)
    (hv : ∀ g, am_fv g σ k rs t j = am_cv g v) (kk : am_V x M Po cs sh σ (pc + 3) lv (v :: st)) : am_V x M Po cs sh σ pc lv (Zr k :: st) := by
  intro p l e s m args below meth c g X H locs ls hP hz hS hl
  obtain ⟨hx, hb, hret, hml, hown, hts, hK, hlk, hnm, hxs⟩ := id X
  obtain ⟨C, T, N, h1, h2, h3, h4⟩ := hf
  obtain ⟨w1, w2, w3, w4, w5⟩ := am_cls h1
  have he := am_ws_at (g := g) (σ := σ) hq
  rw [am_ce_obj g σ k ci n rs w5] at he
  rw [List.map_cons]
  show W _ _ _ _ _ _ _ _ _ _ _ _ _ _ _ (F0 m pc ls (.ref (am_ad g k) :: _))
  rw [am_lift hq hlen]
  refine va_get (ref := (T j).1) hx hb hts w1 hown hK.1 hP k he h1 j h2 (hts _ h3) (fun _ h9 => h9) (v := am_cv g v) ?_ hd (kk p l e s m args below meth c g X H locs ls hP hz hS hl)
  rw [List.getElem?_mapIdx, h4, Option.map_some, hv g]
theorem V_geti {idx ci j k n : Nat} {rs : List (Option Nat)} (hd : decode (am_c M) pc = .ok (.getfield idx, 3)) (hf : am_FL M.1.cls idx ci j 0) (hq : sh[k]? = some (ci, n, rs)) (hlen : Nat.ble sh.length 1000000 = true)
    (kk : am_V x M Po cs sh σ (pc + 3) lv (Zi (σ.1 k j) :: st)) : am_V x M Po cs sh σ pc lv (Zr k :: st) := am_getf hd hf hq (Nat.le_of_ble_eq_true hlen) (fun g => rfl) kk
theorem V_getl {idx ci j k n : Nat} {rs : List (Option Nat)} (hd : decode (am_c M) pc = .ok (.getfield idx, 3)) (hf : am_FL M.1.cls idx ci j 1) (hq : sh[k]? = some (ci, n, rs)) (hlen : Nat.ble sh.length 1000000 = true)
    (kk : am_V x M Po cs sh σ (pc + 3) lv (Zl (σ.2 k j) :: st)) : am_V x M Po cs sh σ pc lv (Zr k :: st) := am_getf hd hf hq (Nat.le_of_ble_eq_true hlen) (fun g => rfl) kk
theorem V_geta {idx ci j k n r : Nat} {rs : List (Option Nat)} (hd : decode (am_c M) pc = .ok (.getfield idx, 3)) (hf : am_FL M.1.cls idx ci j 2) (hq : sh[k]? = some (ci, n, rs)) (hlen : Nat.ble sh.length 1000000 = true) (hr : rs.getD j none = some r)
    (kk : am_V x M Po cs sh σ (pc + 3) lv (Zr r :: st)) : am_V x M Po cs sh σ pc lv (Zr k :: st) := am_getf hd hf hq (Nat.le_of_ble_eq_true hlen) (fun g => by unfold am_fv; rw [hr]; rfl) kk
/-- a store into a field: what the cells are then -/
theorem am_setf {g : am_G} {σ' : am_St} {k j ci n t : Nat} {rs : List (Option Nat)} {v : Value} (h : sh[k]? = some (ci, n, rs)) (hci : ci < 12) (ht : (am_TG.getD ci [])[j]? = some t)
    (h1 : ∀ k', k' ≠ k → σ'.1 k' = σ.1 k' ∧ σ'.2 k' = σ.2 k') (h2 : ∀ t' j', j' ≠ j → am_fv g σ' k rs t' j' = am_fv g σ k rs t' j') (h3 : am_fv g σ' k rs t j = v) :
    (am_ws g sh σ).set k (am_n0 g + k, .inr (ci, ((am_TG.getD ci []).mapIdx fun j t => am_fv g σ k rs t j).set j v)) = am_ws g sh σ' := by
  rw [← am_ws_set (σ' := σ') h (fun k' q' hk hq => am_ce_o (h1 k' hk).1 (h1 k' hk).2 q'), am_ce_obj g σ' k ci n rs hci]
  congr 4
  apply List.ext_getElem?
  intro i
  rw [List.getElem?_set]
  by_cases e : j = i
  · subst e
    have hl := (List.getElem?_eq_some_iff.mp ht).1
    rw [if_pos rfl, if_pos (by simpa using hl), List.getElem?_mapIdx, ht, Option.map_some, h3]
  · rw [if_neg e, List.getElem?_mapIdx, List.getElem?_mapIdx]
    cases (am_TG.getD ci [])[i]? with
    | none => rfl
    | some t' => rw [Option.map_some, Option.map_some, h2 t' i (fun z => e z.symm)]
theorem am_putf {idx ci j t k n : Nat} {rs : List (Option Nat)} {v : am_AV} {σ' : am_St} (hd : decode (am_c M) pc = .ok (.putfield idx, 3)) (hf : am_FL M.1.cls idx ci j t) (hfin : ∀ C T N, am_cl[ci]? = some (C, T, N) → (T j).2.2.2 = false) (hq : sh[k]? = some (ci, n, rs)) (hlen : sh.length ≤ 1000000)
    (hn : ∀ g, narrow (am_Y ci j) (am_cv g v) = am_cv g v) (hfit : ∀ g, fits (am_Y ci j) (am_cv g v) = true)
    (h1 : ∀ k', k' ≠ k → σ'.1 k' = σ.1 k' ∧ σ'.2 k' = σ.2 k') (h2 : ∀ g t' j', j' ≠ j → am_fv g σ' k rs t' j' = am_fv g σ k rs t' j') (h3 : ∀ g, am_fv g σ' k rs t j = am_cv g v)
    (kk : am_V x M Po cs sh σ' (pc + 3) lv st) : am_V x M Po cs sh σ pc lv (v :: Zr k :: st) := by
  intro p l e s m args below meth c g X H locs ls hP hz hS hl
  obtain ⟨hx, hb, hret, hml, hown, hts, hK, hlk, hnm, hxs⟩ := id X
  obtain ⟨C, T, N, g1, g2, g3, g4⟩ := hf
  obtain ⟨w1, w2, w3, w4, w5⟩ := am_cls g1
  have he := am_ws_at (g := g) (σ := σ) hq
  rw [am_ce_obj g σ k ci n rs w5] at he
  rw [List.map_cons, List.map_cons]
  show W _ _ _ _ _ _ _ _ _ _ _ _ _ _ _ (F0 m pc ls (am_cv g v :: .ref (am_ad g k) :: _))
  rw [am_lift hq hlen]
  refine va_put (ref := (T j).1) (v := am_cv g v) (ty := am_Y ci j) hx hb hts w1 (am_Y ci) w2 w3 hown hK.1 hP (am_ws_D g sh σ) hS k he g1 j g2 (hts _ g3) (fun _ h9 => h9) (hfin C T N g1) (w2 j g2) (hn g) (hfit g) (by rw [List.length_mapIdx, w4]; exact g2) hd (fun H1 locs1 hP1 hD1 hS1 => ?_)
  rw [am_setf hq w5 g4 h1 (h2 g) (h3 g)] at hP1
  exact kk p l e s m args below meth c g X H1 locs1 ls hP1 hz hS1 hl
theorem am_fvu (g : am_G) (σ : am_St) (k j : Nat) (rs : List (Option Nat)) (v : Int) (t' j' : Nat) (h : j' ≠ j) : am_fv g (am_up σ.1 k j v, σ.2) k rs t' j' = am_fv g σ k rs t' j' := by
  simp [am_fv, am_up, h]
theorem am_fvuL (g : am_G) (σ : am_St) (k j : Nat) (rs : List (Option Nat)) (v : Int) (t' j' : Nat) (h : j' ≠ j) : am_fv g (σ.1, am_up σ.2 k j v) k rs t' j' = am_fv g σ k rs t' j' := by
  simp [am_fv, am_up, h]
/-- an entry for a field that may be written anywhere: it isn't final -/
def am_FW (own : String) (idx ci j t : Nat) (ty : FieldType) : Prop := am_FL own idx ci j t ∧ (∀ C T N, am_cl[ci]? = some (C, T, N) → (T j).2.2.2 = false) ∧ am_Y ci j = ty
theorem V_puti {idx ci j k n : Nat} {rs : List (Option Nat)} {v : Int} (hd : decode (am_c M) pc = .ok (.putfield idx, 3)) (hf : am_FW M.1.cls idx ci j 0 .int) (hq : sh[k]? = some (ci, n, rs)) (hlen : Nat.ble sh.length 1000000 = true)
    (kk : am_V x M Po cs sh (am_up σ.1 k j v, σ.2) (pc + 3) lv st) : am_V x M Po cs sh σ pc lv (Zi v :: Zr k :: st) :=
  am_putf (σ' := (am_up σ.1 k j v, σ.2)) hd hf.1 hf.2.1 hq (Nat.le_of_ble_eq_true hlen) (fun g => by rw [hf.2.2]; rfl) (fun g => by rw [hf.2.2]; rfl) (fun k' h => ⟨am_up_o h, rfl⟩) (fun g t' j' h => am_fvu g σ k j rs v t' j' h) (fun g => by simp [am_fv, am_up, am_cv]) kk
theorem V_putz {idx ci j k n : Nat} {rs : List (Option Nat)} {v : Int} (hd : decode (am_c M) pc = .ok (.putfield idx, 3)) (hf : am_FW M.1.cls idx ci j 0 .boolean) (hq : sh[k]? = some (ci, n, rs)) (hlen : Nat.ble sh.length 1000000 = true) (hv : v = 0 ∨ v = 1)
    (kk : am_V x M Po cs sh (am_up σ.1 k j v, σ.2) (pc + 3) lv st) : am_V x M Po cs sh σ pc lv (Zi v :: Zr k :: st) :=
  am_putf (σ' := (am_up σ.1 k j v, σ.2)) hd hf.1 hf.2.1 hq (Nat.le_of_ble_eq_true hlen) (fun g => by rw [hf.2.2]; rcases hv with rfl | rfl <;> rfl) (fun g => by rw [hf.2.2]; rcases hv with rfl | rfl <;> rfl) (fun k' h => ⟨am_up_o h, rfl⟩) (fun g t' j' h => am_fvu g σ k j rs v t' j' h) (fun g => by simp [am_fv, am_up, am_cv]) kk
theorem V_putl {idx ci j k n : Nat} {rs : List (Option Nat)} {v : Int} (hd : decode (am_c M) pc = .ok (.putfield idx, 3)) (hf : am_FW M.1.cls idx ci j 1 .long) (hq : sh[k]? = some (ci, n, rs)) (hlen : Nat.ble sh.length 1000000 = true)
    (kk : am_V x M Po cs sh (σ.1, am_up σ.2 k j v) (pc + 3) lv st) : am_V x M Po cs sh σ pc lv (Zl v :: Zr k :: st) :=
  am_putf (σ' := (σ.1, am_up σ.2 k j v)) hd hf.1 hf.2.1 hq (Nat.le_of_ble_eq_true hlen) (fun g => by rw [hf.2.2]; rfl) (fun g => by rw [hf.2.2]; rfl) (fun k' h => ⟨rfl, am_up_o h⟩) (fun g t' j' h => am_fvuL g σ k j rs v t' j' h) (fun g => by simp [am_fv, am_up, am_cv]) kk
/-! arrays: the index is a number below the length -/
theorem am_ix {i : Nat} (h : i < 2147483648) : (Int32.ofInt (i : Int)).toNatClampNeg = i := by
  show (Int32.ofInt (i : Int)).toInt.toNat = i
  rw [am_toInt ⟨by omega, by omega⟩]
  omega
theorem am_inb {i n : Nat} (h : i < n) (hn : n < 2147483648) : vp_in (Int32.ofInt (i : Int)) n := by
  unfold vp_in
  rw [am_ix (by omega)]
  rintro (h1 | h1)
  · rw [show (0 : Int32) = Int32.ofInt 0 from rfl, am_lt ⟨by omega, by omega⟩ (by decide)] at h1
    omega
  · omega
/-- an array of ints or booleans, its kind and its length -/
def am_AR (sh : am_Sh) (k n : Nat) : Prop := ∃ rs, sh[k]? = some (12, n, rs)
theorem V_iald {k n i : Nat} {z : Int} {rs : List (Option Nat)} (hd : decode (am_c M) pc = .ok (.iaload, 1)) (hq : sh[k]? = some (12, n, rs)) (hlen : (Nat.ble sh.length 1000000 && Nat.blt n 2147483648) = true) (hz : z = (i : Int)) (hi : i < n)
    (kk : am_V x M Po cs sh σ (pc + 1) lv (Zi (σ.1 k i) :: st)) : am_V x M Po cs sh σ pc lv (Zi z :: Zr k :: st) := by
  subst hz
  have hl1 := Nat.le_of_ble_eq_true (Bool.and_eq_true_iff.mp hlen).1
  have hl2 : n < 2147483648 := Nat.le_of_ble_eq_true (Bool.and_eq_true_iff.mp hlen).2
  intro p l e s m args below meth c g X H locs ls hP hz hS hl
  obtain ⟨hx, hb, hret, hml, hown, hts, hK, hlk, hnm, hxs⟩ := id X
  have he : (am_ws g sh σ)[k]? = some (am_n0 g + k, .inl (am_cy g 0, n, .inl (fun j => Int32.ofInt (σ.1 k j)))) := am_ws_at hq
  rw [List.map_cons, List.map_cons]
  show W _ _ _ _ _ _ _ _ _ _ _ _ _ _ _ (F0 m pc ls (.int (Int32.ofInt (i : Int)) :: .ref (am_ad g k) :: _))
  rw [am_lift hq hl1]
  refine va_iald hx hb hK.1 hP k 0 he rfl (am_inb hi hl2) hd ?_
  rw [am_ix (by omega)]
  exact kk p l e s m args below meth c g X H locs ls hP hz hS hl
theorem V_zald {k n i : Nat} {z : Int} {rs : List (Option Nat)} (hd : decode (am_c M) pc = .ok (.baload, 1)) (hq : sh[k]? = some (14, n, rs)) (hlen : (Nat.ble sh.length 1000000 && Nat.blt n 2147483648) = true) (hz : z = (i : Int)) (hi : i < n)
    (kk : am_V x M Po cs sh σ (pc + 1) lv (Zi (σ.1 k i) :: st)) : am_V x M Po cs sh σ pc lv (Zi z :: Zr k :: st) := by
  subst hz
  have hl1 := Nat.le_of_ble_eq_true (Bool.and_eq_true_iff.mp hlen).1
  have hl2 : n < 2147483648 := Nat.le_of_ble_eq_true (Bool.and_eq_true_iff.mp hlen).2
  intro p l e s m args below meth c g X H locs ls hP hz hS hl
  obtain ⟨hx, hb, hret, hml, hown, hts, hK, hlk, hnm, hxs⟩ := id X
  have he : (am_ws g sh σ)[k]? = some (am_n0 g + k, .inl (am_cy g 2, n, .inl (fun j => Int32.ofInt (σ.1 k j)))) := am_ws_at hq
  rw [List.map_cons, List.map_cons]
  show W _ _ _ _ _ _ _ _ _ _ _ _ _ _ _ (F0 m pc ls (.int (Int32.ofInt (i : Int)) :: .ref (am_ad g k) :: _))
  rw [am_lift hq hl1]
  refine va_zald hx hb hK.1 hP k 2 he rfl (am_inb hi hl2) hd ?_
  rw [am_ix (by omega)]
  exact kk p l e s m args below meth c g X H locs ls hP hz hS hl
theorem V_lald {k n i : Nat} {z : Int} {rs : List (Option Nat)} (hd : decode (am_c M) pc = .ok (.laload, 1)) (hq : sh[k]? = some (13, n, rs)) (hlen : (Nat.ble sh.length 1000000 && Nat.blt n 2147483648) = true) (hz : z = (i : Int)) (hi : i < n)
    (kk : am_V x M Po cs sh σ (pc + 1) lv (Zl (σ.2 k i) :: st)) : am_V x M Po cs sh σ pc lv (Zi z :: Zr k :: st) := by
  subst hz
  have hl1 := Nat.le_of_ble_eq_true (Bool.and_eq_true_iff.mp hlen).1
  have hl2 : n < 2147483648 := Nat.le_of_ble_eq_true (Bool.and_eq_true_iff.mp hlen).2
  intro p l e s m args below meth c g X H locs ls hP hz hS hl
  obtain ⟨hx, hb, hret, hml, hown, hts, hK, hlk, hnm, hxs⟩ := id X
  have he : (am_ws g sh σ)[k]? = some (am_n0 g + k, .inl (am_cy g 1, n, .inr (.inl (fun j => Int64.ofInt (σ.2 k j))))) := am_ws_at hq
  rw [List.map_cons, List.map_cons]
  show W _ _ _ _ _ _ _ _ _ _ _ _ _ _ _ (F0 m pc ls (.int (Int32.ofInt (i : Int)) :: .ref (am_ad g k) :: _))
  rw [am_lift hq hl1]
  refine va_lald hx hb hK.1 hP k 1 he rfl (am_inb hi hl2) hd ?_
  rw [am_ix (by omega)]
  exact kk p l e s m args below meth c g X H locs ls hP hz hS hl
theorem am_setA {g : am_G} {k n j : Nat} {v : Int} {rs : List (Option Nat)} {kd : Nat} (h : sh[k]? = some (kd, n, rs)) (E : (Nat → Int) → va_E) (hE : ∀ σ : am_St, am_ce g σ k (kd, n, rs) = E (σ.1 k)) :
    (am_ws g sh σ).set k (am_n0 g + k, E (fun j' => if j' = j then v else σ.1 k j')) = am_ws g sh (am_up σ.1 k j v, σ.2) := by
  rw [← am_ws_set (σ := σ) (σ' := (am_up σ.1 k j v, σ.2)) h (fun k' q' hk hq => am_ce_o (σ := σ) (σ' := (am_up σ.1 k j v, σ.2)) (am_up_o hk) rfl q'), hE]
  simp only [am_up_row]
theorem am_setAL {g : am_G} {k n j : Nat} {v : Int} {rs : List (Option Nat)} {kd : Nat} (h : sh[k]? = some (kd, n, rs)) (E : (Nat → Int) → va_E) (hE : ∀ σ : am_St, am_ce g σ k (kd, n, rs) = E (σ.2 k)) :
    (am_ws g sh σ).set k (am_n0 g + k, E (fun j' => if j' = j then v else σ.2 k j')) = am_ws g sh (σ.1, am_up σ.2 k j v) := by
  rw [← am_ws_set (σ := σ) (σ' := (σ.1, am_up σ.2 k j v)) h (fun k' q' hk hq => am_ce_o (σ := σ) (σ' := (σ.1, am_up σ.2 k j v)) rfl (am_up_o hk) q'), hE]
  simp only [am_up_row]
theorem am_updI (f : Nat → Int) (j : Nat) (v : Int) : upd (fun j => Int32.ofInt (f j)) j (Int32.ofInt v) = fun j' => Int32.ofInt (if j' = j then v else f j') := by
  funext j'; by_cases h : j' = j <;> simp [upd, h]
theorem am_updL (f : Nat → Int) (j : Nat) (v : Int) : vp_updL (fun j => Int64.ofInt (f j)) j (Int64.ofInt v) = fun j' => Int64.ofInt (if j' = j then v else f j') := by
  funext j'; by_cases h : j' = j <;> simp [vp_updL, h]
theorem V_iast {k n i : Nat} {z v : Int} {rs : List (Option Nat)} (hd : decode (am_c M) pc = .ok (.iastore, 1)) (hq : sh[k]? = some (12, n, rs)) (hlen : (Nat.ble sh.length 1000000 && Nat.blt n 2147483648) = true) (hz : z = (i : Int)) (hi : i < n)
    (kk : am_V x M Po cs sh (am_up σ.1 k i v, σ.2) (pc + 1) lv st) : am_V x M Po cs sh σ pc lv (Zi v :: Zi z :: Zr k :: st) := by
  subst hz
  have hl1 := Nat.le_of_ble_eq_true (Bool.and_eq_true_iff.mp hlen).1
  have hl2 : n < 2147483648 := Nat.le_of_ble_eq_true (Bool.and_eq_true_iff.mp hlen).2
  intro p l e s m args below meth c g X H locs ls hP hz hS hl
  obtain ⟨hx, hb, hret, hml, hown, hts, hK, hlk, hnm, hxs⟩ := id X
  have he : (am_ws g sh σ)[k]? = some (am_n0 g + k, .inl (am_cy g 0, n, .inl (fun j => Int32.ofInt (σ.1 k j)))) := am_ws_at hq
  rw [List.map_cons, List.map_cons, List.map_cons]
  show W _ _ _ _ _ _ _ _ _ _ _ _ _ _ _ (F0 m pc ls (.int (Int32.ofInt v) :: .int (Int32.ofInt (i : Int)) :: .ref (am_ad g k) :: _))
  rw [am_lift hq hl1]
  refine va_iast hx hb hK.1 hP (am_ws_D g sh σ) hS k 0 he rfl (am_inb hi hl2) hd (fun H1 locs1 hP1 hD1 hS1 => ?_)
  rw [am_ix (by omega), am_updI, am_setA (σ := σ) hq (fun f => .inl (am_cy g 0, n, .inl (fun j => Int32.ofInt (f j)))) (fun _ => rfl)] at hP1
  exact kk p l e s m args below meth c g X H1 locs1 ls hP1 hz hS1 hl
theorem V_zast {k n i : Nat} {z v : Int} {rs : List (Option Nat)} (hd : decode (am_c M) pc = .ok (.bastore, 1)) (hq : sh[k]? = some (14, n, rs)) (hlen : (Nat.ble sh.length 1000000 && Nat.blt n 2147483648) = true) (hz : z = (i : Int)) (hi : i < n) (hv : v = 0 ∨ v = 1)
    (kk : am_V x M Po cs sh (am_up σ.1 k i v, σ.2) (pc + 1) lv st) : am_V x M Po cs sh σ pc lv (Zi v :: Zi z :: Zr k :: st) := by
  subst hz
  have hl1 := Nat.le_of_ble_eq_true (Bool.and_eq_true_iff.mp hlen).1
  have hl2 : n < 2147483648 := Nat.le_of_ble_eq_true (Bool.and_eq_true_iff.mp hlen).2
  intro p l e s m args below meth c g X H locs ls hP hz hS hl
  obtain ⟨hx, hb, hret, hml, hown, hts, hK, hlk, hnm, hxs⟩ := id X
  have he : (am_ws g sh σ)[k]? = some (am_n0 g + k, .inl (am_cy g 2, n, .inl (fun j => Int32.ofInt (σ.1 k j)))) := am_ws_at hq
  rw [List.map_cons, List.map_cons, List.map_cons]
  show W _ _ _ _ _ _ _ _ _ _ _ _ _ _ _ (F0 m pc ls (.int (Int32.ofInt v) :: .int (Int32.ofInt (i : Int)) :: .ref (am_ad g k) :: _))
  rw [am_lift hq hl1]
  have hnar : vp_nar .boolean (Int32.ofInt v) = Int32.ofInt v := by rcases hv with rfl | rfl <;> rfl
  refine va_zast hx hb hK.1 hP (am_ws_D g sh σ) hS k 2 he rfl (am_inb hi hl2) hd (fun H1 locs1 hP1 hD1 hS1 => ?_)
  rw [hnar, am_ix (by omega), am_updI, am_setA (σ := σ) hq (fun f => .inl (am_cy g 2, n, .inl (fun j => Int32.ofInt (f j)))) (fun _ => rfl)] at hP1
  exact kk p l e s m args below meth c g X H1 locs1 ls hP1 hz hS1 hl
theorem V_last {k n i : Nat} {z v : Int} {rs : List (Option Nat)} (hd : decode (am_c M) pc = .ok (.lastore, 1)) (hq : sh[k]? = some (13, n, rs)) (hlen : (Nat.ble sh.length 1000000 && Nat.blt n 2147483648) = true) (hz : z = (i : Int)) (hi : i < n)
    (kk : am_V x M Po cs sh (σ.1, am_up σ.2 k i v) (pc + 1) lv st) : am_V x M Po cs sh σ pc lv (Zl v :: Zi z :: Zr k :: st) := by
  subst hz
  have hl1 := Nat.le_of_ble_eq_true (Bool.and_eq_true_iff.mp hlen).1
  have hl2 : n < 2147483648 := Nat.le_of_ble_eq_true (Bool.and_eq_true_iff.mp hlen).2
  intro p l e s m args below meth c g X H locs ls hP hz hS hl
  obtain ⟨hx, hb, hret, hml, hown, hts, hK, hlk, hnm, hxs⟩ := id X
  have he : (am_ws g sh σ)[k]? = some (am_n0 g + k, .inl (am_cy g 1, n, .inr (.inl (fun j => Int64.ofInt (σ.2 k j))))) := am_ws_at hq
  rw [List.map_cons, List.map_cons, List.map_cons]
  show W _ _ _ _ _ _ _ _ _ _ _ _ _ _ _ (F0 m pc ls (.long (Int64.ofInt v) :: .int (Int32.ofInt (i : Int)) :: .ref (am_ad g k) :: _))
  rw [am_lift hq hl1]
  refine va_last hx hb hK.1 hP (am_ws_D g sh σ) hS k 1 he rfl (am_inb hi hl2) hd (fun H1 locs1 hP1 hD1 hS1 => ?_)
  rw [am_ix (by omega), am_updL, am_setAL (σ := σ) hq (fun f => .inl (am_cy g 1, n, .inr (.inl (fun j => Int64.ofInt (f j))))) (fun _ => rfl)] at hP1
  exact kk p l e s m args below meth c g X H1 locs1 ls hP1 hz hS1 hl
end AMH
