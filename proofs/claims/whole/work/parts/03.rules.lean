/-! ===== the rules: a row an instruction ===== -/
abbrev am_r (a : Int) : Prop := -2147483648 ≤ a ∧ a < 2147483648
abbrev am_rl (a : Int) : Prop := -9223372036854775808 ≤ a ∧ a < 9223372036854775808
theorem am_toInt {a : Int} (h : am_r a) : (Int32.ofInt a).toInt = a := by
  have h1 := h.1; have h2 := h.2
  rw [Int32.toInt_ofInt]
  show a.bmod 4294967296 = a
  exact Int.bmod_eq_of_le (by omega) (by omega)
theorem am_toIntL {a : Int} (h : am_rl a) : (Int64.ofInt a).toInt = a := by
  have h1 := h.1; have h2 := h.2
  rw [Int64.toInt_ofInt]
  show a.bmod 18446744073709551616 = a
  exact Int.bmod_eq_of_le (by omega) (by omega)
theorem am_lt {a b : Int} (ha : am_r a) (hb : am_r b) : Int32.ofInt a < Int32.ofInt b ↔ a < b := by rw [Int32.lt_iff_toInt_lt, am_toInt ha, am_toInt hb]
theorem am_le {a b : Int} (ha : am_r a) (hb : am_r b) : Int32.ofInt a ≤ Int32.ofInt b ↔ a ≤ b := by rw [Int32.le_iff_toInt_le, am_toInt ha, am_toInt hb]
theorem am_eq {a b : Int} (ha : am_r a) (hb : am_r b) : Int32.ofInt a = Int32.ofInt b ↔ a = b := by rw [← Int32.toInt_inj, am_toInt ha, am_toInt hb]
theorem am_ltL {a b : Int} (ha : am_rl a) (hb : am_rl b) : Int64.ofInt a < Int64.ofInt b ↔ a < b := by rw [Int64.lt_iff_toInt_lt, am_toIntL ha, am_toIntL hb]
theorem am_eqL {a b : Int} (ha : am_rl a) (hb : am_rl b) : Int64.ofInt a = Int64.ofInt b ↔ a = b := by rw [← Int64.toInt_inj, am_toIntL ha, am_toIntL hb]
def am_nl (lv : List (Option am_AV)) (i : Nat) : Bool := match i with
  | 0 => true
  | j + 1 => match lv[j]? with
    | some (some (.inr (.inl _))) => false
    | _ => true
def am_lvl (g : am_G) (lv : List (Option am_AV)) : List (Nat × Value) := lv.zipIdx.filterMap fun q => q.1.map fun v => (q.2, am_cv g v)
theorem am_lvl_in {g : am_G} {lv : List (Option am_AV)} {q : Nat × Value} : q ∈ am_lvl g lv ↔ ∃ v, lv[q.1]? = some (some v) ∧ q.2 = am_cv g v := by
  unfold am_lvl
  rw [List.mem_filterMap]
  constructor
  · rintro ⟨⟨x, i⟩, h1, h2⟩
    rw [List.mem_zipIdx_iff_getElem?] at h1
    cases x with
    | none => simp at h2
    | some v =>
      simp at h2
      subst h2
      exact ⟨v, h1, rfl⟩
  · rintro ⟨v, h1, h2⟩
    refine ⟨(some v, q.1), List.mem_zipIdx_iff_getElem?.mpr h1, ?_⟩
    simp [← h2]
theorem am_L_has {g : am_G} {ls : Array Slot} {nL : Nat} {lv : List (Option am_AV)} (h : am_L g ls nL lv) : lv_has ls nL (am_lvl g lv) := by
  refine ⟨h.1, h.2.1, fun q hq => ?_⟩
  obtain ⟨v, h1, h2⟩ := am_lvl_in.mp hq
  rw [h2]
  exact h.2.2.2 q.1 v h1
theorem am_cat (g : am_G) (v : am_AV) : (am_cv g v).category = 2 ↔ ∃ z, v = Zl z := by
  rcases v with z | z | k | u
  · simp [am_cv, Value.category]
  · simp [am_cv, Value.category]
  · simp [am_cv, Value.category]
  · rcases va_rf_or (am_fm g) with h | ⟨a, h⟩ <;> simp [am_cv, h, Value.category]
theorem am_st1 {g : am_G} {ls' : Array Slot} {nL i : Nat} {lv : List (Option am_AV)} {v : am_AV} (hlen : lv.length = nL) (hn : am_nl lv i = true)
    (h : lv_has ls' nL ((i, am_cv g v) :: (am_lvl g lv).filter (fun q => !(q.1 == i) && !(q.1 + 1 == i && q.2.category == 2)))) : am_L g ls' nL (lv.set i (some v)) := by
  refine ⟨h.1, h.2.1, by simp [hlen], fun j w hj => ?_⟩
  rw [List.getElem?_set] at hj
  by_cases e : i = j
  · subst e
    rw [if_pos rfl] at hj
    split at hj
    · cases hj
      exact h.2.2 (i, am_cv g v) List.mem_cons_self
    · cases hj
  · rw [if_neg e] at hj
    refine h.2.2 (j, am_cv g w) (List.mem_cons_of_mem _ (List.mem_filter.mpr ⟨am_lvl_in.mpr ⟨w, hj, rfl⟩, ?_⟩))
    simp only [Bool.and_eq_true, Bool.not_eq_true', beq_eq_false_iff_ne, Bool.and_eq_false_iff, ne_eq]
    refine ⟨fun z => e z.symm, ?_⟩
    by_cases e2 : j + 1 = i
    · right
      intro hc
      obtain ⟨z, rfl⟩ := (am_cat g w).mp hc
      subst e2
      simp [am_nl, hj] at hn
    · left; exact e2
theorem am_st2 {g : am_G} {ls' : Array Slot} {nL i : Nat} {lv : List (Option am_AV)} {v : am_AV} (hlen : lv.length = nL) (hn : am_nl lv i = true)
    (h : lv_has ls' nL ((i, am_cv g v) :: (am_lvl g lv).filter (fun q => !(q.1 == i) && (!(q.1 == i + 1) && !(q.1 + 1 == i && q.2.category == 2))))) : am_L g ls' nL ((lv.set i (some v)).set (i + 1) none) := by
  refine ⟨h.1, h.2.1, by simp [hlen], fun j w hj => ?_⟩
  rw [List.getElem?_set] at hj
  by_cases e1 : i + 1 = j
  · subst e1
    rw [if_pos rfl] at hj
    split at hj <;> cases hj
  rw [if_neg e1, List.getElem?_set] at hj
  by_cases e : i = j
  · subst e
    rw [if_pos rfl] at hj
    split at hj
    · cases hj
      exact h.2.2 (i, am_cv g v) List.mem_cons_self
    · cases hj
  · rw [if_neg e] at hj
    refine h.2.2 (j, am_cv g w) (List.mem_cons_of_mem _ (List.mem_filter.mpr ⟨am_lvl_in.mpr ⟨w, hj, rfl⟩, ?_⟩))
    simp only [Bool.and_eq_true, Bool.not_eq_true', beq_eq_false_iff_ne, Bool.and_eq_false_iff, ne_eq]
    refine ⟨fun z => e z.symm, fun z => e1 z.symm, ?_⟩
    by_cases e2 : j + 1 = i
    · right
      intro hc
      obtain ⟨z, rfl⟩ := (am_cat g w).mp hc
      subst e2
      simp [am_nl, hj] at hn
    · left; exact e2
section AMR
variable {x : am_Sc} {M : am_MT} {Po : Option am_AV → am_Sh → am_St → Prop} {cs : Nat × Nat} {sh : am_Sh} {σ : am_St} {pc : Nat} {lv : List (Option am_AV)} {st : List am_AV}
theorem V_iconst {n : Int} (hd : decode (am_c M) pc = .ok (.iconst n, 1)) (k : am_V x M Po cs sh σ (pc + 1) lv (Zi n :: st)) : am_V x M Po cs sh σ pc lv st := by
  intro p l e s m args below meth c g X H locs ls hP hz hS hl
  obtain ⟨hx, hb, hret, hml, hown, hts, hK, hlk, hnm, hxs⟩ := id X
  exact lv_iconst hx hb hd rfl (k p l e s m args below meth c g X H locs ls hP hz hS hl)
theorem V_bipush {n : Int} (hd : decode (am_c M) pc = .ok (.bipush n, 2)) (k : am_V x M Po cs sh σ (pc + 2) lv (Zi n :: st)) (hv : (Int8.ofInt n).toInt32 = Int32.ofInt n := by decide) : am_V x M Po cs sh σ pc lv st := by
  intro p l e s m args below meth c g X H locs ls hP hz hS hl
  obtain ⟨hx, hb, hret, hml, hown, hts, hK, hlk, hnm, hxs⟩ := id X
  exact lv_bipush hx hb hd hv (k p l e s m args below meth c g X H locs ls hP hz hS hl)
theorem V_sipush {n : Int} (hd : decode (am_c M) pc = .ok (.sipush n, 3)) (k : am_V x M Po cs sh σ (pc + 3) lv (Zi n :: st)) (hv : (Int16.ofInt n).toInt32 = Int32.ofInt n := by decide) : am_V x M Po cs sh σ pc lv st := by
  intro p l e s m args below meth c g X H locs ls hP hz hS hl
  obtain ⟨hx, hb, hret, hml, hown, hts, hK, hlk, hnm, hxs⟩ := id X
  exact lv_sipush hx hb hd hv (k p l e s m args below meth c g X H locs ls hP hz hS hl)
theorem V_lconst {n : Fin 2} (z : Int) (hd : decode (am_c M) pc = .ok (.lconst n, 1)) (k : am_V x M Po cs sh σ (pc + 1) lv (Zl z :: st)) (hv : Int64.ofNat (n : Nat) = Int64.ofInt z := by decide) : am_V x M Po cs sh σ pc lv st := by
  intro p l e s m args below meth c g X H locs ls hP hz hS hl
  obtain ⟨hx, hb, hret, hml, hown, hts, hK, hlk, hnm, hxs⟩ := id X
  exact lv_lconst hx hb hd hv (k p l e s m args below meth c g X H locs ls hP hz hS hl)
theorem V_ldc {n : Nat} (z : Int) (hd : decode (am_c M) pc = .ok (.ldc n, 2)) (hw : Cond.constant M.1.cls n (Int32.ofInt z) ∈ am_tbl) (k : am_V x M Po cs sh σ (pc + 2) lv (Zi z :: st)) : am_V x M Po cs sh σ pc lv st := by
  intro p l e s m args below meth c g X H locs ls hP hz hS hl
  obtain ⟨hx, hb, hret, hml, hown, hts, hK, hlk, hnm, hxs⟩ := id X
  exact lv_ldc hx hb hown (hts _ hw) hd (k p l e s m args below meth c g X H locs ls hP hz hS hl)
theorem V_ldcw {n : Nat} (z : Int) (hd : decode (am_c M) pc = .ok (.ldc_w n, 3)) (hw : Cond.constant M.1.cls n (Int32.ofInt z) ∈ am_tbl) (k : am_V x M Po cs sh σ (pc + 3) lv (Zi z :: st)) : am_V x M Po cs sh σ pc lv st := by
  intro p l e s m args below meth c g X H locs ls hP hz hS hl
  obtain ⟨hx, hb, hret, hml, hown, hts, hK, hlk, hnm, hxs⟩ := id X
  exact lv_ldcw hx hb hown (hts _ hw) hd (k p l e s m args below meth c g X H locs ls hP hz hS hl)
theorem V_ldc2 {n : Nat} (z : Int) (hd : decode (am_c M) pc = .ok (.ldc2_w n, 3)) (hw : Cond.constantLong M.1.cls n (Int64.ofInt z) ∈ am_tbl) (k : am_V x M Po cs sh σ (pc + 3) lv (Zl z :: st)) : am_V x M Po cs sh σ pc lv st := by
  intro p l e s m args below meth c g X H locs ls hP hz hS hl
  obtain ⟨hx, hb, hret, hml, hown, hts, hK, hlk, hnm, hxs⟩ := id X
  exact lv_ldc2 hx hb hown (hts _ hw) hd (k p l e s m args below meth c g X H locs ls hP hz hS hl)
theorem V_iload_n {j : Fin 4} {y : Int} (hd : decode (am_c M) pc = .ok (.iload_n j, 1)) (h : lv[(j : Nat)]? = some (some (Zi y))) (k : am_V x M Po cs sh σ (pc + 1) lv (Zi y :: st)) : am_V x M Po cs sh σ pc lv st := by
  intro p l e s m args below meth c g X H locs ls hP hz hS hl
  obtain ⟨hx, hb, hret, hml, hown, hts, hK, hlk, hnm, hxs⟩ := id X
  exact lv_iload_n hx hb hd rfl (hl.2.2.2 _ _ h) (k p l e s m args below meth c g X H locs ls hP hz hS hl)
theorem V_iload {j : Nat} {y : Int} (hd : decode (am_c M) pc = .ok (.iload j, 2)) (h : lv[j]? = some (some (Zi y))) (k : am_V x M Po cs sh σ (pc + 2) lv (Zi y :: st)) : am_V x M Po cs sh σ pc lv st := by
  intro p l e s m args below meth c g X H locs ls hP hz hS hl
  obtain ⟨hx, hb, hret, hml, hown, hts, hK, hlk, hnm, hxs⟩ := id X
  exact lv_iload hx hb hd (hl.2.2.2 _ _ h) (k p l e s m args below meth c g X H locs ls hP hz hS hl)
theorem V_lload_n {j : Fin 4} {y : Int} (hd : decode (am_c M) pc = .ok (.lload_n j, 1)) (h : lv[(j : Nat)]? = some (some (Zl y))) (k : am_V x M Po cs sh σ (pc + 1) lv (Zl y :: st)) : am_V x M Po cs sh σ pc lv st := by
  intro p l e s m args below meth c g X H locs ls hP hz hS hl
  obtain ⟨hx, hb, hret, hml, hown, hts, hK, hlk, hnm, hxs⟩ := id X
  exact lv_lload_n hx hb hd rfl (hl.2.2.2 _ _ h) (k p l e s m args below meth c g X H locs ls hP hz hS hl)
theorem V_lload {j : Nat} {y : Int} (hd : decode (am_c M) pc = .ok (.lload j, 2)) (h : lv[j]? = some (some (Zl y))) (k : am_V x M Po cs sh σ (pc + 2) lv (Zl y :: st)) : am_V x M Po cs sh σ pc lv st := by
  intro p l e s m args below meth c g X H locs ls hP hz hS hl
  obtain ⟨hx, hb, hret, hml, hown, hts, hK, hlk, hnm, hxs⟩ := id X
  exact lv_lload hx hb hd (hl.2.2.2 _ _ h) (k p l e s m args below meth c g X H locs ls hP hz hS hl)
theorem V_aload_n {j : Fin 4} {y : Nat} (hd : decode (am_c M) pc = .ok (.aload_n j, 1)) (h : lv[(j : Nat)]? = some (some (Zr y))) (k : am_V x M Po cs sh σ (pc + 1) lv (Zr y :: st)) : am_V x M Po cs sh σ pc lv st := by
  intro p l e s m args below meth c g X H locs ls hP hz hS hl
  obtain ⟨hx, hb, hret, hml, hown, hts, hK, hlk, hnm, hxs⟩ := id X
  exact lv_aload_n hx hb hd rfl (hl.2.2.2 _ _ h) (k p l e s m args below meth c g X H locs ls hP hz hS hl)
theorem V_aload {j : Nat} {y : Nat} (hd : decode (am_c M) pc = .ok (.aload j, 2)) (h : lv[j]? = some (some (Zr y))) (k : am_V x M Po cs sh σ (pc + 2) lv (Zr y :: st)) : am_V x M Po cs sh σ pc lv st := by
  intro p l e s m args below meth c g X H locs ls hP hz hS hl
  obtain ⟨hx, hb, hret, hml, hown, hts, hK, hlk, hnm, hxs⟩ := id X
  exact lv_aload hx hb hd (hl.2.2.2 _ _ h) (k p l e s m args below meth c g X H locs ls hP hz hS hl)
theorem V_istore_n {j : Fin 4} {y : Int} (hd : decode (am_c M) pc = .ok (.istore_n j, 1)) (hn : (am_nl lv j && Nat.blt j lv.length) = true) (k : am_V x M Po cs sh σ (pc + 1) (lv.set j (some (Zi y))) st) : am_V x M Po cs sh σ pc lv (Zi y :: st) := by
  intro p l e s m args below meth c g X H locs ls hP hz hS hl
  obtain ⟨hx, hb, hret, hml, hown, hts, hK, hlk, hnm, hxs⟩ := id X
  have hn1 := (Bool.and_eq_true_iff.mp hn).1
  have hn2 : (j : Nat) < lv.length := Nat.le_of_ble_eq_true (Bool.and_eq_true_iff.mp hn).2
  exact lv_istore_n hx hb hd rfl (am_L_has hl) (by rw [← hl.2.2.1]; exact hn2) rfl (fun ls' h' => k p l e s m args below meth c g X H locs ls' hP hz hS (am_st1 (v := Zi y) hl.2.2.1 hn1 h'))
theorem V_istore {j : Nat} {y : Int} (hd : decode (am_c M) pc = .ok (.istore j, 2)) (hn : (am_nl lv j && Nat.blt j lv.length) = true) (k : am_V x M Po cs sh σ (pc + 2) (lv.set j (some (Zi y))) st) : am_V x M Po cs sh σ pc lv (Zi y :: st) := by
  intro p l e s m args below meth c g X H locs ls hP hz hS hl
  obtain ⟨hx, hb, hret, hml, hown, hts, hK, hlk, hnm, hxs⟩ := id X
  have hn1 := (Bool.and_eq_true_iff.mp hn).1
  have hn2 : (j : Nat) < lv.length := Nat.le_of_ble_eq_true (Bool.and_eq_true_iff.mp hn).2
  exact lv_istore hx hb hd (am_L_has hl) (by rw [← hl.2.2.1]; exact hn2) rfl (fun ls' h' => k p l e s m args below meth c g X H locs ls' hP hz hS (am_st1 (v := Zi y) hl.2.2.1 hn1 h'))
theorem V_astore_n {j : Fin 4} {y : Nat} (hd : decode (am_c M) pc = .ok (.astore_n j, 1)) (hn : (am_nl lv j && Nat.blt j lv.length) = true) (k : am_V x M Po cs sh σ (pc + 1) (lv.set j (some (Zr y))) st) : am_V x M Po cs sh σ pc lv (Zr y :: st) := by
  intro p l e s m args below meth c g X H locs ls hP hz hS hl
  obtain ⟨hx, hb, hret, hml, hown, hts, hK, hlk, hnm, hxs⟩ := id X
  have hn1 := (Bool.and_eq_true_iff.mp hn).1
  have hn2 : (j : Nat) < lv.length := Nat.le_of_ble_eq_true (Bool.and_eq_true_iff.mp hn).2
  exact lv_astore_n hx hb hd rfl (am_L_has hl) (by rw [← hl.2.2.1]; exact hn2) rfl (fun ls' h' => k p l e s m args below meth c g X H locs ls' hP hz hS (am_st1 (v := Zr y) hl.2.2.1 hn1 h'))
theorem V_astore {j : Nat} {y : Nat} (hd : decode (am_c M) pc = .ok (.astore j, 2)) (hn : (am_nl lv j && Nat.blt j lv.length) = true) (k : am_V x M Po cs sh σ (pc + 2) (lv.set j (some (Zr y))) st) : am_V x M Po cs sh σ pc lv (Zr y :: st) := by
  intro p l e s m args below meth c g X H locs ls hP hz hS hl
  obtain ⟨hx, hb, hret, hml, hown, hts, hK, hlk, hnm, hxs⟩ := id X
  have hn1 := (Bool.and_eq_true_iff.mp hn).1
  have hn2 : (j : Nat) < lv.length := Nat.le_of_ble_eq_true (Bool.and_eq_true_iff.mp hn).2
  exact lv_astore hx hb hd (am_L_has hl) (by rw [← hl.2.2.1]; exact hn2) rfl (fun ls' h' => k p l e s m args below meth c g X H locs ls' hP hz hS (am_st1 (v := Zr y) hl.2.2.1 hn1 h'))
theorem V_lstore_n {j : Fin 4} {y : Int} (hd : decode (am_c M) pc = .ok (.lstore_n j, 1)) (hn : (am_nl lv j && Nat.blt (j + 1) lv.length) = true) (k : am_V x M Po cs sh σ (pc + 1) ((lv.set j (some (Zl y))).set (j + 1) none) st) : am_V x M Po cs sh σ pc lv (Zl y :: st) := by
  intro p l e s m args below meth c g X H locs ls hP hz hS hl
  obtain ⟨hx, hb, hret, hml, hown, hts, hK, hlk, hnm, hxs⟩ := id X
  have hn1 := (Bool.and_eq_true_iff.mp hn).1
  have hn2 : (j : Nat) + 1 < lv.length := Nat.le_of_ble_eq_true (Bool.and_eq_true_iff.mp hn).2
  exact lv_lstore_n hx hb hd rfl (am_L_has hl) (by rw [← hl.2.2.1]; exact hn2) rfl (fun ls' h' => k p l e s m args below meth c g X H locs ls' hP hz hS (am_st2 (v := Zl y) hl.2.2.1 hn1 h'))
theorem V_lstore {j : Nat} {y : Int} (hd : decode (am_c M) pc = .ok (.lstore j, 2)) (hn : (am_nl lv j && Nat.blt (j + 1) lv.length) = true) (k : am_V x M Po cs sh σ (pc + 2) ((lv.set j (some (Zl y))).set (j + 1) none) st) : am_V x M Po cs sh σ pc lv (Zl y :: st) := by
  intro p l e s m args below meth c g X H locs ls hP hz hS hl
  obtain ⟨hx, hb, hret, hml, hown, hts, hK, hlk, hnm, hxs⟩ := id X
  have hn1 := (Bool.and_eq_true_iff.mp hn).1
  have hn2 : (j : Nat) + 1 < lv.length := Nat.le_of_ble_eq_true (Bool.and_eq_true_iff.mp hn).2
  exact lv_lstore hx hb hd (am_L_has hl) (by rw [← hl.2.2.1]; exact hn2) rfl (fun ls' h' => k p l e s m args below meth c g X H locs ls' hP hz hS (am_st2 (v := Zl y) hl.2.2.1 hn1 h'))
theorem V_iinc {j : Nat} {n y : Int} (hd : decode (am_c M) pc = .ok (.iinc j n, 3)) (h : lv[j]? = some (some (Zi y))) (hn : am_nl lv j = true) (k : am_V x M Po cs sh σ (pc + 3) (lv.set j (some (Zi (y + n)))) st) : am_V x M Po cs sh σ pc lv st := by
  intro p l e s m args below meth c g X H locs ls hP hz hS hl
  obtain ⟨hx, hb, hret, hml, hown, hts, hK, hlk, hnm, hxs⟩ := id X
  have hj : j < lv.length := (List.getElem?_eq_some_iff.mp h).1
  have hin : (j, am_cv g (Zi y)) ∈ am_lvl g lv := am_lvl_in.mpr ⟨_, h, rfl⟩
  obtain ⟨i9, h9⟩ := List.getElem?_of_mem hin
  exact lv_iinc hx hb hd (am_L_has hl) (k := i9) h9 (v := Int32.ofInt (y + n)) (by rw [Int32.ofInt_add]) (by rw [← hl.2.2.1]; exact hj) rfl (fun ls' h' => k p l e s m args below meth c g X H locs ls' hP hz hS (am_st1 (v := Zi (y + n)) hl.2.2.1 hn h'))
theorem V_iadd {a b : Int} (hd : decode (am_c M) pc = .ok (.iadd, 1)) (k : am_V x M Po cs sh σ (pc + 1) lv (Zi (a + b) :: st)) : am_V x M Po cs sh σ pc lv (Zi b :: Zi a :: st) := by
  intro p l e s m args below meth c g X H locs ls hP hz hS hl
  obtain ⟨hx, hb, hret, hml, hown, hts, hK, hlk, hnm, hxs⟩ := id X
  refine lv_iadd hx hb hd ?_
  have k2 := k p l e s m args below meth c g X H locs ls hP hz hS hl
  rw [List.map_cons, am_cv, Int32.ofInt_add] at k2
  exact k2
theorem V_ladd {a b : Int} (hd : decode (am_c M) pc = .ok (.ladd, 1)) (k : am_V x M Po cs sh σ (pc + 1) lv (Zl (a + b) :: st)) : am_V x M Po cs sh σ pc lv (Zl b :: Zl a :: st) := by
  intro p l e s m args below meth c g X H locs ls hP hz hS hl
  obtain ⟨hx, hb, hret, hml, hown, hts, hK, hlk, hnm, hxs⟩ := id X
  refine lv_ladd hx hb hd ?_
  have k2 := k p l e s m args below meth c g X H locs ls hP hz hS hl
  rw [List.map_cons, am_cv, Int64.ofInt_add] at k2
  exact k2
theorem V_isub {a b : Int} (hd : decode (am_c M) pc = .ok (.isub, 1)) (k : am_V x M Po cs sh σ (pc + 1) lv (Zi (a - b) :: st)) : am_V x M Po cs sh σ pc lv (Zi b :: Zi a :: st) := by
  intro p l e s m args below meth c g X H locs ls hP hz hS hl
  obtain ⟨hx, hb, hret, hml, hown, hts, hK, hlk, hnm, hxs⟩ := id X
  refine lv_isub hx hb hd ?_
  have k2 := k p l e s m args below meth c g X H locs ls hP hz hS hl
  rw [List.map_cons, am_cv, Int32.ofInt_sub] at k2
  exact k2
theorem V_lsub {a b : Int} (hd : decode (am_c M) pc = .ok (.lsub, 1)) (k : am_V x M Po cs sh σ (pc + 1) lv (Zl (a - b) :: st)) : am_V x M Po cs sh σ pc lv (Zl b :: Zl a :: st) := by
  intro p l e s m args below meth c g X H locs ls hP hz hS hl
  obtain ⟨hx, hb, hret, hml, hown, hts, hK, hlk, hnm, hxs⟩ := id X
  refine lv_lsub hx hb hd ?_
  have k2 := k p l e s m args below meth c g X H locs ls hP hz hS hl
  rw [List.map_cons, am_cv, Int64.ofInt_sub] at k2
  exact k2
theorem V_imul {a b : Int} (hd : decode (am_c M) pc = .ok (.imul, 1)) (k : am_V x M Po cs sh σ (pc + 1) lv (Zi (a * b) :: st)) : am_V x M Po cs sh σ pc lv (Zi b :: Zi a :: st) := by
  intro p l e s m args below meth c g X H locs ls hP hz hS hl
  obtain ⟨hx, hb, hret, hml, hown, hts, hK, hlk, hnm, hxs⟩ := id X
  refine lv_imul hx hb hd ?_
  have k2 := k p l e s m args below meth c g X H locs ls hP hz hS hl
  rw [List.map_cons, am_cv, Int32.ofInt_mul] at k2
  exact k2
theorem V_lmul {a b : Int} (hd : decode (am_c M) pc = .ok (.lmul, 1)) (k : am_V x M Po cs sh σ (pc + 1) lv (Zl (a * b) :: st)) : am_V x M Po cs sh σ pc lv (Zl b :: Zl a :: st) := by
  intro p l e s m args below meth c g X H locs ls hP hz hS hl
  obtain ⟨hx, hb, hret, hml, hown, hts, hK, hlk, hnm, hxs⟩ := id X
  refine lv_lmul hx hb hd ?_
  have k2 := k p l e s m args below meth c g X H locs ls hP hz hS hl
  rw [List.map_cons, am_cv, Int64.ofInt_mul] at k2
  exact k2
end AMR
/-! numbers of the machine, seen as ints: rows that say what they are stand later -/
def am_and (a b : Int) : Int := (Int32.ofInt a &&& Int32.ofInt b).toInt
def am_or (a b : Int) : Int := (Int32.ofInt a ||| Int32.ofInt b).toInt
def am_xor (a b : Int) : Int := (Int32.ofInt a ^^^ Int32.ofInt b).toInt
def am_div (a b : Int) : Int := (Int32.ofInt a / Int32.ofInt b).toInt
def am_rem (a b : Int) : Int := (Int32.ofInt a - Int32.ofInt a / Int32.ofInt b * Int32.ofInt b).toInt
def am_shl (a b : Int) : Int := (Int32.ofInt a <<< (Int32.ofInt b &&& 31)).toInt
def am_shr (a b : Int) : Int := (Int32.ofInt a >>> (Int32.ofInt b &&& 31)).toInt
def am_ushr (a b : Int) : Int := ((Int32.ofInt a).toUInt32 >>> ((Int32.ofInt b).toUInt32 &&& Int32.toUInt32 31)).toInt32.toInt
def am_andL (a b : Int) : Int := (Int64.ofInt a &&& Int64.ofInt b).toInt
def am_orL (a b : Int) : Int := (Int64.ofInt a ||| Int64.ofInt b).toInt
def am_xorL (a b : Int) : Int := (Int64.ofInt a ^^^ Int64.ofInt b).toInt
def am_divL (a b : Int) : Int := (Int64.ofInt a / Int64.ofInt b).toInt
def am_remL (a b : Int) : Int := (Int64.ofInt a - Int64.ofInt a / Int64.ofInt b * Int64.ofInt b).toInt
def am_shlL (a b : Int) : Int := (Int64.ofInt a <<< ((Int32.ofInt b).toInt64 &&& 63)).toInt
def am_shrL (a b : Int) : Int := (Int64.ofInt a >>> ((Int32.ofInt b).toInt64 &&& 63)).toInt
def am_i2l (a : Int) : Int := (Int32.ofInt a).toInt64.toInt
def am_l2i (a : Int) : Int := (Int64.ofInt a).toInt32.toInt
def am_cmp (a b : Int) : Int := if b < a then 1 else if a = b then 0 else -1
theorem am_of (x : Int32) : Int32.ofInt x.toInt = x := Int32.ofInt_toInt x
theorem am_ofL (x : Int64) : Int64.ofInt x.toInt = x := Int64.ofInt_toInt x
theorem am_rr32 (x : Int32) : am_r x.toInt := ⟨by have := Int32.le_toInt x; omega, by have := Int32.toInt_lt x; omega⟩
section AMS
variable {x : am_Sc} {M : am_MT} {Po : Option am_AV → am_Sh → am_St → Prop} {cs : Nat × Nat} {sh : am_Sh} {σ : am_St} {pc : Nat} {lv : List (Option am_AV)} {st : List am_AV}
theorem V_iand {a b : Int} (hd : decode (am_c M) pc = .ok (.iand, 1)) (k : am_V x M Po cs sh σ (pc + 1) lv (Zi (am_and a b) :: st)) : am_V x M Po cs sh σ pc lv (Zi b :: Zi a :: st) := by
  intro p l e s m args below meth c g X H locs ls hP hz hS hl
  obtain ⟨hx, hb, hret, hml, hown, hts, hK, hlk, hnm, hxs⟩ := id X
  refine lv_iand hx hb hd ?_
  have k2 := k p l e s m args below meth c g X H locs ls hP hz hS hl
  rw [List.map_cons, am_cv, am_and, am_of] at k2
  exact k2
theorem V_land {a b : Int} (hd : decode (am_c M) pc = .ok (.land, 1)) (k : am_V x M Po cs sh σ (pc + 1) lv (Zl (am_andL a b) :: st)) : am_V x M Po cs sh σ pc lv (Zl b :: Zl a :: st) := by
  intro p l e s m args below meth c g X H locs ls hP hz hS hl
  obtain ⟨hx, hb, hret, hml, hown, hts, hK, hlk, hnm, hxs⟩ := id X
  refine lv_land hx hb hd ?_
  have k2 := k p l e s m args below meth c g X H locs ls hP hz hS hl
  rw [List.map_cons, am_cv, am_andL, am_ofL] at k2
  exact k2
theorem V_ior {a b : Int} (hd : decode (am_c M) pc = .ok (.ior, 1)) (k : am_V x M Po cs sh σ (pc + 1) lv (Zi (am_or a b) :: st)) : am_V x M Po cs sh σ pc lv (Zi b :: Zi a :: st) := by
  intro p l e s m args below meth c g X H locs ls hP hz hS hl
  obtain ⟨hx, hb, hret, hml, hown, hts, hK, hlk, hnm, hxs⟩ := id X
  refine lv_ior hx hb hd ?_
  have k2 := k p l e s m args below meth c g X H locs ls hP hz hS hl
  rw [List.map_cons, am_cv, am_or, am_of] at k2
  exact k2
theorem V_lor {a b : Int} (hd : decode (am_c M) pc = .ok (.lor, 1)) (k : am_V x M Po cs sh σ (pc + 1) lv (Zl (am_orL a b) :: st)) : am_V x M Po cs sh σ pc lv (Zl b :: Zl a :: st) := by
  intro p l e s m args below meth c g X H locs ls hP hz hS hl
  obtain ⟨hx, hb, hret, hml, hown, hts, hK, hlk, hnm, hxs⟩ := id X
  refine lv_lor hx hb hd ?_
  have k2 := k p l e s m args below meth c g X H locs ls hP hz hS hl
  rw [List.map_cons, am_cv, am_orL, am_ofL] at k2
  exact k2
theorem V_ixor {a b : Int} (hd : decode (am_c M) pc = .ok (.ixor, 1)) (k : am_V x M Po cs sh σ (pc + 1) lv (Zi (am_xor a b) :: st)) : am_V x M Po cs sh σ pc lv (Zi b :: Zi a :: st) := by
  intro p l e s m args below meth c g X H locs ls hP hz hS hl
  obtain ⟨hx, hb, hret, hml, hown, hts, hK, hlk, hnm, hxs⟩ := id X
  refine lv_ixor hx hb hd ?_
  have k2 := k p l e s m args below meth c g X H locs ls hP hz hS hl
  rw [List.map_cons, am_cv, am_xor, am_of] at k2
  exact k2
theorem V_lxor {a b : Int} (hd : decode (am_c M) pc = .ok (.lxor, 1)) (k : am_V x M Po cs sh σ (pc + 1) lv (Zl (am_xorL a b) :: st)) : am_V x M Po cs sh σ pc lv (Zl b :: Zl a :: st) := by
  intro p l e s m args below meth c g X H locs ls hP hz hS hl
  obtain ⟨hx, hb, hret, hml, hown, hts, hK, hlk, hnm, hxs⟩ := id X
  refine lv_lxor hx hb hd ?_
  have k2 := k p l e s m args below meth c g X H locs ls hP hz hS hl
  rw [List.map_cons, am_cv, am_xorL, am_ofL] at k2
  exact k2
theorem V_idiv {a b : Int} (hd : decode (am_c M) pc = .ok (.idiv, 1)) (hr : am_r b) (h0 : b ≠ 0) (k : am_V x M Po cs sh σ (pc + 1) lv (Zi (am_div a b) :: st)) : am_V x M Po cs sh σ pc lv (Zi b :: Zi a :: st) := by
  intro p l e s m args below meth c g X H locs ls hP hz hS hl
  obtain ⟨hx, hb, hret, hml, hown, hts, hK, hlk, hnm, hxs⟩ := id X
  refine lv_idiv hx hb hd (fun z => h0 ((am_eq hr (by decide)).mp (z.trans rfl))) ?_
  have k2 := k p l e s m args below meth c g X H locs ls hP hz hS hl
  rw [List.map_cons, am_cv, am_div, am_of] at k2
  exact k2
theorem V_ldiv {a b : Int} (hd : decode (am_c M) pc = .ok (.ldiv, 1)) (hr : am_rl b) (h0 : b ≠ 0) (k : am_V x M Po cs sh σ (pc + 1) lv (Zl (am_divL a b) :: st)) : am_V x M Po cs sh σ pc lv (Zl b :: Zl a :: st) := by
  intro p l e s m args below meth c g X H locs ls hP hz hS hl
  obtain ⟨hx, hb, hret, hml, hown, hts, hK, hlk, hnm, hxs⟩ := id X
  refine lv_ldiv hx hb hd (fun z => h0 ((am_eqL hr (by decide)).mp (z.trans rfl))) ?_
  have k2 := k p l e s m args below meth c g X H locs ls hP hz hS hl
  rw [List.map_cons, am_cv, am_divL, am_ofL] at k2
  exact k2
theorem V_irem {a b : Int} (hd : decode (am_c M) pc = .ok (.irem, 1)) (hr : am_r b) (h0 : b ≠ 0) (k : am_V x M Po cs sh σ (pc + 1) lv (Zi (am_rem a b) :: st)) : am_V x M Po cs sh σ pc lv (Zi b :: Zi a :: st) := by
  intro p l e s m args below meth c g X H locs ls hP hz hS hl
  obtain ⟨hx, hb, hret, hml, hown, hts, hK, hlk, hnm, hxs⟩ := id X
  refine lv_irem hx hb hd (fun z => h0 ((am_eq hr (by decide)).mp (z.trans rfl))) ?_
  have k2 := k p l e s m args below meth c g X H locs ls hP hz hS hl
  rw [List.map_cons, am_cv, am_rem, am_of] at k2
  exact k2
theorem V_lrem {a b : Int} (hd : decode (am_c M) pc = .ok (.lrem, 1)) (hr : am_rl b) (h0 : b ≠ 0) (k : am_V x M Po cs sh σ (pc + 1) lv (Zl (am_remL a b) :: st)) : am_V x M Po cs sh σ pc lv (Zl b :: Zl a :: st) := by
  intro p l e s m args below meth c g X H locs ls hP hz hS hl
  obtain ⟨hx, hb, hret, hml, hown, hts, hK, hlk, hnm, hxs⟩ := id X
  refine lv_lrem hx hb hd (fun z => h0 ((am_eqL hr (by decide)).mp (z.trans rfl))) ?_
  have k2 := k p l e s m args below meth c g X H locs ls hP hz hS hl
  rw [List.map_cons, am_cv, am_remL, am_ofL] at k2
  exact k2
theorem V_ineg {a : Int} (hd : decode (am_c M) pc = .ok (.ineg, 1)) (k : am_V x M Po cs sh σ (pc + 1) lv (Zi (-a) :: st)) : am_V x M Po cs sh σ pc lv (Zi a :: st) := by
  intro p l e s m args below meth c g X H locs ls hP hz hS hl
  obtain ⟨hx, hb, hret, hml, hown, hts, hK, hlk, hnm, hxs⟩ := id X
  refine lv_ineg hx hb hd ?_
  have k2 := k p l e s m args below meth c g X H locs ls hP hz hS hl
  rw [List.map_cons, am_cv, Int32.ofInt_neg] at k2
  exact k2
theorem V_ishl {a b : Int} (hd : decode (am_c M) pc = .ok (.ishl, 1)) (k : am_V x M Po cs sh σ (pc + 1) lv (Zi (am_shl a b) :: st)) : am_V x M Po cs sh σ pc lv (Zi b :: Zi a :: st) := by
  intro p l e s m args below meth c g X H locs ls hP hz hS hl
  obtain ⟨hx, hb, hret, hml, hown, hts, hK, hlk, hnm, hxs⟩ := id X
  refine lv_ishl hx hb hd ?_
  have k2 := k p l e s m args below meth c g X H locs ls hP hz hS hl
  rw [List.map_cons, am_cv, am_shl, am_of] at k2
  exact k2
theorem V_lshl {a b : Int} (hd : decode (am_c M) pc = .ok (.lshl, 1)) (k : am_V x M Po cs sh σ (pc + 1) lv (Zl (am_shlL a b) :: st)) : am_V x M Po cs sh σ pc lv (Zi b :: Zl a :: st) := by
  intro p l e s m args below meth c g X H locs ls hP hz hS hl
  obtain ⟨hx, hb, hret, hml, hown, hts, hK, hlk, hnm, hxs⟩ := id X
  refine lv_lshl hx hb hd (v := Int64.ofInt (am_shlL a b)) (by rw [am_shlL, am_ofL]) ?_
  exact k p l e s m args below meth c g X H locs ls hP hz hS hl
theorem V_ishr {a b : Int} (hd : decode (am_c M) pc = .ok (.ishr, 1)) (k : am_V x M Po cs sh σ (pc + 1) lv (Zi (am_shr a b) :: st)) : am_V x M Po cs sh σ pc lv (Zi b :: Zi a :: st) := by
  intro p l e s m args below meth c g X H locs ls hP hz hS hl
  obtain ⟨hx, hb, hret, hml, hown, hts, hK, hlk, hnm, hxs⟩ := id X
  refine lv_ishr hx hb hd ?_
  have k2 := k p l e s m args below meth c g X H locs ls hP hz hS hl
  rw [List.map_cons, am_cv, am_shr, am_of] at k2
  exact k2
theorem V_lshr {a b : Int} (hd : decode (am_c M) pc = .ok (.lshr, 1)) (k : am_V x M Po cs sh σ (pc + 1) lv (Zl (am_shrL a b) :: st)) : am_V x M Po cs sh σ pc lv (Zi b :: Zl a :: st) := by
  intro p l e s m args below meth c g X H locs ls hP hz hS hl
  obtain ⟨hx, hb, hret, hml, hown, hts, hK, hlk, hnm, hxs⟩ := id X
  refine lv_lshr hx hb hd (v := Int64.ofInt (am_shrL a b)) (by rw [am_shrL, am_ofL]) ?_
  exact k p l e s m args below meth c g X H locs ls hP hz hS hl
theorem V_iushr {a b : Int} (hd : decode (am_c M) pc = .ok (.iushr, 1)) (k : am_V x M Po cs sh σ (pc + 1) lv (Zi (am_ushr a b) :: st)) : am_V x M Po cs sh σ pc lv (Zi b :: Zi a :: st) := by
  intro p l e s m args below meth c g X H locs ls hP hz hS hl
  obtain ⟨hx, hb, hret, hml, hown, hts, hK, hlk, hnm, hxs⟩ := id X
  refine lv_iushr hx hb hd (v := Int32.ofInt (am_ushr a b)) (by rw [am_ushr, am_of]) ?_
  exact k p l e s m args below meth c g X H locs ls hP hz hS hl
theorem V_i2l {a : Int} (hd : decode (am_c M) pc = .ok (.i2l, 1)) (k : am_V x M Po cs sh σ (pc + 1) lv (Zl (am_i2l a) :: st)) : am_V x M Po cs sh σ pc lv (Zi a :: st) := by
  intro p l e s m args below meth c g X H locs ls hP hz hS hl
  obtain ⟨hx, hb, hret, hml, hown, hts, hK, hlk, hnm, hxs⟩ := id X
  refine lv_i2l hx hb hd (v := Int64.ofInt (am_i2l a)) (by rw [am_i2l, am_ofL]) ?_
  exact k p l e s m args below meth c g X H locs ls hP hz hS hl
theorem V_l2i {a : Int} (hd : decode (am_c M) pc = .ok (.l2i, 1)) (k : am_V x M Po cs sh σ (pc + 1) lv (Zi (am_l2i a) :: st)) : am_V x M Po cs sh σ pc lv (Zl a :: st) := by
  intro p l e s m args below meth c g X H locs ls hP hz hS hl
  obtain ⟨hx, hb, hret, hml, hown, hts, hK, hlk, hnm, hxs⟩ := id X
  refine lv_l2i hx hb hd (v := Int32.ofInt (am_l2i a)) (by rw [am_l2i, am_of]) ?_
  exact k p l e s m args below meth c g X H locs ls hP hz hS hl
theorem V_lcmp {a b : Int} (hd : decode (am_c M) pc = .ok (.lcmp, 1)) (ha : am_rl a) (hb2 : am_rl b) (k : am_V x M Po cs sh σ (pc + 1) lv (Zi (am_cmp a b) :: st)) : am_V x M Po cs sh σ pc lv (Zl b :: Zl a :: st) := by
  intro p l e s m args below meth c g X H locs ls hP hz hS hl
  obtain ⟨hx, hb, hret, hml, hown, hts, hK, hlk, hnm, hxs⟩ := id X
  refine W.lcmp hx hb hd ?_
  have k2 := k p l e s m args below meth c g X H locs ls hP hz hS hl
  have e9 : Int32.ofInt (am_cmp a b) = lg_cmp (Int64.ofInt a) (Int64.ofInt b) := by
    unfold am_cmp lg_cmp
    simp only [gt_iff_lt, am_ltL hb2 ha, am_eqL ha hb2]
    split
    · rfl
    · split <;> rfl
  rw [List.map_cons, am_cv, e9] at k2
  exact k2
theorem V_dup {v : am_AV} (hd : decode (am_c M) pc = .ok (.dup, 1)) (k : am_V x M Po cs sh σ (pc + 1) lv (v :: v :: st)) (hc : ∀ g, (am_cv g v).category = 1 := by exact fun _ => rfl) : am_V x M Po cs sh σ pc lv (v :: st) := by
  intro p l e s m args below meth c g X H locs ls hP hz hS hl
  obtain ⟨hx, hb, hret, hml, hown, hts, hK, hlk, hnm, hxs⟩ := id X
  exact lv_dup hx hb hd (hc g) (k p l e s m args below meth c g X H locs ls hP hz hS hl)
theorem V_dup2 {u v : am_AV} (hd : decode (am_c M) pc = .ok (.dup2, 1)) (k : am_V x M Po cs sh σ (pc + 1) lv (u :: v :: u :: v :: st)) (hu : ∀ g, (am_cv g u).category = 1 := by exact fun _ => rfl) (hv : ∀ g, (am_cv g v).category = 1 := by exact fun _ => rfl) : am_V x M Po cs sh σ pc lv (u :: v :: st) := by
  intro p l e s m args below meth c g X H locs ls hP hz hS hl
  obtain ⟨hx, hb, hret, hml, hown, hts, hK, hlk, hnm, hxs⟩ := id X
  exact lv_dup2_11 hx hb hd (hu g) (hv g) (k p l e s m args below meth c g X H locs ls hP hz hS hl)
theorem V_pop {v : am_AV} (hd : decode (am_c M) pc = .ok (.pop, 1)) (k : am_V x M Po cs sh σ (pc + 1) lv st) (hc : ∀ g, (am_cv g v).category = 1 := by exact fun _ => rfl) : am_V x M Po cs sh σ pc lv (v :: st) := by
  intro p l e s m args below meth c g X H locs ls hP hz hS hl
  obtain ⟨hx, hb, hret, hml, hown, hts, hK, hlk, hnm, hxs⟩ := id X
  exact lv_pop hx hb hd (hc g) (k p l e s m args below meth c g X H locs ls hP hz hS hl)
theorem V_goto {off : Int} (tgt : Nat) (hd : decode (am_c M) pc = .ok (.goto off, 3)) (k : am_V x M Po cs sh σ tgt lv st) (ht : (pc : Int) + off = (tgt : Int) := by decide) : am_V x M Po cs sh σ pc lv st := by
  intro p l e s m args below meth c g X H locs ls hP hz hS hl
  obtain ⟨hx, hb, hret, hml, hown, hts, hK, hlk, hnm, hxs⟩ := id X
  exact lv_goto hx hb hd ht (k p l e s m args below meth c g X H locs ls hP hz hS hl)
theorem V_icmp_eq {a b off : Int} (tgt : Nat) (hd : decode (am_c M) pc = .ok (.if_icmp .eq off, 3)) (ha : am_r a) (hb2 : am_r b) (kt : a = b → am_V x M Po cs sh σ tgt lv st) (kf : ¬ a = b → am_V x M Po cs sh σ (pc + 3) lv st) (ht : (pc : Int) + off = (tgt : Int) := by decide) : am_V x M Po cs sh σ pc lv (Zi b :: Zi a :: st) := by
  intro p l e s m args below meth c g X H locs ls hP hz hS hl
  obtain ⟨hx, hb, hret, hml, hown, hts, hK, hlk, hnm, hxs⟩ := id X
  exact lv_icmp_eq hx hb hd ht (fun h9 => kt ((am_eq ha hb2).mp h9) p l e s m args below meth c g X H locs ls hP hz hS hl) (fun h9 => kf (fun z => h9 ((am_eq ha hb2).mpr z)) p l e s m args below meth c g X H locs ls hP hz hS hl)
theorem V_if_eq {a off : Int} (tgt : Nat) (hd : decode (am_c M) pc = .ok (.ifCond .eq off, 3)) (ha : am_r a) (kt : a = 0 → am_V x M Po cs sh σ tgt lv st) (kf : ¬ a = 0 → am_V x M Po cs sh σ (pc + 3) lv st) (ht : (pc : Int) + off = (tgt : Int) := by decide) : am_V x M Po cs sh σ pc lv (Zi a :: st) := by
  intro p l e s m args below meth c g X H locs ls hP hz hS hl
  obtain ⟨hx, hb, hret, hml, hown, hts, hK, hlk, hnm, hxs⟩ := id X
  exact lv_if_eq hx hb hd ht (fun h9 => kt ((am_eq ha (by decide : am_r 0)).mp h9) p l e s m args below meth c g X H locs ls hP hz hS hl) (fun h9 => kf (fun z => h9 ((am_eq ha (by decide : am_r 0)).mpr z)) p l e s m args below meth c g X H locs ls hP hz hS hl)
theorem V_icmp_ne {a b off : Int} (tgt : Nat) (hd : decode (am_c M) pc = .ok (.if_icmp .ne off, 3)) (ha : am_r a) (hb2 : am_r b) (kt : ¬ a = b → am_V x M Po cs sh σ tgt lv st) (kf : a = b → am_V x M Po cs sh σ (pc + 3) lv st) (ht : (pc : Int) + off = (tgt : Int) := by decide) : am_V x M Po cs sh σ pc lv (Zi b :: Zi a :: st) := by
  intro p l e s m args below meth c g X H locs ls hP hz hS hl
  obtain ⟨hx, hb, hret, hml, hown, hts, hK, hlk, hnm, hxs⟩ := id X
  exact lv_icmp_ne hx hb hd ht (fun h9 => kt (fun z => h9 ((am_eq ha hb2).mpr z)) p l e s m args below meth c g X H locs ls hP hz hS hl) (fun h9 => kf ((am_eq ha hb2).mp h9) p l e s m args below meth c g X H locs ls hP hz hS hl)
theorem V_if_ne {a off : Int} (tgt : Nat) (hd : decode (am_c M) pc = .ok (.ifCond .ne off, 3)) (ha : am_r a) (kt : ¬ a = 0 → am_V x M Po cs sh σ tgt lv st) (kf : a = 0 → am_V x M Po cs sh σ (pc + 3) lv st) (ht : (pc : Int) + off = (tgt : Int) := by decide) : am_V x M Po cs sh σ pc lv (Zi a :: st) := by
  intro p l e s m args below meth c g X H locs ls hP hz hS hl
  obtain ⟨hx, hb, hret, hml, hown, hts, hK, hlk, hnm, hxs⟩ := id X
  exact lv_if_ne hx hb hd ht (fun h9 => kt (fun z => h9 ((am_eq ha (by decide : am_r 0)).mpr z)) p l e s m args below meth c g X H locs ls hP hz hS hl) (fun h9 => kf ((am_eq ha (by decide : am_r 0)).mp h9) p l e s m args below meth c g X H locs ls hP hz hS hl)
theorem V_icmp_lt {a b off : Int} (tgt : Nat) (hd : decode (am_c M) pc = .ok (.if_icmp .lt off, 3)) (ha : am_r a) (hb2 : am_r b) (kt : a < b → am_V x M Po cs sh σ tgt lv st) (kf : ¬ a < b → am_V x M Po cs sh σ (pc + 3) lv st) (ht : (pc : Int) + off = (tgt : Int) := by decide) : am_V x M Po cs sh σ pc lv (Zi b :: Zi a :: st) := by
  intro p l e s m args below meth c g X H locs ls hP hz hS hl
  obtain ⟨hx, hb, hret, hml, hown, hts, hK, hlk, hnm, hxs⟩ := id X
  exact lv_icmp_lt hx hb hd ht (fun h9 => kt ((am_lt ha hb2).mp h9) p l e s m args below meth c g X H locs ls hP hz hS hl) (fun h9 => kf (fun z => h9 ((am_lt ha hb2).mpr z)) p l e s m args below meth c g X H locs ls hP hz hS hl)
theorem V_if_lt {a off : Int} (tgt : Nat) (hd : decode (am_c M) pc = .ok (.ifCond .lt off, 3)) (ha : am_r a) (kt : a < 0 → am_V x M Po cs sh σ tgt lv st) (kf : ¬ a < 0 → am_V x M Po cs sh σ (pc + 3) lv st) (ht : (pc : Int) + off = (tgt : Int) := by decide) : am_V x M Po cs sh σ pc lv (Zi a :: st) := by
  intro p l e s m args below meth c g X H locs ls hP hz hS hl
  obtain ⟨hx, hb, hret, hml, hown, hts, hK, hlk, hnm, hxs⟩ := id X
  exact lv_if_lt hx hb hd ht (fun h9 => kt ((am_lt ha (by decide : am_r 0)).mp h9) p l e s m args below meth c g X H locs ls hP hz hS hl) (fun h9 => kf (fun z => h9 ((am_lt ha (by decide : am_r 0)).mpr z)) p l e s m args below meth c g X H locs ls hP hz hS hl)
theorem V_icmp_ge {a b off : Int} (tgt : Nat) (hd : decode (am_c M) pc = .ok (.if_icmp .ge off, 3)) (ha : am_r a) (hb2 : am_r b) (kt : b ≤ a → am_V x M Po cs sh σ tgt lv st) (kf : ¬ b ≤ a → am_V x M Po cs sh σ (pc + 3) lv st) (ht : (pc : Int) + off = (tgt : Int) := by decide) : am_V x M Po cs sh σ pc lv (Zi b :: Zi a :: st) := by
  intro p l e s m args below meth c g X H locs ls hP hz hS hl
  obtain ⟨hx, hb, hret, hml, hown, hts, hK, hlk, hnm, hxs⟩ := id X
  exact lv_icmp_ge hx hb hd ht (fun h9 => kt ((am_le hb2 ha).mp h9) p l e s m args below meth c g X H locs ls hP hz hS hl) (fun h9 => kf (fun z => h9 ((am_le hb2 ha).mpr z)) p l e s m args below meth c g X H locs ls hP hz hS hl)
theorem V_if_ge {a off : Int} (tgt : Nat) (hd : decode (am_c M) pc = .ok (.ifCond .ge off, 3)) (ha : am_r a) (kt : 0 ≤ a → am_V x M Po cs sh σ tgt lv st) (kf : ¬ 0 ≤ a → am_V x M Po cs sh σ (pc + 3) lv st) (ht : (pc : Int) + off = (tgt : Int) := by decide) : am_V x M Po cs sh σ pc lv (Zi a :: st) := by
  intro p l e s m args below meth c g X H locs ls hP hz hS hl
  obtain ⟨hx, hb, hret, hml, hown, hts, hK, hlk, hnm, hxs⟩ := id X
  exact lv_if_ge hx hb hd ht (fun h9 => kt ((am_le (by decide : am_r 0) ha).mp h9) p l e s m args below meth c g X H locs ls hP hz hS hl) (fun h9 => kf (fun z => h9 ((am_le (by decide : am_r 0) ha).mpr z)) p l e s m args below meth c g X H locs ls hP hz hS hl)
theorem V_icmp_gt {a b off : Int} (tgt : Nat) (hd : decode (am_c M) pc = .ok (.if_icmp .gt off, 3)) (ha : am_r a) (hb2 : am_r b) (kt : b < a → am_V x M Po cs sh σ tgt lv st) (kf : ¬ b < a → am_V x M Po cs sh σ (pc + 3) lv st) (ht : (pc : Int) + off = (tgt : Int) := by decide) : am_V x M Po cs sh σ pc lv (Zi b :: Zi a :: st) := by
  intro p l e s m args below meth c g X H locs ls hP hz hS hl
  obtain ⟨hx, hb, hret, hml, hown, hts, hK, hlk, hnm, hxs⟩ := id X
  exact lv_icmp_gt hx hb hd ht (fun h9 => kt ((am_lt hb2 ha).mp h9) p l e s m args below meth c g X H locs ls hP hz hS hl) (fun h9 => kf (fun z => h9 ((am_lt hb2 ha).mpr z)) p l e s m args below meth c g X H locs ls hP hz hS hl)
theorem V_if_gt {a off : Int} (tgt : Nat) (hd : decode (am_c M) pc = .ok (.ifCond .gt off, 3)) (ha : am_r a) (kt : 0 < a → am_V x M Po cs sh σ tgt lv st) (kf : ¬ 0 < a → am_V x M Po cs sh σ (pc + 3) lv st) (ht : (pc : Int) + off = (tgt : Int) := by decide) : am_V x M Po cs sh σ pc lv (Zi a :: st) := by
  intro p l e s m args below meth c g X H locs ls hP hz hS hl
  obtain ⟨hx, hb, hret, hml, hown, hts, hK, hlk, hnm, hxs⟩ := id X
  exact lv_if_gt hx hb hd ht (fun h9 => kt ((am_lt (by decide : am_r 0) ha).mp h9) p l e s m args below meth c g X H locs ls hP hz hS hl) (fun h9 => kf (fun z => h9 ((am_lt (by decide : am_r 0) ha).mpr z)) p l e s m args below meth c g X H locs ls hP hz hS hl)
theorem V_icmp_le {a b off : Int} (tgt : Nat) (hd : decode (am_c M) pc = .ok (.if_icmp .le off, 3)) (ha : am_r a) (hb2 : am_r b) (kt : a ≤ b → am_V x M Po cs sh σ tgt lv st) (kf : ¬ a ≤ b → am_V x M Po cs sh σ (pc + 3) lv st) (ht : (pc : Int) + off = (tgt : Int) := by decide) : am_V x M Po cs sh σ pc lv (Zi b :: Zi a :: st) := by
  intro p l e s m args below meth c g X H locs ls hP hz hS hl
  obtain ⟨hx, hb, hret, hml, hown, hts, hK, hlk, hnm, hxs⟩ := id X
  exact lv_icmp_le hx hb hd ht (fun h9 => kt ((am_le ha hb2).mp h9) p l e s m args below meth c g X H locs ls hP hz hS hl) (fun h9 => kf (fun z => h9 ((am_le ha hb2).mpr z)) p l e s m args below meth c g X H locs ls hP hz hS hl)
theorem V_if_le {a off : Int} (tgt : Nat) (hd : decode (am_c M) pc = .ok (.ifCond .le off, 3)) (ha : am_r a) (kt : a ≤ 0 → am_V x M Po cs sh σ tgt lv st) (kf : ¬ a ≤ 0 → am_V x M Po cs sh σ (pc + 3) lv st) (ht : (pc : Int) + off = (tgt : Int) := by decide) : am_V x M Po cs sh σ pc lv (Zi a :: st) := by
  intro p l e s m args below meth c g X H locs ls hP hz hS hl
  obtain ⟨hx, hb, hret, hml, hown, hts, hK, hlk, hnm, hxs⟩ := id X
  exact lv_if_le hx hb hd ht (fun h9 => kt ((am_le ha (by decide : am_r 0)).mp h9) p l e s m args below meth c g X H locs ls hP hz hS hl) (fun h9 => kf (fun z => h9 ((am_le ha (by decide : am_r 0)).mpr z)) p l e s m args below meth c g X H locs ls hP hz hS hl)
theorem V_tabOut {a dflt lo hi : Int} {offs : Array Int} {len : Nat} (tgt : Nat) (hd : decode (am_c M) pc = .ok (.tableswitch dflt lo hi offs, len)) (ha : am_r a) (h : a < lo ∨ hi < a) (k : am_V x M Po cs sh σ tgt lv st) (ht : (pc : Int) + dflt = (tgt : Int) := by decide) : am_V x M Po cs sh σ pc lv (Zi a :: st) := by
  intro p l e s m args below meth c g X H locs ls hP hz hS hl
  obtain ⟨hx, hb, hret, hml, hown, hts, hK, hlk, hnm, hxs⟩ := id X
  exact lv_tableOut hx hb hd (by rw [am_toInt ha]; exact h) ht (k p l e s m args below meth c g X H locs ls hP hz hS hl)
theorem V_tabIn {a dflt lo hi off : Int} {offs : Array Int} {len : Nat} (tgt : Nat) (hd : decode (am_c M) pc = .ok (.tableswitch dflt lo hi offs, len)) (ha : am_r a) (h1 : ¬ a < lo) (h2 : ¬ hi < a) (ho : offs[(a - lo).toNat]? = some off) (k : am_V x M Po cs sh σ tgt lv st) (ht : (pc : Int) + off = (tgt : Int) := by decide) : am_V x M Po cs sh σ pc lv (Zi a :: st) := by
  intro p l e s m args below meth c g X H locs ls hP hz hS hl
  obtain ⟨hx, hb, hret, hml, hown, hts, hK, hlk, hnm, hxs⟩ := id X
  exact lv_tableIn hx hb hd (by rw [am_toInt ha]; exact h1) (by rw [am_toInt ha]; exact h2) (by rw [am_toInt ha]; exact ho) ht (k p l e s m args below meth c g X H locs ls hP hz hS hl)
end AMS
