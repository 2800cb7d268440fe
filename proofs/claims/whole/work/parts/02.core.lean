/-! THE FLAT MACHINE: a method is walked over unbounded ints and longs, cells by their numbers; the rows of the kit are used once, in each rule's proof. -/
abbrev am_AV : Type := Int ⊕ (Int ⊕ (Nat ⊕ Unit))
abbrev Zi (z : Int) : am_AV := Sum.inl z
abbrev Zl (z : Int) : am_AV := Sum.inr (Sum.inl z)
abbrev Zr (k : Nat) : am_AV := Sum.inr (Sum.inr (Sum.inl k))
/-- a reference of which nothing is known -/
abbrev Zo : am_AV := Sum.inr (Sum.inr (Sum.inr ()))
/-- the store: ints (booleans) and longs, by cell and place -/
abbrev am_St : Type := (Nat → Nat → Int) × (Nat → Nat → Int)
/-- the shape: of each cell its kind (a class below 12; 12 int[], 13 long[], 14 boolean[], 15 int[][], 16 long[][]), its length, its references -/
abbrev am_Sh : Type := List (Nat × Nat × List (Option Nat))
/-- a method: name, bytes, locals, what it returns, its room -/
abbrev am_MT : Type := MethodName × ByteArray × Nat × Option FieldType × Room
abbrev am_c (M : am_MT) : ByteArray := M.2.1
/-- what a walk's addresses and classes are: first new cell, cells of old (0: the script, i + 1: text i, i + 8: its bytes), classes and slots, array classes, the script's length and contents -/
abbrev am_G : Type := Nat × (Nat → Nat) × va_G × ((Nat → ClassId) × Option Nat) × Nat × (Nat → Int32)
abbrev am_n0 (g : am_G) : Nat := g.1
abbrev am_D (g : am_G) : va_G := g.2.2.1
abbrev am_cy (g : am_G) : Nat → ClassId := g.2.2.2.1.1
abbrev am_fm (g : am_G) : Option Nat := g.2.2.2.1.2
def am_ad (g : am_G) (k : Nat) : Nat := if k < 1000000 then g.1 + k else g.2.1 (k - 1000000)
def am_cv (g : am_G) : am_AV → Value
  | .inl z => .int (Int32.ofInt z)
  | .inr (.inl z) => .long (Int64.ofInt z)
  | .inr (.inr (.inl k)) => .ref (am_ad g k)
  | .inr (.inr (.inr _)) => va_rf (am_fm g)
def am_fv (g : am_G) (σ : am_St) (k : Nat) (rs : List (Option Nat)) (t j : Nat) : Value :=
  if t = 0 then .int (Int32.ofInt (σ.1 k j)) else if t = 1 then .long (Int64.ofInt (σ.2 k j)) else va_rf ((rs.getD j none).map (am_ad g))
def am_rr (g : am_G) (rs : List (Option Nat)) : Nat → Option Nat := fun j => (rs.getD j none).map (am_ad g)
/-- a cell as the kit has it -/
def am_ce (g : am_G) (σ : am_St) (k : Nat) (q : Nat × Nat × List (Option Nat)) : va_E :=
  if q.1 < 12 then .inr (q.1, (am_TG.getD q.1 []).mapIdx fun j t => am_fv g σ k q.2.2 t j)
  else if q.1 = 12 then .inl (am_cy g 0, q.2.1, .inl (fun j => Int32.ofInt (σ.1 k j)))
  else if q.1 = 13 then .inl (am_cy g 1, q.2.1, .inr (.inl (fun j => Int64.ofInt (σ.2 k j))))
  else if q.1 = 14 then .inl (am_cy g 2, q.2.1, .inl (fun j => Int32.ofInt (σ.1 k j)))
  else if q.1 = 15 then .inl (am_cy g 3, q.2.1, .inr (.inr (.inr (.inr (am_rr g q.2.2)))))
  else .inl (am_cy g 4, q.2.1, .inr (.inr (.inr (.inr (am_rr g q.2.2)))))
def am_ws (g : am_G) (sh : am_Sh) (σ : am_St) : va_W := sh.mapIdx fun k q => (am_n0 g + k, am_ce g σ k q)
theorem am_ws_at {g : am_G} {sh : am_Sh} {σ : am_St} {k : Nat} {q : Nat × Nat × List (Option Nat)} (h : sh[k]? = some q) : (am_ws g sh σ)[k]? = some (am_n0 g + k, am_ce g σ k q) := by
  simp [am_ws, h]
theorem am_ws_inv {g : am_G} {sh : am_Sh} {σ : am_St} {k : Nat} {x : Nat × va_E} (h : (am_ws g sh σ)[k]? = some x) : ∃ q, sh[k]? = some q ∧ x = (am_n0 g + k, am_ce g σ k q) := by
  simp only [am_ws, List.getElem?_mapIdx, Option.map_eq_some_iff] at h
  obtain ⟨q, h1, h2⟩ := h
  exact ⟨q, h1, h2.symm⟩
def am_A (g : am_G) : Nat → Prop := fun q => am_n0 g ≤ q
theorem am_ws_D (g : am_G) (sh : am_Sh) (σ : am_St) : va_D (am_A g) (am_ws g sh σ) := by
  refine ⟨fun i j x y hx hy e => ?_, fun k x hx => ?_⟩
  · obtain ⟨q, -, rfl⟩ := am_ws_inv hx
    obtain ⟨q', -, rfl⟩ := am_ws_inv hy
    exact Nat.add_left_cancel e
  · obtain ⟨q, -, rfl⟩ := am_ws_inv hx
    exact Nat.le_add_right _ _
/-- a cell is changed: the list of cells with that place set -/
theorem am_ws_set {g : am_G} {sh : am_Sh} {σ σ' : am_St} {k : Nat} {q : Nat × Nat × List (Option Nat)} (h : sh[k]? = some q) (ho : ∀ k' q', k' ≠ k → sh[k']? = some q' → am_ce g σ' k' q' = am_ce g σ k' q') :
    (am_ws g sh σ).set k (am_n0 g + k, am_ce g σ' k q) = am_ws g sh σ' := by
  apply List.ext_getElem?
  intro i
  rw [List.getElem?_set]
  by_cases e : k = i
  · subst e
    have hl : k < (am_ws g sh σ).length := by
      have := (List.getElem?_eq_some_iff.mp h).1
      simpa [am_ws] using this
    rw [if_pos rfl, if_pos hl, am_ws_at h]
  · rw [if_neg e]
    cases hq : sh[i]? with
    | none => simp [am_ws, hq]
    | some q' => rw [am_ws_at hq, am_ws_at hq, ho i q' (fun z => e z.symm) hq]
/-- one place of the store -/
def am_up (f : Nat → Nat → Int) (k j : Nat) (v : Int) : Nat → Nat → Int := fun k' j' => if k' = k then (if j' = j then v else f k j') else f k' j'
theorem am_up_row (f : Nat → Nat → Int) (k j : Nat) (v : Int) : am_up f k j v k = fun j' => if j' = j then v else f k j' := by
  funext j'; simp [am_up]
theorem am_up_o {f : Nat → Nat → Int} {k j k' : Nat} {v : Int} (h : k' ≠ k) : am_up f k j v k' = f k' := by
  funext j'; simp [am_up, h]
theorem am_ce_o {g : am_G} {σ σ' : am_St} {k : Nat} (h1 : σ'.1 k = σ.1 k) (h2 : σ'.2 k = σ.2 k) (q : Nat × Nat × List (Option Nat)) : am_ce g σ' k q = am_ce g σ k q := by
  have e : ∀ (rs : List (Option Nat)) (t j : Nat), am_fv g σ' k rs t j = am_fv g σ k rs t j := fun rs t j => by simp [am_fv, h1, h2]
  unfold am_ce
  simp [h1, h2, e]
/-- the locals -/
def am_L (g : am_G) (ls : Array Slot) (nL : Nat) (lv : List (Option am_AV)) : Prop := ls.size = nL ∧ lv_wf ls ∧ lv.length = nL ∧ ∀ (i : Nat) (v : am_AV), lv[i]? = some (some v) → ls[i]? = some (.val (am_cv g v))
/-- the constants of old that every method's start knows: the texts, the script; links between nest mates -/
def am_X (g : am_G) (s : State) : Prop :=
  vk_S 7 am_len am_byt (fun i => g.2.1 (i + 1)) (fun i => g.2.1 (i + 8)) (am_A g) s s.heap ∧ (∀ q ∈ am_txt, vk_R "ShakePictures$Script" q.1 q.2.1 (g.2.1 (q.2.2 + 1)) s) ∧ va_X (g.2.1 0) g.2.2.2.2.1 g.2.2.2.2.2 s s.heap ∧ g.2.1 0 < am_n0 g ∧ (∀ w ∈ am_nst, va_Nw w s) ∧ (∀ ty ∈ [FieldType.int, FieldType.long], (Cond.arrayOver (.array ty)).before #[] s = true) ∧
  va_Z "java/lang/String" "COMPACT_STRINGS" "Z" (.int 1) (am_A g) s s.heap ∧ va_Z "jdk/internal/util/Preconditions" "SIOOBE_FORMATTER" "Ljava/util/function/BiFunction;" (va_rf (am_fm g)) (am_A g) s s.heap
def am_tys (g : am_G) : List (ClassId × FieldType) := [(am_cy g 0, .int), (am_cy g 1, .long), (am_cy g 2, .boolean), (am_cy g 3, .array .int), (am_cy g 4, .array .long)]
def am_K (g : am_G) (s : State) : Prop := va_K (am_D g) am_cl (am_tys g) s ∧ am_n0 g ≤ s.heap.size ∧ am_X g s
/-- the script: its length and its ints -/
abbrev am_Sc : Type := Nat × (Nat → Int32)
def am_CX (x : am_Sc) (M : am_MT) (g : am_G) (p : Program) (s : State) (m : MethodId) (args : Array Value) (meth : Method) (c : Code) : Prop :=
  p.tables.exec = Jvm.exec ∧ c.code = am_c M ∧ meth.sig.returnType = M.2.2.2.1 ∧ c.maxLocals = M.2.2.1 ∧ s.vm.findClass M.1.cls = some m.cls ∧ (∀ w ∈ am_tbl, w.before args s = true) ∧ am_K g s ∧ meth.locks = false ∧ meth.name = M.1.name ∧ g.2.2.2.2 = x
/-- a method's end -/
def am_Q (g : am_G) (Po : Option am_AV → am_Sh → am_St → Prop) : Array Value → State → Outcome → State → Prop := fun _ st o t =>
  (∃ (r : Option am_AV) (sh : am_Sh) (σ : am_St), o = .returned (r.map (am_cv g)) ∧ Po r sh σ ∧ va_P (am_D g) am_cl (am_ws g sh σ) t.heap ∧ t.heap.size = am_n0 g + sh.length) ∧ va_F (am_A g) st t
/-- FROM HERE the method comes to an end with Po: at pc, with locals lv and stack st, over the cells sh, σ; so many cells and slots made so far -/
def am_V (x : am_Sc) (M : am_MT) (Po : Option am_AV → am_Sh → am_St → Prop) (cs : Nat × Nat) (sh : am_Sh) (σ : am_St) (pc : Nat) (lv : List (Option am_AV)) (st : List am_AV) : Prop :=
  ∀ (p : Program) (l : Launch) (e : Env) (s : State) (m : MethodId) (args : Array Value) (below : List Frame) (meth : Method) (c : Code) (g : am_G), am_CX x M g p s m args meth c →
    ∀ (H : Heap) (locs : List Loc) (ls : Array Slot), va_P (am_D g) am_cl (am_ws g sh σ) H → s.heap.size + cs.1 = am_n0 g + sh.length → va_S (am_A g) s.heap H locs → am_L g ls M.2.2.1 lv →
      W p l e M.2.2.2.2 s m args below meth c H locs cs.1 cs.2 (MQ below (am_Q g Po) args s M.2.2.2.2.cells M.2.2.2.2.slots (am_A g)) (F0 m pc ls (st.map (am_cv g)))
