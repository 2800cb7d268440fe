/-! THE CLAIM OUT OF ONE WALK OF THE LAW'S BODY. Your part is whole_start (and what it stands on); all else here is the same for every law, but numbers. -/
def R_law : String := "ShakePicturesLaw"
def lw_P (b : Addr) (xs : List Int32) (args : Array Value) (s : State) : Prop := args = #[.ref b] ∧ s.IntsAt b xs ∧ xs.length ≤ 3072 ∧ (Jvm.Cond.and given_1 narrow_1).before args s = true
def lw_Q (_ : Array Value) (s : State) (o : Outcome) (t : State) : Prop := o = .returned (some (.int 1)) ∧ Framed s o t [] 600000 7302250
def lw_Z (below : List Frame) (a : Array Value) (s : State) : State → Prop := fun t => ∃ o, t.status = .running ∧ Ended t below o ∧ lw_Q a s o t
/-- the law's own end, with 1 on the stack, nothing written that was there before, its room as the claim has it -/
theorem lw_ret {p : Program} {l : Launch} {e : Env} {s : State} {m : MethodId} {below : List Frame} {meth : Method} {c : Code} {b : Nat} (hx : p.tables.exec = Jvm.exec) (hb : c.code = code) (hr : meth.sig.returnType = ret) (hlocks : meth.locks = false) {pc : Nat} {H : Heap} {ls : Array Slot} (hdg : decode code pc = .ok (.ireturn, 1)) : W p l e room_1 s m #[Value.ref b] below meth c H [] 600000 7302250 (lw_Z below #[Value.ref b] s) (F0 m pc ls [.int 1]) := by
  intro T hT X
  obtain ⟨fs, hret, hrun, hended, hW, hframe⟩ := X.leave (v := some (.int 1)) (hlocks := hlocks) (fun h => by rw [hr] at h; cases h)
  have hmeth' : T.vm.method? m = some meth := X.method'
  refine ⟨T.setFrames fs, ?_, .returned (some (.int 1)), hrun, hended, rfl, ⟨_, rfl⟩, hW, hframe⟩
  jvm_step X.here [X.here.top, hx, hb, hdg, hmeth', hr, ret, narrow_b1]
  (try refine ⟨rfl, ?_⟩); (try refine ⟨rfl, ?_⟩)
  first | (intro acts; rw [hret _ acts rfl rfl rfl]) | rw [hret _ _ rfl rfl rfl]
  exact Steps.refl _
/-- what holds at the law's entry: the machine, the code, the tables' words (any of lw_tbl by 'hts w (by decide +kernel)'), the script of L ints xs at the cell b, what the Statement gives of the start (any of its parts by flat_of_before) -/
def lw_At (p : Program) (s : State) (m : MethodId) (meth : Method) (c : Code) (b L : Nat) (xs : Nat → Int32) : Prop :=
  p.tables.exec = Jvm.exec ∧ c.code = code ∧ meth.sig.returnType = ret ∧ c.maxLocals = 4 ∧ s.vm.findClass R_law = some m.cls ∧ (∀ w ∈ lw_tbl, w.before #[Value.ref b] s = true) ∧ va_X b L xs s s.heap ∧ b < s.heap.size ∧ meth.locks = false ∧ (Jvm.Cond.and given_1 narrow_1).before #[Value.ref b] s = true ∧ meth.name = "law"
/-- the main part -/
def law_mainP : Prop := ∀ (x : am_Sc), x.1 ≤ 3072 → ∀ τ, am_layP 4 3 (am_up am_zero.1 1 1 17, am_zero.2) τ → am_UL x m_La_law (fun r _ _ => r = some (Zi 1)) (am_S0 τ) 18 [some (Zr 1000000), some (Zr 0), some (Zr 147), some (Zi 0)] []
theorem law_main : law_mainP := fun x hL τ hl => law_loop hL x.1 0 4 3 am_s0 (am_S0 τ) (by omega) (am_s0_R hl).1 (am_s0_R hl).2 am_s0_OK (by decide)
def st_tm (i : Nat) : Term := .string "ShakePictures$Script" ([92, 94, 96, 98, 100, 108, 110].getD i 0)
theorem st_strs {args : Array Value} {s : State} {A : Nat → Prop} (hts : ∀ w ∈ tables_1, w.before args s = true) (h : (Jvm.Cond.and given_1 narrow_1).before args s = true) (hA : ∀ a : Nat, a < s.heap.size → ¬ A a) :
    ∃ adK adV : Nat → Nat, vk_S 7 am_len am_byt adK adV A s s.heap ∧ ∀ q ∈ am_txt, vk_R "ShakePictures$Script" q.1 q.2.1 (adK q.2.2) s := by
  have hs := flat_of_before _ h
  suffices hh : ∃ adK adV : Nat → Nat, vk_S 7 am_len am_byt adK adV A s s.heap ∧ ∀ i : Nat, i < 7 → (st_tm i).eval args s none [] s = some (.ref (adK i)) by
    obtain ⟨adK, adV, h1, h2⟩ := hh
    refine ⟨adK, adV, h1, fun q hq => ?_⟩
    simp only [am_txt, List.mem_cons, List.not_mem_nil, or_false] at hq
    rcases hq with rfl | rfl | rfl | rfl | rfl | rfl | rfl
    · exact vk_R.of (A := args) (hts _ (List.mem_of_getElem? (i := 962) (by decide +kernel))) (h2 0 (by decide))
    · exact vk_R.of (A := args) (hts _ (List.mem_of_getElem? (i := 963) (by decide +kernel))) (h2 1 (by decide))
    · exact vk_R.of (A := args) (hts _ (List.mem_of_getElem? (i := 964) (by decide +kernel))) (h2 2 (by decide))
    · exact vk_R.of (A := args) (hts _ (List.mem_of_getElem? (i := 965) (by decide +kernel))) (h2 3 (by decide))
    · exact vk_R.of (A := args) (hts _ (List.mem_of_getElem? (i := 966) (by decide +kernel))) (h2 4 (by decide))
    · exact vk_R.of (A := args) (hts _ (List.mem_of_getElem? (i := 1035) (by decide +kernel))) (h2 5 (by decide))
    · exact vk_R.of (A := args) (hts _ (List.mem_of_getElem? (i := 1036) (by decide +kernel))) (h2 6 (by decide))
  refine vk_Sof (args := args) (s := s) (N := 7) (tm := st_tm) (len := am_len) (byt := am_byt) (A := A) (by decide) ?_ ?_ ?_ ?_ ?_ ?_ hA
  · intro i hi
    rcases (show i = 0 ∨ i = 1 ∨ i = 2 ∨ i = 3 ∨ i = 4 ∨ i = 5 ∨ i = 6 by omega) with rfl | rfl | rfl | rfl | rfl | rfl | rfl
    · exact hs _ (by decide +kernel)
    · exact hs _ (by decide +kernel)
    · exact hs _ (by decide +kernel)
    · exact hs _ (by decide +kernel)
    · exact hs _ (by decide +kernel)
    · exact hs _ (by decide +kernel)
    · exact hs _ (by decide +kernel)
  · intro i hi
    rcases (show i = 0 ∨ i = 1 ∨ i = 2 ∨ i = 3 ∨ i = 4 ∨ i = 5 ∨ i = 6 by omega) with rfl | rfl | rfl | rfl | rfl | rfl | rfl
    · exact hs _ (by decide +kernel)
    · exact hs _ (by decide +kernel)
    · exact hs _ (by decide +kernel)
    · exact hs _ (by decide +kernel)
    · exact hs _ (by decide +kernel)
    · exact hs _ (by decide +kernel)
    · exact hs _ (by decide +kernel)
  · intro i hi
    rcases (show i = 0 ∨ i = 1 ∨ i = 2 ∨ i = 3 ∨ i = 4 ∨ i = 5 ∨ i = 6 by omega) with rfl | rfl | rfl | rfl | rfl | rfl | rfl
    · exact hs _ (by decide +kernel)
    · exact hs _ (by decide +kernel)
    · exact hs _ (by decide +kernel)
    · exact hs _ (by decide +kernel)
    · exact hs _ (by decide +kernel)
    · exact hs _ (by decide +kernel)
    · exact hs _ (by decide +kernel)
  · intro i hi
    rcases (show i = 0 ∨ i = 1 ∨ i = 2 ∨ i = 3 ∨ i = 4 ∨ i = 5 ∨ i = 6 by omega) with rfl | rfl | rfl | rfl | rfl | rfl | rfl
    · exact hs _ (by decide +kernel)
    · exact hs _ (by decide +kernel)
    · exact hs _ (by decide +kernel)
    · exact hs _ (by decide +kernel)
    · exact hs _ (by decide +kernel)
    · exact hs _ (by decide +kernel)
    · exact hs _ (by decide +kernel)
  · intro i hi
    rcases (show i = 0 ∨ i = 1 ∨ i = 2 ∨ i = 3 ∨ i = 4 ∨ i = 5 ∨ i = 6 by omega) with rfl | rfl | rfl | rfl | rfl | rfl | rfl
    · intro j hj
      have hj : j < 4 := hj
      rcases (show j = 0 ∨ j = 1 ∨ j = 2 ∨ j = 3 by omega) with rfl | rfl | rfl | rfl <;> exact hs _ (by decide +kernel)
    · intro j hj
      have hj : j < 3 := hj
      rcases (show j = 0 ∨ j = 1 ∨ j = 2 by omega) with rfl | rfl | rfl <;> exact hs _ (by decide +kernel)
    · intro j hj
      have hj : j < 4 := hj
      rcases (show j = 0 ∨ j = 1 ∨ j = 2 ∨ j = 3 by omega) with rfl | rfl | rfl | rfl <;> exact hs _ (by decide +kernel)
    · intro j hj
      have hj : j < 5 := hj
      rcases (show j = 0 ∨ j = 1 ∨ j = 2 ∨ j = 3 ∨ j = 4 by omega) with rfl | rfl | rfl | rfl | rfl <;> exact hs _ (by decide +kernel)
    · intro j hj
      have hj : j < 5 := hj
      rcases (show j = 0 ∨ j = 1 ∨ j = 2 ∨ j = 3 ∨ j = 4 by omega) with rfl | rfl | rfl | rfl | rfl <;> exact hs _ (by decide +kernel)
    · intro j hj
      have hj : j < 2 := hj
      rcases (show j = 0 ∨ j = 1 by omega) with rfl | rfl <;> exact hs _ (by decide +kernel)
    · intro j hj
      have hj : j < 3 := hj
      rcases (show j = 0 ∨ j = 1 ∨ j = 2 by omega) with rfl | rfl | rfl <;> exact hs _ (by decide +kernel)
  · intro i j hi hj hij
    rcases (show i = 0 ∨ i = 1 ∨ i = 2 ∨ i = 3 ∨ i = 4 ∨ i = 5 ∨ i = 6 by omega) with rfl | rfl | rfl | rfl | rfl | rfl | rfl <;> rcases (show j = 0 ∨ j = 1 ∨ j = 2 ∨ j = 3 ∨ j = 4 ∨ j = 5 ∨ j = 6 by omega) with rfl | rfl | rfl | rfl | rfl | rfl | rfl <;> first | exact absurd rfl hij | exact Or.inl (hs _ (by decide +kernel)) | exact Or.inr (hs _ (by decide +kernel))
theorem st_arr {args : Array Value} {s : State} {ty : FieldType} (h : (Cond.arrayClass ty).before args s = true) (hty : ty = .int ∨ ty = .long ∨ ty = .boolean) : ∃ cA, ArrOfT s cA ty ∧ va_RA s cA ty := by
  obtain ⟨c, k, comp, h1, h2, h3⟩ := Cond.arrayClass_spec h
  refine ⟨c, fun n z => ⟨fun k h => (by cases h), k, h2, comp, h3⟩, ?_⟩
  rcases hty with rfl | rfl | rfl <;> exact h1
theorem st_over {args : Array Value} {s : State} {ty : FieldType} (h : (Cond.arrayOver (.array ty)).before args s = true) : ∃ cA, ArrOfT s cA (.array ty) ∧ va_RA s cA (.array ty) := by
  obtain ⟨comp, c, k, h1, h2, h3, h4, h5⟩ := Jvm.Stand.arrayOver_specB h
  exact ⟨c, fun n z => ⟨fun k h => (by cases h), k, h3, comp, h4⟩, h5⟩
set_option maxRecDepth 100000 in
set_option maxHeartbeats 4000000 in
theorem whole_start_open (hmain : law_mainP) {p : Program} {e : Env} {s : State} {m : MethodId} {below : List Frame} {meth : Method} {c : Code} (l : Launch) {b L : Nat} {xs : Nat → Int32} (hL : L ≤ 3072) (C0 : lw_At p s m meth c b L xs) : W p l e room_1 s m #[Value.ref b] below meth c s.heap [] 0 0 (lw_Z below #[Value.ref b] s) (entryFrame m ([Value.ref b] : List Value).toArray 4) := by
  obtain ⟨hx, hb, hr, hml, hown, hts, hX, hbl, hlocks, hgv, hnm⟩ := id C0
  have hT1 : ∀ w ∈ tables_1, w.before #[Value.ref b] s = true := fun w hw => hts w (List.mem_append_right _ hw)
  have hT : ∀ {w : Cond} (i : Nat), tables_1[i]? = some w → w.before #[Value.ref b] s = true := fun i h => hT1 _ (List.mem_of_getElem? h)
  have hta : ∀ w ∈ am_tbl, w.before #[Value.ref b] s = true := fun w hw => hts w (List.mem_filter.mp hw).1
  have hA : ∀ a : Nat, a < s.heap.size → ¬ (fun q : Nat => s.heap.size ≤ q) a := fun a h => Nat.not_le.mpr h
  obtain ⟨c0, iS0, hKn0⟩ := u_known (C := am_RGr) (T := am_TGr) (N := 9) (n := 9) hta am_wGr (hT 30 (by decide +kernel))
  obtain ⟨c1, iS1, hKn1⟩ := u_known (C := am_RBo) (T := am_TBo) (N := 16) (n := 16) hta am_wBo (hT 87 (by decide +kernel))
  obtain ⟨c2, iS2, hKn2⟩ := u_known (C := am_RFt) (T := am_TFt) (N := 9) (n := 9) hta am_wFt (hT 200 (by decide +kernel))
  obtain ⟨c3, iS3, hKn3⟩ := u_known (C := am_RRa) (T := am_TRa) (N := 5) (n := 5) hta am_wRa (hT 171 (by decide +kernel))
  obtain ⟨c4, iS4, hKn4⟩ := u_known (C := am_RPr) (T := am_TPr) (N := 7) (n := 7) hta am_wPr (hT 235 (by decide +kernel))
  obtain ⟨c5, iS5, hKn5⟩ := u_known (C := am_RBa) (T := am_TBa) (N := 4) (n := 4) hta am_wBa (hT 271 (by decide +kernel))
  obtain ⟨c6, iS6, hKn6⟩ := u_known (C := am_RRe) (T := am_TRe) (N := 8) (n := 8) hta am_wRe (hT 265 (by decide +kernel))
  obtain ⟨c7, iS7, hKn7⟩ := u_known (C := am_RFi) (T := am_TFi) (N := 7) (n := 7) hta am_wFi (hT 323 (by decide +kernel))
  obtain ⟨c8, iS8, hKn8⟩ := u_known (C := am_RSc) (T := am_TSc) (N := 12) (n := 12) hta am_wSc (hT 353 (by decide +kernel))
  obtain ⟨c9, iS9, hKn9⟩ := u_known (C := am_RMe) (T := am_TMe) (N := 6) (n := 6) hta am_wMe (hT 401 (by decide +kernel))
  obtain ⟨c10, iS10, hKn10⟩ := u_known (C := am_RSp) (T := am_TSp) (N := 9) (n := 9) hta am_wSp (hT 22 (by decide +kernel))
  obtain ⟨c11, iS11, hKn11⟩ := u_known (C := am_RMo) (T := am_TMo) (N := 51) (n := 51) hta am_wMo (hT 1052 (by decide +kernel))
  obtain ⟨a0, ha0⟩ := st_arr (ty := .int) (hT 78 (by decide +kernel)) (Or.inl rfl)
  obtain ⟨a1, ha1⟩ := st_arr (ty := .long) (hT 293 (by decide +kernel)) (Or.inr (Or.inl rfl))
  obtain ⟨a2, ha2⟩ := st_arr (ty := .boolean) (hT 292 (by decide +kernel)) (Or.inr (Or.inr rfl))
  have ho1 : (Cond.arrayOver (.array .int)).before #[Value.ref b] s = true := (hT 177 (by decide +kernel))
  have ho2 : (Cond.arrayOver (.array .long)).before #[Value.ref b] s = true := (hT 277 (by decide +kernel))
  obtain ⟨a3, ha3⟩ := st_over ho1
  obtain ⟨a4, ha4⟩ := st_over ho2
  obtain ⟨adK, adV, hS1, hS2⟩ := st_strs (A := fun q : Nat => s.heap.size ≤ q) hT1 hgv hA
  have hs := flat_of_before _ hgv
  have hZ1 : va_Z "java/lang/String" "COMPACT_STRINGS" "Z" (.int 1) (fun q : Nat => s.heap.size ≤ q) s s.heap := va_Zof (hT 980 (by decide +kernel)) (hT 17 (by decide +kernel)) (va_eqi (hs _ (by decide +kernel))) hA
  obtain ⟨fm, hZ2⟩ : ∃ fm : Option Nat, va_Z "jdk/internal/util/Preconditions" "SIOOBE_FORMATTER" "Ljava/util/function/BiFunction;" (va_rf fm) (fun q : Nat => s.heap.size ≤ q) s s.heap := by
    rcases va_Zqof (A := fun q : Nat => s.heap.size ≤ q) (hT 996 (by decide +kernel)) (hT 19 (by decide +kernel)) (hs (.isRef (.static "jdk/internal/util/Preconditions" "SIOOBE_FORMATTER" "Ljava/util/function/BiFunction;")) (by decide +kernel)) hA with h | ⟨t, h⟩
    · exact ⟨none, h⟩
    · exact ⟨some t, h⟩
  let g : am_G := (s.heap.size, (fun k => if k = 0 then b else if k < 8 then adK (k - 1) else adV (k - 8)), ((fun k => if k = 0 then c0 else if k = 1 then c1 else if k = 2 then c2 else if k = 3 then c3 else if k = 4 then c4 else if k = 5 then c5 else if k = 6 then c6 else if k = 7 then c7 else if k = 8 then c8 else if k = 9 then c9 else if k = 10 then c10 else c11), (fun k => if k = 0 then iS0 else if k = 1 then iS1 else if k = 2 then iS2 else if k = 3 then iS3 else if k = 4 then iS4 else if k = 5 then iS5 else if k = 6 then iS6 else if k = 7 then iS7 else if k = 8 then iS8 else if k = 9 then iS9 else if k = 10 then iS10 else iS11)), ((fun k => if k = 0 then a0 else if k = 1 then a1 else if k = 2 then a2 else if k = 3 then a3 else a4), fm), L, xs)
  have hKc : va_K (am_D g) am_cl (am_tys g) s := by
    refine ⟨fun k q hq => ?_, fun k q hq => ?_⟩
    · match k, hq with
      | 0, hq => cases hq; exact hKn0
      | 1, hq => cases hq; exact hKn1
      | 2, hq => cases hq; exact hKn2
      | 3, hq => cases hq; exact hKn3
      | 4, hq => cases hq; exact hKn4
      | 5, hq => cases hq; exact hKn5
      | 6, hq => cases hq; exact hKn6
      | 7, hq => cases hq; exact hKn7
      | 8, hq => cases hq; exact hKn8
      | 9, hq => cases hq; exact hKn9
      | 10, hq => cases hq; exact hKn10
      | 11, hq => cases hq; exact hKn11
      | k + 12, hq => simp at hq
    · match k, hq with
      | 0, hq => cases hq; exact ha0
      | 1, hq => cases hq; exact ha1
      | 2, hq => cases hq; exact ha2
      | 3, hq => cases hq; exact ha3
      | 4, hq => cases hq; exact ha4
      | k + 5, hq => simp [am_tys] at hq
  have eK : ∀ i, i < 7 → g.2.1 (i + 1) = adK i := fun i hi => by
    show (if i + 1 = 0 then b else if i + 1 < 8 then adK (i + 1 - 1) else adV (i + 1 - 8)) = adK i
    rw [if_neg (by omega), if_pos (by omega), Nat.add_sub_cancel]
  have eV : ∀ i, i < 7 → g.2.1 (i + 8) = adV i := fun i hi => by
    show (if i + 8 = 0 then b else if i + 8 < 8 then adK (i + 8 - 1) else adV (i + 8 - 8)) = adV i
    rw [if_neg (by omega), if_neg (by omega), Nat.add_sub_cancel]
  have hXX : am_X g s := by
    refine ⟨⟨fun i hi => ?_, fun i j hi hj e9 => ?_⟩, fun q hq => ?_, hX, hbl, fun w hw => ?_, fun ty hty => ?_, hZ1, hZ2⟩
    · show va_O _ (g.2.1 (i + 1)) _ _ _ ∧ va_OF _ _ _ _ (g.2.1 (i + 1)) _ _ _ ∧ va_OF _ _ _ (.ref (g.2.1 (i + 8))) (g.2.1 (i + 1)) _ _ _ ∧ va_T _ (g.2.1 (i + 8)) _ _ _ _ _
      rw [eK i hi, eV i hi]
      exact hS1.1 i hi
    · have e9 : g.2.1 (i + 1) = g.2.1 (j + 1) := e9
      rw [eK i hi, eK j hj] at e9
      exact hS1.2 i j hi hj e9
    · have h7 : q.2.2 < 7 := by
        simp only [am_txt, List.mem_cons, List.not_mem_nil, or_false] at hq
        rcases hq with rfl | rfl | rfl | rfl | rfl | rfl | rfl <;> decide
      rw [eK _ h7]
      exact hS2 q hq
    · simp only [am_nst, List.mem_cons, List.not_mem_nil, or_false] at hw
      rcases hw with rfl | rfl | rfl | rfl
      · exact va_Nw.of rfl (hT 31 (by decide +kernel))
      · exact va_Nw.of rfl (hT 88 (by decide +kernel))
      · exact va_Nw.of rfl (hT 272 (by decide +kernel))
      · exact va_Nw.of rfl (hT 714 (by decide +kernel))
    · simp only [List.mem_cons, List.not_mem_nil, or_false] at hty
      rcases hty with rfl | rfl
      · exact am_ao (Vm.Alike.refl _) ho1
      · exact am_ao (Vm.Alike.refl _) ho2
  have CX : am_CX (L, xs) m_La_law g p s m #[Value.ref b] meth c := ⟨hx, hb, hr, hml, hown, hta, ⟨hKc, Nat.le_refl _, hXX⟩, hlocks, hnm, rfl⟩
  have V0 := law_start (x := (L, xs)) (Po := fun r _ _ => r = some (Zi 1)) (fun τ ht => hmain (L, xs) hL τ ht)
  have e0 : ([Value.ref b] : List Value) = ([Zr 1000000] : List am_AV).map (am_cv g) := rfl
  have hle : am_L g ((lg_sl ([Value.ref b] : List Value) ++ List.replicate (4 - (lg_sl ([Value.ref b] : List Value)).length) Slot.unset).toArray) 4 [some (Zr 1000000), none, none, none] := am_L_ent g (vs := [Zr 1000000]) (n := 4) (by decide)
  have W0 := V0 p l e s m #[Value.ref b] below meth c g CX s.heap [] _ (fun k q hq => by simp [am_ws] at hq) (by show s.heap.size + 0 = s.heap.size + 0; rfl) va_S.rf hle
  rw [lg_entry_eq]
  intro T hTh XT
  obtain ⟨t, st1, o, hrun, hend, ⟨⟨r, sh', σ', ho, hpo, -, -⟩, -⟩, Lc, hF, hLc⟩ := W0 T hTh XT
  refine ⟨t, st1, o, hrun, hend, ?_, hF.1, hF.2.1, ?_⟩
  · rw [ho, hpo]; rfl
  · exact hF.2.2.weaken (fun y hy hlt => absurd hlt (Nat.not_lt.mpr (hLc y hy))) (Nat.le_refl _) (Nat.le_refl _)
theorem whole_start {p : Program} {e : Env} {s : State} {m : MethodId} {below : List Frame} {meth : Method} {c : Code} (l : Launch) {b L : Nat} {xs : Nat → Int32} (hL : L ≤ 3072) (C0 : lw_At p s m meth c b L xs) : W p l e room_1 s m #[Value.ref b] below meth c s.heap [] 0 0 (lw_Z below #[Value.ref b] s) (entryFrame m ([Value.ref b] : List Value).toArray 4) := whole_start_open law_main l hL C0
-- ===== YOUR PART ENDS =====
set_option maxHeartbeats 4000000 in
theorem lw_walk (l : Launch) (b : Addr) (xs : List Int32) : MetFree l x (headSpec (Jvm.Cond.code x code maxLocals ret :: tables_1) room_1) (lw_P b xs) (fun _ _ _ _ _ => True) lw_Q := by
  refine MetFree.of_bodyS (code := code) (maxLocals := maxLocals) (ret := ret) (by decide) ?_ ?_
  · intro args s m h hn
    obtain ⟨meth, c, h1, h2, h3, h4, h5, h6, -, -⟩ := Cond.code_spec hn (atoms_spec (ws := Jvm.Cond.code x code maxLocals ret :: tables_1) h _ List.mem_cons_self)
    exact ⟨meth, c, h1, h2, h3, h4, h5, h6⟩
  · intro p e s m args below meth c s₁ B hml0 hP _
    obtain ⟨rfl, hx, hbd, hgv⟩ := hP
    obtain ⟨scr, harrAt, hlist, hof, hsmall⟩ := hx
    obtain ⟨hcb, hkn, -, -⟩ := State.arrayAt?_spec harrAt
    have hown : s.vm.findClass R_law = some m.cls := findClass_of_methodNamed B.named
    have hts0 : ∀ c ∈ (Jvm.Cond.code x code maxLocals ret :: tables_1), c.before #[Value.ref b] s = true := atoms_spec (ws := Jvm.Cond.code x code maxLocals ret :: tables_1) B.pre
    have hts : ∀ w ∈ lw_tbl, w.before #[Value.ref b] s = true := k2_hts_sels lw_privs (fun w hw => hts0 w (List.mem_cons_of_mem _ hw)) lw_privs_ok
    have hml : c.maxLocals = 4 := B.maxLocals_eq (hts0 _ List.mem_cons_self)
    have X₀ : Stand p l e room_1 s m #[Value.ref b] below meth c s₁ [] 0 0 := Stand.of_body B
    have hh0 : s₁.heap = s.heap := by rw [B.state]; rfl
    have hsz : scr.slots.size = xs.length := by rw [← Array.length_toList, hlist, List.length_map]
    have hval : ∀ j : Nat, j < xs.length → scr.slots[j]? = some (.int (xs.getD j 0)) := fun j hj => by
      rw [← Array.getElem?_toList, hlist]
      simp [hj]
    have hbl : b < s.heap.size := (Array.getElem?_eq_some_iff.mp hcb).1
    have hX : va_X b xs.length (fun j => xs.getD j 0) s s.heap := ⟨scr, hcb, hof, hkn, hsz, hval⟩
    have K : W p l e room_1 s m #[Value.ref b] below meth c s₁.heap [] 0 0 (lw_Z below #[Value.ref b] s) (entryFrame m ([Value.ref b] : List Value).toArray 4) := by
      rw [hh0]
      exact whole_start l hbd ⟨B.exec, B.bytes, B.returns, hml, hown, hts, hX, hbl, B.notSynchronized, hgv, (name_of_methodNamed B.named B.method).1⟩
    obtain ⟨t, a1, o, b1, b2, b3⟩ := K s₁ rfl X₀
    exact ⟨t, o, a1, b1, b2, b3⟩
theorem lw_pre_spec {args : Array Value} {s : State} (h : (Jvm.Cond.and given_1 narrow_1).before args s = true) (hr : rest_1_c.before args s = true) : ∃ (b : Addr) (xs : List Int32), lw_P b xs args s := by
  have hs := flat_of_before _ h
  have hq := flat_of_before _ hr
  have hc : (Cond.count 1).before args s = true := hs _ (by decide +kernel)
  have harr : (Cond.arrayOf (.arg 0) .int).before args s = true := hs _ (by decide +kernel)
  have hle : (Cond.le (.length (.arg 0)) (.int 3072)).before args s = true := hs _ (by decide +kernel)
  have hlen : (Cond.isInt (.length (.arg 0))).before args s = true := hq _ (by decide +kernel)
  have hall : (Cond.all (.arg 0) (.isInt (.elem (.arg 0) (.index 0)))).before args s = true := hq _ (by decide +kernel)
  obtain ⟨b, xs, hb, hx⟩ := State.ints_of_pre rfl harr hlen hall
  have hsm : xs.length < 2 ^ 31 := hx.choose_spec.2.2.2
  have hev : (Term.length (.arg 0)).eval args s none [] s = some (.int xs.length.toInt32) := hx.length_eval hb
  have hv := Cond.le_ints hev (show (Term.int 3072).eval args s none [] s = some (.int 3072) from rfl)
  have hd : xs.length.toInt32 ≤ 3072 := by
    simpa [Cond.before, Cond.holds, hv] using hle
  have hN : xs.length ≤ 3072 := (Int32.ofNat_le_ofNat hsm (by decide)).mp (show Int32.ofNat xs.length ≤ Int32.ofNat 3072 from hd)
  exact ⟨b, xs, Cond.one_arg hc (show args[0]? = some (.ref b) from hb), hx, hN, h⟩
theorem lw_comes (l : Launch) : Comes l x (Jvm.Cond.code x code maxLocals ret :: tables_1) room_1 (fun tb e args s => Calls_1 tb e args s ∧ rest_1 tb e args s ∧ Pre_1 tb e args s)
    (fun _ _ args s o t => lw_Q args s o t) := by
  intro p e ha hc hk s m args below hf hfit hheap happ hpre
  obtain ⟨b, xs, hP⟩ := lw_pre_spec hpre.2.2 hpre.2.1
  obtain ⟨k, o, h1, h2, h3, hQ⟩ := lw_walk l b xs p e ha hc hk s m args below hf ((Spec.applies_iff_loose hf).mp happ).1 hP trivial
  exact ⟨k, o, h1, h2, h3, hQ⟩
theorem lw_frame {s t : State} {o : Outcome} {args : Array Value} (h : Framed s o t [] 600000 7302250) :
    Framed s o t (fieldLocs frame_1_writes args s ++ arrayLocs frame_1_arrays args s ++ staticLocs frame_1_statics s) 600000 7302250 := h
theorem lw_limb (L : Cond) (hL : ∀ (args : Array Value) (s t : State), L.after args s (.returned (some (.int 1))) t = true) :
    ArmFor flags0 classFile x code maxLocals ret World_1 tables_1 room_1 Calls_1 rest_1 Pre_1
      (fun tb e a s o t => postC L tb e a s o t ∧ Framed s o t (fieldLocs frame_1_writes a s ++ arrayLocs frame_1_arrays a s ++ staticLocs frame_1_statics s) 600000 7302250) := by
  intro l _ _ _ p e ha hc hk s m args below hf hfit hheap happ hpre
  obtain ⟨k, o, h1, h2, h3, rfl, hF⟩ := lw_comes l p e ha hc hk s m args below hf hfit hheap happ hpre
  exact ⟨k, _, h1, h2, h3, hL args s _, lw_frame hF⟩
theorem i_vc : Claimed_1_1 ∧ Claimed_1_2 := ⟨lw_limb limb_1_1 (fun args s t => by simp [limb_1_1, Cond.after, Cond.holds, Cond.value]), lw_limb limb_1_2 (fun args s t => Cond.after_iff.mpr (by
  first | (rw [show limb_1_2 = Cond.eq .result (.int 1) from rfl, Cond.eq_ints (x := 1) (y := 1) rfl rfl]; simp; done) | (simp [limb_1_2, Cond.value, Term.eval]; done)))⟩
