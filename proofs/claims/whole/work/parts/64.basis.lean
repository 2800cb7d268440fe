/-! ===== a basis, each row alone in having its own column ===== -/
theorem am_remL_nn {a b : Int} (ha : am_rl a) (hb : am_rl b) (h0 : 0 ≤ a) : am_remL a b = a % b := by
  unfold am_remL
  rw [_root_.Jvm.Kit.i64_rem_nonneg (by rw [am_toIntL ha]; exact h0), am_toIntL ha, am_toIntL hb]
theorem am_remL_t {a b : Int} (ha : am_rl a) (hb : am_rl b) : am_remL a b = a.tmod b := by
  unfold am_remL
  rw [_root_.Jvm.Kit.i64_rem, am_toIntL ha, am_toIntL hb]
theorem am_i2l_id {a : Int} (ha : am_r a) : am_i2l a = a := by
  unfold am_i2l
  rw [Int32.toInt_toInt64, am_toInt ha]
theorem am_cmp0 {a : Int} : am_r (am_cmp a 0) ∧ (am_cmp a 0 = 0 ↔ a = 0) ∧ (0 ≤ am_cmp a 0 ↔ 0 ≤ a) ∧ (am_cmp a 0 ≤ 0 ↔ a ≤ 0) := by
  unfold am_cmp
  by_cases q : 0 < a
  · rw [if_pos q]; refine ⟨by decide, ?_, ?_, ?_⟩ <;> constructor <;> omega
  · rw [if_neg q]
    by_cases q2 : a = 0
    · rw [if_pos q2]; refine ⟨by decide, ?_, ?_, ?_⟩ <;> constructor <;> omega
    · rw [if_neg q2]; refine ⟨by decide, ?_, ?_, ?_⟩ <;> constructor <;> omega
theorem am_xorL_s {a b : Int} (ha : am_rl a) (hb : 0 < b ∧ b < 9223372036854775808) : am_rl (am_xorL a b) ∧ (0 ≤ am_xorL a b ↔ 0 ≤ a) := by
  have r1 := Int64.toInt_lt (Int64.ofInt a ^^^ Int64.ofInt b)
  have r2 := Int64.le_toInt (Int64.ofInt a ^^^ Int64.ofInt b)
  have e1 : (Int64.ofInt a ^^^ Int64.ofInt b).toBitVec.msb = ((Int64.ofInt a).toBitVec.msb ^^ (Int64.ofInt b).toBitVec.msb) := by rw [Int64.toBitVec_xor, BitVec.msb_xor]
  rw [BitVec.msb_eq_toInt, BitVec.msb_eq_toInt, BitVec.msb_eq_toInt] at e1
  have ea : (Int64.ofInt a).toBitVec.toInt = a := am_toIntL ha
  have eb : (Int64.ofInt b).toBitVec.toInt = b := am_toIntL ⟨by omega, by omega⟩
  rw [ea, eb, decide_eq_false (p := b < 0) (by omega), Bool.xor_false] at e1
  have e2 : (Int64.ofInt a ^^^ Int64.ofInt b).toBitVec.toInt = am_xorL a b := rfl
  rw [e2, decide_eq_decide] at e1
  have r3 : (Int64.ofInt a ^^^ Int64.ofInt b).toInt = am_xorL a b := rfl
  rw [r3] at r1 r2
  exact ⟨⟨by omega, by omega⟩, by omega⟩
def am_Bh (hs : Nat → Bool) (B : Nat → Nat → Int) (i k : Nat) : Int := if hs i then B i k else 0
def am_pr8 (v : Nat → Int) : Prop := ∀ k, k < 8 → 0 ≤ v k ∧ v k < 2147483647
def am_BV (hs : Nat → Bool) (B : Nat → Nat → Int) (V : (Nat → Int) → Prop) : Prop := am_Sm V ∧ (∀ v, V v ↔ am_Sp (am_Bh hs B) 8 v) ∧ ∀ c, c < 8 → hs c = true → am_pr8 (B c) ∧ B c c ≠ 0 ∧ (∀ j, j < c → B c j = 0) ∧ ∀ c', c' < 8 → c' ≠ c → hs c' = true → B c c' = 0
theorem am_nq {a : Int} (h0 : 0 ≤ a) (h1 : a < 2147483647) (hn : a ≠ 0) : ¬ am_q a 0 := fun z => hn (am_q0 z h0 h1)
theorem am_BV_row {hs : Nat → Bool} {B : Nat → Nat → Int} {V : (Nat → Int) → Prop} (h : am_BV hs B V) {c : Nat} (hc : c < 8) (hh : hs c = true) : V (B c) := by
  refine (h.2.1 _).mpr ?_
  have := am_Sp_row (M := am_Bh hs B) hc
  rw [show am_Bh hs B c = B c from funext (fun k => by unfold am_Bh; rw [if_pos hh])] at this
  exact this
theorem am_BV_co {hs : Nat → Bool} {B : Nat → Nat → Int} {V : (Nat → Int) → Prop} (h : am_BV hs B V) {a : Nat → Int} {i : Nat} (hi : i < 8) (hh : hs i = true) : am_q (am_LC a (am_Bh hs B) 8 i) (a i * B i i) := by
  have := am_LC_one (c := a) (M := am_Bh hs B) (k := i) hi (fun i' hi' e => Or.inr (by
    unfold am_Bh
    by_cases q : hs i' = true
    · rw [if_pos q, (h.2.2 i' hi' q).2.2.2 i hi (fun z => e z.symm) hh]; exact am_q.rf
    · rw [if_neg q]; exact am_q.rf))
  rw [show am_Bh hs B i i = B i i by unfold am_Bh; rw [if_pos hh]] at this
  exact this
theorem am_BV_rank {hs : Nat → Bool} {B : Nat → Nat → Int} {V : (Nat → Int) → Prop} (h : am_BV hs B V) : am_cnt hs 8 = am_rank V := by
  refine am_cnt_c (fun c hc => ?_)
  rw [Bool.eq_iff_iff, am_ldb_t]
  constructor
  · intro hh
    obtain ⟨h1, h2, h3, -⟩ := h.2.2 c hc hh
    exact ⟨B c, am_BV_row h hc hh, am_nq (h1 c hc).1 (h1 c hc).2 h2, fun j hj => am_q.eq (h3 j hj)⟩
  · rintro ⟨v, v1, v2, v3⟩
    obtain ⟨a, ha⟩ := (h.2.1 v).mp v1
    by_cases hh : hs c = true
    · exact hh
    · exfalso
      apply v2
      refine (ha c hc).sy.tr (am_LC_z (fun i hi => ?_))
      unfold am_Bh
      by_cases q : hs i = true
      · rw [if_pos q]
        obtain ⟨g1, g2, g3, g4⟩ := h.2.2 i hi q
        rcases Nat.lt_trichotomy i c with g | g | g
        · left
          have k1 := (am_BV_co h (a := a) hi q).sy.tr ((ha i hi).tr (v3 i g))
          rcases am_qz k1 with z | z
          · exact z
          · exact absurd z (am_nq (g1 i hi).1 (g1 i hi).2 g2)
        · rw [g] at q; exact absurd q hh
        · right; exact am_q.eq (g3 c g)
      · right; rw [if_neg q]; exact am_q.rf
theorem am_BV_res {hs : Nat → Bool} {B : Nat → Nat → Int} {V : (Nat → Int) → Prop} (h : am_BV hs B V) {b : Nat} (hb : b < 8) : (hs b = true ∧ ∀ k, k < 8 → k ≠ b → B b k = 0) ↔ V (am_un b) := by
  constructor
  · rintro ⟨hh, hk⟩
    obtain ⟨g1, g2, g3, g4⟩ := h.2.2 b hb hh
    obtain ⟨z, hz⟩ := am_inv' (am_nq (g1 b hb).1 (g1 b hb).2 g2)
    have := h.1.2.1 _ _ z (h.1.1 (fun _ => 0) (fun _ _ => am_q.rf)) (am_BV_row h hb hh)
    refine h.1.2.2 _ _ this (fun k hk' => ?_)
    show am_q (0 + z * B b k) (am_un b k)
    unfold am_un
    by_cases e : k = b
    · rw [if_pos e, e, Int.zero_add, Int.mul_comm]; exact hz
    · rw [if_neg e, hk k hk' e]; exact am_q.eq (by rw [Int.mul_zero]; rfl)
  · intro hV
    obtain ⟨a, ha⟩ := (h.2.1 _).mp hV
    have co : ∀ i, i < 8 → hs i = true → i ≠ b → am_q (a i) 0 := fun i hi q e => by
      obtain ⟨g1, g2, -⟩ := h.2.2 i hi q
      have k1 := (am_BV_co h (a := a) hi q).sy.tr (ha i hi)
      unfold am_un at k1
      rw [if_neg e] at k1
      rcases am_qz k1 with z | z
      · exact z
      · exact absurd z (am_nq (g1 i hi).1 (g1 i hi).2 g2)
    have one : ¬ am_q (1 : Int) 0 := am_nq (by decide) (by decide) (by decide)
    have hh : hs b = true := by
      by_cases q : hs b = true
      · exact q
      · exfalso
        have k1 : am_q (am_LC a (am_Bh hs B) 8 b) 0 := am_LC_z (fun i hi => by
          unfold am_Bh
          by_cases q2 : hs i = true
          · left; exact co i hi q2 (fun z => q (by rw [← z]; exact q2))
          · right; rw [if_neg q2]; exact am_q.rf)
        have := (ha b hb).sy.tr k1
        unfold am_un at this
        rw [if_pos rfl] at this
        exact one this
    obtain ⟨g1, g2, g3, g4⟩ := h.2.2 b hb hh
    have lone : ∀ k, k < 8 → am_q (am_LC a (am_Bh hs B) 8 k) (a b * B b k) := fun k hk => by
      have := am_LC_one (c := a) (M := am_Bh hs B) (k := k) hb (fun i hi e => by
        by_cases q2 : hs i = true
        · left; exact co i hi q2 e
        · right; unfold am_Bh; rw [if_neg q2]; exact am_q.rf)
      rw [show am_Bh hs B b k = B b k by unfold am_Bh; rw [if_pos hh]] at this
      exact this
    have ab : ¬ am_q (a b) 0 := fun z => by
      have := (ha b hb).sy.tr (lone b hb)
      unfold am_un at this
      rw [if_pos rfl] at this
      exact one (this.tr ((z.ml am_q.rf).tr (am_q.eq (Int.zero_mul _))))
    refine ⟨hh, fun k hk e => ?_⟩
    have := (lone k hk).sy.tr (ha k hk)
    unfold am_un at this
    rw [if_neg e] at this
    rcases am_qz this with z | z
    · exact absurd z ab
    · exact am_q0 z (g1 k hk).1 (g1 k hk).2
theorem am_Ad_sc {V : (Nat → Int) → Prop} (hV : am_Sm V) {f f' g : Nat → Int} {al be : Int} (hal : ¬ am_q al 0) (hg : V g) (h : ∀ k, k < 8 → am_q (f' k) (al * f k - be * g k)) (v : Nat → Int) : am_Ad V f' v ↔ am_Ad V f v := by
  obtain ⟨z, hz⟩ := am_inv' hal
  have zero : V (fun _ => 0) := hV.1 _ (fun _ _ => am_q.rf)
  refine ⟨am_Ad_in (am_Ad_sm hV) (fun _ h => am_Ad_v hV h) ⟨al, ?_⟩ v, am_Ad_in (am_Ad_sm hV) (fun _ h => am_Ad_v hV h) ⟨z, ?_⟩ v⟩
  · refine hV.2.2 _ _ (hV.2.1 _ _ (-be) zero hg) (fun k hk => ?_)
    show am_q (0 + -be * g k) (f' k - al * f k)
    refine ((((h k hk).sb (am_q.rf (a := al * f k)))).tr (am_q.eq ?_)).sy
    rw [Int.neg_mul]; omega
  · refine hV.2.2 _ _ (hV.2.1 _ _ (z * be) zero hg) (fun k hk => ?_)
    show am_q (0 + z * be * g k) (f k - z * f' k)
    have h1 : am_q (z * f' k) (z * (al * f k - be * g k)) := am_q.rf.ml (h k hk)
    have h2 : am_q (z * (al * f k)) (f k) := by
      have := hz.ml (am_q.rf (a := f k))
      rw [Int.one_mul, Int.mul_comm al, Int.mul_assoc] at this
      exact this
    have h3 := (am_q.rf (a := f k)).sb h1
    have h4 : am_q (f k - z * (al * f k - be * g k)) (z * be * g k) := by
      rw [Int.mul_sub, Int.mul_assoc]
      have := ((am_q.rf (a := f k)).sb h2).ad (am_q.rf (a := z * (be * g k)))
      rw [show f k - z * (al * f k) + z * (be * g k) = f k - (z * (al * f k) - z * (be * g k)) by omega] at this
      exact this.tr (am_q.eq (by omega))
    exact ((h3.tr h4).tr (am_q.eq (by omega))).sy
/-- the new basis -/
theorem am_BV_add {hs hs' : Nat → Bool} {B B' : Nat → Nat → Int} {V : (Nat → Int) → Prop} {u f : Nat → Int} {own : Nat} (h : am_BV hs B V) (hf : am_pr8 f) (hA : ∀ v, am_Ad V u v ↔ am_Ad V f v) (hz : ∀ c, c < 8 → hs c = true → f c = 0) (ho : own < 8) (hn : f own ≠ 0) (hl : ∀ j, j < own → f j = 0)
    (hh : ∀ c, c < 8 → hs' c = (hs c || c == own)) (hB0 : ∀ k, k < 8 → B' own k = f k)
    (hB : ∀ c, c < 8 → hs c = true → am_pr8 (B' c) ∧ B' c own = 0 ∧ (B c own = 0 → ∀ k, k < 8 → B' c k = B c k) ∧ ∃ al be : Int, ¬ am_q al 0 ∧ ∀ k, k < 8 → am_q (B' c k) (al * B c k - be * f k)) : am_BV hs' B' (am_Ad V u) := by
  have hV := h.1
  have no : ¬ hs own = true := fun z => hn (hz own ho z)
  have one : ¬ am_q (1 : Int) 0 := am_nq (by decide) (by decide) (by decide)
  have zero : am_Sp (am_Bh hs' B') 8 (fun _ => 0) := am_Sp_sm.1 _ (fun _ _ => am_q.rf)
  have hso : hs' own = true := by rw [hh own ho]; simp
  have row' : ∀ c, c < 8 → hs' c = true → am_Sp (am_Bh hs' B') 8 (B' c) := fun c hc q => by
    have := am_Sp_row (M := am_Bh hs' B') hc
    rw [show am_Bh hs' B' c = B' c from funext (fun k => by unfold am_Bh; rw [if_pos q])] at this
    exact this
  have fIn : am_Sp (am_Bh hs' B') 8 f := am_Sp_sm.2.2 _ _ (row' own ho hso) (fun k hk => am_q.eq (hB0 k hk))
  refine ⟨am_Ad_sm hV, fun v => ?_, fun c hc q => ?_⟩
  · rw [hA v]
    constructor
    · refine am_Ad_in am_Sp_sm (fun y hy => ?_) fIn v
      refine am_Sp_in am_Sp_sm (fun c hc => ?_) y ((h.2.1 y).mp hy)
      by_cases q : hs c = true
      · obtain ⟨-, -, -, al, be, hal, hab⟩ := hB c hc q
        obtain ⟨z, hz'⟩ := am_inv' hal
        have q' : hs' c = true := by rw [hh c hc, q]; rfl
        have k1 := am_Sp_sm.2.1 _ _ be (row' c hc q') fIn
        have k2 := am_Sp_sm.2.1 _ _ z zero k1
        refine am_Sp_sm.2.2 _ _ k2 (fun k hk => ?_)
        show am_q (0 + z * (B' c k + be * f k)) (am_Bh hs B c k)
        rw [show am_Bh hs B c k = B c k by unfold am_Bh; rw [if_pos q]]
        have h1 : am_q (B' c k + be * f k) (al * B c k) := ((hab k hk).ad (am_q.rf (a := be * f k))).tr (am_q.eq (by omega))
        have h2 := (am_q.rf (a := z)).ml h1
        have h3 := hz'.ml (am_q.rf (a := B c k))
        rw [Int.one_mul, Int.mul_comm al, Int.mul_assoc] at h3
        rw [Int.zero_add]
        exact h2.tr h3
      · exact am_Sp_sm.2.2 _ _ zero (fun k hk => am_q.eq (by unfold am_Bh; rw [if_neg q]))
    · refine am_Sp_in (am_Ad_sm hV) (fun c hc => ?_) v
      by_cases q : hs' c = true
      · rw [show am_Bh hs' B' c = B' c from funext (fun k => by unfold am_Bh; rw [if_pos q])]
        by_cases e : c = own
        · rw [e]; exact (am_Ad_sm hV).2.2 _ _ (am_Ad_u hV) (fun k hk => am_q.eq (hB0 k hk).symm)
        · have q2 : hs c = true := by rw [hh c hc, Bool.or_eq_true, beq_iff_eq] at q; rcases q with q | q; exact q; exact absurd q e
          obtain ⟨-, -, -, al, be, hal, hab⟩ := hB c hc q2
          have k1 := (am_Ad_sm hV).2.1 _ _ al ((am_Ad_sm hV (u := f)).1 (fun _ => 0) (fun _ _ => am_q.rf)) (am_Ad_v hV (am_BV_row h hc q2))
          have k2 := (am_Ad_sm hV).2.1 _ _ (-be) k1 (am_Ad_u hV)
          refine (am_Ad_sm hV).2.2 _ _ k2 (fun k hk => ((hab k hk).tr (am_q.eq ?_)).sy)
          show al * B c k - be * f k = 0 + al * B c k + -be * f k
          rw [Int.neg_mul]; omega
      · exact (am_Ad_sm hV).1 _ (fun k hk => am_q.eq (by unfold am_Bh; rw [if_neg q]))
  · have zq : ∀ {a : Int}, am_q a 0 → 0 ≤ a ∧ a < 2147483647 → a = 0 := fun h1 h2 => am_q0 h1 h2.1 h2.2
    by_cases e : c = own
    · subst e
      refine ⟨fun k hk => by rw [hB0 k hk]; exact hf k hk, by rw [hB0 c hc]; exact hn, fun j hj => by rw [hB0 j (by omega)]; exact hl j hj, fun c' hc' e' q' => ?_⟩
      rw [hB0 c' hc']
      rw [hh c' hc', Bool.or_eq_true, beq_iff_eq] at q'
      rcases q' with q' | q'
      · exact hz c' hc' q'
      · exact absurd q' e'
    · have q2 : hs c = true := by rw [hh c hc, Bool.or_eq_true, beq_iff_eq] at q; rcases q with q | q; exact q; exact absurd q e
      obtain ⟨b1, b2, b3, al, be, hal, hab⟩ := hB c hc q2
      obtain ⟨g1, g2, g3, g4⟩ := h.2.2 c hc q2
      refine ⟨b1, fun zz => ?_, fun j hj => ?_, fun c' hc' e' q' => ?_⟩
      · have k1 := hab c hc
        rw [zz, hz c hc q2, Int.mul_zero, Int.sub_zero] at k1
        rcases am_qz k1.sy with k2 | k2
        · exact hal k2
        · exact am_nq (g1 c hc).1 (g1 c hc).2 g2 k2
      · rcases Nat.lt_or_ge own c with g | g
        · rw [b3 (g3 own g) j (by omega)]; exact g3 j hj
        · have k1 := hab j (by omega)
          rw [g3 j hj, hl j (by omega), Int.mul_zero, Int.mul_zero] at k1
          exact zq k1 (b1 j (by omega))
      · rw [hh c' hc', Bool.or_eq_true, beq_iff_eq] at q'
        by_cases e2 : c' = own
        · rw [e2]; exact b2
        · have q3 : hs c' = true := by rcases q' with q' | q'; exact q'; exact absurd q' e2
          have k1 := hab c' hc'
          rw [g4 c' hc' e' q3, hz c' hc' q3, Int.mul_zero, Int.mul_zero] at k1
          exact zq k1 (b1 c' hc')
theorem am_BV_same {hs : Nat → Bool} {B : Nat → Nat → Int} {V : (Nat → Int) → Prop} {u f : Nat → Int} (h : am_BV hs B V) (hA : ∀ v, am_Ad V u v ↔ am_Ad V f v) (hz : ∀ k, k < 8 → f k = 0) : am_BV hs B (am_Ad V u) := by
  have e : am_Ad V u = V := funext (fun v => propext ((hA v).trans ⟨fun hv => am_Ad_in h.1 (fun _ h => h) (h.1.1 _ (fun k hk => am_q.eq (hz k hk))) v hv, am_Ad_v h.1⟩))
  rw [e]; exact h
