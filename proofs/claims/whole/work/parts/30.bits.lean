/-! masks: the bits of an int -/
def bI (x : Int32) (i : Nat) : Bool := x.toBitVec.getLsbD i
theorem bI_and (x y : Int32) (i : Nat) : bI (x &&& y) i = (bI x i && bI y i) := by
  unfold bI
  rw [Int32.toBitVec_and, BitVec.getLsbD_and]
theorem bI_or (x y : Int32) (i : Nat) : bI (x ||| y) i = (bI x i || bI y i) := by
  unfold bI
  rw [Int32.toBitVec_or, BitVec.getLsbD_or]
theorem bI_xor (x y : Int32) (i : Nat) : bI (x ^^^ y) i = Bool.xor (bI x i) (bI y i) := by
  unfold bI
  rw [Int32.toBitVec_xor, BitVec.getLsbD_xor]
theorem bI_ge (x : Int32) {i : Nat} (h : 32 ≤ i) : bI x i = false := BitVec.getLsbD_of_ge _ _ h
theorem bI_ext {x y : Int32} (h : ∀ i, i < 32 → bI x i = bI y i) : x = y := by
  have : x.toBitVec = y.toBitVec := BitVec.eq_of_getLsbD_eq (fun i hi => h i hi)
  exact Int32.toBitVec_inj.mp this
theorem bI_m1 : ∀ i, i < 32 → bI (-1) i = true := by decide +kernel
theorem bI_0 (i : Nat) : bI 0 i = false := by
  by_cases h : i < 32
  · exact (show ∀ i, i < 32 → bI 0 i = false by decide +kernel) i h
  · exact bI_ge _ (by omega)
theorem bI_1s : ∀ k, k < 32 → ∀ i, i < 32 → bI (1 <<< (nI k &&& 31)) i = decide (i = k) := by decide +kernel
theorem bI_1 {k : Nat} (h : k < 32) (i : Nat) : bI (1 <<< (nI k &&& 31)) i = decide (i = k) := by
  by_cases q : i < 32
  · exact bI_1s k h i q
  · rw [bI_ge _ (by omega), decide_eq_false (by omega)]
theorem bI_not (x : Int32) {i : Nat} (h : i < 32) : bI (x ^^^ (-1)) i = !(bI x i) := by
  rw [bI_xor, bI_m1 i h, Bool.xor_true]
/-- x is the mask of the set s among the first n -/
def MK (n : Nat) (x : Int32) (s : Nat → Bool) : Prop := ∀ i, bI x i = (decide (i < n) && s i)
theorem MK.at {n : Nat} {x : Int32} {s : Nat → Bool} (h : MK n x s) {i : Nat} (hi : i < n) : bI x i = s i := by
  rw [h i, decide_eq_true hi, Bool.true_and]
theorem MK.cong {n : Nat} {x : Int32} {s t : Nat → Bool} (h : MK n x s) (e : ∀ i, i < n → s i = t i) : MK n x t := by
  intro i
  rw [h i]
  by_cases q : i < n
  · rw [e i q]
  · rw [decide_eq_false q, Bool.false_and, Bool.false_and]
theorem MK_0 (n : Nat) : MK n 0 (fun _ => false) := fun i => by rw [bI_0, Bool.and_false]
theorem MK.or {n : Nat} {x y : Int32} {s t : Nat → Bool} (h : MK n x s) (g : MK n y t) : MK n (x ||| y) (fun i => s i || t i) := by
  intro i
  rw [bI_or, h i, g i]
  cases decide (i < n) <;> rfl
theorem MK.and {n : Nat} {x y : Int32} {s t : Nat → Bool} (h : MK n x s) (g : MK n y t) : MK n (x &&& y) (fun i => s i && t i) := by
  intro i
  rw [bI_and, h i, g i]
  cases decide (i < n) <;> rfl
theorem MK.dif {n : Nat} {x y : Int32} {s t : Nat → Bool} (hn : n ≤ 32) (h : MK n x s) (g : MK n y t) : MK n (x &&& (y ^^^ (-1))) (fun i => s i && !(t i)) := by
  intro i
  by_cases q : i < n
  · rw [bI_and, bI_not _ (by omega), h i, g i, decide_eq_true q]
    rfl
  · rw [bI_and, h i, decide_eq_false q]
    rfl
theorem MK_one {n k : Nat} (hk : k < n) (hn : n ≤ 32) : MK n (1 <<< (nI k &&& 31)) (fun i => decide (i = k)) := by
  intro i
  rw [bI_1 (by omega)]
  by_cases q : i = k
  · subst q
    show _ = (decide (i < n) && decide (i = i))
    rw [decide_eq_true hk, decide_eq_true rfl]; rfl
  · show _ = (decide (i < n) && decide (i = k))
    rw [decide_eq_false q, Bool.and_false]
theorem MK.eq0 {n : Nat} {x : Int32} {s : Nat → Bool} (hn : n ≤ 32) (h : MK n x s) : x = 0 ↔ ∀ i, i < n → s i = false := by
  constructor
  · rintro e i hi
    rw [← h.at hi, e, bI_0]
  · intro e
    refine bI_ext (fun i hi => ?_)
    rw [bI_0, h i]
    by_cases q : i < n
    · rw [e i q, Bool.and_false]
    · rw [decide_eq_false q, Bool.false_and]
theorem MK.eqv {n : Nat} {x y : Int32} {s t : Nat → Bool} (h : MK n x s) (g : MK n y t) : x = y ↔ ∀ i, i < n → s i = t i := by
  constructor
  · rintro e i hi
    rw [← h.at hi, e, g.at hi]
  · intro e
    refine bI_ext (fun i hi => ?_)
    rw [h i, g i]
    by_cases q : i < n
    · rw [e i q]
    · rw [decide_eq_false q, Bool.false_and, Bool.false_and]
theorem MK.disj {n : Nat} {x y : Int32} {s t : Nat → Bool} (hn : n ≤ 32) (h : MK n x s) (g : MK n y t) : (x &&& y) = 0 ↔ ¬ ∃ i, i < n ∧ s i = true ∧ t i = true := by
  rw [(h.and g).eq0 hn]
  constructor
  · rintro e ⟨i, a, b, c⟩
    have := e i a
    rw [b, c] at this
    cases this
  · intro e i hi
    cases hs : s i
    · rfl
    · cases ht : t i
      · rfl
      · exact absurd ⟨i, hi, hs, ht⟩ e
theorem MK.has {n : Nat} {x : Int32} {s : Nat → Bool} (hn : n ≤ 32) (h : MK n x s) {k : Nat} (hk : k < n) : (x &&& (1 <<< (nI k &&& 31))) = 0 ↔ s k = false := by
  rw [h.disj hn (MK_one hk hn)]
  constructor
  · intro e
    cases hs : s k
    · rfl
    · exact absurd ⟨k, hk, hs, decide_eq_true rfl⟩ e
  · rintro e ⟨i, a, b, c⟩
    have := of_decide_eq_true c
    subst this
    rw [e] at b
    cases b
theorem x_has {x : Int32} {s : Nat → Bool} (h : MK 24 x s) {k : Nat} (hk : k < 24) : f_X0_has x (nI k) = some (if s k then 1 else 0) := by
  unfold f_X0_has f_X0_has_13
  rw [ite_n (h.has (by decide) hk), wgd_t okZ_0, wgd_t okZ_1]
  cases s k <;> rfl
/-- the ends of a block's cells -/
def q_eb (s : Nat → Bool) (b e : Nat) : Bool := if e < 6 then decide (e = b) else s (4 * b + (e - 6))
theorem bI_shr (x : Int32) {k i : Nat} (hk : k < 31) (hx : bI x 31 = false) : bI (x >>> (nI k &&& 31)) i = bI x (i + k) := by
  obtain ⟨n, hn, rfl⟩ : ∃ n, n < 2 ^ 31 ∧ x = nI n := by
    rcases anyI x with h | h
    · exfalso
      have h2 : x.toBitVec.msb = true := by
        have h3 : x.toInt < 0 := by
          have := Int32.lt_iff_toInt_lt.mp h
          exact this
        rw [BitVec.msb_eq_toInt]
        exact decide_eq_true h3
      rw [BitVec.msb_eq_getLsbD_last] at h2
      rw [show bI x 31 = x.toBitVec.getLsbD (32 - 1) from rfl, h2] at hx
      cases hx
    · exact h
  have hs : ((nI k &&& 31).toBitVec.smod 32).toNat = k := (show ∀ k, k < 31 → ((nI k &&& 31).toBitVec.smod 32).toNat = k by decide +kernel) k hk
  have nb : ∀ m j : Nat, m < 2 ^ 31 → bI (nI m) j = m.testBit j := by
    intro m j hm
    unfold bI
    rw [BitVec.getLsbD, pk_tn (by omega)]
  rw [pk_shrN hn _ k hs, nb _ _ (by have := Nat.div_le_self n (2 ^ k); omega), nb _ _ hn, ← Nat.shiftRight_eq_div_pow, Nat.testBit_shiftRight, Nat.add_comm]
theorem bI_n {m j : Nat} (hm : m < 2 ^ 31) : bI (nI m) j = m.testBit j := by
  unfold bI
  rw [BitVec.getLsbD, pk_tn (by omega)]
theorem bI_15 : ∀ i, i < 32 → bI 15 i = decide (i < 4) := by decide +kernel
theorem x_endsInBlock {x : Int32} {s : Nat → Bool} (h : MK 24 x s) {b : Nat} (hb : b < 6) : ∃ y, f_X0_endsInBlock x (nI b) = some y ∧ MK 10 y (q_eb s b) := by
  unfold f_X0_endsInBlock
  rw [wbd_e, L4, pk_mul]
  refine ⟨_, rfl, fun i => ?_⟩
  obtain ⟨j, hj, hy⟩ := pk_andE (x >>> (nI (b * 4) &&& 31)) (m := 15) 4 (by decide +kernel)
  have hz : ∀ i, j.testBit i = (decide (i < 4) && s (4 * b + i)) := by
    intro i
    rw [← bI_n (by omega), ← hy, bI_and]
    by_cases q : i < 4
    · rw [bI_15 i (by omega), decide_eq_true q, bI_shr x (by omega) (by rw [h 31]; rfl), h.at (by omega), Bool.and_true, Bool.true_and, Nat.add_comm, Nat.mul_comm]
    · rw [decide_eq_false q, Bool.false_and]
      by_cases q2 : i < 32
      · rw [bI_15 i q2, decide_eq_false q, Bool.and_false]
      · rw [bI_ge 15 (by omega), Bool.and_false]
  rw [hy, bI_or, bI_1 (by omega), pk_shlN _ 6 (by decide +kernel) (by omega), bI_n (by omega), ← Nat.shiftLeft_eq, Nat.testBit_shiftLeft, hz]
  unfold q_eb
  by_cases q : i < 6
  · rw [decide_eq_false (show ¬ i ≥ 6 by omega), decide_eq_true (show i < 10 by omega)]
    simp only [if_pos q, Bool.false_and, Bool.false_or, Bool.true_and]
  · rw [decide_eq_true (show i ≥ 6 by omega), decide_eq_false (show ¬ i = b by omega), Bool.or_false, Bool.true_and]
    simp only [if_neg q]
    congr 1
    by_cases z : i < 10
    · rw [decide_eq_true z, decide_eq_true (show i - 6 < 4 by omega)]
    · rw [decide_eq_false z, decide_eq_false (show ¬ i - 6 < 4 by omega)]
theorem x_blockEnd {c : Nat} (hc : c < 24) : ∃ y, f_X0_blockEnd (nI c) = some y ∧ MK 10 y (fun e => decide (e = c / 4)) := by
  unfold f_X0_blockEnd
  rw [L4, nI_d (by omega) (by omega) (by omega)]
  exact ⟨_, rfl, MK_one (by omega) (by omega)⟩
theorem x_groupEnd {c : Nat} (hc : c < 24) : ∃ y, f_X0_groupEnd (nI c) = some y ∧ MK 10 y (fun e => decide (e = 6 + c % 4)) := by
  unfold f_X0_groupEnd
  rw [L4, pk_rem (by omega) (by omega) (by omega), L6, nI_add]
  exact ⟨_, rfl, MK_one (by omega) (by omega)⟩
