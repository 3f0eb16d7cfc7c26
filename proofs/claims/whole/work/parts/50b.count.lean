/-! Integer.bitCount of a mask of 24 cells -/
theorem q_num_mask {x : Int32} {s : Nat → Bool} (h : MK 24 x s) : ∀ k, q_num (bI x) (24 + k) = q_num s 24
  | 0 => q_num_cong (fun j hj => h.at hj)
  | k + 1 => by
    show q_num (bI x) (24 + k) + (if bI x (24 + k) then 1 else 0) = _
    rw [q_num_mask h k, h (24 + k), decide_eq_false (show ¬ 24 + k < 24 by omega)]
    rfl
def ush (x : Int32) (k : Int32) : Int32 := (x.toUInt32 >>> (k.toUInt32 &&& Int32.toUInt32 31)).toInt32
def f_bits (x : Int32) : Int32 :=
  let a := x - (ush x 1 &&& 1431655765)
  let b := (a &&& 858993459) + (ush a 2 &&& 858993459)
  let c := (b + ush b 4) &&& 252645135
  let e := c + ush c 8
  let g := e + ush e 16
  g &&& 63
theorem ush_n {n : Nat} (hn : n < 2 ^ 32) {k : Nat} (hk : k < 32) : ush (nI n) (nI k) = nI (n / 2 ^ k) := pk_ushrN hn _ k ((show ∀ k, k < 32 → (((nI k).toUInt32 &&& Int32.toUInt32 31).toBitVec % 32).toNat = k by decide +kernel) k hk)
theorem and_n {a b : Nat} : nI a &&& nI b = nI (a &&& b) := by
  refine bI_ext (fun i hi => ?_)
  rw [bI_and]
  unfold bI
  show ((BitVec.ofNat 32 a).getLsbD i && (BitVec.ofNat 32 b).getLsbD i) = (BitVec.ofNat 32 (a &&& b)).getLsbD i
  rw [BitVec.getLsbD_ofNat, BitVec.getLsbD_ofNat, BitVec.getLsbD_ofNat, Nat.testBit_and]
  cases decide (i < 32) <;> simp
theorem and8 {a b c e : Nat} (ha : a < 256) (hc : c < 256) : (256 * b + a) &&& (256 * e + c) = 256 * (b &&& e) + (a &&& c) := by
  have hl : a &&& c < 256 := Nat.lt_of_le_of_lt Nat.and_le_left ha
  apply Nat.eq_of_testBit_eq
  intro i
  rw [Nat.testBit_and, Nat.testBit_two_pow_mul_add (i := 8) b ha, Nat.testBit_two_pow_mul_add (i := 8) e hc, Nat.testBit_two_pow_mul_add (i := 8) (b &&& e) hl]
  split
  · rw [Nat.testBit_and]
  · rw [Nat.testBit_and]
def b_u (m : Nat) : Nat := (m / 2) &&& 85
def b_p (m : Nat) : Nat := m - b_u m
def b_q (m : Nat) : Nat := (b_p m &&& 51) + ((b_p m / 4) &&& 51)
def b_r (m : Nat) : Nat := (b_q m + b_q m / 16) % 16
theorem b_f1 : ∀ m, m < 256 → b_u m ≤ m ∧ (∀ r, r < 2 → (m / 2 + 128 * r) &&& 85 = b_u m) ∧ (∀ r, r < 4 → (b_p m / 4 + 64 * r) &&& 51 = (b_p m / 4) &&& 51) ∧ (b_q m ≤ 68 ∧ b_q m % 16 ≤ 4) ∧ (b_p m &&& 51) ≤ 51 ∧ ((b_p m / 4) &&& 51) ≤ 51 ∧ b_r m = q_num (fun i => m.testBit i) 8 := by decide +kernel
theorem and3 {a0 a1 a2 k : Nat} (h0 : a0 < 256) (h1 : a1 < 256) (hk : k < 256) : (256 * (256 * a2 + a1) + a0) &&& (256 * (256 * (256 * k + k) + k) + k) = 256 * (256 * (a2 &&& (256 * k + k)) + (a1 &&& k)) + (a0 &&& k) := by
  rw [and8 h0 hk, and8 h1 hk]
theorem and_hi {a k : Nat} (h : a < 256) (hk : k < 256) : a &&& (256 * k + k) = a &&& k := by
  have := and8 (a := a) (b := 0) (c := k) (e := k) h hk
  rw [Nat.mul_zero, Nat.zero_add, Nat.zero_and, Nat.mul_zero, Nat.zero_add] at this
  exact this
theorem fin_bits {x y z : Nat} (hx : x ≤ 8) (hy : y ≤ 8) (hz : z ≤ 8) : (256 * (256 * z + y) + x + (256 * (256 * z + y) + x) / 256 + (256 * (256 * z + y) + x + (256 * (256 * z + y) + x) / 256) / 65536) % 64 = x + y + z := by
  rw [show (256 * (256 * z + y) + x) / 256 = 256 * z + y by omega, show (256 * (256 * z + y) + x + (256 * z + y)) / 65536 = z by omega]
  omega
theorem bits_n {n0 n1 n2 : Nat} (h0 : n0 < 256) (h1 : n1 < 256) (h2 : n2 < 256) : f_bits (nI (256 * (256 * n2 + n1) + n0)) = nI (b_r n0 + b_r n1 + b_r n2) := by
  obtain ⟨u0, v0, w0, ⟨q0, z0⟩, s0, t0, r0⟩ := b_f1 n0 h0
  obtain ⟨u1, v1, w1, ⟨q1, z1⟩, s1, t1, r1⟩ := b_f1 n1 h1
  obtain ⟨u2, v2, w2, ⟨q2, z2⟩, s2, t2, r2⟩ := b_f1 n2 h2
  have p0 : b_p n0 ≤ n0 := Nat.sub_le _ _
  have p1 : b_p n1 ≤ n1 := Nat.sub_le _ _
  have p2 : b_p n2 ≤ n2 := Nat.sub_le _ _
  unfold f_bits
  dsimp only
  have m85 : (1431655765 : Int32) = nI (256 * (256 * (256 * 85 + 85) + 85) + 85) := by decide
  have m51 : (858993459 : Int32) = nI (256 * (256 * (256 * 51 + 51) + 51) + 51) := by decide
  have m15 : (252645135 : Int32) = nI (256 * (256 * (256 * 15 + 15) + 15) + 15) := by decide
  have ea : nI (256 * (256 * n2 + n1) + n0) - (ush (nI (256 * (256 * n2 + n1) + n0)) 1 &&& 1431655765) = nI (256 * (256 * b_p n2 + b_p n1) + b_p n0) := by
    rw [L1, ush_n (by omega) (by omega), m85, and_n, show (256 * (256 * n2 + n1) + n0) / 2 ^ 1 = 256 * (256 * (n2 / 2) + (n1 / 2 + 128 * (n2 % 2))) + (n0 / 2 + 128 * (n1 % 2)) by omega, and3 (by omega) (by omega) (by omega), and_hi (by omega) (by omega), v0 _ (by omega), v1 _ (by omega), show (n2 / 2) &&& 85 = b_u n2 from rfl, pk_sub (by omega)]
    congr 1
    unfold b_p
    omega
  have eb : (nI (256 * (256 * b_p n2 + b_p n1) + b_p n0) &&& 858993459) + (ush (nI (256 * (256 * b_p n2 + b_p n1) + b_p n0)) 2 &&& 858993459) = nI (256 * (256 * b_q n2 + b_q n1) + b_q n0) := by
    rw [L2, ush_n (by omega) (by omega), m51, and_n, and_n, and3 (by omega) (by omega) (by omega), and_hi (by omega) (by omega), show (256 * (256 * b_p n2 + b_p n1) + b_p n0) / 2 ^ 2 = 256 * (256 * (b_p n2 / 4) + (b_p n1 / 4 + 64 * (b_p n2 % 4))) + (b_p n0 / 4 + 64 * (b_p n1 % 4)) by omega, and3 (by omega) (by omega) (by omega), and_hi (by omega) (by omega), w0 _ (by omega), w1 _ (by omega), nI_add]
    congr 1
    unfold b_q
    omega
  have ec : (nI (256 * (256 * b_q n2 + b_q n1) + b_q n0) + ush (nI (256 * (256 * b_q n2 + b_q n1) + b_q n0)) 4) &&& 252645135 = nI (256 * (256 * b_r n2 + b_r n1) + b_r n0) := by
    have a15 : ∀ x : Nat, x &&& 15 = x % 16 := fun x => Nat.and_two_pow_sub_one_eq_mod x 4
    rw [L4, ush_n (by omega) (by omega), nI_add, m15, and_n, show 256 * (256 * b_q n2 + b_q n1) + b_q n0 + (256 * (256 * b_q n2 + b_q n1) + b_q n0) / 2 ^ 4 = 256 * (256 * (b_q n2 + b_q n2 / 16) + (b_q n1 + b_q n1 / 16 + 16 * (b_q n2 % 16))) + (b_q n0 + b_q n0 / 16 + 16 * (b_q n1 % 16)) by omega, and3 (by omega) (by omega) (by omega), and_hi (by omega) (by omega), a15, a15, a15]
    congr 1
    unfold b_r
    omega
  have k0 : b_r n0 ≤ 8 := by rw [r0]; exact q_num_le _ _
  have k1 : b_r n1 ≤ 8 := by rw [r1]; exact q_num_le _ _
  have k2 : b_r n2 ≤ 8 := by rw [r2]; exact q_num_le _ _
  have a63 : ∀ x : Nat, x &&& 63 = x % 64 := fun x => Nat.and_two_pow_sub_one_eq_mod x 6
  rw [ea, eb, ec, L8, ush_n (by omega) (by omega), nI_add, show (16 : Int32) = nI 16 from rfl, ush_n (by omega) (by omega), nI_add, show (63 : Int32) = nI 63 from rfl, and_n, a63]
  exact congrArg nI (fin_bits k0 k1 k2)
theorem q_num_8 (n : Nat) {a b : Nat} (ha : a < 256) : q_num (fun i => (256 * b + a).testBit i) (8 + n) = q_num (fun i => a.testBit i) 8 + q_num (fun i => b.testBit i) n := by
  induction n with
  | zero =>
    refine q_num_cong (fun j hj => ?_)
    rw [Nat.testBit_two_pow_mul_add (i := 8) b ha, if_pos hj]
  | succ n ih =>
    show q_num (fun i => (256 * b + a).testBit i) (8 + n) + (if (256 * b + a).testBit (8 + n) then 1 else 0) = _
    rw [ih, Nat.testBit_two_pow_mul_add (i := 8) b ha, if_neg (show ¬ 8 + n < 8 by omega), show 8 + n - 8 = n by omega, Nat.add_assoc]
    rfl
theorem f_bits_n {x : Int32} {s : Nat → Bool} (h : MK 24 x s) : f_bits x = nI (q_num (bI x) 32) := by
  obtain ⟨n, hn, rfl⟩ : ∃ n, n < 2 ^ 31 ∧ x = nI n := by
    rcases anyI x with q | q
    · exfalso
      have h3 : x.toInt < 0 := Int32.lt_iff_toInt_lt.mp q
      have h2 : x.toBitVec.msb = true := by
        rw [BitVec.msb_eq_toInt]
        exact decide_eq_true h3
      rw [BitVec.msb_eq_getLsbD_last] at h2
      have h4 := h 31
      rw [show bI x 31 = x.toBitVec.getLsbD (32 - 1) from rfl, h2] at h4
      cases h4
    · exact q
  have n24 : n < 2 ^ 24 := by
    apply Nat.lt_pow_two_of_testBit
    intro i hi
    rw [← bI_n hn, h i, decide_eq_false (by omega), Bool.false_and]
  have e : n = 256 * (256 * (n / 65536) + n / 256 % 256) + n % 256 := by omega
  have e2 : q_num (bI (nI n)) 32 = q_num (fun i => n.testBit i) 24 := by
    rw [show (32 : Nat) = 24 + 8 from rfl, q_num_mask h 8]
    exact q_num_cong (fun j hj => by rw [← h.at hj, bI_n hn])
  rw [e2]
  obtain ⟨n0, hn0⟩ : ∃ a, a = n % 256 := ⟨_, rfl⟩
  obtain ⟨n1, hn1⟩ : ∃ a, a = n / 256 % 256 := ⟨_, rfl⟩
  obtain ⟨n2, hn2⟩ : ∃ a, a = n / 65536 := ⟨_, rfl⟩
  rw [← hn0, ← hn1, ← hn2] at e
  rw [e, bits_n (by omega) (by omega) (by omega), (b_f1 n0 (by omega)).2.2.2.2.2.2, (b_f1 n1 (by omega)).2.2.2.2.2.2, (b_f1 n2 (by omega)).2.2.2.2.2.2, show (24 : Nat) = 8 + (8 + 8) from rfl, q_num_8 (8 + 8) (by omega), q_num_8 8 (by omega), Nat.add_assoc]
