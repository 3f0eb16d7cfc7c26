/-! numbers, and the pure combinators over them -/
theorem inb_n {i n : Nat} (h : i < n) (hn : n < 2 ^ 31) : inb (nI i) n = true := by
  have h1 : ¬ nI i < 0 := nI_pos (by omega)
  have h2 : (nI i).toNatClampNeg = i := nI_clamp (by omega)
  unfold inb
  rw [h2]
  simp [h1, h]
theorem wget_n {ρ : Type} {n : Nat} {f : Nat → Int32} {i : Nat} {K : Int32 → Option ρ} (h : i < n) (hn : n < 2 ^ 31) : wget n f (nI i) K = K (f i) := by
  unfold wget
  rw [if_pos (inb_n h hn), nI_clamp (by omega)]
theorem wput_n {ρ : Type} {X : wM} {k n : Nat} {i : Nat} {x : Int32} {K : wM → Option ρ} (h : i < n) (hn : n < 2 ^ 31) : wput X k n (nI i) x K = K (updM X k (upd (X k) i x)) := by
  unfold wput
  rw [if_pos (inb_n h hn), nI_clamp (by omega)]
theorem wgd_t {ρ : Type} {c : Bool} {a : Option ρ} (h : c = true) : wgd c a = a := if_pos h
theorem wgd_d {ρ : Type} {c : Prop} [Decidable c] {a : Option ρ} (h : c) : wgd (decide c) a = a := if_pos (decide_eq_true h)
theorem okZ_0 : wokN .boolean 0 = true := by decide +kernel
theorem okZ_1 : wokN .boolean 1 = true := by decide +kernel
theorem okZ_b (b : Bool) : wokN .boolean (if b then 1 else 0) = true := by cases b; exact okZ_0; exact okZ_1
theorem okC_n : ∀ n, n < 128 → wokN .char (nI n) = true := by decide +kernel
theorem narZ_b (b : Bool) : vp_nar .boolean (if b then 1 else 0) = if b then 1 else 0 := by cases b <;> decide +kernel
theorem narC_n : ∀ n, n < 128 → vp_nar .char (nI n) = nI n := by decide +kernel
theorem z_or (b : Bool) : ((if b then (1 : Int32) else 0) = 0) ↔ b = false := by cases b <;> decide
theorem nI_b (b : Bool) : (if b then (1 : Int32) else 0) = nI (if b then 1 else 0) := by cases b <;> rfl
theorem updM_s (X : wM) (k : Nat) (g : Nat → Int32) : updM X k g k = g := updM_self X k g
theorem upd_s (f : Nat → Int32) (k : Nat) (x : Int32) : upd f k x k = x := if_pos rfl
theorem upd_n (f : Nat → Int32) {k j : Nat} (x : Int32) (h : j ≠ k) : upd f k x j = f j := if_neg h
theorem wfld_e {ρ : Type} (X : wM) (k j : Nat) (x : Int32) (K : wM → Option ρ) : wfld X k j x K = K (updM X k (upd (X k) j x)) := rfl
theorem wbd_e {α ρ : Type} (a : α) (K : α → Option ρ) : wbd a K = K a := rfl
theorem bind_s {α ρ : Type} (a : α) (K : α → Option ρ) : (some a).bind K = K a := rfl
theorem wthr_r {ε α ρ : Type} (y : α) (T : ε → Option ρ) (K : α → Option ρ) : wthr (some (.inr y)) T K = K y := rfl
theorem wthr_l {ε α ρ : Type} (e : ε) (T : ε → Option ρ) (K : α → Option ρ) : wthr (some (.inl e)) T K = T e := rfl
theorem L0 : (0 : Int32) = nI 0 := rfl
theorem L1 : (1 : Int32) = nI 1 := rfl
theorem L2 : (2 : Int32) = nI 2 := rfl
theorem L3 : (3 : Int32) = nI 3 := rfl
theorem L4 : (4 : Int32) = nI 4 := rfl
theorem L6 : (6 : Int32) = nI 6 := rfl
theorem L8 : (8 : Int32) = nI 8 := rfl
theorem L10 : (10 : Int32) = nI 10 := rfl
theorem L17 : (17 : Int32) = nI 17 := rfl
theorem L20 : (20 : Int32) = nI 20 := rfl
theorem L24 : (24 : Int32) = nI 24 := rfl
theorem L27 : (27 : Int32) = nI 27 := rfl
theorem L30 : (30 : Int32) = nI 30 := rfl
theorem L39 : (39 : Int32) = nI 39 := rfl
theorem L40 : (40 : Int32) = nI 40 := rfl
theorem L45 : (45 : Int32) = nI 45 := rfl
theorem L63 : (63 : Int32) = nI 63 := rfl
theorem L64 : (64 : Int32) = nI 64 := rfl
theorem L99 : (99 : Int32) = nI 99 := rfl
theorem L107 : (107 : Int32) = nI 107 := rfl
theorem L110 : (110 : Int32) = nI 110 := rfl
theorem L121 : (121 : Int32) = nI 121 := rfl
theorem L400 : (400 : Int32) = nI 400 := rfl
theorem ite_n {ρ : Type} {P Q : Prop} [Decidable P] [Decidable Q] {a b : ρ} (h : P ↔ Q) : (if P then a else b) = if Q then a else b := by
  by_cases q : Q
  · rw [if_pos q, if_pos (h.mpr q)]
  · rw [if_neg q, if_neg (fun p => q (h.mp p))]
theorem ilt {ρ : Type} {a b : Nat} {A B : ρ} (ha : a < 2 ^ 31) (hb : b < 2 ^ 31) : (if nI a < nI b then A else B) = if a < b then A else B := ite_n (nI_ltI ha hb)
theorem ieq {ρ : Type} {a b : Nat} {A B : ρ} (ha : a < 2 ^ 31) (hb : b < 2 ^ 31) : (if nI a = nI b then A else B) = if a = b then A else B := ite_n (nI_eq ha hb)
theorem ineg {ρ : Type} {a : Nat} {A B : ρ} (ha : a < 2 ^ 31) : (if nI a < 0 then A else B) = B := if_neg (nI_pos ha)
theorem nI_m1 {n : Nat} (h : 0 < n) : nI n - 1 = nI (n - 1) := by
  obtain ⟨k, rfl⟩ : ∃ k, n = k + 1 := ⟨n - 1, by omega⟩
  exact nI_pred k
theorem nI_d {a d : Nat} (ha : a < 2 ^ 31) (h0 : 0 < d) (hd : d < 2 ^ 31) : nI a / nI d = nI (a / d) := pk_div ha h0 hd
/-- any int: negative, or a number -/
theorem anyI (x : Int32) : x < 0 ∨ ∃ n : Nat, n < 2 ^ 31 ∧ x = nI n := by
  by_cases h : x < 0
  · exact Or.inl h
  · exact Or.inr (nI_of h)
/-! the recorded things, as numbers -/
abbrev mD : Type := (Nat × Nat × (Nat → Nat)) × (Nat × (Nat → Bool) × (Nat → Nat) × (Nat → Nat) × (Nat → Nat)) × ((Nat → Nat → Nat) × (Nat × Nat × Nat) × (Nat × Nat))
def q_nb (d : mD) : Nat := d.1.1
def q_na (d : mD) : Nat := d.1.2.1
def q_bl (d : mD) : Nat → Nat := d.1.2.2
def q_nr (d : mD) : Nat := d.2.1.1
def q_ce (d : mD) : Nat → Bool := d.2.1.2.1
def q_ad (d : mD) : Nat → Nat := d.2.1.2.2.1
def q_nm (d : mD) : Nat → Nat := d.2.1.2.2.2.1
def q_yr (d : mD) : Nat → Nat := d.2.1.2.2.2.2
def q_de (d : mD) : Nat → Nat → Nat := d.2.2.1
def q_pn (d : mD) : Nat := d.2.2.2.1.1
def q_py (d : mD) : Nat := d.2.2.2.1.2.1
def q_pp (d : mD) : Nat := d.2.2.2.1.2.2
def q_lo (d : mD) : Nat := d.2.2.2.2.1
def q_up (d : mD) : Nat := d.2.2.2.2.2
def q_ok (d : mD) : Prop := q_nb d ≤ 6 ∧ q_na d ≤ 20 ∧ (∀ i, i < q_na d → q_bl d i < q_nb d) ∧ q_nr d ≤ 40 ∧ (∀ i, i < q_nr d → q_ad d i < q_na d ∧ q_nm d i ≤ 999 ∧ q_yr d i ≤ 120) ∧
  (∀ i j, q_de d i j = 0 ∨ q_de d i j = 121 ∨ q_de d i j = 110) ∧ (∀ i j, q_de d i j = q_de d j i) ∧ (∀ i, q_de d i i = 0) ∧ q_pn d ≤ 9 ∧ q_py d ≤ 9 ∧ q_pp d ≤ 9 ∧ q_lo d ≤ q_up d ∧ q_up d ≤ 30
def q_nsc (d : mD) (a b : Nat) : Nat := if a = b then q_pn d else if a / 10 = b / 10 then q_pn d / 2 else 0
def q_ysc (d : mD) (a b : Nat) : Nat := if a = b then q_py d else if a = b + 1 ∨ b = a + 1 then q_py d / 2 else 0
def q_psc (d : mD) (i j : Nat) : Nat := if q_ad d i = q_ad d j then q_pp d else if q_bl d (q_ad d i) = q_bl d (q_ad d j) then q_pp d / 2 else 0
def q_sc (d : mD) (i j : Nat) : Nat := q_nsc d (q_nm d i) (q_nm d j) + q_ysc d (q_yr d i) (q_yr d j) + q_psc d i j
def q_lk (d : mD) (i j : Nat) : Nat := if q_de d i j = 0 then (if q_up d ≤ q_sc d i j then 121 else if q_lo d ≤ q_sc d i j then 63 else 110) else q_de d i j
def q_gr (y : Nat) : Nat := if y ≤ 17 then 0 else if y ≤ 39 then 1 else if y ≤ 64 then 2 else 3
def q_cell (d : mD) (i : Nat) : Nat := q_bl d (q_ad d i) * 4 + q_gr (q_yr d i)
theorem q_nsc_le (d : mD) (a b : Nat) : q_nsc d a b ≤ q_pn d := by
  unfold q_nsc
  repeat' split
  all_goals omega
theorem q_ysc_le (d : mD) (a b : Nat) : q_ysc d a b ≤ q_py d := by
  unfold q_ysc
  repeat' split
  all_goals omega
theorem q_psc_le (d : mD) (a b : Nat) : q_psc d a b ≤ q_pp d := by
  unfold q_psc
  repeat' split
  all_goals omega
theorem q_sc_le (d : mD) (i j : Nat) : q_sc d i j ≤ q_pn d + q_py d + q_pp d := by
  have h1 := q_nsc_le d (q_nm d i) (q_nm d j)
  have h2 := q_ysc_le d (q_yr d i) (q_yr d j)
  have h3 := q_psc_le d i j
  unfold q_sc
  omega
theorem q_sc_comm (d : mD) (i j : Nat) : q_sc d i j = q_sc d j i := by
  unfold q_sc q_nsc q_ysc q_psc
  have e1 : (q_nm d i = q_nm d j) ↔ (q_nm d j = q_nm d i) := ⟨Eq.symm, Eq.symm⟩
  have e2 : (q_nm d i / 10 = q_nm d j / 10) ↔ (q_nm d j / 10 = q_nm d i / 10) := ⟨Eq.symm, Eq.symm⟩
  have e3 : (q_yr d i = q_yr d j) ↔ (q_yr d j = q_yr d i) := ⟨Eq.symm, Eq.symm⟩
  have e4 : (q_yr d i = q_yr d j + 1 ∨ q_yr d j = q_yr d i + 1) ↔ (q_yr d j = q_yr d i + 1 ∨ q_yr d i = q_yr d j + 1) := ⟨Or.symm, Or.symm⟩
  have e5 : (q_ad d i = q_ad d j) ↔ (q_ad d j = q_ad d i) := ⟨Eq.symm, Eq.symm⟩
  have e6 : (q_bl d (q_ad d i) = q_bl d (q_ad d j)) ↔ (q_bl d (q_ad d j) = q_bl d (q_ad d i)) := ⟨Eq.symm, Eq.symm⟩
  rw [ite_n e1, ite_n e2, ite_n e3, ite_n e4, ite_n e5, ite_n e6]
theorem q_lk_comm {d : mD} (w : q_ok d) (i j : Nat) : q_lk d i j = q_lk d j i := by
  unfold q_lk
  rw [q_sc_comm d i j, w.2.2.2.2.2.2.1 i j]
/-- the class's cells hold these things -/
def RX (d : mD) (X : wM) : Prop := X 1 1 = nI (q_nb d) ∧ X 1 2 = nI (q_na d) ∧ (∀ i, i < q_na d → X 2 i = nI (q_bl d i)) ∧ X 3 5 = nI (q_nr d) ∧
  (∀ i, i < q_nr d → X 4 i = (if q_ce d i then 1 else 0) ∧ X 5 i = nI (q_ad d i) ∧ X 6 i = nI (q_nm d i) ∧ X 7 i = nI (q_yr d i)) ∧
  (∀ i j, i ≤ j → j < 40 → X 9 (i * 40 + j) = nI (if q_de d i j = 0 then 45 else q_de d i j)) ∧ X 8 2 = nI (q_pn d) ∧ X 8 3 = nI (q_py d) ∧ X 8 4 = nI (q_pp d) ∧ X 8 5 = nI (q_lo d) ∧ X 8 6 = nI (q_up d)
theorem x_blockAt {d : mD} {X : wM} (h : RX d X) (w : q_ok d) {i : Nat} (hi : i < q_nr d) : f_X3_blockAt X (nI i) = some (nI (q_bl d (q_ad d i))) := by
  obtain ⟨-, -, h3, -, h5, -⟩ := h
  obtain ⟨-, w2, w3, w4, w5, -⟩ := w
  have a1 := (w5 i hi).1
  unfold f_X3_blockAt
  rw [wget_n (by omega) (by omega), (h5 i hi).2.1, wget_n (by omega) (by omega), h3 _ a1]
theorem x_groupAt {d : mD} {X : wM} (h : RX d X) (w : q_ok d) {i : Nat} (hi : i < q_nr d) : f_X3_groupAt X (nI i) = some (nI (q_gr (q_yr d i))) := by
  obtain ⟨-, -, h3, -, h5, -⟩ := h
  obtain ⟨-, w2, w3, w4, w5, -⟩ := w
  have a1 := (w5 i hi).2.2
  unfold f_X3_groupAt f_X3_groupAt_34 q_gr
  rw [wget_n (by omega) (by omega), (h5 i hi).2.2.2, L17, L39, L64, ilt (by omega) (by omega), ilt (by omega) (by omega), ilt (by omega) (by omega)]
  repeat' split
  all_goals first | rfl | (exfalso; omega)
