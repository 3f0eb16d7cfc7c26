/-! the whole picture -/
def q_dig (n : Nat) : List Nat := if n < 10 then [48 + n] else [48 + n / 10, 48 + n % 10]
def q_text (cn : Nat → Nat) (s : Nat → Bool) : Nat → List Nat
  | 0 => []
  | c + 1 => q_text cn s c ++ ((if s c then [120] else q_dig (cn c)) ++ [if c % 4 = 3 then 59 else 44])
def LNX (X : wM) (i : Nat) (nb : Nat) (cn : Nat → Nat) (s : Nat → Bool) : Prop := X (39 + (4 * i + 2)) 1 = 0 ∧ X (39 + (4 * i + 3)) 1000 = nI (q_text cn s (4 * nb)).length ∧ ∀ j, j < (q_text cn s (4 * nb)).length → X (39 + (4 * i + 3)) j = nI ((q_text cn s (4 * nb)).getD j 0)
def HLi (X Y : wM) (i : Nat) (nb : Nat) (cn : Nat → Nat) : Prop := ∃ s, q_hide cn = some s ∧ MK 24 (X (39 + 4 * i) 2) s ∧ HR Y i s ∧ LNX X i nb cn s
def HL (T : mT) (X Y : wM) : Prop := ∀ i, i < T.1 → HLi X Y i (T.2 i).1 (T.2 i).2.1
def PRE (d : mD) (T : mT) (X Y : wM) : Prop := q_ok d ∧ RX d X ∧ RY d Y ∧ TB T X ∧ TY T Y ∧ T_ok T ∧ HL T X Y
/-- a table that isn't undone shows the counts as they are -/
def SM (d : mD) (T : mT) : Prop := ∀ i, i < T.1 → (T.2 i).2.2 = true ∨ q_same d (T.2 i) = true
def INV (d : mD) (T : mT) (X Y : wM) : Prop := PRE d T X Y ∧ KX d X ∧ SM d T
theorem SM_look (d : mD) (T : mT) : SM d (q_look d T) := by
  intro i _
  show ((T.2 i).2.2 || !(q_same d (T.2 i))) = true ∨ q_same d (T.2 i) = true
  cases q_same d (T.2 i)
  · exact Or.inl (Bool.or_true _)
  · exact Or.inr rfl
theorem HL.cong {T : mT} {X Y X' Y' : wM} (h : HL T X Y) (e1 : ∀ i j, j % 4 ≠ 0 → X' (39 + j) i = X (39 + j) i) (e2 : ∀ i, X' (39 + 4 * i) 2 = X (39 + 4 * i) 2) (e3 : Y' 33 = Y 33) : HL T X' Y' := by
  intro i hi
  obtain ⟨s, h1, h2, h3, h4⟩ := h i hi
  refine ⟨s, h1, by rw [e2]; exact h2, h3.cong e3, ?_⟩
  obtain ⟨g1, g2, g3⟩ := h4
  exact ⟨by rw [e1 _ _ (by omega)]; exact g1, by rw [e1 _ _ (by omega)]; exact g2, fun j hj => by rw [e1 _ _ (by omega)]; exact g3 j hj⟩
theorem settle2 {d : mD} {T : mT} {X Y : wM} (h : PRE d T X Y) : ∃ n X' Y', f_X7_settle X = some (n, X') ∧ f_X8_looks Y = some (n, Y') ∧ INV d (q_look d T) X' Y' ∧ (∀ k, k ≠ 28 → k ≠ 31 → k ≠ 32 → Y' k = Y k) ∧ FS X X' := by
  obtain ⟨w, hx, hy, tx, ty, ok, hl⟩ := h
  obtain ⟨X', a1, a2, a3, a4, a5⟩ := x_settle hx w tx ok
  obtain ⟨Y', b1, b2, b3⟩ := y_looks hy w ty ok
  refine ⟨_, X', Y', a1, b1, ⟨⟨w, a3, hy.congr (fun k a b c e => b2 k e (by omega) (by omega)) (fun j _ _ _ => by rw [b2 22 (by decide) (by decide) (by decide)]), a4, b3, ok, ?_⟩, a5, SM_look d T⟩, b2, a2⟩
  exact hl.cong a2.2.1 (fun i => a2.2.2 i 2 (by decide)) (b2 33 (by decide) (by decide) (by decide))
/-! arguments -/
theorem inb_neg {a : Int32} (h : a < 0) (n : Nat) : inb a n = false := by
  unfold inb
  simp [h]
theorem inb_b {i n : Nat} (hi : i < 2 ^ 31) : inb (nI i) n = decide (i < n) := by
  have h1 : ¬ nI i < 0 := nI_pos hi
  have h2 : (nI i).toNatClampNeg = i := nI_clamp hi
  unfold inb
  rw [h2]
  simp [h1]
theorem inb_ex {a : Int32} {n : Nat} (h : inb a n = true) : ∃ i, i < n ∧ a = nI i := by
  rcases anyI a with q | ⟨i, hi, rfl⟩
  · rw [inb_neg q] at h; cases h
  · rw [inb_b hi] at h
    exact ⟨i, of_decide_eq_true h, rfl⟩
theorem m1_lt {i : Nat} (hi : i < 2 ^ 31) : (-1 : Int32) < nI i := by
  rw [Int32.lt_iff_toInt_lt, nI_toInt hi, show (-1 : Int32).toInt = -1 from by decide]
  omega
theorem b_or0 (b : Bool) : wokN .boolean (if b then 1 else 0) = true := okZ_b b
theorem f_in_b (a lo hi : Int32) : f_X8_in a lo hi = some (if decide (¬ a < lo) && decide (¬ hi < a) then 1 else 0) := by
  unfold f_X8_in f_X8_in_14 f_X8_in_15
  rw [wgd_t okZ_0, wgd_t okZ_1]
  by_cases p : a < lo
  · rw [if_pos p, decide_eq_false (show ¬ ¬ a < lo from fun z => z p)]; rfl
  · rw [if_neg p, decide_eq_true p]
    by_cases q : hi < a
    · rw [if_pos q, decide_eq_false (show ¬ ¬ hi < a from fun z => z q)]; rfl
    · rw [if_neg q, decide_eq_true q]; rfl
theorem f_in_n (a : Int32) {n : Nat} (hn : n < 2 ^ 31) : f_X8_in a 0 (nI n - 1) = some (if inb a n then 1 else 0) := by
  rw [f_in_b]
  rcases anyI a with q | ⟨i, hi, rfl⟩
  · rw [inb_neg q, decide_eq_false (show ¬ ¬ a < 0 from fun z => z q)]; rfl
  · rw [inb_b hi, decide_eq_true (nI_pos hi), Bool.true_and]
    by_cases n0 : n = 0
    · subst n0
      rw [show nI 0 - 1 = (-1 : Int32) from by decide, decide_eq_false (show ¬ ¬ (-1 : Int32) < nI i from fun z => z (m1_lt hi)), decide_eq_false (by omega)]
    · rw [nI_m1 (by omega)]
      by_cases z : i < n
      · rw [decide_eq_true z, decide_eq_true (show ¬ nI (n - 1) < nI i from fun w => by have := (nI_ltI (by omega) hi).mp w; omega)]
      · rw [decide_eq_false z, decide_eq_false (show ¬ ¬ nI (n - 1) < nI i from fun w => w ((nI_ltI (by omega) hi).mpr (by omega)))]
theorem f_in_3 (a : Int32) : f_X8_in a 0 3 = some (if inb a 4 then 1 else 0) := f_in_n a (n := 4) (by omega)
theorem x_in {ρ : Type} (a : Int32) {n : Nat} (hn : n < 2 ^ 31) {A B : ρ} : (if a < 0 then B else if a < nI n then A else B) = if inb a n then A else B := by
  rcases anyI a with q | ⟨i, hi, rfl⟩
  · rw [inb_neg q, if_pos q]; rfl
  · rw [inb_b hi, ineg hi, ilt hi hn]
    by_cases z : i < n
    · rw [if_pos z, decide_eq_true z]; rfl
    · rw [if_neg z, decide_eq_false z]; rfl
theorem x_needBlock {d : mD} {X : wM} (h : RX d X) (w : q_ok d) (a : Int32) : f_X7_needBlock X a = if inb a (q_nb d) then some (.inr ()) else some (.inl 2) := by
  have := w.1
  unfold f_X7_needBlock f_X7_needBlock_15
  rw [h.1, x_in a (by omega)]
theorem y_isBlock {d : mD} {Y : wM} (h : RY d Y) (w : q_ok d) (a : Int32) : f_X8_isBlock Y a = some (if inb a (q_nb d) then 1 else 0) := by
  have := w.1
  unfold f_X8_isBlock
  rw [h.1, f_in_n a (by omega), bind_s, wgd_t (okZ_b _)]
theorem x_needRecord {d : mD} {X : wM} (h : RX d X) (w : q_ok d) (a : Int32) : f_X7_needRecord X a = if inb a (q_nr d) then some (.inr ()) else some (.inl 5) := by
  have := w.2.2.2.1
  unfold f_X7_needRecord f_X7_needRecord_15
  rw [h.2.2.2.1, x_in a (by omega)]
theorem y_isRecord {d : mD} {Y : wM} (h : RY d Y) (w : q_ok d) (a : Int32) : f_X8_isRecord Y a = some (if inb a (q_nr d) then 1 else 0) := by
  have := w.2.2.2.1
  unfold f_X8_isRecord
  rw [h.2.2.2.1, f_in_n a (by omega), bind_s, wgd_t (okZ_b _)]
theorem x_hasAddress {d : mD} {X : wM} (h : RX d X) (w : q_ok d) (a : Int32) : f_X4_hasAddress X a = some (if inb a (q_na d) then 1 else 0) := by
  have := w.2.1
  unfold f_X4_hasAddress f_X4_hasAddress_16 f_X4_hasAddress_17
  rw [h.2.1, x_in a (by omega), wgd_t okZ_0, wgd_t okZ_1]
  cases inb a (q_na d) <;> rfl
theorem x_needAddress {d : mD} {X : wM} (h : RX d X) (w : q_ok d) (a : Int32) : f_X7_needAddress X a = if inb a (q_na d) then some (.inr ()) else some (.inl 2) := by
  unfold f_X7_needAddress
  rw [x_hasAddress h w, bind_s, b_ite]
theorem x_needGroup (a : Int32) : f_X7_needGroup a = if inb a 4 then some (.inr ()) else some (.inl 1) := by
  unfold f_X7_needGroup f_X7_needGroup_9
  rw [L4, x_in a (by omega)]
theorem y_checked (Y : wM) (b : Bool) : f_X8_checked Y (if b then 1 else 0) = some (if b then 0 else 1, updM Y 22 (upd (Y 22) 14 (if b then 0 else 1))) := by
  unfold f_X8_checked f_X8_checked_10
  rw [b_ite]
  cases b
  · rw [if_neg (by decide), wfld_e, updM_s, upd_s]; rfl
  · rw [if_pos rfl, wfld_e, updM_s, upd_s]; rfl
/-- what an operation that changes something answers -/
def OM (cd : Nat → Nat) (fx : Option ((Nat × wM) ⊕ (Int32 × wM))) (fy : Option (Int32 × wM)) : Prop := ∃ d' T' X' Y', INV d' T' X' Y' ∧ ((∃ v, fx = some (.inr (v, X')) ∧ fy = some (v, Y') ∧ Y' 22 14 = 0) ∨ ∃ e v, fx = some (.inl (e, X')) ∧ fy = some (v, Y') ∧ 0 < cd e ∧ cd e < 10 ∧ Y' 22 14 = nI (cd e))
/-- what a question answers -/
def OQ {α β : Type} (cd : Nat → Nat) (R : α → β → Prop) (d : mD) (T : mT) (X : wM) (fx : Option (Nat ⊕ α)) (fy : Option (β × wM)) : Prop := ∃ v Y', fy = some (v, Y') ∧ INV d T X Y' ∧ ((∃ u, fx = some (.inr u) ∧ R u v ∧ Y' 22 14 = 0) ∨ ∃ e, fx = some (.inl e) ∧ 0 < cd e ∧ cd e < 10 ∧ Y' 22 14 = nI (cd e))
/-- the reference's other cells may change -/
theorem INV.Y {d : mD} {T : mT} {X Y Y' : wM} (h : INV d T X Y) (e : ∀ k, 23 ≤ k → k ≤ 36 → k ≠ 27 → k ≠ 28 → k ≠ 31 → k ≠ 34 → Y' k = Y k) (e2 : ∀ j, 15 ≤ j → j ≤ 23 → Y' 22 j = Y 22 j) : INV d T X Y' := by
  obtain ⟨⟨w, hx, hy, tx, ty, ok, hl⟩, kx⟩ := h
  refine ⟨⟨w, hx, hy.congr (fun k a b c f => e k a (by omega) c f (by omega) (by omega)) (fun j a b _ => e2 j a b), tx, ⟨by rw [e2 18 (by decide) (by decide)]; exact ty.1, ty.2.1, fun i hi => ?_, fun i hi => by rw [e 32 (by decide) (by decide) (by decide) (by decide) (by decide) (by decide)]; exact ty.2.2.2 i hi⟩, ok, hl.cong (fun _ _ _ => rfl) (fun _ => rfl) (e 33 (by decide) (by decide) (by decide) (by decide) (by decide) (by decide))⟩, kx⟩
  obtain ⟨t1, t2, t3⟩ := ty.2.2.1 i hi
  unfold TYi
  rw [e 36 (by decide) (by decide) (by decide) (by decide) (by decide) (by decide), e 35 (by decide) (by decide) (by decide) (by decide) (by decide) (by decide), e 32 (by decide) (by decide) (by decide) (by decide) (by decide) (by decide)]
  exact ⟨t1, t2, t3⟩
/-- the mark of the reference's last throw -/
def thr (Y : wM) (x : Int32) : wM := updM Y 22 (upd (Y 22) 14 x)
theorem thr_14 (Y : wM) (x : Int32) : thr Y x 22 14 = x := by unfold thr; rw [updM_s, upd_s]
theorem thr_o (Y : wM) (x : Int32) {k : Nat} (h : k ≠ 22) : thr Y x k = Y k := updM_ne _ _ h
theorem thr_f (Y : wM) (x : Int32) {j : Nat} (h : j ≠ 14) : thr Y x 22 j = Y 22 j := by unfold thr; rw [updM_s, upd_n _ _ h]
theorem INV.thr {d : mD} {T : mT} {X Y : wM} (h : INV d T X Y) (x : Int32) : INV d T X (thr Y x) := h.Y (fun k a _ _ _ _ _ => thr_o Y x (by omega)) (fun j a _ => thr_f Y x (by omega))
theorem RY.thr {d : mD} {Y : wM} (h : RY d Y) (x : Int32) : RY d (thr Y x) := h.congr (fun k a _ _ _ => thr_o Y x (by omega)) (fun j a _ _ => thr_f Y x (by omega))
