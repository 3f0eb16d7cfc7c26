theorem dt {c : ByteArray} {l : List (Nat × Instr × Nat)} (h : ∀ q ∈ l, decode c q.1 = .ok q.2) (i : Nat) {pc : Nat} {ins : Instr} {len : Nat} (e : l[i]? = some (pc, ins, len)) : decode c pc = .ok (ins, len) := by
  have h1 := h (pc, ins, len) (List.mem_of_getElem? e)
  exact h1
/-! the world: every cell of the class's and the reference's own state, the law's two answer arrays, and the tables told so far -/
abbrev wM : Type := Nat → Nat → Int32
/-- the tables' addresses, and further cells that lie beside the world -/
abbrev wX : Type := (Nat → Nat) × va_W
abbrev wR : Type := Int64 × UInt64 × wX
abbrev wS : Type := wM × wM × wR
abbrev wB : Type := Nat × (Nat → Nat) × (Nat → ClassId) × (Nat → Nat → Nat) × (Nat → ClassId) × (Nat → Nat)
def wad (B : wB) : Nat → Nat := B.2.1
def wdG (B : wB) : va_G := (B.2.2.1, B.2.2.2.1)
def wdA (B : wB) : Nat → ClassId := B.2.2.2.2.1
def wsa (B : wB) : Nat → Nat := B.2.2.2.2.2
def wA (B : wB) : Nat → Prop := fun q => B.1 ≤ q
def updM (X : wM) (k : Nat) (g : Nat → Int32) : wM := fun j => if j = k then g else X j
theorem updM_self (X : wM) (k : Nat) (g : Nat → Int32) : updM X k g k = g := if_pos rfl
theorem updM_ne (X : wM) {k j : Nat} (g : Nat → Int32) (h : j ≠ k) : updM X k g j = X j := if_neg h
/-- how many tables there are -/
def wT (X : wM) : Nat := (X 0 7).toNatClampNeg
def wTf (X : wM) (td : Nat → Nat) : Nat → Option Nat := fun i => if i < wT X then some (td (4 * i)) else none
def wo1 (o : Int64) : Nat → Int64 := fun j => if j = 0 then o else 0
def wo2 (o : UInt64) : Nat → UInt64 := fun j => if j = 0 then o else 0
theorem wo1_set (o v : Int64) : vp_updL (wo1 o) 0 v = wo1 v := by
  funext j
  unfold vp_updL wo1
  split <;> rfl
theorem wo2_set (o v : UInt64) : vf_upd (wo2 o) 0 v = wo2 v := by
  funext j
  unfold vf_upd wo2
  split <;> rfl
def wty (B : wB) : List (ClassId × FieldType) := [(wdA B 0, .int), (wdA B 1, .boolean), (wdA B 2, .char), (wdA B 3, .object "CensusLoom$Table"), (wdA B 4, .byte), (wdA B 5, .long), (wdA B 6, .double)]
def wst (B : wB) (σ : wS) : va_W := [
  (wad B 0, .inr (9, [.ref (wad B 1), .ref (wad B 3), .ref (wad B 8), .ref (wad B 10), .ref (wad B 13), .ref (wad B 16), .ref (wad B 21), .int (σ.1 0 7)])),
  (wad B 1, .inr (6, [.ref (wad B 2), .int (σ.1 1 1), .int (σ.1 1 2)])),
  (wad B 2, .inl (wdA B 0, 20, .inl (σ.1 2))),
  (wad B 3, .inr (5, [.ref (wad B 1), .ref (wad B 4), .ref (wad B 5), .ref (wad B 6), .ref (wad B 7), .int (σ.1 3 5)])),
  (wad B 4, .inl (wdA B 1, 40, .inl (σ.1 4))),
  (wad B 5, .inl (wdA B 0, 40, .inl (σ.1 5))),
  (wad B 6, .inl (wdA B 0, 40, .inl (σ.1 6))),
  (wad B 7, .inl (wdA B 0, 40, .inl (σ.1 7))),
  (wad B 8, .inr (3, [.ref (wad B 3), .ref (wad B 9), .int (σ.1 8 2), .int (σ.1 8 3), .int (σ.1 8 4), .int (σ.1 8 5), .int (σ.1 8 6)])),
  (wad B 9, .inl (wdA B 2, 1600, .inl (σ.1 9))),
  (wad B 10, .inr (8, [.ref (wad B 3), .ref (wad B 8), .ref (wad B 11), .ref (wad B 12), .int (σ.1 10 4), .int (σ.1 10 5)])),
  (wad B 11, .inl (wdA B 1, 40, .inl (σ.1 11))),
  (wad B 12, .inl (wdA B 0, 24, .inl (σ.1 12))),
  (wad B 13, .inr (8, [.ref (wad B 3), .ref (wad B 8), .ref (wad B 14), .ref (wad B 15), .int (σ.1 13 4), .int (σ.1 13 5)])),
  (wad B 14, .inl (wdA B 1, 40, .inl (σ.1 14))),
  (wad B 15, .inl (wdA B 0, 24, .inl (σ.1 15))),
  (wad B 16, .inr (4, [.ref (wad B 3), .ref (wad B 8), .ref (wad B 10), .ref (wad B 17), .ref (wad B 18), .ref (wad B 19), .ref (wad B 20), .int (σ.1 16 7), .int (σ.1 16 8), .int (σ.1 16 9)])),
  (wad B 17, .inl (wdA B 0, 40, .inl (σ.1 17))),
  (wad B 18, .inl (wdA B 0, 400, .inl (σ.1 18))),
  (wad B 19, .inl (wdA B 0, 400, .inl (σ.1 19))),
  (wad B 20, .inl (wdA B 0, 400, .inl (σ.1 20))),
  (wad B 21, .inl (wdA B 3, 8, .inr (.inr (.inr (.inr (wTf σ.1 σ.2.2.2.2.1)))))),
  (wad B 22, .inr (10, [.ref (wad B 23), .ref (wad B 24), .ref (wad B 25), .ref (wad B 26), .ref (wad B 27), .ref (wad B 28), .ref (wad B 29), .ref (wad B 30), .ref (wad B 31), .ref (wad B 32), .ref (wad B 33), .ref (wad B 34), .ref (wad B 35), .ref (wad B 36), .int (σ.2.1 22 14), .int (σ.2.1 22 15), .int (σ.2.1 22 16), .int (σ.2.1 22 17), .int (σ.2.1 22 18), .int (σ.2.1 22 19), .int (σ.2.1 22 20), .int (σ.2.1 22 21), .int (σ.2.1 22 22), .int (σ.2.1 22 23), .int (σ.2.1 22 24), .int (σ.2.1 22 25)])),
  (wad B 23, .inl (wdA B 0, 20, .inl (σ.2.1 23))),
  (wad B 24, .inl (wdA B 0, 40, .inl (σ.2.1 24))),
  (wad B 25, .inl (wdA B 0, 40, .inl (σ.2.1 25))),
  (wad B 26, .inl (wdA B 0, 40, .inl (σ.2.1 26))),
  (wad B 27, .inl (wdA B 0, 40, .inl (σ.2.1 27))),
  (wad B 28, .inl (wdA B 0, 24, .inl (σ.2.1 28))),
  (wad B 29, .inl (wdA B 2, 40, .inl (σ.2.1 29))),
  (wad B 30, .inl (wdA B 2, 1600, .inl (σ.2.1 30))),
  (wad B 31, .inl (wdA B 1, 40, .inl (σ.2.1 31))),
  (wad B 32, .inl (wdA B 1, 8, .inl (σ.2.1 32))),
  (wad B 33, .inl (wdA B 1, 192, .inl (σ.2.1 33))),
  (wad B 34, .inl (wdA B 1, 10, .inl (σ.2.1 34))),
  (wad B 35, .inl (wdA B 0, 192, .inl (σ.2.1 35))),
  (wad B 36, .inl (wdA B 0, 8, .inl (σ.2.1 36))),
  (wad B 37, .inl (wdA B 5, 1, .inr (.inl (wo1 σ.2.2.1)))),
  (wad B 38, .inl (wdA B 6, 1, .inr (.inr (.inr (.inl (wo2 σ.2.2.2.1))))))]
/-- the cells of table j / 4: the object, its counts, its line, the line's bytes -/
def wtc (B : wB) (X : wM) (td : Nat → Nat) (j : Nat) : Nat → va_E := fun c => match c with
  | 0 => .inr (7, [.int (X (39 + j) 0), .ref (td (j + 1)), .int (X (39 + j) 2), .ref (td (j + 2)), .int (X (39 + j) 4)])
  | 1 => .inl (wdA B 0, 24, .inl (X (39 + j)))
  | 2 => .inr (0, [.ref (td (j + 1)), .int (X (39 + j) 1), .int (X (39 + j) 2), .int (X (39 + j) 3)])
  | _ => .inl (wdA B 4, (X (39 + j) 1000).toNatClampNeg, .inl (X (39 + j)))
def wtb (B : wB) (σ : wS) (j : Nat) : Nat × va_E := (σ.2.2.2.2.1 j, wtc B σ.1 σ.2.2.2.2.1 j (j % 4))
def wl (B : wB) (σ : wS) : va_W := wst B σ ++ ((List.range (4 * wT σ.1)).map (wtb B σ) ++ σ.2.2.2.2.2)
theorem wst_len (B : wB) (σ : wS) : (wst B σ).length = 39 := rfl
theorem wl_st {B : wB} {σ : wS} {k : Nat} {q : Nat × va_E} (h : (wst B σ)[k]? = some q) : (wl B σ)[k]? = some q := by
  have hl := (List.getElem?_eq_some_iff.mp h).1
  rw [wl, List.getElem?_append_left hl]
  exact h
theorem wl_tb (B : wB) (σ : wS) {j : Nat} (h : j < 4 * wT σ.1) : (wl B σ)[39 + j]? = some (wtb B σ j) := by
  rw [wl, List.getElem?_append_right (by rw [wst_len]; omega), wst_len, show 39 + j - 39 = j by omega, List.getElem?_append_left (by simp; exact h), List.getElem?_map, List.getElem?_range h]
  rfl
theorem wl_ex (B : wB) (σ : wS) (j : Nat) : (wl B σ)[39 + (4 * wT σ.1 + j)]? = σ.2.2.2.2.2[j]? := by
  rw [wl, List.getElem?_append_right (by rw [wst_len]; omega), wst_len, List.getElem?_append_right (by simp)]
  congr 1
  simp
theorem wtc_upd (B : wB) (X : wM) (td : Nat → Nat) (j : Nat) {k : Nat} (g : Nat → Int32) (h : 39 + j ≠ k) (c : Nat) : wtc B (updM X k g) td j c = wtc B X td j c := by
  unfold wtc
  rw [updM_ne X g h]
theorem wl_set_st {B : wB} {σ σ' : wS} {k : Nat} {q : Nat × va_E} (hk : k < 39) (hT : wT σ'.1 = wT σ.1) (hd : σ'.2.2.2.2 = σ.2.2.2.2) (hX : ∀ j, σ'.1 (39 + j) = σ.1 (39 + j)) (h : (wst B σ).set k q = wst B σ') : (wl B σ).set k q = wl B σ' := by
  rw [wl, List.set_append_left _ _ (by rw [wst_len]; exact hk), h, wl, hT, hd]
  congr 2
  refine List.map_congr_left (fun j _ => ?_)
  unfold wtb wtc
  rw [hd, hX]
theorem wst_updT (B : wB) (X : wM) (r : wM × wR) (j : Nat) (g : Nat → Int32) : wst B (updM X (39 + j) g, r) = wst B (X, r) := by
  have e0 : ∀ k, k < 39 → updM X (39 + j) g k = X k := fun k hk => updM_ne X g (by omega)
  have hT : wT (updM X (39 + j) g) = wT X := by unfold wT; rw [e0 0 (by omega)]
  unfold wst wTf
  simp only [hT]
  rw [e0 0 (by omega), e0 1 (by omega), e0 2 (by omega), e0 3 (by omega), e0 4 (by omega), e0 5 (by omega), e0 6 (by omega), e0 7 (by omega), e0 8 (by omega), e0 9 (by omega), e0 10 (by omega), e0 11 (by omega), e0 12 (by omega), e0 13 (by omega), e0 14 (by omega), e0 15 (by omega), e0 16 (by omega), e0 17 (by omega), e0 18 (by omega), e0 19 (by omega), e0 20 (by omega)]
theorem wT_updT (X : wM) (j : Nat) (g : Nat → Int32) : wT (updM X (39 + j) g) = wT X := by
  unfold wT
  rw [updM_ne X g (by omega)]
theorem wtb_updT (B : wB) (X : wM) (r : wM × wR) {j a : Nat} (g : Nat → Int32) (h : a ≠ j) : wtb B (updM X (39 + j) g, r) a = wtb B (X, r) a := by
  unfold wtb
  dsimp only
  rw [wtc_upd _ _ _ _ _ (by omega)]
theorem wtbs_set (B : wB) (X : wM) (r : wM × wR) {j n : Nat} (g : Nat → Int32) (hj : j < n) : ((List.range n).map (wtb B (X, r))).set j (wtb B (updM X (39 + j) g, r) j) = (List.range n).map (wtb B (updM X (39 + j) g, r)) := by
  apply List.ext_getElem?
  intro a
  by_cases ha : a = j
  · rw [ha, List.getElem?_set_self (by simp; exact hj), List.getElem?_map, List.getElem?_range hj, Option.map_some]
  · rw [List.getElem?_set_ne (Ne.symm ha), List.getElem?_map, List.getElem?_map]
    by_cases hb : a < n
    · rw [List.getElem?_range hb, Option.map_some, Option.map_some, wtb_updT _ _ _ _ ha]
    · rw [List.getElem?_eq_none (by simp; omega), Option.map_none, Option.map_none]
/-- the table cells are set -/
theorem wl_set_tb {B : wB} {X : wM} {r : wM × wR} {j : Nat} {g : Nat → Int32} {q : Nat × va_E} (hj : j < 4 * wT X) (hq : q = wtb B (updM X (39 + j) g, r) j) : (wl B (X, r)).set (39 + j) q = wl B (updM X (39 + j) g, r) := by
  have e1 : wl B (X, r) = wst B (X, r) ++ ((List.range (4 * wT X)).map (wtb B (X, r)) ++ r.2.2.2.2) := rfl
  have e2 : wl B (updM X (39 + j) g, r) = wst B (updM X (39 + j) g, r) ++ ((List.range (4 * wT (updM X (39 + j) g))).map (wtb B (updM X (39 + j) g, r)) ++ r.2.2.2.2) := rfl
  rw [e1, e2, wst_updT, wT_updT, hq, List.set_append_right _ _ (by rw [wst_len]; omega), wst_len, show 39 + j - 39 = j by omega, List.set_append_left _ _ (by simp; exact hj), wtbs_set B X r g hj]
theorem cv_0 (B : wB) (X Y : wM) (r : wR) : (wl B (X, Y, r))[0]? = some (wad B 0, .inr (9, [.ref (wad B 1), .ref (wad B 3), .ref (wad B 8), .ref (wad B 10), .ref (wad B 13), .ref (wad B 16), .ref (wad B 21), .int (X 0 7)])) := wl_st rfl
theorem cv_1 (B : wB) (X Y : wM) (r : wR) : (wl B (X, Y, r))[1]? = some (wad B 1, .inr (6, [.ref (wad B 2), .int (X 1 1), .int (X 1 2)])) := wl_st rfl
theorem cs_1 (B : wB) (X Y : wM) (r : wR) (g : Nat → Int32) : (wl B (X, Y, r)).set 1 (wad B 1, .inr (6, [.ref (wad B 2), .int (g 1), .int (g 2)])) = wl B (updM X 1 g, Y, r) := wl_set_st (by decide) rfl rfl (fun j => updM_ne X g (by omega)) rfl
theorem cv_2 (B : wB) (X Y : wM) (r : wR) : (wl B (X, Y, r))[2]? = some (wad B 2, .inl (wdA B 0, 20, .inl (X 2))) := wl_st rfl
theorem cs_2 (B : wB) (X Y : wM) (r : wR) (g : Nat → Int32) : (wl B (X, Y, r)).set 2 (wad B 2, .inl (wdA B 0, 20, .inl g)) = wl B (updM X 2 g, Y, r) := wl_set_st (by decide) rfl rfl (fun j => updM_ne X g (by omega)) rfl
theorem cv_3 (B : wB) (X Y : wM) (r : wR) : (wl B (X, Y, r))[3]? = some (wad B 3, .inr (5, [.ref (wad B 1), .ref (wad B 4), .ref (wad B 5), .ref (wad B 6), .ref (wad B 7), .int (X 3 5)])) := wl_st rfl
theorem cs_3 (B : wB) (X Y : wM) (r : wR) (g : Nat → Int32) : (wl B (X, Y, r)).set 3 (wad B 3, .inr (5, [.ref (wad B 1), .ref (wad B 4), .ref (wad B 5), .ref (wad B 6), .ref (wad B 7), .int (g 5)])) = wl B (updM X 3 g, Y, r) := wl_set_st (by decide) rfl rfl (fun j => updM_ne X g (by omega)) rfl
theorem cv_4 (B : wB) (X Y : wM) (r : wR) : (wl B (X, Y, r))[4]? = some (wad B 4, .inl (wdA B 1, 40, .inl (X 4))) := wl_st rfl
theorem cs_4 (B : wB) (X Y : wM) (r : wR) (g : Nat → Int32) : (wl B (X, Y, r)).set 4 (wad B 4, .inl (wdA B 1, 40, .inl g)) = wl B (updM X 4 g, Y, r) := wl_set_st (by decide) rfl rfl (fun j => updM_ne X g (by omega)) rfl
theorem cv_5 (B : wB) (X Y : wM) (r : wR) : (wl B (X, Y, r))[5]? = some (wad B 5, .inl (wdA B 0, 40, .inl (X 5))) := wl_st rfl
theorem cs_5 (B : wB) (X Y : wM) (r : wR) (g : Nat → Int32) : (wl B (X, Y, r)).set 5 (wad B 5, .inl (wdA B 0, 40, .inl g)) = wl B (updM X 5 g, Y, r) := wl_set_st (by decide) rfl rfl (fun j => updM_ne X g (by omega)) rfl
theorem cv_6 (B : wB) (X Y : wM) (r : wR) : (wl B (X, Y, r))[6]? = some (wad B 6, .inl (wdA B 0, 40, .inl (X 6))) := wl_st rfl
theorem cs_6 (B : wB) (X Y : wM) (r : wR) (g : Nat → Int32) : (wl B (X, Y, r)).set 6 (wad B 6, .inl (wdA B 0, 40, .inl g)) = wl B (updM X 6 g, Y, r) := wl_set_st (by decide) rfl rfl (fun j => updM_ne X g (by omega)) rfl
theorem cv_7 (B : wB) (X Y : wM) (r : wR) : (wl B (X, Y, r))[7]? = some (wad B 7, .inl (wdA B 0, 40, .inl (X 7))) := wl_st rfl
theorem cs_7 (B : wB) (X Y : wM) (r : wR) (g : Nat → Int32) : (wl B (X, Y, r)).set 7 (wad B 7, .inl (wdA B 0, 40, .inl g)) = wl B (updM X 7 g, Y, r) := wl_set_st (by decide) rfl rfl (fun j => updM_ne X g (by omega)) rfl
theorem cv_8 (B : wB) (X Y : wM) (r : wR) : (wl B (X, Y, r))[8]? = some (wad B 8, .inr (3, [.ref (wad B 3), .ref (wad B 9), .int (X 8 2), .int (X 8 3), .int (X 8 4), .int (X 8 5), .int (X 8 6)])) := wl_st rfl
theorem cs_8 (B : wB) (X Y : wM) (r : wR) (g : Nat → Int32) : (wl B (X, Y, r)).set 8 (wad B 8, .inr (3, [.ref (wad B 3), .ref (wad B 9), .int (g 2), .int (g 3), .int (g 4), .int (g 5), .int (g 6)])) = wl B (updM X 8 g, Y, r) := wl_set_st (by decide) rfl rfl (fun j => updM_ne X g (by omega)) rfl
theorem cv_9 (B : wB) (X Y : wM) (r : wR) : (wl B (X, Y, r))[9]? = some (wad B 9, .inl (wdA B 2, 1600, .inl (X 9))) := wl_st rfl
theorem cs_9 (B : wB) (X Y : wM) (r : wR) (g : Nat → Int32) : (wl B (X, Y, r)).set 9 (wad B 9, .inl (wdA B 2, 1600, .inl g)) = wl B (updM X 9 g, Y, r) := wl_set_st (by decide) rfl rfl (fun j => updM_ne X g (by omega)) rfl
theorem cv_10 (B : wB) (X Y : wM) (r : wR) : (wl B (X, Y, r))[10]? = some (wad B 10, .inr (8, [.ref (wad B 3), .ref (wad B 8), .ref (wad B 11), .ref (wad B 12), .int (X 10 4), .int (X 10 5)])) := wl_st rfl
theorem cs_10 (B : wB) (X Y : wM) (r : wR) (g : Nat → Int32) : (wl B (X, Y, r)).set 10 (wad B 10, .inr (8, [.ref (wad B 3), .ref (wad B 8), .ref (wad B 11), .ref (wad B 12), .int (g 4), .int (g 5)])) = wl B (updM X 10 g, Y, r) := wl_set_st (by decide) rfl rfl (fun j => updM_ne X g (by omega)) rfl
theorem cv_11 (B : wB) (X Y : wM) (r : wR) : (wl B (X, Y, r))[11]? = some (wad B 11, .inl (wdA B 1, 40, .inl (X 11))) := wl_st rfl
theorem cs_11 (B : wB) (X Y : wM) (r : wR) (g : Nat → Int32) : (wl B (X, Y, r)).set 11 (wad B 11, .inl (wdA B 1, 40, .inl g)) = wl B (updM X 11 g, Y, r) := wl_set_st (by decide) rfl rfl (fun j => updM_ne X g (by omega)) rfl
theorem cv_12 (B : wB) (X Y : wM) (r : wR) : (wl B (X, Y, r))[12]? = some (wad B 12, .inl (wdA B 0, 24, .inl (X 12))) := wl_st rfl
theorem cs_12 (B : wB) (X Y : wM) (r : wR) (g : Nat → Int32) : (wl B (X, Y, r)).set 12 (wad B 12, .inl (wdA B 0, 24, .inl g)) = wl B (updM X 12 g, Y, r) := wl_set_st (by decide) rfl rfl (fun j => updM_ne X g (by omega)) rfl
theorem cv_13 (B : wB) (X Y : wM) (r : wR) : (wl B (X, Y, r))[13]? = some (wad B 13, .inr (8, [.ref (wad B 3), .ref (wad B 8), .ref (wad B 14), .ref (wad B 15), .int (X 13 4), .int (X 13 5)])) := wl_st rfl
theorem cs_13 (B : wB) (X Y : wM) (r : wR) (g : Nat → Int32) : (wl B (X, Y, r)).set 13 (wad B 13, .inr (8, [.ref (wad B 3), .ref (wad B 8), .ref (wad B 14), .ref (wad B 15), .int (g 4), .int (g 5)])) = wl B (updM X 13 g, Y, r) := wl_set_st (by decide) rfl rfl (fun j => updM_ne X g (by omega)) rfl
theorem cv_14 (B : wB) (X Y : wM) (r : wR) : (wl B (X, Y, r))[14]? = some (wad B 14, .inl (wdA B 1, 40, .inl (X 14))) := wl_st rfl
theorem cs_14 (B : wB) (X Y : wM) (r : wR) (g : Nat → Int32) : (wl B (X, Y, r)).set 14 (wad B 14, .inl (wdA B 1, 40, .inl g)) = wl B (updM X 14 g, Y, r) := wl_set_st (by decide) rfl rfl (fun j => updM_ne X g (by omega)) rfl
theorem cv_15 (B : wB) (X Y : wM) (r : wR) : (wl B (X, Y, r))[15]? = some (wad B 15, .inl (wdA B 0, 24, .inl (X 15))) := wl_st rfl
theorem cs_15 (B : wB) (X Y : wM) (r : wR) (g : Nat → Int32) : (wl B (X, Y, r)).set 15 (wad B 15, .inl (wdA B 0, 24, .inl g)) = wl B (updM X 15 g, Y, r) := wl_set_st (by decide) rfl rfl (fun j => updM_ne X g (by omega)) rfl
theorem cv_16 (B : wB) (X Y : wM) (r : wR) : (wl B (X, Y, r))[16]? = some (wad B 16, .inr (4, [.ref (wad B 3), .ref (wad B 8), .ref (wad B 10), .ref (wad B 17), .ref (wad B 18), .ref (wad B 19), .ref (wad B 20), .int (X 16 7), .int (X 16 8), .int (X 16 9)])) := wl_st rfl
theorem cs_16 (B : wB) (X Y : wM) (r : wR) (g : Nat → Int32) : (wl B (X, Y, r)).set 16 (wad B 16, .inr (4, [.ref (wad B 3), .ref (wad B 8), .ref (wad B 10), .ref (wad B 17), .ref (wad B 18), .ref (wad B 19), .ref (wad B 20), .int (g 7), .int (g 8), .int (g 9)])) = wl B (updM X 16 g, Y, r) := wl_set_st (by decide) rfl rfl (fun j => updM_ne X g (by omega)) rfl
theorem cv_17 (B : wB) (X Y : wM) (r : wR) : (wl B (X, Y, r))[17]? = some (wad B 17, .inl (wdA B 0, 40, .inl (X 17))) := wl_st rfl
theorem cs_17 (B : wB) (X Y : wM) (r : wR) (g : Nat → Int32) : (wl B (X, Y, r)).set 17 (wad B 17, .inl (wdA B 0, 40, .inl g)) = wl B (updM X 17 g, Y, r) := wl_set_st (by decide) rfl rfl (fun j => updM_ne X g (by omega)) rfl
theorem cv_18 (B : wB) (X Y : wM) (r : wR) : (wl B (X, Y, r))[18]? = some (wad B 18, .inl (wdA B 0, 400, .inl (X 18))) := wl_st rfl
theorem cs_18 (B : wB) (X Y : wM) (r : wR) (g : Nat → Int32) : (wl B (X, Y, r)).set 18 (wad B 18, .inl (wdA B 0, 400, .inl g)) = wl B (updM X 18 g, Y, r) := wl_set_st (by decide) rfl rfl (fun j => updM_ne X g (by omega)) rfl
theorem cv_19 (B : wB) (X Y : wM) (r : wR) : (wl B (X, Y, r))[19]? = some (wad B 19, .inl (wdA B 0, 400, .inl (X 19))) := wl_st rfl
theorem cs_19 (B : wB) (X Y : wM) (r : wR) (g : Nat → Int32) : (wl B (X, Y, r)).set 19 (wad B 19, .inl (wdA B 0, 400, .inl g)) = wl B (updM X 19 g, Y, r) := wl_set_st (by decide) rfl rfl (fun j => updM_ne X g (by omega)) rfl
theorem cv_20 (B : wB) (X Y : wM) (r : wR) : (wl B (X, Y, r))[20]? = some (wad B 20, .inl (wdA B 0, 400, .inl (X 20))) := wl_st rfl
theorem cs_20 (B : wB) (X Y : wM) (r : wR) (g : Nat → Int32) : (wl B (X, Y, r)).set 20 (wad B 20, .inl (wdA B 0, 400, .inl g)) = wl B (updM X 20 g, Y, r) := wl_set_st (by decide) rfl rfl (fun j => updM_ne X g (by omega)) rfl
theorem cv_22 (B : wB) (X Y : wM) (r : wR) : (wl B (X, Y, r))[22]? = some (wad B 22, .inr (10, [.ref (wad B 23), .ref (wad B 24), .ref (wad B 25), .ref (wad B 26), .ref (wad B 27), .ref (wad B 28), .ref (wad B 29), .ref (wad B 30), .ref (wad B 31), .ref (wad B 32), .ref (wad B 33), .ref (wad B 34), .ref (wad B 35), .ref (wad B 36), .int (Y 22 14), .int (Y 22 15), .int (Y 22 16), .int (Y 22 17), .int (Y 22 18), .int (Y 22 19), .int (Y 22 20), .int (Y 22 21), .int (Y 22 22), .int (Y 22 23), .int (Y 22 24), .int (Y 22 25)])) := wl_st rfl
theorem cs_22 (B : wB) (X Y : wM) (r : wR) (g : Nat → Int32) : (wl B (X, Y, r)).set 22 (wad B 22, .inr (10, [.ref (wad B 23), .ref (wad B 24), .ref (wad B 25), .ref (wad B 26), .ref (wad B 27), .ref (wad B 28), .ref (wad B 29), .ref (wad B 30), .ref (wad B 31), .ref (wad B 32), .ref (wad B 33), .ref (wad B 34), .ref (wad B 35), .ref (wad B 36), .int (g 14), .int (g 15), .int (g 16), .int (g 17), .int (g 18), .int (g 19), .int (g 20), .int (g 21), .int (g 22), .int (g 23), .int (g 24), .int (g 25)])) = wl B (X, updM Y 22 g, r) := wl_set_st (by decide) rfl rfl (fun _ => rfl) rfl
theorem cv_23 (B : wB) (X Y : wM) (r : wR) : (wl B (X, Y, r))[23]? = some (wad B 23, .inl (wdA B 0, 20, .inl (Y 23))) := wl_st rfl
theorem cs_23 (B : wB) (X Y : wM) (r : wR) (g : Nat → Int32) : (wl B (X, Y, r)).set 23 (wad B 23, .inl (wdA B 0, 20, .inl g)) = wl B (X, updM Y 23 g, r) := wl_set_st (by decide) rfl rfl (fun _ => rfl) rfl
theorem cv_24 (B : wB) (X Y : wM) (r : wR) : (wl B (X, Y, r))[24]? = some (wad B 24, .inl (wdA B 0, 40, .inl (Y 24))) := wl_st rfl
theorem cs_24 (B : wB) (X Y : wM) (r : wR) (g : Nat → Int32) : (wl B (X, Y, r)).set 24 (wad B 24, .inl (wdA B 0, 40, .inl g)) = wl B (X, updM Y 24 g, r) := wl_set_st (by decide) rfl rfl (fun _ => rfl) rfl
theorem cv_25 (B : wB) (X Y : wM) (r : wR) : (wl B (X, Y, r))[25]? = some (wad B 25, .inl (wdA B 0, 40, .inl (Y 25))) := wl_st rfl
theorem cs_25 (B : wB) (X Y : wM) (r : wR) (g : Nat → Int32) : (wl B (X, Y, r)).set 25 (wad B 25, .inl (wdA B 0, 40, .inl g)) = wl B (X, updM Y 25 g, r) := wl_set_st (by decide) rfl rfl (fun _ => rfl) rfl
theorem cv_26 (B : wB) (X Y : wM) (r : wR) : (wl B (X, Y, r))[26]? = some (wad B 26, .inl (wdA B 0, 40, .inl (Y 26))) := wl_st rfl
theorem cs_26 (B : wB) (X Y : wM) (r : wR) (g : Nat → Int32) : (wl B (X, Y, r)).set 26 (wad B 26, .inl (wdA B 0, 40, .inl g)) = wl B (X, updM Y 26 g, r) := wl_set_st (by decide) rfl rfl (fun _ => rfl) rfl
theorem cv_27 (B : wB) (X Y : wM) (r : wR) : (wl B (X, Y, r))[27]? = some (wad B 27, .inl (wdA B 0, 40, .inl (Y 27))) := wl_st rfl
theorem cs_27 (B : wB) (X Y : wM) (r : wR) (g : Nat → Int32) : (wl B (X, Y, r)).set 27 (wad B 27, .inl (wdA B 0, 40, .inl g)) = wl B (X, updM Y 27 g, r) := wl_set_st (by decide) rfl rfl (fun _ => rfl) rfl
theorem cv_28 (B : wB) (X Y : wM) (r : wR) : (wl B (X, Y, r))[28]? = some (wad B 28, .inl (wdA B 0, 24, .inl (Y 28))) := wl_st rfl
theorem cs_28 (B : wB) (X Y : wM) (r : wR) (g : Nat → Int32) : (wl B (X, Y, r)).set 28 (wad B 28, .inl (wdA B 0, 24, .inl g)) = wl B (X, updM Y 28 g, r) := wl_set_st (by decide) rfl rfl (fun _ => rfl) rfl
theorem cv_29 (B : wB) (X Y : wM) (r : wR) : (wl B (X, Y, r))[29]? = some (wad B 29, .inl (wdA B 2, 40, .inl (Y 29))) := wl_st rfl
theorem cs_29 (B : wB) (X Y : wM) (r : wR) (g : Nat → Int32) : (wl B (X, Y, r)).set 29 (wad B 29, .inl (wdA B 2, 40, .inl g)) = wl B (X, updM Y 29 g, r) := wl_set_st (by decide) rfl rfl (fun _ => rfl) rfl
theorem cv_30 (B : wB) (X Y : wM) (r : wR) : (wl B (X, Y, r))[30]? = some (wad B 30, .inl (wdA B 2, 1600, .inl (Y 30))) := wl_st rfl
theorem cs_30 (B : wB) (X Y : wM) (r : wR) (g : Nat → Int32) : (wl B (X, Y, r)).set 30 (wad B 30, .inl (wdA B 2, 1600, .inl g)) = wl B (X, updM Y 30 g, r) := wl_set_st (by decide) rfl rfl (fun _ => rfl) rfl
theorem cv_31 (B : wB) (X Y : wM) (r : wR) : (wl B (X, Y, r))[31]? = some (wad B 31, .inl (wdA B 1, 40, .inl (Y 31))) := wl_st rfl
theorem cs_31 (B : wB) (X Y : wM) (r : wR) (g : Nat → Int32) : (wl B (X, Y, r)).set 31 (wad B 31, .inl (wdA B 1, 40, .inl g)) = wl B (X, updM Y 31 g, r) := wl_set_st (by decide) rfl rfl (fun _ => rfl) rfl
theorem cv_32 (B : wB) (X Y : wM) (r : wR) : (wl B (X, Y, r))[32]? = some (wad B 32, .inl (wdA B 1, 8, .inl (Y 32))) := wl_st rfl
theorem cs_32 (B : wB) (X Y : wM) (r : wR) (g : Nat → Int32) : (wl B (X, Y, r)).set 32 (wad B 32, .inl (wdA B 1, 8, .inl g)) = wl B (X, updM Y 32 g, r) := wl_set_st (by decide) rfl rfl (fun _ => rfl) rfl
theorem cv_33 (B : wB) (X Y : wM) (r : wR) : (wl B (X, Y, r))[33]? = some (wad B 33, .inl (wdA B 1, 192, .inl (Y 33))) := wl_st rfl
theorem cs_33 (B : wB) (X Y : wM) (r : wR) (g : Nat → Int32) : (wl B (X, Y, r)).set 33 (wad B 33, .inl (wdA B 1, 192, .inl g)) = wl B (X, updM Y 33 g, r) := wl_set_st (by decide) rfl rfl (fun _ => rfl) rfl
theorem cv_34 (B : wB) (X Y : wM) (r : wR) : (wl B (X, Y, r))[34]? = some (wad B 34, .inl (wdA B 1, 10, .inl (Y 34))) := wl_st rfl
theorem cs_34 (B : wB) (X Y : wM) (r : wR) (g : Nat → Int32) : (wl B (X, Y, r)).set 34 (wad B 34, .inl (wdA B 1, 10, .inl g)) = wl B (X, updM Y 34 g, r) := wl_set_st (by decide) rfl rfl (fun _ => rfl) rfl
theorem cv_35 (B : wB) (X Y : wM) (r : wR) : (wl B (X, Y, r))[35]? = some (wad B 35, .inl (wdA B 0, 192, .inl (Y 35))) := wl_st rfl
theorem cs_35 (B : wB) (X Y : wM) (r : wR) (g : Nat → Int32) : (wl B (X, Y, r)).set 35 (wad B 35, .inl (wdA B 0, 192, .inl g)) = wl B (X, updM Y 35 g, r) := wl_set_st (by decide) rfl rfl (fun _ => rfl) rfl
theorem cv_36 (B : wB) (X Y : wM) (r : wR) : (wl B (X, Y, r))[36]? = some (wad B 36, .inl (wdA B 0, 8, .inl (Y 36))) := wl_st rfl
theorem cs_36 (B : wB) (X Y : wM) (r : wR) (g : Nat → Int32) : (wl B (X, Y, r)).set 36 (wad B 36, .inl (wdA B 0, 8, .inl g)) = wl B (X, updM Y 36 g, r) := wl_set_st (by decide) rfl rfl (fun _ => rfl) rfl
theorem cv_21 (B : wB) (X Y : wM) (o : Int64) (d : UInt64) (td : wX) : (wl B (X, Y, o, d, td))[21]? = some (wad B 21, .inl (wdA B 3, 8, .inr (.inr (.inr (.inr (wTf X td.1)))))) := wl_st rfl
theorem cv_37 (B : wB) (X Y : wM) (o : Int64) (d : UInt64) (td : wX) : (wl B (X, Y, o, d, td))[37]? = some (wad B 37, .inl (wdA B 5, 1, .inr (.inl (wo1 o)))) := wl_st rfl
theorem cv_38 (B : wB) (X Y : wM) (o : Int64) (d : UInt64) (td : wX) : (wl B (X, Y, o, d, td))[38]? = some (wad B 38, .inl (wdA B 6, 1, .inr (.inr (.inr (.inl (wo2 d)))))) := wl_st rfl
theorem cs_37 (B : wB) (X Y : wM) (o : Int64) (d : UInt64) (td : wX) (v : Int64) : (wl B (X, Y, o, d, td)).set 37 (wad B 37, .inl (wdA B 5, 1, .inr (.inl (wo1 v)))) = wl B (X, Y, v, d, td) := wl_set_st (by decide) rfl rfl (fun _ => rfl) rfl
theorem cs_38 (B : wB) (X Y : wM) (o : Int64) (d : UInt64) (td : wX) (v : UInt64) : (wl B (X, Y, o, d, td)).set 38 (wad B 38, .inl (wdA B 6, 1, .inr (.inr (.inr (.inl (wo2 v)))))) = wl B (X, Y, o, v, td) := wl_set_st (by decide) rfl rfl (fun _ => rfl) rfl
theorem ct_0 (B : wB) (X Y : wM) (o : Int64) (d : UInt64) (td : wX) {i : Nat} (h : i < wT X) : (wl B (X, Y, o, d, td))[39 + 4 * i]? = some (td.1 (4 * i), .inr (7, [.int (X (39 + 4 * i) 0), .ref (td.1 (4 * i + 1)), .int (X (39 + 4 * i) 2), .ref (td.1 (4 * i + 2)), .int (X (39 + 4 * i) 4)])) := by
  rw [wl_tb B (X, Y, o, d, td) (j := 4 * i) (by show 4 * i < 4 * wT X; omega), wtb, show 4 * i % 4 = 0 by omega]
  rfl
theorem ct_1 (B : wB) (X Y : wM) (o : Int64) (d : UInt64) (td : wX) {i : Nat} (h : i < wT X) : (wl B (X, Y, o, d, td))[39 + (4 * i + 1)]? = some (td.1 (4 * i + 1), .inl (wdA B 0, 24, .inl (X (39 + (4 * i + 1))))) := by
  rw [wl_tb B (X, Y, o, d, td) (j := 4 * i + 1) (by show 4 * i + 1 < 4 * wT X; omega), wtb, show (4 * i + 1) % 4 = 1 by omega]
  rfl
theorem ct_2 (B : wB) (X Y : wM) (o : Int64) (d : UInt64) (td : wX) {i : Nat} (h : i < wT X) : (wl B (X, Y, o, d, td))[39 + (4 * i + 2)]? = some (td.1 (4 * i + 2), .inr (0, [.ref (td.1 (4 * i + 2 + 1)), .int (X (39 + (4 * i + 2)) 1), .int (X (39 + (4 * i + 2)) 2), .int (X (39 + (4 * i + 2)) 3)])) := by
  rw [wl_tb B (X, Y, o, d, td) (j := 4 * i + 2) (by show 4 * i + 2 < 4 * wT X; omega), wtb, show (4 * i + 2) % 4 = 2 by omega]
  rfl
theorem ct_3 (B : wB) (X Y : wM) (o : Int64) (d : UInt64) (td : wX) {i : Nat} (h : i < wT X) : (wl B (X, Y, o, d, td))[39 + (4 * i + 3)]? = some (td.1 (4 * i + 3), .inl (wdA B 4, (X (39 + (4 * i + 3)) 1000).toNatClampNeg, .inl (X (39 + (4 * i + 3))))) := by
  rw [wl_tb B (X, Y, o, d, td) (j := 4 * i + 3) (by show 4 * i + 3 < 4 * wT X; omega), wtb, show (4 * i + 3) % 4 = 3 by omega]
  rfl
/-- isUndone of a table is set -/
theorem cs_undone (B : wB) (X Y : wM) (o : Int64) (d : UInt64) (td : wX) {i : Nat} (h : i < wT X) (v : Int32) : (wl B (X, Y, o, d, td)).set (39 + 4 * i) (td.1 (4 * i), .inr (7, [.int (X (39 + 4 * i) 0), .ref (td.1 (4 * i + 1)), .int (X (39 + 4 * i) 2), .ref (td.1 (4 * i + 2)), .int v])) = wl B (updM X (39 + 4 * i) (upd (X (39 + 4 * i)) 4 v), Y, o, d, td) := by
  refine wl_set_tb (by omega) ?_
  rw [wtb, show 4 * i % 4 = 0 by omega, wtc]
  simp only [updM_self]
  rfl
