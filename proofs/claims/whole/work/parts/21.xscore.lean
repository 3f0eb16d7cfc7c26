theorem sub_eqI {a b : Nat} (ha : a < 2 ^ 30) (hb : b < 2 ^ 30) {c : Int32} {z : Int} (hz : c.toInt = z) : nI a - nI b = c ↔ (a : Int) - b = z := by
  rw [← Int32.toInt_inj, pk_sub_toInt ha hb, hz]
theorem ysub_0 {a b : Nat} (ha : a < 2 ^ 30) (hb : b < 2 ^ 30) : nI a - nI b = 0 ↔ a = b := by
  rw [sub_eqI ha hb (z := 0) (by decide)]; omega
theorem ysub_1 {a b : Nat} (ha : a < 2 ^ 30) (hb : b < 2 ^ 30) : nI a - nI b = 1 ↔ a = b + 1 := by
  rw [sub_eqI ha hb (z := 1) (by decide)]; omega
theorem ysub_m {a b : Nat} (ha : a < 2 ^ 30) (hb : b < 2 ^ 30) : nI a - nI b = -1 ↔ b = a + 1 := by
  rw [sub_eqI ha hb (z := -1) (by decide)]; omega
theorem x_scoreOf {d : mD} {X : wM} (h : RX d X) (w : q_ok d) {i j : Nat} (hi : i < q_nr d) (hj : j < q_nr d) : f_X1_scoreOf X (nI i) (nI j) = some (nI (q_sc d i j)) := by
  have bi := x_blockAt h w hi
  have bj := x_blockAt h w hj
  obtain ⟨-, -, h3, -, h5, -, p1, p2, p3, -, -⟩ := h
  obtain ⟨w1, w2, w3, w4, w5, -, -, -, v1, v2, v3, -, -⟩ := w
  obtain ⟨ai, ni, yi⟩ := w5 i hi
  obtain ⟨aj, nj, yj⟩ := w5 j hj
  have ci := w3 _ ai
  have cj := w3 _ aj
  have hn : ∀ K : Int32 → Option Int32, (f_X1_nameScore X (nI (q_nm d i)) (nI (q_nm d j))).bind K = K (nI (q_nsc d (q_nm d i) (q_nm d j))) := by
    intro K
    unfold f_X1_nameScore f_X1_nameScore_31 q_nsc
    rw [ieq (by omega) (by omega), L10, nI_d (by omega) (by omega) (by omega), nI_d (by omega) (by omega) (by omega), ieq (by omega) (by omega), p1, L2, nI_d (by omega) (by omega) (by omega)]
    split
    · rfl
    · split <;> rfl
  have hy : ∀ K : Int32 → Option Int32, (f_X1_yearScore X (nI (q_yr d i) - nI (q_yr d j))).bind K = K (nI (q_ysc d (q_yr d i) (q_yr d j))) := by
    intro K
    unfold f_X1_yearScore f_X1_yearScore_19 f_X1_yearScore_29 q_ysc
    rw [ite_n (ysub_0 (by omega) (by omega)), ite_n (ysub_1 (by omega) (by omega)), ite_n (ysub_m (by omega) (by omega)), p2, L2, nI_d (by omega) (by omega) (by omega)]
    split
    · rfl
    · split
      · rw [if_pos (by omega)]; rfl
      · split
        · rw [if_pos (by omega)]; rfl
        · rw [if_neg (by omega)]; rfl
  have hp : ∀ (s t : Int32) (A B : Prop) [Decidable A] [Decidable B], (s = if A then 1 else 0) → (t = if B then 1 else 0) → ∀ K : Int32 → Option Int32, (f_X1_placeScore X s t).bind K = K (nI (if A then q_pp d else if B then q_pp d / 2 else 0)) := by
    intro s t A B _ _ hs ht K
    unfold f_X1_placeScore f_X1_placeScore_23
    rw [hs, ht, p3, L2, nI_d (by omega) (by omega) (by omega)]
    by_cases qA : A
    · rw [if_pos qA, if_pos qA, if_neg (by decide)]; rfl
    · rw [if_neg qA, if_neg qA, if_pos rfl]
      by_cases qB : B
      · rw [if_pos qB, if_pos qB, if_neg (by decide)]; rfl
      · rw [if_neg qB, if_neg qB, if_pos rfl]; rfl
  have fin : ∀ (s t : Int32), (s = if q_ad d i = q_ad d j then 1 else 0) → (t = if q_bl d (q_ad d i) = q_bl d (q_ad d j) then 1 else 0) → f_X1_scoreOf_51 X (nI i) (nI j) s t = some (nI (q_sc d i j)) := by
    intro s t hs ht
    unfold f_X1_scoreOf_51
    rw [wget_n (by omega) (by omega), (h5 i hi).2.2.1, wget_n (by omega) (by omega), (h5 j hj).2.2.1, hn, wget_n (by omega) (by omega), (h5 i hi).2.2.2, wget_n (by omega) (by omega), (h5 j hj).2.2.2, hy, hp s t _ _ hs ht, nI_add, nI_add]
    rfl
  have mid : ∀ s : Int32, (s = if q_ad d i = q_ad d j then 1 else 0) → f_X1_scoreOf_26 X (nI i) (nI j) s = some (nI (q_sc d i j)) := by
    intro s hs
    unfold f_X1_scoreOf_26
    rw [bi, bind_s, bj, bind_s, ieq (by omega) (by omega)]
    split
    · rename_i q; exact fin s 1 hs (by rw [if_pos q])
    · rename_i q; exact fin s 0 hs (by rw [if_neg q])
  unfold f_X1_scoreOf
  rw [wget_n (by omega) (by omega), (h5 i hi).2.1, wget_n (by omega) (by omega), (h5 j hj).2.1, ieq (by omega) (by omega)]
  split
  · rename_i q; exact mid 1 (by rw [if_pos q])
  · rename_i q; exact mid 0 (by rw [if_neg q])
theorem x_place {i j : Nat} (hi : i < 40) (hj : j < 40) : f_X1_placeOfPair (nI i) (nI j) = some (nI (min i j * 40 + max i j)) := by
  unfold f_X1_placeOfPair
  rw [ilt (by omega) (by omega), ilt (by omega) (by omega)]
  have e1 : (if j < i then nI j else nI i) = nI (min i j) := by
    split
    · rw [Nat.min_eq_right (by omega)]
    · rw [Nat.min_eq_left (by omega)]
  have e2 : (if i < j then nI j else nI i) = nI (max i j) := by
    split
    · rw [Nat.max_eq_right (by omega)]
    · rw [Nat.max_eq_left (by omega)]
  rw [e1, e2, L40, pk_mul, nI_add]
theorem de_mm {d : mD} (w : q_ok d) (i j : Nat) : q_de d (min i j) (max i j) = q_de d i j := by
  rcases Nat.le_total i j with h | h
  · rw [Nat.min_eq_left h, Nat.max_eq_right h]
  · rw [Nat.min_eq_right h, Nat.max_eq_left h]; exact w.2.2.2.2.2.2.1 j i
theorem x_dec {d : mD} {X : wM} (h : RX d X) (w : q_ok d) {i j : Nat} (hi : i < 40) (hj : j < 40) : X 9 (min i j * 40 + max i j) = nI (if q_de d i j = 0 then 45 else q_de d i j) := by
  rw [h.2.2.2.2.2.1 (min i j) (max i j) (by omega) (by omega), de_mm w]
theorem x_kindOf {d : mD} {X : wM} (h : RX d X) (w : q_ok d) {i j : Nat} (hi : i < q_nr d) (hj : j < q_nr d) : f_X1_kindOf X (nI i) (nI j) = some (nI (q_lk d i j)) := by
  have hs := x_scoreOf h w hi hj
  have w4 := w.2.2.2.1
  have hd := x_dec h w (i := i) (j := j) (by omega) (by omega)
  have hle := q_sc_le d i j
  obtain ⟨-, -, -, -, -, -, -, -, -, pl, pu⟩ := h
  obtain ⟨-, -, -, -, -, wd, -, -, v1, v2, v3, v4, v5⟩ := w
  unfold f_X1_kindOf f_X1_kindOf_56 q_lk
  rw [x_place (by omega) (by omega), bind_s, wget_n (by omega) (by omega), hd, hs, pl, pu, L45]
  rcases wd i j with e | e | e
  · rw [e, if_pos rfl, if_pos rfl, bind_s, ilt (by omega) (by omega), ilt (by omega) (by omega), if_pos rfl, L63, L110, wgd_t (okC_n 63 (by omega)), wgd_t (okC_n 110 (by omega))]
    repeat' split
    all_goals first | rfl | (exfalso; omega)
  · rw [e, if_neg (show ¬ (121 : Nat) = 0 by omega), ieq (by omega) (by omega), if_neg (show ¬ (121 : Nat) = 45 by omega), if_neg (show ¬ (121 : Nat) = 0 by omega), wgd_t (okC_n 121 (by omega))]
  · rw [e, if_neg (show ¬ (110 : Nat) = 0 by omega), ieq (by omega) (by omega), if_neg (show ¬ (110 : Nat) = 45 by omega), if_neg (show ¬ (110 : Nat) = 0 by omega), wgd_t (okC_n 110 (by omega))]
