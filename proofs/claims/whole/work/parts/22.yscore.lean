/-- the reference's cells hold these things -/
def RY (d : mD) (Y : wM) : Prop := Y 22 15 = nI (q_nb d) ∧ Y 22 16 = nI (q_na d) ∧ (∀ i, i < q_na d → Y 23 i = nI (q_bl d i)) ∧ Y 22 17 = nI (q_nr d) ∧
  (∀ i, i < q_nr d → Y 29 i = nI (if q_ce d i then 99 else 107) ∧ Y 24 i = nI (q_ad d i) ∧ Y 25 i = nI (q_nm d i) ∧ Y 26 i = nI (q_yr d i)) ∧
  (∀ i j, i < 40 → j < 40 → Y 30 (40 * i + j) = nI (q_de d i j)) ∧ Y 22 19 = nI (q_pn d) ∧ Y 22 20 = nI (q_py d) ∧ Y 22 21 = nI (q_pp d) ∧ Y 22 22 = nI (q_lo d) ∧ Y 22 23 = nI (q_up d)
theorem y_blockFor {d : mD} {Y : wM} (h : RY d Y) (w : q_ok d) {i : Nat} (hi : i < q_nr d) : f_X8_blockFor Y (nI i) = some (nI (q_bl d (q_ad d i))) := by
  obtain ⟨-, -, h3, -, h5, -⟩ := h
  obtain ⟨-, w2, w3, w4, w5, -⟩ := w
  have a1 := (w5 i hi).1
  unfold f_X8_blockFor
  rw [wget_n (by omega) (by omega), (h5 i hi).2.1, wget_n (by omega) (by omega), h3 _ a1]
theorem y_group {y : Nat} (hy : y ≤ 120) : f_X8_group (nI y) = some (nI (q_gr y)) := by
  unfold f_X8_group f_X8_group_27 q_gr
  rw [L17, L39, L64, ilt (by omega) (by omega), ilt (by omega) (by omega), ilt (by omega) (by omega)]
  repeat' split
  all_goals first | rfl | (exfalso; omega)
theorem nI_0a (a : Nat) : (0 : Int32) + nI a = nI a := by rw [L0, nI_add, Nat.zero_add]
theorem y_scoreOf {d : mD} {Y : wM} (h : RY d Y) (w : q_ok d) {i j : Nat} (hi : i < q_nr d) (hj : j < q_nr d) : f_X8_scoreOf Y (nI i) (nI j) = some (nI (q_sc d i j)) := by
  have bi := y_blockFor h w hi
  have bj := y_blockFor h w hj
  obtain ⟨-, -, h3, -, h5, -, p1, p2, p3, -, -⟩ := h
  obtain ⟨w1, w2, w3, w4, w5, -, -, -, v1, v2, v3, -, -⟩ := w
  obtain ⟨ai, ni, yi⟩ := w5 i hi
  obtain ⟨aj, nj, yj⟩ := w5 j hj
  have ci := w3 _ ai
  have cj := w3 _ aj
  have h108 : ∀ a : Nat, f_X8_scoreOf_108 Y (nI i) (nI j) (nI a) = some (nI (a + q_psc d i j)) := by
    intro a
    unfold f_X8_scoreOf_108 f_X8_scoreOf_155 q_psc
    rw [wget_n (by omega) (by omega), (h5 i hi).2.1, wget_n (by omega) (by omega), (h5 j hj).2.1, ieq (by omega) (by omega), p3, nI_add]
    split
    · rfl
    · rw [bi, bind_s, bj, bind_s, ieq (by omega) (by omega), L2, nI_d (by omega) (by omega) (by omega), nI_add]
      split <;> rfl
  have h57 : ∀ a : Nat, f_X8_scoreOf_57 Y (nI i) (nI j) (nI a) = some (nI (a + q_ysc d (q_yr d i) (q_yr d j) + q_psc d i j)) := by
    intro a
    unfold f_X8_scoreOf_57 f_X8_scoreOf_99
    rw [wget_n (by omega) (by omega), (h5 i hi).2.2.2, wget_n (by omega) (by omega), (h5 j hj).2.2.2]
    simp only [wbd_e]
    rw [ite_n (ysub_0 (by omega) (by omega)), ite_n (ysub_1 (by omega) (by omega)), ite_n (ysub_m (by omega) (by omega)), p2, L2, nI_d (by omega) (by omega) (by omega), nI_add, nI_add, h108, h108, h108]
    unfold q_ysc
    split
    · rfl
    · split
      · rw [if_pos (by omega)]
      · split
        · rw [if_pos (by omega)]
        · rw [if_neg (by omega)]; rfl
  unfold f_X8_scoreOf
  rw [wget_n (by omega) (by omega), (h5 i hi).2.2.1, wget_n (by omega) (by omega), (h5 j hj).2.2.1, wget_n (by omega) (by omega), (h5 i hi).2.2.1, wget_n (by omega) (by omega), (h5 j hj).2.2.1]
  simp only [wbd_e]
  rw [ieq (by omega) (by omega), L10, nI_d (by omega) (by omega) (by omega), nI_d (by omega) (by omega) (by omega), ieq (by omega) (by omega), p1, L2, nI_d (by omega) (by omega) (by omega), nI_0a, nI_0a, L0, h57, h57, h57]
  unfold q_sc q_nsc
  split
  · rfl
  · split <;> rfl
theorem y_linkOf {d : mD} {Y : wM} (h : RY d Y) (w : q_ok d) {i j : Nat} (hi : i < q_nr d) (hj : j < q_nr d) : f_X8_linkOf Y (nI i) (nI j) = some (nI (q_lk d i j)) := by
  have hs := y_scoreOf h w hi hj
  have w4 := w.2.2.2.1
  have hd := h.2.2.2.2.2.1 i j (by omega) (by omega)
  have hle := q_sc_le d i j
  obtain ⟨-, -, -, -, -, -, -, -, -, pl, pu⟩ := h
  obtain ⟨-, -, -, -, -, wd, -, -, v1, v2, v3, v4, v5⟩ := w
  unfold f_X8_linkOf f_X8_linkOf_54 q_lk
  rw [L40, pk_mul, nI_add, wget_n (by omega) (by omega), hd, hs, pl, pu]
  rcases wd i j with e | e | e
  · rw [e, if_pos (show nI 0 = 0 from rfl), bind_s, ilt (by omega) (by omega), ilt (by omega) (by omega), if_pos (show (0 : Nat) = 0 from rfl), L63, L110, wgd_t (okC_n 63 (by omega)), wgd_t (okC_n 110 (by omega))]
    repeat' split
    all_goals first | rfl | (exfalso; omega)
  · rw [e, L0, ieq (by omega) (by omega), if_neg (show ¬ (121 : Nat) = 0 by omega), if_neg (show ¬ (121 : Nat) = 0 by omega), wgd_t (okC_n 121 (by omega))]
  · rw [e, L0, ieq (by omega) (by omega), if_neg (show ¬ (110 : Nat) = 0 by omega), if_neg (show ¬ (110 : Nat) = 0 by omega), wgd_t (okC_n 110 (by omega))]
