theorem op_count {d : mD} {T : mT} {X Y : wM} (h : INV d T X Y) (a g : Int32) : OQ (fun e => if e = 2 then 1 else if e = 1 then 2 else 0) Eq d T X (f_X7_count X a g) (f_X8_count Y a g) := by
  have w1 := h.w.1
  obtain ⟨Y1, a1, a2, a3, a4⟩ := y_layCounts h.y h.w
  have h1 : INV d T X Y1 := h.Y (fun k _ _ _ e f _ => a2 k e f) (fun j _ _ => by rw [a2 22 (by decide) (by decide)])
  unfold f_X7_count f_X8_count f_X8_count_31 f_X8_count_55
  rw [x_needBlock h.x h.w, a1, bind_s, y_isBlock h1.y h.w, bind_s, b_ite, x_needGroup, f_in_3]
  cases ha : inb a (q_nb d)
  · exact ⟨0, thr Y1 1, rfl, h1.thr 1, Or.inr ⟨2, rfl, by decide, by decide, thr_14 Y1 1⟩⟩
  · rw [if_pos rfl, if_pos rfl, wthr_r, bind_s, b_ite]
    cases hg : inb g 4
    · exact ⟨0, thr Y1 2, rfl, h1.thr 2, Or.inr ⟨1, rfl, by decide, by decide, thr_14 Y1 2⟩⟩
    · obtain ⟨b, hb2, rfl⟩ := inb_ex ha
      obtain ⟨g, hg2, rfl⟩ := inb_ex hg
      have cx := h.2.1.1.2.1 (4 * b + g) (by omega)
      have cy := a4 (4 * b + g) (by omega)
      rw [if_pos rfl, if_pos rfl, wthr_r, cell_x, wget_n (by omega) (by omega), cx, wfld14, thr_14, if_neg i01, L4, pk_mul, nI_add, wget_n (by omega) (by omega), thr_o Y1 0 (by decide), cy]
      exact ⟨_, thr Y1 0, rfl, h1.thr 0, Or.inl ⟨_, rfl, rfl, thr_14 Y1 0⟩⟩
theorem INV.X {d : mD} {T : mT} {X X' Y : wM} (h : INV d T X Y) (e : ∀ k, k ≠ 13 → k ≠ 14 → k ≠ 15 → X' k = X k) : INV d T X' Y := by
  obtain ⟨⟨w, hx, hy, tx, ty, ok, hl⟩, ⟨k1, k2⟩, sm⟩ := h
  refine ⟨⟨w, hx.congr (fun k a b => e k (by omega) (by omega) (by omega)), hy, ⟨?_, tx.2.1, fun i hi => ?_⟩, ty, ok, hl.cong (fun i j _ => by rw [e _ (by omega) (by omega) (by omega)]) (fun i => by rw [e _ (by omega) (by omega) (by omega)]) rfl⟩, ⟨?_, ?_⟩, sm⟩
  · rw [e 0 (by decide) (by decide) (by decide)]; exact tx.1
  · unfold TBi
    rw [e _ (by omega) (by omega) (by omega), e _ (by omega) (by omega) (by omega)]
    exact tx.2.2 i hi
  · unfold TLn
    rw [e 10 (by decide) (by decide) (by decide), e 11 (by decide) (by decide) (by decide), e 12 (by decide) (by decide) (by decide)]
    exact k1
  · unfold PRm
    rw [e 16 (by decide) (by decide) (by decide), e 17 (by decide) (by decide) (by decide)]
    exact k2
theorem op_countAnew {d : mD} {T : mT} {X Y : wM} (h : INV d T X Y) (a g : Int32) : OM (fun e => if e = 2 then 1 else if e = 1 then 2 else 0) (f_X7_countAnew X a g) (f_X8_countAnew Y a g) := by
  have w1 := h.w.1
  obtain ⟨v, Y', g1, g2, g3⟩ := op_count h a g
  unfold f_X8_countAnew
  rw [g1, bind_s]
  unfold f_X7_count at g3
  unfold f_X7_countAnew
  rw [x_needBlock h.x h.w, x_needGroup] at g3 ⊢
  cases ha : inb a (q_nb d)
  · rw [ha, if_neg (by decide), wthr_l] at g3
    rw [if_neg (by decide), wthr_l]
    refine ⟨d, T, X, Y', g2, Or.inr ?_⟩
    rcases g3 with ⟨u, g4, _⟩ | ⟨e, g4, g5, g6, g7⟩
    · cases g4
    · cases g4
      exact ⟨2, v, rfl, rfl, g5, g6, g7⟩
  · rw [ha, if_pos rfl, wthr_r] at g3
    rw [if_pos rfl, wthr_r]
    cases hg : inb g 4
    · rw [hg, if_neg (by decide), wthr_l] at g3
      rw [if_neg (by decide), wthr_l]
      refine ⟨d, T, X, Y', g2, Or.inr ?_⟩
      rcases g3 with ⟨u, g4, _⟩ | ⟨e, g4, g5, g6, g7⟩
      · cases g4
      · cases g4
        exact ⟨1, v, rfl, rfl, g5, g6, g7⟩
    · rw [hg, if_pos rfl, wthr_r] at g3
      rw [if_pos rfl, wthr_r]
      obtain ⟨b, hb2, rfl⟩ := inb_ex ha
      obtain ⟨g, hg2, rfl⟩ := inb_ex hg
      have cx := h.2.1.1.2.1 (4 * b + g) (by omega)
      obtain ⟨X', b1, b2, b3⟩ := x_renew13 h.x h.w
      have cz := b3.2.1 (4 * b + g) (by omega)
      rw [cell_x, wget_n (by omega) (by omega), cx] at g3
      rw [b1, bind_s, cell_x, wget_n (by omega) (by omega), cz]
      refine ⟨d, T, X', Y', g2.X b2, Or.inl ?_⟩
      rcases g3 with ⟨u, g4, g5, g6⟩ | ⟨e, g4, _⟩
      · cases g4
        cases g5
        exact ⟨_, rfl, rfl, g6⟩
      · cases g4
theorem op_blockSum {d : mD} {T : mT} {X Y : wM} (h : INV d T X Y) (a b : Int32) : OQ (fun e => if e = 5 then 1 else if e = 2 then 2 else 0) Eq d T X (f_X7_blockSum X a b) (f_X8_blockSum Y a b) := by
  have t8 := h.tx.2.1
  unfold f_X7_blockSum f_X8_blockSum
  cases ha : inb a T.1
  · rw [(x_told h.tx a).1 ha, (y_wrong h.ty h.ok a b 0).1 ha]
    exact ⟨0, thr Y 1, rfl, h.thr 1, Or.inr ⟨5, rfl, by decide, by decide, thr_14 Y 1⟩⟩
  · obtain ⟨i, hi, rfl⟩ := inb_ex ha
    obtain ⟨o1, o2⟩ := h.ok i hi
    have ti := h.tx.2.2 i hi
    have tj := h.ty.2.2.1 i hi
    have i04 : inb 0 4 = true := by decide
    rw [(x_told h.tx (nI i)).2 i hi rfl, (y_wrong h.ty h.ok (nI i) b 0).2 i hi rfl, wthr_r, x_needBlockIn h.tx h.ok hi, i04, bind_s]
    cases hb : inb b (T.2 i).1
    · exact ⟨0, thr Y 2, rfl, h.thr 2, Or.inr ⟨2, rfl, by decide, by decide, thr_14 Y 2⟩⟩
    · obtain ⟨b, hb2, rfl⟩ := inb_ex hb
      have lx : ∀ (n g : Nat), g ≤ 4 → 4 - g < n → f_X5_sumOfBlock_4 X n i (nI b) (nI (q_sum (fun g => (T.2 i).2.1 (4 * b + g)) g)) (nI g) = some (nI (q_sum (fun g => (T.2 i).2.1 (4 * b + g)) 4)) := by
        intro n
        induction n with
        | zero => intro g _ h; omega
        | succ n ih =>
          intro g hg hn
          rw [f_X5_sumOfBlock_4]
          dsimp only
          rw [f_X5_sumOfBlock_4b, L4, ilt (by omega) (by omega)]
          by_cases e : g < 4
          · rw [if_pos e, wgd_d (by rw [h.tx.nT]; exact hi), wgd_d (by rw [h.tx.nT]; exact hi), pk_mul, nI_add, Nat.mul_comm b 4, wget_n (by omega) (by omega), ti.2.1 _ (by omega), wbd_e, wbd_e, nI_add, Lm1]
            exact ih (g + 1) (by omega) (by omega)
          · have : g = 4 := by omega
            subst this
            rw [if_neg e]
      have ly : ∀ (n g : Nat), g ≤ 4 → 4 - g < n → f_X8_blockSum_25 n (thr Y 0) (nI i) (nI b) (nI (q_sum (fun g => (T.2 i).2.1 (4 * b + g)) g)) (nI g) = some (nI (q_sum (fun g => (T.2 i).2.1 (4 * b + g)) 4), thr Y 0) := by
        intro n
        induction n with
        | zero => intro g _ h; omega
        | succ n ih =>
          intro g hg hn
          rw [f_X8_blockSum_25]
          dsimp only
          rw [f_X8_blockSum_25b, L4, ilt (by omega) (by omega)]
          by_cases e : g < 4
          · rw [if_pos e, y_place, bind_s, wget_n (by omega) (by omega), thr_o Y 0 (by decide), tj.2.1 _ (by omega), wbd_e, wbd_e, nI_add, Lm1]
            exact ih (g + 1) (by omega) (by omega)
          · have : g = 4 := by omega
            subst this
            rw [if_neg e]
      rw [if_pos rfl, if_pos rfl, if_pos rfl, wthr_r, wgd_d (by rw [h.tx.nT]; exact hi), wfld14, thr_14, if_neg i01]
      unfold f_X5_sumOfBlock
      have ex := lx 1000 0 (by omega) (by omega)
      have ey := ly 1000 0 (by omega) (by omega)
      refine ⟨_, thr Y 0, ey, h.thr 0, Or.inl ⟨_, ?_, rfl, thr_14 Y 0⟩⟩
      show (f_X5_sumOfBlock_4 X 1000 i (nI b) (nI (q_sum (fun g => (T.2 i).2.1 (4 * b + g)) 0)) (nI 0)).bind _ = _
      rw [ex, bind_s]
theorem op_groupSum {d : mD} {T : mT} {X Y : wM} (h : INV d T X Y) (a b : Int32) : OQ (fun e => if e = 5 then 1 else if e = 1 then 2 else 0) Eq d T X (f_X7_groupSum X a b) (f_X8_groupSum Y a b) := by
  have t8 := h.tx.2.1
  unfold f_X7_groupSum f_X8_groupSum f_X8_groupSum_27
  rw [y_isTable h.ty, bind_s, b_ite, f_in_3, x_needGroup]
  cases ha : inb a T.1
  · rw [(x_told h.tx a).1 ha]
    exact ⟨0, thr Y 1, rfl, h.thr 1, Or.inr ⟨5, rfl, by decide, by decide, thr_14 Y 1⟩⟩
  · obtain ⟨i, hi, rfl⟩ := inb_ex ha
    obtain ⟨o1, o2⟩ := h.ok i hi
    have ti := h.tx.2.2 i hi
    have tj := h.ty.2.2.1 i hi
    rw [(x_told h.tx (nI i)).2 i hi rfl, if_pos rfl, wthr_r, bind_s, b_ite]
    cases hb : inb b 4
    · exact ⟨0, thr Y 2, rfl, h.thr 2, Or.inr ⟨1, rfl, by decide, by decide, thr_14 Y 2⟩⟩
    · obtain ⟨b, hb2, rfl⟩ := inb_ex hb
      have lx : ∀ (n g : Nat), g ≤ 6 → 6 - g < n → f_X5_sumOfGroup_4 X n i (nI b) (nI (q_sum (fun g => (T.2 i).2.1 (4 * g + b)) g)) (nI g) = some (nI (q_sum (fun g => (T.2 i).2.1 (4 * g + b)) 6)) := by
        intro n
        induction n with
        | zero => intro g _ h; omega
        | succ n ih =>
          intro g hg hn
          rw [f_X5_sumOfGroup_4]
          dsimp only
          rw [f_X5_sumOfGroup_4b, L6, ilt (by omega) (by omega)]
          by_cases e : g < 6
          · rw [if_pos e, wgd_d (by rw [h.tx.nT]; exact hi), wgd_d (by rw [h.tx.nT]; exact hi), cell_x, wget_n (by omega) (by omega), ti.2.1 _ (by omega), wbd_e, wbd_e, nI_add, Lm1]
            exact ih (g + 1) (by omega) (by omega)
          · have : g = 6 := by omega
            subst this
            rw [if_neg e]
      have ly : ∀ (n g : Nat), g ≤ 6 → 6 - g < n → f_X8_groupSum_44 n (thr Y 0) (nI i) (nI b) (nI (q_sum (fun g => (T.2 i).2.1 (4 * g + b)) g)) (nI g) = some (nI (q_sum (fun g => (T.2 i).2.1 (4 * g + b)) 6), thr Y 0) := by
        intro n
        induction n with
        | zero => intro g _ h; omega
        | succ n ih =>
          intro g hg hn
          rw [f_X8_groupSum_44]
          dsimp only
          rw [f_X8_groupSum_44b, L6, ilt (by omega) (by omega)]
          by_cases e : g < 6
          · rw [if_pos e, y_place, bind_s, wget_n (by omega) (by omega), thr_o Y 0 (by decide), tj.2.1 _ (by omega), wbd_e, wbd_e, nI_add, Lm1]
            exact ih (g + 1) (by omega) (by omega)
          · have : g = 6 := by omega
            subst this
            rw [if_neg e]
      rw [if_pos rfl, if_pos rfl, wthr_r, wgd_d (by rw [h.tx.nT]; exact hi), wfld14, thr_14, if_neg i01]
      unfold f_X5_sumOfGroup
      have ex := lx 1000 0 (by omega) (by omega)
      have ey := ly 1000 0 (by omega) (by omega)
      refine ⟨_, thr Y 0, ey, h.thr 0, Or.inl ⟨_, ?_, rfl, thr_14 Y 0⟩⟩
      show (f_X5_sumOfGroup_4 X 1000 i (nI b) (nI (q_sum (fun g => (T.2 i).2.1 (4 * g + b)) 0)) (nI 0)).bind _ = _
      rw [ex, bind_s]
theorem y_holes {d : mD} {T : mT} {X Y : wM} (h : INV d T X Y) (a : Int32) : (inb a T.1 = false → f_X8_holes Y a = some (0, thr Y 1)) ∧ ∀ i, i < T.1 → a = nI i → ∀ s, HR Y i s → f_X8_holes Y a = some (nI (q_num s 24), thr Y 0) := by
  have t8 := h.tx.2.1
  unfold f_X8_holes
  rw [y_isTable h.ty, bind_s, y_chk, bind_s]
  constructor
  · intro e
    rw [e]; rfl
  · rintro i hi rfl s hs
    rw [inb_b (by omega), decide_eq_true hi, if_pos rfl, if_neg i01]
    have lp : ∀ (n c : Nat), c ≤ 24 → 24 - c < n → f_X8_holes_18 n (thr Y 0) (nI i) (nI (q_num s c)) (nI c) = some (nI (q_num s 24), thr Y 0) := by
      intro n
      induction n with
      | zero => intro c _ h; omega
      | succ n ih =>
        intro c hc hn
        rw [f_X8_holes_18]
        dsimp only
        rw [f_X8_holes_18b, L24, ilt (by omega) (by omega)]
        by_cases e : c < 24
        · have hh := ih (c + 1) (by omega) (by omega)
          rw [q_num] at hh
          rw [if_pos e, pk_mul, nI_add, wget_n (by omega) (by omega), thr_o Y 0 (by decide), hs c e, b_ite]
          cases sc : s c
          · rw [sc] at hh
            rw [if_neg (by decide), f_X8_holes_44, wbd_e, wbd_e, Lm1, L0, nI_add]
            exact hh
          · rw [sc] at hh
            rw [if_pos rfl, f_X8_holes_44, wbd_e, wbd_e, Lm1, Lm1]
            exact hh
        · have : c = 24 := by omega
          subst this
          rw [if_neg e]
    exact lp 1000 0 (by omega) (by omega)
