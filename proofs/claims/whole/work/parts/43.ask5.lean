/-! numbers of records, shares, risk, safety -/
theorem y_many {d : mD} {Y : wM} (h : RY d Y) (w : q_ok d) {k b : Int32} {p : Nat → Bool} (hp : ∀ i, i < q_nr d → p i = (decide (Y 29 i = k) && decide (Y 31 i = b))) : f_X8_many Y k b = some (nI (q_num p (q_nr d))) := by
  have w4 := w.2.2.2.1
  have lp : ∀ (n i : Nat), i ≤ q_nr d → q_nr d - i < n → f_X8_many_5 Y n k b (nI (q_num p i)) (nI i) = some (nI (q_num p (q_nr d))) := by
    intro n
    induction n with
    | zero => intro i _ h; omega
    | succ n ih =>
      intro i hi hn
      rw [f_X8_many_5]
      dsimp only
      rw [f_X8_many_5b, h.2.2.2.1, ilt (by omega) (by omega)]
      by_cases e : i < q_nr d
      · have hh := ih (i + 1) (by omega) (by omega)
        have pi := hp i e
        rw [q_num] at hh
        rw [if_pos e, wget_n (by omega) (by omega), wget_n (by omega) (by omega)]
        have no : p i = false → f_X8_many_41 (f_X8_many_5 Y n) Y k b (nI i) (nI (q_num p i)) = some (nI (q_num p (q_nr d))) := by
          intro q
          rw [q] at hh
          rw [f_X8_many_41, f_X8_many_42, wbd_e, wbd_e, Lm1, L0, nI_add]
          exact hh
        by_cases z1 : Y 29 i = k
        · rw [if_pos z1]
          by_cases z2 : Y 31 i = b
          · rw [decide_eq_true z1, decide_eq_true z2] at pi
            rw [pi] at hh
            rw [if_pos z2, f_X8_many_42, wbd_e, wbd_e, Lm1, Lm1]
            exact hh
          · rw [if_neg z2]
            exact no (by rw [pi, decide_eq_false z2, Bool.and_false])
        · rw [if_neg z1]
          exact no (by rw [pi, decide_eq_false z1, Bool.false_and])
      · have ei : i = q_nr d := by omega
        subst ei
        rw [if_neg e]
  unfold f_X8_many
  exact lp 1000 0 (by omega) (by omega)
theorem q_db_ce {d : mD} {i : Nat} (h : q_db d i = true) : q_ce d i = true := by
  rw [q_db_eq] at h
  exact ((Bool.and_eq_true _ _).mp h).1
theorem many_p {d : mD} {Y : wM} (h : RY d Y) (hb : ∀ j, j < q_nr d → Y 31 j = if q_db d j then 1 else 0) {i : Nat} (hi : i < q_nr d) :
    (decide (Y 29 i = 99) && decide (Y 31 i = 0)) = q_cd d i ∧ (decide (Y 29 i = 99) && decide (Y 31 i = 1)) = q_db d i ∧ (decide (Y 29 i = 107) && decide (Y 31 i = 0)) = !(q_ce d i) := by
  rw [(h.2.2.2.2.1 i hi).1, hb i hi]
  unfold q_cd
  cases e : q_db d i
  · cases q_ce d i
    · exact ⟨by decide, by decide, by decide⟩
    · exact ⟨by decide, by decide, by decide⟩
  · rw [q_db_ce e]
    exact ⟨by decide, by decide, by decide⟩
theorem q_three (d : mD) : ∀ n, q_num (q_cd d) n + q_num (q_db d) n + q_num (fun i => !(q_ce d i)) n = n
  | 0 => rfl
  | n + 1 => by
    have ih := q_three d n
    rw [q_num, q_num, q_num]
    have e : q_db d n = true → q_ce d n = true := q_db_ce
    unfold q_cd at ih ⊢
    cases z : q_db d n
    · cases q_ce d n
      · simp; omega
      · simp; omega
    · rw [e z]
      simp; omega
theorem l_ne0 : ∀ m, m < 21 → 0 < m → ¬ (nI m).toInt64 = 0 := by decide +kernel
theorem op_estimate {d : mD} {T : mT} {X Y : wM} (h : INV d T X Y) : OQ (fun e => if e = 3 then 1 else 0) Eq d T X (f_X7_estimate X) (f_X8_estimate Y) := by
  have w4 := h.w.2.2.2.1
  obtain ⟨Y1, a1, a2, a3, a4⟩ := y_layMatches h.y h.w
  have h1 : INV d T X Y1 := a2.INV h
  obtain ⟨p1, p2, p3, p4⟩ := h.2.1.2
  obtain ⟨t1, t2, t3, t4⟩ := h.2.1.1
  obtain ⟨m1, m2, m3, m4⟩ := a4
  have m20 := (q_mt_20 h.w).1
  have th := q_three d (q_nr d)
  unfold f_X7_estimate f_X8_estimate f_X8_estimate_17 f_X8_estimate_50
  rw [a1, bind_s, m3, p3, L0, ieq (by omega) (by omega), ← L0, i0lt (by omega)]
  by_cases e : (q_mt d).2.1 = 0
  · rw [if_pos e, if_neg (by omega)]
    have ck : f_X8_checked Y1 0 = some (1, thr Y1 1) := y_chk Y1 false
    rw [ck]
    exact ⟨0, thr Y1 1, rfl, h1.thr 1, Or.inr ⟨3, rfl, by decide, by decide, thr_14 Y1 1⟩⟩
  · rw [if_neg e, if_pos (by omega)]
    have ck : f_X8_checked Y1 1 = some (0, thr Y1 0) := y_chk Y1 true
    have hb : ∀ j, j < q_nr d → thr Y1 0 31 j = if q_db d j then 1 else 0 := fun j hj => by rw [thr_o Y1 0 (by decide)]; exact a3 j hj
    have n1 := y_many (h1.y.thr 0) h.w (k := 99) (b := 0) (p := q_cd d) (fun i hi => (many_p (h1.y.thr 0) hb hi).1.symm)
    have n2 := y_many (h1.y.thr 0) h.w (k := 107) (b := 0) (p := fun i => !(q_ce d i)) (fun i hi => (many_p (h1.y.thr 0) hb hi).2.2.symm)
    rw [ck, bind_s, if_neg i01, n1, bind_s, n2, bind_s]
    dsimp only
    have f24 : thr Y1 0 22 24 = nI (q_mt d).2.1 := by rw [thr_f Y1 0 (by decide)]; exact m3
    have l0 := l_ne0 _ (show (q_mt d).2.1 < 21 by omega) (by omega)
    rw [wbd_e, wgd_d l0, wgd_d (show ¬ (thr Y1 0 22 24).toInt64 = 0 by rw [f24]; exact l0), f24, h.x.2.2.2.1, t3, t4, pk_sub (by omega), pk_sub (by omega), show q_nr d - q_num (q_cd d) (q_nr d) - q_num (q_db d) (q_nr d) = q_num (fun i => !(q_ce d i)) (q_nr d) by omega]
    exact ⟨_, thr Y1 0, rfl, h1.thr 0, Or.inl ⟨_, rfl, rfl, thr_14 Y1 0⟩⟩
theorem op_meanScore {d : mD} {T : mT} {X Y : wM} (h : INV d T X Y) : OQ (fun e => if e = 3 then 1 else 0) (fun a b => a = b ∧ wnn64 a = true) d T X (f_X7_meanScore X) (f_X8_meanScore Y) := by
  have w4 := h.w.2.2.2.1
  obtain ⟨Y1, a1, a2, a3, a4⟩ := y_layMatches h.y h.w
  have h1 : INV d T X Y1 := a2.INV h
  obtain ⟨p1, p2, p3, p4⟩ := h.2.1.2
  obtain ⟨m1, m2, m3, m4⟩ := a4
  obtain ⟨m20, m540⟩ := q_mt_20 h.w
  unfold f_X7_meanScore f_X8_meanScore f_X8_meanScore_17 f_X8_meanScore_38
  rw [a1, bind_s, m3, p3, p4, L0, ieq (by omega) (by omega), ← L0, i0lt (by omega)]
  by_cases e : (q_mt d).2.1 = 0
  · rw [if_pos e, if_neg (by omega)]
    have ck : f_X8_checked Y1 0 = some (1, thr Y1 1) := y_chk Y1 false
    rw [ck]
    exact ⟨0, thr Y1 1, rfl, h1.thr 1, Or.inr ⟨3, rfl, by decide, by decide, thr_14 Y1 1⟩⟩
  · rw [if_neg e, if_pos (by omega)]
    have ck : f_X8_checked Y1 1 = some (0, thr Y1 0) := y_chk Y1 true
    have nn := nan64 (q_mt d).2.1 (by omega) (by omega) (q_mt d).2.2 (by omega)
    rw [ck, bind_s, if_neg i01]
    dsimp only
    rw [thr_f Y1 0 (show (24 : Nat) ≠ 14 by decide), thr_f Y1 0 (show (25 : Nat) ≠ 14 by decide), m3, m4, wgd_t nn, wgd_t nn]
    exact ⟨_, thr Y1 0, rfl, h1.thr 0, Or.inl ⟨_, rfl, ⟨rfl, nn⟩, thr_14 Y1 0⟩⟩
theorem op_doubleShare {d : mD} {T : mT} {X Y : wM} (h : INV d T X Y) : OQ (fun e => if e = 3 then 1 else 0) (fun a b => a = b ∧ wnn32 a = true) d T X (f_X7_doubleShare X) (f_X8_doubleShare Y) := by
  have w4 := h.w.2.2.2.1
  obtain ⟨Y1, a1, a2, a3⟩ := y_layDoubles h.y h.w
  have h1 : INV d T X Y1 := h.Y (fun k _ _ _ _ e _ => a2 k e) (fun j _ _ => by rw [a2 22 (by decide)])
  obtain ⟨t1, t2, t3, t4⟩ := h.2.1.1
  have th := q_three d (q_nr d)
  have n1 := y_many h1.y h.w (k := 99) (b := 0) (p := q_cd d) (fun i hi => (many_p h1.y a3 hi).1.symm)
  have n2 := y_many h1.y h.w (k := 99) (b := 1) (p := q_db d) (fun i hi => (many_p h1.y a3 hi).2.1.symm)
  unfold f_X7_doubleShare f_X8_doubleShare f_X8_doubleShare_30 f_X8_doubleShare_51
  rw [a1, bind_s, n2, bind_s, n1, bind_s, wbd_e, wbd_e, nI_add, t3, t4, nI_add, L0, ieq (by omega) (by omega), ← L0, i0lt (by omega)]
  by_cases e : q_num (q_cd d) (q_nr d) + q_num (q_db d) (q_nr d) = 0
  · rw [if_pos e, if_neg (by omega)]
    have ck : f_X8_checked Y1 0 = some (1, thr Y1 1) := y_chk Y1 false
    rw [ck]
    exact ⟨0, thr Y1 1, rfl, h1.thr 1, Or.inr ⟨3, rfl, by decide, by decide, thr_14 Y1 1⟩⟩
  · rw [if_neg e, if_pos (by omega)]
    have ck : f_X8_checked Y1 1 = some (0, thr Y1 0) := y_chk Y1 true
    have hb : ∀ j, j < q_nr d → thr Y1 0 31 j = if q_db d j then 1 else 0 := fun j hj => by rw [thr_o Y1 0 (by decide)]; exact a3 j hj
    have n3 := y_many (h1.y.thr 0) h.w (k := 99) (b := 1) (p := q_db d) (fun i hi => (many_p (h1.y.thr 0) hb hi).2.1.symm)
    have nn := nan32 (q_num (q_db d) (q_nr d)) (by omega) (q_num (q_cd d) (q_nr d) + q_num (q_db d) (q_nr d)) (by omega) (by omega)
    rw [ck, bind_s, if_neg i01, n3, bind_s, Nat.add_comm (q_num (q_db d) (q_nr d)) (q_num (q_cd d) (q_nr d)), wgd_t nn, wgd_t nn]
    exact ⟨_, thr Y1 0, rfl, h1.thr 0, Or.inl ⟨_, rfl, ⟨rfl, nn⟩, thr_14 Y1 0⟩⟩
theorem op_isSafe {d : mD} {T : mT} {X Y : wM} (h : INV d T X Y) : ∃ X', f_X7_isSafe X = some (1, X') ∧ f_X8_isSafe Y = some (1, thr Y 0) ∧ INV d T X' (thr Y 0) := by
  have t8 := h.tx.2.1
  obtain ⟨X', b1, b2, b3⟩ := x_renew13 h.x h.w
  have h1 : INV d T X' Y := h.X b2
  have hc : f_X6_hasCounts_13 X' (X' 12) = some 1 := by
    have lp : ∀ (n c : Nat), c ≤ 24 → 24 - c < n → f_X6_hasCounts_13_2 X' (X' 12) n (nI c) = some 1 := by
      intro n
      induction n with
      | zero => intro c _ h; omega
      | succ n ih =>
        intro c hc hn
        rw [f_X6_hasCounts_13_2]
        dsimp only
        rw [f_X6_hasCounts_13_2b, L24, ilt (by omega) (by omega)]
        by_cases e : c < 24
        · rw [if_pos e, wget_n (by omega) (by omega), wget_n (by omega) (by omega), b3.2.1 c e, h1.2.1.1.2.1 c e, if_pos rfl, wbd_e, Lm1]
          exact ih (c + 1) (by omega) (by omega)
        · rw [if_neg e]
    exact lp 1000 0 (by omega) (by omega)
  have hsafe : ∀ i, i < T.1 → f_X7_isSafeTable X' (some i) = some 1 := by
    intro i hi
    obtain ⟨s, s1, s2, s3, s4⟩ := h1.hl i hi
    have ti := h1.tx.2.2 i hi
    have hw : i < wT X' := by rw [h1.tx.nT]; exact hi
    unfold f_X7_isSafeTable f_X7_isSafeTable_30 f_X7_isSafeTable_31 f_X7_isSafeTable_64 f_X7_isSafeTable_68 f_X7_isSafeTable_69
    rw [wopt, wgd_d hw, x_numberFound s2 (q_hide_no s1), bind_s, if_pos rfl, wgd_d hw, x_numberWithoutWay s2 (q_hide_no s1), bind_s, if_pos rfl, if_neg (by decide), wgd_d hw, ti.2.2, b_ite, wgd_d hw, h1.x.1, x_shows h.w h1.tx h.ok hi (f := X' 12) (fun c hc => h1.2.1.1.2.1 c hc), bind_s, b_ite, wgd_t okZ_1]
    rcases h.2.2 i hi with q | q
    · rw [q]; rfl
    · rw [q]
      cases (T.2 i).2.2 <;> rfl
  have lp : ∀ (n i : Nat), i ≤ T.1 → T.1 - i < n → f_X7_isSafe_28 n X' (nI i) = some (1, X') := by
    intro n
    induction n with
    | zero => intro i _ h; omega
    | succ n ih =>
      intro i hi hn
      rw [f_X7_isSafe_28]
      dsimp only
      rw [f_X7_isSafe_28b, h1.tx.1, ilt (by omega) (by omega)]
      by_cases e : i < T.1
      · rw [if_pos e, wtab, if_pos (inb_n (by omega) (by omega)), nI_clamp (by omega), h1.tx.nT, if_pos e, hsafe i e, bind_s, if_neg (by decide), wbd_e, Lm1]
        exact ih (i + 1) (by omega) (by omega)
      · rw [if_neg e]
  refine ⟨X', ?_, rfl, h1.thr 0⟩
  unfold f_X7_isSafe
  rw [b1, bind_s, hc, bind_s, if_neg (by decide), L0]
  exact lp 1000 0 (by omega) (by omega)
