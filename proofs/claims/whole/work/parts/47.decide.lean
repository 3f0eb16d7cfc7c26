/-! decisions -/
def q_dec (d : mD) (a b v : Nat) : mD := (d.1, d.2.1, (fun i j => if (i = a ∧ j = b) ∨ (i = b ∧ j = a) then v else q_de d i j), d.2.2.2)
theorem min_max (a b : Nat) : (if b < a then b else a) = min a b ∧ (if a < b then b else a) = max a b := by
  constructor
  · split <;> omega
  · split <;> omega
theorem x_placeOfPair {a b : Nat} (ha : a < 40) (hb : b < 40) : f_X1_placeOfPair (nI a) (nI b) = some (nI (min a b * 40 + max a b)) := by
  unfold f_X1_placeOfPair
  rw [ilt (by omega) (by omega), ilt (by omega) (by omega), L40]
  have e1 : (if b < a then nI b else nI a) = nI (min a b) := by rw [← (min_max a b).1]; split <;> rfl
  have e2 : (if a < b then nI b else nI a) = nI (max a b) := by rw [← (min_max a b).2]; split <;> rfl
  rw [e1, e2, pk_mul, nI_add]
theorem PRE.dec {d : mD} {T : mT} {X Y : wM} (h : INV d T X Y) {a b v u : Nat} (ha : a < 40) (hb : b < 40) (hne : a ≠ b) (hv : v = 0 ∨ v = 121 ∨ v = 110) (hu : u = if v = 0 then 45 else v) {X1 Y1 : wM} (hX1 : X1 = updM X 9 (upd (X 9) (min a b * 40 + max a b) (nI u))) (hY1 : Y1 = updM (updM (thr Y 0) 30 (upd (thr Y 0 30) (40 * a + b) (nI v))) 30 (upd (updM (thr Y 0) 30 (upd (thr Y 0 30) (40 * a + b) (nI v)) 30) (40 * b + a) (nI v))) : PRE (q_dec d a b v) T X1 Y1 ∧ Y1 22 14 = 0 := by
  have xo : ∀ k, k ≠ 9 → X1 k = X k := fun k a => by rw [hX1, updM_ne _ _ a]
  have x9 : X1 9 = upd (X 9) (min a b * 40 + max a b) (nI u) := by rw [hX1, updM_s]
  have yo : ∀ k, k ≠ 30 → Y1 k = thr Y 0 k := fun k a => by rw [hY1, updM_ne _ _ a, updM_ne _ _ a]
  have y30 : Y1 30 = upd (upd (Y 30) (40 * a + b) (nI v)) (40 * b + a) (nI v) := by rw [hY1, updM_s, updM_s, thr_o Y 0 (by decide)]
  obtain ⟨v1, v2, v3, v4, v5, v6, v7, v8, v9⟩ := h.w
  obtain ⟨r1, r2, r3, r4, r5, r6, r7⟩ := h.x
  have hy := h.y.thr 0
  obtain ⟨s1, s2, s3, s4, s5, s6, s7⟩ := hy
  have hw' : q_ok (q_dec d a b v) := by
    refine ⟨v1, v2, v3, v4, v5, fun i j => ?_, fun i j => ?_, fun i => ?_, v9⟩
    · show (if (i = a ∧ j = b) ∨ (i = b ∧ j = a) then v else q_de d i j) = 0 ∨ (if (i = a ∧ j = b) ∨ (i = b ∧ j = a) then v else q_de d i j) = 121 ∨ (if (i = a ∧ j = b) ∨ (i = b ∧ j = a) then v else q_de d i j) = 110
      split
      · exact hv
      · exact v6 i j
    · show (if (i = a ∧ j = b) ∨ (i = b ∧ j = a) then v else q_de d i j) = if (j = a ∧ i = b) ∨ (j = b ∧ i = a) then v else q_de d j i
      by_cases z : (i = a ∧ j = b) ∨ (i = b ∧ j = a)
      · rw [if_pos z, if_pos (by omega)]
      · rw [if_neg z, if_neg (by omega)]
        exact v7 i j
    · show (if (i = a ∧ i = b) ∨ (i = b ∧ i = a) then v else q_de d i i) = 0
      rw [if_neg (by omega)]
      exact v8 i
  have hx' : RX (q_dec d a b v) X1 := by
    refine ⟨by rw [xo 1 (by decide)]; exact r1, by rw [xo 1 (by decide)]; exact r2, by rw [xo 2 (by decide)]; exact r3, by rw [xo 3 (by decide)]; exact r4, by rw [xo 4 (by decide), xo 5 (by decide), xo 6 (by decide), xo 7 (by decide)]; exact r5, fun i j hij hj => ?_, by rw [xo 8 (by decide)]; exact r7⟩
    show _ = nI (if (if (i = a ∧ j = b) ∨ (i = b ∧ j = a) then v else q_de d i j) = 0 then 45 else if (i = a ∧ j = b) ∨ (i = b ∧ j = a) then v else q_de d i j)
    rw [x9]
    by_cases z : (i = a ∧ j = b) ∨ (i = b ∧ j = a)
    · rw [if_pos z, ← hu, show i * 40 + j = min a b * 40 + max a b by rcases z with ⟨rfl, rfl⟩ | ⟨rfl, rfl⟩ <;> omega, upd_s]
    · rw [if_neg z, upd_n _ _ (by omega)]
      exact r6 i j hij hj
  have hy' : RY (q_dec d a b v) Y1 := by
    refine ⟨by rw [yo 22 (by decide)]; exact s1, by rw [yo 22 (by decide)]; exact s2, by rw [yo 23 (by decide)]; exact s3, by rw [yo 22 (by decide)]; exact s4, by rw [yo 29 (by decide), yo 24 (by decide), yo 25 (by decide), yo 26 (by decide)]; exact s5, fun i j hi hj => ?_, by rw [yo 22 (by decide)]; exact s7⟩
    show _ = nI (if (i = a ∧ j = b) ∨ (i = b ∧ j = a) then v else q_de d i j)
    rw [y30]
    by_cases z : (i = a ∧ j = b) ∨ (i = b ∧ j = a)
    · rw [if_pos z]
      rcases z with ⟨rfl, rfl⟩ | ⟨rfl, rfl⟩
      · rw [upd_n _ _ (by omega), upd_s]
      · rw [upd_s]
    · rw [if_neg z, upd_n _ _ (by omega), upd_n _ _ (by omega), ← thr_o Y 0 (show (30 : Nat) ≠ 22 by decide)]
      exact s6 i j hi hj
  refine ⟨PRE.of h hw' hx' hy' (fun k a => xo k (by omega)) (fun k a _ _ => by rw [yo k (by omega), thr_o Y 0 (by omega)]) (by rw [yo 22 (by decide), thr_f Y 0 (by decide)]), by rw [yo 22 (by decide)]; exact thr_14 Y 0⟩
theorem pair_lt {i j : Nat} (hi : i < 40) (hj : j < 40) : min i j * 40 + max i j < 1600 := by omega
theorem op_decide {d : mD} {T : mT} {X Y : wM} (h : INV d T X Y) (a b c : Int32) : OM (fun e => if e = 5 then 1 else if e = 1 then 2 else if e = 4 then 3 else 0) (f_X7_decide X a b c) (f_X8_decide Y a b c) := by
  have w4 := h.w.2.2.2.1
  unfold f_X7_decide f_X8_decide f_X8_decide_44
  rw [x_two h.x h.w, y_two h.y h.w]
  cases hb : (inb a (q_nr d) && inb b (q_nr d))
  · exact OM.bad h 5 1 (by decide) (by decide) rfl rfl 0 rfl
  · obtain ⟨b1, b2⟩ := (Bool.and_eq_true _ _).mp hb
    rw [if_pos rfl, if_pos rfl]
    by_cases e : a = b
    · rw [if_pos e, if_pos e]
      exact OM.bad h 1 2 (by decide) (by decide) rfl rfl 0 rfl
    · obtain ⟨i, hi, rfl⟩ := inb_ex b1
      obtain ⟨j, hj, rfl⟩ := inb_ex b2
      have ne : i ≠ j := fun z => e (by rw [z])
      rw [if_neg e, if_neg e, wthr_r, bind_s, wfld14, thr_14, if_pos rfl, wget_n (by omega) (by omega), wget_n (by omega) (by omega), wget_n (by omega) (by omega), wget_n (by omega) (by omega), y_kind2 (h.y.thr 0) hi, y_kind2 (h.y.thr 0) hj, (h.x.2.2.2.2.1 i hi).1, (h.x.2.2.2.2.1 j hj).1, b_ite, b_ite]
      have okk : ∀ v : Nat, (v = 121 ∨ v = 110) → OM (fun e => if e = 5 then 1 else if e = 1 then 2 else if e = 4 then 3 else 0) (f_X7_decide_57 X (nI v) (nI j) (nI i)) (f_X8_decide_67 (thr Y 0) (nI v) (nI j) (nI i)) := by
        intro v hv
        have v127 : v < 128 := by omega
        obtain ⟨h1, h2⟩ := PRE.dec h (a := i) (b := j) (v := v) (u := v) (by omega) (by omega) ne (Or.inr hv) (by rw [if_neg (by omega)]) rfl rfl
        refine OM.set h1 h2 (fun n X' Y' q1 q2 q3 => ⟨n, ?_, ?_⟩)
        · unfold f_X7_decide_57 f_X1_putDecision
          rw [x_placeOfPair (by omega) (by omega), bind_s, narC_n v v127, wput_n (pair_lt (by omega) (by omega)) (by omega), bind_s, q1, bind_s]
        · unfold f_X8_decide_67 f_X8_decides
          rw [L40, pk_mul, pk_mul, nI_add, nI_add, narC_n v v127, wput_n (by omega) (by omega), wput_n (by omega) (by omega), bind_s, q2, bind_s]
      have both : OM (fun e => if e = 5 then 1 else if e = 1 then 2 else if e = 4 then 3 else 0) (f_X7_decide_40 X (nI i) (nI j) c) (if (0 : Int32) < 0 then some (0, thr Y 0) else if c = 0 then f_X8_decide_67 (thr Y 0) 110 (nI j) (nI i) else f_X8_decide_67 (thr Y 0) 121 (nI j) (nI i)) := by
        unfold f_X7_decide_40
        rw [if_neg i01]
        by_cases z : c = 0
        · rw [if_pos z, if_pos z]
          exact okk 110 (Or.inr rfl)
        · rw [if_neg z, if_neg z]
          exact okk 121 (Or.inl rfl)
      have nf : ¬ (false = true) := by decide
      cases ci : q_ce d i
      · rw [if_neg nf, if_neg nf]
        cases cj : q_ce d j
        · rw [if_neg nf, if_neg nf, wfld14]
          have e3 : thr (thr Y 0) 3 22 14 = 3 := thr_14 _ 3
          rw [e3, if_pos (by decide)]
          exact ⟨d, T, X, thr (thr Y 0) 3, (h.thr 0).thr 3, Or.inr ⟨4, 0, rfl, rfl, by decide, by decide, e3⟩⟩
        · rw [if_pos rfl, if_pos rfl]
          exact both
      · rw [if_pos rfl, if_pos rfl]
        exact both
theorem op_takeBack {d : mD} {T : mT} {X Y : wM} (h : INV d T X Y) (a b : Int32) : OM (fun e => if e = 5 then 1 else if e = 0 then 2 else 0) (f_X7_takeBack X a b) (f_X8_takeBack Y a b) := by
  have hw := h.w
  have w4 := h.w.2.2.2.1
  unfold f_X7_takeBack f_X8_takeBack f_X8_takeBack_17 f_X8_takeBack_40
  rw [x_needRecord h.x hw, x_needRecord h.x hw, y_isRecord h.y hw, bind_s, b_ite]
  cases ha : inb a (q_nr d)
  · exact OM.bad h 5 1 (by decide) (by decide) rfl rfl 0 rfl
  · rw [if_pos rfl, if_pos rfl, wthr_r, y_isRecord h.y hw, bind_s, b_ite]
    cases hb : inb b (q_nr d)
    · exact OM.bad h 5 1 (by decide) (by decide) rfl rfl 0 rfl
    · obtain ⟨i, hi, rfl⟩ := inb_ex ha
      obtain ⟨j, hj, rfl⟩ := inb_ex hb
      have dx : X 9 (min i j * 40 + max i j) = nI (if q_de d i j = 0 then 45 else q_de d i j) := by
        rw [h.x.2.2.2.2.2.1 _ _ (by omega) (by omega)]
        by_cases z : i ≤ j
        · rw [show min i j = i by omega, show max i j = j by omega]
        · rw [show min i j = j by omega, show max i j = i by omega, hw.2.2.2.2.2.2.1 j i]
      have dy := h.y.2.2.2.2.2.1 i j (by omega) (by omega)
      have dd := hw.2.2.2.2.2.1 i j
      unfold f_X1_isDecided f_X1_isDecided_21
      rw [if_pos rfl, if_pos rfl, wthr_r, L40, pk_mul, nI_add, wget_n (by omega) (by omega), dy, x_placeOfPair (by omega) (by omega), bind_s, wget_n (pair_lt (by omega) (by omega)) (by omega), dx, wgd_t okZ_0, wgd_t okZ_1, L0, ieq (by omega) (by omega), ← L0, L45, ieq (by split <;> omega) (by omega)]
      by_cases z : q_de d i j = 0
      · rw [if_pos z, if_pos z, if_pos rfl, bind_s, if_pos rfl]
        exact OM.bad h 0 2 (by decide) (by decide) rfl rfl 0 rfl
      · have ne : i ≠ j := fun w => z (by rw [w]; exact hw.2.2.2.2.2.2.2.1 j)
        rw [if_neg z, if_neg z, if_neg (by omega), bind_s, if_neg (by decide), wfld14, thr_14, if_neg i01]
        obtain ⟨h1, h2⟩ := PRE.dec h (a := i) (b := j) (v := 0) (u := 45) (by omega) (by omega) ne (Or.inl rfl) rfl rfl rfl
        refine OM.set h1 h2 (fun n X' Y' q1 q2 q3 => ⟨n, ?_, ?_⟩)
        · unfold f_X1_putDecision
          rw [x_placeOfPair (by omega) (by omega), bind_s, narC_n 45 (by decide), wput_n (pair_lt (by omega) (by omega)) (by omega), bind_s, q1, bind_s]
        · unfold f_X8_decides
          rw [L0, narC_n 0 (by decide), L40, pk_mul, pk_mul, nI_add, nI_add, wput_n (by omega) (by omega), wput_n (by omega) (by omega), bind_s]
          exact congrArg (fun o : Option (Int32 × wM) => o.bind fun y60 => some (y60.1, y60.2)) q2
