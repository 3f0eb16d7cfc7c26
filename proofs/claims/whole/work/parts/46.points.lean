/-! bounds, points -/
theorem lt_neg {a b : Int32} (h : b < 0) (g : ¬ a < 0) : b < a := by
  rw [Int32.lt_iff_toInt_lt] at *
  omega
theorem op_setBounds {d : mD} {T : mT} {X Y : wM} (h : INV d T X Y) (a b : Int32) : OM (fun e => if e = 1 then 1 else 0) (f_X7_setBounds X a b) (f_X8_setBounds Y a b) := by
  have hw := h.w
  have bad : OM (fun e => if e = 1 then 1 else 0) (some (.inl (1, X))) (f_X8_setBounds_26 Y a b 0) := by
    have ck : f_X8_checked Y 0 = some (1, thr Y 1) := y_chk Y false
    unfold f_X8_setBounds_26
    rw [ck, bind_s]
    exact OM.bad h 1 1 (by decide) (by decide) rfl rfl 0 rfl
  unfold f_X7_setBounds f_X8_setBounds f_X7_setBounds_21 f_X8_setBounds_25
  rw [f_in_b, f_in_b]
  simp only [bind_s, b_ite]
  by_cases p1 : a < 0
  · rw [if_pos p1, decide_eq_false (show ¬ ¬ a < 0 from fun z => z p1)]
    exact bad
  · rw [if_neg p1, decide_eq_true p1]
    by_cases p2 : (30 : Int32) < a
    · rw [if_pos p2, decide_eq_false (show ¬ ¬ (30 : Int32) < a from fun z => z p2)]
      exact bad
    · rw [if_neg p2, decide_eq_true p2]
      by_cases p3 : b < a
      · rw [if_pos p3, decide_eq_false (show ¬ ¬ b < a from fun z => z p3)]
        exact bad
      · rw [if_neg p3, decide_eq_true p3]
        by_cases p4 : (30 : Int32) < b
        · rw [if_pos p4, decide_eq_false (show ¬ ¬ (30 : Int32) < b from fun z => z p4)]
          exact bad
        · rw [if_neg p4, decide_eq_true p4]
          obtain ⟨l, hl, rfl⟩ : ∃ n : Nat, n < 2 ^ 31 ∧ a = nI n := (anyI a).resolve_left p1
          obtain ⟨u, hu, rfl⟩ : ∃ n : Nat, n < 2 ^ 31 ∧ b = nI n := (anyI b).resolve_left (fun z => p3 (lt_neg z p1))
          have l1 : l ≤ u := by
            refine Classical.byContradiction (fun z => p3 ((nI_ltI hu hl).mpr (by omega)))
          have l2 : u ≤ 30 := by
            refine Classical.byContradiction (fun z => p4 ((nI_ltI (a := 30) (by omega) hu).mpr (by omega)))
          obtain ⟨d', hd⟩ : ∃ d' : mD, d' = (d.1, d.2.1, d.2.2.1, d.2.2.2.1, (l, u)) := ⟨_, rfl⟩
          have hw' : q_ok d' := by
            obtain ⟨v1, v2, v3, v4, v5, v6, v7, v8, v9, v10, v11, _, _⟩ := hw
            rw [hd]
            exact ⟨v1, v2, v3, v4, v5, v6, v7, v8, v9, v10, v11, l1, l2⟩
          obtain ⟨X1, hX1⟩ : ∃ X1, X1 = updM (updM X 8 (upd (X 8) 5 (nI l))) 8 (upd (updM X 8 (upd (X 8) 5 (nI l)) 8) 6 (nI u)) := ⟨_, rfl⟩
          obtain ⟨Y1, hY1⟩ : ∃ Y1, Y1 = updM (updM (thr Y 0) 22 (upd (thr Y 0 22) 22 (nI l))) 22 (upd (updM (thr Y 0) 22 (upd (thr Y 0 22) 22 (nI l)) 22) 23 (nI u)) := ⟨_, rfl⟩
          have xo : ∀ k, k ≠ 8 → X1 k = X k := fun k a => by rw [hX1, updM_ne _ _ a, updM_ne _ _ a]
          have x8 : X1 8 = upd (upd (X 8) 5 (nI l)) 6 (nI u) := by rw [hX1, updM_s, updM_s]
          have yo : ∀ k, k ≠ 22 → Y1 k = Y k := fun k a => by rw [hY1, updM_ne _ _ a, updM_ne _ _ a, thr_o Y 0 a]
          have y22 : Y1 22 = upd (upd (thr Y 0 22) 22 (nI l)) 23 (nI u) := by rw [hY1, updM_s, updM_s]
          have yf : ∀ j, j ≠ 14 → j ≠ 22 → j ≠ 23 → Y1 22 j = Y 22 j := fun j a b c => by rw [y22, upd_n _ _ c, upd_n _ _ b, thr_f Y 0 a]
          have hx' : RX d' X1 := by
            obtain ⟨r1, r2, r3, r4, r5, r6, r7, r8, r9, _, _⟩ := h.x
            rw [hd]
            unfold RX at *
            rw [xo 1 (by decide), xo 2 (by decide), xo 3 (by decide), xo 4 (by decide), xo 5 (by decide), xo 6 (by decide), xo 7 (by decide), xo 9 (by decide), x8]
            refine ⟨r1, r2, r3, r4, r5, r6, ?_, ?_, ?_, ?_, ?_⟩
            · rw [upd_n _ _ (by decide), upd_n _ _ (by decide)]; exact r7
            · rw [upd_n _ _ (by decide), upd_n _ _ (by decide)]; exact r8
            · rw [upd_n _ _ (by decide), upd_n _ _ (by decide)]; exact r9
            · rw [upd_n _ _ (by decide), upd_s]; rfl
            · rw [upd_s]; rfl
          have hy' : RY d' Y1 := by
            obtain ⟨r1, r2, r3, r4, r5, r6, r7, r8, r9, _, _⟩ := h.y
            rw [hd]
            unfold RY at *
            rw [yo 23 (by decide), yo 24 (by decide), yo 25 (by decide), yo 26 (by decide), yo 29 (by decide), yo 30 (by decide), yf 15 (by decide) (by decide) (by decide), yf 16 (by decide) (by decide) (by decide), yf 17 (by decide) (by decide) (by decide), yf 19 (by decide) (by decide) (by decide), yf 20 (by decide) (by decide) (by decide), yf 21 (by decide) (by decide) (by decide), y22]
            refine ⟨r1, r2, r3, r4, r5, r6, r7, r8, r9, ?_, ?_⟩
            · rw [upd_n _ _ (by decide), upd_s]; rfl
            · rw [upd_s]; rfl
          refine OM.set (PRE.of h hw' hx' hy' (fun k a => xo k (by omega)) (fun k a _ _ => yo k (by omega)) (yf 18 (by decide) (by decide) (by decide))) (by rw [y22, upd_n _ _ (by decide), upd_n _ _ (by decide)]; exact thr_14 Y 0) (fun n X' Y' q1 q2 q3 => ?_)
          refine ⟨nI (q_up d), ?_, ?_⟩
          · rw [wbd_e, wfld_e, wfld_e, ← hX1, q1, bind_s, h.x.2.2.2.2.2.2.2.2.2.2]
          · have ck : f_X8_checked Y 1 = some (0, thr Y 0) := y_chk Y true
            show f_X8_setBounds_26 Y (nI l) (nI u) 1 = _
            unfold f_X8_setBounds_26
            rw [ck, bind_s, if_neg i01, wbd_e, wfld_e, wfld_e]
            dsimp only
            rw [← hY1, q2, bind_s, thr_f Y 0 (show (23 : Nat) ≠ 14 by decide), h.y.2.2.2.2.2.2.2.2.2.2]
/-- points: which of the three -/
theorem set_pts {d d' : mD} {T : mT} {X Y : wM} (h : INV d T X Y) {x f v : Nat} (hf : (x = 2 ∧ f = 19 ∧ d' = (d.1, d.2.1, d.2.2.1, (v, q_py d, q_pp d), d.2.2.2.2)) ∨ (x = 3 ∧ f = 20 ∧ d' = (d.1, d.2.1, d.2.2.1, (q_pn d, v, q_pp d), d.2.2.2.2)) ∨ (x = 4 ∧ f = 21 ∧ d' = (d.1, d.2.1, d.2.2.1, (q_pn d, q_py d, v), d.2.2.2.2))) (hv : v ≤ 9) {X1 Y1 : wM} (hX1 : X1 = updM X 8 (upd (X 8) x (nI v))) (hY1 : Y1 = updM (thr Y 0) 22 (upd (thr Y 0 22) f (nI v))) : PRE d' T X1 Y1 ∧ Y1 22 14 = 0 ∧ ∃ o, X 8 x = nI o ∧ Y 22 f = nI o := by
  have hw := h.w
  have xo : ∀ k, k ≠ 8 → X1 k = X k := fun k a => by rw [hX1, updM_ne _ _ a]
  have x8 : X1 8 = upd (X 8) x (nI v) := by rw [hX1, updM_s]
  have yo : ∀ k, k ≠ 22 → Y1 k = Y k := fun k a => by rw [hY1, updM_ne _ _ a, thr_o Y 0 a]
  have y22 : Y1 22 = upd (thr Y 0 22) f (nI v) := by rw [hY1, updM_s]
  have yf : ∀ j, j ≠ 14 → j ≠ f → Y1 22 j = Y 22 j := fun j a b => by rw [y22, upd_n _ _ b, thr_f Y 0 a]
  obtain ⟨v1, v2, v3, v4, v5, v6, v7, v8, v9, v10, v11, v12⟩ := hw
  obtain ⟨r1, r2, r3, r4, r5, r6, r7, r8, r9, r10⟩ := h.x
  obtain ⟨s1, s2, s3, s4, s5, s6, s7, s8, s9, s10⟩ := h.y
  have rest : q_ok d' → RX d' X1 → RY d' Y1 → f ≠ 18 → f ≠ 14 → PRE d' T X1 Y1 ∧ Y1 22 14 = 0 := fun a b c e g =>
    ⟨PRE.of h a b c (fun k a => xo k (by omega)) (fun k a _ _ => yo k (by omega)) (yf 18 (by decide) (fun z => e z.symm)), by rw [y22, upd_n _ _ (fun z => g z.symm)]; exact thr_14 Y 0⟩
  rcases hf with ⟨e1, e2, e3⟩ | ⟨e1, e2, e3⟩ | ⟨e1, e2, e3⟩
  · subst e1; subst e2
    have hw' : q_ok d' := by rw [e3]; exact ⟨v1, v2, v3, v4, v5, v6, v7, v8, hv, v10, v11, v12⟩
    have hx' : RX d' X1 := by
      rw [e3]; unfold RX
      rw [xo 1 (by decide), xo 2 (by decide), xo 3 (by decide), xo 4 (by decide), xo 5 (by decide), xo 6 (by decide), xo 7 (by decide), xo 9 (by decide), x8, upd_s, upd_n _ _ (by decide), upd_n _ _ (by decide), upd_n _ _ (by decide), upd_n _ _ (by decide)]
      exact ⟨r1, r2, r3, r4, r5, r6, rfl, r8, r9, r10⟩
    have hy' : RY d' Y1 := by
      rw [e3]; unfold RY
      rw [yo 23 (by decide), yo 24 (by decide), yo 25 (by decide), yo 26 (by decide), yo 29 (by decide), yo 30 (by decide), yf 15 (by decide) (by decide), yf 16 (by decide) (by decide), yf 17 (by decide) (by decide), yf 20 (by decide) (by decide), yf 21 (by decide) (by decide), yf 22 (by decide) (by decide), yf 23 (by decide) (by decide), y22, upd_s]
      exact ⟨s1, s2, s3, s4, s5, s6, rfl, s8, s9, s10⟩
    exact ⟨(rest hw' hx' hy' (by decide) (by decide)).1, (rest hw' hx' hy' (by decide) (by decide)).2, _, r7, s7⟩
  · subst e1; subst e2
    have hw' : q_ok d' := by rw [e3]; exact ⟨v1, v2, v3, v4, v5, v6, v7, v8, v9, hv, v11, v12⟩
    have hx' : RX d' X1 := by
      rw [e3]; unfold RX
      rw [xo 1 (by decide), xo 2 (by decide), xo 3 (by decide), xo 4 (by decide), xo 5 (by decide), xo 6 (by decide), xo 7 (by decide), xo 9 (by decide), x8, upd_s, upd_n _ _ (by decide), upd_n _ _ (by decide), upd_n _ _ (by decide), upd_n _ _ (by decide)]
      exact ⟨r1, r2, r3, r4, r5, r6, r7, rfl, r9, r10⟩
    have hy' : RY d' Y1 := by
      rw [e3]; unfold RY
      rw [yo 23 (by decide), yo 24 (by decide), yo 25 (by decide), yo 26 (by decide), yo 29 (by decide), yo 30 (by decide), yf 15 (by decide) (by decide), yf 16 (by decide) (by decide), yf 17 (by decide) (by decide), yf 19 (by decide) (by decide), yf 21 (by decide) (by decide), yf 22 (by decide) (by decide), yf 23 (by decide) (by decide), y22, upd_s]
      exact ⟨s1, s2, s3, s4, s5, s6, s7, rfl, s9, s10⟩
    exact ⟨(rest hw' hx' hy' (by decide) (by decide)).1, (rest hw' hx' hy' (by decide) (by decide)).2, _, r8, s8⟩
  · subst e1; subst e2
    have hw' : q_ok d' := by rw [e3]; exact ⟨v1, v2, v3, v4, v5, v6, v7, v8, v9, v10, hv, v12⟩
    have hx' : RX d' X1 := by
      rw [e3]; unfold RX
      rw [xo 1 (by decide), xo 2 (by decide), xo 3 (by decide), xo 4 (by decide), xo 5 (by decide), xo 6 (by decide), xo 7 (by decide), xo 9 (by decide), x8, upd_s, upd_n _ _ (by decide), upd_n _ _ (by decide), upd_n _ _ (by decide), upd_n _ _ (by decide)]
      exact ⟨r1, r2, r3, r4, r5, r6, r7, r8, rfl, r10⟩
    have hy' : RY d' Y1 := by
      rw [e3]; unfold RY
      rw [yo 23 (by decide), yo 24 (by decide), yo 25 (by decide), yo 26 (by decide), yo 29 (by decide), yo 30 (by decide), yf 15 (by decide) (by decide), yf 16 (by decide) (by decide), yf 17 (by decide) (by decide), yf 19 (by decide) (by decide), yf 20 (by decide) (by decide), yf 22 (by decide) (by decide), yf 23 (by decide) (by decide), y22, upd_s]
      exact ⟨s1, s2, s3, s4, s5, s6, s7, s8, rfl, s10⟩
    exact ⟨(rest hw' hx' hy' (by decide) (by decide)).1, (rest hw' hx' hy' (by decide) (by decide)).2, _, r9, s9⟩
theorem op_setPoints {d : mD} {T : mT} {X Y : wM} (h : INV d T X Y) (a b : Int32) : OM (fun e => if e = 1 then 1 else 0) (f_X7_setPoints X a b) (f_X8_setPoints Y a b) := by
  have bad : OM (fun e => if e = 1 then 1 else 0) (some (.inl (1, X))) (f_X8_setPoints_34 Y a b 0) := by
    have ck : f_X8_checked Y 0 = some (1, thr Y 1) := y_chk Y false
    unfold f_X8_setPoints_34
    rw [ck, bind_s]
    exact OM.bad h 1 1 (by decide) (by decide) rfl rfl 0 rfl
  have main : a = 110 ∨ a = 121 ∨ a = 112 → OM (fun e => if e = 1 then 1 else 0) (f_X7_setPoints_28 X a b) (f_X8_setPoints_19 Y a b) := by
    intro ha
    unfold f_X7_setPoints_28 f_X8_setPoints_19 f_X7_setPoints_38 f_X8_setPoints_33
    rw [f_in_b, bind_s, b_ite]
    by_cases p1 : b < 0
    · rw [if_pos p1, decide_eq_false (show ¬ ¬ b < 0 from fun z => z p1)]
      exact bad
    · rw [if_neg p1, decide_eq_true p1]
      by_cases p2 : (9 : Int32) < b
      · rw [if_pos p2, decide_eq_false (show ¬ ¬ (9 : Int32) < b from fun z => z p2)]
        exact bad
      · rw [if_neg p2, decide_eq_true p2, Bool.true_and, if_pos rfl]
        obtain ⟨v, hv, rfl⟩ : ∃ n : Nat, n < 2 ^ 31 ∧ b = nI n := (anyI b).resolve_left p1
        have v9 : v ≤ 9 := by
          refine Classical.byContradiction (fun z => p2 ((nI_ltI (a := 9) (by omega) hv).mpr (by omega)))
        have ck : f_X8_checked Y 1 = some (0, thr Y 0) := y_chk Y true
        unfold f_X8_setPoints_34 f_X8_setPoints_72 f_X8_setPoints_84 f_X8_setPoints_95 f_X8_setPoints_106 f_X1_changePoints f_X1_changePoints_48
        rw [ck, bind_s, if_neg i01]
        dsimp only
        rcases ha with rfl | rfl | rfl
        · obtain ⟨h1, h2, o, h3, h4⟩ := set_pts h (d' := (d.1, d.2.1, d.2.2.1, (v, q_py d, q_pp d), d.2.2.2.2)) (Or.inl ⟨rfl, rfl, rfl⟩) v9 rfl rfl
          refine OM.set h1 h2 (fun n X' Y' q1 q2 q3 => ⟨nI o, ?_, ?_⟩)
          · rw [if_pos rfl, wbd_e, wfld_e, bind_s, h3]
            dsimp only
            rw [q1, bind_s]
          · rw [if_pos rfl, if_pos rfl, wfld_e, thr_f Y 0 (show (19 : Nat) ≠ 14 by decide), h4, if_neg (by decide), if_neg (by decide), q2, bind_s]
        · obtain ⟨h1, h2, o, h3, h4⟩ := set_pts h (d' := (d.1, d.2.1, d.2.2.1, (q_pn d, v, q_pp d), d.2.2.2.2)) (Or.inr (Or.inl ⟨rfl, rfl, rfl⟩)) v9 rfl rfl
          refine OM.set h1 h2 (fun n X' Y' q1 q2 q3 => ⟨nI o, ?_, ?_⟩)
          · rw [if_neg (by decide), if_pos rfl, wbd_e, wfld_e, bind_s, h3]
            dsimp only
            rw [q1, bind_s]
          · rw [if_neg (by decide), if_pos rfl, if_neg (by decide), if_pos rfl, wfld_e, thr_f Y 0 (show (20 : Nat) ≠ 14 by decide), h4, if_neg (by decide), q2, bind_s]
        · obtain ⟨h1, h2, o, h3, h4⟩ := set_pts h (d' := (d.1, d.2.1, d.2.2.1, (q_pn d, q_py d, v), d.2.2.2.2)) (Or.inr (Or.inr ⟨rfl, rfl, rfl⟩)) v9 rfl rfl
          refine OM.set h1 h2 (fun n X' Y' q1 q2 q3 => ⟨nI o, ?_, ?_⟩)
          · rw [if_neg (by decide), if_neg (by decide), wbd_e, wfld_e, bind_s, h3]
            dsimp only
            rw [q1, bind_s]
          · rw [if_neg (by decide), if_neg (by decide), if_neg (by decide), if_neg (by decide), if_pos rfl, wfld_e, thr_f Y 0 (show (21 : Nat) ≠ 14 by decide), h4, q2, bind_s]
  unfold f_X7_setPoints f_X8_setPoints f_X8_setPoints_33
  by_cases p1 : a = 110
  · rw [if_pos p1, if_pos p1]
    exact main (Or.inl p1)
  · rw [if_neg p1, if_neg p1]
    by_cases p2 : a = 121
    · rw [if_pos p2, if_pos p2]
      exact main (Or.inr (Or.inl p2))
    · rw [if_neg p2, if_neg p2]
      by_cases p3 : a = 112
      · rw [if_pos p3, if_pos p3]
        exact main (Or.inr (Or.inr p3))
      · rw [if_neg p3, if_neg p3]
        exact bad
