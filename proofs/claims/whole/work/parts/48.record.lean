/-! a record more -/
def q_rec (d : mD) (c : Bool) (a n y : Nat) : mD := (d.1, (q_nr d + 1, (fun i => if i = q_nr d then c else q_ce d i), (fun i => if i = q_nr d then a else q_ad d i), (fun i => if i = q_nr d then n else q_nm d i), (fun i => if i = q_nr d then y else q_yr d i)), d.2.2)
theorem PRE.rec {d : mD} {T : mT} {X Y : wM} (h : INV d T X Y) {c : Bool} {a n y : Nat} (ha : a < q_na d) (hn : n ≤ 999) (hy0 : y ≤ 120) (h40 : q_nr d < 40) {X1 X2 X3 X4 X5 Y1 Y2 Y3 Y4 Y5 : wM}
    (e1 : X1 = updM X 4 (upd (X 4) (q_nr d) (if c then 1 else 0))) (e2 : X2 = updM X1 5 (upd (X1 5) (q_nr d) (nI a))) (e3 : X3 = updM X2 6 (upd (X2 6) (q_nr d) (nI n))) (e4 : X4 = updM X3 7 (upd (X3 7) (q_nr d) (nI y))) (e5 : X5 = updM X4 3 (upd (X4 3) 5 (nI (q_nr d + 1))))
    (f1 : Y1 = updM (thr Y 0) 29 (upd (thr Y 0 29) (q_nr d) (nI (if c then 99 else 107)))) (f2 : Y2 = updM Y1 24 (upd (Y1 24) (q_nr d) (nI a))) (f3 : Y3 = updM Y2 25 (upd (Y2 25) (q_nr d) (nI n))) (f4 : Y4 = updM Y3 26 (upd (Y3 26) (q_nr d) (nI y))) (f5 : Y5 = updM Y4 22 (upd (Y4 22) 17 (nI (q_nr d + 1)))) : PRE (q_rec d c a n y) T X5 Y5 ∧ X5 3 5 = nI (q_nr d + 1) ∧ Y5 22 = upd (thr Y 0 22) 17 (nI (q_nr d + 1)) := by
  have xo : ∀ k, k ≠ 3 → k ≠ 4 → k ≠ 5 → k ≠ 6 → k ≠ 7 → X5 k = X k := fun k a b c d e => by
    rw [e5, updM_ne _ _ a, e4, updM_ne _ _ e, e3, updM_ne _ _ d, e2, updM_ne _ _ c, e1, updM_ne _ _ b]
  have x3 : X5 3 = upd (X 3) 5 (nI (q_nr d + 1)) := by
    rw [e5, updM_s, e4, updM_ne _ _ (by decide), e3, updM_ne _ _ (by decide), e2, updM_ne _ _ (by decide), e1, updM_ne _ _ (by decide)]
  have x4 : X5 4 = upd (X 4) (q_nr d) (if c then 1 else 0) := by
    rw [e5, updM_ne _ _ (by decide), e4, updM_ne _ _ (by decide), e3, updM_ne _ _ (by decide), e2, updM_ne _ _ (by decide), e1, updM_s]
  have x5 : X5 5 = upd (X 5) (q_nr d) (nI a) := by
    rw [e5, updM_ne _ _ (by decide), e4, updM_ne _ _ (by decide), e3, updM_ne _ _ (by decide), e2, updM_s, e1, updM_ne _ _ (by decide)]
  have x6 : X5 6 = upd (X 6) (q_nr d) (nI n) := by
    rw [e5, updM_ne _ _ (by decide), e4, updM_ne _ _ (by decide), e3, updM_s, e2, updM_ne _ _ (by decide), e1, updM_ne _ _ (by decide)]
  have x7 : X5 7 = upd (X 7) (q_nr d) (nI y) := by
    rw [e5, updM_ne _ _ (by decide), e4, updM_s, e3, updM_ne _ _ (by decide), e2, updM_ne _ _ (by decide), e1, updM_ne _ _ (by decide)]
  have yo : ∀ k, k ≠ 22 → k ≠ 29 → k ≠ 24 → k ≠ 25 → k ≠ 26 → Y5 k = Y k := fun k a b c d e => by
    rw [f5, updM_ne _ _ a, f4, updM_ne _ _ e, f3, updM_ne _ _ d, f2, updM_ne _ _ c, f1, updM_ne _ _ b, thr_o Y 0 a]
  have y22 : Y5 22 = upd (thr Y 0 22) 17 (nI (q_nr d + 1)) := by
    rw [f5, updM_s, f4, updM_ne _ _ (by decide), f3, updM_ne _ _ (by decide), f2, updM_ne _ _ (by decide), f1, updM_ne _ _ (by decide)]
  have y29 : Y5 29 = upd (Y 29) (q_nr d) (nI (if c then 99 else 107)) := by
    rw [f5, updM_ne _ _ (by decide), f4, updM_ne _ _ (by decide), f3, updM_ne _ _ (by decide), f2, updM_ne _ _ (by decide), f1, updM_s, thr_o Y 0 (by decide)]
  have y24 : Y5 24 = upd (Y 24) (q_nr d) (nI a) := by
    rw [f5, updM_ne _ _ (by decide), f4, updM_ne _ _ (by decide), f3, updM_ne _ _ (by decide), f2, updM_s, f1, updM_ne _ _ (by decide), thr_o Y 0 (by decide)]
  have y25 : Y5 25 = upd (Y 25) (q_nr d) (nI n) := by
    rw [f5, updM_ne _ _ (by decide), f4, updM_ne _ _ (by decide), f3, updM_s, f2, updM_ne _ _ (by decide), f1, updM_ne _ _ (by decide), thr_o Y 0 (by decide)]
  have y26 : Y5 26 = upd (Y 26) (q_nr d) (nI y) := by
    rw [f5, updM_ne _ _ (by decide), f4, updM_s, f3, updM_ne _ _ (by decide), f2, updM_ne _ _ (by decide), f1, updM_ne _ _ (by decide), thr_o Y 0 (by decide)]
  have yf : ∀ j, j ≠ 14 → j ≠ 17 → Y5 22 j = Y 22 j := fun j a b => by rw [y22, upd_n _ _ b, thr_f Y 0 a]
  obtain ⟨v1, v2, v3, v4, v5, v6⟩ := h.w
  obtain ⟨r1, r2, r3, r4, r5, r6⟩ := h.x
  obtain ⟨s1, s2, s3, s4, s5, s6, s7, s8, s9, s10, s11⟩ := h.y
  have hw' : q_ok (q_rec d c a n y) := by
    refine ⟨v1, v2, v3, by show q_nr d + 1 ≤ 40; omega, fun i hi => ?_, v6⟩
    show (if i = q_nr d then a else q_ad d i) < q_na d ∧ (if i = q_nr d then n else q_nm d i) ≤ 999 ∧ (if i = q_nr d then y else q_yr d i) ≤ 120
    by_cases z : i = q_nr d
    · rw [if_pos z, if_pos z, if_pos z]; exact ⟨ha, hn, hy0⟩
    · rw [if_neg z, if_neg z, if_neg z]
      have hi : i < q_nr d + 1 := hi
      exact v5 i (by omega)
  have hx' : RX (q_rec d c a n y) X5 := by
    refine ⟨by rw [xo 1 (by decide) (by decide) (by decide) (by decide) (by decide)]; exact r1, by rw [xo 1 (by decide) (by decide) (by decide) (by decide) (by decide)]; exact r2, by rw [xo 2 (by decide) (by decide) (by decide) (by decide) (by decide)]; exact r3, by rw [x3, upd_s]; rfl, fun i hi => ?_, by rw [xo 8 (by decide) (by decide) (by decide) (by decide) (by decide), xo 9 (by decide) (by decide) (by decide) (by decide) (by decide)]; exact r6⟩
    have hi : i < q_nr d + 1 := hi
    show X5 4 i = (if (if i = q_nr d then c else q_ce d i) then 1 else 0) ∧ X5 5 i = nI (if i = q_nr d then a else q_ad d i) ∧ X5 6 i = nI (if i = q_nr d then n else q_nm d i) ∧ X5 7 i = nI (if i = q_nr d then y else q_yr d i)
    rw [x4, x5, x6, x7]
    by_cases z : i = q_nr d
    · subst z
      rw [upd_s, upd_s, upd_s, upd_s, if_pos rfl, if_pos rfl, if_pos rfl, if_pos rfl]
      exact ⟨rfl, rfl, rfl, rfl⟩
    · rw [upd_n _ _ z, upd_n _ _ z, upd_n _ _ z, upd_n _ _ z, if_neg z, if_neg z, if_neg z, if_neg z]
      exact r5 i (by omega)
  have hy' : RY (q_rec d c a n y) Y5 := by
    refine ⟨by rw [yf 15 (by decide) (by decide)]; exact s1, by rw [yf 16 (by decide) (by decide)]; exact s2, by rw [yo 23 (by decide) (by decide) (by decide) (by decide) (by decide)]; exact s3, by rw [y22, upd_s]; rfl, fun i hi => ?_, by rw [yo 30 (by decide) (by decide) (by decide) (by decide) (by decide)]; exact s6, by rw [yf 19 (by decide) (by decide)]; exact s7, by rw [yf 20 (by decide) (by decide)]; exact s8, by rw [yf 21 (by decide) (by decide)]; exact s9, by rw [yf 22 (by decide) (by decide)]; exact s10, by rw [yf 23 (by decide) (by decide)]; exact s11⟩
    have hi : i < q_nr d + 1 := hi
    show Y5 29 i = nI (if (if i = q_nr d then c else q_ce d i) then 99 else 107) ∧ Y5 24 i = nI (if i = q_nr d then a else q_ad d i) ∧ Y5 25 i = nI (if i = q_nr d then n else q_nm d i) ∧ Y5 26 i = nI (if i = q_nr d then y else q_yr d i)
    rw [y29, y24, y25, y26]
    by_cases z : i = q_nr d
    · subst z
      rw [upd_s, upd_s, upd_s, upd_s, if_pos rfl, if_pos rfl, if_pos rfl, if_pos rfl]
      exact ⟨rfl, rfl, rfl, rfl⟩
    · rw [upd_n _ _ z, upd_n _ _ z, upd_n _ _ z, upd_n _ _ z, if_neg z, if_neg z, if_neg z, if_neg z]
      exact s5 i (by omega)
  exact ⟨PRE.of h hw' hx' hy' (fun k a => xo k (by omega) (by omega) (by omega) (by omega) (by omega)) (fun k a _ _ => yo k (by omega) (by omega) (by omega) (by omega) (by omega)) (yf 18 (by decide) (by decide)), by rw [x3, upd_s], y22⟩
theorem op_addRecord {d : mD} {T : mT} {X Y : wM} (h : INV d T X Y) (k a b c : Int32) : OM (fun e => if e = 1 then 1 else if e = 2 then 2 else if e = 0 then 3 else 0) (f_X7_addRecord X k a b c) (f_X8_addRecord Y k a b c) := by
  have hw := h.w
  have w2 := hw.2.1
  have w4 := hw.2.2.2.1
  have bad1 : OM (fun e => if e = 1 then 1 else if e = 2 then 2 else if e = 0 then 3 else 0) (some (.inl (1, X))) (f_X8_addRecord_71 Y k a b c 1) := OM.bad h 1 1 (by decide) (by decide) rfl rfl 0 rfl
  have main : ∀ z : Bool, k = (if z then 99 else 107) → OM (fun e => if e = 1 then 1 else if e = 2 then 2 else if e = 0 then 3 else 0) (f_X7_addRecord_22 X k a b c) (f_X8_addRecord_13 Y k a b c) := by
    intro z hk
    unfold f_X7_addRecord_22 f_X8_addRecord_13 f_X7_addRecord_45 f_X8_addRecord_35
    rw [f_in_b, f_in_b, h.y.2.1, f_in_n a (by omega), x_needAddress h.x hw]
    simp only [bind_s, b_ite]
    by_cases p1 : b < 0
    · rw [if_pos p1, decide_eq_false (show ¬ ¬ b < 0 from fun z => z p1)]
      exact bad1
    · rw [if_neg p1, decide_eq_true p1]
      by_cases p2 : (999 : Int32) < b
      · rw [if_pos p2, decide_eq_false (show ¬ ¬ (999 : Int32) < b from fun z => z p2)]
        exact bad1
      · rw [if_neg p2, decide_eq_true p2]
        by_cases p3 : c < 0
        · rw [if_pos p3, decide_eq_false (show ¬ ¬ c < 0 from fun z => z p3)]
          exact bad1
        · rw [if_neg p3, decide_eq_true p3]
          by_cases p4 : (120 : Int32) < c
          · rw [if_pos p4, decide_eq_false (show ¬ ¬ (120 : Int32) < c from fun z => z p4)]
            exact bad1
          · rw [if_neg p4, decide_eq_true p4, Bool.true_and, if_pos rfl, if_pos rfl]
            cases ha : inb a (q_na d)
            · exact OM.bad h 2 2 (by decide) (by decide) rfl rfl 0 rfl
            · rw [if_pos rfl, if_pos rfl, wthr_r, h.x.2.2.2.1, h.y.2.2.2.1, L40, ilt (by omega) (by omega), ieq (by omega) (by omega)]
              by_cases p5 : q_nr d < 40
              · rw [if_pos p5, if_neg (show ¬ q_nr d = 40 by omega)]
                obtain ⟨a, ha2, rfl⟩ := inb_ex ha
                obtain ⟨n, hn, rfl⟩ : ∃ n : Nat, n < 2 ^ 31 ∧ b = nI n := (anyI b).resolve_left p1
                obtain ⟨y, hy, rfl⟩ : ∃ n : Nat, n < 2 ^ 31 ∧ c = nI n := (anyI c).resolve_left p3
                have n9 : n ≤ 999 := by
                  refine Classical.byContradiction (fun z => p2 ((nI_ltI (a := 999) (by omega) hn).mpr (by omega)))
                have y9 : y ≤ 120 := by
                  refine Classical.byContradiction (fun z => p4 ((nI_ltI (a := 120) (by omega) hy).mpr (by omega)))
                obtain ⟨X1, e1⟩ : ∃ X1, X1 = updM X 4 (upd (X 4) (q_nr d) (if z then 1 else 0)) := ⟨_, rfl⟩
                obtain ⟨X2, e2⟩ : ∃ X2, X2 = updM X1 5 (upd (X1 5) (q_nr d) (nI a)) := ⟨_, rfl⟩
                obtain ⟨X3, e3⟩ : ∃ X3, X3 = updM X2 6 (upd (X2 6) (q_nr d) (nI n)) := ⟨_, rfl⟩
                obtain ⟨X4, e4⟩ : ∃ X4, X4 = updM X3 7 (upd (X3 7) (q_nr d) (nI y)) := ⟨_, rfl⟩
                obtain ⟨X5, e5⟩ : ∃ X5, X5 = updM X4 3 (upd (X4 3) 5 (nI (q_nr d + 1))) := ⟨_, rfl⟩
                obtain ⟨Y1, f1⟩ : ∃ Y1, Y1 = updM (thr Y 0) 29 (upd (thr Y 0 29) (q_nr d) (nI (if z then 99 else 107))) := ⟨_, rfl⟩
                obtain ⟨Y2, f2⟩ : ∃ Y2, Y2 = updM Y1 24 (upd (Y1 24) (q_nr d) (nI a)) := ⟨_, rfl⟩
                obtain ⟨Y3, f3⟩ : ∃ Y3, Y3 = updM Y2 25 (upd (Y2 25) (q_nr d) (nI n)) := ⟨_, rfl⟩
                obtain ⟨Y4, f4⟩ : ∃ Y4, Y4 = updM Y3 26 (upd (Y3 26) (q_nr d) (nI y)) := ⟨_, rfl⟩
                obtain ⟨Y5, f5⟩ : ∃ Y5, Y5 = updM Y4 22 (upd (Y4 22) 17 (nI (q_nr d + 1))) := ⟨_, rfl⟩
                obtain ⟨h1, h2, h3⟩ := PRE.rec h (c := z) ha2 n9 y9 p5 e1 e2 e3 e4 e5 f1 f2 f3 f4 f5
                have g0 : X 3 5 = nI (q_nr d) := h.x.2.2.2.1
                have g1 : X1 3 5 = nI (q_nr d) := by rw [e1, updM_ne _ _ (by decide)]; exact g0
                have g2 : X2 3 5 = nI (q_nr d) := by rw [e2, updM_ne _ _ (by decide)]; exact g1
                have g3 : X3 3 5 = nI (q_nr d) := by rw [e3, updM_ne _ _ (by decide)]; exact g2
                have g4 : X4 3 5 = nI (q_nr d) := by rw [e4, updM_ne _ _ (by decide)]; exact g3
                have k0 : thr Y 0 22 17 = nI (q_nr d) := by rw [thr_f Y 0 (by decide)]; exact h.y.2.2.2.1
                have k1 : Y1 22 17 = nI (q_nr d) := by rw [f1, updM_ne _ _ (by decide)]; exact k0
                have k2 : Y2 22 17 = nI (q_nr d) := by rw [f2, updM_ne _ _ (by decide)]; exact k1
                have k3 : Y3 22 17 = nI (q_nr d) := by rw [f3, updM_ne _ _ (by decide)]; exact k2
                have k4 : Y4 22 17 = nI (q_nr d) := by rw [f4, updM_ne _ _ (by decide)]; exact k3
                have kx : (if k = 99 then f_X7_addRecord_97 X (nI a) (nI n) (nI y) 1 else f_X7_addRecord_97 X (nI a) (nI n) (nI y) 0) = f_X7_addRecord_97 X (nI a) (nI n) (nI y) (if z then 1 else 0) := by
                  rw [hk]
                  cases z <;> rfl
                have ky : vp_nar .char k = nI (if z then 99 else 107) := by
                  rw [hk]
                  cases z
                  · exact narC_n 107 (by decide)
                  · exact narC_n 99 (by decide)
                refine OM.set h1 (by rw [h3, upd_n _ _ (by decide)]; exact thr_14 Y 0) (fun m X' Y' q1 q2 q3 => ⟨nI (q_nr d), ?_, ?_⟩)
                · refine kx.trans ?_
                  unfold f_X7_addRecord_97 f_X3_add
                  rw [g0, wput_n (by omega) (by omega), narZ_b, ← e1, g1, wput_n (by omega) (by omega), ← e2, g2, wput_n (by omega) (by omega), ← e3, g3, wput_n (by omega) (by omega), ← e4, wfld_e, g4, Lm1, ← e5, bind_s]
                  dsimp only
                  rw [q1, bind_s, h2, nI_pred]
                · unfold f_X8_addRecord_71
                  rw [wfld14, thr_14, if_neg i01, k0, ky, wput_n (by omega) (by omega), ← f1, k1, wput_n (by omega) (by omega), ← f2, k2, wput_n (by omega) (by omega), ← f3, k3, wput_n (by omega) (by omega), ← f4, wfld_e, k4, Lm1, ← f5, q2, bind_s]
                  dsimp only
                  rw [q3, h3, upd_s, nI_pred]
              · rw [if_neg p5, if_pos (by omega)]
                exact OM.bad h 0 3 (by decide) (by decide) rfl rfl 0 rfl
  unfold f_X7_addRecord f_X8_addRecord
  by_cases p1 : k = 99
  · rw [if_pos p1, if_pos p1]
    exact main true p1
  · rw [if_neg p1, if_neg p1]
    by_cases p2 : k = 107
    · rw [if_pos p2, if_pos p2]
      exact main false p2
    · rw [if_neg p2, if_neg p2]
      exact bad1
