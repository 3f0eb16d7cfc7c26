/-! risk -/
theorem f_in_12 {n : Nat} (h : n ≤ 40) : f_X8_in (nI n) 1 2 = some (if decide (0 < n) && decide (n ≤ 2) then 1 else 0) := by
  unfold f_X8_in f_X8_in_14 f_X8_in_15
  rw [wgd_t okZ_0, wgd_t okZ_1, L1, L2, ilt (by omega) (by omega), ilt (by omega) (by omega)]
  by_cases a : n < 1
  · rw [if_pos a, decide_eq_false (show ¬ 0 < n by omega)]; rfl
  · rw [if_neg a, decide_eq_true (show 0 < n by omega)]
    by_cases b : 2 < n
    · rw [if_pos b, decide_eq_false (show ¬ n ≤ 2 by omega)]; rfl
    · rw [if_neg b, decide_eq_true (show n ≤ 2 by omega)]; rfl
theorem INV.Yh {d : mD} {T : mT} {X Y Y' : wM} (h : INV d T X Y) {i : Nat} (f : FH i Y Y') (g : ∃ s, q_hide (T.2 i).2.1 = some s ∧ HR Y' i s) : INV d T X Y' := by
  obtain ⟨⟨w, hx, hy, tx, ty, ok, hl⟩, kx⟩ := h
  refine ⟨⟨w, hx, hy.congr (fun k a b c e => f.1 k (by omega) (by omega)) (fun j a b _ => by rw [f.1 22 (by decide) (by decide)]), tx, ⟨by rw [f.1 22 (by decide) (by decide)]; exact ty.1, ty.2.1, fun j hj => ?_, fun j hj => by rw [f.1 32 (by decide) (by decide)]; exact ty.2.2.2 j hj⟩, ok, fun j hj => ?_⟩, kx⟩
  · unfold TYi
    rw [f.1 36 (by decide) (by decide), f.1 35 (by decide) (by decide), f.1 32 (by decide) (by decide)]
    exact ty.2.2.1 j hj
  · obtain ⟨s, h1, h2, h3, h4⟩ := hl j hj
    refine ⟨s, h1, h2, ?_, h4⟩
    by_cases e : j = i
    · subst e
      obtain ⟨s2, g1, g2⟩ := g
      rw [h1] at g1
      cases g1
      exact g2
    · intro c hc
      rw [f.2 _ (by omega)]
      exact h3 c hc
theorem op_isAtRisk {d : mD} {T : mT} {X Y : wM} (h : INV d T X Y) (a b g : Int32) : OQ c_cell Eq d T X (f_X7_isAtRisk X a b g) (f_X8_isAtRisk Y a b g) := by
  have t8 := h.tx.2.1
  unfold f_X7_isAtRisk f_X8_isAtRisk f_X8_isAtRisk_42
  cases ha : inb a T.1
  · rw [(x_told h.tx a).1 ha, (y_wrong h.ty h.ok a b g).1 ha]
    exact ⟨0, thr Y 1, rfl, h.thr 1, Or.inr ⟨5, rfl, by decide, by decide, thr_14 Y 1⟩⟩
  · obtain ⟨i, hi, rfl⟩ := inb_ex ha
    obtain ⟨s, s1, s2, s3, s4⟩ := h.hl i hi
    obtain ⟨o1, o2⟩ := h.ok i hi
    have ti := h.tx.2.2 i hi
    have tj := h.ty.2.2.1 i hi
    rw [(x_told h.tx (nI i)).2 i hi rfl, (y_wrong h.ty h.ok (nI i) b g).2 i hi rfl, wthr_r, x_needCell h.tx h.ok hi, bind_s]
    cases hb : inb b (T.2 i).1
    · exact ⟨0, thr Y 2, rfl, h.thr 2, Or.inr ⟨2, rfl, by decide, by decide, thr_14 Y 2⟩⟩
    · rw [if_pos rfl, if_pos rfl]
      cases hg : inb g 4
      · exact ⟨0, thr Y 3, rfl, h.thr 3, Or.inr ⟨1, rfl, by decide, by decide, thr_14 Y 3⟩⟩
      · obtain ⟨b, hb2, rfl⟩ := inb_ex hb
        obtain ⟨g, hg2, rfl⟩ := inb_ex hg
        have c24 : 4 * b + g < 24 := by omega
        have cy := tj.2.1 (4 * b + g) c24
        obtain ⟨z, z1, z2⟩ := x_smallCells (p0 := X (39 + (4 * i + 1))) (cn := (T.2 i).2.1) ti.2.1 o2
        have hq : (decide (0 < (T.2 i).2.1 (4 * b + g)) && decide ((T.2 i).2.1 (4 * b + g) ≤ 2)) = q_small (T.2 i).2.1 (4 * b + g) := rfl
        rw [if_pos rfl, if_pos rfl, wthr_r, wgd_d (by rw [h.tx.nT]; exact hi), wgd_d (by rw [h.tx.nT]; exact hi), z1, bind_s, cell_x, x_has z2 c24, bind_s, b_ite, wfld14, thr_14, if_pos rfl, y_place, bind_s, wget_n (by omega) (by omega), thr_o Y 0 (by decide), cy, f_in_12 (o2 _ c24), bind_s, b_ite, hq]
        cases sm : q_small (T.2 i).2.1 (4 * b + g)
        · rw [if_neg (by decide), if_neg (by decide), wfld14]
          have e4 : thr (thr Y 0) 4 22 14 = 4 := thr_14 _ 4
          rw [e4, if_pos (by decide)]
          exact ⟨_, thr (thr Y 0) 4, rfl, (h.thr 0).thr 4, Or.inr ⟨4, rfl, by decide, by decide, e4⟩⟩
        · have hc : CR (thr Y 0) i (T.2 i).2.1 := fun c hc => by rw [thr_o Y 0 (by decide)]; exact tj.2.1 c hc
          obtain ⟨Y1, a1, a2, a3⟩ := y_hidesSmall (Y := thr Y 0) (t := i) (by omega) hc o2
          obtain ⟨Y2, b1, b2⟩ := y_isFound (Y := Y1) (t := i) (by omega) a3 c24
          have hc2 : CR Y2 i (T.2 i).2.1 := fun c hc3 => by rw [b2 35 (by decide), a2.1 35 (by decide) (by decide)]; exact hc c hc3
          obtain ⟨v, Y3, d1, d2, d3⟩ := y_hides (t := i) (by omega) hc2 o2
          have f3 : FH i (thr Y 0) Y3 := ⟨fun k p q => by rw [d2.1 k p q, b2 k q, a2.1 k p q], fun j hj => by rw [d2.2 j hj, b2 33 (by decide), a2.2 j hj]⟩
          have g3 : ∃ s, q_hide (T.2 i).2.1 = some s ∧ HR Y3 i s := by
            rcases d3 with ⟨d3, _⟩ | ⟨s', d3, _, d4⟩
            · rw [s1] at d3; cases d3
            · exact ⟨s', d3, d4⟩
          rw [if_pos rfl, if_pos rfl, x_isFound z2 c24, bind_s, wgd_t (okZ_b _), if_neg i01, a1, bind_s, L4, pk_mul, nI_add, b1, bind_s]
          dsimp only
          rw [d1, bind_s, wgd_t (okZ_b _)]
          exact ⟨_, Y3, rfl, (h.thr 0).Yh f3 g3, Or.inl ⟨_, rfl, rfl, by rw [f3.1 22 (by decide) (by decide)]; exact thr_14 Y 0⟩⟩
/-! operations that change something -/
theorem PRE.of {d d' : mD} {T : mT} {X Y X1 Y1 : wM} (h : INV d T X Y) (w : q_ok d') (hx : RX d' X1) (hy : RY d' Y1) (e1 : ∀ k, (k = 0 ∨ 10 ≤ k) → X1 k = X k) (e2 : ∀ k, 32 ≤ k → k ≤ 36 → k ≠ 34 → Y1 k = Y k) (e3 : Y1 22 18 = Y 22 18) : PRE d' T X1 Y1 := by
  refine ⟨w, hx, hy, ⟨by rw [e1 0 (Or.inl rfl)]; exact h.tx.1, h.tx.2.1, fun i hi => ?_⟩, ⟨by rw [e3]; exact h.ty.1, h.ty.2.1, fun i hi => ?_, fun i hi => by rw [e2 32 (by decide) (by decide) (by decide)]; exact h.ty.2.2.2 i hi⟩, h.ok, h.hl.cong (fun i j _ => by rw [e1 _ (by omega)]) (fun i => by rw [e1 _ (by omega)]) (e2 33 (by decide) (by decide) (by decide))⟩
  · unfold TBi
    rw [e1 _ (by omega), e1 _ (by omega)]
    exact h.tx.2.2 i hi
  · unfold TYi
    rw [e2 36 (by decide) (by decide) (by decide), e2 35 (by decide) (by decide) (by decide), e2 32 (by decide) (by decide) (by decide)]
    exact h.ty.2.2.1 i hi
theorem OM.set {cd : Nat → Nat} {d' : mD} {T : mT} {X1 Y1 : wM} (h : PRE d' T X1 Y1) (h14 : Y1 22 14 = 0) {fx : Option ((Nat × wM) ⊕ (Int32 × wM))} {fy : Option (Int32 × wM)} (hf : ∀ n X' Y', f_X7_settle X1 = some (n, X') → f_X8_looks Y1 = some (n, Y') → Y' 22 = Y1 22 → ∃ v, fx = some (.inr (v, X')) ∧ fy = some (v, Y')) : OM cd fx fy := by
  obtain ⟨n, X', Y', a1, a2, a3, a4, a5⟩ := settle2 h
  have e := a4 22 (by decide) (by decide) (by decide)
  obtain ⟨v, h1, h2⟩ := hf n X' Y' a1 a2 e
  exact ⟨d', _, X', Y', a3, Or.inl ⟨v, h1, h2, by rw [e]; exact h14⟩⟩
theorem OM.bad {cd : Nat → Nat} {d : mD} {T : mT} {X Y : wM} (h : INV d T X Y) (e : Nat) (x : Int32) (h0 : 0 < cd e) (h1 : cd e < 10) (h2 : x = nI (cd e)) {fx : Option ((Nat × wM) ⊕ (Int32 × wM))} {fy : Option (Int32 × wM)} (hx : fx = some (.inl (e, X))) (v : Int32) (hy : fy = some (v, thr Y x)) : OM cd fx fy :=
  ⟨d, T, X, thr Y x, h.thr x, Or.inr ⟨e, v, hx, hy, h0, h1, by rw [thr_14]; exact h2⟩⟩
theorem op_addBlock {d : mD} {T : mT} {X Y : wM} (h : INV d T X Y) : OM (fun e => if e = 0 then 1 else 0) (f_X7_addBlock X) (f_X8_addBlock Y) := by
  have hw := h.w
  have w1 := hw.1
  unfold f_X7_addBlock f_X8_addBlock f_X8_addBlock_15
  rw [h.x.1, h.y.1, L6, ilt (by omega) (by omega), ilt (by omega) (by omega)]
  by_cases e : q_nb d < 6
  · have ck : f_X8_checked Y 1 = some (0, thr Y 0) := y_chk Y true
    rw [if_pos e, if_pos e, ck, bind_s, if_neg i01]
    obtain ⟨d', hd⟩ : ∃ d' : mD, d' = ((q_nb d + 1, d.1.2), d.2) := ⟨_, rfl⟩
    have eN : q_nb d' = q_nb d + 1 := by rw [hd]; rfl
    have hw' : q_ok d' := by
      obtain ⟨v1, v2, v3, v4⟩ := hw
      rw [hd]
      exact ⟨by show q_nb d + 1 ≤ 6; omega, v2, fun i hi => Nat.lt_succ_of_lt (v3 i hi), v4⟩
    obtain ⟨X1, hX1⟩ : ∃ X1, X1 = updM X 1 (upd (X 1) 1 (nI (q_nb d + 1))) := ⟨_, rfl⟩
    obtain ⟨Y1, hY1⟩ : ∃ Y1, Y1 = updM (thr Y 0) 22 (upd (thr Y 0 22) 15 (nI (q_nb d + 1))) := ⟨_, rfl⟩
    have xo : ∀ k, k ≠ 1 → X1 k = X k := fun k a => by rw [hX1, updM_ne _ _ a]
    have x1 : X1 1 = upd (X 1) 1 (nI (q_nb d + 1)) := by rw [hX1, updM_s]
    have yo : ∀ k, k ≠ 22 → Y1 k = Y k := fun k a => by rw [hY1, updM_ne _ _ a, thr_o Y 0 a]
    have y1 : Y1 22 = upd (thr Y 0 22) 15 (nI (q_nb d + 1)) := by rw [hY1, updM_s]
    have yf : ∀ j, j ≠ 14 → j ≠ 15 → Y1 22 j = Y 22 j := fun j a b => by rw [y1, upd_n _ _ b, thr_f Y 0 a]
    have hx' : RX d' X1 := by
      obtain ⟨r1, r2, r3⟩ := h.x
      rw [hd]
      unfold RX at *
      rw [x1, xo 2 (by decide), xo 3 (by decide), xo 4 (by decide), xo 5 (by decide), xo 6 (by decide), xo 7 (by decide), xo 8 (by decide), xo 9 (by decide)]
      exact ⟨upd_s _ _ _, by rw [upd_n _ _ (by decide)]; exact r2, r3⟩
    have hy' : RY d' Y1 := by
      obtain ⟨r1, r2⟩ := h.y
      rw [hd]
      unfold RY at *
      rw [yo 23 (by decide), yo 24 (by decide), yo 25 (by decide), yo 26 (by decide), yo 29 (by decide), yo 30 (by decide), yf 16 (by decide) (by decide), yf 17 (by decide) (by decide), yf 19 (by decide) (by decide), yf 20 (by decide) (by decide), yf 21 (by decide) (by decide), yf 22 (by decide) (by decide), yf 23 (by decide) (by decide)]
      exact ⟨by rw [y1, upd_s]; rfl, r2⟩
    refine OM.set (PRE.of h hw' hx' hy' (fun k a => xo k (by omega)) (fun k a _ _ => yo k (by omega)) (yf 18 (by decide) (by decide))) (by rw [y1, upd_n _ _ (by decide)]; exact thr_14 Y 0) (fun n X' Y' p1 p2 p3 => ?_)
    refine ⟨nI (q_nb d), ?_, ?_⟩
    · unfold f_X4_openBlock
      rw [wfld_e, h.x.1, Lm1, ← hX1, bind_s]
      dsimp only
      rw [p1, bind_s, x1, upd_s, nI_pred]
    · rw [wfld_e]
      dsimp only
      rw [thr_f Y 0 (show (15 : Nat) ≠ 14 by decide), h.y.1, Lm1, ← hY1, p2, bind_s]
      dsimp only
      rw [p3, y1, upd_s, nI_pred]
  · rw [if_neg e, if_neg e]
    have ck : f_X8_checked Y 0 = some (1, thr Y 1) := y_chk Y false
    rw [ck, bind_s]
    exact OM.bad h 0 1 (by decide) (by decide) rfl rfl 0 rfl
