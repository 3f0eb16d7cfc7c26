theorem q_fl_row (d : mD) (s c k : Nat) (m : mM) : q_fl d s (q_prow d c (k + 1)) m = q_step d s c k (q_fl d s (q_prow d c k) m) := by
  rw [q_prow]
  cases g : q_good d c k
  · rw [if_neg (by decide), List.append_nil]
    unfold q_step
    rw [g]
    rfl
  · rw [if_pos rfl, q_fl_app]
    rfl
theorem q_fl_high {d : mD} {s : Nat} (h : q_pn d + q_py d + q_pp d < s) (m : mM) : ∀ L : List (Nat × Nat), q_fl d s L m = m
  | [] => rfl
  | q :: L => by
    show q_fl d s L (q_step d s q.1 q.2 m) = m
    have hs := q_sc_le d q.1 q.2
    have : q_step d s q.1 q.2 m = m := by
      unfold q_step
      rw [decide_eq_false (show ¬ q_sc d q.1 q.2 = s by omega), Bool.and_false, Bool.false_and, Bool.false_and]
      rfl
    rw [this]
    exact q_fl_high h m L
theorem q_down_high (d : mD) (m : mM) : ∀ s, q_pn d + q_py d + q_pp d ≤ s → q_down d s m = q_down d (q_pn d + q_py d + q_pp d) m
  | 0, h => by rw [show q_pn d + q_py d + q_pp d = 0 by omega]
  | s + 1, h => by
    by_cases e : q_pn d + q_py d + q_pp d = s + 1
    · rw [e]
    · rw [q_down, q_fl_high (by omega), q_down_high d m s (by omega)]
/-- the reference's matched row, number and sum hold the state m -/
def MY (d : mD) (Y : wM) (m : mM) : Prop := (∀ j, j < q_nr d → Y 27 j = pe (m.1 j)) ∧ (∀ j, m.1 j ≤ 40) ∧ Y 22 24 = nI m.2.1 ∧ Y 22 25 = nI m.2.2
theorem pe_neg : ∀ p, p ≤ 40 → (pe p < 0 ↔ p = 0) := by decide +kernel
/-- the matching writes these cells alone -/
def FM (Y Z : wM) : Prop := (∀ k, k ≠ 22 → k ≠ 27 → k ≠ 31 → Z k = Y k) ∧ ∀ j, j ≠ 24 → j ≠ 25 → Z 22 j = Y 22 j
theorem FM.RY {d : mD} {Y Z : wM} (h : RY d Y) (f : FM Y Z) : RY d Z := h.congr (fun k a b c e => f.1 k (by omega) c (by omega)) (fun j a b c => f.2 j (by omega) (by omega))
theorem y_layMatches {d : mD} {Y : wM} (h : RY d Y) (w : q_ok d) : ∃ Y', f_X8_layMatches Y = some Y' ∧ FM Y Y' ∧ (∀ j, j < q_nr d → Y' 31 j = if q_db d j then 1 else 0) ∧ MY d Y' (q_mt d) := by
  have w4 := w.2.2.2.1
  have wb := w.2.2.2.2.2.2.2.2
  obtain ⟨Y1, a1, a2, a3⟩ := y_layDoubles h w
  have row : ∀ (s c : Nat), c < q_nr d → ∀ (k40 : wM → Int32 → Option wM) (k46 : wM → Int32 → Int32 → Option wM) (m : mM) (n k : Nat) (Z : wM), k ≤ q_nr d → q_nr d - k < n → FM Y Z → (Z 31 = Y1 31) → s ≤ 27 → MY d Z (q_fl d s (q_prow d c k) m) → ∃ Z', f_X8_layMatches_56 k40 k46 n Z (nI s) (nI c) (nI k) = k46 Z' (nI s) (nI (c + 1)) ∧ FM Y Z' ∧ (Z' 31 = Y1 31) ∧ MY d Z' (q_fl d s (q_prow d c (q_nr d)) m) := by
    intro s c hc k40 k46 m n
    induction n with
    | zero => intro k Z _ h; omega
    | succ n ih =>
      intro k Z hk hn hz h31 s27 hM
      have hR := hz.RY h
      rw [f_X8_layMatches_56]
      dsimp only
      rw [f_X8_layMatches_56b, hR.2.2.2.1, ilt (by omega) (by omega)]
      by_cases e : k < q_nr d
      · obtain ⟨t, ht⟩ : ∃ t, t = q_fl d s (q_prow d c k) m := ⟨_, rfl⟩
        have hst := q_fl_row d s c k m
        rw [← ht] at hst hM
        obtain ⟨c1, c2, c3, c4⟩ := hM
        have stay : q_step d s c k t = t → ∃ Z', f_X8_layMatches_159 k40 k46 (f_X8_layMatches_56 k40 k46 n) Z (nI s) (nI c) (nI k) = k46 Z' (nI s) (nI (c + 1)) ∧ FM Y Z' ∧ (Z' 31 = Y1 31) ∧ MY d Z' (q_fl d s (q_prow d c (q_nr d)) m) := by
          intro g
          rw [f_X8_layMatches_159, wbd_e, Lm1]
          exact ih (k + 1) Z (by omega) (by omega) hz h31 s27 (by rw [hst, g]; exact ⟨c1, c2, c3, c4⟩)
        have hv := q_sc_le d c k
        rw [if_pos e, y_isCounted hR w hc (by rw [h31]; exact a3 c hc), bind_s, b_ite]
        by_cases cd : q_cd d c = true
        · rw [if_pos cd, wget_n (by omega) (by omega), y_kind2 hR e]
          by_cases ck : q_ce d k = true
          · rw [if_pos ck]
            exact stay (by unfold q_step q_good; rw [ck]; simp)
          · have ck0 : q_ce d k = false := by simpa using ck
            rw [if_neg ck, wget_n (by omega) (by omega), c1 c hc, ite_n (pe_neg _ (c2 _))]
            by_cases e1 : t.1 c = 0
            · rw [if_pos e1, wget_n (by omega) (by omega), c1 k e, ite_n (pe_neg _ (c2 _))]
              by_cases e2 : t.1 k = 0
              · rw [if_pos e2, y_scoreOf hR w hc e, bind_s, ieq (by omega) (by omega)]
                by_cases es : q_sc d c k = s
                · rw [if_pos es, y_linkOf hR w hc e, bind_s, L121, ieq (q_lk_lt w _ _) (by omega)]
                  by_cases lk : q_lk d c k = 121
                  · rw [if_pos lk, wput_n (by omega) (by omega), wput_n (by omega) (by omega), wfld_e, wfld_e, f_X8_layMatches_159, wbd_e, Lm1]
                    obtain ⟨Z1, hZ1⟩ : ∃ Z1, Z1 = updM (updM Z 27 (upd (Z 27) c (nI k))) 27 (upd (updM Z 27 (upd (Z 27) c (nI k)) 27) k (nI c)) := ⟨_, rfl⟩
                    rw [← hZ1]
                    have z27 : Z1 27 = upd (upd (Z 27) c (nI k)) k (nI c) := by rw [hZ1, updM_s, updM_s]
                    have zo : ∀ j, j ≠ 27 → Z1 j = Z j := fun j a => by rw [hZ1, updM_ne _ _ a, updM_ne _ _ a]
                    obtain ⟨Z2, hZ2⟩ : ∃ Z2, Z2 = updM (updM Z1 22 (upd (Z1 22) 24 (Z1 22 24 + 1))) 22 (upd (updM Z1 22 (upd (Z1 22) 24 (Z1 22 24 + 1)) 22) 25 (updM Z1 22 (upd (Z1 22) 24 (Z1 22 24 + 1)) 22 25 + nI s)) := ⟨_, rfl⟩
                    rw [← hZ2]
                    have e22 : Z2 22 = upd (upd (Z 22) 24 (Z 22 24 + 1)) 25 (Z 22 25 + nI s) := by
                      rw [hZ2, updM_s, updM_s, zo 22 (by decide), upd_n _ _ (show (25 : Nat) ≠ 24 by decide)]
                    have eo : ∀ j, j ≠ 22 → j ≠ 27 → Z2 j = Z j := fun j a b => by rw [hZ2, updM_ne _ _ a, updM_ne _ _ a, zo j b]
                    have e27 : Z2 27 = upd (upd (Z 27) c (nI k)) k (nI c) := by rw [hZ2, updM_ne _ _ (by decide), updM_ne _ _ (by decide), z27]
                    have hnew : q_fl d s (q_prow d c (k + 1)) m = (q_mset t.1 c k, t.2.1 + 1, t.2.2 + s) := by
                      rw [hst]
                      unfold q_step q_good
                      rw [cd, ck0, decide_eq_true lk, decide_eq_true es, decide_eq_true e1, decide_eq_true e2]
                      rfl
                    refine ih (k + 1) Z2 (by omega) (by omega) ⟨fun j a b c => by rw [eo j a b]; exact hz.1 j a b c, fun j a b => by rw [e22, upd_n _ _ b, upd_n _ _ a]; exact hz.2 j a b⟩ (by rw [eo 31 (by decide) (by decide)]; exact h31) s27 ?_
                    rw [hnew]
                    refine ⟨fun j hj => ?_, fun j => ?_, ?_, ?_⟩
                    · rw [e27]
                      show _ = pe (q_mset t.1 c k j)
                      unfold q_mset
                      by_cases j2 : j = k
                      · rw [if_pos j2, j2, upd_s, pe_s]
                      · rw [if_neg j2, upd_n _ _ j2]
                        by_cases j1 : j = c
                        · rw [if_pos j1, j1, upd_s, pe_s]
                        · rw [if_neg j1, upd_n _ _ j1]
                          exact c1 j hj
                    · show q_mset t.1 c k j ≤ 40
                      unfold q_mset
                      split
                      · omega
                      · split
                        · omega
                        · exact c2 j
                    · rw [e22, upd_n _ _ (by decide), upd_s, c3, Lm1]
                    · rw [e22, upd_s, c4, nI_add]
                  · rw [if_neg lk]
                    exact stay (by unfold q_step q_good; rw [decide_eq_false lk]; simp)
                · rw [if_neg es]
                  exact stay (by unfold q_step; rw [decide_eq_false es]; simp)
              · rw [if_neg e2]
                exact stay (by unfold q_step; rw [decide_eq_false e2]; simp)
            · rw [if_neg e1]
              exact stay (by unfold q_step; rw [decide_eq_false e1]; simp)
        · rw [if_neg cd]
          have cd0 : q_cd d c = false := by simpa using cd
          exact stay (by unfold q_step q_good; rw [cd0]; simp)
      · have ek : k = q_nr d := by omega
        subst ek
        rw [if_neg e, wbd_e, Lm1]
        exact ⟨Z, rfl, hz, h31, hM⟩
  have rows : ∀ (s : Nat), s ≤ 27 → ∀ (k40 : wM → Int32 → Option wM) (m : mM) (n c : Nat) (Z : wM), c ≤ q_nr d → q_nr d - c < n → FM Y Z → (Z 31 = Y1 31) → MY d Z (q_fl d s (q_pl d c) m) → ∃ Z', f_X8_layMatches_46 k40 n Z (nI s) (nI c) = k40 Z' (nI s + (-1)) ∧ FM Y Z' ∧ (Z' 31 = Y1 31) ∧ MY d Z' (q_fl d s (q_pl d (q_nr d)) m) := by
    intro s s27 k40 m n
    induction n with
    | zero => intro c Z _ h; omega
    | succ n ih =>
      intro c Z hc hn hz h31 hM
      have hR := hz.RY h
      rw [f_X8_layMatches_46]
      dsimp only
      rw [f_X8_layMatches_46b, hR.2.2.2.1, ilt (by omega) (by omega)]
      by_cases e : c < q_nr d
      · rw [if_pos e, L0]
        obtain ⟨Z', g1, g2, g3, g4⟩ := row s c e k40 (f_X8_layMatches_46 k40 n) (q_fl d s (q_pl d c) m) 1000 0 Z (by omega) (by omega) hz h31 s27 hM
        rw [g1]
        exact ih (c + 1) Z' (by omega) (by omega) g2 g3 (by rw [q_pl, q_fl_app]; exact g4)
      · have ek : c = q_nr d := by omega
        subst ek
        rw [if_neg e, wbd_e]
        exact ⟨Z, rfl, hz, h31, hM⟩
  have down : ∀ (s n : Nat) (Z : wM) (m : mM), s ≤ 27 → s + 1 < n → FM Y Z → (Z 31 = Y1 31) → MY d Z m → ∃ Y', f_X8_layMatches_40 n Z (nI s) = some Y' ∧ FM Y Y' ∧ (Y' 31 = Y1 31) ∧ MY d Y' (q_down d s m) := by
    intro s
    induction s with
    | zero =>
      intro n Z m hs hn hz h31 hm
      obtain ⟨n, rfl⟩ : ∃ q, n = q + 2 := ⟨n - 2, by omega⟩
      obtain ⟨Z', g1, g2, g3, g4⟩ := rows 0 hs (f_X8_layMatches_40 (n + 1)) m 1000 0 Z (by omega) (by omega) hz h31 hm
      rw [f_X8_layMatches_40]
      dsimp only
      rw [f_X8_layMatches_40b, ineg (by omega), L0, g1, f_X8_layMatches_40]
      dsimp only
      rw [f_X8_layMatches_40b, if_pos (by decide)]
      exact ⟨Z', rfl, g2, g3, g4⟩
    | succ s ih =>
      intro n Z m hs hn hz h31 hm
      obtain ⟨n, rfl⟩ : ∃ q, n = q + 1 := ⟨n - 1, by omega⟩
      obtain ⟨Z', g1, g2, g3, g4⟩ := rows (s + 1) hs (f_X8_layMatches_40 n) m 1000 0 Z (by omega) (by omega) hz h31 hm
      rw [f_X8_layMatches_40]
      dsimp only
      rw [f_X8_layMatches_40b, ineg (by omega), L0, g1, pk_m1]
      exact ih n Z' _ (by omega) (by omega) g2 g3 g4
  have clear : ∀ (n i : Nat) (Z : wM), i ≤ q_nr d → q_nr d - i < n → FM Y Z → (Z 31 = Y1 31) → (∀ j, j < i → Z 27 j = -1) → Z 22 24 = 0 → Z 22 25 = 0 → ∃ Y', f_X8_layMatches_16 n Z (nI i) = some Y' ∧ FM Y Y' ∧ (Y' 31 = Y1 31) ∧ MY d Y' (q_mt d) := by
    intro n
    induction n with
    | zero => intro i Z _ h; omega
    | succ n ih =>
      intro i Z hi hn hz h31 hc z4 z5
      have hR := hz.RY h
      rw [f_X8_layMatches_16]
      dsimp only
      rw [f_X8_layMatches_16b, hR.2.2.2.1, ilt (by omega) (by omega)]
      by_cases e : i < q_nr d
      · rw [if_pos e, wput_n (by omega) (by omega), wbd_e, Lm1]
        refine ih (i + 1) _ (by omega) (by omega) ⟨fun k a b c => by rw [updM_ne _ _ b]; exact hz.1 k a b c, fun j a b => by rw [updM_ne _ _ (by decide)]; exact hz.2 j a b⟩ (by rw [updM_ne _ _ (by decide)]; exact h31) (fun q hq => ?_) (by rw [updM_ne _ _ (by decide)]; exact z4) (by rw [updM_ne _ _ (by decide)]; exact z5)
        rw [updM_s]
        by_cases qe : q = i
        · subst qe; exact upd_s _ _ _
        · rw [upd_n _ _ qe]; exact hc q (by omega)
      · have ei : i = q_nr d := by omega
        subst ei
        rw [if_neg e, L27]
        unfold q_mt
        rw [← q_down_high d q_m0 27 (by omega)]
        exact down 27 1000 Z q_m0 (by omega) (by omega) hz h31 ⟨hc, fun _ => Nat.zero_le _, z4, z5⟩
  unfold f_X8_layMatches
  rw [a1, bind_s, wfld_e, wfld_e, L0]
  obtain ⟨Y', g1, g2, g3, g4⟩ := clear 1000 0 (updM (updM Y1 22 (upd (Y1 22) 24 (nI 0))) 22 (upd (updM Y1 22 (upd (Y1 22) 24 (nI 0)) 22) 25 (nI 0))) (by omega) (by omega) ⟨fun k a b c => by rw [updM_ne _ _ a, updM_ne _ _ a]; exact a2 k c, fun j a b => by rw [updM_s, upd_n _ _ b, updM_s, upd_n _ _ a, a2 22 (by decide)]⟩ (by rw [updM_ne _ _ (by decide), updM_ne _ _ (by decide)]) (fun j hj => by omega) (by rw [updM_s, upd_n _ _ (by decide), updM_s, upd_s]; rfl) (by rw [updM_s, upd_s]; rfl)
  exact ⟨Y', g1, g2, fun j hj => by rw [g3]; exact a3 j hj, g4⟩
