theorem RY.congr {d : mD} {Y Y' : wM} (h : RY d Y) (e : ∀ k, 23 ≤ k → k ≤ 30 → k ≠ 27 → k ≠ 28 → Y' k = Y k) (e2 : ∀ j, 15 ≤ j → j ≤ 23 → j ≠ 18 → Y' 22 j = Y 22 j) : RY d Y' := by
  unfold RY at h ⊢
  rw [e 23 (by omega) (by omega) (by omega) (by omega), e 24 (by omega) (by omega) (by omega) (by omega), e 25 (by omega) (by omega) (by omega) (by omega), e 26 (by omega) (by omega) (by omega) (by omega), e 29 (by omega) (by omega) (by omega) (by omega), e 30 (by omega) (by omega) (by omega) (by omega), e2 15 (by omega) (by omega) (by omega), e2 16 (by omega) (by omega) (by omega), e2 17 (by omega) (by omega) (by omega), e2 19 (by omega) (by omega) (by omega), e2 20 (by omega) (by omega) (by omega), e2 21 (by omega) (by omega) (by omega), e2 22 (by omega) (by omega) (by omega), e2 23 (by omega) (by omega) (by omega)]
  exact h
theorem RY.cong2 {d : mD} {Y Y' : wM} (h : RY d Y) (e : ∀ k, k ≠ 27 → k ≠ 28 → k ≠ 31 → Y' k = Y k) : RY d Y' :=
  h.congr (fun k a b c f => e k c f (by omega)) (fun j _ _ _ => by rw [e 22 (by decide) (by decide) (by decide)])
theorem y_kind {d : mD} {Y : wM} (h : RY d Y) {i : Nat} (hi : i < q_nr d) {ρ : Type} {A B : ρ} : (if Y 29 i = 99 then A else B) = if q_ce d i then A else B := by
  rw [(h.2.2.2.2.1 i hi).1]
  cases q_ce d i
  · rfl
  · rfl
theorem y_kind2 {d : mD} {Y : wM} (h : RY d Y) {i : Nat} (hi : i < q_nr d) {ρ : Type} {A B : ρ} : (if Y 29 i = 107 then A else B) = if q_ce d i then B else A := by
  rw [(h.2.2.2.2.1 i hi).1]
  cases q_ce d i
  · rfl
  · rfl
theorem narZ_0 : vp_nar .boolean 0 = 0 := narZ_b false
theorem narZ_1 : vp_nar .boolean 1 = 1 := narZ_b true
theorem y_isCounted {d : mD} {Y : wM} (h : RY d Y) (w : q_ok d) {i : Nat} (hi : i < q_nr d) (hb : Y 31 i = if q_db d i then 1 else 0) : f_X8_isCounted Y (nI i) = some (if q_cd d i then 1 else 0) := by
  have w4 := w.2.2.2.1
  unfold f_X8_isCounted f_X8_isCounted_24 f_X8_isCounted_25 q_cd
  rw [wget_n (by omega) (by omega), y_kind h hi, wget_n (by omega) (by omega), hb, wgd_t okZ_0, wgd_t okZ_1]
  cases q_ce d i <;> cases q_db d i <;> rfl
theorem y_layDoubles {d : mD} {Y : wM} (h : RY d Y) (w : q_ok d) : ∃ Y', f_X8_layDoubles Y = some Y' ∧ (∀ k, k ≠ 31 → Y' k = Y k) ∧ ∀ j, j < q_nr d → Y' 31 j = if q_db d j then 1 else 0 := by
  have w4 := w.2.2.2.1
  have inner : ∀ (i : Nat), i < q_nr d → ∀ (k2 : wM → Int32 → Option wM) (n j : Nat) (Z : wM), j ≤ i → i - j < n → (∀ k, k ≠ 31 → Z k = Y k) → (∀ q, q < i → Z 31 q = if q_db d q then 1 else 0) → (Z 31 i = if (q_ce d i && q_any j (fun j => q_cd d j && decide (q_lk d j i = 121))) then 1 else 0) → ∃ Z', f_X8_layDoubles_19 k2 n Z (nI i) (nI j) = k2 Z' (nI (i + 1)) ∧ (∀ k, k ≠ 31 → Z' k = Y k) ∧ ∀ q, q < i + 1 → Z' 31 q = if q_db d q then 1 else 0 := by
    intro i hi k2 n
    induction n with
    | zero => intro j Z _ h; omega
    | succ n ih =>
      intro j Z hj hn hz hq hc
      have hR : RY d Z := h.cong2 (fun k a b c => hz k c)
      have fin : (q_ce d i && q_any j (fun j => q_cd d j && decide (q_lk d j i = 121))) = q_db d i → ∃ Z', f_X8_layDoubles_79 k2 Z (nI i) = k2 Z' (nI (i + 1)) ∧ (∀ k, k ≠ 31 → Z' k = Y k) ∧ ∀ q, q < i + 1 → Z' 31 q = if q_db d q then 1 else 0 := by
        intro e
        rw [f_X8_layDoubles_79, wbd_e, Lm1]
        refine ⟨Z, rfl, hz, fun q hq2 => ?_⟩
        by_cases qe : q = i
        · subst qe; rw [hc, e]
        · exact hq q (by omega)
      rw [f_X8_layDoubles_19]
      dsimp only
      rw [f_X8_layDoubles_19b, ilt (by omega) (by omega)]
      by_cases e : j < i
      · rw [if_pos e, wget_n (by omega) (by omega), y_kind hR hi]
        by_cases ci : q_ce d i = true
        · have go : q_any (j + 1) (fun j => q_cd d j && decide (q_lk d j i = 121)) = q_any j (fun j => q_cd d j && decide (q_lk d j i = 121)) → ∃ Z', f_X8_layDoubles_73 k2 (f_X8_layDoubles_19 k2 n) Z (nI i) (nI j) = k2 Z' (nI (i + 1)) ∧ (∀ k, k ≠ 31 → Z' k = Y k) ∧ ∀ q, q < i + 1 → Z' 31 q = if q_db d q then 1 else 0 := by
            intro g
            rw [f_X8_layDoubles_73, wbd_e, Lm1]
            exact ih (j + 1) Z (by omega) (by omega) hz hq (by rw [g]; exact hc)
          rw [if_pos ci, wget_n (by omega) (by omega), y_kind hR (by omega)]
          by_cases cj : q_ce d j = true
          · rw [if_pos cj, wget_n (by omega) (by omega), hq j e, b_ite]
            by_cases dj : q_db d j = true
            · rw [if_pos dj]
              exact go (by rw [q_any]; unfold q_cd; rw [dj]; simp)
            · have dj0 : q_db d j = false := by simpa using dj
              have cdj : q_cd d j = true := by unfold q_cd; rw [cj, dj0]; rfl
              rw [if_neg dj, y_linkOf hR w hi (by omega), bind_s, L121, ieq (q_lk_lt w _ _) (by omega), q_lk_comm w i j]
              by_cases lk : q_lk d j i = 121
              · rw [if_pos lk, wput_n (by omega) (by omega), narZ_1, f_X8_layDoubles_73, wbd_e, Lm1]
                refine ih (j + 1) _ (by omega) (by omega) (fun k a => by rw [updM_ne _ _ a]; exact hz k a) (fun q hq2 => by rw [updM_s, upd_n _ _ (by omega)]; exact hq q hq2) ?_
                rw [updM_s, upd_s, ci, q_any, cdj, decide_eq_true lk]
                simp
              · rw [if_neg lk]
                exact go (by rw [q_any, decide_eq_false lk]; simp)
          · rw [if_neg cj]
            have cj0 : q_ce d j = false := by simpa using cj
            exact go (by rw [q_any]; unfold q_cd; rw [cj0]; simp)
        · rw [if_neg ci]
          have ci0 : q_ce d i = false := by simpa using ci
          exact fin (by rw [q_db_eq, ci0]; rfl)
      · rw [if_neg e]
        have ej : j = i := by omega
        subst ej
        exact fin (q_db_eq d j).symm
  have outer : ∀ (n i : Nat) (Z : wM), i ≤ q_nr d → q_nr d - i < n → (∀ k, k ≠ 31 → Z k = Y k) → (∀ q, q < i → Z 31 q = if q_db d q then 1 else 0) → ∃ Y', f_X8_layDoubles_2 n Z (nI i) = some Y' ∧ (∀ k, k ≠ 31 → Y' k = Y k) ∧ ∀ j, j < q_nr d → Y' 31 j = if q_db d j then 1 else 0 := by
    intro n
    induction n with
    | zero => intro i Z _ h; omega
    | succ n ih =>
      intro i Z hi hn hz hq
      rw [f_X8_layDoubles_2]
      dsimp only
      rw [f_X8_layDoubles_2b, hz 22 (by decide), h.2.2.2.1, ilt (by omega) (by omega)]
      by_cases e : i < q_nr d
      · rw [if_pos e, wput_n (by omega) (by omega), narZ_0, L0]
        obtain ⟨Z', g1, g2, g3⟩ := inner i e (f_X8_layDoubles_2 n) 1000 0 (updM Z 31 (upd (Z 31) i (nI 0))) (by omega) (by omega) (fun k a => by rw [updM_ne _ _ a]; exact hz k a) (fun q hq2 => by rw [updM_s, upd_n _ _ (by omega)]; exact hq q hq2) (by rw [updM_s, upd_s, q_any, Bool.and_false]; rfl)
        rw [g1]
        exact ih (i + 1) Z' (by omega) (by omega) g2 g3
      · have ei : i = q_nr d := by omega
        subst ei
        rw [if_neg e]
        exact ⟨Z, rfl, hz, hq⟩
  unfold f_X8_layDoubles
  rw [L0]
  exact outer 1000 0 Y (by omega) (by omega) (fun _ _ => rfl) (fun q hq => by omega)
theorem y_layCounts {d : mD} {Y : wM} (h : RY d Y) (w : q_ok d) : ∃ Y', f_X8_layCounts Y = some Y' ∧ (∀ k, k ≠ 28 → k ≠ 31 → Y' k = Y k) ∧ (∀ j, j < q_nr d → Y' 31 j = if q_db d j then 1 else 0) ∧ ∀ c, c < 24 → Y' 28 c = nI (q_cn d c) := by
  have w4 := w.2.2.2.1
  obtain ⟨Y1, a1, a2, a3⟩ := y_layDoubles h w
  have main : ∀ (n i : Nat) (Z : wM), i ≤ q_nr d → q_nr d - i < n → (∀ k, k ≠ 28 → Z k = Y1 k) → (∀ c, c < 24 → Z 28 c = nI (q_ct d c i)) → ∃ Y', f_X8_layCounts_27 n Z (nI i) = some Y' ∧ (∀ k, k ≠ 28 → Y' k = Y1 k) ∧ ∀ c, c < 24 → Y' 28 c = nI (q_cn d c) := by
    intro n
    induction n with
    | zero => intro i Z _ h; omega
    | succ n ih =>
      intro i Z hi hn hz hc
      have hR : RY d Z := h.cong2 (fun k a b c => by rw [hz k b, a2 k c])
      rw [f_X8_layCounts_27]
      dsimp only
      rw [f_X8_layCounts_27b, hR.2.2.2.1, ilt (by omega) (by omega)]
      by_cases e : i < q_nr d
      · rw [if_pos e, y_isCounted hR w e (by rw [hz 31 (by decide)]; exact a3 i e), bind_s, b_ite]
        by_cases cd : q_cd d i = true
        · have hcl := q_cell_lt w e
          rw [if_pos cd, y_blockFor hR w e, bind_s, wget_n (by omega) (by omega), (hR.2.2.2.2.1 i e).2.2.2, y_group (w.2.2.2.2.1 i e).2.2, bind_s, L4, pk_mul, nI_add, show 4 * q_bl d (q_ad d i) + q_gr (q_yr d i) = q_cell d i from by rw [Nat.mul_comm]; rfl, wget_n hcl (by omega), wput_n hcl (by omega), f_X8_layCounts_69, wbd_e, Lm1]
          refine ih (i + 1) _ (by omega) (by omega) (fun k a => by rw [updM_ne _ _ a]; exact hz k a) (fun c hc2 => ?_)
          have t2q := hc c hc2
          unfold q_ct at t2q ⊢
          rw [updM_s, q_num, cd]
          by_cases qe : c = q_cell d i
          · subst qe
            rw [upd_s, t2q, Lm1, decide_eq_true rfl]; rfl
          · rw [upd_n _ _ qe, t2q, decide_eq_false (fun z => qe z.symm)]; rfl
        · rw [if_neg cd, f_X8_layCounts_69, wbd_e, Lm1]
          have cd0 : q_cd d i = false := by simpa using cd
          refine ih (i + 1) _ (by omega) (by omega) hz (fun c hc2 => ?_)
          rw [hc c hc2]
          unfold q_ct
          rw [q_num, cd0]; rfl
      · have ei : i = q_nr d := by omega
        subst ei
        rw [if_neg e]
        exact ⟨Z, rfl, hz, hc⟩
  have clear : ∀ (n i : Nat) (Z : wM), i ≤ 24 → 24 - i < n → (∀ k, k ≠ 28 → Z k = Y1 k) → (∀ c, c < i → Z 28 c = 0) → ∃ Y', f_X8_layCounts_6 n Z (nI i) = some Y' ∧ (∀ k, k ≠ 28 → Y' k = Y1 k) ∧ ∀ c, c < 24 → Y' 28 c = nI (q_cn d c) := by
    intro n
    induction n with
    | zero => intro i Z _ h; omega
    | succ n ih =>
      intro i Z hi hn hz hc
      rw [f_X8_layCounts_6]
      dsimp only
      rw [f_X8_layCounts_6b, L24, ilt (by omega) (by omega)]
      by_cases e : i < 24
      · rw [if_pos e, wput_n e (by omega), wbd_e, Lm1]
        refine ih (i + 1) _ (by omega) (by omega) (fun k a => by rw [updM_ne _ _ a]; exact hz k a) (fun q hq => ?_)
        rw [updM_s]
        by_cases qe : q = i
        · subst qe; exact upd_s _ _ _
        · rw [upd_n _ _ qe]; exact hc q (by omega)
      · rw [if_neg e, L0]
        exact main 1000 0 Z (by omega) (by omega) hz (fun c hc2 => hc c (by omega))
  unfold f_X8_layCounts
  rw [a1, bind_s, L0]
  obtain ⟨Y', g1, g2, g3⟩ := clear 1000 0 Y1 (by omega) (by omega) (fun _ _ => rfl) (fun c hc => by omega)
  exact ⟨Y', g1, fun k a b => by rw [g2 k a, a2 k b], fun j hj => by rw [g2 31 (by decide)]; exact a3 j hj, g3⟩
