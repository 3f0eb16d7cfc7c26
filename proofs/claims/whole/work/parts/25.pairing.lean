def pe (p : Nat) : Int32 := if p = 0 then -1 else nI (p - 1)
theorem pe_m1 : ∀ p, p ≤ 40 → (pe p = -1 ↔ p = 0) := by decide +kernel
theorem pe_s (k : Nat) : pe (k + 1) = nI k := by
  unfold pe
  rw [if_neg (by omega)]
  rfl
/-- the class's partner row, number and sum hold the state m -/
def MS (X : wM) (m : mM) : Prop := (∀ j, j < 40 → X 17 j = pe (m.1 j)) ∧ (∀ j, m.1 j ≤ 40) ∧ X 16 8 = nI m.2.1 ∧ X 16 9 = nI m.2.2
theorem q_fl_app (d : mD) (s : Nat) (L M : List (Nat × Nat)) (m : mM) : q_fl d s (L ++ M) m = q_fl d s M (q_fl d s L m) := by
  unfold q_fl
  rw [List.foldl_append]
theorem q_fl_take {d : mD} {s p : Nat} {L : List (Nat × Nat)} {q : Nat × Nat} (h : L[p]? = some q) (m : mM) : q_fl d s (L.take (p + 1)) m = q_step d s q.1 q.2 (q_fl d s (L.take p) m) := by
  rw [List.take_add_one, h, q_fl_app]
  rfl
theorem x_take {d : mD} {X : wM} (w : q_ok d) {s : Nat} (hs : s ≤ 27) {m : mM} (hp : PLs d X (q_pl d (q_nr d))) (hm : MS X m) : ∃ X', f_X2_takeWithScore X (nI s) = some X' ∧ (∀ k, k ≠ 16 → k ≠ 17 → X' k = X k) ∧ X' 16 7 = nI (q_pl d (q_nr d)).length ∧ MS X' (q_fl d s (q_pl d (q_nr d)) m) := by
  have w4 := w.2.2.2.1
  have h400 := q_pl_400 w
  have lp : ∀ (n p : Nat) (Z : wM), p ≤ (q_pl d (q_nr d)).length → (q_pl d (q_nr d)).length - p < n → (∀ k, k ≠ 16 → k ≠ 17 → Z k = X k) → Z 16 7 = nI (q_pl d (q_nr d)).length → MS Z (q_fl d s ((q_pl d (q_nr d)).take p) m) → ∃ X', f_X2_takeWithScore_2 n Z (nI s) (nI p) = some X' ∧ (∀ k, k ≠ 16 → k ≠ 17 → X' k = X k) ∧ X' 16 7 = nI (q_pl d (q_nr d)).length ∧ MS X' (q_fl d s (q_pl d (q_nr d)) m) := by
    intro n
    induction n with
    | zero => intro p Z _ h; omega
    | succ n ih =>
      intro p Z hpl hn hz h7 hM
      rw [f_X2_takeWithScore_2]
      dsimp only
      rw [f_X2_takeWithScore_2b, h7, ilt (by omega) (by omega)]
      by_cases e : p < (q_pl d (q_nr d)).length
      · obtain ⟨q, hq⟩ : ∃ q, (q_pl d (q_nr d))[p]? = some q := ⟨_, List.getElem?_eq_getElem e⟩
        obtain ⟨a1, a2, a3⟩ := hp.2 p q hq
        obtain ⟨b1, b2, b3⟩ := q_pl_mem d _ q (List.mem_of_getElem? hq)
        have hsc := q_sc_le d q.1 q.2
        have hv : q_sc d q.1 q.2 < 2 ^ 31 := by
          have := w.2.2.2.2.2.2.2.2
          omega
        rw [if_pos e, wget_n (by omega) (by omega), hz 18 (by decide) (by decide), a1, wget_n (by omega) (by omega), hz 19 (by decide) (by decide), a2, wget_n (by omega) (by omega), hz 20 (by decide) (by decide), a3, ieq hv (by omega)]
        have hst := q_fl_take (d := d) (s := s) hq m
        obtain ⟨t, ht⟩ : ∃ t, t = q_fl d s ((q_pl d (q_nr d)).take p) m := ⟨_, rfl⟩
        rw [← ht] at hst hM
        obtain ⟨c1, c2, c3, c4⟩ := hM
        have stay : q_fl d s ((q_pl d (q_nr d)).take (p + 1)) m = t → ∃ X', f_X2_takeWithScore_92 (f_X2_takeWithScore_2 n) Z (nI s) (nI p) = some X' ∧ (∀ k, k ≠ 16 → k ≠ 17 → X' k = X k) ∧ X' 16 7 = nI (q_pl d (q_nr d)).length ∧ MS X' (q_fl d s (q_pl d (q_nr d)) m) := by
          intro g
          rw [f_X2_takeWithScore_92, wbd_e, Lm1]
          exact ih (p + 1) Z (by omega) (by omega) hz h7 (by rw [g]; exact ⟨c1, c2, c3, c4⟩)
        by_cases es : q_sc d q.1 q.2 = s
        · rw [if_pos es, wget_n (by omega) (by omega), c1 _ (by omega), ite_n (pe_m1 _ (c2 _))]
          by_cases e1 : t.1 q.1 = 0
          · rw [if_pos e1, wget_n (by omega) (by omega), c1 _ (by omega), ite_n (pe_m1 _ (c2 _))]
            by_cases e2 : t.1 q.2 = 0
            · rw [if_pos e2, wput_n (by omega) (by omega), wput_n (by omega) (by omega), wfld_e, wfld_e, f_X2_takeWithScore_92, wbd_e, Lm1]
              have hne : q.1 ≠ q.2 := by
                intro z
                unfold q_good q_cd at b3
                rw [z] at b3
                cases hc : q_ce d q.2 <;> rw [hc] at b3 <;> simp at b3
              have hnew : q_fl d s ((q_pl d (q_nr d)).take (p + 1)) m = (q_mset t.1 q.1 q.2, t.2.1 + 1, t.2.2 + s) := by
                rw [hst]
                unfold q_step
                rw [b3, decide_eq_true es, decide_eq_true e1, decide_eq_true e2]
                rfl
              obtain ⟨Z2, hZ2⟩ : ∃ Z2, Z2 = updM (updM (updM (updM Z 17 (upd (Z 17) q.1 (nI q.2))) 17 (upd (updM Z 17 (upd (Z 17) q.1 (nI q.2)) 17) q.2 (nI q.1))) 16 (upd (updM (updM Z 17 (upd (Z 17) q.1 (nI q.2))) 17 (upd (updM Z 17 (upd (Z 17) q.1 (nI q.2)) 17) q.2 (nI q.1)) 16) 8 (updM (updM Z 17 (upd (Z 17) q.1 (nI q.2))) 17 (upd (updM Z 17 (upd (Z 17) q.1 (nI q.2)) 17) q.2 (nI q.1)) 16 8 + 1))) 16 (upd (updM (updM (updM Z 17 (upd (Z 17) q.1 (nI q.2))) 17 (upd (updM Z 17 (upd (Z 17) q.1 (nI q.2)) 17) q.2 (nI q.1))) 16 (upd (updM (updM Z 17 (upd (Z 17) q.1 (nI q.2))) 17 (upd (updM Z 17 (upd (Z 17) q.1 (nI q.2)) 17) q.2 (nI q.1)) 16) 8 (updM (updM Z 17 (upd (Z 17) q.1 (nI q.2))) 17 (upd (updM Z 17 (upd (Z 17) q.1 (nI q.2)) 17) q.2 (nI q.1)) 16 8 + 1)) 16) 9 (updM (updM (updM Z 17 (upd (Z 17) q.1 (nI q.2))) 17 (upd (updM Z 17 (upd (Z 17) q.1 (nI q.2)) 17) q.2 (nI q.1))) 16 (upd (updM (updM Z 17 (upd (Z 17) q.1 (nI q.2))) 17 (upd (updM Z 17 (upd (Z 17) q.1 (nI q.2)) 17) q.2 (nI q.1)) 16) 8 (updM (updM Z 17 (upd (Z 17) q.1 (nI q.2))) 17 (upd (updM Z 17 (upd (Z 17) q.1 (nI q.2)) 17) q.2 (nI q.1)) 16 8 + 1)) 16 9 + nI s)) := ⟨_, rfl⟩
              rw [← hZ2]
              have e17 : Z2 17 = upd (upd (Z 17) q.1 (nI q.2)) q.2 (nI q.1) := by
                rw [hZ2, updM_ne _ _ (by decide), updM_ne _ _ (by decide), updM_s, updM_s]
              have e16 : Z2 16 = upd (upd (Z 16) 8 (Z 16 8 + 1)) 9 (Z 16 9 + nI s) := by
                rw [hZ2, updM_s, updM_s, updM_ne _ _ (show (16 : Nat) ≠ 17 by decide), updM_ne _ _ (show (16 : Nat) ≠ 17 by decide), upd_n _ _ (show (9 : Nat) ≠ 8 by decide)]
              have eo : ∀ k, k ≠ 16 → k ≠ 17 → Z2 k = Z k := fun k a b => by
                rw [hZ2, updM_ne _ _ a, updM_ne _ _ a, updM_ne _ _ b, updM_ne _ _ b]
              refine ih (p + 1) Z2 (by omega) (by omega) (fun k a b => by rw [eo k a b]; exact hz k a b) ?_ ?_
              · rw [e16, upd_n _ _ (by decide), upd_n _ _ (by decide)]; exact h7
              · rw [hnew]
                refine ⟨fun j hj => ?_, fun j => ?_, ?_, ?_⟩
                · rw [e17]
                  show _ = pe (q_mset t.1 q.1 q.2 j)
                  unfold q_mset
                  by_cases j2 : j = q.2
                  · rw [if_pos j2, j2, upd_s, pe_s]
                  · rw [if_neg j2, upd_n _ _ j2]
                    by_cases j1 : j = q.1
                    · rw [if_pos j1, j1, upd_s, pe_s]
                    · rw [if_neg j1, upd_n _ _ j1]
                      exact c1 j hj
                · show q_mset t.1 q.1 q.2 j ≤ 40
                  unfold q_mset
                  split
                  · omega
                  · split
                    · omega
                    · exact c2 j
                · rw [e16, upd_n _ _ (by decide), upd_s, c3, Lm1]
                · rw [e16, upd_s, c4, nI_add]
            · rw [if_neg e2]
              exact stay (by rw [hst]; unfold q_step; rw [decide_eq_false e2, Bool.and_false]; rfl)
          · rw [if_neg e1]
            exact stay (by rw [hst]; unfold q_step; rw [decide_eq_false e1, Bool.and_false, Bool.false_and]; rfl)
        · rw [if_neg es]
          exact stay (by rw [hst]; unfold q_step; rw [decide_eq_false es, Bool.and_false, Bool.false_and, Bool.false_and]; rfl)
      · have ep : p = (q_pl d (q_nr d)).length := by omega
        subst ep
        rw [if_neg e]
        rw [List.take_length] at hM
        exact ⟨Z, rfl, hz, h7, hM⟩
  unfold f_X2_takeWithScore
  rw [L0]
  exact lp 1000 0 X (by omega) (by omega) (fun _ _ _ => rfl) hp.1 hm
/-- the class's pairing is renewed -/
def PRm (d : mD) (X : wM) : Prop := (∀ j, j < q_nr d → X 17 j = pe ((q_mt d).1 j)) ∧ (∀ j, (q_mt d).1 j ≤ 40) ∧ X 16 8 = nI (q_mt d).2.1 ∧ X 16 9 = nI (q_mt d).2.2
theorem PRm.of {d : mD} {X : wM} (w : q_ok d) (h : MS X (q_mt d)) : PRm d X := ⟨fun j hj => h.1 j (by have := w.2.2.2.1; omega), h.2⟩
theorem x_pairM {d : mD} {X : wM} (h : RX d X) (w : q_ok d) (hb : ∀ j, j < q_nr d → X 11 j = if q_db d j then 1 else 0) : ∃ X', f_X2_renew X = some X' ∧ (∀ k, k ≠ 16 → k ≠ 17 → k ≠ 18 → k ≠ 19 → k ≠ 20 → X' k = X k) ∧ MS X' (q_mt d) := by
  have w4 := w.2.2.2.1
  have down : ∀ (s n : Nat) (Z : wM) (m : mM), s ≤ 27 → s + 1 < n → (∀ k, k ≠ 16 → k ≠ 17 → k ≠ 18 → k ≠ 19 → k ≠ 20 → Z k = X k) → PLs d Z (q_pl d (q_nr d)) → MS Z m → ∃ X', f_X2_renew_43 n Z (nI s) = some X' ∧ (∀ k, k ≠ 16 → k ≠ 17 → k ≠ 18 → k ≠ 19 → k ≠ 20 → X' k = X k) ∧ MS X' (q_down d s m) := by
    intro s
    induction s with
    | zero =>
      intro n Z m hs hn hz hp hm
      obtain ⟨n, rfl⟩ : ∃ q, n = q + 2 := ⟨n - 2, by omega⟩
      obtain ⟨X', g1, g2, g3, g4⟩ := x_take w hs hp hm
      rw [f_X2_renew_43]
      dsimp only
      rw [f_X2_renew_43b, ineg (by omega), g1, bind_s, wbd_e, f_X2_renew_43]
      dsimp only
      rw [f_X2_renew_43b, if_pos (by decide)]
      exact ⟨X', rfl, fun k a b c e f => by rw [g2 k a b]; exact hz k a b c e f, g4⟩
    | succ s ih =>
      intro n Z m hs hn hz hp hm
      obtain ⟨n, rfl⟩ : ∃ q, n = q + 1 := ⟨n - 1, by omega⟩
      obtain ⟨X', g1, g2, g3, g4⟩ := x_take w hs hp hm
      rw [f_X2_renew_43]
      dsimp only
      rw [f_X2_renew_43b, ineg (by omega), g1, bind_s, wbd_e, pk_m1]
      refine ih n X' _ (by omega) (by omega) (fun k a b c e f => by rw [g2 k a b]; exact hz k a b c e f) ⟨g3, fun p q hq => ?_⟩ g4
      rw [g2 18 (by decide) (by decide), g2 19 (by decide) (by decide), g2 20 (by decide) (by decide)]
      exact hp.2 p q hq
  have clear : ∀ (n i : Nat) (Z : wM), i ≤ 40 → 40 - i < n → (∀ k, k ≠ 17 → Z k = X k) → (∀ j, j < i → Z 17 j = -1) → ∃ X', f_X2_renew_2 n Z (nI i) = some X' ∧ (∀ k, k ≠ 16 → k ≠ 17 → k ≠ 18 → k ≠ 19 → k ≠ 20 → X' k = X k) ∧ MS X' (q_mt d) := by
    intro n
    induction n with
    | zero => intro i Z _ h; omega
    | succ n ih =>
      intro i Z hi hn hz hc
      rw [f_X2_renew_2]
      dsimp only
      rw [f_X2_renew_2b, L40, ilt (by omega) (by omega)]
      by_cases e : i < 40
      · rw [if_pos e, wput_n e (by omega), wbd_e, Lm1]
        refine ih (i + 1) _ (by omega) (by omega) (fun k a => by rw [updM_ne _ _ a]; exact hz k a) (fun q hq => ?_)
        rw [updM_s]
        by_cases qe : q = i
        · subst qe; exact upd_s _ _ _
        · rw [upd_n _ _ qe]; exact hc q (by omega)
      · rw [if_neg e, wfld_e, wfld_e]
        obtain ⟨Z1, hZ1⟩ : ∃ Z1, Z1 = updM (updM Z 16 (upd (Z 16) 8 0)) 16 (upd (updM Z 16 (upd (Z 16) 8 0) 16) 9 0) := ⟨_, rfl⟩
        rw [← hZ1]
        have e16 : Z1 16 = upd (upd (Z 16) 8 0) 9 0 := by rw [hZ1, updM_s, updM_s]
        have eo : ∀ k, k ≠ 16 → Z1 k = Z k := fun k a => by rw [hZ1, updM_ne _ _ a, updM_ne _ _ a]
        have hR : RX d Z1 := h.congr (fun k a b => by rw [eo k (by omega), hz k (by omega)])
        obtain ⟨Z2, g1, g2, g3⟩ := x_gather hR w (fun j hj => by rw [eo 11 (by decide), hz 11 (by decide)]; exact hb j hj)
        have hR2 : RX d Z2 := hR.congr (fun k a b => g2.1 k (by omega) (by omega) (by omega) (by omega))
        have hR2' := hR2
        obtain ⟨-, -, -, -, -, -, q1, q2, q3, -, -⟩ := hR2'
        have wb := w.2.2.2.2.2.2.2.2
        rw [g1, bind_s]
        unfold f_X1_bestScore
        rw [bind_s, q1, q2, q3, nI_add, nI_add]
        refine down _ 1000 Z2 q_m0 (by omega) (by omega) (fun k a b c e f => by rw [g2.1 k a c e f, eo k a]; exact hz k b) g3 ⟨fun j hj => ?_, fun j => Nat.zero_le _, ?_, ?_⟩
        · rw [g2.1 17 (by decide) (by decide) (by decide) (by decide), eo 17 (by decide)]
          exact hc j (by omega)
        · rw [g2.2 8 (by decide), e16, upd_n _ _ (by decide), upd_s]; rfl
        · rw [g2.2 9 (by decide), e16, upd_s]; rfl
  unfold f_X2_renew
  exact clear 1000 0 X (by omega) (by omega) (fun _ _ => rfl) (fun e he => by omega)
theorem x_pair {d : mD} {X : wM} (h : RX d X) (w : q_ok d) (hb : ∀ j, j < q_nr d → X 11 j = if q_db d j then 1 else 0) : ∃ X', f_X2_renew X = some X' ∧ (∀ k, k ≠ 16 → k ≠ 17 → k ≠ 18 → k ≠ 19 → k ≠ 20 → X' k = X k) ∧ PRm d X' := by
  obtain ⟨X', h1, h2, h3⟩ := x_pairM h w hb
  exact ⟨X', h1, h2, PRm.of w h3⟩
