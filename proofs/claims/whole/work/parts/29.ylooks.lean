def TYi (Y : wM) (i : Nat) (t : Nat × (Nat → Nat) × Bool) : Prop := Y 36 i = nI t.1 ∧ (∀ c, c < 24 → Y 35 (24 * i + c) = nI (t.2.1 c)) ∧ Y 32 i = if t.2.2 then 1 else 0
/-- the tables told; no table beyond them is undone -/
def TY (T : mT) (Y : wM) : Prop := Y 22 18 = nI T.1 ∧ T.1 ≤ 8 ∧ (∀ i, i < T.1 → TYi Y i (T.2 i)) ∧ ∀ i, T.1 ≤ i → Y 32 i = 0
theorem b_and (a b : Bool) : (if a then (1 : Int32) else 0) &&& (if b then 1 else 0) = if a && b then 1 else 0 := by cases a <;> cases b <;> decide
theorem y_looks {d : mD} {T : mT} {Y : wM} (h : RY d Y) (w : q_ok d) (hT : TY T Y) (ok : T_ok T) : ∃ Y', f_X8_looks Y = some (nI (q_num (fun i => q_new d (T.2 i)) T.1), Y') ∧ (∀ k, k ≠ 28 → k ≠ 31 → k ≠ 32 → Y' k = Y k) ∧ TY (q_look d T) Y' := by
  have w1 := w.1
  have t8 := hT.2.1
  obtain ⟨Y1, a1, a2, a3, a4⟩ := y_layCounts h w
  have hR : ∀ Z : wM, (∀ k, k ≠ 32 → Z k = Y1 k) → RY d Z := fun Z hz => h.congr (fun k a b c e => by rw [hz k (by omega), a2 k e (by omega)]) (fun j _ _ _ => by rw [hz 22 (by decide), a2 22 (by decide) (by decide)])
  have hN : ∀ Z : wM, (∀ k, k ≠ 32 → Z k = Y1 k) → Z 22 18 = nI T.1 := fun Z hz => by rw [hz 22 (by decide), a2 22 (by decide) (by decide)]; exact hT.1
  have lp : ∀ (n i : Nat) (Z : wM), i ≤ T.1 → T.1 - i < n → (∀ k, k ≠ 32 → Z k = Y1 k) → (∀ j, j < i → Z 32 j = if ((q_look d T).2 j).2.2 then 1 else 0) → (∀ j, i ≤ j → j < T.1 → Z 32 j = if (T.2 j).2.2 then 1 else 0) → (∀ j, T.1 ≤ j → Z 32 j = Y1 32 j) → ∃ Y', f_X8_looks_8 n Z (nI (q_num (fun i => q_new d (T.2 i)) i)) (nI i) = some (nI (q_num (fun i => q_new d (T.2 i)) T.1), Y') ∧ (∀ k, k ≠ 32 → Y' k = Y1 k) ∧ (∀ j, j < T.1 → Y' 32 j = if ((q_look d T).2 j).2.2 then 1 else 0) ∧ (∀ j, T.1 ≤ j → Y' 32 j = Y1 32 j) := by
    intro n
    induction n with
    | zero => intro i Z _ h; omega
    | succ n ih =>
      intro i Z hi hn hz hlo hhi hun
      rw [f_X8_looks_8]
      dsimp only
      rw [f_X8_looks_8b, hN Z hz, ilt (by omega) (by omega)]
      by_cases e : i < T.1
      · obtain ⟨o1, o2⟩ := ok i e
        obtain ⟨t0, t1, t2⟩ := hT.2.2.1 i e
        have z36 : Z 36 i = nI (T.2 i).1 := by rw [hz 36 (by decide), a2 36 (by decide) (by decide)]; exact t0
        have nb := (hR Z hz).1
        have skip : q_new d (T.2 i) = false → ∃ Y', f_X8_looks_107 (f_X8_looks_8 n) Z (nI (q_num (fun i => q_new d (T.2 i)) i)) (nI i) = some (nI (q_num (fun i => q_new d (T.2 i)) T.1), Y') ∧ (∀ k, k ≠ 32 → Y' k = Y1 k) ∧ (∀ j, j < T.1 → Y' 32 j = if ((q_look d T).2 j).2.2 then 1 else 0) ∧ (∀ j, T.1 ≤ j → Y' 32 j = Y1 32 j) := by
          intro q
          have hn1 : q_num (fun i => q_new d (T.2 i)) (i + 1) = q_num (fun i => q_new d (T.2 i)) i := by rw [q_num, q]; rfl
          rw [f_X8_looks_107, wbd_e, Lm1, ← hn1]
          refine ih (i + 1) Z (by omega) (by omega) hz (fun j hj => ?_) (fun j hj hj2 => hhi j (by omega) hj2) hun
          by_cases qe : j = i
          · subst qe
            rw [hhi j (by omega) e]
            show _ = if ((T.2 j).2.2 || !(q_same d (T.2 j))) = true then 1 else 0
            unfold q_new at q
            cases hu : (T.2 j).2.2
            · rw [hu] at q
              have : q_same d (T.2 j) = true := by simpa using q
              rw [this]; rfl
            · rfl
          · exact hlo j (by omega)
        have cmp : ∀ (m c : Nat), c ≤ 24 → 24 - c < m → ∃ Y', f_X8_looks_38 (f_X8_looks_8 n) m Z (nI (q_num (fun i => q_new d (T.2 i)) i)) (nI i) (if decide ((T.2 i).1 = q_nb d) && q_all c (fun c => decide ((T.2 i).2.1 c = q_cn d c)) then 1 else 0) (nI c) = some (nI (q_num (fun i => q_new d (T.2 i)) T.1), Y') ∧ (∀ k, k ≠ 32 → Y' k = Y1 k) ∧ (∀ j, j < T.1 → Y' 32 j = if ((q_look d T).2 j).2.2 then 1 else 0) ∧ (∀ j, T.1 ≤ j → Y' 32 j = Y1 32 j) := by
          intro m
          induction m with
          | zero => intro c _ h; omega
          | succ m ihm =>
            intro c hc hm
            rw [f_X8_looks_38]
            dsimp only
            rw [f_X8_looks_38b, L24, ilt (by omega) (by omega)]
            by_cases ec : c < 24
            · have c1 := o2 c ec
              have c2 := q_cn_le w c
              rw [if_pos ec, pk_mul, nI_add, wget_n (by omega) (by omega), wget_n (by omega) (by omega), hz 35 (by decide), a2 35 (by decide) (by decide), t1 c ec, hz 28 (by decide), a4 c ec, ieq (by omega) (by omega)]
              have st : ∀ b : Bool, decide ((T.2 i).2.1 c = q_cn d c) = b → ∃ Y', f_X8_looks_73 (f_X8_looks_8 n) (f_X8_looks_38 (f_X8_looks_8 n) m) Z (nI (q_num (fun i => q_new d (T.2 i)) i)) (nI i) (nI c) (if b then 1 else 0) (if decide ((T.2 i).1 = q_nb d) && q_all c (fun c => decide ((T.2 i).2.1 c = q_cn d c)) then 1 else 0) = some (nI (q_num (fun i => q_new d (T.2 i)) T.1), Y') ∧ (∀ k, k ≠ 32 → Y' k = Y1 k) ∧ (∀ j, j < T.1 → Y' 32 j = if ((q_look d T).2 j).2.2 then 1 else 0) ∧ (∀ j, T.1 ≤ j → Y' 32 j = Y1 32 j) := by
                intro b hb
                rw [f_X8_looks_73, wbd_e, wbd_e, Lm1, b_and]
                have g := ihm (c + 1) (by omega) (by omega)
                rw [q_all, hb, ← Bool.and_assoc] at g
                exact g
              by_cases q : (T.2 i).2.1 c = q_cn d c
              · rw [if_pos q]
                exact st true (decide_eq_true q)
              · rw [if_neg q]
                exact st false (decide_eq_false q)
            · have ec : c = 24 := by omega
              subst ec
              rw [if_neg ec, show (decide ((T.2 i).1 = q_nb d) && q_all 24 (fun c => decide ((T.2 i).2.1 c = q_cn d c))) = q_same d (T.2 i) from rfl, b_ite, wget_n (by omega) (by omega), hhi i (Nat.le_refl i) e, b_ite]
              by_cases hs : q_same d (T.2 i) = true
              · rw [if_pos hs]
                exact skip (by unfold q_new; rw [hs]; simp)
              · have hs0 : q_same d (T.2 i) = false := by simpa using hs
                rw [if_neg hs]
                by_cases hu : (T.2 i).2.2 = true
                · rw [if_pos hu]
                  exact skip (by unfold q_new; rw [hu]; rfl)
                · have hu0 : (T.2 i).2.2 = false := by simpa using hu
                  have qn : q_new d (T.2 i) = true := by unfold q_new; rw [hu0, hs0]; rfl
                  have hn1 : q_num (fun i => q_new d (T.2 i)) (i + 1) = q_num (fun i => q_new d (T.2 i)) i + 1 := by rw [q_num, qn]; rfl
                  rw [if_neg hu, wput_n (by omega) (by omega), narZ_1, wbd_e, Lm1, ← hn1, f_X8_looks_107, wbd_e, Lm1]
                  refine ih (i + 1) _ (by omega) (by omega) (fun k a => by rw [updM_ne _ _ a]; exact hz k a) (fun j hj => ?_) (fun j hj hj2 => ?_) (fun j hj => by rw [updM_s, upd_n _ _ (by omega)]; exact hun j hj)
                  · rw [updM_s]
                    by_cases qe : j = i
                    · subst qe
                      rw [upd_s]
                      show _ = if ((T.2 j).2.2 || !(q_same d (T.2 j))) = true then 1 else 0
                      rw [hu0, hs0]; rfl
                    · rw [upd_n _ _ qe]; exact hlo j (by omega)
                  · rw [updM_s, upd_n _ _ (by omega)]; exact hhi j (by omega) hj2
        rw [if_pos e, wget_n (by omega) (by omega), z36, nb, ieq (by omega) (by omega)]
        have g := cmp 1000 0 (by omega) (by omega)
        by_cases q : (T.2 i).1 = q_nb d
        · rw [if_pos q, f_X8_looks_34, L0]
          rw [decide_eq_true q] at g
          exact g
        · rw [if_neg q, f_X8_looks_34, L0]
          rw [decide_eq_false q] at g
          exact g
      · have ei : i = T.1 := by omega
        subst ei
        rw [if_neg e]
        exact ⟨Z, rfl, hz, hlo, hun⟩
  unfold f_X8_looks
  rw [a1, bind_s, L0]
  obtain ⟨Y', g1, g2, g3, g4⟩ := lp 1000 0 Y1 (by omega) (by omega) (fun _ _ => rfl) (fun j hj => by omega) (fun j _ hj => by rw [a2 32 (by decide) (by decide)]; exact (hT.2.2.1 j hj).2.2) (fun _ _ => rfl)
  refine ⟨Y', g1, fun k a b c => by rw [g2 k c, a2 k a b], ?_, t8, fun j hj => ⟨?_, fun c hc => ?_, g3 j hj⟩, fun j hj => by rw [g4 j hj, a2 32 (by decide) (by decide)]; exact hT.2.2.2 j hj⟩
  · rw [g2 22 (by decide), a2 22 (by decide) (by decide)]; exact hT.1
  · rw [g2 36 (by decide), a2 36 (by decide) (by decide)]; exact (hT.2.2.1 j hj).1
  · rw [g2 35 (by decide), a2 35 (by decide) (by decide)]; exact (hT.2.2.1 j hj).2.1 c hc
