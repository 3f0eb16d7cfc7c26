/-! how many matches there may be -/
def q_mk (m : mM) : Prop := 2 * m.2.1 = q_num (fun j => decide (m.1 j ≠ 0)) 40 ∧ m.2.2 ≤ 27 * m.2.1
theorem q_step_mk {d : mD} {s c k : Nat} {m : mM} (hs : s ≤ 27) (hc : c < 40) (hk : k < 40) (h : q_mk m) : q_mk (q_step d s c k m) := by
  unfold q_step
  split
  · rename_i g
    obtain ⟨g, g4⟩ := (Bool.and_eq_true _ _).mp g
    obtain ⟨g, g3⟩ := (Bool.and_eq_true _ _).mp g
    obtain ⟨g, g2⟩ := (Bool.and_eq_true _ _).mp g
    have g3 := of_decide_eq_true g3
    have g4 := of_decide_eq_true g4
    have hne : c ≠ k := by
      intro z
      unfold q_good q_cd at g
      rw [z] at g
      cases hc : q_ce d k <;> rw [hc] at g <;> simp at g
    obtain ⟨h1, h2⟩ := h
    have a1 := q_num_ins (s := fun j => decide (m.1 j ≠ 0)) (j := c) (decide_eq_false (fun z => z g3)) 40
    have a2 := q_num_ins (s := q_ins (fun j => decide (m.1 j ≠ 0)) c) (j := k) (by
      show (decide (m.1 k ≠ 0) || decide (k = c)) = false
      rw [decide_eq_false (fun z => z g4), decide_eq_false (fun z => hne z.symm)]; rfl) 40
    rw [if_pos hc] at a1
    rw [if_pos hk] at a2
    have e : q_num (fun j => decide (q_mset m.1 c k j ≠ 0)) 40 = q_num (q_ins (q_ins (fun j => decide (m.1 j ≠ 0)) c) k) 40 := by
      refine q_num_cong (fun j _ => ?_)
      show decide (q_mset m.1 c k j ≠ 0) = ((decide (m.1 j ≠ 0) || decide (j = c)) || decide (j = k))
      unfold q_mset
      by_cases z1 : j = k
      · rw [if_pos z1, decide_eq_true z1, Bool.or_true, decide_eq_true (by omega)]
      · rw [if_neg z1, decide_eq_false z1, Bool.or_false]
        by_cases z2 : j = c
        · rw [if_pos z2, decide_eq_true z2, Bool.or_true, decide_eq_true (by omega)]
        · rw [if_neg z2, decide_eq_false z2, Bool.or_false]
    unfold q_mk
    rw [e]
    exact ⟨by show 2 * (m.2.1 + 1) = _; omega, by show m.2.2 + s ≤ 27 * (m.2.1 + 1); omega⟩
  · exact h
theorem q_fl_mk {d : mD} {s : Nat} (hs : s ≤ 27) : ∀ (L : List (Nat × Nat)) (m : mM), (∀ q, q ∈ L → q.1 < 40 ∧ q.2 < 40) → q_mk m → q_mk (q_fl d s L m)
  | [], _, _, h => h
  | q :: L, m, hL, h => q_fl_mk hs L (q_step d s q.1 q.2 m) (fun x hx => hL x (List.mem_cons_of_mem _ hx)) (q_step_mk hs (hL q List.mem_cons_self).1 (hL q List.mem_cons_self).2 h)
theorem q_down_mk {d : mD} (w : q_ok d) : ∀ (s : Nat) (m : mM), s ≤ 27 → q_mk m → q_mk (q_down d s m)
  | 0, m, hs, h => q_fl_mk hs _ m (fun q hq => by
      have w4 := w.2.2.2.1
      obtain ⟨a, b, _⟩ := q_pl_mem d _ q hq
      omega) h
  | s + 1, m, hs, h => q_down_mk w s _ (by omega) (q_fl_mk hs _ m (fun q hq => by
      have w4 := w.2.2.2.1
      obtain ⟨a, b, _⟩ := q_pl_mem d _ q hq
      omega) h)
theorem q_mt_mk {d : mD} (w : q_ok d) : q_mk (q_mt d) := by
  have wb := w.2.2.2.2.2.2.2.2
  exact q_down_mk w _ q_m0 (by omega) ⟨by decide +kernel, by decide⟩
theorem q_mt_20 {d : mD} (w : q_ok d) : (q_mt d).2.1 ≤ 20 ∧ (q_mt d).2.2 ≤ 540 := by
  obtain ⟨h1, h2⟩ := q_mt_mk w
  have := q_num_le (fun j => decide ((q_mt d).1 j ≠ 0)) 40
  omega
/-! sums of pairs -/
def q_sum (f : Nat → Nat) : Nat → Nat
  | 0 => 0
  | n + 1 => q_sum f n + f n
theorem q_sum_cong {f g : Nat → Nat} {n : Nat} (h : ∀ i, i < n → f i = g i) : q_sum f n = q_sum g n := by
  induction n with
  | zero => rfl
  | succ n ih => rw [q_sum, q_sum, ih (fun i hi => h i (by omega)), h n (by omega)]
theorem q_sum_add (f g : Nat → Nat) : ∀ n, q_sum (fun i => f i + g i) n = q_sum f n + q_sum g n
  | 0 => rfl
  | n + 1 => by rw [q_sum, q_sum, q_sum, q_sum_add f g n]; omega
theorem q_sum_num (p : Nat → Bool) : ∀ n, q_sum (fun i => if p i then 1 else 0) n = q_num p n
  | 0 => rfl
  | n + 1 => by rw [q_sum, q_num, q_sum_num p n]
def q_op (d : mD) (i j : Nat) : Bool := (q_ce d i || q_ce d j) && decide (q_lk d i j = 63)
theorem q_op_comm {d : mD} (w : q_ok d) (i j : Nat) : q_op d i j = q_op d j i := by
  unfold q_op
  rw [q_lk_comm w i j, Bool.or_comm]
theorem q_pairs {P : Nat → Nat → Bool} (h : ∀ i j, P i j = P j i) : ∀ n, q_sum (fun i => q_num (fun j => decide (i < j) && P i j) n) n = q_sum (fun i => q_num (P i) i) n
  | 0 => rfl
  | n + 1 => by
    rw [q_sum, q_sum, ← q_pairs h n]
    have e1 : q_num (fun j => decide (n < j) && P n j) (n + 1) = 0 := by
      have : ∀ m, m ≤ n + 1 → q_num (fun j => decide (n < j) && P n j) m = 0 := by
        intro m
        induction m with
        | zero => intro _; rfl
        | succ m ih =>
          intro hm
          rw [q_num, ih (by omega), decide_eq_false (show ¬ n < m by omega)]; rfl
      exact this _ (Nat.le_refl _)
    have e2 : q_sum (fun i => q_num (fun j => decide (i < j) && P i j) (n + 1)) n = q_sum (fun i => q_num (fun j => decide (i < j) && P i j) n + if P n i then 1 else 0) n := by
      refine q_sum_cong (fun i hi => ?_)
      rw [q_num, decide_eq_true hi, Bool.true_and, h i n]
    rw [e1, e2, q_sum_add, q_sum_num, Nat.add_zero]
theorem x_openPairs {d : mD} {X : wM} (h : RX d X) (w : q_ok d) : f_X7_openPairs X = some (nI (q_sum (fun i => q_num (fun j => decide (i < j) && q_op d i j) (q_nr d)) (q_nr d))) := by
  have w4 := w.2.2.2.1
  have hnr := h.2.2.2.1
  have inner : ∀ (i : Nat), i < q_nr d → ∀ (k4 : Int32 → Int32 → Option Int32) (n j a : Nat), i < j → j ≤ q_nr d → q_nr d - j < n → f_X7_openPairs_19 k4 X n (nI (a + q_num (fun j => decide (i < j) && q_op d i j) j)) (nI i) (nI j) = k4 (nI (a + q_num (fun j => decide (i < j) && q_op d i j) (q_nr d))) (nI (i + 1)) := by
    intro i hi k4 n
    induction n with
    | zero => intro j a _ _ h; omega
    | succ n ih =>
      intro j a hij hj hn
      rw [f_X7_openPairs_19]
      dsimp only
      rw [f_X7_openPairs_19b, hnr, ilt (by omega) (by omega)]
      by_cases e : j < q_nr d
      · have stay : q_op d i j = false → f_X7_openPairs_83 k4 (f_X7_openPairs_19 k4 X n) X (nI (a + q_num (fun j => decide (i < j) && q_op d i j) j)) (nI i) (nI j) = k4 (nI (a + q_num (fun j => decide (i < j) && q_op d i j) (q_nr d))) (nI (i + 1)) := by
          intro q
          have hh := ih (j + 1) a (by omega) (by omega) (by omega)
          rw [q_num, q, Bool.and_false] at hh
          rw [f_X7_openPairs_83, wbd_e, Lm1]
          exact hh
        have go : q_ce d i = true ∨ q_ce d j = true → f_X7_openPairs_59 k4 (f_X7_openPairs_19 k4 X n) X (nI (a + q_num (fun j => decide (i < j) && q_op d i j) j)) (nI i) (nI j) 1 = k4 (nI (a + q_num (fun j => decide (i < j) && q_op d i j) (q_nr d))) (nI (i + 1)) := by
          intro q
          have hq : (q_ce d i || q_ce d j) = true := Bool.or_eq_true_iff.mpr q
          rw [f_X7_openPairs_59, if_neg (by decide), x_kindOf h w hi e, bind_s, L63, ieq (q_lk_lt w _ _) (by omega)]
          by_cases z : q_lk d i j = 63
          · have hh := ih (j + 1) a (by omega) (by omega) (by omega)
            have ho : q_op d i j = true := by unfold q_op; rw [hq, decide_eq_true z]; rfl
            rw [q_num, ho, decide_eq_true hij, Bool.and_true, if_pos rfl, ← Nat.add_assoc] at hh
            rw [if_pos z, wbd_e, Lm1, f_X7_openPairs_83, wbd_e, Lm1]
            exact hh
          · rw [if_neg z]
            exact stay (by unfold q_op; rw [decide_eq_false z, Bool.and_false])
        rw [if_pos e, wget_n (by omega) (by omega), wget_n (by omega) (by omega), (h.2.2.2.2.1 i hi).1, (h.2.2.2.2.1 j e).1, b_ite, b_ite, f_X7_openPairs_54]
        cases ci : q_ce d i
        · rw [if_neg (by decide)]
          cases cj : q_ce d j
          · rw [if_neg (by decide), f_X7_openPairs_59, if_pos rfl]
            exact stay (by unfold q_op; rw [ci, cj]; rfl)
          · rw [if_pos rfl]
            exact go (Or.inr cj)
        · rw [if_pos rfl]
          exact go (Or.inl ci)
      · have ej : j = q_nr d := by omega
        subst ej
        rw [if_neg e, wbd_e, Lm1]
  have outer : ∀ (n i : Nat), i ≤ q_nr d → q_nr d - i < n → f_X7_openPairs_4 X n (nI (q_sum (fun i => q_num (fun j => decide (i < j) && q_op d i j) (q_nr d)) i)) (nI i) = some (nI (q_sum (fun i => q_num (fun j => decide (i < j) && q_op d i j) (q_nr d)) (q_nr d))) := by
    intro n
    induction n with
    | zero => intro i _ h; omega
    | succ n ih =>
      intro i hi hn
      rw [f_X7_openPairs_4]
      dsimp only
      rw [f_X7_openPairs_4b, hnr, ilt (by omega) (by omega)]
      by_cases e : i < q_nr d
      · have z : ∀ m, m ≤ i + 1 → q_num (fun j => decide (i < j) && q_op d i j) m = 0 := by
          intro m
          induction m with
          | zero => intro _; rfl
          | succ m ihm =>
            intro hm
            rw [q_num, ihm (by omega), decide_eq_false (show ¬ i < m by omega)]; rfl
        have g := inner i e (f_X7_openPairs_4 X n) 1000 (i + 1) (q_sum (fun i => q_num (fun j => decide (i < j) && q_op d i j) (q_nr d)) i) (by omega) (by omega) (by omega)
        rw [z (i + 1) (Nat.le_refl _), Nat.add_zero] at g
        rw [if_pos e, wbd_e, Lm1, g]
        exact ih (i + 1) (by omega) (by omega)
      · have ei : i = q_nr d := by omega
        subst ei
        rw [if_neg e]
  unfold f_X7_openPairs
  exact outer 1000 0 (by omega) (by omega)
theorem y_openPairs {d : mD} {Y : wM} (h : RY d Y) (w : q_ok d) : f_X8_openPairs Y = some (nI (q_sum (fun i => q_num (q_op d i) i) (q_nr d)), thr Y 0) := by
  have w4 := w.2.2.2.1
  have hnr := h.2.2.2.1
  have inner : ∀ (i : Nat), i < q_nr d → ∀ (k4 : wM → Int32 → Int32 → Option (Int32 × wM)) (n j a : Nat), j ≤ i → i - j < n → f_X8_openPairs_14 k4 n Y (nI (a + q_num (q_op d i) j)) (nI i) (nI j) = k4 Y (nI (a + q_num (q_op d i) i)) (nI (i + 1)) := by
    intro i hi k4 n
    induction n with
    | zero => intro j a _ h; omega
    | succ n ih =>
      intro j a hj hn
      rw [f_X8_openPairs_14]
      dsimp only
      rw [f_X8_openPairs_14b, ilt (by omega) (by omega)]
      by_cases e : j < i
      · have stay : q_op d i j = false → f_X8_openPairs_57 k4 (f_X8_openPairs_14 k4 n) Y (nI i) (nI j) (nI (a + q_num (q_op d i) j)) = k4 Y (nI (a + q_num (q_op d i) i)) (nI (i + 1)) := by
          intro q
          have hh := ih (j + 1) a (by omega) (by omega)
          rw [q_num, q] at hh
          rw [f_X8_openPairs_57, f_X8_openPairs_58, wbd_e, wbd_e, Lm1, L0, nI_add]
          exact hh
        have go : q_ce d i = true ∨ q_ce d j = true → f_X8_openPairs_42 k4 (f_X8_openPairs_14 k4 n) Y (nI i) (nI j) (nI (a + q_num (q_op d i) j)) = k4 Y (nI (a + q_num (q_op d i) i)) (nI (i + 1)) := by
          intro q
          have hq : (q_ce d i || q_ce d j) = true := Bool.or_eq_true_iff.mpr q
          rw [f_X8_openPairs_42, y_linkOf h w hi (by omega), bind_s, L63, ieq (q_lk_lt w _ _) (by omega)]
          by_cases z : q_lk d i j = 63
          · have hh := ih (j + 1) a (by omega) (by omega)
            have ho : q_op d i j = true := by unfold q_op; rw [hq, decide_eq_true z]; rfl
            rw [q_num, ho, if_pos rfl, ← Nat.add_assoc] at hh
            rw [if_pos z, f_X8_openPairs_58, wbd_e, wbd_e, Lm1, Lm1]
            exact hh
          · rw [if_neg z]
            exact stay (by unfold q_op; rw [decide_eq_false z, Bool.and_false])
        rw [if_pos e, wget_n (by omega) (by omega), y_kind h hi, wget_n (by omega) (by omega), y_kind h (by omega)]
        cases ci : q_ce d i
        · rw [if_neg (by decide)]
          cases cj : q_ce d j
          · rw [if_neg (by decide)]
            exact stay (by unfold q_op; rw [ci, cj]; rfl)
          · rw [if_pos rfl]
            exact go (Or.inr cj)
        · rw [if_pos rfl]
          exact go (Or.inl ci)
      · have ej : j = i := by omega
        subst ej
        rw [if_neg e, wbd_e, Lm1]
  have outer : ∀ (n i : Nat), i ≤ q_nr d → q_nr d - i < n → f_X8_openPairs_4 n Y (nI (q_sum (fun i => q_num (q_op d i) i) i)) (nI i) = some (nI (q_sum (fun i => q_num (q_op d i) i) (q_nr d)), thr Y 0) := by
    intro n
    induction n with
    | zero => intro i _ h; omega
    | succ n ih =>
      intro i hi hn
      rw [f_X8_openPairs_4]
      dsimp only
      rw [f_X8_openPairs_4b, hnr, ilt (by omega) (by omega)]
      by_cases e : i < q_nr d
      · rw [if_pos e, L0]
        have g := inner i e (f_X8_openPairs_4 n) 1000 0 (q_sum (fun i => q_num (q_op d i) i) i) (by omega) (by omega)
        rw [q_num, Nat.add_zero] at g
        rw [g]
        exact ih (i + 1) (by omega) (by omega)
      · have ei : i = q_nr d := by omega
        subst ei
        rw [if_neg e]
        rfl
  unfold f_X8_openPairs
  exact outer 1000 0 (by omega) (by omega)
theorem op_openPairs {d : mD} {T : mT} {X Y : wM} (h : INV d T X Y) : ∃ v Y', f_X7_openPairs X = some v ∧ f_X8_openPairs Y = some (v, Y') ∧ INV d T X Y' := by
  refine ⟨_, thr Y 0, x_openPairs h.x h.w, ?_, h.thr 0⟩
  rw [y_openPairs h.y h.w, q_pairs (q_op_comm h.w)]
