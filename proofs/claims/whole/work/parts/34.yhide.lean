/-! the reference's hiding -/
def HR (Y : wM) (t : Nat) (s : Nat → Bool) : Prop := ∀ c, c < 24 → Y 33 (24 * t + c) = if s c then 1 else 0
def EY (Y : wM) (E : Nat → Bool) : Prop := ∀ e, e < 10 → Y 34 e = if E e then 1 else 0
theorem EY.put {Y : wM} {E : Nat → Bool} (h : EY Y E) {i : Nat} (b : Bool) : EY (updM Y 34 (upd (Y 34) i (if b then 1 else 0))) (fun e => if e = i then b else E e) := by
  intro e he
  rw [updM_s]
  show _ = if (if e = i then b else E e) = true then 1 else 0
  by_cases q : e = i
  · subst q
    rw [upd_s, if_pos rfl]
  · rw [upd_n _ _ q, if_neg q]
    exact h e he
theorem y_isFound {Y : wM} {t : Nat} (ht : t < 8) {s : Nat → Bool} (hs : HR Y t s) {c : Nat} (hc : c < 24) : ∃ Y', f_X8_isFound Y (nI t) (nI c) = some (if q_fd s c then 1 else 0, Y') ∧ ∀ k, k ≠ 34 → Y' k = Y k := by
  have pass : ∀ (k34 : wM → Int32 → Int32 → Int32 → Option (Int32 × wM)) (r : Nat) (E : Nat → Bool) (n j : Nat) (Z : wM), j ≤ 24 → 24 - j < n → (∀ k, k ≠ 34 → Z k = Y k) → EY Z (q_pass (q_rm s c) j E) → ∃ Z', f_X8_isFound_43 k34 n Z (nI t) (nI c) (nI r) (nI j) = k34 Z' (nI t) (nI c) (nI (r + 1)) ∧ (∀ k, k ≠ 34 → Z' k = Y k) ∧ EY Z' (q_pass (q_rm s c) 24 E) := by
    intro k34 r E n
    induction n with
    | zero => intro j Z _ h; omega
    | succ n ih =>
      intro j Z hj hn hz hE
      rw [f_X8_isFound_43]
      dsimp only
      rw [f_X8_isFound_43b, L24, ilt (by omega) (by omega), ieq (by omega) (by omega)]
      by_cases e : j < 24
      · have go : ∀ Z' : wM, (∀ k, k ≠ 34 → Z' k = Y k) → EY Z' (q_pass (q_rm s c) (j + 1) E) → ∃ Z'', f_X8_isFound_133 k34 (f_X8_isFound_43 k34 n) Z' (nI t) (nI c) (nI r) (nI j) = k34 Z'' (nI t) (nI c) (nI (r + 1)) ∧ (∀ k, k ≠ 34 → Z'' k = Y k) ∧ EY Z'' (q_pass (q_rm s c) 24 E) := by
          intro Z' a b
          rw [f_X8_isFound_133, wbd_e, Lm1]
          exact ih (j + 1) Z' (by omega) (by omega) a b
        have skip : q_rm s c j = false → EY Z (q_pass (q_rm s c) (j + 1) E) := by
          intro h
          rw [q_pass, h, if_neg (by decide)]
          exact hE
        rw [if_pos e]
        by_cases q : j = c
        · rw [if_pos q]
          exact go Z hz (skip (by unfold q_rm; rw [decide_eq_true q]; simp))
        · rw [if_neg q, pk_mul, nI_add, wget_n (by omega) (by omega), hz 33 (by decide), hs j e, b_ite]
          cases sj : s j
          · rw [if_neg (by decide)]
            exact go Z hz (skip (by unfold q_rm; rw [sj]; rfl))
          · have rmj : q_rm s c j = true := by unfold q_rm; rw [sj, decide_eq_false q]; rfl
            have put : ∀ b : Bool, (q_pass (q_rm s c) j E (j / 4) || q_pass (q_rm s c) j E (6 + j % 4)) = b → ∃ Z'', f_X8_isFound_106 k34 (f_X8_isFound_43 k34 n) Z (nI t) (nI c) (nI r) (nI j) (if b then 1 else 0) = k34 Z'' (nI t) (nI c) (nI (r + 1)) ∧ (∀ k, k ≠ 34 → Z'' k = Y k) ∧ EY Z'' (q_pass (q_rm s c) 24 E) := by
              intro b hb
              unfold f_X8_isFound_106
              rw [L4, nI_d (by omega) (by omega) (by omega), pk_mul, pk_sub (by omega), L6, nI_add, show 6 + (j - j / 4 * 4) = 6 + j % 4 by omega, wput_n (by omega) (by omega), wput_n (by omega) (by omega), narZ_b]
              refine go _ (fun k a => by rw [updM_ne _ _ a, updM_ne _ _ a]; exact hz k a) ?_
              have := (hE.put (i := j / 4) b).put (i := 6 + j % 4) b
              intro e0 h0
              refine (this e0 h0).trans (congrArg (fun q : Bool => if q = true then (1 : Int32) else 0) ?_)
              rw [q_pass, rmj, if_pos rfl, hb]
              show (if e0 = 6 + j % 4 then b else if e0 = j / 4 then b else q_pass (q_rm s c) j E e0) = if e0 = j / 4 ∨ e0 = 6 + j % 4 then b else q_pass (q_rm s c) j E e0
              by_cases z1 : e0 = 6 + j % 4
              · rw [if_pos z1, if_pos (Or.inr z1)]
              · rw [if_neg z1]
                by_cases z2 : e0 = j / 4
                · rw [if_pos z2, if_pos (Or.inl z2)]
                · rw [if_neg z2, if_neg (fun w => w.elim z2 z1)]
            rw [if_pos rfl, L4, nI_d (by omega) (by omega) (by omega), pk_mul, pk_sub (by omega), L6, nI_add, show 6 + (j - j / 4 * 4) = 6 + j % 4 by omega, wget_n (by omega) (by omega), wget_n (by omega) (by omega), hE _ (by omega), hE _ (by omega), b_ite, b_ite]
            unfold f_X8_isFound_101
            cases b1 : q_pass (q_rm s c) j E (j / 4)
            · rw [if_neg (by decide)]
              cases b2 : q_pass (q_rm s c) j E (6 + j % 4)
              · rw [if_neg (by decide)]
                exact put false (by rw [b1, b2]; rfl)
              · rw [if_pos rfl]
                exact put true (by rw [b1, b2]; rfl)
            · rw [if_pos rfl]
              exact put true (by rw [b1]; rfl)
      · have ej : j = 24 := by omega
        subst ej
        rw [if_neg e, wbd_e, Lm1]
        exact ⟨Z, rfl, hz, hE⟩
  have rounds : ∀ (m n : Nat) (E : Nat → Bool) (Z : wM), m ≤ 10 → m < n → (∀ k, k ≠ 34 → Z k = Y k) → EY Z E → ∃ Y', f_X8_isFound_34 n Z (nI t) (nI c) (nI (10 - m)) = some (if q_it (q_rm s c) m E (6 + c % 4) then 0 else 1, Y') ∧ ∀ k, k ≠ 34 → Y' k = Y k := by
    intro m
    induction m with
    | zero =>
      intro n E Z _ hn hz hE
      obtain ⟨n, rfl⟩ : ∃ q, n = q + 1 := ⟨n - 1, by omega⟩
      rw [f_X8_isFound_34]
      dsimp only
      rw [f_X8_isFound_34b, L10, ilt (by omega) (by omega), if_neg (by omega), L4, nI_d (by omega) (by omega) (by omega), pk_mul, pk_sub (by omega), L6, nI_add, show 6 + (c - c / 4 * 4) = 6 + c % 4 by omega, wget_n (by omega) (by omega), hE _ (by omega), b_ite]
      unfold f_X8_isFound_164
      rw [wgd_t okZ_0, wgd_t okZ_1, q_it]
      refine ⟨Z, ?_, hz⟩
      cases E (6 + c % 4) <;> rfl
    | succ m ih =>
      intro n E Z hm hn hz hE
      obtain ⟨n, rfl⟩ : ∃ q, n = q + 1 := ⟨n - 1, by omega⟩
      rw [f_X8_isFound_34]
      dsimp only
      rw [f_X8_isFound_34b, L10, ilt (by omega) (by omega), if_pos (by omega), L0]
      obtain ⟨Z', g1, g2, g3⟩ := pass (f_X8_isFound_34 n) (10 - (m + 1)) E 1000 0 Z (by omega) (by omega) hz hE
      rw [g1, show 10 - (m + 1) + 1 = 10 - m by omega, q_it]
      exact ih n _ Z' (by omega) (by omega) g2 g3
  have init : ∀ (n j : Nat) (Z : wM), j ≤ 10 → 10 - j < n → (∀ k, k ≠ 34 → Z k = Y k) → (∀ e, e < j → Z 34 e = if decide (e = c / 4) then 1 else 0) → ∃ Y', f_X8_isFound_2 n Z (nI t) (nI c) (nI j) = some (if q_fd s c then 1 else 0, Y') ∧ ∀ k, k ≠ 34 → Y' k = Y k := by
    intro n
    induction n with
    | zero => intro j Z _ h; omega
    | succ n ih =>
      intro j Z hj hn hz hE
      rw [f_X8_isFound_2]
      dsimp only
      rw [f_X8_isFound_2b, L10, ilt (by omega) (by omega), L4, nI_d (by omega) (by omega) (by omega), ieq (by omega) (by omega)]
      by_cases e : j < 10
      · have go : ∀ b : Bool, decide (j = c / 4) = b → ∃ Y', f_X8_isFound_25 (f_X8_isFound_2 n) Z (nI t) (nI c) (nI j) (if b then 1 else 0) (nI j) = some (if q_fd s c then 1 else 0, Y') ∧ ∀ k, k ≠ 34 → Y' k = Y k := by
          intro b hb
          unfold f_X8_isFound_25
          rw [wput_n (by omega) (by omega), narZ_b, wbd_e, Lm1]
          refine ih (j + 1) _ (by omega) (by omega) (fun k a => by rw [updM_ne _ _ a]; exact hz k a) (fun e0 h0 => ?_)
          rw [updM_s]
          by_cases z : e0 = j
          · subst z
            rw [upd_s, hb]
          · rw [upd_n _ _ z]
            exact hE e0 (by omega)
        rw [if_pos e]
        by_cases q : j = c / 4
        · rw [if_pos q]
          exact go true (decide_eq_true q)
        · rw [if_neg q]
          exact go false (decide_eq_false q)
      · have ej : j = 10 := by omega
        subst ej
        rw [if_neg e, L0]
        obtain ⟨Y', g1, g2⟩ := rounds 10 1000 (fun e => decide (e = c / 4)) Z (by omega) (by omega) hz hE
        refine ⟨Y', ?_, g2⟩
        rw [show (10 - 10 : Nat) = 0 from rfl] at g1
        rw [g1]
        unfold q_fd q_ti
        cases q_it (q_rm s c) 10 (fun e => decide (e = c / 4)) (6 + c % 4) <;> rfl
  unfold f_X8_isFound
  rw [L0]
  exact init 1000 0 Y (by omega) (by omega) (fun _ _ => rfl) (fun e he => by omega)
theorem HR.cong {Y Z : wM} {t : Nat} {s : Nat → Bool} (h : HR Y t s) (e : Z 33 = Y 33) : HR Z t s := fun c hc => by rw [e]; exact h c hc
theorem y_firstFound {Y : wM} {t : Nat} (ht : t < 8) {s : Nat → Bool} (hs : HR Y t s) : ∃ Y', f_X8_firstFound Y (nI t) = some (pe (q_first s), Y') ∧ ∀ k, k ≠ 34 → Y' k = Y k := by
  have lp : ∀ (m n c : Nat) (Z : wM), c ≤ 24 → 24 - c < n → 24 - c < m → (∀ k, k ≠ 34 → Z k = Y k) → ∃ Y', f_X8_firstFound_2 n Z (nI t) (nI c) = some (pe (q_ff s m c), Y') ∧ ∀ k, k ≠ 34 → Y' k = Y k := by
    intro m
    induction m with
    | zero => intro n c Z _ _ h; omega
    | succ m ih =>
      intro n c Z hc hn hm hz
      obtain ⟨n, rfl⟩ : ∃ q, n = q + 1 := ⟨n - 1, by omega⟩
      rw [f_X8_firstFound_2, q_ff]
      dsimp only
      rw [f_X8_firstFound_2b, L24, ilt (by omega) (by omega)]
      by_cases e : c < 24
      · have hR := hs.cong (hz 33 (by decide))
        have go : ∀ Z' : wM, (∀ k, k ≠ 34 → Z' k = Y k) → ∃ Y', f_X8_firstFound_33 (f_X8_firstFound_2 n) Z' (nI t) (nI c) = some (pe (q_ff s m (c + 1)), Y') ∧ ∀ k, k ≠ 34 → Y' k = Y k := by
          intro Z' a
          rw [f_X8_firstFound_33, wbd_e, Lm1]
          exact ih n (c + 1) Z' (by omega) (by omega) (by omega) a
        rw [if_pos e, if_pos e, pk_mul, nI_add, wget_n (by omega) (by omega), hR c e, b_ite]
        cases sc : s c
        · rw [if_neg (by decide)]
          exact go Z hz
        · obtain ⟨Z', g1, g2⟩ := y_isFound ht hR e
          have g3 : ∀ k, k ≠ 34 → Z' k = Y k := fun k a => by rw [g2 k a]; exact hz k a
          rw [if_pos rfl, g1, bind_s, b_ite, Bool.true_and]
          cases q_fd s c
          · rw [if_neg (by decide), if_neg (by decide)]
            exact go Z' g3
          · refine ⟨Z', ?_, g3⟩
            show some (nI c, Z') = some (pe (c + 1), Z')
            rw [pe_s]
      · rw [if_neg e, if_neg e]
        exact ⟨Z, rfl, hz⟩
  unfold f_X8_firstFound
  rw [L0]
  exact lp 25 1000 0 Y (by omega) (by omega) (by omega) (fun _ _ => rfl)
