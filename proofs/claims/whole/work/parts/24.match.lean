/-! the matches: a state is (partner + 1 of each record, 0 where there is none; how many; the sum of their scores) -/
abbrev mM : Type := (Nat → Nat) × Nat × Nat
def q_good (d : mD) (c k : Nat) : Bool := q_cd d c && !(q_ce d k) && decide (q_lk d c k = 121)
def q_mset (p : Nat → Nat) (c k : Nat) : Nat → Nat := fun j => if j = k then c + 1 else if j = c then k + 1 else p j
def q_step (d : mD) (s c k : Nat) (m : mM) : mM := if (q_good d c k && decide (q_sc d c k = s) && decide (m.1 c = 0) && decide (m.1 k = 0)) = true then (q_mset m.1 c k, m.2.1 + 1, m.2.2 + s) else m
def q_prow (d : mD) (c : Nat) : Nat → List (Nat × Nat)
  | 0 => []
  | k + 1 => q_prow d c k ++ (if q_good d c k then [(c, k)] else [])
def q_pl (d : mD) : Nat → List (Nat × Nat)
  | 0 => []
  | c + 1 => q_pl d c ++ q_prow d c (q_nr d)
def q_fl (d : mD) (s : Nat) (L : List (Nat × Nat)) (m : mM) : mM := L.foldl (fun m q => q_step d s q.1 q.2 m) m
/-- scores s, s - 1, .. 0 -/
def q_down (d : mD) : Nat → mM → mM
  | 0, m => q_fl d 0 (q_pl d (q_nr d)) m
  | s + 1, m => q_down d s (q_fl d (s + 1) (q_pl d (q_nr d)) m)
def q_m0 : mM := (fun _ => 0, 0, 0)
def q_mt (d : mD) : mM := q_down d (q_pn d + q_py d + q_pp d) q_m0
theorem q_prow_mem (d : mD) (c : Nat) : ∀ (k : Nat) (q : Nat × Nat), q ∈ q_prow d c k → q.1 = c ∧ q.2 < k ∧ q_good d q.1 q.2 = true
  | 0, q, h => by cases h
  | k + 1, q, h => by
    rw [q_prow] at h
    rcases List.mem_append.mp h with h | h
    · obtain ⟨h1, h2, h3⟩ := q_prow_mem d c k q h
      exact ⟨h1, by omega, h3⟩
    · split at h
      · rename_i g
        rw [List.mem_singleton.mp h]
        exact ⟨rfl, Nat.lt_succ_self k, g⟩
      · cases h
theorem q_pl_mem (d : mD) : ∀ (c : Nat) (q : Nat × Nat), q ∈ q_pl d c → q.1 < c ∧ q.2 < q_nr d ∧ q_good d q.1 q.2 = true
  | 0, q, h => by cases h
  | c + 1, q, h => by
    rw [q_pl] at h
    rcases List.mem_append.mp h with h | h
    · obtain ⟨h1, h2, h3⟩ := q_pl_mem d c q h
      exact ⟨by omega, h2, h3⟩
    · obtain ⟨h1, h2, h3⟩ := q_prow_mem d c _ q h
      exact ⟨by omega, h2, h3⟩
theorem q_prow_len (d : mD) (c : Nat) : ∀ k, (q_prow d c k).length ≤ if q_cd d c then q_num (fun i => !(q_ce d i)) k else 0
  | 0 => by simp [q_prow]
  | k + 1 => by
    have ih := q_prow_len d c k
    rw [q_prow, List.length_append, q_num]
    cases hc : q_cd d c
    · rw [hc] at ih
      have : q_good d c k = false := by unfold q_good; rw [hc]; rfl
      rw [this]
      simp at ih ⊢
      exact ih
    · rw [hc] at ih
      simp only [if_true] at ih ⊢
      cases hk : q_ce d k
      · simp only [Bool.not_false, if_true]
        split <;> simp <;> omega
      · have : q_good d c k = false := by unfold q_good; rw [hk]; simp
        rw [this]
        simp
        exact ih
theorem q_pl_len (d : mD) : ∀ c, (q_pl d c).length ≤ q_num (q_cd d) c * q_num (fun i => !(q_ce d i)) (q_nr d)
  | 0 => by simp [q_pl, q_num]
  | c + 1 => by
    have ih := q_pl_len d c
    have h2 := q_prow_len d c (q_nr d)
    rw [q_pl, List.length_append, q_num]
    cases hc : q_cd d c
    · rw [hc] at h2
      simp at h2 ⊢
      rw [h2]
      simpa using ih
    · rw [hc] at h2
      simp only [if_true] at h2 ⊢
      rw [Nat.add_mul, Nat.one_mul]
      omega
theorem q_num_two (p q : Nat → Bool) (h : ∀ i, ¬ (p i = true ∧ q i = true)) : ∀ n, q_num p n + q_num q n ≤ n
  | 0 => by simp [q_num]
  | n + 1 => by
    have ih := q_num_two p q h n
    rw [q_num, q_num]
    have hn := h n
    cases hp : p n <;> cases hq : q n
    · simp; omega
    · simp; omega
    · simp; omega
    · exact absurd ⟨hp, hq⟩ hn
theorem sq_400 : ∀ K, K ≤ 40 → (40 - K) * K ≤ 400 := by decide +kernel
theorem q_pl_400 {d : mD} (w : q_ok d) : (q_pl d (q_nr d)).length ≤ 400 := by
  have h1 := q_pl_len d (q_nr d)
  have h2 := q_num_two (q_cd d) (fun i => !(q_ce d i)) (fun i q => by
    obtain ⟨a, b⟩ := q
    unfold q_cd at a
    cases hc : q_ce d i
    · rw [hc] at a; cases a
    · rw [hc] at b; cases b) (q_nr d)
  have w4 := w.2.2.2.1
  have h3 := sq_400 (q_num (fun i => !(q_ce d i)) (q_nr d)) (by omega)
  have h4 : q_num (q_cd d) (q_nr d) * q_num (fun i => !(q_ce d i)) (q_nr d) ≤ (40 - q_num (fun i => !(q_ce d i)) (q_nr d)) * q_num (fun i => !(q_ce d i)) (q_nr d) := Nat.mul_le_mul_right _ (by omega)
  omega
theorem q_prow_pre (d : mD) (c : Nat) {k n : Nat} (h : k ≤ n) : ∃ T, q_prow d c n = q_prow d c k ++ T := by
  induction n with
  | zero => exact ⟨[], by rw [show k = 0 by omega]; rfl⟩
  | succ n ih =>
    by_cases e : k = n + 1
    · exact ⟨[], by rw [e, List.append_nil]⟩
    · obtain ⟨T, hT⟩ := ih (by omega)
      exact ⟨T ++ (if q_good d c n then [(c, n)] else []), by rw [q_prow, hT, List.append_assoc]⟩
theorem q_pl_pre (d : mD) {c n : Nat} (h : c ≤ n) : ∃ T, q_pl d n = q_pl d c ++ T := by
  induction n with
  | zero => exact ⟨[], by rw [show c = 0 by omega]; rfl⟩
  | succ n ih =>
    by_cases e : c = n + 1
    · exact ⟨[], by rw [e, List.append_nil]⟩
    · obtain ⟨T, hT⟩ := ih (by omega)
      exact ⟨T ++ q_prow d n (q_nr d), by rw [q_pl, hT, List.append_assoc]⟩
/-- once there are 400 of them, all are there -/
theorem q_full {d : mD} (w : q_ok d) {c k : Nat} (hc : c < q_nr d) (hk : k ≤ q_nr d) (h : 400 ≤ (q_pl d c ++ q_prow d c k).length) : q_pl d (c + 1) = q_pl d c ++ q_prow d c k := by
  obtain ⟨T, hT⟩ := q_pl_pre d (show c + 1 ≤ q_nr d by omega)
  obtain ⟨U, hU⟩ := q_prow_pre d c hk
  have h4 := q_pl_400 w
  rw [hT, q_pl, hU, ← List.append_assoc, List.length_append, List.length_append] at h4
  have hz : U.length = 0 := by omega
  rw [q_pl, hU, List.length_eq_zero_iff.mp hz, List.append_nil]
/-- the class's rows hold the pairs L -/
def PLs (d : mD) (X : wM) (L : List (Nat × Nat)) : Prop := X 16 7 = nI L.length ∧ ∀ (p : Nat) (q : Nat × Nat), L[p]? = some q → X 18 p = nI q.1 ∧ X 19 p = nI q.2 ∧ X 20 p = nI (q_sc d q.1 q.2)
theorem q_lk_lt {d : mD} (w : q_ok d) (j k : Nat) : q_lk d j k < 2 ^ 31 := by
  have wl := w.2.2.2.2.2.1 j k
  unfold q_lk
  repeat' split
  all_goals omega
theorem b_ite {ρ : Type} (b : Bool) {A B : ρ} : (if (if b = true then (1 : Int32) else 0) = 0 then A else B) = if b = true then B else A := by cases b <;> rfl
/-- the gathering writes these cells alone -/
def FG (X Z : wM) : Prop := (∀ k, k ≠ 16 → k ≠ 18 → k ≠ 19 → k ≠ 20 → Z k = X k) ∧ ∀ j, j ≠ 7 → Z 16 j = X 16 j
theorem x_gather {d : mD} {X : wM} (h : RX d X) (w : q_ok d) (hb : ∀ j, j < q_nr d → X 11 j = if q_db d j then 1 else 0) : ∃ X', f_X2_gatherLinked X = some X' ∧ FG X X' ∧ PLs d X' (q_pl d (q_nr d)) := by
  have w4 := w.2.2.2.1
  have add : ∀ (Z : wM) (L : List (Nat × Nat)) (c k : Nat), L.length < 400 → FG X Z → PLs d Z L → ∀ Z', Z' = updM (updM (updM (updM Z 18 (upd (Z 18) L.length (nI c))) 19 (upd (Z 19) L.length (nI k))) 20 (upd (Z 20) L.length (nI (q_sc d c k)))) 16 (upd (Z 16) 7 (nI (L.length + 1))) → FG X Z' ∧ PLs d Z' (L ++ [(c, k)]) := by
    intro Z L c k hL hz hp Z' e
    obtain ⟨p1, p2⟩ := hp
    have e16 : Z' 16 = upd (Z 16) 7 (nI (L.length + 1)) := by rw [e]; exact updM_s _ _ _
    have e20 : Z' 20 = upd (Z 20) L.length (nI (q_sc d c k)) := by rw [e, updM_ne _ _ (by decide)]; exact updM_s _ _ _
    have e19 : Z' 19 = upd (Z 19) L.length (nI k) := by rw [e, updM_ne _ _ (by decide), updM_ne _ _ (by decide)]; exact updM_s _ _ _
    have e18 : Z' 18 = upd (Z 18) L.length (nI c) := by rw [e, updM_ne _ _ (by decide), updM_ne _ _ (by decide), updM_ne _ _ (by decide)]; exact updM_s _ _ _
    refine ⟨⟨fun j a b c e9 => by rw [e, updM_ne _ _ a, updM_ne _ _ e9, updM_ne _ _ c, updM_ne _ _ b]; exact hz.1 j a b c e9, fun j a => by rw [e16, upd_n _ _ a]; exact hz.2 j a⟩, ?_, fun p q hq => ?_⟩
    · rw [e16, upd_s, List.length_append]; rfl
    · by_cases pl : p < L.length
      · rw [List.getElem?_append_left pl] at hq
        obtain ⟨a1, a2, a3⟩ := p2 p q hq
        rw [e18, e19, e20, upd_n _ _ (by omega), upd_n _ _ (by omega), upd_n _ _ (by omega)]
        exact ⟨a1, a2, a3⟩
      · have pe : p = L.length := by
          have := (List.getElem?_eq_some_iff.mp hq).1
          simp at this
          omega
        subst pe
        rw [List.getElem?_append_right (Nat.le_refl _), Nat.sub_self] at hq
        cases hq
        rw [e18, e19, e20, upd_s, upd_s, upd_s]
        exact ⟨rfl, rfl, rfl⟩
  have inner : ∀ (c : Nat), c < q_nr d → q_cd d c = true → ∀ (k7 : wM → Int32 → Option wM) (n k : Nat) (Z : wM), k ≤ q_nr d → q_nr d - k < n → FG X Z → PLs d Z (q_pl d c ++ q_prow d c k) → ∃ Z', f_X2_gatherLinked_34 k7 n Z (nI c) (nI k) = k7 Z' (nI (c + 1)) ∧ FG X Z' ∧ PLs d Z' (q_pl d (c + 1)) := by
    intro c hc hcd k7 n
    induction n with
    | zero => intro k Z _ h; omega
    | succ n ih =>
      intro k Z hk hn hz hp
      have hR : RX d Z := h.congr (fun k a b => hz.1 k (by omega) (by omega) (by omega) (by omega))
      have hnr : Z 3 5 = nI (q_nr d) := hR.2.2.2.1
      have hlen : (q_pl d c ++ q_prow d c k).length < 2 ^ 31 := by
        obtain ⟨T, hT⟩ := q_pl_pre d (show c + 1 ≤ q_nr d by omega)
        obtain ⟨U, hU⟩ := q_prow_pre d c hk
        have h4 := q_pl_400 w
        rw [hT, q_pl, hU, ← List.append_assoc, List.length_append, List.length_append] at h4
        omega
      rw [f_X2_gatherLinked_34]
      dsimp only
      rw [f_X2_gatherLinked_34b, hnr, ilt (by omega) (by omega), hp.1, L400, ilt hlen (by omega)]
      by_cases e : k < q_nr d
      · rw [if_pos e]
        by_cases e4 : (q_pl d c ++ q_prow d c k).length < 400
        · rw [if_pos e4, wget_n (by omega) (by omega), (hR.2.2.2.2.1 k e).1, b_ite, x_kindOf hR w hc e, bind_s, L121, ieq (q_lk_lt w _ _) (by omega)]
          have go : q_good d c k = false → ∃ Z', f_X2_gatherLinked_129 k7 (f_X2_gatherLinked_34 k7 n) Z (nI c) (nI k) = k7 Z' (nI (c + 1)) ∧ FG X Z' ∧ PLs d Z' (q_pl d (c + 1)) := by
            intro g
            rw [f_X2_gatherLinked_129, wbd_e, Lm1]
            refine ih (k + 1) Z (by omega) (by omega) hz ?_
            rw [q_prow, g]
            simpa using hp
          by_cases ck : q_ce d k = true
          · rw [if_pos ck]
            exact go (by unfold q_good; rw [ck]; simp)
          · rw [if_neg ck]
            have ck0 : q_ce d k = false := by simpa using ck
            by_cases lk : q_lk d c k = 121
            · rw [if_pos lk, wput_n e4 (by omega), updM_ne _ _ (show (16 : Nat) ≠ 18 by decide), hp.1, wput_n e4 (by omega)]
              have hR2 : RX d (updM (updM Z 18 (upd (Z 18) (q_pl d c ++ q_prow d c k).length (nI c))) 19 (upd (updM Z 18 (upd (Z 18) (q_pl d c ++ q_prow d c k).length (nI c)) 19) (q_pl d c ++ q_prow d c k).length (nI k))) := hR.congr (fun j a b => by rw [updM_ne _ _ (by omega), updM_ne _ _ (by omega)])
              rw [x_scoreOf hR2 w hc e, bind_s, updM_ne _ _ (show (16 : Nat) ≠ 19 by decide), updM_ne _ _ (show (16 : Nat) ≠ 18 by decide), hp.1, wput_n e4 (by omega), wfld_e, updM_ne _ _ (show (16 : Nat) ≠ 20 by decide), updM_ne _ _ (show (16 : Nat) ≠ 19 by decide), updM_ne _ _ (show (16 : Nat) ≠ 18 by decide), hp.1, Lm1, updM_ne _ _ (show (19 : Nat) ≠ 18 by decide), updM_ne _ _ (show (20 : Nat) ≠ 19 by decide), updM_ne _ _ (show (20 : Nat) ≠ 18 by decide)]
              obtain ⟨Z2, hZ2⟩ : ∃ Z2, Z2 = updM (updM (updM (updM Z 18 (upd (Z 18) (q_pl d c ++ q_prow d c k).length (nI c))) 19 (upd (Z 19) (q_pl d c ++ q_prow d c k).length (nI k))) 20 (upd (Z 20) (q_pl d c ++ q_prow d c k).length (nI (q_sc d c k)))) 16 (upd (Z 16) 7 (nI ((q_pl d c ++ q_prow d c k).length + 1))) := ⟨_, rfl⟩
              obtain ⟨g1, g2⟩ := add Z _ c k e4 hz hp Z2 hZ2
              rw [← hZ2, f_X2_gatherLinked_129, wbd_e, Lm1]
              refine ih (k + 1) Z2 (by omega) (by omega) g1 ?_
              have gd : q_good d c k = true := by unfold q_good; rw [hcd, ck0, lk]; rfl
              rw [q_prow, gd, if_pos rfl, ← List.append_assoc]
              exact g2
            · rw [if_neg lk]
              exact go (by unfold q_good; rw [decide_eq_false lk]; simp)
        · rw [if_neg e4, f_X2_gatherLinked_135, wbd_e, Lm1]
          exact ⟨Z, rfl, hz, by rw [q_full w hc hk (by omega)]; exact hp⟩
      · rw [if_neg e, f_X2_gatherLinked_135, wbd_e, Lm1]
        have ek : k = q_nr d := by omega
        subst ek
        exact ⟨Z, rfl, hz, hp⟩
  have outer : ∀ (n c : Nat) (Z : wM), c ≤ q_nr d → q_nr d - c < n → FG X Z → PLs d Z (q_pl d c) → ∃ X', f_X2_gatherLinked_7 n Z (nI c) = some X' ∧ FG X X' ∧ PLs d X' (q_pl d (q_nr d)) := by
    intro n
    induction n with
    | zero => intro c Z _ h; omega
    | succ n ih =>
      intro c Z hc hn hz hp
      have hR : RX d Z := h.congr (fun k a b => hz.1 k (by omega) (by omega) (by omega) (by omega))
      have hnr : Z 3 5 = nI (q_nr d) := hR.2.2.2.1
      rw [f_X2_gatherLinked_7]
      dsimp only
      rw [f_X2_gatherLinked_7b, hnr, ilt (by omega) (by omega)]
      by_cases e : c < q_nr d
      · rw [if_pos e, x_isCounted10 hR w e (by rw [hz.1 11 (by decide) (by decide) (by decide) (by decide)]; exact hb c e), bind_s, b_ite]
        by_cases cd : q_cd d c = true
        · rw [if_pos cd, L0]
          obtain ⟨Z', g1, g2, g3⟩ := inner c e cd (f_X2_gatherLinked_7 n) 1000 0 Z (by omega) (by omega) hz (by rw [q_prow, List.append_nil]; exact hp)
          rw [g1]
          exact ih (c + 1) Z' (by omega) (by omega) g2 g3
        · rw [if_neg cd, f_X2_gatherLinked_135, wbd_e, Lm1]
          refine ih (c + 1) Z (by omega) (by omega) hz ?_
          have h0 := q_prow_len d c (q_nr d)
          rw [if_neg cd] at h0
          rw [q_pl, List.length_eq_zero_iff.mp (Nat.le_zero.mp h0), List.append_nil]
          exact hp
      · have ec : c = q_nr d := by omega
        subst ec
        rw [if_neg e]
        exact ⟨Z, rfl, hz, hp⟩
  unfold f_X2_gatherLinked
  rw [wfld_e, L0]
  exact outer 1000 0 _ (by omega) (by omega) ⟨fun k a b c e => updM_ne _ _ a, fun j a => by rw [updM_s, upd_n _ _ a]⟩ ⟨by rw [updM_s, upd_s]; rfl, fun p q hq => by cases hq⟩
