/-! which cells are hidden: the least cell, the next, the choice -/
def q_best (cn : Nat → Nat) (p : Nat → Bool) : Nat → Nat → Nat → Nat
  | 0, _, b => b
  | n + 1, c, b => if c < 24 then q_best cn p n (c + 1) (if p c && (decide (b = 0) || decide (cn c < cn (b - 1))) then c + 1 else b) else b
def q_least (cn : Nat → Nat) (p : Nat → Bool) : Nat := q_best cn p 25 0 0
theorem q_best_cong {cn : Nat → Nat} {p q : Nat → Bool} (h : ∀ c, c < 24 → p c = q c) : ∀ n c b, q_best cn p n c b = q_best cn q n c b
  | 0, _, _ => rfl
  | n + 1, c, b => by
    rw [q_best, q_best]
    by_cases e : c < 24
    · rw [if_pos e, if_pos e, h c e, q_best_cong h n]
    · rw [if_neg e, if_neg e]
theorem q_least_cong {cn : Nat → Nat} {p q : Nat → Bool} (h : ∀ c, c < 24 → p c = q c) : q_least cn p = q_least cn q := q_best_cong h _ _ _
theorem q_best_in {cn : Nat → Nat} {p : Nat → Bool} : ∀ n c b, (b = 0 ∨ ∃ j, b = j + 1 ∧ j < 24 ∧ p j = true) → (q_best cn p n c b = 0 ∨ ∃ j, q_best cn p n c b = j + 1 ∧ j < 24 ∧ p j = true)
  | 0, _, _, h => h
  | n + 1, c, b, h => by
    rw [q_best]
    split
    · rename_i e
      refine q_best_in n _ _ ?_
      split
      · rename_i g
        exact Or.inr ⟨c, rfl, e, ((Bool.and_eq_true _ _).mp g).1⟩
      · exact h
    · exact h
theorem q_least_in (cn : Nat → Nat) (p : Nat → Bool) : q_least cn p = 0 ∨ ∃ j, q_least cn p = j + 1 ∧ j < 24 ∧ p j = true := q_best_in _ _ _ (Or.inl rfl)
theorem q_best_0 {cn : Nat → Nat} {p : Nat → Bool} : ∀ n c b, 24 - c < n → q_best cn p n c b = 0 → b = 0 ∧ ∀ j, c ≤ j → j < 24 → p j = false
  | 0, _, _, h, _ => by omega
  | n + 1, c, b, h, g => by
    rw [q_best] at g
    by_cases e : c < 24
    · rw [if_pos e] at g
      obtain ⟨g1, g2⟩ := q_best_0 n _ _ (by omega) g
      split at g1
      · cases g1
      · rename_i z
        refine ⟨g1, fun j h1 h2 => ?_⟩
        by_cases q : j = c
        · subst q
          rw [decide_eq_true g1, Bool.true_or, Bool.and_true] at z
          simpa using z
        · exact g2 j (by omega) h2
    · rw [if_neg e] at g
      exact ⟨g, fun j h1 h2 => by omega⟩
theorem q_least_0 (cn : Nat → Nat) (p : Nat → Bool) : q_least cn p = 0 ↔ q_any 24 p = false := by
  constructor
  · intro h
    exact q_any_no (fun j hj => (q_best_0 25 0 0 (by omega) h).2 j (Nat.zero_le j) hj)
  · intro h
    rcases q_least_in cn p with g | ⟨j, g1, g2, g3⟩
    · exact g
    · rw [q_any_of g2 g3] at h; cases h
theorem pe_b {b : Nat} (h0 : b ≠ 0) : pe b = nI (b - 1) := by
  unfold pe
  rw [if_neg h0]
theorem x_leastOf {cn : Nat → Nat} {p0 : Nat → Int32} (hp : ∀ c, c < 24 → p0 c = nI (cn c)) (hc : ∀ c, c < 24 → cn c ≤ 40) {x : Int32} {p : Nat → Bool} (hx : MK 24 x p) : f_X0_leastOf p0 x = some (pe (q_least cn p)) := by
  have lp : ∀ (m n c b : Nat), c ≤ 24 → 24 - c < n → 24 - c < m → b ≤ 24 → f_X0_leastOf_4 p0 n x (pe b) (nI c) = some (pe (q_best cn p m c b)) := by
    intro m
    induction m with
    | zero => intro n c b _ _ h; omega
    | succ m ih =>
      intro n c b hc2 hn hm hb
      obtain ⟨n, rfl⟩ : ∃ q, n = q + 1 := ⟨n - 1, by omega⟩
      rw [f_X0_leastOf_4, q_best]
      dsimp only
      rw [f_X0_leastOf_4b, L24, ilt (by omega) (by omega)]
      by_cases e : c < 24
      · have go : f_X0_leastOf_34 (f_X0_leastOf_4 p0 n) p0 x (pe b) (nI c) = some (pe (q_best cn p m (c + 1) b)) := by
          rw [f_X0_leastOf_34, wbd_e, Lm1]
          exact ih n (c + 1) b (by omega) (by omega) (by omega) hb
        have take : f_X0_leastOf_32 (f_X0_leastOf_4 p0 n) p0 x (nI c) = some (pe (q_best cn p m (c + 1) (c + 1))) := by
          rw [f_X0_leastOf_32, f_X0_leastOf_34, wbd_e, Lm1, ← pe_s]
          exact ih n (c + 1) (c + 1) (by omega) (by omega) (by omega) (by omega)
        rw [if_pos e, if_pos e, x_has hx e, bind_s, b_ite]
        cases pc : p c
        · rw [if_neg (by decide), go]; rfl
        · rw [if_pos rfl, ite_n (pe_m1 b (by omega)), Bool.true_and]
          by_cases b0 : b = 0
          · rw [if_pos b0, take, decide_eq_true b0]; rfl
          · have h1 := hc c e
            have h2 := hc (b - 1) (by omega)
            rw [if_neg b0, wget_n e (by omega), hp c e, pe_b b0, wget_n (by omega) (by omega), hp _ (by omega), ilt (by omega) (by omega), decide_eq_false b0, Bool.false_or]
            by_cases lt : cn c < cn (b - 1)
            · rw [if_pos lt, take, decide_eq_true lt]; rfl
            · rw [if_neg lt, ← pe_b b0, go, decide_eq_false lt]; rfl
      · rw [if_neg e, if_neg e]
  unfold f_X0_leastOf
  rw [L0]
  exact lp 25 1000 0 0 (by omega) (by omega) (by omega) (by omega)
def q_shn (cn : Nat → Nat) (s : Nat → Bool) (x : Nat) : Bool := decide (0 < cn x) && !(s x)
def q_hlp (cn : Nat → Nat) (s : Nat → Bool) (f x : Nat) : Bool := q_shn cn s x && !(q_fd (q_ins s x) f)
def q_next (cn : Nat → Nat) (s : Nat → Bool) (f : Nat) : Nat := if q_any 24 (q_hlp cn s f) then q_least cn (q_hlp cn s f) else q_least cn (q_shn cn s)
theorem x_endsOf {c : Nat} (hc : c < 24) : ∃ y, f_X0_endsOf (nI c) = some y ∧ MK 10 y (fun e => decide (e = c / 4) || decide (e = 6 + c % 4)) := by
  obtain ⟨y, h1, h2⟩ := x_blockEnd hc
  obtain ⟨g, h3, h4⟩ := x_groupEnd hc
  unfold f_X0_endsOf
  rw [h1, bind_s, h3, bind_s]
  exact ⟨_, rfl, h2.or h4⟩
theorem ends_any {N : Nat → Bool} {c : Nat} (hc : c < 24) : (¬ ∃ i, i < 10 ∧ (decide (i = c / 4) || decide (i = 6 + c % 4)) = true ∧ N i = true) ↔ ¬ (N (c / 4) = true ∨ N (6 + c % 4) = true) := by
  refine not_congr ⟨?_, ?_⟩
  · rintro ⟨i, _, a, b⟩
    rcases Bool.or_eq_true_iff.mp a with a | a
    · exact Or.inl (by rw [← of_decide_eq_true a]; exact b)
    · exact Or.inr (by rw [← of_decide_eq_true a]; exact b)
  · rintro (a | a)
    · exact ⟨c / 4, by omega, by rw [decide_eq_true rfl]; rfl, a⟩
    · exact ⟨6 + c % 4, by omega, by rw [decide_eq_true (show 6 + c % 4 = 6 + c % 4 from rfl), Bool.or_true], a⟩
theorem i0lt {ρ : Type} {a : Nat} {A B : ρ} (ha : a < 2 ^ 31) : (if 0 < nI a then A else B) = if 0 < a then A else B := ilt (a := 0) (by omega) ha
theorem x_nextToHide {cn : Nat → Nat} {p0 : Nat → Int32} (hp : ∀ c, c < 24 → p0 c = nI (cn c)) (hc : ∀ c, c < 24 → cn c ≤ 40) {x : Int32} {s : Nat → Bool} (hx : MK 24 x s) {f : Nat} (hf : f < 24) (hs : s f = true) (hfd : q_fd s f = true) : f_X0_nextToHide p0 x (nI f) = some (pe (q_next cn s f)) := by
  obtain ⟨y, h1, h2⟩ := x_blockEnd hf
  obtain ⟨g, h3, h4⟩ := x_groupEnd hf
  obtain ⟨z, h5, h6⟩ := x_tied1 (by omega) (x_rm hx hf) h2
  obtain ⟨z2, h7, h8⟩ := x_tied1 (by omega) (x_rm hx hf) h4
  have lp : ∀ (n c : Nat) (u v : Int32), c ≤ 24 → 24 - c < n → MK 24 u (fun j => decide (j < c) && q_shn cn s j) → MK 24 v (fun j => decide (j < c) && q_hlp cn s f j) → f_X0_nextToHide_37 p0 n x z z2 u v (nI c) = some (pe (q_next cn s f)) := by
    intro n
    induction n with
    | zero => intro c u v _ h; omega
    | succ n ih =>
      intro c u v hc2 hn hu hv
      rw [f_X0_nextToHide_37]
      dsimp only
      rw [f_X0_nextToHide_37b, L24, ilt (by omega) (by omega)]
      by_cases e : c < 24
      · have hcc := hc c e
        have go : ∀ (u' v' : Int32), MK 24 u' (fun j => decide (j < c + 1) && q_shn cn s j) → MK 24 v' (fun j => decide (j < c + 1) && q_hlp cn s f j) → f_X0_nextToHide_100 (f_X0_nextToHide_37 p0 n) p0 x z z2 u' v' (nI c) = some (pe (q_next cn s f)) := by
          intro u' v' a b
          rw [f_X0_nextToHide_100, wbd_e, Lm1]
          exact ih (c + 1) u' v' (by omega) (by omega) a b
        have stay : ∀ {w : Int32} {P : Nat → Bool}, MK 24 w (fun j => decide (j < c) && P j) → P c = false → MK 24 w (fun j => decide (j < c + 1) && P j) := by
          intro w P hw hP
          refine hw.cong (fun j hj => ?_)
          by_cases q : j = c
          · subst q; rw [hP, Bool.and_false, Bool.and_false]
          · by_cases q2 : j < c
            · rw [decide_eq_true q2, decide_eq_true (show j < c + 1 by omega)]
            · rw [decide_eq_false q2, decide_eq_false (show ¬ j < c + 1 by omega)]
        have more : ∀ {w : Int32} {P : Nat → Bool}, MK 24 w (fun j => decide (j < c) && P j) → P c = true → MK 24 (w ||| (1 <<< (nI c &&& 31))) (fun j => decide (j < c + 1) && P j) := by
          intro w P hw hP
          refine (hw.or (MK_one e (by decide))).cong (fun j hj => ?_)
          by_cases q : j = c
          · subst q; rw [hP, decide_eq_true rfl, decide_eq_true (Nat.lt_succ_self j)]; simp
          · rw [decide_eq_false q, Bool.or_false]
            by_cases q2 : j < c
            · rw [decide_eq_true q2, decide_eq_true (show j < c + 1 by omega)]
            · rw [decide_eq_false q2, decide_eq_false (show ¬ j < c + 1 by omega)]
        rw [if_pos e, wget_n e (by omega), hp c e, i0lt (by omega)]
        by_cases pos : 0 < cn c
        · rw [if_pos pos, x_has hx e, bind_s, b_ite]
          cases sc : s c
          · have shc : q_shn cn s c = true := by unfold q_shn; rw [decide_eq_true pos, sc]; rfl
            obtain ⟨t, t1, t2⟩ := x_endsOf e
            rw [if_neg (by decide), wbd_e, t1, bind_s, ite_n (t2.disj (by decide) h6), ite_n (ends_any e)]
            have key := q_helps (N := q_ti (q_rm s f) (f / 4)) (F := q_ti (q_rm s f) (6 + f % 4)) hf e hfd hs sc (fun i _ => q_ti_iff (by omega) i) (fun i _ => q_ti_iff (by omega) i)
            have no : ¬ ((q_ti (q_rm s f) (f / 4) (c / 4) = true ∨ q_ti (q_rm s f) (f / 4) (6 + c % 4) = true) ∧ (q_ti (q_rm s f) (6 + f % 4) (c / 4) = true ∨ q_ti (q_rm s f) (6 + f % 4) (6 + c % 4) = true)) → q_hlp cn s f c = false := by
              intro w
              unfold q_hlp
              cases q : q_fd (q_ins s c) f
              · exact absurd (key.mp q) w
              · simp
            by_cases n1 : q_ti (q_rm s f) (f / 4) (c / 4) = true ∨ q_ti (q_rm s f) (f / 4) (6 + c % 4) = true
            · rw [if_neg (fun w => w n1), bind_s, ite_n (t2.disj (by decide) h8), ite_n (ends_any e)]
              by_cases n2 : q_ti (q_rm s f) (6 + f % 4) (c / 4) = true ∨ q_ti (q_rm s f) (6 + f % 4) (6 + c % 4) = true
              · rw [if_neg (fun w => w n2), wbd_e]
                exact go _ _ (more hu shc) (more hv (by unfold q_hlp; rw [shc, key.mpr ⟨n1, n2⟩]; rfl))
              · rw [if_pos n2]
                exact go _ _ (more hu shc) (stay hv (no (fun w => n2 w.2)))
            · rw [if_pos n1]
              exact go _ _ (more hu shc) (stay hv (no (fun w => n1 w.1)))
          · rw [if_pos rfl]
            have shc : q_shn cn s c = false := by unfold q_shn; rw [sc]; simp
            exact go _ _ (stay hu shc) (stay hv (by unfold q_hlp; rw [shc]; rfl))
        · rw [if_neg pos]
          have shc : q_shn cn s c = false := by unfold q_shn; rw [decide_eq_false pos]; rfl
          exact go _ _ (stay hu shc) (stay hv (by unfold q_hlp; rw [shc]; rfl))
      · have ec : c = 24 := by omega
        subst ec
        have hu' : MK 24 u (q_shn cn s) := hu.cong (fun j hj => by rw [decide_eq_true hj, Bool.true_and])
        have hv' : MK 24 v (q_hlp cn s f) := hv.cong (fun j hj => by rw [decide_eq_true hj, Bool.true_and])
        rw [if_neg e, ite_n (hv'.eq0 (by decide))]
        unfold q_next f_X0_nextToHide_119
        cases q : q_any 24 (q_hlp cn s f)
        · have : ∀ i, i < 24 → q_hlp cn s f i = false := by
            intro i hi
            cases z : q_hlp cn s f i
            · rfl
            · rw [q_any_of hi z] at q; cases q
          rw [if_pos this, if_neg (by decide), x_leastOf hp hc hu', bind_s]
        · obtain ⟨j, j1, j2⟩ := q_any_iff.mp q
          rw [if_neg (fun w => by rw [w j j1] at j2; cases j2), if_pos rfl, x_leastOf hp hc hv', bind_s]
  unfold f_X0_nextToHide
  rw [wbd_e, h1, bind_s, h5, bind_s, h3, bind_s, h7, bind_s]
  exact lp 1000 0 0 0 (by omega) (by omega) ((MK_0 24).cong (fun j _ => by rw [decide_eq_false (by omega)]; rfl)) ((MK_0 24).cong (fun j _ => by rw [decide_eq_false (by omega)]; rfl))
theorem q_next_in (cn : Nat → Nat) (s : Nat → Bool) (f : Nat) : q_next cn s f = 0 ∨ ∃ j, q_next cn s f = j + 1 ∧ j < 24 ∧ s j = false ∧ 0 < cn j := by
  have key : ∀ j, q_shn cn s j = true → s j = false ∧ 0 < cn j := by
    intro j h
    unfold q_shn at h
    obtain ⟨a, b⟩ := (Bool.and_eq_true _ _).mp h
    exact ⟨by simpa using b, of_decide_eq_true a⟩
  unfold q_next
  split
  · rcases q_least_in cn (q_hlp cn s f) with h | ⟨j, h1, h2, h3⟩
    · exact Or.inl h
    · exact Or.inr ⟨j, h1, h2, key j ((Bool.and_eq_true _ _).mp h3).1⟩
  · rcases q_least_in cn (q_shn cn s) with h | ⟨j, h1, h2, h3⟩
    · exact Or.inl h
    · exact Or.inr ⟨j, h1, h2, key j h3⟩
def q_cho (cn : Nat → Nat) : Nat → (Nat → Bool) → Option (Nat → Bool)
  | 0, _ => none
  | n + 1, s => if q_first s = 0 then some s else if q_next cn s (q_first s - 1) = 0 then none else q_cho cn n (q_ins s (q_next cn s (q_first s - 1) - 1))
def q_small (cn : Nat → Nat) : Nat → Bool := fun c => decide (0 < cn c) && decide (cn c ≤ 2)
def q_hide (cn : Nat → Nat) : Option (Nat → Bool) := q_cho cn 25 (q_small cn)
/-- an answer of the choice -/
def CH (z : Int32) (o : Option (Nat → Bool)) : Prop := (o = none ∧ z = -1) ∨ ∃ s, o = some s ∧ MK 24 z s
theorem x_smallCells {cn : Nat → Nat} {p0 : Nat → Int32} (hp : ∀ c, c < 24 → p0 c = nI (cn c)) (hc : ∀ c, c < 24 → cn c ≤ 40) : ∃ z, f_X0_smallCells p0 = some z ∧ MK 24 z (q_small cn) := by
  have lp : ∀ (n c : Nat) (u : Int32), c ≤ 24 → 24 - c < n → MK 24 u (fun j => decide (j < c) && q_small cn j) → ∃ z, f_X0_smallCells_4 p0 n u (nI c) = some z ∧ MK 24 z (q_small cn) := by
    intro n
    induction n with
    | zero => intro c u _ h; omega
    | succ n ih =>
      intro c u hc2 hn hu
      rw [f_X0_smallCells_4]
      dsimp only
      rw [f_X0_smallCells_4b, L24, ilt (by omega) (by omega)]
      by_cases e : c < 24
      · have hcc := hc c e
        have go : ∀ (u' : Int32), MK 24 u' (fun j => decide (j < c + 1) && q_small cn j) → ∃ z, f_X0_smallCells_29 (f_X0_smallCells_4 p0 n) p0 u' (nI c) = some z ∧ MK 24 z (q_small cn) := by
          intro u' a
          rw [f_X0_smallCells_29, wbd_e, Lm1]
          exact ih (c + 1) u' (by omega) (by omega) a
        have stay : q_small cn c = false → MK 24 u (fun j => decide (j < c + 1) && q_small cn j) := by
          intro hP
          refine hu.cong (fun j hj => ?_)
          by_cases q : j = c
          · subst q; rw [hP, Bool.and_false, Bool.and_false]
          · by_cases q2 : j < c
            · rw [decide_eq_true q2, decide_eq_true (show j < c + 1 by omega)]
            · rw [decide_eq_false q2, decide_eq_false (show ¬ j < c + 1 by omega)]
        rw [if_pos e, wget_n e (by omega), hp c e, i0lt (by omega)]
        by_cases pos : 0 < cn c
        · rw [if_pos pos, wget_n e (by omega), hp c e, L2, ilt (by omega) (by omega)]
          by_cases big : 2 < cn c
          · rw [if_pos big]
            exact go u (stay (by unfold q_small; rw [decide_eq_false (show ¬ cn c ≤ 2 by omega), Bool.and_false]))
          · rw [if_neg big, wbd_e]
            have hP : q_small cn c = true := by unfold q_small; rw [decide_eq_true pos, decide_eq_true (show cn c ≤ 2 by omega)]; rfl
            refine go _ ((hu.or (MK_one e (by decide))).cong (fun j hj => ?_))
            by_cases q : j = c
            · subst q; rw [hP, decide_eq_true rfl, decide_eq_true (Nat.lt_succ_self j)]; simp
            · rw [decide_eq_false q, Bool.or_false]
              by_cases q2 : j < c
              · rw [decide_eq_true q2, decide_eq_true (show j < c + 1 by omega)]
              · rw [decide_eq_false q2, decide_eq_false (show ¬ j < c + 1 by omega)]
        · rw [if_neg pos]
          exact go u (stay (by unfold q_small; rw [decide_eq_false pos]; rfl))
      · have ec : c = 24 := by omega
        subst ec
        rw [if_neg e]
        exact ⟨u, rfl, hu.cong (fun j hj => by rw [decide_eq_true hj, Bool.true_and])⟩
  unfold f_X0_smallCells
  rw [L0]
  exact lp 1000 0 0 (by omega) (by omega) ((MK_0 24).cong (fun j _ => by rw [decide_eq_false (by omega)]; rfl))
theorem x_choose {cn : Nat → Nat} {p0 : Nat → Int32} (hp : ∀ c, c < 24 → p0 c = nI (cn c)) (hc : ∀ c, c < 24 → cn c ≤ 40) : ∃ z, f_X0_choose p0 = some z ∧ CH z (q_hide cn) := by
  have lp : ∀ (m n r : Nat) (u : Int32) (s : Nat → Bool), r + m = 25 → m < n → MK 24 u s → ∃ z, f_X0_choose_7 p0 n u (nI r) = some z ∧ CH z (q_cho cn m s) := by
    intro m
    induction m with
    | zero =>
      intro n r u s hr hn hu
      obtain ⟨n, rfl⟩ : ∃ q, n = q + 1 := ⟨n - 1, by omega⟩
      rw [f_X0_choose_7]
      dsimp only
      rw [f_X0_choose_7b, L24, ilt (by omega) (by omega), if_pos (by omega)]
      exact ⟨_, rfl, Or.inl ⟨rfl, rfl⟩⟩
    | succ m ih =>
      intro n r u s hr hn hu
      obtain ⟨n, rfl⟩ : ∃ q, n = q + 1 := ⟨n - 1, by omega⟩
      have hf24 : q_first s ≤ 24 := by
        rcases q_ff_le s 25 0 with h | ⟨j, h, h2, _⟩
        · unfold q_first; omega
        · unfold q_first; omega
      rw [f_X0_choose_7]
      dsimp only
      rw [f_X0_choose_7b, L24, ilt (by omega) (by omega), if_neg (by omega), x_firstFound hu, bind_s, ite_n (pe_m1 _ (by omega)), q_cho]
      by_cases f0 : q_first s = 0
      · rw [if_pos f0, if_pos f0]
        exact ⟨u, rfl, Or.inr ⟨s, rfl, hu⟩⟩
      · rw [if_neg f0, if_neg f0]
        obtain ⟨f, f1, f2, f3, f4⟩ : ∃ j, q_first s = j + 1 ∧ j < 24 ∧ s j = true ∧ q_fd s j = true := by
          rcases q_ff_le s 25 0 with h | h
          · exact absurd h f0
          · exact h
        have fe : q_first s - 1 = f := by omega
        rw [f1, pe_s, x_nextToHide hp hc hu f2 f3 f4, bind_s]
        show ∃ z, _ ∧ CH z (if q_next cn s f = 0 then none else q_cho cn m (q_ins s (q_next cn s f - 1)))
        rcases q_next_in cn s f with h | ⟨j, h, h2, h3, h4⟩
        · rw [h, if_pos (by decide), if_pos rfl]
          exact ⟨_, rfl, Or.inl ⟨rfl, rfl⟩⟩
        · rw [h, ite_n (pe_m1 _ (by omega)), if_neg (by omega), if_neg (by omega), pe_s, wbd_e, wbd_e, Lm1]
          exact ih n (r + 1) _ _ (by omega) (by omega) (hu.or (MK_one h2 (by decide)))
  obtain ⟨z, h1, h2⟩ := x_smallCells hp hc
  unfold f_X0_choose
  rw [h1, bind_s, L0]
  exact lp 25 1000 0 z _ (by omega) (by omega) h2
