def q_any : Nat → (Nat → Bool) → Bool
  | 0, _ => false
  | n + 1, p => q_any n p || p n
theorem q_any_of {n j : Nat} {p : Nat → Bool} (h : j < n) (hp : p j = true) : q_any n p = true := by
  induction n with
  | zero => omega
  | succ n ih =>
    rw [q_any]
    by_cases e : j = n
    · subst e; rw [hp, Bool.or_true]
    · rw [ih (by omega), Bool.true_or]
theorem q_any_cong {n : Nat} {p q : Nat → Bool} (h : ∀ j, j < n → p j = q j) : q_any n p = q_any n q := by
  induction n with
  | zero => rfl
  | succ n ih => rw [q_any, q_any, ih (fun j hj => h j (by omega)), h n (by omega)]
theorem q_any_no {n : Nat} {p : Nat → Bool} (h : ∀ j, j < n → p j = false) : q_any n p = false := by
  induction n with
  | zero => rfl
  | succ n ih => rw [q_any, ih (fun j hj => h j (by omega)), h n (by omega)]; rfl
theorem q_any_iff {n : Nat} {p : Nat → Bool} : q_any n p = true ↔ ∃ j, j < n ∧ p j = true := by
  constructor
  · intro h
    induction n with
    | zero => cases h
    | succ n ih =>
      rw [q_any] at h
      rcases Bool.or_eq_true_iff.mp h with h | h
      · obtain ⟨j, h1, h2⟩ := ih h
        exact ⟨j, by omega, h2⟩
      · exact ⟨n, by omega, h⟩
  · rintro ⟨j, h1, h2⟩
    exact q_any_of h1 h2
def q_num (p : Nat → Bool) : Nat → Nat
  | 0 => 0
  | n + 1 => q_num p n + (if p n then 1 else 0)
theorem q_num_le (p : Nat → Bool) (n : Nat) : q_num p n ≤ n := by
  induction n with
  | zero => exact Nat.le_refl _
  | succ n ih => rw [q_num]; split <;> omega
theorem q_num_cong {n : Nat} {p q : Nat → Bool} (h : ∀ j, j < n → p j = q j) : q_num p n = q_num q n := by
  induction n with
  | zero => rfl
  | succ n ih => rw [q_num, q_num, ih (fun j hj => h j (by omega)), h n (by omega)]
/-- the doubles among the first n records -/
def q_dt (d : mD) : Nat → Nat → Bool
  | 0 => fun _ => false
  | n + 1 => fun k => if k = n then q_ce d n && q_any n (fun j => q_ce d j && !(q_dt d n j) && decide (q_lk d j n = 121)) else q_dt d n k
def q_db (d : mD) (k : Nat) : Bool := q_dt d (k + 1) k
def q_cd (d : mD) (k : Nat) : Bool := q_ce d k && !(q_db d k)
theorem q_dt_db (d : mD) : ∀ (n k : Nat), k < n → q_dt d n k = q_db d k
  | 0, k, h => by omega
  | n + 1, k, h => by
    by_cases e : k = n
    · subst e; rfl
    · rw [q_dt]
      dsimp only
      rw [if_neg e]
      exact q_dt_db d n k (by omega)
theorem q_db_eq (d : mD) (k : Nat) : q_db d k = (q_ce d k && q_any k (fun j => q_cd d j && decide (q_lk d j k = 121))) := by
  show q_dt d (k + 1) k = _
  rw [q_dt]
  dsimp only
  rw [if_pos rfl]
  congr 1
  refine q_any_cong (fun j hj => ?_)
  rw [q_dt_db d k j hj]
  rfl
/-- the count of a cell among the first n records -/
def q_ct (d : mD) (c n : Nat) : Nat := q_num (fun i => q_cd d i && decide (q_cell d i = c)) n
theorem q_gr_lt (y : Nat) : q_gr y < 4 := by
  unfold q_gr
  repeat' split
  all_goals omega
theorem q_cell_lt {d : mD} (w : q_ok d) {i : Nat} (hi : i < q_nr d) : q_cell d i < 24 := by
  have h1 := (w.2.2.2.2.1 i hi).1
  have h2 := w.2.2.1 _ h1
  have h3 := q_gr_lt (q_yr d i)
  have h4 := w.1
  unfold q_cell
  omega
theorem RX.congr {d : mD} {X X' : wM} (h : RX d X) (e : ∀ k, 1 ≤ k → k ≤ 9 → X' k = X k) : RX d X' := by
  unfold RX at h ⊢
  rw [e 1 (by omega) (by omega), e 2 (by omega) (by omega), e 3 (by omega) (by omega), e 4 (by omega) (by omega), e 5 (by omega) (by omega), e 6 (by omega) (by omega), e 7 (by omega) (by omega), e 8 (by omega) (by omega), e 9 (by omega) (by omega)]
  exact h
theorem zF : (if false = true then (1 : Int32) else 0) = 0 := by decide
theorem Lm1 (n : Nat) : nI n + 1 = nI (n + 1) := nI_1 n
theorem some_nI_b (b : Bool) : (some (if b then (1 : Int32) else 0)) = some (if b then 1 else 0) := rfl
/-- a tally's cells hold the doubles and counts of the first n records -/
def TLn (d : mD) (X : wM) (a b c n : Nat) : Prop := (∀ j, j < n → X b j = if q_db d j then 1 else 0) ∧ (∀ e, e < 24 → X c e = nI (q_ct d e n)) ∧ X a 4 = nI (q_num (q_cd d) n) ∧ X a 5 = nI (q_num (q_db d) n)
-- GENERATED
theorem x_isCounted10 {d : mD} {X : wM} (h : RX d X) (w : q_ok d) {i : Nat} (hi : i < q_nr d) (hb : X 11 i = if q_db d i then 1 else 0) : f_X6_isCounted_10 X (nI i) = some (if q_cd d i then 1 else 0) := by
  have w4 := w.2.2.2.1
  have h5 := (h.2.2.2.2.1 i hi).1
  unfold f_X6_isCounted_10 f_X6_isCounted_10_25 f_X6_isCounted_10_26 q_cd
  rw [wget_n (by omega) (by omega), wget_n (by omega) (by omega), h5, hb, wgd_t okZ_0, wgd_t okZ_1]
  cases q_ce d i <;> cases q_db d i <;> rfl
theorem x_repeats10 {d : mD} {X : wM} (h : RX d X) (w : q_ok d) {k : Nat} (hk : k < q_nr d) (hb : ∀ j, j < k → X 11 j = if q_db d j then 1 else 0) : f_X6_repeatsEarlier_10 X (nI k) = some (if q_any k (fun j => q_cd d j && decide (q_lk d j k = 121)) then 1 else 0) := by
  have w4 := w.2.2.2.1
  have lp : ∀ (n j : Nat), j ≤ k → k - j < n → q_any j (fun j => q_cd d j && decide (q_lk d j k = 121)) = false → f_X6_repeatsEarlier_10_2 X n (nI k) (nI j) = some (if q_any k (fun j => q_cd d j && decide (q_lk d j k = 121)) then 1 else 0) := by
    intro n
    induction n with
    | zero => intro j _ h; omega
    | succ n ih =>
      intro j hj hn hno
      rw [f_X6_repeatsEarlier_10_2]
      dsimp only
      rw [f_X6_repeatsEarlier_10_2b, ilt (by omega) (by omega)]
      by_cases e : j < k
      · rw [if_pos e, x_isCounted10 h w (by omega) (hb j e), bind_s, x_kindOf h w (by omega) hk, bind_s]
        have go : q_any (j + 1) (fun j => q_cd d j && decide (q_lk d j k = 121)) = false → f_X6_repeatsEarlier_10_31 (f_X6_repeatsEarlier_10_2 X n) X (nI k) (nI j) = some (if q_any k (fun j => q_cd d j && decide (q_lk d j k = 121)) then 1 else 0) := by
          intro q
          rw [f_X6_repeatsEarlier_10_31, wbd_e, Lm1]
          exact ih (j + 1) (by omega) (by omega) q
        have wl := w.2.2.2.2.2.1 j k
        have hl : q_lk d j k < 2 ^ 31 := by
          unfold q_lk
          repeat' split
          all_goals omega
        by_cases c1 : q_cd d j = true
        · rw [c1, if_neg (by decide), L121, ieq hl (by omega)]
          by_cases c2 : q_lk d j k = 121
          · rw [if_pos c2, q_any_of (j := j) e (by rw [c1, c2]; rfl)]
            rfl
          · rw [if_neg c2]
            exact go (by rw [q_any, hno, c1, decide_eq_false c2]; rfl)
        · have c3 : q_cd d j = false := by simpa using c1
          rw [c3, if_pos zF]
          exact go (by rw [q_any, hno, c3]; rfl)
      · have e2 : j = k := by omega
        subst e2
        rw [if_neg e, hno]
        rfl
  unfold f_X6_repeatsEarlier_10
  rw [L0]
  exact lp 1000 0 (by omega) (by omega) rfl
theorem x_renew10 {d : mD} {X : wM} (h : RX d X) (w : q_ok d) : ∃ X', f_X6_renew_10 X = some X' ∧ (∀ k, k ≠ 10 → k ≠ 11 → k ≠ 12 → X' k = X k) ∧ TLn d X' 10 11 12 (q_nr d) := by
  have w4 := w.2.2.2.1
  have main : ∀ (n i : Nat) (Z : wM), i ≤ q_nr d → q_nr d - i < n → (∀ k, k ≠ 10 → k ≠ 11 → k ≠ 12 → Z k = X k) → TLn d Z 10 11 12 i → ∃ X', f_X6_renew_10_33 n Z (nI i) = some X' ∧ (∀ k, k ≠ 10 → k ≠ 11 → k ≠ 12 → X' k = X k) ∧ TLn d X' 10 11 12 (q_nr d) := by
    intro n
    induction n with
    | zero => intro i Z _ h; omega
    | succ n ih =>
      intro i Z hi hn hz ht
      have hR : RX d Z := h.congr (fun k a b => hz k (by omega) (by omega) (by omega))
      have hnr : Z 3 5 = nI (q_nr d) := hR.2.2.2.1
      rw [f_X6_renew_10_33]
      dsimp only
      rw [f_X6_renew_10_33b, hnr, ilt (by omega) (by omega)]
      by_cases e : i < q_nr d
      · obtain ⟨t1, t2, t3, t4⟩ := ht
        have h5 := (hR.2.2.2.2.1 i e).1
        have go : f_X6_renew_10_74 (f_X6_renew_10_33 n) Z (nI i) (if q_db d i then 1 else 0) (nI i) = f_X6_renew_10_33b (f_X6_renew_10_33 n) Z (nI i) := by
          rw [f_X6_renew_10_33b, hnr, ilt (by omega) (by omega), if_pos e, wget_n (by omega) (by omega), h5, x_repeats10 hR w e t1, bind_s]
          have hd := q_db_eq d i
          unfold f_X6_renew_10_73
          cases hc : q_ce d i
          · rw [hc, Bool.false_and] at hd
            rw [hd]; rfl
          · rw [hc, Bool.true_and] at hd
            rw [← hd]
            cases q_db d i <;> rfl
        have go2 : ∃ X', f_X6_renew_10_74 (f_X6_renew_10_33 n) Z (nI i) (if q_db d i then 1 else 0) (nI i) = some X' ∧ (∀ k, k ≠ 10 → k ≠ 11 → k ≠ 12 → X' k = X k) ∧ TLn d X' 10 11 12 (q_nr d) := by
          unfold f_X6_renew_10_74
          rw [wput_n (by omega) (by omega), narZ_b]
          obtain ⟨Z1, hZ1⟩ : ∃ Z1, Z1 = updM Z 11 (upd (Z 11) i (if q_db d i then 1 else 0)) := ⟨_, rfl⟩
          rw [← hZ1]
          have z1 : ∀ k, k ≠ 11 → Z1 k = Z k := fun k hk => by rw [hZ1]; exact updM_ne Z _ hk
          have z2 : ∀ j, j < i + 1 → Z1 11 j = if q_db d j then 1 else 0 := by
            intro j hj
            rw [hZ1, updM_s]
            by_cases q : j = i
            · subst q; exact upd_s _ _ _
            · rw [upd_n _ _ q]; exact t1 j (by omega)
          have hR1 : RX d Z1 := hR.congr (fun k a b => z1 k (by omega))
          rw [wget_n (by omega) (by omega), z2 i (by omega), wget_n (by omega) (by omega), (hR1.2.2.2.2.1 i e).1]
          by_cases cd : q_db d i = true
          · rw [cd, if_neg (by decide), wfld_e]
            obtain ⟨Z2, hZ2⟩ : ∃ Z2, Z2 = updM Z1 10 (upd (Z1 10) 5 (Z1 10 5 + 1)) := ⟨_, rfl⟩
            rw [← hZ2, f_X6_renew_10_147, wbd_e, Lm1]
            have y1 : ∀ k, k ≠ 10 → Z2 k = Z1 k := fun k hk => by rw [hZ2]; exact updM_ne Z1 _ hk
            have ncd : q_cd d i = false := by unfold q_cd; rw [cd]; simp
            refine ih (i + 1) Z2 (by omega) (by omega) (fun k a b c => by rw [y1 k a, z1 k b, hz k a b c]) ⟨?_, ?_, ?_, ?_⟩
            · intro j hj; rw [y1 11 (by decide)]; exact z2 j hj
            · intro q hq
              rw [y1 12 (by decide), z1 12 (by decide), t2 q hq]
              unfold q_ct
              rw [q_num, ncd]; rfl
            · rw [hZ2, updM_s, upd_n _ _ (by decide), z1 10 (by decide), t3, q_num, ncd]; rfl
            · rw [hZ2, updM_s, upd_s, z1 10 (by decide), t4, q_num, cd, Lm1]; rfl
          · have cd0 : q_db d i = false := by simpa using cd
            rw [cd0, if_pos zF]
            by_cases cc : q_ce d i = true
            · have ncd : q_cd d i = true := by unfold q_cd; rw [cd0, cc]; rfl
              rw [cc, if_neg (by decide), wfld_e]
              obtain ⟨Z2, hZ2⟩ : ∃ Z2, Z2 = updM Z1 10 (upd (Z1 10) 4 (Z1 10 4 + 1)) := ⟨_, rfl⟩
              rw [← hZ2]
              have y1 : ∀ k, k ≠ 10 → Z2 k = Z1 k := fun k hk => by rw [hZ2]; exact updM_ne Z1 _ hk
              have hR2 : RX d Z2 := hR1.congr (fun k a b => y1 k (by omega))
              have hcl := q_cell_lt w e
              rw [x_blockAt hR2 w e, bind_s, x_groupAt hR2 w e, bind_s, L4, pk_mul, nI_add, show q_bl d (q_ad d i) * 4 + q_gr (q_yr d i) = q_cell d i from rfl, wget_n hcl (by omega), wput_n hcl (by omega)]
              show ∃ X', f_X6_renew_10_147 (f_X6_renew_10_33 n) (updM Z2 12 (upd (Z2 12) (q_cell d i) (Z2 12 (q_cell d i) + 1))) (nI i) = some X' ∧ _
              obtain ⟨Z3, hZ3⟩ : ∃ Z3, Z3 = updM Z2 12 (upd (Z2 12) (q_cell d i) (Z2 12 (q_cell d i) + 1)) := ⟨_, rfl⟩
              rw [← hZ3, f_X6_renew_10_147, wbd_e, Lm1]
              have x1 : ∀ k, k ≠ 12 → Z3 k = Z2 k := fun k hk => by rw [hZ3]; exact updM_ne Z2 _ hk
              refine ih (i + 1) Z3 (by omega) (by omega) (fun k a b c => by rw [x1 k c, y1 k a, z1 k b, hz k a b c]) ⟨?_, ?_, ?_, ?_⟩
              · intro j hj; rw [x1 11 (by decide), y1 11 (by decide)]; exact z2 j hj
              · intro q hq
                have t2q := t2 q hq
                unfold q_ct at t2q ⊢
                rw [hZ3, updM_s, q_num, ncd]
                by_cases qe : q = q_cell d i
                · subst qe
                  rw [upd_s, y1 12 (by decide), z1 12 (by decide), t2q, Lm1, decide_eq_true rfl]; rfl
                · rw [upd_n _ _ qe, y1 12 (by decide), z1 12 (by decide), t2q, decide_eq_false (fun z => qe z.symm)]; rfl
              · rw [x1 10 (by decide), hZ2, updM_s, upd_s, z1 10 (by decide), t3, q_num, ncd, Lm1]; rfl
              · rw [x1 10 (by decide), hZ2, updM_s, upd_n _ _ (by decide), z1 10 (by decide), t4, q_num, cd0]; rfl
            · have cc0 : q_ce d i = false := by simpa using cc
              have ncd : q_cd d i = false := by unfold q_cd; rw [cc0]; rfl
              rw [cc0, if_pos zF, f_X6_renew_10_147, wbd_e, Lm1]
              refine ih (i + 1) Z1 (by omega) (by omega) (fun k a b c => by rw [z1 k b, hz k a b c]) ⟨z2, ?_, ?_, ?_⟩
              · intro q hq
                rw [z1 12 (by decide), t2 q hq]
                unfold q_ct
                rw [q_num, ncd]; rfl
              · rw [z1 10 (by decide), t3, q_num, ncd]; rfl
              · rw [z1 10 (by decide), t4, q_num, cd0]; rfl
        rw [go, f_X6_renew_10_33b, hnr, ilt (by omega) (by omega)] at go2
        exact go2
      · have e2 : i = q_nr d := by omega
        subst e2
        rw [if_neg e]
        exact ⟨Z, rfl, hz, ht⟩
  have clear : ∀ (n i : Nat) (Z : wM), i ≤ 24 → 24 - i < n → (∀ k, k ≠ 12 → Z k = X k) → (∀ e, e < i → Z 12 e = 0) → ∃ X', f_X6_renew_10_2 n Z (nI i) = some X' ∧ (∀ k, k ≠ 10 → k ≠ 11 → k ≠ 12 → X' k = X k) ∧ TLn d X' 10 11 12 (q_nr d) := by
    intro n
    induction n with
    | zero => intro i Z _ h; omega
    | succ n ih =>
      intro i Z hi hn hz hc
      rw [f_X6_renew_10_2]
      dsimp only
      rw [f_X6_renew_10_2b, L24, ilt (by omega) (by omega)]
      by_cases e : i < 24
      · rw [if_pos e, wput_n e (by omega), wbd_e, Lm1]
        refine ih (i + 1) _ (by omega) (by omega) (fun k a => by rw [updM_ne _ _ a]; exact hz k a) (fun q hq => ?_)
        rw [updM_s]
        by_cases qe : q = i
        · subst qe; exact upd_s _ _ _
        · rw [upd_n _ _ qe]; exact hc q (by omega)
      · rw [if_neg e, wfld_e, wfld_e, L0]
        refine main 1000 0 _ (by omega) (by omega) (fun k a b c => by rw [updM_ne _ _ a, updM_ne _ _ a]; exact hz k c) ⟨fun j hj => by omega, fun q hq => ?_, ?_, ?_⟩
        · rw [updM_ne _ _ (by decide), updM_ne _ _ (by decide)]; exact hc q (by omega)
        · rw [updM_s, upd_n _ _ (by decide), updM_s, upd_s]; rfl
        · rw [updM_s, upd_s]; rfl
  unfold f_X6_renew_10
  exact clear 1000 0 X (by omega) (by omega) (fun _ _ => rfl) (fun e he => by omega)
theorem x_dummy10 : True := trivial

theorem x_isCounted13 {d : mD} {X : wM} (h : RX d X) (w : q_ok d) {i : Nat} (hi : i < q_nr d) (hb : X 14 i = if q_db d i then 1 else 0) : f_X6_isCounted_13 X (nI i) = some (if q_cd d i then 1 else 0) := by
  have w4 := w.2.2.2.1
  have h5 := (h.2.2.2.2.1 i hi).1
  unfold f_X6_isCounted_13 f_X6_isCounted_13_25 f_X6_isCounted_13_26 q_cd
  rw [wget_n (by omega) (by omega), wget_n (by omega) (by omega), h5, hb, wgd_t okZ_0, wgd_t okZ_1]
  cases q_ce d i <;> cases q_db d i <;> rfl
theorem x_repeats13 {d : mD} {X : wM} (h : RX d X) (w : q_ok d) {k : Nat} (hk : k < q_nr d) (hb : ∀ j, j < k → X 14 j = if q_db d j then 1 else 0) : f_X6_repeatsEarlier_13 X (nI k) = some (if q_any k (fun j => q_cd d j && decide (q_lk d j k = 121)) then 1 else 0) := by
  have w4 := w.2.2.2.1
  have lp : ∀ (n j : Nat), j ≤ k → k - j < n → q_any j (fun j => q_cd d j && decide (q_lk d j k = 121)) = false → f_X6_repeatsEarlier_13_2 X n (nI k) (nI j) = some (if q_any k (fun j => q_cd d j && decide (q_lk d j k = 121)) then 1 else 0) := by
    intro n
    induction n with
    | zero => intro j _ h; omega
    | succ n ih =>
      intro j hj hn hno
      rw [f_X6_repeatsEarlier_13_2]
      dsimp only
      rw [f_X6_repeatsEarlier_13_2b, ilt (by omega) (by omega)]
      by_cases e : j < k
      · rw [if_pos e, x_isCounted13 h w (by omega) (hb j e), bind_s, x_kindOf h w (by omega) hk, bind_s]
        have go : q_any (j + 1) (fun j => q_cd d j && decide (q_lk d j k = 121)) = false → f_X6_repeatsEarlier_13_31 (f_X6_repeatsEarlier_13_2 X n) X (nI k) (nI j) = some (if q_any k (fun j => q_cd d j && decide (q_lk d j k = 121)) then 1 else 0) := by
          intro q
          rw [f_X6_repeatsEarlier_13_31, wbd_e, Lm1]
          exact ih (j + 1) (by omega) (by omega) q
        have wl := w.2.2.2.2.2.1 j k
        have hl : q_lk d j k < 2 ^ 31 := by
          unfold q_lk
          repeat' split
          all_goals omega
        by_cases c1 : q_cd d j = true
        · rw [c1, if_neg (by decide), L121, ieq hl (by omega)]
          by_cases c2 : q_lk d j k = 121
          · rw [if_pos c2, q_any_of (j := j) e (by rw [c1, c2]; rfl)]
            rfl
          · rw [if_neg c2]
            exact go (by rw [q_any, hno, c1, decide_eq_false c2]; rfl)
        · have c3 : q_cd d j = false := by simpa using c1
          rw [c3, if_pos zF]
          exact go (by rw [q_any, hno, c3]; rfl)
      · have e2 : j = k := by omega
        subst e2
        rw [if_neg e, hno]
        rfl
  unfold f_X6_repeatsEarlier_13
  rw [L0]
  exact lp 1000 0 (by omega) (by omega) rfl
theorem x_renew13 {d : mD} {X : wM} (h : RX d X) (w : q_ok d) : ∃ X', f_X6_renew_13 X = some X' ∧ (∀ k, k ≠ 13 → k ≠ 14 → k ≠ 15 → X' k = X k) ∧ TLn d X' 13 14 15 (q_nr d) := by
  have w4 := w.2.2.2.1
  have main : ∀ (n i : Nat) (Z : wM), i ≤ q_nr d → q_nr d - i < n → (∀ k, k ≠ 13 → k ≠ 14 → k ≠ 15 → Z k = X k) → TLn d Z 13 14 15 i → ∃ X', f_X6_renew_13_33 n Z (nI i) = some X' ∧ (∀ k, k ≠ 13 → k ≠ 14 → k ≠ 15 → X' k = X k) ∧ TLn d X' 13 14 15 (q_nr d) := by
    intro n
    induction n with
    | zero => intro i Z _ h; omega
    | succ n ih =>
      intro i Z hi hn hz ht
      have hR : RX d Z := h.congr (fun k a b => hz k (by omega) (by omega) (by omega))
      have hnr : Z 3 5 = nI (q_nr d) := hR.2.2.2.1
      rw [f_X6_renew_13_33]
      dsimp only
      rw [f_X6_renew_13_33b, hnr, ilt (by omega) (by omega)]
      by_cases e : i < q_nr d
      · obtain ⟨t1, t2, t3, t4⟩ := ht
        have h5 := (hR.2.2.2.2.1 i e).1
        have go : f_X6_renew_13_74 (f_X6_renew_13_33 n) Z (nI i) (if q_db d i then 1 else 0) (nI i) = f_X6_renew_13_33b (f_X6_renew_13_33 n) Z (nI i) := by
          rw [f_X6_renew_13_33b, hnr, ilt (by omega) (by omega), if_pos e, wget_n (by omega) (by omega), h5, x_repeats13 hR w e t1, bind_s]
          have hd := q_db_eq d i
          unfold f_X6_renew_13_73
          cases hc : q_ce d i
          · rw [hc, Bool.false_and] at hd
            rw [hd]; rfl
          · rw [hc, Bool.true_and] at hd
            rw [← hd]
            cases q_db d i <;> rfl
        have go2 : ∃ X', f_X6_renew_13_74 (f_X6_renew_13_33 n) Z (nI i) (if q_db d i then 1 else 0) (nI i) = some X' ∧ (∀ k, k ≠ 13 → k ≠ 14 → k ≠ 15 → X' k = X k) ∧ TLn d X' 13 14 15 (q_nr d) := by
          unfold f_X6_renew_13_74
          rw [wput_n (by omega) (by omega), narZ_b]
          obtain ⟨Z1, hZ1⟩ : ∃ Z1, Z1 = updM Z 14 (upd (Z 14) i (if q_db d i then 1 else 0)) := ⟨_, rfl⟩
          rw [← hZ1]
          have z1 : ∀ k, k ≠ 14 → Z1 k = Z k := fun k hk => by rw [hZ1]; exact updM_ne Z _ hk
          have z2 : ∀ j, j < i + 1 → Z1 14 j = if q_db d j then 1 else 0 := by
            intro j hj
            rw [hZ1, updM_s]
            by_cases q : j = i
            · subst q; exact upd_s _ _ _
            · rw [upd_n _ _ q]; exact t1 j (by omega)
          have hR1 : RX d Z1 := hR.congr (fun k a b => z1 k (by omega))
          rw [wget_n (by omega) (by omega), z2 i (by omega), wget_n (by omega) (by omega), (hR1.2.2.2.2.1 i e).1]
          by_cases cd : q_db d i = true
          · rw [cd, if_neg (by decide), wfld_e]
            obtain ⟨Z2, hZ2⟩ : ∃ Z2, Z2 = updM Z1 13 (upd (Z1 13) 5 (Z1 13 5 + 1)) := ⟨_, rfl⟩
            rw [← hZ2, f_X6_renew_13_147, wbd_e, Lm1]
            have y1 : ∀ k, k ≠ 13 → Z2 k = Z1 k := fun k hk => by rw [hZ2]; exact updM_ne Z1 _ hk
            have ncd : q_cd d i = false := by unfold q_cd; rw [cd]; simp
            refine ih (i + 1) Z2 (by omega) (by omega) (fun k a b c => by rw [y1 k a, z1 k b, hz k a b c]) ⟨?_, ?_, ?_, ?_⟩
            · intro j hj; rw [y1 14 (by decide)]; exact z2 j hj
            · intro q hq
              rw [y1 15 (by decide), z1 15 (by decide), t2 q hq]
              unfold q_ct
              rw [q_num, ncd]; rfl
            · rw [hZ2, updM_s, upd_n _ _ (by decide), z1 13 (by decide), t3, q_num, ncd]; rfl
            · rw [hZ2, updM_s, upd_s, z1 13 (by decide), t4, q_num, cd, Lm1]; rfl
          · have cd0 : q_db d i = false := by simpa using cd
            rw [cd0, if_pos zF]
            by_cases cc : q_ce d i = true
            · have ncd : q_cd d i = true := by unfold q_cd; rw [cd0, cc]; rfl
              rw [cc, if_neg (by decide), wfld_e]
              obtain ⟨Z2, hZ2⟩ : ∃ Z2, Z2 = updM Z1 13 (upd (Z1 13) 4 (Z1 13 4 + 1)) := ⟨_, rfl⟩
              rw [← hZ2]
              have y1 : ∀ k, k ≠ 13 → Z2 k = Z1 k := fun k hk => by rw [hZ2]; exact updM_ne Z1 _ hk
              have hR2 : RX d Z2 := hR1.congr (fun k a b => y1 k (by omega))
              have hcl := q_cell_lt w e
              rw [x_blockAt hR2 w e, bind_s, x_groupAt hR2 w e, bind_s, L4, pk_mul, nI_add, show q_bl d (q_ad d i) * 4 + q_gr (q_yr d i) = q_cell d i from rfl, wget_n hcl (by omega), wput_n hcl (by omega)]
              show ∃ X', f_X6_renew_13_147 (f_X6_renew_13_33 n) (updM Z2 15 (upd (Z2 15) (q_cell d i) (Z2 15 (q_cell d i) + 1))) (nI i) = some X' ∧ _
              obtain ⟨Z3, hZ3⟩ : ∃ Z3, Z3 = updM Z2 15 (upd (Z2 15) (q_cell d i) (Z2 15 (q_cell d i) + 1)) := ⟨_, rfl⟩
              rw [← hZ3, f_X6_renew_13_147, wbd_e, Lm1]
              have x1 : ∀ k, k ≠ 15 → Z3 k = Z2 k := fun k hk => by rw [hZ3]; exact updM_ne Z2 _ hk
              refine ih (i + 1) Z3 (by omega) (by omega) (fun k a b c => by rw [x1 k c, y1 k a, z1 k b, hz k a b c]) ⟨?_, ?_, ?_, ?_⟩
              · intro j hj; rw [x1 14 (by decide), y1 14 (by decide)]; exact z2 j hj
              · intro q hq
                have t2q := t2 q hq
                unfold q_ct at t2q ⊢
                rw [hZ3, updM_s, q_num, ncd]
                by_cases qe : q = q_cell d i
                · subst qe
                  rw [upd_s, y1 15 (by decide), z1 15 (by decide), t2q, Lm1, decide_eq_true rfl]; rfl
                · rw [upd_n _ _ qe, y1 15 (by decide), z1 15 (by decide), t2q, decide_eq_false (fun z => qe z.symm)]; rfl
              · rw [x1 13 (by decide), hZ2, updM_s, upd_s, z1 13 (by decide), t3, q_num, ncd, Lm1]; rfl
              · rw [x1 13 (by decide), hZ2, updM_s, upd_n _ _ (by decide), z1 13 (by decide), t4, q_num, cd0]; rfl
            · have cc0 : q_ce d i = false := by simpa using cc
              have ncd : q_cd d i = false := by unfold q_cd; rw [cc0]; rfl
              rw [cc0, if_pos zF, f_X6_renew_13_147, wbd_e, Lm1]
              refine ih (i + 1) Z1 (by omega) (by omega) (fun k a b c => by rw [z1 k b, hz k a b c]) ⟨z2, ?_, ?_, ?_⟩
              · intro q hq
                rw [z1 15 (by decide), t2 q hq]
                unfold q_ct
                rw [q_num, ncd]; rfl
              · rw [z1 13 (by decide), t3, q_num, ncd]; rfl
              · rw [z1 13 (by decide), t4, q_num, cd0]; rfl
        rw [go, f_X6_renew_13_33b, hnr, ilt (by omega) (by omega)] at go2
        exact go2
      · have e2 : i = q_nr d := by omega
        subst e2
        rw [if_neg e]
        exact ⟨Z, rfl, hz, ht⟩
  have clear : ∀ (n i : Nat) (Z : wM), i ≤ 24 → 24 - i < n → (∀ k, k ≠ 15 → Z k = X k) → (∀ e, e < i → Z 15 e = 0) → ∃ X', f_X6_renew_13_2 n Z (nI i) = some X' ∧ (∀ k, k ≠ 13 → k ≠ 14 → k ≠ 15 → X' k = X k) ∧ TLn d X' 13 14 15 (q_nr d) := by
    intro n
    induction n with
    | zero => intro i Z _ h; omega
    | succ n ih =>
      intro i Z hi hn hz hc
      rw [f_X6_renew_13_2]
      dsimp only
      rw [f_X6_renew_13_2b, L24, ilt (by omega) (by omega)]
      by_cases e : i < 24
      · rw [if_pos e, wput_n e (by omega), wbd_e, Lm1]
        refine ih (i + 1) _ (by omega) (by omega) (fun k a => by rw [updM_ne _ _ a]; exact hz k a) (fun q hq => ?_)
        rw [updM_s]
        by_cases qe : q = i
        · subst qe; exact upd_s _ _ _
        · rw [upd_n _ _ qe]; exact hc q (by omega)
      · rw [if_neg e, wfld_e, wfld_e, L0]
        refine main 1000 0 _ (by omega) (by omega) (fun k a b c => by rw [updM_ne _ _ a, updM_ne _ _ a]; exact hz k c) ⟨fun j hj => by omega, fun q hq => ?_, ?_, ?_⟩
        · rw [updM_ne _ _ (by decide), updM_ne _ _ (by decide)]; exact hc q (by omega)
        · rw [updM_s, upd_n _ _ (by decide), updM_s, upd_s]; rfl
        · rw [updM_s, upd_s]; rfl
  unfold f_X6_renew_13
  exact clear 1000 0 X (by omega) (by omega) (fun _ _ => rfl) (fun e he => by omega)
theorem x_dummy13 : True := trivial

