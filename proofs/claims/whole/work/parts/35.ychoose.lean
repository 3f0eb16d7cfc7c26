/-! the reference's choice -/
def CR (Y : wM) (t : Nat) (cn : Nat → Nat) : Prop := ∀ c, c < 24 → Y 35 (24 * t + c) = nI (cn c)
theorem HR.ins {Y : wM} {t : Nat} {s : Nat → Bool} (h : HR Y t s) {x : Nat} : HR (updM Y 33 (upd (Y 33) (24 * t + x) 1)) t (q_ins s x) := by
  intro c hc
  rw [updM_s]
  unfold q_ins
  by_cases q : c = x
  · subst q
    rw [upd_s, decide_eq_true rfl, Bool.or_true]; rfl
  · rw [upd_n _ _ (by omega), decide_eq_false q, Bool.or_false]
    exact h c hc
theorem y_helps {Y : wM} {t : Nat} (ht : t < 8) {s : Nat → Bool} (hs : HR Y t s) {x f : Nat} (hx : x < 24) (hf : f < 24) (hn : s x = false) : ∃ Y', f_X8_helps Y (nI t) (nI x) (nI f) = some (if q_fd (q_ins s x) f then 0 else 1, Y') ∧ ∀ k, k ≠ 34 → Y' k = Y k := by
  unfold f_X8_helps f_X8_helps_26
  rw [L24, pk_mul, nI_add, wput_n (by omega) (by omega), narZ_1]
  obtain ⟨Z, g1, g2⟩ := y_isFound ht (hs.ins (x := x)) hf
  rw [g1, bind_s, b_ite]
  have e33 : Z 33 = upd (Y 33) (24 * t + x) 1 := by rw [g2 33 (by decide), updM_s]
  have fr : ∀ k, k ≠ 34 → updM Z 33 (upd (Z 33) (24 * t + x) 0) k = Y k := by
    intro k a
    by_cases q : k = 33
    · subst q
      rw [updM_s, e33]
      funext i
      by_cases z : i = 24 * t + x
      · subst z
        rw [upd_s, hs x hx, hn]; rfl
      · rw [upd_n _ _ z, upd_n _ _ z]
    · rw [updM_ne _ _ q, g2 k a, updM_ne _ _ q]
  cases q_fd (q_ins s x) f
  · rw [if_neg (by decide), wput_n (by omega) (by omega), narZ_0, wgd_t okZ_1]
    exact ⟨_, rfl, fr⟩
  · rw [if_pos rfl, wput_n (by omega) (by omega), narZ_0, wgd_t okZ_0]
    exact ⟨_, rfl, fr⟩
theorem y_canHide {Y : wM} {t : Nat} (ht : t < 8) {s : Nat → Bool} {cn : Nat → Nat} (hs : HR Y t s) (hc : CR Y t cn) (h40 : ∀ c, c < 24 → cn c ≤ 40) {x : Nat} (hx : x < 24) : f_X8_canHide Y (nI t) (nI x) = some (if q_shn cn s x then 1 else 0) := by
  have := h40 x hx
  unfold f_X8_canHide f_X8_canHide_32 f_X8_canHide_33 q_shn
  rw [L24, pk_mul, nI_add, wget_n (by omega) (by omega), wget_n (by omega) (by omega), hs x hx, hc x hx, i0lt (by omega), b_ite, wgd_t okZ_0, wgd_t okZ_1]
  by_cases p : 0 < cn x
  · rw [if_pos p, decide_eq_true p]
    cases s x <;> rfl
  · rw [if_neg p, decide_eq_false p]; rfl
theorem y_next {Y : wM} {t : Nat} (ht : t < 8) {s : Nat → Bool} {cn : Nat → Nat} (hs : HR Y t s) (hc : CR Y t cn) (h40 : ∀ c, c < 24 → cn c ≤ 40) {f : Nat} (hf : f < 24) (b : Bool) : ∃ Y', f_X8_next Y (nI t) (nI f) (if b then 1 else 0) = some (pe (q_least cn (if b then q_hlp cn s f else q_shn cn s)), Y') ∧ ∀ k, k ≠ 34 → Y' k = Y k := by
  obtain ⟨p, hp⟩ : ∃ p, p = if b then q_hlp cn s f else q_shn cn s := ⟨_, rfl⟩
  rw [← hp]
  have lp : ∀ (m n c g : Nat) (Z : wM), c ≤ 24 → 24 - c < n → 24 - c < m → g ≤ 24 → (∀ k, k ≠ 34 → Z k = Y k) → ∃ Y', f_X8_next_6 n Z (nI t) (nI f) (if b then 1 else 0) (pe g) (nI c) = some (pe (q_best cn p m c g), Y') ∧ ∀ k, k ≠ 34 → Y' k = Y k := by
    intro m
    induction m with
    | zero => intro n c g Z _ _ h; omega
    | succ m ih =>
      intro n c g Z hc2 hn hm hg hz
      obtain ⟨n, rfl⟩ : ∃ q, n = q + 1 := ⟨n - 1, by omega⟩
      rw [f_X8_next_6, q_best]
      dsimp only
      rw [f_X8_next_6b, L24, ilt (by omega) (by omega)]
      by_cases e : c < 24
      · have go : ∀ (Z' : wM) (g' : Nat), g' ≤ 24 → (∀ k, k ≠ 34 → Z' k = Y k) → ∃ Y', f_X8_next_77 (f_X8_next_6 n) Z' (nI t) (nI f) (if b then 1 else 0) (pe g') (nI c) = some (pe (q_best cn p m (c + 1) g'), Y') ∧ ∀ k, k ≠ 34 → Y' k = Y k := by
          intro Z' g' a a2
          rw [f_X8_next_77, wbd_e, Lm1]
          exact ih n (c + 1) g' Z' (by omega) (by omega) (by omega) a a2
        have no : p c = false → ∀ Z' : wM, (∀ k, k ≠ 34 → Z' k = Y k) → ∃ Y', f_X8_next_77 (f_X8_next_6 n) Z' (nI t) (nI f) (if b then 1 else 0) (pe g) (nI c) = some (pe (q_best cn p m (c + 1) (if (p c && (decide (g = 0) || decide (cn c < cn (g - 1)))) = true then c + 1 else g)), Y') ∧ ∀ k, k ≠ 34 → Y' k = Y k := by
          intro pc Z' a
          rw [pc, Bool.false_and]
          exact go Z' g hg a
        have yes : p c = true → ∀ Z' : wM, (∀ k, k ≠ 34 → Z' k = Y k) → ∃ Y', f_X8_next_41 (f_X8_next_6 n) Z' (nI t) (nI f) (if b then 1 else 0) (pe g) (nI c) = some (pe (q_best cn p m (c + 1) (if (p c && (decide (g = 0) || decide (cn c < cn (g - 1)))) = true then c + 1 else g)), Y') ∧ ∀ k, k ≠ 34 → Y' k = Y k := by
          intro pc Z' a
          have h1 := h40 c e
          have take : ∃ Y', f_X8_next_73 (f_X8_next_6 n) Z' (nI t) (nI f) (if b then 1 else 0) (nI c) = some (pe (q_best cn p m (c + 1) (c + 1)), Y') ∧ ∀ k, k ≠ 34 → Y' k = Y k := by
            have g2 := go Z' (c + 1) (by omega) a
            rw [pe_s] at g2
            rw [f_X8_next_73]
            exact g2
          rw [pc, Bool.true_and, f_X8_next_41, ite_n (pe_neg g (by omega))]
          by_cases g0 : g = 0
          · rw [if_pos g0, decide_eq_true g0]
            exact take
          · have h2 := h40 (g - 1) (by omega)
            have eg := pe_b g0
            rw [if_neg g0, eg, L24, pk_mul, nI_add, nI_add, wget_n (by omega) (by omega), wget_n (by omega) (by omega), a 35 (by decide), hc c e, hc _ (by omega), ilt (by omega) (by omega), decide_eq_false g0, Bool.false_or]
            by_cases lt : cn c < cn (g - 1)
            · rw [if_pos lt, decide_eq_true lt]
              exact take
            · rw [if_neg lt, decide_eq_false lt, ← eg]
              exact go Z' g hg a
        rw [if_pos e, if_pos e, y_canHide ht (hs.cong (hz 33 (by decide))) (fun c hc3 => by rw [hz 35 (by decide)]; exact hc c hc3) h40 e, bind_s, b_ite]
        cases sh : q_shn cn s c
        · rw [if_neg (by decide)]
          refine no ?_ Z hz
          rw [hp]
          cases b
          · exact sh
          · show q_hlp cn s f c = false
            unfold q_hlp
            rw [sh]; rfl
        · rw [if_pos rfl, b_ite]
          cases hb : b
          · rw [hb] at yes hp
            rw [if_neg (by decide)]
            refine yes ?_ Z hz
            rw [hp]
            exact sh
          · rw [hb] at yes no hp
            have sc : s c = false := by
              unfold q_shn at sh
              have := ((Bool.and_eq_true _ _).mp sh).2
              simpa using this
            have pc : p c = !(q_fd (q_ins s c) f) := by
              rw [hp]
              show q_hlp cn s f c = _
              unfold q_hlp
              rw [sh]; rfl
            obtain ⟨Z', k1, k2⟩ := y_helps ht (hs.cong (hz 33 (by decide))) e hf sc
            have k3 : ∀ k, k ≠ 34 → Z' k = Y k := fun k a => by rw [k2 k a]; exact hz k a
            rw [if_pos rfl, k1, bind_s]
            cases q : q_fd (q_ins s c) f
            · rw [q] at pc
              exact yes pc Z' k3
            · rw [q] at pc
              exact no pc Z' k3
      · rw [if_neg e, if_neg e]
        exact ⟨Z, rfl, hz⟩
  unfold f_X8_next
  rw [L0]
  exact lp 25 1000 0 0 Y (by omega) (by omega) (by omega) (by omega) (fun _ _ => rfl)
/-- the hiding of table t writes its own row alone -/
def FH (t : Nat) (Y Z : wM) : Prop := (∀ k, k ≠ 33 → k ≠ 34 → Z k = Y k) ∧ ∀ j, (j < 24 * t ∨ 24 * t + 24 ≤ j) → Z 33 j = Y 33 j
theorem y_hidesSmall {Y : wM} {t : Nat} (ht : t < 8) {cn : Nat → Nat} (hc : CR Y t cn) (h40 : ∀ c, c < 24 → cn c ≤ 40) : ∃ Y', f_X8_hidesSmall Y (nI t) = some Y' ∧ FH t Y Y' ∧ HR Y' t (q_small cn) := by
  have lp : ∀ (n c : Nat) (Z : wM), c ≤ 24 → 24 - c < n → FH t Y Z → (∀ j, j < c → Z 33 (24 * t + j) = if q_small cn j then 1 else 0) → ∃ Y', f_X8_hidesSmall_2 n Z (nI t) (nI c) = some Y' ∧ FH t Y Y' ∧ HR Y' t (q_small cn) := by
    intro n
    induction n with
    | zero => intro c Z _ h; omega
    | succ n ih =>
      intro c Z hc2 hn hz hd
      rw [f_X8_hidesSmall_2]
      dsimp only
      rw [f_X8_hidesSmall_2b, L24, ilt (by omega) (by omega)]
      by_cases e : c < 24
      · have h1 := h40 c e
        have hin : f_X8_in (nI (cn c)) 1 2 = some (if q_small cn c then 1 else 0) := by
          unfold f_X8_in f_X8_in_14 f_X8_in_15 q_small
          rw [L1, L2, ilt (by omega) (by omega), ilt (by omega) (by omega), L0, wgd_t (show wokN .boolean (nI 0) = true from okZ_0), wgd_t (show wokN .boolean (nI 1) = true from okZ_1)]
          by_cases a : cn c < 1
          · rw [if_pos a, decide_eq_false (show ¬ 0 < cn c by omega)]; rfl
          · rw [if_neg a, decide_eq_true (show 0 < cn c by omega)]
            by_cases b : 2 < cn c
            · rw [if_pos b, decide_eq_false (show ¬ cn c ≤ 2 by omega)]; rfl
            · rw [if_neg b, decide_eq_true (show cn c ≤ 2 by omega)]; rfl
        rw [if_pos e, pk_mul, nI_add, wget_n (by omega) (by omega), hz.1 35 (by decide) (by decide), hc c e, hin, bind_s, wput_n (by omega) (by omega), narZ_b, wbd_e, Lm1]
        refine ih (c + 1) _ (by omega) (by omega) ⟨fun k a b => by rw [updM_ne _ _ a]; exact hz.1 k a b, fun j hj => by rw [updM_s, upd_n _ _ (by omega)]; exact hz.2 j hj⟩ (fun j hj => ?_)
        rw [updM_s]
        by_cases q : j = c
        · subst q; exact upd_s _ _ _
        · rw [upd_n _ _ (by omega)]; exact hd j (by omega)
      · have ec : c = 24 := by omega
        subst ec
        rw [if_neg e]
        exact ⟨Z, rfl, hz, hd⟩
  unfold f_X8_hidesSmall
  rw [L0]
  exact lp 1000 0 Y (by omega) (by omega) ⟨fun _ _ _ => rfl, fun _ _ => rfl⟩ (fun j hj => by omega)
theorem q_num_ins {s : Nat → Bool} {j : Nat} (hs : s j = false) : ∀ n, q_num (q_ins s j) n = q_num s n + if j < n then 1 else 0
  | 0 => rfl
  | n + 1 => by
    rw [q_num, q_num, q_num_ins hs n]
    unfold q_ins
    by_cases q : n = j
    · subst q
      rw [hs, decide_eq_true rfl, if_neg (Nat.lt_irrefl n), if_pos (Nat.lt_succ_self n)]
      rfl
    · rw [decide_eq_false q, Bool.or_false]
      by_cases z : j < n
      · rw [if_pos z, if_pos (show j < n + 1 by omega)]; omega
      · rw [if_neg z, if_neg (show ¬ j < n + 1 by omega)]; omega
def CHY (Y : wM) (t : Nat) (o : Option (Nat → Bool)) (v : Int32) : Prop := (o = none ∧ v = 0) ∨ ∃ s, o = some s ∧ v = 1 ∧ HR Y t s
theorem y_hides {Y : wM} {t : Nat} (ht : t < 8) {cn : Nat → Nat} (hc : CR Y t cn) (h40 : ∀ c, c < 24 → cn c ≤ 40) : ∃ v Y', f_X8_hides Y (nI t) = some (v, Y') ∧ FH t Y Y' ∧ CHY Y' t (q_hide cn) v := by
  have lp : ∀ (m n : Nat) (Z : wM) (s : Nat → Bool), 24 - q_num s 24 < m → m ≤ n → FH t Y Z → HR Z t s → ∃ v Y', f_X8_hides_11 n Z (nI t) (pe (q_first s)) = some (v, Y') ∧ FH t Y Y' ∧ CHY Y' t (q_cho cn m s) v := by
    intro m
    induction m with
    | zero => intro n Z s h; omega
    | succ m ih =>
      intro n Z s hm hn hz hs
      obtain ⟨n, rfl⟩ : ∃ q, n = q + 1 := ⟨n - 1, by omega⟩
      have hf24 : q_first s ≤ 24 := by
        rcases q_ff_le s 25 0 with h | ⟨j, h, h2, _⟩
        · unfold q_first; omega
        · unfold q_first; omega
      rw [f_X8_hides_11, q_cho]
      dsimp only
      rw [f_X8_hides_11b, ite_n (pe_neg _ (by omega))]
      by_cases f0 : q_first s = 0
      · rw [if_pos f0, if_pos f0]
        exact ⟨1, Z, rfl, hz, Or.inr ⟨s, rfl, rfl, hs⟩⟩
      · rw [if_neg f0, if_neg f0]
        obtain ⟨f, f1, f2, f3, f4⟩ : ∃ j, q_first s = j + 1 ∧ j < 24 ∧ s j = true ∧ q_fd s j = true := by
          rcases q_ff_le s 25 0 with h | h
          · exact absurd h f0
          · exact h
        rw [f1, pe_s]
        show ∃ v Y', _ ∧ _ ∧ CHY Y' t (if q_next cn s f = 0 then none else q_cho cn m (q_ins s (q_next cn s f - 1))) v
        have tail : ∀ Z' : wM, (∀ k, k ≠ 34 → Z' k = Z k) → ∃ v Y', f_X8_hides_35 (f_X8_hides_11 n) Z' (nI t) (pe (q_next cn s f)) = some (v, Y') ∧ FH t Y Y' ∧ CHY Y' t (if q_next cn s f = 0 then none else q_cho cn m (q_ins s (q_next cn s f - 1))) v := by
          intro Z' hz'
          have hz2 : FH t Y Z' := ⟨fun k a b => by rw [hz' k b]; exact hz.1 k a b, fun j hj => by rw [hz' 33 (by decide)]; exact hz.2 j hj⟩
          unfold f_X8_hides_35
          rcases q_next_in cn s f with h | ⟨j, h, h2, h3, h4⟩
          · rw [h, if_pos (by decide), if_pos rfl]
            exact ⟨0, Z', rfl, hz2, Or.inl ⟨rfl, rfl⟩⟩
          · have hs2 := hs.cong (hz' 33 (by decide))
            rw [h, ite_n (pe_neg _ (by omega)), if_neg (by omega), if_neg (by omega), pe_s, L24, pk_mul, nI_add, wput_n (by omega) (by omega), narZ_1]
            obtain ⟨Z2, g1, g2⟩ := y_firstFound ht (hs2.ins (x := j))
            have hz3 : FH t Y Z2 := ⟨fun k a b => by rw [g2 k b, updM_ne _ _ a]; exact hz2.1 k a b, fun i hi => by rw [g2 33 (by decide), updM_s, upd_n _ _ (by omega)]; exact hz2.2 i hi⟩
            have hn1 := q_num_ins h3 24
            rw [if_pos h2] at hn1
            have := q_num_le (q_ins s j) 24
            rw [g1, bind_s]
            exact ih n Z2 (q_ins s j) (by omega) (by omega) hz3 (hs2.ins.cong (g2 33 (by decide)))
        have hcZ : ∀ Z' : wM, (∀ k, k ≠ 34 → Z' k = Z k) → CR Z' t cn := fun Z' hz' c hc3 => by rw [hz' 35 (by decide), hz.1 35 (by decide) (by decide)]; exact hc c hc3
        obtain ⟨Z1, g1, g2⟩ := y_next ht hs (hcZ Z (fun _ _ => rfl)) h40 f2 true
        have g1 : f_X8_next Z (nI t) (nI f) 1 = some (pe (q_least cn (q_hlp cn s f)), Z1) := g1
        have hl24 : ∀ p, q_least cn p ≤ 24 := by
          intro p
          rcases q_least_in cn p with h | ⟨j, h, h2, _⟩
          · omega
          · omega
        rw [g1, bind_s, ite_n (pe_neg _ (by have := hl24 (q_hlp cn s f); omega))]
        by_cases z : q_least cn (q_hlp cn s f) = 0
        · obtain ⟨Z2, g3, g4⟩ := y_next ht (hs.cong (g2 33 (by decide))) (hcZ Z1 g2) h40 f2 false
          have g3 : f_X8_next Z1 (nI t) (nI f) 0 = some (pe (q_least cn (q_shn cn s)), Z2) := g3
          have en : q_next cn s f = q_least cn (q_shn cn s) := by
            unfold q_next
            rw [(q_least_0 _ _).mp z]; rfl
          rw [if_pos z, g3, bind_s]
          have t1 := tail Z2 (fun k a => by rw [g4 k a]; exact g2 k a)
          rw [en] at t1 ⊢
          exact t1
        · have en : q_next cn s f = q_least cn (q_hlp cn s f) := by
            unfold q_next
            cases q : q_any 24 (q_hlp cn s f)
            · exact absurd ((q_least_0 _ _).mpr q) z
            · rfl
          rw [if_neg z]
          have t1 := tail Z1 g2
          rw [en] at t1 ⊢
          exact t1
  obtain ⟨Z1, a1, a2, a3⟩ := y_hidesSmall ht hc h40
  obtain ⟨Z2, b1, b2⟩ := y_firstFound ht a3
  unfold f_X8_hides
  rw [a1, bind_s, b1, bind_s]
  exact lp 25 1000 Z2 (q_small cn) (by omega) (by omega) ⟨fun k a b => by rw [b2 k b]; exact a2.1 k a b, fun j hj => by rw [b2 33 (by decide)]; exact a2.2 j hj⟩ (a3.cong (b2 33 (by decide)))
