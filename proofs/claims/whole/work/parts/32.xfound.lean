/-! the class's masks: what hangs together, what is found -/
theorem q_eb_b {s : Nat → Bool} {b : Nat} (hb : b < 6) : q_eb s b b = true := by
  unfold q_eb
  rw [if_pos hb, decide_eq_true rfl]
theorem q_eb_g (s : Nat → Bool) (c : Nat) : q_eb s (c / 4) (6 + c % 4) = s c := by
  unfold q_eb
  rw [if_neg (by omega), show 4 * (c / 4) + (6 + c % 4 - 6) = c by omega]
theorem q_eb_in {s C : Nat → Bool} (hC : q_clo s C) {b : Nat} (hb : b < 6) {e0 : Nat} (h0 : e0 < 10) (he : q_eb s b e0 = true) (hc : C e0 = true) : ∀ e, e < 10 → q_eb s b e = true → C e = true := by
  have key : ∀ e, e < 10 → q_eb s b e = true → C e = C b := by
    intro e h1 h2
    unfold q_eb at h2
    by_cases q : e < 6
    · rw [if_pos q] at h2
      rw [of_decide_eq_true h2]
    · rw [if_neg q] at h2
      have := hC (4 * b + (e - 6)) (by omega) h2
      rw [show (4 * b + (e - 6)) / 4 = b by omega, show 6 + (4 * b + (e - 6)) % 4 = e by omega] at this
      exact this.symm
  intro e h1 h2
  rw [key e h1 h2, ← key e0 h0 he]
  exact hc
/-- one round -/
def RD (s U V : Nat → Bool) (b : Nat) : Prop := (∀ e, e < 10 → U e = true → V e = true) ∧ (∀ C, q_clo s C → (∀ e, e < 10 → U e = true → C e = true) → ∀ e, e < 10 → V e = true → C e = true) ∧ ∀ b', b' < b → (∃ e, e < 10 ∧ q_eb s b' e = true ∧ U e = true) → ∀ e, e < 10 → q_eb s b' e = true → V e = true
theorem x_round {x u : Int32} {s U : Nat → Bool} (hs : MK 24 x s) (hU : MK 10 u U) (k4 : Int32 → Int32 → Int32 → Option Int32) (r : Nat) : ∀ (n b : Nat) (v : Int32) (V : Nat → Bool), b ≤ 6 → 6 - b < n → MK 10 v V → RD s U V b → ∃ v' V', f_X0_tiedTo_16 k4 n x v (nI r) u (nI b) = (if v' = u then some v' else k4 x v' (nI (r + 1))) ∧ MK 10 v' V' ∧ RD s U V' 6 := by
  intro n
  induction n with
  | zero => intro b v V _ h; omega
  | succ n ih =>
    intro b v V hb hn hV hR
    obtain ⟨h1, h2, h3⟩ := hR
    rw [f_X0_tiedTo_16]
    dsimp only
    rw [f_X0_tiedTo_16b, L6, ilt (by omega) (by omega)]
    by_cases e : b < 6
    · obtain ⟨t, ht, hT⟩ := x_endsInBlock hs e
      rw [if_pos e, ht, bind_s, ite_n (hT.disj (by decide) hV)]
      by_cases q : ∃ i, i < 10 ∧ q_eb s b i = true ∧ V i = true
      · rw [if_neg (fun z => z q), wbd_e, f_X0_tiedTo_43, wbd_e, Lm1]
        refine ih (b + 1) _ _ (by omega) (by omega) (hV.or hT) ⟨fun e a c => ?_, fun C hC hc e a c => ?_, fun b' hb' hx e a c => ?_⟩
        · show (V e || q_eb s b e) = true
          rw [h1 e a c]; rfl
        · obtain ⟨i, i1, i2, i3⟩ := q
          rcases Bool.or_eq_true_iff.mp c with c | c
          · exact h2 C hC hc e a c
          · exact q_eb_in hC (by omega) i1 i2 (h2 C hC hc i i1 i3) e a c
        · show (V e || q_eb s b e) = true
          by_cases z : b' = b
          · rw [z] at c
            rw [c, Bool.or_true]
          · rw [h3 b' (by omega) hx e a c]; rfl
      · rw [if_pos q, f_X0_tiedTo_43, wbd_e, Lm1]
        refine ih (b + 1) v V (by omega) (by omega) hV ⟨h1, h2, fun b' hb' hx e a c => ?_⟩
        by_cases z : b' = b
        · subst z
          obtain ⟨i, i1, i2, i3⟩ := hx
          exact absurd ⟨i, i1, i2, h1 i i1 i3⟩ q
        · exact h3 b' (by omega) hx e a c
    · have eb : b = 6 := by omega
      subst eb
      rw [if_neg e, wbd_e, Lm1]
      exact ⟨v, V, rfl, hV, h1, h2, h3⟩
theorem RD.clo {s U V : Nat → Bool} (h : RD s U V 6) (e : ∀ i, i < 10 → V i = U i) : q_clo s U := by
  intro c hc hH
  have g := q_eb_g s c
  have b := q_eb_b (s := s) (show c / 4 < 6 by omega)
  rw [hH] at g
  cases q : U (c / 4)
  · cases q2 : U (6 + c % 4)
    · rfl
    · have := h.2.2 (c / 4) (by omega) ⟨6 + c % 4, by omega, g, q2⟩ (c / 4) (by omega) b
      rw [e _ (by omega), q] at this
      cases this
  · have := h.2.2 (c / 4) (by omega) ⟨c / 4, by omega, b, q⟩ (6 + c % 4) (by omega) g
    rw [e _ (by omega)] at this
    exact this.symm
theorem q_clo_10 {s U V : Nat → Bool} (h : q_clo s U) (e : ∀ i, i < 10 → V i = U i) : q_clo s V := fun c hc hH => by
  rw [e _ (by omega), e _ (by omega)]; exact h c hc hH
theorem x_tiedTo {x y : Int32} {s E : Nat → Bool} (hs : MK 24 x s) (hE : MK 10 y E) {a : Nat} (ha : a < 10) (hEa : E a = true) : ∃ z T, f_X0_tiedTo y x = some z ∧ MK 10 z T ∧ q_clo s T ∧ (∀ e, e < 10 → E e = true → T e = true) ∧ ∀ C, q_clo s C → (∀ e, e < 10 → E e = true → C e = true) → ∀ e, e < 10 → T e = true → C e = true := by
  have lp : ∀ (n r : Nat) (u : Int32) (U : Nat → Bool), r ≤ 10 → 11 - r < n → MK 10 u U → r + 1 ≤ q_num U 10 → (∀ e, e < 10 → E e = true → U e = true) → (∀ C, q_clo s C → (∀ e, e < 10 → E e = true → C e = true) → ∀ e, e < 10 → U e = true → C e = true) → ∃ z T, f_X0_tiedTo_4 n x u (nI r) = some z ∧ MK 10 z T ∧ q_clo s T ∧ (∀ e, e < 10 → E e = true → T e = true) ∧ ∀ C, q_clo s C → (∀ e, e < 10 → E e = true → C e = true) → ∀ e, e < 10 → T e = true → C e = true := by
    intro n
    induction n with
    | zero => intro r u U _ h; omega
    | succ n ih =>
      intro r u U hr hn hU hc h1 h2
      have h10 := q_num_le U 10
      rw [f_X0_tiedTo_4]
      dsimp only
      rw [f_X0_tiedTo_4b, L10, ilt (by omega) (by omega), if_pos (by omega), L0]
      obtain ⟨v, V, g1, g2, g3⟩ := x_round hs hU (f_X0_tiedTo_4 n) r 1000 0 u U (by omega) (by omega) hU ⟨fun _ _ h => h, fun _ _ h => h, fun b hb => by omega⟩
      rw [g1, ite_n (g2.eqv hU)]
      by_cases q : ∀ i, i < 10 → V i = U i
      · rw [if_pos q]
        have cU := g3.clo q
        exact ⟨v, V, rfl, g2, q_clo_10 cU q, fun e he h => by rw [q e he]; exact h1 e he h, fun C hC hc e he h => h2 C hC hc e he (by rw [← q e he]; exact h)⟩
      · rw [if_neg q]
        have hlt : q_num U 10 < q_num V 10 := by
          refine Nat.lt_of_not_le (fun z => q (fun i hi => ?_))
          exact (q_num_eq g3.1 z i hi).symm
        have h11 := q_num_le V 10
        exact ih (r + 1) v V (by omega) (by omega) g2 (by omega) (fun e he h => g3.1 e he (h1 e he h)) (fun C hC hc e he h => g3.2.1 C hC (h2 C hC hc) e he h)
  unfold f_X0_tiedTo
  rw [L0]
  exact lp 1000 0 y E (by omega) (by omega) hE (q_num_pos ha hEa) (fun _ _ h => h) (fun _ _ h => h)
/-- from one end -/
theorem x_tied1 {x y : Int32} {s : Nat → Bool} {a : Nat} (ha : a < 10) (hs : MK 24 x s) (hE : MK 10 y (fun e => decide (e = a))) : ∃ z, f_X0_tiedTo y x = some z ∧ MK 10 z (q_ti s a) := by
  obtain ⟨z, T, h1, h2, h3, h4, h5⟩ := x_tiedTo hs hE ha (decide_eq_true rfl)
  refine ⟨z, h1, h2.cong (fun e he => Bool.eq_iff_iff.mpr ?_)⟩
  rw [q_ti_iff ha]
  constructor
  · intro h C hC hc
    exact h5 C hC (fun j hj q => by rw [of_decide_eq_true q]; exact hc) e he h
  · intro h
    exact h T h3 (h4 a ha (decide_eq_true rfl))
theorem x_rm {x : Int32} {s : Nat → Bool} (hs : MK 24 x s) {c : Nat} (hc : c < 24) : MK 24 (x &&& ((1 <<< (nI c &&& 31)) ^^^ (-1))) (q_rm s c) := hs.dif (by decide) (MK_one hc (by decide))
theorem x_isFound {x : Int32} {s : Nat → Bool} (hs : MK 24 x s) {c : Nat} (hc : c < 24) : f_X0_isFound x (nI c) = some (if q_fd s c then 1 else 0) := by
  obtain ⟨y, h1, h2⟩ := x_blockEnd hc
  obtain ⟨g, h3, h4⟩ := x_groupEnd hc
  obtain ⟨z, h5, h6⟩ := x_tied1 (by omega) (x_rm hs hc) h2
  unfold f_X0_isFound f_X0_isFound_29
  rw [h1, bind_s, h5, bind_s, h3, bind_s, ite_n (h6.disj (by decide) h4), wgd_t okZ_0, wgd_t okZ_1]
  unfold q_fd
  cases q : q_ti (q_rm s c) (c / 4) (6 + c % 4)
  · rw [if_pos]
    · rfl
    · rintro ⟨i, i1, i2, i3⟩
      rw [of_decide_eq_true i3, q] at i2
      cases i2
  · rw [if_neg]
    · rfl
    · exact fun z => z ⟨6 + c % 4, by omega, q, decide_eq_true rfl⟩
/-- the first found cell from n on, as a number one higher; 0 for none -/
def q_ff (s : Nat → Bool) : Nat → Nat → Nat
  | 0, _ => 0
  | n + 1, c => if c < 24 then (if s c && q_fd s c then c + 1 else q_ff s n (c + 1)) else 0
def q_first (s : Nat → Bool) : Nat := q_ff s 25 0
theorem x_firstFound {x : Int32} {s : Nat → Bool} (hs : MK 24 x s) : f_X0_firstFound x = some (pe (q_first s)) := by
  have lp : ∀ (m n c : Nat), c ≤ 24 → 24 - c < n → 24 - c < m → f_X0_firstFound_2 n x (nI c) = some (pe (q_ff s m c)) := by
    intro m
    induction m with
    | zero => intro n c _ _ h; omega
    | succ m ih =>
      intro n c hc hn hm
      obtain ⟨n, rfl⟩ : ∃ q, n = q + 1 := ⟨n - 1, by omega⟩
      rw [f_X0_firstFound_2, q_ff]
      dsimp only
      rw [f_X0_firstFound_2b, L24, ilt (by omega) (by omega)]
      by_cases e : c < 24
      · rw [if_pos e, if_pos e, x_has hs e, bind_s, b_ite]
        have go : f_X0_firstFound_26 (f_X0_firstFound_2 n) x (nI c) = some (pe (q_ff s m (c + 1))) := by
          rw [f_X0_firstFound_26, wbd_e, Lm1]
          exact ih n (c + 1) (by omega) (by omega) (by omega)
        cases sc : s c
        · rw [if_neg (by decide), go]; rfl
        · rw [if_pos rfl, x_isFound hs e, bind_s, b_ite]
          cases fc : q_fd s c
          · rw [if_neg (by decide), go]; rfl
          · rw [if_pos rfl, Bool.true_and, if_pos rfl, pe_s]
      · rw [if_neg e, if_neg e]; rfl
  unfold f_X0_firstFound
  rw [L0]
  exact lp 25 1000 0 (by omega) (by omega) (by omega)
theorem q_ff_le (s : Nat → Bool) : ∀ n c, q_ff s n c = 0 ∨ (∃ j, q_ff s n c = j + 1 ∧ j < 24 ∧ s j = true ∧ q_fd s j = true)
  | 0, _ => Or.inl rfl
  | n + 1, c => by
    rw [q_ff]
    split
    · split
      · rename_i h1 h2
        obtain ⟨a, b⟩ := (Bool.and_eq_true _ _).mp h2
        exact Or.inr ⟨c, rfl, h1, a, b⟩
      · exact q_ff_le s n (c + 1)
    · exact Or.inl rfl
theorem q_ff_no {s : Nat → Bool} : ∀ n c, 24 - c < n → q_ff s n c = 0 → ∀ j, c ≤ j → j < 24 → s j = true → q_fd s j = false
  | 0, _, h, _ => by omega
  | n + 1, c, h, g => by
    intro j h1 h2 h3
    rw [q_ff] at g
    split at g
    · split at g
      · cases g
      · rename_i _ z
        by_cases e : j = c
        · subst e
          rw [h3, Bool.true_and] at z
          cases q : q_fd s j
          · rfl
          · exact absurd q z
        · exact q_ff_no n (c + 1) (by omega) g j (by omega) h2 h3
    · omega
