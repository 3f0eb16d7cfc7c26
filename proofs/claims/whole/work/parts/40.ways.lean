/-! closed ways -/
theorem q_cho_first {cn : Nat → Nat} : ∀ (n : Nat) (s t : Nat → Bool), q_cho cn n s = some t → q_first t = 0
  | 0, _, _, h => by cases h
  | n + 1, s, t, h => by
    rw [q_cho] at h
    split at h
    · rename_i z
      cases h
      exact z
    · split at h
      · cases h
      · exact q_cho_first n _ t h
theorem q_hide_no {cn : Nat → Nat} {s : Nat → Bool} (h : q_hide cn = some s) : ∀ c, c < 24 → s c = true → q_fd s c = false :=
  fun c hc => q_ff_no 25 0 (by omega) (q_cho_first 25 _ s h) c (Nat.zero_le c) hc
theorem q_num_lt {p q : Nat → Bool} {n j : Nat} (h : ∀ i, i < n → p i = true → q i = true) (hj : j < n) (h1 : q j = true) (h2 : p j = false) : q_num p n < q_num q n := by
  refine Nat.lt_of_not_le (fun z => ?_)
  have := q_num_eq h z j hj
  rw [h1, h2] at this
  cases this
theorem x_numberFound {x : Int32} {s : Nat → Bool} (hs : MK 24 x s) (h : ∀ c, c < 24 → s c = true → q_fd s c = false) : f_X0_numberFound x = some 0 := by
  have lp : ∀ (n c : Nat), c ≤ 24 → 24 - c < n → f_X0_numberFound_4 n x 0 (nI c) = some 0 := by
    intro n
    induction n with
    | zero => intro c _ h; omega
    | succ n ih =>
      intro c hc hn
      rw [f_X0_numberFound_4]
      dsimp only
      rw [f_X0_numberFound_4b, L24, ilt (by omega) (by omega)]
      by_cases e : c < 24
      · have go : f_X0_numberFound_29 (f_X0_numberFound_4 n) x 0 (nI c) = some 0 := by
          rw [f_X0_numberFound_29, wbd_e, Lm1]
          exact ih (c + 1) (by omega) (by omega)
        rw [if_pos e, x_has hs e, bind_s, b_ite]
        cases sc : s c
        · exact go
        · rw [if_pos rfl, x_isFound hs e, h c e sc]
          exact go
      · rw [if_neg e]
  unfold f_X0_numberFound
  exact lp 1000 0 (by omega) (by omega)
theorem bI_blk : ∀ c, c < 24 → ∀ i, i < 32 → bI (15 <<< ((nI c - (nI c - nI c / 4 * 4)) &&& 31)) i = (decide (i < 24) && decide (i / 4 = c / 4)) := by decide +kernel
theorem bI_grp : ∀ c, c < 24 → ∀ i, i < 32 → bI (1118481 <<< ((nI c - nI c / 4 * 4) &&& 31)) i = (decide (i < 24) && decide (i % 4 = c % 4)) := by decide +kernel
theorem x_cob {c : Nat} (hc : c < 24) : ∃ y, f_X0_cellsOfBlock (nI c) = some y ∧ MK 24 y (fun j => decide (j / 4 = c / 4)) := by
  refine ⟨_, rfl, fun i => ?_⟩
  by_cases q : i < 32
  · exact bI_blk c hc i q
  · rw [bI_ge _ (by omega), decide_eq_false (show ¬ i < 24 by omega), Bool.false_and]
theorem x_cog {c : Nat} (hc : c < 24) : ∃ y, f_X0_cellsOfGroup (nI c) = some y ∧ MK 24 y (fun j => decide (j % 4 = c % 4)) := by
  refine ⟨_, rfl, fun i => ?_⟩
  by_cases q : i < 32
  · exact bI_grp c hc i q
  · rw [bI_ge _ (by omega), decide_eq_false (show ¬ i < 24 by omega), Bool.false_and]
/-- beside a cell: in its block, or in its group -/
def q_by (b : Bool) (c j : Nat) : Bool := if b then decide (j / 4 = c / 4) else decide (j % 4 = c % 4)
theorem x_besides {x : Int32} {f : Nat → Bool} (hx : MK 24 x f) (b : Bool) : ∃ z, f_X0_besides x (if b then 1 else 0) = some z ∧ MK 24 z (fun j => q_any 24 (fun c => f c && q_by b c j)) := by
  have lp : ∀ (n c : Nat) (u : Int32), c ≤ 24 → 24 - c < n → MK 24 u (fun j => q_any c (fun c => f c && q_by b c j)) → ∃ z, f_X0_besides_4 n x (if b then 1 else 0) u (nI c) = some z ∧ MK 24 z (fun j => q_any 24 (fun c => f c && q_by b c j)) := by
    intro n
    induction n with
    | zero => intro c u _ h; omega
    | succ n ih =>
      intro c u hc hn hu
      rw [f_X0_besides_4]
      dsimp only
      rw [f_X0_besides_4b, L24, ilt (by omega) (by omega)]
      by_cases e : c < 24
      · have go : ∀ u', MK 24 u' (fun j => q_any (c + 1) (fun c => f c && q_by b c j)) → ∃ z, f_X0_besides_36 (f_X0_besides_4 n) x (if b then 1 else 0) u' (nI c) = some z ∧ MK 24 z (fun j => q_any 24 (fun c => f c && q_by b c j)) := by
          intro u' a
          rw [f_X0_besides_36, wbd_e, Lm1]
          exact ih (c + 1) u' (by omega) (by omega) a
        rw [if_pos e, x_has hx e, bind_s, b_ite]
        cases fc : f c
        · exact go u (hu.cong (fun j hj => by rw [q_any, fc, Bool.false_and, Bool.or_false]))
        · rw [if_pos rfl, b_ite]
          cases b
          · obtain ⟨y, y1, y2⟩ := x_cog e
            rw [if_neg (by decide), y1, bind_s, f_X0_besides_34, wbd_e]
            exact go _ ((hu.or y2).cong (fun j hj => by rw [q_any, fc, Bool.true_and]; rfl))
          · obtain ⟨y, y1, y2⟩ := x_cob e
            rw [if_pos rfl, y1, bind_s, f_X0_besides_34, wbd_e]
            exact go _ ((hu.or y2).cong (fun j hj => by rw [q_any, fc, Bool.true_and]; rfl))
      · have ec : c = 24 := by omega
        subst ec
        rw [if_neg e]
        exact ⟨u, rfl, hu⟩
  unfold f_X0_besides
  exact lp 1000 0 0 (by omega) (by omega) (MK_0 24)
def WI (s : Nat → Bool) (o st : Nat) (U F : Nat → Bool) : Prop :=
  (s o = true ∧ U o = false) ∧ (∀ c, c < 24 → U c = true → s c = true) ∧ (∀ c, c < 24 → F c = true → s c = true ∧ U c = false) ∧
  (∀ c, c < 24 → s c = true → U c = false → F c = false → ∀ j, j < 24 → s j = true → j / 4 = c / 4 → U j = false) ∧
  (∀ c, c < 24 → s c = true → U c = false → F c = false → c ≠ o → ∀ j, j < 24 → s j = true → j % 4 = c % 4 → U j = false) ∧
  (st % 2 = 0 → ∀ c, c < 24 → F c = true → c ≠ o → ∀ j, j < 24 → s j = true → j % 4 = c % 4 → U j = false) ∧
  (st % 2 = 1 → ∀ c, c < 24 → F c = true → c ≠ o ∧ ∀ j, j < 24 → s j = true → j / 4 = c / 4 → U j = false) ∧
  (∀ c, c < 24 → s c = true → U c = false → c ≠ o → c % 4 ≠ o % 4) ∧
  ((∃ c, c < 24 ∧ F c = true) → q_num U 24 + st ≤ 23)
def q_f1 (b : Bool) (U F : Nat → Bool) : Nat → Bool := fun j => q_any 24 (fun c => F c && q_by b c j) && U j
def q_u1 (b : Bool) (U F : Nat → Bool) : Nat → Bool := fun j => U j && !(q_f1 b U F j)
theorem q_f1_of {b : Bool} {U F : Nat → Bool} {c j : Nat} (hc : c < 24) (h1 : F c = true) (h2 : q_by b c j = true) (h3 : U j = true) : q_f1 b U F j = true := by
  unfold q_f1
  rw [h3, Bool.and_true]
  exact q_any_of hc (by rw [h1, h2]; rfl)
theorem q_f1_ex {b : Bool} {U F : Nat → Bool} {j : Nat} (h : q_f1 b U F j = true) : U j = true ∧ ∃ c, c < 24 ∧ F c = true ∧ q_by b c j = true := by
  obtain ⟨h1, h2⟩ := (Bool.and_eq_true _ _).mp h
  obtain ⟨c, c1, c2⟩ := q_any_iff.mp h1
  obtain ⟨c3, c4⟩ := (Bool.and_eq_true _ _).mp c2
  exact ⟨h2, c, c1, c3, c4⟩
theorem q_u1_f {b : Bool} {U F : Nat → Bool} {j : Nat} (h : U j = true → q_f1 b U F j = true) : q_u1 b U F j = false := by
  unfold q_u1
  cases q : U j
  · rfl
  · rw [h q]; rfl
theorem q_u1_o {b : Bool} {U F : Nat → Bool} {j : Nat} (h : q_u1 b U F j = false) (g : q_f1 b U F j = false) : U j = false := by
  unfold q_u1 at h
  rw [g] at h
  cases q : U j
  · rfl
  · rw [q] at h; cases h
theorem WI.even {s : Nat → Bool} {o st : Nat} {U F : Nat → Bool} (h : WI s o st U F) (e : st % 2 = 0) (hno : ∀ c, c < 24 → q_f1 true U F c = true → c % 4 ≠ o % 4) : WI s o (st + 1) (q_u1 true U F) (q_f1 true U F) := by
  obtain ⟨⟨a1, a2⟩, b1, b2, hc, hd, he, hf, hg, hh⟩ := h
  have dn : ∀ j, U j = false → q_u1 true U F j = false := fun j q => q_u1_f (fun z => by rw [q] at z; cases z)
  refine ⟨⟨a1, dn o a2⟩, fun c h1 h2 => b1 c h1 ((Bool.and_eq_true _ _).mp h2).1, fun c h1 h2 => ⟨b1 c h1 (q_f1_ex h2).1, q_u1_f (fun _ => h2)⟩, ?_, ?_, fun z => by omega, ?_, ?_, ?_⟩
  · intro c h1 h2 h3 h4 j j1 j2 j3
    have u := q_u1_o h3 h4
    cases fc : F c
    · exact dn j (hc c h1 h2 u fc j j1 j2 j3)
    · exact q_u1_f (fun z => q_f1_of h1 fc (decide_eq_true j3) z)
  · intro c h1 h2 h3 h4 h5 j j1 j2 j3
    have u := q_u1_o h3 h4
    cases fc : F c
    · exact dn j (hd c h1 h2 u fc h5 j j1 j2 j3)
    · exact dn j (he e c h1 fc h5 j j1 j2 j3)
  · intro _ c h1 h2
    obtain ⟨u, c0, d1, d2, d3⟩ := q_f1_ex h2
    have d3 : c / 4 = c0 / 4 := of_decide_eq_true d3
    refine ⟨fun z => (by rw [z, a2] at u; cases u), fun j j1 j2 j3 => q_u1_f (fun z => q_f1_of d1 d2 (decide_eq_true (j3.trans d3)) z)⟩
  · intro c h1 h2 h3 h4
    cases q : q_f1 true U F c
    · exact hg c h1 h2 (q_u1_o h3 q) h4
    · exact hno c h1 q
  · rintro ⟨c, h1, h2⟩
    obtain ⟨u, c0, d1, d2, _⟩ := q_f1_ex h2
    have := q_num_lt (p := q_u1 true U F) (q := U) (n := 24) (j := c) (fun i _ z => ((Bool.and_eq_true _ _).mp z).1) h1 u (q_u1_f (fun _ => h2))
    have := hh ⟨c0, d1, d2⟩
    omega
theorem WI.odd {s : Nat → Bool} {o st : Nat} {U F : Nat → Bool} (h : WI s o st U F) (e : st % 2 = 1) : WI s o (st + 1) (q_u1 false U F) (q_f1 false U F) := by
  obtain ⟨⟨a1, a2⟩, b1, b2, hc, hd, he, hf, hg, hh⟩ := h
  have dn : ∀ j, U j = false → q_u1 false U F j = false := fun j q => q_u1_f (fun z => by rw [q] at z; cases z)
  refine ⟨⟨a1, dn o a2⟩, fun c h1 h2 => b1 c h1 ((Bool.and_eq_true _ _).mp h2).1, fun c h1 h2 => ⟨b1 c h1 (q_f1_ex h2).1, q_u1_f (fun _ => h2)⟩, ?_, ?_, ?_, fun z => by omega, ?_, ?_⟩
  · intro c h1 h2 h3 h4 j j1 j2 j3
    have u := q_u1_o h3 h4
    cases fc : F c
    · exact dn j (hc c h1 h2 u fc j j1 j2 j3)
    · exact dn j ((hf e c h1 fc).2 j j1 j2 j3)
  · intro c h1 h2 h3 h4 h5 j j1 j2 j3
    have u := q_u1_o h3 h4
    cases fc : F c
    · exact dn j (hd c h1 h2 u fc h5 j j1 j2 j3)
    · exact q_u1_f (fun z => q_f1_of h1 fc (decide_eq_true j3) z)
  · intro _ c h1 h2 _ j j1 j2 j3
    obtain ⟨u, c0, d1, d2, d3⟩ := q_f1_ex h2
    have d3 : c % 4 = c0 % 4 := of_decide_eq_true d3
    exact q_u1_f (fun z => q_f1_of d1 d2 (decide_eq_true (j3.trans d3)) z)
  · intro c h1 h2 h3 h4
    cases q : q_f1 false U F c
    · exact hg c h1 h2 (q_u1_o h3 q) h4
    · obtain ⟨u, c0, d1, d2, d3⟩ := q_f1_ex q
      have d3 : c % 4 = c0 % 4 := of_decide_eq_true d3
      rw [d3]
      exact hg c0 d1 (b2 c0 d1 d2).1 (b2 c0 d1 d2).2 (hf e c0 d1 d2).1
  · rintro ⟨c, h1, h2⟩
    obtain ⟨u, c0, d1, d2, _⟩ := q_f1_ex h2
    have := q_num_lt (p := q_u1 false U F) (q := U) (n := 24) (j := c) (fun i _ z => ((Bool.and_eq_true _ _).mp z).1) h1 u (q_u1_f (fun _ => h2))
    have := hh ⟨c0, d1, d2⟩
    omega
theorem WI.fin {s : Nat → Bool} {o st : Nat} {U F : Nat → Bool} (ho : o < 24) (h : WI s o st U F) (e : ¬ ∃ c, c < 24 ∧ F c = true) : q_fd s o = true := by
  obtain ⟨⟨a1, a2⟩, b1, b2, hc, hd, he, hf, hg, hh⟩ := h
  have f0 : ∀ c, c < 24 → F c = false := by
    intro c hc
    cases q : F c
    · rfl
    · exact absurd ⟨c, hc, q⟩ e
  rw [q_fd_iff s ho]
  intro hr
  have := hr (fun e => if e < 6 then q_any 24 (fun c => (s c && !(U c)) && decide (c / 4 = e)) else q_any 24 (fun c => ((s c && !(U c)) && decide (c ≠ o)) && decide (6 + c % 4 = e))) (by
    intro c h1 h2
    have hs : s c = true := ((Bool.and_eq_true _ _).mp h2).1
    have hne : c ≠ o := by
      intro z
      have := ((Bool.and_eq_true _ _).mp h2).2
      rw [decide_eq_true z] at this
      cases this
    show (if c / 4 < 6 then q_any 24 (fun j => (s j && !(U j)) && decide (j / 4 = c / 4)) else _) = (if 6 + c % 4 < 6 then _ else q_any 24 (fun j => ((s j && !(U j)) && decide (j ≠ o)) && decide (6 + j % 4 = 6 + c % 4)))
    rw [if_pos (by omega), if_neg (by omega)]
    have one : U c = false → q_any 24 (fun j => (s j && !(U j)) && decide (j / 4 = c / 4)) = true ∧ q_any 24 (fun j => ((s j && !(U j)) && decide (j ≠ o)) && decide (6 + j % 4 = 6 + c % 4)) = true := fun u =>
      ⟨q_any_of h1 (by rw [hs, u, decide_eq_true (show c / 4 = c / 4 from rfl)]; rfl), q_any_of h1 (by rw [hs, u, decide_eq_true hne, decide_eq_true (show 6 + c % 4 = 6 + c % 4 from rfl)]; rfl)⟩
    cases u : U c
    · rw [(one u).1, (one u).2]
    · rw [q_any_no (fun j hj => ?_), q_any_no (fun j hj => ?_)]
      · cases z : ((s j && !(U j)) && decide (j ≠ o)) && decide (6 + j % 4 = 6 + c % 4)
        · rfl
        · obtain ⟨z1, z2⟩ := (Bool.and_eq_true _ _).mp z
          obtain ⟨z1, z3⟩ := (Bool.and_eq_true _ _).mp z1
          obtain ⟨z1, z4⟩ := (Bool.and_eq_true _ _).mp z1
          have := hd j hj z1 (by simpa using z4) (f0 j hj) (of_decide_eq_true z3) c h1 hs (by have := of_decide_eq_true z2; omega)
          rw [u] at this; cases this
      · cases z : (s j && !(U j)) && decide (j / 4 = c / 4)
        · rfl
        · obtain ⟨z1, z2⟩ := (Bool.and_eq_true _ _).mp z
          obtain ⟨z1, z4⟩ := (Bool.and_eq_true _ _).mp z1
          have := hc j hj z1 (by simpa using z4) (f0 j hj) c h1 hs (of_decide_eq_true z2).symm
          rw [u] at this; cases this) (by
    show (if o / 4 < 6 then q_any 24 (fun j => (s j && !(U j)) && decide (j / 4 = o / 4)) else _) = true
    rw [if_pos (by omega)]
    exact q_any_of ho (by rw [a1, a2, decide_eq_true (show o / 4 = o / 4 from rfl)]; rfl))
  have this : (if 6 + o % 4 < 6 then _ else q_any 24 (fun j => ((s j && !(U j)) && decide (j ≠ o)) && decide (6 + j % 4 = 6 + o % 4))) = true := this
  rw [if_neg (by omega)] at this
  obtain ⟨j, j1, j2⟩ := q_any_iff.mp this
  obtain ⟨z1, z2⟩ := (Bool.and_eq_true _ _).mp j2
  obtain ⟨z1, z3⟩ := (Bool.and_eq_true _ _).mp z1
  obtain ⟨z1, z4⟩ := (Bool.and_eq_true _ _).mp z1
  exact hg j j1 z1 (by simpa using z4) (of_decide_eq_true z3) (by have := of_decide_eq_true z2; omega)
theorem x_closedWay {x : Int32} {s : Nat → Bool} (hs : MK 24 x s) {o : Nat} (ho : o < 24) (h1 : s o = true) (h2 : q_fd s o = false) : f_X0_hasClosedWay x (nI o) = some 1 := by
  have lp : ∀ (n st : Nat) (u f : Int32) (U F : Nat → Bool), st ≤ 24 → 24 - st < n → MK 24 u U → MK 24 f F → WI s o st U F → f_X0_hasClosedWay_15 n (nI o) u f (nI st) = some 1 := by
    intro n
    induction n with
    | zero => intro st u f U F _ h; omega
    | succ n ih =>
      intro st u f U F hst hn hu hf hw
      have some1 : ∃ c, c < 24 ∧ F c = true := by
        refine Classical.byContradiction (fun z => ?_)
        have := hw.fin ho z
        rw [h2] at this; cases this
      have h23 := hw.2.2.2.2.2.2.2.2 some1
      rw [f_X0_hasClosedWay_15]
      dsimp only
      rw [f_X0_hasClosedWay_15b, L24, ilt (by omega) (by omega), if_pos (by omega), if_neg (by
        rw [hf.eq0 (by decide)]
        obtain ⟨c, c1, c2⟩ := some1
        intro z
        rw [z c c1] at c2; cases c2), L2, pk_rem (by omega) (by omega) (by omega), L0, ieq (by omega) (by omega)]
      have nextU : ∀ (b : Bool) {y : Int32}, MK 24 y (fun j => q_any 24 (fun c => F c && q_by b c j)) → MK 24 (y &&& u) (q_f1 b U F) ∧ MK 24 (u &&& ((y &&& u) ^^^ (-1))) (q_u1 b U F) := fun b y hy => ⟨hy.and hu, hu.dif (by decide) (hy.and hu)⟩
      by_cases p : st % 2 = 0
      · obtain ⟨y, y1, y2⟩ := x_besides hf true
        have y1 : f_X0_besides f 1 = some y := y1
        obtain ⟨n1, n2⟩ := nextU true y2
        obtain ⟨g, g1, g2⟩ := x_cog ho
        rw [if_pos p, f_X0_hasClosedWay_38, y1, bind_s, wbd_e, wbd_e, if_neg (by decide), g1, bind_s, ite_n (n1.disj (by decide) g2)]
        by_cases q : ∃ i, i < 24 ∧ q_f1 true U F i = true ∧ decide (i % 4 = o % 4) = true
        · rw [if_neg (fun z => z q)]
        · rw [if_pos q, f_X0_hasClosedWay_71, wbd_e, Lm1]
          exact ih (st + 1) _ _ _ _ (by omega) (by omega) n2 n1 (hw.even p (fun c c1 c2 c3 => q ⟨c, c1, c2, decide_eq_true c3⟩))
      · obtain ⟨y, y1, y2⟩ := x_besides hf false
        have y1 : f_X0_besides f 0 = some y := y1
        obtain ⟨n1, n2⟩ := nextU false y2
        rw [if_neg p, f_X0_hasClosedWay_38, ← L0, y1, bind_s, wbd_e, wbd_e, if_pos rfl, f_X0_hasClosedWay_71, wbd_e, Lm1]
        exact ih (st + 1) _ _ _ _ (by omega) (by omega) n2 n1 (hw.odd (by omega))
  unfold f_X0_hasClosedWay
  rw [wbd_e, wbd_e, L0]
  refine lp 1000 0 _ _ (q_rm s o) (fun j => decide (j = o)) (by omega) (by omega) (x_rm hs ho) (MK_one ho (by decide)) ?_
  have uo : ∀ c, q_rm s o c = true → s c = true ∧ c ≠ o := by
    intro c z
    obtain ⟨z1, z2⟩ := (Bool.and_eq_true _ _).mp z
    exact ⟨z1, fun w => by rw [decide_eq_true w] at z2; cases z2⟩
  have no : ∀ c, s c = true → q_rm s o c = false → c = o := by
    intro c z1 z2
    refine Classical.byContradiction (fun w => ?_)
    unfold q_rm at z2
    rw [z1, decide_eq_false w] at z2
    cases z2
  have oo : q_rm s o o = false := by unfold q_rm; rw [decide_eq_true rfl]; simp
  refine ⟨⟨h1, oo⟩, fun c _ z => (uo c z).1, fun c _ z => ?_, fun c c1 c2 c3 c4 => ?_, fun c c1 c2 c3 c4 => ?_, fun _ c c1 c2 c3 => ?_, fun z => by omega, fun c c1 c2 c3 c4 => absurd (no c c2 c3) c4, fun _ => ?_⟩
  · rw [of_decide_eq_true z]; exact ⟨h1, oo⟩
  · have c4 : decide (c = o) = false := c4
    rw [decide_eq_true (no c c2 c3)] at c4; cases c4
  · have c4 : decide (c = o) = false := c4
    rw [decide_eq_true (no c c2 c3)] at c4; cases c4
  · exact absurd (of_decide_eq_true c2) c3
  · have := q_num_lt (p := q_rm s o) (q := fun _ => true) (n := 24) (j := o) (fun _ _ _ => rfl) ho rfl oo
    have := q_num_le (fun _ => true) 24
    omega
theorem x_numberWithoutWay {x : Int32} {s : Nat → Bool} (hs : MK 24 x s) (h : ∀ c, c < 24 → s c = true → q_fd s c = false) : f_X0_numberWithoutWay x = some 0 := by
  have lp : ∀ (n c : Nat), c ≤ 24 → 24 - c < n → f_X0_numberWithoutWay_4 n x 0 (nI c) = some 0 := by
    intro n
    induction n with
    | zero => intro c _ h; omega
    | succ n ih =>
      intro c hc hn
      rw [f_X0_numberWithoutWay_4]
      dsimp only
      rw [f_X0_numberWithoutWay_4b, L24, ilt (by omega) (by omega)]
      by_cases e : c < 24
      · have go : f_X0_numberWithoutWay_29 (f_X0_numberWithoutWay_4 n) x 0 (nI c) = some 0 := by
          rw [f_X0_numberWithoutWay_29, wbd_e, Lm1]
          exact ih (c + 1) (by omega) (by omega)
        rw [if_pos e, x_has hs e, bind_s, b_ite]
        cases sc : s c
        · exact go
        · rw [if_pos rfl, x_closedWay hs e sc (h c e sc)]
          exact go
      · rw [if_neg e]
  unfold f_X0_numberWithoutWay
  exact lp 1000 0 (by omega) (by omega)
