/-! blocks split and joined -/
def q_mv (d : mD) (b to fr : Nat) : mD := ((q_nb d, q_na d, fun i => if fr ≤ i ∧ q_bl d i = b then to else q_bl d i), d.2)
def q_mvn (d : mD) (b fr : Nat) : Nat := q_num (fun i => decide (fr ≤ i) && decide (q_bl d i = b)) (q_na d)
theorem x_move {d : mD} {X : wM} (na : X 1 2 = nI (q_na d)) (bl : ∀ i, i < q_na d → X 2 i = nI (q_bl d i)) (w2 : q_na d ≤ 20) (w3 : ∀ i, i < q_na d → q_bl d i < 7) {b to fr : Nat} (hb : b < 7) (hfr : fr ≤ 20) : ∃ X', f_X4_move X (nI b) (nI fr) (nI to) = some (nI (q_mvn d b fr), X') ∧ (∀ k, k ≠ 2 → X' k = X k) ∧ ∀ i, i < q_na d → X' 2 i = nI (q_bl (q_mv d b to fr) i) := by
  have lp : ∀ (n i : Nat) (Z : wM), fr ≤ i → i ≤ 20 → 20 - i < n → (∀ k, k ≠ 2 → Z k = X k) → (∀ j, j < i → j < q_na d → Z 2 j = nI (q_bl (q_mv d b to fr) j)) → (∀ j, i ≤ j → j < q_na d → Z 2 j = nI (q_bl d j)) → ∃ X', f_X4_move_6 n Z (nI b) (nI to) (nI (q_num (fun i => decide (fr ≤ i) && decide (q_bl d i = b)) (min i (q_na d)))) (nI i) = some (nI (q_mvn d b fr), X') ∧ (∀ k, k ≠ 2 → X' k = X k) ∧ ∀ i, i < q_na d → X' 2 i = nI (q_bl (q_mv d b to fr) i) := by
    intro n
    induction n with
    | zero => intro i Z _ _ h; omega
    | succ n ih =>
      intro i Z hfi hi hn hz hlo hhi
      rw [f_X4_move_6]
      dsimp only
      rw [f_X4_move_6b, hz 1 (by decide), na, ilt (by omega) (by omega)]
      by_cases e : i < q_na d
      · have b1 := w3 i e
        have m1 : min i (q_na d) = i := by omega
        have m2 : min (i + 1) (q_na d) = i + 1 := by omega
        rw [if_pos e, wget_n (by omega) (by omega), hhi i (Nat.le_refl i) e, ieq (by omega) (by omega), m1]
        by_cases q : q_bl d i = b
        · rw [if_pos q, wput_n (by omega) (by omega), wbd_e, Lm1, f_X4_move_37, wbd_e, Lm1]
          have hh := ih (i + 1) (updM Z 2 (upd (Z 2) i (nI to))) (by omega) (by omega) (by omega) (fun k a => by rw [updM_ne _ _ a]; exact hz k a) (fun j hj hj2 => by
            rw [updM_s]
            by_cases z : j = i
            · subst z
              rw [upd_s]
              show _ = nI (if fr ≤ j ∧ q_bl d j = b then to else q_bl d j)
              rw [if_pos ⟨hfi, q⟩]
            · rw [upd_n _ _ z]
              exact hlo j (by omega) hj2) (fun j hj hj2 => by rw [updM_s, upd_n _ _ (by omega)]; exact hhi j (by omega) hj2)
          rw [m2, q_num, decide_eq_true hfi, decide_eq_true q] at hh
          exact hh
        · rw [if_neg q, f_X4_move_37, wbd_e, Lm1]
          have hh := ih (i + 1) Z (by omega) (by omega) (by omega) hz (fun j hj hj2 => by
            by_cases z : j = i
            · subst z
              rw [hhi j (Nat.le_refl j) hj2]
              show _ = nI (if fr ≤ j ∧ q_bl d j = b then to else q_bl d j)
              rw [if_neg (fun w => q w.2)]
            · exact hlo j (by omega) hj2) (fun j hj hj2 => hhi j (by omega) hj2)
          rw [m2, q_num, decide_eq_true hfi, decide_eq_false q] at hh
          exact hh
      · rw [if_neg e, show min i (q_na d) = q_na d by omega]
        exact ⟨Z, rfl, hz, fun j hj => hlo j (by omega) hj⟩
  have z0 : ∀ m, m ≤ fr → q_num (fun i => decide (fr ≤ i) && decide (q_bl d i = b)) m = 0 := by
    intro m
    induction m with
    | zero => intro _; rfl
    | succ m ih => intro hm; rw [q_num, ih (by omega), decide_eq_false (show ¬ fr ≤ m by omega)]; rfl
  have g := lp 1000 fr X (Nat.le_refl _) hfr (by omega) (fun _ _ => rfl) (fun j hj hj2 => by
    rw [bl j hj2]
    show _ = nI (if fr ≤ j ∧ q_bl d j = b then to else q_bl d j)
    rw [if_neg (fun w => by omega)]) (fun j _ hj => bl j hj)
  rw [z0 _ (by omega)] at g
  exact g
theorem RX.mv {d : mD} {X X' : wM} (h : RX d X) {b to fr : Nat} (e : ∀ k, k ≠ 2 → X' k = X k) (e2 : ∀ i, i < q_na d → X' 2 i = nI (q_bl (q_mv d b to fr) i)) : RX (q_mv d b to fr) X' := by
  obtain ⟨r1, r2, r3, r4⟩ := h
  refine ⟨by rw [e 1 (by decide)]; exact r1, by rw [e 1 (by decide)]; exact r2, e2, ?_⟩
  rw [e 3 (by decide), e 4 (by decide), e 5 (by decide), e 6 (by decide), e 7 (by decide), e 8 (by decide), e 9 (by decide)]
  exact r4
theorem q_ok.mv {d : mD} (w : q_ok d) {b to fr : Nat} (ht : to < q_nb d) : q_ok (q_mv d b to fr) := by
  obtain ⟨w1, w2, w3, w4⟩ := w
  refine ⟨w1, w2, fun i hi => ?_, w4⟩
  show (if fr ≤ i ∧ q_bl d i = b then to else q_bl d i) < q_nb d
  split
  · exact ht
  · exact w3 i hi
theorem RY.mv {d : mD} {Y Y' : wM} (h : RY d Y) {b to fr : Nat} (e : ∀ k, 24 ≤ k → k ≤ 30 → Y' k = Y k) (e1 : ∀ j, 15 ≤ j → j ≤ 23 → Y' 22 j = Y 22 j) (e2 : ∀ i, i < q_na d → Y' 23 i = nI (q_bl (q_mv d b to fr) i)) : RY (q_mv d b to fr) Y' := by
  obtain ⟨r1, r2, r3, r4⟩ := h
  refine ⟨by rw [e1 15 (by decide) (by decide)]; exact r1, by rw [e1 16 (by decide) (by decide)]; exact r2, e2, ?_⟩
  rw [e1 17 (by decide) (by decide), e1 19 (by decide) (by decide), e1 20 (by decide) (by decide), e1 21 (by decide) (by decide), e1 22 (by decide) (by decide), e1 23 (by decide) (by decide), e 24 (by decide) (by decide), e 25 (by decide) (by decide), e 26 (by decide) (by decide), e 29 (by decide) (by decide), e 30 (by decide) (by decide)]
  exact r4
theorem y_join {d : mD} {Y : wM} (na : Y 22 16 = nI (q_na d)) (bl : ∀ i, i < q_na d → Y 23 i = nI (q_bl d i)) (w2 : q_na d ≤ 20) (w3 : ∀ i, i < q_na d → q_bl d i < 7) {b to : Nat} (hb : b < 7) : ∃ Y', (f_X8_join_48 1000 Y (nI b) (nI to) (nI 0) (nI 0) = (f_X8_looks Y').bind fun y => some (nI (q_mvn d b 0), y.2)) ∧ (∀ k, k ≠ 23 → Y' k = Y k) ∧ ∀ i, i < q_na d → Y' 23 i = nI (q_bl (q_mv d b to 0) i) := by
  have lp : ∀ (n i : Nat) (Z : wM), i ≤ q_na d → q_na d - i < n → (∀ k, k ≠ 23 → Z k = Y k) → (∀ j, j < i → Z 23 j = nI (q_bl (q_mv d b to 0) j)) → (∀ j, i ≤ j → j < q_na d → Z 23 j = nI (q_bl d j)) → ∃ Y', (f_X8_join_48 n Z (nI b) (nI to) (nI (q_num (fun i => decide (0 ≤ i) && decide (q_bl d i = b)) i)) (nI i) = (f_X8_looks Y').bind fun y => some (nI (q_mvn d b 0), y.2)) ∧ (∀ k, k ≠ 23 → Y' k = Y k) ∧ ∀ i, i < q_na d → Y' 23 i = nI (q_bl (q_mv d b to 0) i) := by
    intro n
    induction n with
    | zero => intro i Z _ h; omega
    | succ n ih =>
      intro i Z hi hn hz hlo hhi
      rw [f_X8_join_48]
      dsimp only
      rw [f_X8_join_48b, hz 22 (by decide), na, ilt (by omega) (by omega)]
      by_cases e : i < q_na d
      · have b1 := w3 i e
        rw [if_pos e, wget_n (by omega) (by omega), hhi i (Nat.le_refl i) e, ieq (by omega) (by omega)]
        by_cases q : q_bl d i = b
        · rw [if_pos q, wput_n (by omega) (by omega), wbd_e, Lm1, f_X8_join_82, wbd_e, Lm1]
          have hh := ih (i + 1) (updM Z 23 (upd (Z 23) i (nI to))) (by omega) (by omega) (fun k a => by rw [updM_ne _ _ a]; exact hz k a) (fun j hj => by
            rw [updM_s]
            by_cases z : j = i
            · subst z
              rw [upd_s]
              show _ = nI (if 0 ≤ j ∧ q_bl d j = b then to else q_bl d j)
              rw [if_pos ⟨Nat.zero_le _, q⟩]
            · rw [upd_n _ _ z]
              exact hlo j (by omega)) (fun j hj hj2 => by rw [updM_s, upd_n _ _ (by omega)]; exact hhi j (by omega) hj2)
          rw [q_num, decide_eq_true (Nat.zero_le i), decide_eq_true q] at hh
          exact hh
        · rw [if_neg q, f_X8_join_82, wbd_e, Lm1]
          have hh := ih (i + 1) Z (by omega) (by omega) hz (fun j hj => by
            by_cases z : j = i
            · subst z
              rw [hhi j (Nat.le_refl j) (by omega)]
              show _ = nI (if 0 ≤ j ∧ q_bl d j = b then to else q_bl d j)
              rw [if_neg (fun w => q w.2)]
            · exact hlo j (by omega)) (fun j hj hj2 => hhi j (by omega) hj2)
          rw [q_num, decide_eq_true (Nat.zero_le i), decide_eq_false q] at hh
          exact hh
      · have ei : i = q_na d := by omega
        subst ei
        rw [if_neg e]
        exact ⟨Z, rfl, hz, hlo⟩
  exact lp 1000 0 Y (by omega) (by omega) (fun _ _ => rfl) (fun j hj => by omega) (fun j _ hj => bl j hj)
theorem op_join {d : mD} {T : mT} {X Y : wM} (h : INV d T X Y) (a b : Int32) : OM (fun e => if e = 2 then 1 else if e = 1 then 2 else 0) (f_X7_join X a b) (f_X8_join Y a b) := by
  have hw := h.w
  have w1 := hw.1
  unfold f_X7_join f_X8_join f_X8_join_17 f_X8_join_31
  rw [x_needBlock h.x hw, x_needBlock h.x hw, y_isBlock h.y hw, bind_s, b_ite]
  cases ha : inb a (q_nb d)
  · exact OM.bad h 2 1 (by decide) (by decide) rfl rfl 0 rfl
  · rw [if_pos rfl, if_pos rfl, wthr_r, y_isBlock h.y hw, bind_s, b_ite]
    cases hb : inb b (q_nb d)
    · exact OM.bad h 2 1 (by decide) (by decide) rfl rfl 0 rfl
    · rw [if_pos rfl, if_pos rfl, wthr_r]
      by_cases e : a = b
      · rw [if_pos e, if_pos e]
        exact OM.bad h 1 2 (by decide) (by decide) rfl rfl 0 rfl
      · rw [if_neg e, if_neg e]
        obtain ⟨a, ha2, rfl⟩ := inb_ex ha
        obtain ⟨b, hb2, rfl⟩ := inb_ex hb
        obtain ⟨v1, v2, v3, v4⟩ := hw
        obtain ⟨X1, x1, x2, x3⟩ := x_move (b := a) (to := b) (fr := 0) h.x.2.1 h.x.2.2.1 v2 (fun i hi => by have := v3 i hi; omega) (by omega) (by omega)
        obtain ⟨Y1, y1, y2, y3⟩ := y_join (d := d) (Y := thr Y 0) (b := a) (to := b) (by rw [thr_f Y 0 (by decide)]; exact h.y.2.1) (fun i hi => by rw [thr_o Y 0 (by decide)]; exact h.y.2.2.1 i hi) v2 (fun i hi => by have := v3 i hi; omega) (by omega)
        have yo : ∀ k, k ≠ 23 → k ≠ 22 → Y1 k = Y k := fun k a b => by rw [y2 k a, thr_o Y 0 b]
        have yf : ∀ j, j ≠ 14 → Y1 22 j = Y 22 j := fun j a => by rw [y2 22 (by decide), thr_f Y 0 a]
        refine OM.set (PRE.of h (h.w.mv hb2) (h.x.mv x2 x3) (h.y.mv (fun k p q => yo k (by omega) (by omega)) (fun j p q => yf j (by omega)) y3) (fun k a => x2 k (by omega)) (fun k a _ _ => yo k (by omega) (by omega)) (yf 18 (by decide))) (by rw [y2 22 (by decide)]; exact thr_14 Y 0) (fun n X' Y' p1 p2 p3 => ?_)
        refine ⟨nI (q_mvn d a 0), ?_, ?_⟩
        · rw [L0, x1, bind_s]
          dsimp only
          rw [p1, bind_s]
        · rw [wfld14, thr_14, if_neg i01]
          exact y1.trans (by rw [p2, bind_s])
def q_sp (d : mD) (b fr : Nat) : mD := ((q_nb d + 1, q_na d, fun i => if fr ≤ i ∧ q_bl d i = b then q_nb d else q_bl d i), d.2)
theorem y_split {d : mD} {Y : wM} (na : Y 22 16 = nI (q_na d)) (nb : Y 22 15 = nI (q_nb d)) (bl : ∀ i, i < q_na d → Y 23 i = nI (q_bl d i)) (w2 : q_na d ≤ 20) (w3 : ∀ i, i < q_na d → q_bl d i < 7) {b fr : Nat} (hb : b < 7) (hfr : fr < q_na d) : ∃ Y', (f_X8_split_69 1000 Y (nI b) (nI fr) = (f_X8_looks Y').bind fun y => some ((y.2 22 15) - 1, y.2)) ∧ (∀ k, k ≠ 23 → k ≠ 22 → Y' k = Y k) ∧ (Y' 22 = upd (Y 22) 15 (nI (q_nb d + 1))) ∧ ∀ i, i < q_na d → Y' 23 i = nI (q_bl (q_sp d b fr) i) := by
  have lp : ∀ (n i : Nat) (Z : wM), fr ≤ i → i ≤ q_na d → q_na d - i < n → (∀ k, k ≠ 23 → Z k = Y k) → (∀ j, j < i → Z 23 j = nI (q_bl (q_sp d b fr) j)) → (∀ j, i ≤ j → j < q_na d → Z 23 j = nI (q_bl d j)) → ∃ Y', (f_X8_split_69 n Z (nI b) (nI i) = (f_X8_looks Y').bind fun y => some ((y.2 22 15) - 1, y.2)) ∧ (∀ k, k ≠ 23 → k ≠ 22 → Y' k = Y k) ∧ (Y' 22 = upd (Y 22) 15 (nI (q_nb d + 1))) ∧ ∀ i, i < q_na d → Y' 23 i = nI (q_bl (q_sp d b fr) i) := by
    intro n
    induction n with
    | zero => intro i Z _ _ h; omega
    | succ n ih =>
      intro i Z hfi hi hn hz hlo hhi
      rw [f_X8_split_69]
      dsimp only
      rw [f_X8_split_69b, hz 22 (by decide), na, ilt (by omega) (by omega)]
      by_cases e : i < q_na d
      · have b1 := w3 i e
        rw [if_pos e, wget_n (by omega) (by omega), hhi i (Nat.le_refl i) e, ieq (by omega) (by omega)]
        by_cases q : q_bl d i = b
        · rw [if_pos q, wput_n (by omega) (by omega), nb, f_X8_split_97, wbd_e, Lm1]
          exact ih (i + 1) (updM Z 23 (upd (Z 23) i (nI (q_nb d)))) (by omega) (by omega) (by omega) (fun k a => by rw [updM_ne _ _ a]; exact hz k a) (fun j hj => by
            rw [updM_s]
            by_cases z : j = i
            · subst z
              rw [upd_s]
              show _ = nI (if fr ≤ j ∧ q_bl d j = b then q_nb d else q_bl d j)
              rw [if_pos ⟨hfi, q⟩]
            · rw [upd_n _ _ z]
              exact hlo j (by omega)) (fun j hj hj2 => by rw [updM_s, upd_n _ _ (by omega)]; exact hhi j (by omega) hj2)
        · rw [if_neg q, f_X8_split_97, wbd_e, Lm1]
          exact ih (i + 1) Z (by omega) (by omega) (by omega) hz (fun j hj => by
            by_cases z : j = i
            · subst z
              rw [hhi j (Nat.le_refl j) (by omega)]
              show _ = nI (if fr ≤ j ∧ q_bl d j = b then q_nb d else q_bl d j)
              rw [if_neg (fun w => q w.2)]
            · exact hlo j (by omega)) (fun j hj hj2 => hhi j (by omega) hj2)
      · have ei : i = q_na d := by omega
        subst ei
        rw [if_neg e, wfld_e, hz 22 (by decide), nb, Lm1]
        exact ⟨_, rfl, fun k a b => by rw [updM_ne _ _ b]; exact hz k a, updM_s _ _ _, fun j hj => by rw [updM_ne _ _ (by decide)]; exact hlo j hj⟩
  refine lp 1000 fr Y (Nat.le_refl _) (by omega) (by omega) (fun _ _ => rfl) (fun j hj => ?_) (fun j _ hj => bl j hj)
  rw [bl j (by omega)]
  show _ = nI (if fr ≤ j ∧ q_bl d j = b then q_nb d else q_bl d j)
  rw [if_neg (fun w => by omega)]
theorem op_split {d : mD} {T : mT} {X Y : wM} (h : INV d T X Y) (a b : Int32) : OM (fun e => if e = 2 then 1 else if e = 5 then 2 else if e = 0 then 3 else 0) (f_X7_split X a b) (f_X8_split Y a b) := by
  have hw := h.w
  have w1 := hw.1
  have w2 := hw.2.1
  unfold f_X7_split f_X8_split f_X7_split_29 f_X8_split_37 f_X8_split_55
  rw [x_needBlock h.x hw, x_hasAddress h.x hw, y_isBlock h.y hw, h.y.2.1, f_in_n b (by omega)]
  simp only [bind_s, b_ite]
  cases ha : inb a (q_nb d)
  · exact OM.bad h 2 1 (by decide) (by decide) rfl rfl 0 rfl
  · rw [if_pos rfl, if_pos rfl, wthr_r]
    cases hb : inb b (q_na d)
    · exact OM.bad h 5 2 (by decide) (by decide) rfl rfl 0 rfl
    · obtain ⟨a, ha2, rfl⟩ := inb_ex ha
      obtain ⟨b, hb2, rfl⟩ := inb_ex hb
      obtain ⟨v1, v2, v3, v4⟩ := hw
      have b3 := v3 b hb2
      rw [if_pos rfl, if_pos rfl, wget_n (by omega) (by omega), wget_n (by omega) (by omega), h.x.2.2.1 b hb2, h.y.2.2.1 b hb2, ieq (by omega) (by omega), ieq (by omega) (by omega)]
      by_cases e : q_bl d b = a
      · rw [if_pos e, if_pos e, h.x.1, h.y.1, L6, ilt (by omega) (by omega), ieq (by omega) (by omega)]
        by_cases e6 : q_nb d < 6
        · rw [if_pos e6, if_neg (by omega)]
          obtain ⟨X0, hX0⟩ : ∃ X0, X0 = updM X 1 (upd (X 1) 1 (nI (q_nb d + 1))) := ⟨_, rfl⟩
          have xo : ∀ k, k ≠ 1 → X0 k = X k := fun k a => by rw [hX0, updM_ne _ _ a]
          have x1 : X0 1 = upd (X 1) 1 (nI (q_nb d + 1)) := by rw [hX0, updM_s]
          obtain ⟨X1, m1, m2, m3⟩ := x_move (d := d) (X := X0) (b := a) (to := q_nb d) (fr := b) (by rw [x1, upd_n _ _ (by decide)]; exact h.x.2.1) (fun i hi => by rw [xo 2 (by decide)]; exact h.x.2.2.1 i hi) v2 (fun i hi => by have := v3 i hi; omega) (by omega) (by omega)
          obtain ⟨Y1, y1, y2, y4, y3⟩ := y_split (d := d) (Y := thr Y 0) (b := a) (fr := b) (by rw [thr_f Y 0 (by decide)]; exact h.y.2.1) (by rw [thr_f Y 0 (by decide)]; exact h.y.1) (fun i hi => by rw [thr_o Y 0 (by decide)]; exact h.y.2.2.1 i hi) v2 (fun i hi => by have := v3 i hi; omega) (by omega) hb2
          have yo : ∀ k, k ≠ 23 → k ≠ 22 → Y1 k = Y k := fun k a b => by rw [y2 k a b, thr_o Y 0 b]
          have yf : ∀ j, j ≠ 14 → j ≠ 15 → Y1 22 j = Y 22 j := fun j a b => by rw [y4, upd_n _ _ b, thr_f Y 0 a]
          have xf : ∀ k, k ≠ 1 → k ≠ 2 → X1 k = X k := fun k a b => by rw [m2 k b, xo k a]
          have hw' : q_ok (q_sp d a b) := by
            refine ⟨by show q_nb d + 1 ≤ 6; omega, v2, fun i hi => ?_, v4⟩
            show (if b ≤ i ∧ q_bl d i = a then q_nb d else q_bl d i) < q_nb d + 1
            have := v3 i hi
            split <;> omega
          have hx' : RX (q_sp d a b) X1 := by
            obtain ⟨r1, r2, r3, r4⟩ := h.x
            refine ⟨by rw [m2 1 (by decide), x1, upd_s]; rfl, by rw [m2 1 (by decide), x1, upd_n _ _ (by decide)]; exact r2, m3, ?_⟩
            rw [xf 3 (by decide) (by decide), xf 4 (by decide) (by decide), xf 5 (by decide) (by decide), xf 6 (by decide) (by decide), xf 7 (by decide) (by decide), xf 8 (by decide) (by decide), xf 9 (by decide) (by decide)]
            exact r4
          have hy' : RY (q_sp d a b) Y1 := by
            obtain ⟨r1, r2, r3, r4⟩ := h.y
            refine ⟨by rw [y4, upd_s]; rfl, by rw [yf 16 (by decide) (by decide)]; exact r2, y3, ?_⟩
            rw [yf 17 (by decide) (by decide), yf 19 (by decide) (by decide), yf 20 (by decide) (by decide), yf 21 (by decide) (by decide), yf 22 (by decide) (by decide), yf 23 (by decide) (by decide), yo 24 (by decide) (by decide), yo 25 (by decide) (by decide), yo 26 (by decide) (by decide), yo 29 (by decide) (by decide), yo 30 (by decide) (by decide)]
            exact r4
          refine OM.set (PRE.of h hw' hx' hy' (fun k a => xf k (by omega) (by omega)) (fun k a _ _ => yo k (by omega) (by omega)) (yf 18 (by decide) (by decide))) (by rw [y4, upd_n _ _ (by decide)]; exact thr_14 Y 0) (fun n X' Y' p1 p2 p3 => ?_)
          refine ⟨nI (q_nb d), ?_, ?_⟩
          · unfold f_X4_openBlock
            rw [wfld_e, h.x.1, Lm1, ← hX0, bind_s]
            dsimp only
            rw [x1, upd_s, nI_pred, m1, bind_s]
            dsimp only
            rw [p1, bind_s]
          · rw [wfld14, thr_14, if_neg i01]
            refine y1.trans ?_
            rw [p2, bind_s]
            dsimp only
            rw [p3, y4, upd_s, nI_pred]
        · rw [if_neg e6, if_pos (by omega)]
          exact OM.bad h 0 3 (by decide) (by decide) rfl rfl 0 rfl
      · rw [if_neg e, if_neg e]
        exact OM.bad h 5 2 (by decide) (by decide) rfl rfl 0 rfl
