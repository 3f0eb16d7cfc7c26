/-! lines, as the programs build them -/
def l_dig (n : Int32) : Option (List Int32) := if inb n 100 then some ((q_dig n.toNatClampNeg).map nI) else none
def x_line (p : Nat → Int32) (hd bl : Int32) : Nat → Int32 → List Int32 → Option (List Int32)
  | 0, _, _ => none
  | n + 1, c, L => if c < bl * 4 then (if c < 24 then (f_X0_has hd c).bind fun y => (if y = 0 then wget 24 p c fun v => (l_dig v).bind fun D => x_line p hd bl n (c + 1) ((L ++ D) ++ [if c - c / 4 * 4 = 3 then 59 else 44]) else x_line p hd bl n (c + 1) ((L ++ [120]) ++ [if c - c / 4 * 4 = 3 then 59 else 44])) else some L) else some L
theorem l_dig_n {n : Nat} (h : n < 100) : l_dig (nI n) = some ((q_dig n).map nI) := by
  unfold l_dig
  rw [inb_b (by omega), decide_eq_true h, if_pos rfl, nI_clamp (by omega)]
theorem q_text_1 (cn : Nat → Nat) (s : Nat → Bool) (c : Nat) : (q_text cn s (c + 1)).map nI = (((q_text cn s c).map nI) ++ (if s c then [120] else (q_dig (cn c)).map nI)) ++ [if c % 4 = 3 then 59 else 44] := by
  rw [q_text, List.map_append, List.map_append, List.append_assoc]
  congr 1
  have nf : ¬ (false = true) := by decide
  cases s c
  · rw [if_neg nf, if_neg nf]
    congr 1
    split <;> rfl
  · rw [if_pos rfl, if_pos rfl]
    congr 1
    split <;> rfl
theorem x_line_n {cn : Nat → Nat} {p : Nat → Int32} (hp : ∀ c, c < 24 → p c = nI (cn c)) (hc : ∀ c, c < 24 → cn c ≤ 40) {x : Int32} {s : Nat → Bool} (hx : MK 24 x s) {b : Nat} (hb : b ≤ 6) : x_line p x (nI b) 1000 0 [] = some ((q_text cn s (4 * b)).map nI) := by
  have lp : ∀ (n c : Nat), c ≤ 4 * b → 4 * b - c < n → x_line p x (nI b) n (nI c) ((q_text cn s c).map nI) = some ((q_text cn s (4 * b)).map nI) := by
    intro n
    induction n with
    | zero => intro c _ h; omega
    | succ n ih =>
      intro c hcb hn
      rw [x_line, L4, pk_mul, ilt (by omega) (by omega)]
      by_cases e : c < b * 4
      · have hh := ih (c + 1) (by omega) (by omega)
        rw [q_text_1] at hh
        have e3 : (if nI c - nI c / nI 4 * nI 4 = 3 then (59 : Int32) else 44) = if c % 4 = 3 then 59 else 44 := by
          rw [pk_rem (by omega) (by omega) (by omega), L3, ieq (by omega) (by omega)]
        rw [if_pos e, L24, ilt (by omega) (by omega), if_pos (by omega), x_has hx (by omega), bind_s, b_ite, e3, Lm1]
        cases sc : s c
        · have h1 := hc c (by omega)
          rw [sc] at hh
          rw [if_neg (by decide), wget_n (by omega) (by omega), hp c (by omega), l_dig_n (by omega), bind_s]
          exact hh
        · rw [sc] at hh
          rw [if_pos rfl]
          exact hh
      · rw [if_neg e, show c = 4 * b by omega]
  exact lp 1000 0 (by omega) (by omega)
def y_lineL (Y : wM) (t : Int32) : Nat → Int32 → List Int32 → Option (List Int32)
  | 0, _, _ => none
  | n + 1, k, L => wget 8 (Y 36) t fun bl => if k < 4 * bl then
      wget 192 (Y 33) (24 * t + k) fun h => (if h = 0 then wget 192 (Y 35) (24 * t + k) fun v => (l_dig v).bind fun D => y_lineL Y t n (k + 1) (((L ++ (if 0 < k - k / 4 * 4 then [44] else [])) ++ D) ++ (if k - k / 4 * 4 = 3 then [59] else []))
        else y_lineL Y t n (k + 1) (((L ++ (if 0 < k - k / 4 * 4 then [44] else [])) ++ [120]) ++ (if k - k / 4 * 4 = 3 then [59] else [])))
      else some L
def y_line (Y : wM) (t : Int32) : Option (List Int32) := y_lineL Y t 1000 0 []
/-- the text without the comma that comes before the next cell -/
def q_tx2 (cn : Nat → Nat) (s : Nat → Bool) : Nat → List Int32
  | 0 => []
  | c + 1 => ((q_tx2 cn s c ++ (if 0 < c % 4 then [44] else [])) ++ (if s c then [120] else (q_dig (cn c)).map nI)) ++ (if c % 4 = 3 then [59] else [])
theorem q_tx2_eq (cn : Nat → Nat) (s : Nat → Bool) : ∀ c, q_tx2 cn s c ++ (if 0 < c % 4 then [44] else []) = (q_text cn s c).map nI
  | 0 => rfl
  | c + 1 => by
    rw [q_text_1, q_tx2, q_tx2_eq cn s c]
    by_cases e : c % 4 = 3
    · rw [if_pos e, if_pos e, if_neg (show ¬ 0 < (c + 1) % 4 by omega), List.append_nil]
    · rw [if_neg e, if_neg e, if_pos (show 0 < (c + 1) % 4 by omega), List.append_nil]
theorem y_line_n {Y : wM} {i b : Nat} (hi : i < 8) {cn : Nat → Nat} {s : Nat → Bool} (h36 : Y 36 i = nI b) (hb : b ≤ 6) (hs : HR Y i s) (hc : CR Y i cn) (h40 : ∀ c, c < 24 → cn c ≤ 40) : y_line Y (nI i) = some ((q_text cn s (4 * b)).map nI) := by
  have lp : ∀ (n c : Nat), c ≤ 4 * b → 4 * b - c < n → y_lineL Y (nI i) n (nI c) (q_tx2 cn s c) = some (q_tx2 cn s (4 * b)) := by
    intro n
    induction n with
    | zero => intro c _ h; omega
    | succ n ih =>
      intro c hcb hn
      rw [y_lineL, wget_n hi (by omega), h36, L4, pk_mul, ilt (by omega) (by omega)]
      by_cases e : c < 4 * b
      · have hh := ih (c + 1) (by omega) (by omega)
        rw [q_tx2] at hh
        rw [if_pos e, L24, pk_mul, nI_add, wget_n (by omega) (by omega), hs c (by omega), b_ite, pk_rem (by omega) (by omega) (by omega), i0lt (by omega), L3, ieq (by omega) (by omega), Lm1]
        cases sc : s c
        · have h1 := h40 c (by omega)
          rw [sc] at hh
          rw [if_neg (by decide), wget_n (by omega) (by omega), hc c (by omega), l_dig_n (by omega), bind_s]
          exact hh
        · rw [sc] at hh
          rw [if_pos rfl]
          exact hh
      · rw [if_neg e, show c = 4 * b by omega]
  have g := lp 1000 0 (by omega) (by omega)
  have e := q_tx2_eq cn s (4 * b)
  rw [if_neg (show ¬ 0 < 4 * b % 4 by omega), List.append_nil] at e
  unfold y_line
  rw [← e]
  exact g
/-- the line's bytes as a row; its length at 1000 -/
def l_row (L : List Int32) : Nat → Int32 := fun j => if j = 1000 then nI L.length else L.getD j 0
/-- the class tells a table: what the class's `tell` does to the cells -/
def f_X7_tell (X : wM) : Option ((Nat × wM) ⊕ (Int32 × wM)) :=
  if X 1 1 < 2 then some (.inl (0, X)) else
  if X 0 7 < 8 then (f_X0_choose (X 12)).bind fun y => (if y = -1 then some (.inl (4, X)) else
    wgd (inb (X 0 7) 8) ((x_line (X 12) y (X 1 1) 1000 0 []).bind fun L =>
      wgd (decide (L.length < 1000)) (some (.inr (X 0 7,
        updM (updM (updM (updM (updM X (39 + 4 * wT X) (upd (upd (upd (fun _ => 0) 0 (X 1 1)) 2 y) 4 0)) (39 + (4 * wT X + 1)) (X 12)) (39 + (4 * wT X + 2)) (fun _ => 0)) (39 + (4 * wT X + 3)) (l_row L)) 0 (upd (X 0) 7 (X 0 7 + 1)))))))
  else some (.inl (0, X))
theorem q_dig_len (n : Nat) : (q_dig n).length ≤ 2 := by
  unfold q_dig
  split <;> simp
theorem q_text_len (cn : Nat → Nat) (s : Nat → Bool) : ∀ c, (q_text cn s c).length ≤ 3 * c
  | 0 => Nat.le_refl _
  | c + 1 => by
    have := q_text_len cn s c
    have := q_dig_len (cn c)
    rw [q_text, List.length_append, List.length_append]
    cases s c
    · rw [if_neg (by decide)]; simp; omega
    · rw [if_pos rfl]; simp; omega
theorem l_row_at {L : List Nat} {j : Nat} (hj : j < L.length) (hl : L.length < 1000) : l_row (L.map nI) j = nI (L.getD j 0) := by
  unfold l_row
  rw [if_neg (by omega), List.getD_eq_getElem?_getD, List.getElem?_map, List.getD_eq_getElem?_getD, List.getElem?_eq_getElem hj]
  rfl
theorem op_tell {d : mD} {T : mT} {X Y : wM} (h : INV d T X Y) : OM (fun e => if e = 0 then 1 else if e = 4 then 2 else 0) (f_X7_tell X) (f_X8_tell Y) := by
  have w1 := h.w.1
  have t8 := h.tx.2.1
  have hn := h.tx.nT
  unfold f_X7_tell f_X8_tell f_X8_tell_18 f_X8_tell_23
  rw [h.x.1, h.y.1, L2, ilt (by omega) (by omega), ilt (by omega) (by omega), h.tx.1, h.ty.1, L8, ilt (by omega) (by omega), ieq (by omega) (by omega)]
  by_cases e2 : q_nb d < 2
  · rw [if_pos e2, if_pos e2]
    exact OM.bad h 0 1 (by decide) (by decide) rfl rfl 0 rfl
  · rw [if_neg e2, if_neg e2]
    by_cases e8 : T.1 < 8
    · obtain ⟨Y1, a1, a2, a3, a4⟩ := y_layCounts (h.y.thr 0) h.w
      have hc40 : ∀ c, c < 24 → q_cn d c ≤ 40 := fun c _ => q_cn_le h.w c
      have hcx : ∀ c, c < 24 → X 12 c = nI (q_cn d c) := h.2.1.1.2.1
      obtain ⟨z, z1, z2⟩ := x_choose hcx hc40
      have copy : ∀ (n c : Nat) (Z : wM), c ≤ 24 → 24 - c < n → (∀ k, k ≠ 35 → Z k = Y1 k) → (∀ j, j < c → Z 35 (24 * T.1 + j) = nI (q_cn d j)) → (∀ j, j < 24 * T.1 → Z 35 j = Y1 35 j) → ∃ Z', f_X8_tell_41 n Z (nI c) = ((f_X8_hides Z' (nI T.1)).bind fun y79 => (if y79.1 = 0 then f_X8_tell_90 y79.2 2 else f_X8_tell_90 y79.2 0)) ∧ (∀ k, k ≠ 35 → Z' k = Y1 k) ∧ CR Z' T.1 (q_cn d) ∧ (∀ j, j < 24 * T.1 → Z' 35 j = Y1 35 j) := by
        intro n
        induction n with
        | zero => intro c Z _ h; omega
        | succ n ih =>
          intro c Z hc hn hz hd hlo
          have z18 : Z 22 18 = nI T.1 := by rw [hz 22 (by decide), a2 22 (by decide) (by decide), thr_f Y 0 (by decide)]; exact h.ty.1
          rw [f_X8_tell_41]
          dsimp only
          rw [f_X8_tell_41b, z18, L24, ilt (by omega) (by omega)]
          by_cases e : c < 24
          · rw [if_pos e, wget_n (by omega) (by omega), hz 28 (by decide), a4 c e, pk_mul, nI_add, wput_n (by omega) (by omega), wbd_e, Lm1]
            refine ih (c + 1) _ (by omega) (by omega) (fun k a => by rw [updM_ne _ _ a]; exact hz k a) (fun j hj => ?_) (fun j hj => by rw [updM_s, upd_n _ _ (by omega)]; exact hlo j hj)
            rw [updM_s]
            by_cases q : j = c
            · subst q; exact upd_s _ _ _
            · rw [upd_n _ _ (by omega)]; exact hd j (by omega)
          · rw [if_neg e]
            exact ⟨Z, rfl, hz, fun j hj => hd j (by omega), hlo⟩
      obtain ⟨Y2, b1, b2, b3, b4⟩ := copy 1000 0 Y1 (by omega) (by omega) (fun _ _ => rfl) (fun j hj => by omega) (fun _ _ => rfl)
      obtain ⟨v, Y3, c1, c2, c3⟩ := y_hides e8 b3 hc40
      have y3o : ∀ k, k ≠ 22 → k ≠ 28 → k ≠ 31 → k ≠ 33 → k ≠ 34 → k ≠ 35 → Y3 k = Y k := fun k p q r s t u => by rw [c2.1 k s t, b2 k u, a2 k q r, thr_o Y 0 p]
      have y322 : Y3 22 = thr Y 0 22 := by rw [c2.1 22 (by decide) (by decide), b2 22 (by decide), a2 22 (by decide) (by decide)]
      have ylo : ∀ j, j < 24 * T.1 → Y3 33 j = Y 33 j := fun j hj => by rw [c2.2 j (Or.inl hj), b2 33 (by decide), a2 33 (by decide) (by decide), thr_o Y 0 (by decide)]
      have y35 : ∀ j, j < 24 * T.1 → Y3 35 j = Y 35 j := fun j hj => by rw [c2.1 35 (by decide) (by decide), b4 j hj, a2 35 (by decide) (by decide), thr_o Y 0 (by decide)]
      have y35n : CR Y3 T.1 (q_cn d) := fun c hc => by rw [c2.1 35 (by decide) (by decide)]; exact b3 c hc
      rw [if_pos e8, if_neg (show ¬ T.1 = 8 by omega), wfld14, thr_14, if_neg i01, a1, bind_s, z1, bind_s, L0, b1, c1, bind_s]
      rcases c3 with ⟨c3, rfl⟩ | ⟨s, c3, rfl, c4⟩
      · rcases z2 with ⟨_, rfl⟩ | ⟨s2, z2, _⟩
        · rw [if_pos rfl]
          have hi : INV d T X Y3 := by
            refine ⟨⟨h.w, h.x, h.y.congr (fun k a b c e => y3o k (by omega) e (by omega) (by omega) (by omega) (by omega)) (fun j a b _ => by rw [y322, thr_f Y 0 (by omega)]), h.tx, ⟨by rw [y322, thr_f Y 0 (by decide)]; exact h.ty.1, t8, fun i hi => ?_, fun i hi => by rw [y3o 32 (by decide) (by decide) (by decide) (by decide) (by decide) (by decide)]; exact h.ty.2.2.2 i hi⟩, h.ok, fun i hi => ?_⟩, h.2⟩
            · obtain ⟨t1, t2, t3⟩ := h.ty.2.2.1 i hi
              refine ⟨by rw [y3o 36 (by decide) (by decide) (by decide) (by decide) (by decide) (by decide)]; exact t1, fun c hc => by rw [y35 _ (by omega)]; exact t2 c hc, by rw [y3o 32 (by decide) (by decide) (by decide) (by decide) (by decide) (by decide)]; exact t3⟩
            · obtain ⟨s, h1, h2, h3, h4⟩ := h.hl i hi
              exact ⟨s, h1, h2, fun c hc => by rw [ylo _ (by omega)]; exact h3 c hc, h4⟩
          have e4 : thr Y3 2 22 14 = 2 := thr_14 Y3 2
          exact OM.bad hi 4 2 (by decide) (by decide) rfl rfl 0 rfl
        · rw [c3] at z2; cases z2
      · rcases z2 with ⟨z2, _⟩ | ⟨s2, z2, z3⟩
        · rw [c3] at z2; cases z2
        · rw [c3] at z2
          cases z2
          have zne : z ≠ -1 := by
            intro q
            have := z3 31
            rw [q, show bI (-1) 31 = true by decide] at this
            cases this
          have line := x_line_n hcx hc40 z3 w1
          have tlen := q_text_len (q_cn d) s (4 * q_nb d)
          rw [if_neg zne, inb_b (by omega), decide_eq_true e8, wgd_t rfl, ← L0, line, bind_s, wgd_d (show ((q_text (q_cn d) s (4 * q_nb d)).map nI).length < 1000 by rw [List.length_map]; omega)]
          obtain ⟨X5, e5⟩ : ∃ X5, X5 = updM (updM (updM (updM (updM X (39 + 4 * wT X) (upd (upd (upd (fun _ => 0) 0 (nI (q_nb d))) 2 z) 4 0)) (39 + (4 * wT X + 1)) (X 12)) (39 + (4 * wT X + 2)) (fun _ => 0)) (39 + (4 * wT X + 3)) (l_row ((q_text (q_cn d) s (4 * q_nb d)).map nI))) 0 (upd (X 0) 7 (nI T.1 + 1)) := ⟨_, rfl⟩
          rw [← e5]
          rw [hn] at e5
          have xo : ∀ k, k ≠ 0 → k ≠ 39 + 4 * T.1 → k ≠ 39 + (4 * T.1 + 1) → k ≠ 39 + (4 * T.1 + 2) → k ≠ 39 + (4 * T.1 + 3) → X5 k = X k := fun k a b c d e => by rw [e5, updM_ne _ _ a, updM_ne _ _ e, updM_ne _ _ d, updM_ne _ _ c, updM_ne _ _ b]
          have x0 : X5 0 = upd (X 0) 7 (nI (T.1 + 1)) := by rw [e5, updM_s, Lm1]
          have x3 : X5 (39 + (4 * T.1 + 3)) = l_row ((q_text (q_cn d) s (4 * q_nb d)).map nI) := by rw [e5, updM_ne _ _ (by omega), updM_s]
          have x2 : X5 (39 + (4 * T.1 + 2)) = fun _ => 0 := by rw [e5, updM_ne _ _ (by omega), updM_ne _ _ (by omega), updM_s]
          have x1 : X5 (39 + (4 * T.1 + 1)) = X 12 := by rw [e5, updM_ne _ _ (by omega), updM_ne _ _ (by omega), updM_ne _ _ (by omega), updM_s]
          have xt : X5 (39 + 4 * T.1) = upd (upd (upd (fun _ => 0) 0 (nI (q_nb d))) 2 z) 4 0 := by rw [e5, updM_ne _ _ (by omega), updM_ne _ _ (by omega), updM_ne _ _ (by omega), updM_ne _ _ (by omega), updM_s]
          unfold f_X8_tell_90
          rw [if_neg (show ¬ (1 : Int32) = 0 by decide)]
          dsimp only
          rw [L0, wfld14, thr_14, ← L0, if_neg i01]
          have k18 : thr Y3 0 22 18 = nI T.1 := by rw [thr_f Y3 0 (by decide), y322, thr_f Y 0 (by decide)]; exact h.ty.1
          have k15 : thr Y3 0 22 15 = nI (q_nb d) := by rw [thr_f Y3 0 (by decide), y322, thr_f Y 0 (by decide)]; exact h.y.1
          rw [k18, k15, wput_n (by omega) (by omega)]
          obtain ⟨Y4, f4⟩ : ∃ Y4, Y4 = updM (thr Y3 0) 36 (upd (thr Y3 0 36) T.1 (nI (q_nb d))) := ⟨_, rfl⟩
          rw [← f4, wfld_e, show Y4 22 18 = nI T.1 by rw [f4, updM_ne _ _ (by decide)]; exact k18, Lm1]
          obtain ⟨Y5, f5⟩ : ∃ Y5, Y5 = updM Y4 22 (upd (Y4 22) 18 (nI (T.1 + 1))) := ⟨_, rfl⟩
          rw [← f5]
          have y5o : ∀ k, k ≠ 22 → k ≠ 36 → Y5 k = Y3 k := fun k a b => by rw [f5, updM_ne _ _ a, f4, updM_ne _ _ b, thr_o Y3 0 a]
          have y536 : Y5 36 = upd (Y 36) T.1 (nI (q_nb d)) := by rw [f5, updM_ne _ _ (by decide), f4, updM_s, thr_o Y3 0 (by decide), y3o 36 (by decide) (by decide) (by decide) (by decide) (by decide) (by decide)]
          have y522 : Y5 22 = upd (thr Y3 0 22) 18 (nI (T.1 + 1)) := by rw [f5, updM_s, f4, updM_ne _ _ (by decide)]
          have y5f : ∀ j, j ≠ 14 → j ≠ 18 → Y5 22 j = Y 22 j := fun j a b => by rw [y522, upd_n _ _ b, thr_f Y3 0 a, y322, thr_f Y 0 a]
          obtain ⟨T', hT'⟩ : ∃ T' : mT, T' = (T.1 + 1, fun i => if i = T.1 then (q_nb d, q_cn d, false) else T.2 i) := ⟨_, rfl⟩
          have t1 : T'.1 = T.1 + 1 := by rw [hT']
          have tn : T'.2 T.1 = (q_nb d, q_cn d, false) := by rw [hT']; exact if_pos rfl
          have to : ∀ i, i ≠ T.1 → T'.2 i = T.2 i := fun i a => by rw [hT']; exact if_neg a
          have i1 : RX d X5 := h.x.congr (fun k a b => xo k (by omega) (by omega) (by omega) (by omega) (by omega))
          have i2 : RY d Y5 := h.y.congr (fun k a b c e => by rw [y5o k (by omega) (by omega)]; exact y3o k (by omega) e (by omega) (by omega) (by omega) (by omega)) (fun j a b c => y5f j (by omega) c)
          have i3 : TB T' X5 := by
            refine ⟨by rw [x0, upd_s, t1], by rw [t1]; omega, fun i hi => ?_⟩
            rw [t1] at hi
            unfold TBi
            by_cases q : i = T.1
            · subst q
              rw [tn, xt, x1]
              refine ⟨by rw [upd_n _ _ (by decide), upd_n _ _ (by decide), upd_s], hcx, ?_⟩
              rw [upd_s]; rfl
            · rw [to i q, xo _ (by omega) (by omega) (by omega) (by omega) (by omega), xo _ (by omega) (by omega) (by omega) (by omega) (by omega)]
              exact h.tx.2.2 i (by omega)
          have i4 : TY T' Y5 := by
            refine ⟨by rw [y522, upd_s, t1], by rw [t1]; omega, fun i hi => ?_, fun i hi => ?_⟩
            · rw [t1] at hi
              by_cases q : i = T.1
              · subst q
                rw [tn]
                refine ⟨by rw [y536, upd_s], fun c hc => by rw [y5o 35 (by decide) (by decide)]; exact y35n c hc, ?_⟩
                rw [y5o 32 (by decide) (by decide), y3o 32 (by decide) (by decide) (by decide) (by decide) (by decide) (by decide)]
                exact h.ty.2.2.2 _ (Nat.le_refl _)
              · rw [to i q]
                obtain ⟨u1, u2, u3⟩ := h.ty.2.2.1 i (by omega)
                refine ⟨by rw [y536, upd_n _ _ q]; exact u1, fun c hc => by rw [y5o 35 (by decide) (by decide), y35 _ (by omega)]; exact u2 c hc, ?_⟩
                rw [y5o 32 (by decide) (by decide), y3o 32 (by decide) (by decide) (by decide) (by decide) (by decide) (by decide)]
                exact u3
            · rw [t1] at hi
              rw [y5o 32 (by decide) (by decide), y3o 32 (by decide) (by decide) (by decide) (by decide) (by decide) (by decide)]
              exact h.ty.2.2.2 i (by omega)
          have i5 : T_ok T' := by
            intro i hi
            rw [t1] at hi
            by_cases q : i = T.1
            · subst q
              rw [tn]
              exact ⟨w1, hc40⟩
            · rw [to i q]
              exact h.ok i (by omega)
          have i6 : HL T' X5 Y5 := by
            intro i hi
            rw [t1] at hi
            by_cases q : i = T.1
            · subst q
              rw [tn]
              refine ⟨s, c3, ?_, ?_, ?_⟩
              · rw [xt, upd_n _ _ (by decide), upd_s]
                exact z3
              · exact c4.cong (y5o 33 (by decide) (by decide))
              · refine ⟨by rw [x2], ?_, fun j hj => ?_⟩
                · rw [x3]
                  show l_row _ 1000 = _
                  unfold l_row
                  rw [if_pos rfl, List.length_map]
                · rw [x3]
                  exact l_row_at hj (by omega)
            · rw [to i q]
              obtain ⟨s', h1, h2, h3, h4⟩ := h.hl i (by omega)
              refine ⟨s', h1, by rw [xo _ (by omega) (by omega) (by omega) (by omega) (by omega)]; exact h2, fun c hc => by rw [y5o 33 (by decide) (by decide), ylo _ (by omega)]; exact h3 c hc, ?_⟩
              obtain ⟨g1, g2, g3⟩ := h4
              refine ⟨by rw [xo _ (by omega) (by omega) (by omega) (by omega) (by omega)]; exact g1, by rw [xo _ (by omega) (by omega) (by omega) (by omega) (by omega)]; exact g2, fun j hj => by rw [xo _ (by omega) (by omega) (by omega) (by omega) (by omega)]; exact g3 j hj⟩
          have i7 : KX d X5 := by
            obtain ⟨k1, k2⟩ := h.2.1
            refine ⟨?_, ?_⟩
            · unfold TLn
              rw [xo 10 (by omega) (by omega) (by omega) (by omega) (by omega), xo 11 (by omega) (by omega) (by omega) (by omega) (by omega), xo 12 (by omega) (by omega) (by omega) (by omega) (by omega)]
              exact k1
            · unfold PRm
              rw [xo 16 (by omega) (by omega) (by omega) (by omega) (by omega), xo 17 (by omega) (by omega) (by omega) (by omega) (by omega)]
              exact k2
          have i8 : SM d T' := by
            intro i hi
            rw [t1] at hi
            by_cases q : i = T.1
            · subst q
              rw [tn]
              refine Or.inr ?_
              unfold q_same
              rw [decide_eq_true rfl, Bool.true_and]
              exact q_all_iff.mpr (fun j _ => decide_eq_true rfl)
            · rw [to i q]
              exact h.2.2 i (by omega)
          refine ⟨d, T', X5, Y5, ⟨⟨h.w, i1, i2, i3, i4, i5, i6⟩, i7, i8⟩, Or.inl ⟨nI T.1, rfl, ?_, by rw [y522, upd_n _ _ (by decide)]; exact thr_14 Y3 0⟩⟩
          rw [y522, upd_s, nI_pred]
    · rw [if_neg e8, if_pos (show T.1 = 8 by omega)]
      exact OM.bad h 0 1 (by decide) (by decide) rfl rfl 0 rfl
