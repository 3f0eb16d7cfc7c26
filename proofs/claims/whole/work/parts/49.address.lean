/-! an address more changes no count -/
def DG (d d' : mD) : Prop := q_nr d' = q_nr d ∧ (∀ i, i < q_nr d → q_ce d' i = q_ce d i ∧ q_cell d' i = q_cell d i) ∧ (∀ i j, i < q_nr d → j < q_nr d → q_sc d' i j = q_sc d i j ∧ q_lk d' i j = q_lk d i j) ∧ q_nb d' = q_nb d ∧ q_pn d' + q_py d' + q_pp d' = q_pn d + q_py d + q_pp d
theorem DG.dt {d d' : mD} (h : DG d d') : ∀ n, n ≤ q_nr d → ∀ k, k < n → q_dt d' n k = q_dt d n k
  | 0, _, k, hk => by omega
  | n + 1, hn, k, hk => by
    have ih := h.dt n (by omega)
    rw [q_dt, q_dt]
    dsimp only
    by_cases e : k = n
    · rw [if_pos e, if_pos e, (h.2.1 n (by omega)).1]
      congr 1
      refine q_any_cong (fun j hj => ?_)
      rw [(h.2.1 j (by omega)).1, ih j hj, (h.2.2.1 j n (by omega) (by omega)).2]
    · rw [if_neg e, if_neg e]
      exact ih k (by omega)
theorem DG.db {d d' : mD} (h : DG d d') {k : Nat} (hk : k < q_nr d) : q_db d' k = q_db d k := h.dt (k + 1) (by omega) k (Nat.lt_succ_self k)
theorem DG.cd {d d' : mD} (h : DG d d') {k : Nat} (hk : k < q_nr d) : q_cd d' k = q_cd d k := by
  unfold q_cd
  rw [h.db hk, (h.2.1 k hk).1]
theorem DG.ct {d d' : mD} (h : DG d d') (c : Nat) {n : Nat} (hn : n ≤ q_nr d) : q_ct d' c n = q_ct d c n := by
  unfold q_ct
  refine q_num_cong (fun j hj => ?_)
  rw [h.cd (by omega), (h.2.1 j (by omega)).2]
theorem DG.good {d d' : mD} (h : DG d d') {c k : Nat} (hc : c < q_nr d) (hk : k < q_nr d) : q_good d' c k = q_good d c k := by
  unfold q_good
  rw [h.cd hc, (h.2.1 k hk).1, (h.2.2.1 c k hc hk).2]
theorem DG.prow {d d' : mD} (h : DG d d') {c : Nat} (hc : c < q_nr d) : ∀ k, k ≤ q_nr d → q_prow d' c k = q_prow d c k
  | 0, _ => rfl
  | k + 1, hk => by rw [q_prow, q_prow, h.prow hc k (by omega), h.good hc (by omega)]
theorem DG.pl {d d' : mD} (h : DG d d') : ∀ c, c ≤ q_nr d → q_pl d' c = q_pl d c
  | 0, _ => rfl
  | c + 1, hc => by rw [q_pl, q_pl, h.pl c (by omega), h.1, h.prow (by omega) _ (Nat.le_refl _)]
theorem DG.fl {d d' : mD} (h : DG d d') (s : Nat) : ∀ (L : List (Nat × Nat)) (m : mM), (∀ q, q ∈ L → q.1 < q_nr d ∧ q.2 < q_nr d) → q_fl d' s L m = q_fl d s L m
  | [], _, _ => rfl
  | q :: L, m, hL => by
    obtain ⟨a, b⟩ := hL q List.mem_cons_self
    show q_fl d' s L (q_step d' s q.1 q.2 m) = q_fl d s L (q_step d s q.1 q.2 m)
    have : q_step d' s q.1 q.2 m = q_step d s q.1 q.2 m := by
      unfold q_step
      rw [h.good a b, (h.2.2.1 _ _ a b).1]
    rw [this]
    exact h.fl s L _ (fun x hx => hL x (List.mem_cons_of_mem _ hx))
theorem DG.flp {d d' : mD} (h : DG d d') (s : Nat) (m : mM) : q_fl d' s (q_pl d' (q_nr d')) m = q_fl d s (q_pl d (q_nr d)) m := by
  rw [h.1, h.pl _ (Nat.le_refl _)]
  exact h.fl s _ m (fun q hq => by
    obtain ⟨a, b, _⟩ := q_pl_mem d _ q hq
    exact ⟨a, b⟩)
theorem DG.down {d d' : mD} (h : DG d d') : ∀ (s : Nat) (m : mM), q_down d' s m = q_down d s m
  | 0, m => h.flp 0 m
  | s + 1, m => by rw [q_down, q_down, h.flp, h.down s]
theorem DG.mt {d d' : mD} (h : DG d d') : q_mt d' = q_mt d := by
  unfold q_mt
  rw [h.2.2.2.2, h.down]
theorem DG.kx {d d' : mD} (h : DG d d') {X X' : wM} (k : KX d X) (e : ∀ j, 10 ≤ j → j ≤ 17 → X' j = X j) : KX d' X' := by
  obtain ⟨⟨t1, t2, t3, t4⟩, t5⟩ := k
  refine ⟨⟨fun j hj => ?_, fun c hc => ?_, ?_, ?_⟩, ?_⟩
  · rw [e 11 (by decide) (by decide)]
    rw [h.1] at hj
    rw [h.db hj]
    exact t1 j hj
  · rw [e 12 (by decide) (by decide), h.1, h.ct c (Nat.le_refl _)]
    exact t2 c hc
  · rw [e 10 (by decide) (by decide), h.1, t3, q_num_cong (fun j hj => (h.cd hj).symm)]
  · rw [e 10 (by decide) (by decide), h.1, t4, q_num_cong (fun j hj => (h.db hj).symm)]
  · unfold PRm at *
    rw [e 16 (by decide) (by decide), e 17 (by decide) (by decide), h.mt, h.1]
    exact t5
theorem DG.same {d d' : mD} (h : DG d d') (t : Nat × (Nat → Nat) × Bool) : q_same d' t = q_same d t := by
  have e : ∀ c, q_cn d' c = q_cn d c := fun c => by unfold q_cn; rw [h.1, h.ct c (Nat.le_refl _)]
  unfold q_same
  rw [h.2.2.2.1]
  congr 2
  funext c
  rw [e c]
def q_adr (d : mD) (b : Nat) : mD := ((q_nb d, q_na d + 1, fun i => if i = q_na d then b else q_bl d i), d.2)
theorem DG_adr {d : mD} (w : q_ok d) (b : Nat) : DG d (q_adr d b) := by
  have bl : ∀ i, i < q_nr d → q_bl (q_adr d b) (q_ad d i) = q_bl d (q_ad d i) := fun i hi => by
    have := (w.2.2.2.2.1 i hi).1
    show (if q_ad d i = q_na d then b else q_bl d (q_ad d i)) = _
    rw [if_neg (by omega)]
  have sc : ∀ i j, i < q_nr d → j < q_nr d → q_sc (q_adr d b) i j = q_sc d i j := fun i j hi hj => by
    show q_nsc d (q_nm d i) (q_nm d j) + q_ysc d (q_yr d i) (q_yr d j) + (if q_ad d i = q_ad d j then q_pp d else if q_bl (q_adr d b) (q_ad d i) = q_bl (q_adr d b) (q_ad d j) then q_pp d / 2 else 0) = _
    rw [bl i hi, bl j hj]
    rfl
  refine ⟨rfl, fun i hi => ⟨rfl, ?_⟩, fun i j hi hj => ⟨sc i j hi hj, ?_⟩, rfl, rfl⟩
  · show q_bl (q_adr d b) (q_ad d i) * 4 + q_gr (q_yr d i) = _
    rw [bl i hi]
    rfl
  · show (if q_de d i j = 0 then (if q_up d ≤ q_sc (q_adr d b) i j then 121 else if q_lo d ≤ q_sc (q_adr d b) i j then 63 else 110) else q_de d i j) = _
    rw [sc i j hi hj]
    rfl
theorem op_addAddress {d : mD} {T : mT} {X Y : wM} (h : INV d T X Y) (a : Int32) : OM (fun e => if e = 2 then 1 else if e = 0 then 2 else 0) (f_X7_addAddress X a) (f_X8_addAddress Y a) := by
  have hw := h.w
  have w1 := hw.1
  have w2 := hw.2.1
  unfold f_X7_addAddress f_X8_addAddress f_X8_addAddress_27
  rw [x_needBlock h.x hw, y_isBlock h.y hw, bind_s, b_ite]
  cases ha : inb a (q_nb d)
  · exact OM.bad h 2 1 (by decide) (by decide) rfl rfl 0 rfl
  · rw [if_pos rfl, if_pos rfl, wthr_r, h.x.2.1, h.y.2.1, L20, ilt (by omega) (by omega), ieq (by omega) (by omega)]
    by_cases e : q_na d < 20
    · rw [if_pos e, if_neg (show ¬ q_na d = 20 by omega), wfld14, thr_14, if_neg i01]
      obtain ⟨b, hb2, rfl⟩ := inb_ex ha
      obtain ⟨X1, e1⟩ : ∃ X1, X1 = updM X 2 (upd (X 2) (q_na d) (nI b)) := ⟨_, rfl⟩
      obtain ⟨X2, e2⟩ : ∃ X2, X2 = updM X1 1 (upd (X1 1) 2 (nI (q_na d + 1))) := ⟨_, rfl⟩
      obtain ⟨Y1, f1⟩ : ∃ Y1, Y1 = updM (thr Y 0) 23 (upd (thr Y 0 23) (q_na d) (nI b)) := ⟨_, rfl⟩
      obtain ⟨Y2, f2⟩ : ∃ Y2, Y2 = updM Y1 22 (upd (Y1 22) 16 (nI (q_na d + 1))) := ⟨_, rfl⟩
      have xo : ∀ k, k ≠ 1 → k ≠ 2 → X2 k = X k := fun k a b => by rw [e2, updM_ne _ _ a, e1, updM_ne _ _ b]
      have x1 : X2 1 = upd (X 1) 2 (nI (q_na d + 1)) := by rw [e2, updM_s, e1, updM_ne _ _ (by decide)]
      have x2 : X2 2 = upd (X 2) (q_na d) (nI b) := by rw [e2, updM_ne _ _ (by decide), e1, updM_s]
      have yo : ∀ k, k ≠ 22 → k ≠ 23 → Y2 k = Y k := fun k a b => by rw [f2, updM_ne _ _ a, f1, updM_ne _ _ b, thr_o Y 0 a]
      have y22 : Y2 22 = upd (thr Y 0 22) 16 (nI (q_na d + 1)) := by rw [f2, updM_s, f1, updM_ne _ _ (by decide)]
      have y23 : Y2 23 = upd (Y 23) (q_na d) (nI b) := by rw [f2, updM_ne _ _ (by decide), f1, updM_s, thr_o Y 0 (by decide)]
      have yf : ∀ j, j ≠ 14 → j ≠ 16 → Y2 22 j = Y 22 j := fun j a b => by rw [y22, upd_n _ _ b, thr_f Y 0 a]
      obtain ⟨v1, v2, v3, v4, v5, v6⟩ := hw
      obtain ⟨r1, r2, r3, r4⟩ := h.x
      obtain ⟨s1, s2, s3, s4⟩ := h.y
      have hw' : q_ok (q_adr d b) := by
        refine ⟨v1, by show q_na d + 1 ≤ 20; omega, fun i hi => ?_, v4, fun i hi => ⟨Nat.lt_succ_of_lt (v5 i hi).1, (v5 i hi).2⟩, v6⟩
        show (if i = q_na d then b else q_bl d i) < q_nb d
        have hi : i < q_na d + 1 := hi
        by_cases z : i = q_na d
        · rw [if_pos z]; exact hb2
        · rw [if_neg z]; exact v3 i (by omega)
      have hx' : RX (q_adr d b) X2 := by
        refine ⟨by rw [x1, upd_n _ _ (by decide)]; exact r1, by rw [x1, upd_s]; rfl, fun i hi => ?_, ?_⟩
        · have hi : i < q_na d + 1 := hi
          show X2 2 i = nI (if i = q_na d then b else q_bl d i)
          rw [x2]
          by_cases z : i = q_na d
          · rw [if_pos z, z, upd_s]
          · rw [if_neg z, upd_n _ _ z]; exact r3 i (by omega)
        · rw [xo 3 (by decide) (by decide), xo 4 (by decide) (by decide), xo 5 (by decide) (by decide), xo 6 (by decide) (by decide), xo 7 (by decide) (by decide), xo 8 (by decide) (by decide), xo 9 (by decide) (by decide)]
          exact r4
      have hy' : RY (q_adr d b) Y2 := by
        refine ⟨by rw [yf 15 (by decide) (by decide)]; exact s1, by rw [y22, upd_s]; rfl, fun i hi => ?_, ?_⟩
        · have hi : i < q_na d + 1 := hi
          show Y2 23 i = nI (if i = q_na d then b else q_bl d i)
          rw [y23]
          by_cases z : i = q_na d
          · rw [if_pos z, z, upd_s]
          · rw [if_neg z, upd_n _ _ z]; exact s3 i (by omega)
        · rw [yf 17 (by decide) (by decide), yf 19 (by decide) (by decide), yf 20 (by decide) (by decide), yf 21 (by decide) (by decide), yf 22 (by decide) (by decide), yf 23 (by decide) (by decide), yo 24 (by decide) (by decide), yo 25 (by decide) (by decide), yo 26 (by decide) (by decide), yo 29 (by decide) (by decide), yo 30 (by decide) (by decide)]
          exact s4
      have hp := PRE.of h hw' hx' hy' (fun k a => xo k (by omega) (by omega)) (fun k a _ _ => yo k (by omega) (by omega)) (yf 18 (by decide) (by decide))
      have dg := DG_adr h.w b
      refine ⟨_, _, X2, Y2, ⟨hp, dg.kx h.2.1 (fun j p q => xo j (by omega) (by omega)), fun i hi => ?_⟩, Or.inl ⟨nI (q_na d), ?_, ?_, by rw [y22, upd_n _ _ (by decide)]; exact thr_14 Y 0⟩⟩
      · rw [dg.same]
        exact h.2.2 i hi
      · unfold f_X4_openAddress
        rw [h.x.2.1, wput_n (by omega) (by omega), ← e1, wfld_e, show X1 1 2 = nI (q_na d) by rw [e1, updM_ne _ _ (by decide)]; exact h.x.2.1, Lm1, ← e2, bind_s]
        dsimp only
        rw [x1, upd_s, nI_pred]
      · rw [thr_f Y 0 (show (16 : Nat) ≠ 14 by decide), h.y.2.1, wput_n (by omega) (by omega), ← f1, wfld_e, show Y1 22 16 = nI (q_na d) by rw [f1, updM_ne _ _ (by decide), thr_f Y 0 (by decide)]; exact h.y.2.1, Lm1, ← f2]
        rw [y22, upd_s, nI_pred]
    · rw [if_neg e, if_pos (show q_na d = 20 by omega)]
      exact OM.bad h 0 2 (by decide) (by decide) rfl rfl 0 rfl
