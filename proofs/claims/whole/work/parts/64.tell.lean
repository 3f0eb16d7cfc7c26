/-! tables told, lines asked -/
theorem x_line_congr {p p' : Nat → Int32} (e : ∀ j, j < 24 → p' j = p j) (hd bl : Int32) : ∀ (n : Nat) (c : Int32) (L : List Int32), x_line p' hd bl n c L = x_line p hd bl n c L
  | 0, _, _ => rfl
  | n + 1, c, L => by
    have ih := x_line_congr e hd bl n
    have e2 : ∀ K : Int32 → Option (List Int32), wget 24 p' c K = wget 24 p c K := fun K => by
      unfold wget
      by_cases q : inb c 24 = true
      · obtain ⟨i, hi, rfl⟩ := inb_ex q
        rw [if_pos q, if_pos q, nI_clamp (by omega), e i hi]
      · rw [if_neg q, if_neg q]
    rw [x_line, x_line, e2]
    simp only [ih]
theorem arrV_congr {cA : ClassId} {n : Nat} {f g : Nat → Value} (e : ∀ j, j < n → f j = g j) : arrV cA n f = arrV cA n g := by
  unfold arrV
  congr 1
  apply Array.ext
  · simp
  · intro i h1 h2
    simp only [Array.getElem_ofFn]
    exact e i (by simpa using h1)
theorem JL.cell {G : wG} {nL kc ks pc : Nat} {lv : List (Nat × Value)} {st : List Value} {ws ws' : va_W} {k a n : Nat} {cA : ClassId} {f g : Nat → Int32} (hk : ws[k]? = some (a, .inl (cA, n, .inl f))) (e : ∀ j, j < n → f j = g j) (hs : ws.set k (a, .inl (cA, n, .inl g)) = ws') (h : JL G nL kc ks pc lv st ws') : JL G nL kc ks pc lv st ws := by
  subst hs
  intro ls H locs cells slots h1 h2 h3 h4 h5 h6
  refine h ls H locs cells slots h1 (h2.set h3 hk ?_ (fun _ _ => rfl)) (h3.set hk) h4 h5 h6
  have h9 : H[a]? = some (vp_cell cA (n, .inl f)) := h2 k _ hk
  show H[a]? = some (vp_cell cA (n, .inl g))
  rw [h9]
  show some (arrV cA n (fun j => .int (f j))) = some (arrV cA n (fun j => .int (g j)))
  rw [arrV_congr (fun j hj => by rw [e j hj])]
theorem fk_X5_9 : Cond.fieldLink RX5 9 "CensusLoom$Table" "counts" "[I" ∈ wTs := wTs_in 1068 (by decide +kernel) rfl
theorem fk_X5_15 : Cond.fieldLink RX5 15 "CensusLoom$Table" "isUndone" "Z" ∈ wTs := wTs_in 1074 (by decide +kernel) rfl
theorem fk_X5_19 : Cond.fieldLink RX5 19 "CensusLoom$Table" "blocks" "I" ∈ wTs := wTs_in 1066 (by decide +kernel) rfl
theorem fk_X5_23 : Cond.fieldLink RX5 23 "CensusLoom$Table" "hidden" "I" ∈ wTs := wTs_in 1070 (by decide +kernel) rfl
theorem g_tb_copy {G : wG} (hG : wOk G RX5 cX5_init 5 7 195) {X Y : wM} {o : Int64} {dd : UInt64} {t1 : Nat → Nat} {ex : va_W} {p k0 tb : Nat} {pf : Nat → Int32} {bl hd : Int32} {q1 : Nat} (hp : (wl (gB G) (X, Y, o, dd, (t1, ex)))[k0]? = some (p, .inl (wdA (gB G) 0, 24, .inl pf))) (fin : ∀ g, (∀ j, j < 24 → g j = pf j) → JL G 5 10 3430 61 [(4, .int (nI 24)), (0, .ref tb), (1, .int bl), (2, .ref p), (3, .int hd)] [] ((wl (gB G) (X, Y, o, dd, (t1, ex))) ++ [(tb, .inr (7, [.int bl, .ref q1, .int hd, .null, .int 0])), (q1, .inl (wdA (gB G) 0, 24, .inl g))])) : ∀ (n k : Nat) (g : Nat → Int32), k ≤ 24 → 24 - k < n → (∀ j, j < k → g j = pf j) → JL G 5 10 3430 30 [(4, .int (nI k)), (0, .ref tb), (1, .int bl), (2, .ref p), (3, .int hd)] [] ((wl (gB G) (X, Y, o, dd, (t1, ex))) ++ [(tb, .inr (7, [.int bl, .ref q1, .int hd, .null, .int 0])), (q1, .inl (wdA (gB G) 0, 24, .inl g))]) := by
  intro n
  induction n with
  | zero => intro k g _ h; omega
  | succ n ih =>
    intro k g hk hn hg
    refine jl_iload hG 0 (dt dtX5_init_0 17 rfl) rfl ?_
    refine jl_bipush hG (v := nI 24) (dt dtX5_init_0 18 rfl) (by decide) ?_
    refine jl_icmp_ge hG (tgt := 61) (dt dtX5_init_0 19 rfl) (by decide) (fun q => ?_) (fun q => ?_)
    · have e : k = 24 := by have := (nI_leI (a := 24) (b := k) (by omega) (by omega)).mp q; omega
      subst e
      exact fin g hg
    · have hk2 : k < 24 := Nat.lt_of_not_le (fun z => q ((nI_leI (a := 24) (b := k) (by omega) (by omega)).mpr z))
      refine jl_iload hG 0 (dt dtX5_init_0 20 rfl) rfl ?_
      refine jl_aload_n hG 3 (dt dtX5_init_0 21 rfl) rfl rfl ?_
      refine jl_alen hG (v := nI 24) k0 0 (app_lt hp) rfl rfl (dt dtX5_init_0 22 rfl) ?_
      refine jl_icmp_ge hG (tgt := 61) (dt dtX5_init_0 23 rfl) (by decide) (fun q2 => absurd q2 q) (fun _ => ?_)
      refine jl_aload_n hG 1 (dt dtX5_init_0 24 rfl) rfl rfl ?_
      refine jl_get hG cl_X5 ((wl (gB G) (X, Y, o, dd, (t1, ex))).length + 0) 1 ((app_get _ _ rfl 0).trans rfl) (by decide) fl_X5_9 rfl (dt dtX5_init_0 25 rfl) ?_
      refine jl_iload hG 0 (dt dtX5_init_0 26 rfl) rfl ?_
      refine jl_aload_n hG 3 (dt dtX5_init_0 27 rfl) rfl rfl ?_
      refine jl_iload hG 0 (dt dtX5_init_0 28 rfl) rfl ?_
      refine jl_iald hG (v := pf k) k0 (app_lt hp) (vp_in_nI hk2 (by omega)) (by rw [nI_clamp (by omega)]) (dt dtX5_init_0 29 rfl) ?_
      refine jl_iast (ws' := (wl (gB G) (X, Y, o, dd, (t1, ex))) ++ [(tb, .inr (7, [.int bl, .ref q1, .int hd, .null, .int 0])), (q1, .inl (wdA (gB G) 0, 24, .inl (upd g k (pf k))))]) hG ((wl (gB G) (X, Y, o, dd, (t1, ex))).length + 1) ((app_get _ _ rfl 1).trans rfl) (vp_in_nI hk2 (by omega)) rfl ((app_set _ _ rfl 1 _).trans (by rw [nI_clamp (by omega)]; rfl)) (dt dtX5_init_0 30 rfl) ?_
      refine jl_iinc hG 0 (v := nI (k + 1)) (lv' := [(4, .int (nI (k + 1))), (0, .ref tb), (1, .int bl), (2, .ref p), (3, .int hd)]) (dt dtX5_init_0 31 rfl) rfl (nI_1 k) (by decide) rfl ?_
      refine jl_goto hG (tgt := 30) (dt dtX5_init_0 32 rfl) (by decide) ?_
      refine ih (k + 1) _ (by omega) (by omega) (fun j hj => ?_)
      by_cases e : j = k
      · subst e; exact pk_us
      · rw [pk_un e]; exact hg j (by omega)
theorem g_X5_init {G : wG} (hG : wOk G RX5 cX5_init 5 7 195) {X Y : wM} {o : Int64} {dd : UInt64} {t1 : Nat → Nat} {ex : va_W} {p k0 tb : Nat} {pf : Nat → Int32} {bl hd : Int32} (hp : (wl (gB G) (X, Y, o, dd, (t1, ex)))[k0]? = some (p, .inl (wdA (gB G) 0, 24, .inl pf))) {L : List Int32} (h0 : x_line pf hd bl 1000 0 [] = some L) (hL : L.length < 1000) (hE : wEndL G none (fun v w => v = none ∧ ∃ ca st b, w = (wl (gB G) (X, Y, o, dd, (t1, ex))) ++ [(tb, .inr (7, [.int bl, .ref ca, .int hd, .ref st, .int 0])), (ca, .inl (wdA (gB G) 0, 24, .inl pf)), (st, .inr (0, [.ref b, .int 0, .int 0, .int 0])), (b, .inl (wdA (gB G) 4, L.length, .inl (l_row L)))])) (hI : (gme G).name = "<init>") : JL G 5 11 3454 0 [(0, .ref tb), (1, .int bl), (2, .ref p), (3, .int hd)] [] ((wl (gB G) (X, Y, o, dd, (t1, ex))) ++ [(tb, .inr (7, [.int 0, .null, .int 0, .null, .int 0]))]) := by
  refine jl_aload_n hG 0 (dt dtX5_init_0 0 rfl) rfl rfl ?_
  refine jl_objInit hG (wTs_in 805 (by decide +kernel) rfl) oi_w (by decide) (Nat.le_of_ble_eq_true rfl) (dt dtX5_init_0 1 rfl) ?_
  refine jl_aload_n hG 0 (dt dtX5_init_0 2 rfl) rfl rfl ?_
  refine jl_bipush hG (v := 24) (dt dtX5_init_0 3 rfl) (by decide) ?_
  refine JL.weak (kc := 10 + 1) (ks := 3430 + 24) (by omega) (by omega) ?_
  refine jl_newa hG (atype := .int) (N := 24) 0 rfl (wTs_in 96 (by decide +kernel) rfl) rfl (24, .inl (fun _ => 0)) (fun _ => rfl) (by decide) (by decide) (Nat.le_of_ble_eq_true rfl) (dt dtX5_init_0 4 rfl) (fun q1 => ?_)
  refine JL.eqw (ws' := (wl (gB G) (X, Y, o, dd, (t1, ex))) ++ [(tb, .inr (7, [.int 0, .null, .int 0, .null, .int 0])), (q1, .inl (wdA (gB G) 0, 24, .inl (fun _ => 0)))]) (by rw [List.append_assoc]; rfl) ?_
  refine jl_putF (ws' := (wl (gB G) (X, Y, o, dd, (t1, ex))) ++ [(tb, .inr (7, [.int 0, .ref q1, .int 0, .null, .int 0])), (q1, .inl (wdA (gB G) 0, 24, .inl (fun _ => 0)))]) hG hI cl_X5 ((wl (gB G) (X, Y, o, dd, (t1, ex))).length + 0) 1 ((app_get _ _ rfl 0).trans rfl) (by decide) fk_X5_9 rfl rfl rfl rfl rfl (Nat.le_of_ble_eq_true rfl) ((app_set _ _ rfl 0 _).trans rfl) (dt dtX5_init_0 5 rfl) ?_
  refine jl_aload_n hG 0 (dt dtX5_init_0 6 rfl) rfl rfl ?_
  refine jl_iconst hG (v := 0) (dt dtX5_init_0 7 rfl) (by decide) ?_
  refine jl_put (ws' := (wl (gB G) (X, Y, o, dd, (t1, ex))) ++ [(tb, .inr (7, [.int 0, .ref q1, .int 0, .null, .int 0])), (q1, .inl (wdA (gB G) 0, 24, .inl (fun _ => 0)))]) hG cl_X5 ((wl (gB G) (X, Y, o, dd, (t1, ex))).length + 0) 4 ((app_get _ _ rfl 0).trans rfl) (by decide) fk_X5_15 rfl rfl (by decide) (by decide) (Nat.le_of_ble_eq_true rfl) ((app_set _ _ rfl 0 _).trans rfl) (dt dtX5_init_0 8 rfl) ?_
  refine jl_aload_n hG 0 (dt dtX5_init_0 9 rfl) rfl rfl ?_
  refine jl_iload_n hG 1 (dt dtX5_init_0 10 rfl) rfl rfl ?_
  refine jl_putF (ws' := (wl (gB G) (X, Y, o, dd, (t1, ex))) ++ [(tb, .inr (7, [.int bl, .ref q1, .int 0, .null, .int 0])), (q1, .inl (wdA (gB G) 0, 24, .inl (fun _ => 0)))]) hG hI cl_X5 ((wl (gB G) (X, Y, o, dd, (t1, ex))).length + 0) 0 ((app_get _ _ rfl 0).trans rfl) (by decide) fk_X5_19 rfl rfl rfl rfl rfl (Nat.le_of_ble_eq_true rfl) ((app_set _ _ rfl 0 _).trans rfl) (dt dtX5_init_0 11 rfl) ?_
  refine jl_aload_n hG 0 (dt dtX5_init_0 12 rfl) rfl rfl ?_
  refine jl_iload_n hG 3 (dt dtX5_init_0 13 rfl) rfl rfl ?_
  refine jl_putF (ws' := (wl (gB G) (X, Y, o, dd, (t1, ex))) ++ [(tb, .inr (7, [.int bl, .ref q1, .int hd, .null, .int 0])), (q1, .inl (wdA (gB G) 0, 24, .inl (fun _ => 0)))]) hG hI cl_X5 ((wl (gB G) (X, Y, o, dd, (t1, ex))).length + 0) 2 ((app_get _ _ rfl 0).trans rfl) (by decide) fk_X5_23 rfl rfl rfl rfl rfl (Nat.le_of_ble_eq_true rfl) ((app_set _ _ rfl 0 _).trans rfl) (dt dtX5_init_0 14 rfl) ?_
  refine jl_iconst hG (v := nI 0) (dt dtX5_init_0 15 rfl) (by decide) ?_
  refine jl_istore hG (lv' := [(4, .int (nI 0)), (0, .ref tb), (1, .int bl), (2, .ref p), (3, .int hd)]) (dt dtX5_init_0 16 rfl) (by decide) rfl ?_
  refine g_tb_copy hG hp ?_ 1000 0 (fun _ => 0) (by omega) (by omega) (fun j hj => absurd hj (Nat.not_lt_zero j))
  intro g hg
  refine JL.cell (g := pf) (ws' := (wl (gB G) (X, Y, o, dd, (t1, ex))) ++ [(tb, .inr (7, [.int bl, .ref q1, .int hd, .null, .int 0])), (q1, .inl (wdA (gB G) 0, 24, .inl pf))]) ((app_get _ _ rfl 1).trans rfl) hg ((app_set _ _ rfl 1 _).trans rfl) ?_
  refine jl_aload_n hG 1 (dt dtX5_init_0 33 rfl) rfl rfl ?_
  refine jl_iload_n hG 2 (dt dtX5_init_0 34 rfl) rfl rfl ?_
  refine jl_aload_n hG 1 (dt dtX5_init_0 35 rfl) rfl rfl ?_
  refine jl_get hG cl_X5 ((wl (gB G) (X, Y, o, dd, (t1, ex))).length + 0) 1 ((app_get _ _ rfl 0).trans rfl) (by decide) fl_X5_9 rfl (dt dtX5_init_0 36 rfl) ?_
  refine jl_iload_n hG 4 (dt dtX5_init_0 37 rfl) rfl rfl ?_
  refine JL.eqw (ws' := wl (gB G) (X, Y, o, dd, (t1, ex ++ [(tb, .inr (7, [.int bl, .ref q1, .int hd, .null, .int 0])), (q1, .inl (wdA (gB G) 0, 24, .inl pf))]))) (wl_app _ _ _ _ _ _ _ _).symm ?_
  refine jl_callS hG (kc := 0) (ks := 0) (ct_lineOf hG.2.2.1 (k1 := (wl (gB G) (X, Y, o, dd, (t1, ex))).length + 1) (by rw [wl_app]; exact (app_get _ _ rfl 1).trans rfl) h0) mf_X5_lineOf ml_X5_26 rfl rfl (rest := [.ref tb]) (Nat.le_of_ble_eq_true rfl) (dt dtX5_init_0 38 rfl) (by decide) (by decide) (fun v w h => ?_)
  obtain ⟨st, b, g2, rfl, rfl, hg2⟩ := h
  refine JL.eqw (ws' := (wl (gB G) (X, Y, o, dd, (t1, ex))) ++ [(tb, .inr (7, [.int bl, .ref q1, .int hd, .null, .int 0])), (q1, .inl (wdA (gB G) 0, 24, .inl pf)), (st, .inr (0, [.ref b, .int 0, .int 0, .int 0])), (b, .inl (wdA (gB G) 4, L.length, .inl g2))]) (by rw [wl_app, List.append_assoc]; rfl) ?_
  refine JL.cell (g := l_row L) (ws' := (wl (gB G) (X, Y, o, dd, (t1, ex))) ++ [(tb, .inr (7, [.int bl, .ref q1, .int hd, .null, .int 0])), (q1, .inl (wdA (gB G) 0, 24, .inl pf)), (st, .inr (0, [.ref b, .int 0, .int 0, .int 0])), (b, .inl (wdA (gB G) 4, L.length, .inl (l_row L)))]) ((app_get _ _ rfl 3).trans rfl) (fun j hj => by rw [hg2 j hj]; unfold l_row; rw [if_neg (by omega)]) ((app_set _ _ rfl 3 _).trans rfl) ?_
  refine jl_putF (ws' := (wl (gB G) (X, Y, o, dd, (t1, ex))) ++ [(tb, .inr (7, [.int bl, .ref q1, .int hd, .ref st, .int 0])), (q1, .inl (wdA (gB G) 0, 24, .inl pf)), (st, .inr (0, [.ref b, .int 0, .int 0, .int 0])), (b, .inl (wdA (gB G) 4, L.length, .inl (l_row L)))]) hG hI cl_X5 ((wl (gB G) (X, Y, o, dd, (t1, ex))).length + 0) 3 ((app_get _ _ rfl 0).trans rfl) (by decide) fl_X5_30 rfl rfl rfl rfl rfl (Nat.le_of_ble_eq_true rfl) ((app_set _ _ rfl 0 _).trans rfl) (dt dtX5_init_0 39 rfl) ?_
  exact jl_vret hG hE ⟨rfl, q1, st, b, rfl⟩ (dt dtX5_init_0 40 rfl)
theorem ct_X5_init {l : Launch} (hl : l.stackTraces = false) {B : wB} {X Y : wM} {o : Int64} {dd : UInt64} {t1 : Nat → Nat} {ex : va_W} {p k0 tb : Nat} {pf : Nat → Int32} {bl hd : Int32} (hp : (wl B (X, Y, o, dd, (t1, ex)))[k0]? = some (p, .inl (wdA B 0, 24, .inl pf))) {L : List Int32} (h0 : x_line pf hd bl 1000 0 [] = some L) (hL : L.length < 1000) : LMet l B yX5_init cX5_init 5 none 7 195 11 3454 [.ref tb, .int bl, .ref p, .int hd] (wl B (X, Y, o, dd, (t1, ex)) ++ [(tb, .inr (7, [.int 0, .null, .int 0, .null, .int 0]))]) (fun v w => v = none ∧ ∃ ca st b, w = (wl B (X, Y, o, dd, (t1, ex))) ++ [(tb, .inr (7, [.int bl, .ref ca, .int hd, .ref st, .int 0])), (ca, .inl (wdA B 0, 24, .inl pf)), (st, .inr (0, [.ref b, .int 0, .int 0, .int 0])), (b, .inl (wdA B 4, L.length, .inl (l_row L)))]) :=
  LMet.of hl (by decide +kernel) (Nat.le_of_ble_eq_true rfl) (fun G hB hL2 hG hE hI => by subst hB; exact g_X5_init hG hp h0 hL hE hI)
theorem wst_told (B : wB) (Z Y : wM) (o : Int64) (dd : UInt64) (t t2 : Nat → Nat) (ex ex2 : va_W) (v : Int32) : wst B (updM Z 0 (upd (Z 0) 7 v), Y, o, dd, (t2, ex2)) = ((wst B (Z, Y, o, dd, (t, ex))).set 21 (wad B 21, .inl (wdA B 3, 8, .inr (.inr (.inr (.inr (wTf (updM Z 0 (upd (Z 0) 7 v)) t2))))))).set 0 (wad B 0, .inr (9, [.ref (wad B 1), .ref (wad B 3), .ref (wad B 8), .ref (wad B 10), .ref (wad B 13), .ref (wad B 16), .ref (wad B 21), .int v])) := rfl
def td_put (t : Nat → Nat) (T a b c d : Nat) : Nat → Nat := fun j => if j = 4 * T then a else if j = 4 * T + 1 then b else if j = 4 * T + 2 then c else if j = 4 * T + 3 then d else t j
theorem td_put_old (t : Nat → Nat) (T a b c d : Nat) {j : Nat} (h : j < 4 * T) : td_put t T a b c d j = t j := by
  unfold td_put
  rw [if_neg (by omega), if_neg (by omega), if_neg (by omega), if_neg (by omega)]
theorem td_put_0 (t : Nat → Nat) (T a b c d : Nat) : td_put t T a b c d (4 * T) = a := if_pos rfl
theorem td_put_1 (t : Nat → Nat) (T a b c d : Nat) : td_put t T a b c d (4 * T + 1) = b := by
  unfold td_put; rw [if_neg (by omega), if_pos rfl]
theorem td_put_2 (t : Nat → Nat) (T a b c d : Nat) : td_put t T a b c d (4 * T + 2) = c := by
  unfold td_put; rw [if_neg (by omega), if_neg (by omega), if_pos rfl]
theorem td_put_3 (t : Nat → Nat) (T a b c d : Nat) : td_put t T a b c d (4 * T + 3) = d := by
  unfold td_put; rw [if_neg (by omega), if_neg (by omega), if_neg (by omega), if_pos rfl]
/-- the memory behind a table told -/
def told (X : wM) (y : Int32) (L : List Int32) : wM := updM (updM (updM (updM (updM X (39 + 4 * wT X) (upd (upd (upd (fun _ => 0) 0 (X 1 1)) 2 y) 4 0)) (39 + (4 * wT X + 1)) (X 12)) (39 + (4 * wT X + 2)) (fun _ => 0)) (39 + (4 * wT X + 3)) (l_row L)) 0 (upd (X 0) 7 (X 0 7 + 1))
theorem wtc_cong {B : wB} {X X' : wM} {t t' : Nat → Nat} {j c : Nat} (e : X' (39 + j) = X (39 + j)) (h0 : c = 0 → t' (j + 1) = t (j + 1) ∧ t' (j + 2) = t (j + 2)) (h2 : c = 2 → t' (j + 1) = t (j + 1)) : wtc B X' t' j c = wtc B X t j c := by
  unfold wtc
  match c, h0, h2 with
  | 0, h0, _ => rw [e, (h0 rfl).1, (h0 rfl).2]
  | 1, _, _ => rw [e]; rfl
  | 2, _, h2 => rw [e, h2 rfl]; rfl
  | n + 3, _, _ => rw [e]; rfl
theorem told_wl (B : wB) (X Y : wM) (o : Int64) (dd : UInt64) (t : Nat → Nat) {y : Int32} {L : List Int32} (hi : inb (X 0 7) 8 = true) (hL : L.length < 1000) (tb ca st b : Nat) : ((wl B (X, Y, o, dd, (t, [])) ++ ([(tb, .inr (7, [.int (X 1 1), .ref ca, .int y, .ref st, .int 0])), (ca, .inl (wdA B 0, 24, .inl (X 12))), (st, .inr (0, [.ref b, .int 0, .int 0, .int 0])), (b, .inl (wdA B 4, L.length, .inl (l_row L)))] : va_W)).set 21 (wad B 21, .inl (wdA B 3, 8, .inr (.inr (.inr (.inr (va_up (wTf X t) (X 0 7).toNatClampNeg (some tb)))))))).set 0 (wad B 0, .inr (9, [.ref (wad B 1), .ref (wad B 3), .ref (wad B 8), .ref (wad B 10), .ref (wad B 13), .ref (wad B 16), .ref (wad B 21), .int (X 0 7 + 1)])) = wl B (told X y L, Y, o, dd, (td_put t (wT X) tb ca st b, [])) := by
  obtain ⟨T, hT8, hT⟩ := inb_ex hi
  have hw : wT X = T := by unfold wT; rw [hT]; exact nI_clamp (by omega)
  obtain ⟨Z, hZ⟩ : ∃ Z, Z = updM (updM (updM (updM X (39 + 4 * T) (upd (upd (upd (fun _ => 0) 0 (X 1 1)) 2 y) 4 0)) (39 + (4 * T + 1)) (X 12)) (39 + (4 * T + 2)) (fun _ => 0)) (39 + (4 * T + 3)) (l_row L) := ⟨_, rfl⟩
  have hZ0 : Z 0 = X 0 := by rw [hZ, updM_ne _ _ (by omega), updM_ne _ _ (by omega), updM_ne _ _ (by omega), updM_ne _ _ (by omega)]
  have ht : told X y L = updM Z 0 (upd (Z 0) 7 (nI (T + 1))) := by unfold told; rw [hw, ← hZ, hZ0, hT, nI_1]
  have hwt : wT (updM Z 0 (upd (Z 0) 7 (nI (T + 1)))) = T + 1 := by unfold wT; rw [updM_self, pk_us]; exact nI_clamp (by omega)
  have hst : ∀ r, wst B (Z, r) = wst B (X, r) := fun r => by rw [hZ, wst_updT, wst_updT, wst_updT, wst_updT]
  have hTf : wTf (updM Z 0 (upd (Z 0) 7 (nI (T + 1)))) (td_put t T tb ca st b) = va_up (wTf X t) (nI T).toNatClampNeg (some tb) := by
    funext i
    unfold wTf
    rw [hwt, nI_clamp (by omega)]
    by_cases e : i = T
    · subst e
      rw [va_up_self, if_pos (by omega), td_put_0]
    · rw [va_up_ne _ _ e, hw]
      by_cases e2 : i < T
      · rw [if_pos (by omega), if_pos e2, td_put_old _ _ _ _ _ _ (by omega)]
      · rw [if_neg (by omega), if_neg e2]
  have hmap : (List.range (4 * (T + 1))).map (wtb B (updM Z 0 (upd (Z 0) 7 (nI (T + 1))), Y, o, dd, (td_put t T tb ca st b, []))) = (List.range (4 * T)).map (wtb B (X, Y, o, dd, (t, []))) ++ ([(tb, .inr (7, [.int (X 1 1), .ref ca, .int y, .ref st, .int 0])), (ca, .inl (wdA B 0, 24, .inl (X 12))), (st, .inr (0, [.ref b, .int 0, .int 0, .int 0])), (b, .inl (wdA B 4, L.length, .inl (l_row L)))] : va_W) := by
    rw [show 4 * (T + 1) = 4 * T + 1 + 1 + 1 + 1 by omega, List.range_succ, List.range_succ, List.range_succ, List.range_succ, List.map_append, List.map_append, List.map_append, List.map_append]
    simp only [List.append_assoc]
    congr 1
    · refine List.map_congr_left (fun j hj => ?_)
      have hj := List.mem_range.mp hj
      unfold wtb
      dsimp only
      rw [td_put_old _ _ _ _ _ _ hj, wtc_cong (X := X) (t := t) (by rw [updM_ne _ _ (by omega), hZ, updM_ne _ _ (by omega), updM_ne _ _ (by omega), updM_ne _ _ (by omega), updM_ne _ _ (by omega)]) (fun e => ⟨td_put_old _ _ _ _ _ _ (by omega), td_put_old _ _ _ _ _ _ (by omega)⟩) (fun e => td_put_old _ _ _ _ _ _ (by omega))]
    · have z0 : updM Z 0 (upd (Z 0) 7 (nI (T + 1))) (39 + 4 * T) = upd (upd (upd (fun _ => 0) 0 (X 1 1)) 2 y) 4 0 := by rw [updM_ne _ _ (by omega), hZ, updM_ne _ _ (by omega), updM_ne _ _ (by omega), updM_ne _ _ (by omega), updM_self]
      have z1 : updM Z 0 (upd (Z 0) 7 (nI (T + 1))) (39 + (4 * T + 1)) = X 12 := by rw [updM_ne _ _ (by omega), hZ, updM_ne _ _ (by omega), updM_ne _ _ (by omega), updM_self]
      have z2 : updM Z 0 (upd (Z 0) 7 (nI (T + 1))) (39 + (4 * T + 2)) = fun _ => 0 := by rw [updM_ne _ _ (by omega), hZ, updM_ne _ _ (by omega), updM_self]
      have z3 : updM Z 0 (upd (Z 0) 7 (nI (T + 1))) (39 + (4 * T + 3)) = l_row L := by rw [updM_ne _ _ (by omega), hZ, updM_self]
      have m0 : 4 * T % 4 = 0 := by omega
      have m1 : (4 * T + 1) % 4 = 1 := by omega
      have m2 : (4 * T + 1 + 1) % 4 = 2 := by omega
      have m3 : (4 * T + 1 + 1 + 1) % 4 = 3 := by omega
      have ln : (l_row L 1000).toNatClampNeg = L.length := by unfold l_row; rw [if_pos rfl]; exact nI_clamp (by omega)
      simp only [List.map_cons, List.map_nil, List.singleton_append, wtb, m0, m1, m2, m3]
      unfold wtc
      rw [show 4 * T + 1 + 1 = 4 * T + 2 by omega, show 4 * T + 2 + 1 = 4 * T + 3 by omega, z0, z1, z2, z3, td_put_0, td_put_1, td_put_2, td_put_3, ln]
      rfl
  rw [ht, hw, show wl B (updM Z 0 (upd (Z 0) 7 (nI (T + 1))), Y, o, dd, (td_put t T tb ca st b, [])) = wst B (updM Z 0 (upd (Z 0) 7 (nI (T + 1))), Y, o, dd, (td_put t T tb ca st b, [])) ++ ((List.range (4 * wT (updM Z 0 (upd (Z 0) 7 (nI (T + 1)))))).map (wtb B (updM Z 0 (upd (Z 0) 7 (nI (T + 1))), Y, o, dd, (td_put t T tb ca st b, []))) ++ []) from rfl]
  rw [hwt, hmap, List.append_nil, wst_told B Z Y o dd t (td_put t T tb ca st b) [] [] (nI (T + 1)), hst, hTf, hT, nI_1]
  rw [show wl B (X, Y, o, dd, (t, [])) = wst B (X, Y, o, dd, (t, [])) ++ ((List.range (4 * T)).map (wtb B (X, Y, o, dd, (t, []))) ++ []) by rw [wl]; dsimp only; rw [hw], List.append_nil, List.append_assoc, List.set_append_left _ _ (by rw [wst_len]; omega), List.set_append_left _ _ (by rw [List.length_set, wst_len]; omega)]
theorem nw_tab : Cond.classLink RX7 55 RX5 ∈ wTs ∧ Cond.instantiable RX5 5 ∈ wTs ∧ Cond.initialized RX5 ∈ wTs := ⟨wTs_in 232 (by decide +kernel) rfl, wTs_in 801 (by decide +kernel) rfl, wTs_in 57 (by decide +kernel) rfl⟩
set_option maxRecDepth 4000 in
theorem g_f_X7_tell {G : wG} (hG : wOk G RX7 cX7_tell 2 8 219) {X Y : wM} {o : Int64} {dd : UInt64} {t1 : Nat → Nat} {res : ((Nat × wM) ⊕ (Int32 × wM))} (hE : wEnd G (some .int) (rpS res (fun z v σ1 => v = some (.int z.1) ∧ ∃ t2, σ1 = (z.2, Y, o, dd, (t2, [])))) (xpS res (fun e E σ1 => E = exn e.1 ∧ σ1 = (e.2, Y, o, dd, (t1, []))))) (hT : wNoTab G) (h : f_X7_tell X = some res) : J G 2 12 3459 0 [(0, .ref (wad (gB G) 0))] [] (X, Y, o, dd, (t1, [])) := by
  unfold f_X7_tell at h
  refine j_aload_n hG 0 (dt dtX7_tell_0 0 rfl) rfl rfl ?_
  refine j_get hG cl_X7 0 0 (cv_0 _ _ _ _) (by decide) fl_X7_12 rfl rfl (dt dtX7_tell_0 1 rfl) ?_
  refine j_get hG cl_X4 1 1 (cv_1 _ _ _ _) (by decide) fl_X7_65 rfl rfl (dt dtX7_tell_0 2 rfl) ?_
  refine j_iconst hG (v := 2) (dt dtX7_tell_0 3 rfl) (by decide) ?_
  refine j_icmp_ge hG (tgt := 21) (dt dtX7_tell_0 4 rfl) (by decide) h (fun h => ?_) (fun h => ?_)
  · refine J.weak (kc := 0 + 1) (ks := 0 + 6) (by decide) (by decide) ?_
    obtain rfl := Option.some.inj h
    exact j_throwS hG hE hT tf_X7_68_217_72 (dt dtX7_tell_0 5 rfl) (dt dtX7_tell_0 6 rfl) (dt dtX7_tell_0 7 rfl) (dt dtX7_tell_0 8 rfl) (dt dtX7_tell_0 9 rfl) (by decide) (by decide) ⟨_, rfl, rfl, rfl⟩
  · refine j_aload_n hG 0 (dt dtX7_tell_0 10 rfl) rfl rfl ?_
    refine j_get hG cl_X7 0 7 (cv_0 _ _ _ _) (by decide) fl_X7_61 rfl rfl (dt dtX7_tell_0 11 rfl) ?_
    refine j_bipush hG (v := 8) (dt dtX7_tell_0 12 rfl) (by decide) ?_
    refine j_icmp_lt hG (tgt := 40) (dt dtX7_tell_0 13 rfl) (by decide) h (fun h => ?_) (fun h => ?_)
    · refine j_aload_n hG 0 (dt dtX7_tell_0 19 rfl) rfl rfl ?_
      refine j_get hG cl_X7 0 3 (cv_0 _ _ _ _) (by decide) fl_X7_39 rfl rfl (dt dtX7_tell_0 20 rfl) ?_
      refine j_get hG cl_X6 10 3 (cv_10 _ _ _ _) (by decide) fl_X7_195 rfl rfl (dt dtX7_tell_0 21 rfl) ?_
      refine j_callSp hG h (V := fun y => (some (.int y))) (S := fun y => (X, Y, o, dd, (t1, []))) (kc := 12) (ks := 3459) (fun z hz => ct_X0_choose hG.2.2.1 (gB G) _ _ _ _ _ (cv_12 _ _ _ _) hz) mf_X0_choose ml_X7_221 rfl (rest := []) rfl (Nat.le_of_ble_eq_true rfl) (dt dtX7_tell_0 22 rfl) (by decide) (by decide) (fun y h => ?_)
      refine j_istore_n hG (lv' := [(1, .int y), (0, .ref (wad (gB G) 0))]) (dt dtX7_tell_0 23 rfl) rfl (by decide) rfl ?_
      refine j_iload_n hG 0 (dt dtX7_tell_0 24 rfl) rfl rfl ?_
      refine j_iconst hG (v := (-1)) (dt dtX7_tell_0 25 rfl) (by decide) ?_
      refine j_icmp_ne hG (tgt := 66) (dt dtX7_tell_0 26 rfl) (by decide) h (fun h => ?_) (fun h => ?_)
      · refine J.weak (kc := 0 + 1) (ks := 0 + 6) (by decide) (by decide) ?_
        obtain rfl := Option.some.inj h
        exact j_throwS hG hE hT tf_X7_161_227_165 (dt dtX7_tell_0 27 rfl) (dt dtX7_tell_0 28 rfl) (dt dtX7_tell_0 29 rfl) (dt dtX7_tell_0 30 rfl) (dt dtX7_tell_0 31 rfl) (by decide) (by decide) ⟨_, rfl, rfl, rfl⟩
      · obtain ⟨c1, h⟩ := wgd_ok h
        obtain ⟨L, h0, h⟩ := ob h
        obtain ⟨c2, h⟩ := wgd_ok h
        have hL := of_decide_eq_true c2
        obtain rfl := Option.some.inj h
        refine j_aload_n hG 1 (dt dtX7_tell_0 32 rfl) rfl rfl ?_
        refine j_get hG cl_X7 0 6 (cv_0 _ _ _ _) (by decide) fl_X7_57 rfl rfl (dt dtX7_tell_0 33 rfl) ?_
        refine j_aload_n hG 1 (dt dtX7_tell_0 34 rfl) rfl rfl ?_
        refine j_get hG cl_X7 0 7 (cv_0 _ _ _ _) (by decide) fl_X7_61 rfl rfl (dt dtX7_tell_0 35 rfl) ?_
        refine J_of ?_
        refine JL.weak (kc := 11 + 1) (ks := 3454 + 5) (by decide) (by decide) ?_
        refine jl_new hG cl_X5 (fs := [.int 0, .null, .int 0, .null, .int 0]) nw_tab.1 nw_tab.2.1 nw_tab.2.2 (by decide) (dt dtX7_tell_0 36 rfl) (fun q => ?_)
        refine jl_dup hG (dt dtX7_tell_0 37 rfl) rfl ?_
        refine jl_aload_n hG 1 (dt dtX7_tell_0 38 rfl) rfl rfl ?_
        refine jl_get hG cl_X7 0 0 (app_lt (cv_0 _ _ _ _)) (by decide) fl_X7_12 rfl (dt dtX7_tell_0 39 rfl) ?_
        refine jl_get hG cl_X4 1 1 (app_lt (cv_1 _ _ _ _)) (by decide) fl_X7_65 rfl (dt dtX7_tell_0 40 rfl) ?_
        refine jl_aload_n hG 1 (dt dtX7_tell_0 41 rfl) rfl rfl ?_
        refine jl_get hG cl_X7 0 3 (app_lt (cv_0 _ _ _ _)) (by decide) fl_X7_39 rfl (dt dtX7_tell_0 42 rfl) ?_
        refine jl_get hG cl_X6 10 3 (app_lt (cv_10 _ _ _ _)) (by decide) fl_X7_195 rfl (dt dtX7_tell_0 43 rfl) ?_
        refine jl_iload_n hG 0 (dt dtX7_tell_0 44 rfl) rfl rfl ?_
        refine jl_callI hG (kc := 0) (ks := 0) (ct_X5_init hG.2.2.1 (cv_12 _ _ _ _) h0 hL) mi_X5_init ml_X7_229 rfl rfl rfl (rest := [.ref q, .int (X 0 7), .ref (wad (gB G) 21)]) (Nat.le_of_ble_eq_true rfl) (dt dtX7_tell_0 45 rfl) (by decide) (by decide) (fun v w h => ?_)
        obtain ⟨rfl, ca, st, b, rfl⟩ := h
        refine jl_aast hG 21 3 ((wl (gB G) (X, Y, o, dd, (t1, []))).length + 0) 7 (app_lt (cv_21 _ X Y o dd (t1, []))) rfl ((app_get _ _ rfl 0).trans rfl) cl_X5.1 (inb_vp c1) rfl (dt dtX7_tell_0 46 rfl) ?_
        refine jl_aload_n hG 1 (dt dtX7_tell_0 47 rfl) rfl rfl ?_
        refine jl_dup hG (dt dtX7_tell_0 48 rfl) rfl ?_
        refine jl_get hG cl_X7 0 7 (by rw [List.getElem?_set_ne (by decide)]; exact app_lt (cv_0 _ _ _ _)) (by decide) fl_X7_61 rfl (dt dtX7_tell_0 49 rfl) ?_
        refine jl_iconst hG (v := 1) (dt dtX7_tell_0 50 rfl) (by decide) ?_
        refine jl_iadd hG (dt dtX7_tell_0 51 rfl) ?_
        refine jl_put (ws' := wl (gB G) (told X y L, Y, o, dd, (td_put t1 (wT X) q ca st b, []))) hG cl_X7 0 7 (by rw [List.getElem?_set_ne (by decide)]; exact app_lt (cv_0 _ _ _ _)) (by decide) fl_X7_61 rfl rfl rfl rfl (Nat.le_of_ble_eq_true rfl) (told_wl (gB G) X Y o dd t1 c1 hL q ca st b) (dt dtX7_tell_0 52 rfl) ?_
        refine J_to ?_
        refine j_aload_n hG 1 (dt dtX7_tell_0 53 rfl) rfl rfl ?_
        refine j_get hG cl_X7 0 7 (cv_0 _ _ _ _) (by decide) fl_X7_61 rfl rfl (dt dtX7_tell_0 54 rfl) ?_
        refine j_iconst hG (v := 1) (dt dtX7_tell_0 55 rfl) (by decide) ?_
        refine j_isub hG (dt dtX7_tell_0 56 rfl) ?_
        exact j_iret hG hE ⟨_, rfl, by rw [show told X y L 0 7 = X 0 7 + 1 from rfl, Int32.add_sub_cancel], _, rfl⟩ (dt dtX7_tell_0 57 rfl)
    · refine J.weak (kc := 0 + 1) (ks := 0 + 6) (by decide) (by decide) ?_
      obtain rfl := Option.some.inj h
      exact j_throwS hG hE hT tf_X7_68_219_72 (dt dtX7_tell_0 14 rfl) (dt dtX7_tell_0 15 rfl) (dt dtX7_tell_0 16 rfl) (dt dtX7_tell_0 17 rfl) (dt dtX7_tell_0 18 rfl) (by decide) (by decide) ⟨_, rfl, rfl, rfl⟩
theorem ct_X7_tell {l : Launch} (hl : l.stackTraces = false) (B : wB) {X Y : wM} {o : Int64} {dd : UInt64} {t1 : Nat → Nat} {res : ((Nat × wM) ⊕ (Int32 × wM))} (h : f_X7_tell X = some res) : wMet l B yX7_tell cX7_tell 2 (some .int) 8 219 12 3459 [.ref (wad B 0)] (X, Y, o, dd, (t1, [])) (rpS res (fun z v σ1 => v = some (.int z.1) ∧ ∃ t2, σ1 = (z.2, Y, o, dd, (t2, [])))) (xpS res (fun e E σ1 => E = exn e.1 ∧ σ1 = (e.2, Y, o, dd, (t1, [])))) :=
  wMet.of hl (by decide +kernel) (Nat.le_of_ble_eq_true rfl) (fun G hB hL hG hE hT => by subst hB; exact g_f_X7_tell hG hE hT h)
