def f_X7_settle_73 (k18 : wM → Int32 → Int32 → Option (Int32 × wM)) (X : wM) (l1 : Int32) (l2 : Int32) : Option (Int32 × wM) :=
  wbd (l2 + 1) fun v73 =>
  k18 X l1 v73
def f_X7_settle_18b (k18 : wM → Int32 → Int32 → Option (Int32 × wM)) (X : wM) (l1 : Int32) (l2 : Int32) : Option (Int32 × wM) :=
  (if l2 < (X 0 7) then wtab X l2 fun v31 =>
  (wopt v31 (f_X7_settle_73 k18 X l1 l2)
  fun i34 => wgd (decide (i34 < wT X)) ((if (X (39 + 4 * i34) 4) = 0 then wgd (decide (i34 < wT X)) ((f_X5_shows X (X 12) i34 (X 1 1)).bind fun y59 =>
  (if y59 = 0 then wgd (decide (i34 < wT X)) (wfld X (39 + 4 * i34) 4 1 fun X =>
  wbd (l1 + 1) fun v70 =>
  f_X7_settle_73 k18 X v70 l2)
  else f_X7_settle_73 k18 X l1 l2))
  else f_X7_settle_73 k18 X l1 l2)))
  else some (l1, X))
def f_X7_settle_18 : Nat → wM → Int32 → Int32 → Option (Int32 × wM)
  | 0 => fun _ _ _ => none
  | n + 1 => fun X l1 l2 => f_X7_settle_18b (f_X7_settle_18 n) X l1 l2
def f_X7_settle (X : wM) : Option (Int32 × wM) :=
  (f_X6_renew_10 X).bind fun y4 =>
  (f_X2_renew y4).bind fun y11 =>
  f_X7_settle_18 1000 y11 (0 : Int32) (0 : Int32)
set_option maxRecDepth 4000 in
theorem g_f_X7_settle_73 {G : wG} (hG : wOk G RX7 cX7_settle 4 5 113) {X Y : wM} {o : Int64} {dd : UInt64} {td : wX} {res : (Int32 × wM)} (hE : wEnd G (some .int) (rp (some (.int (res.1))) (res.2, Y, o, dd, td)) xp0) (hT : wNoTab G) {k18 : wM → Int32 → Int32 → Option (Int32 × wM)} (hk18 : ∀ (X : wM) (l1 : Int32) (l2 : Int32), k18 X l1 l2 = some res → J G 4 0 0 18 [(0, .ref (wad (gB G) 0)), (1, .int (l1)), (2, .int (l2))] [] (X, Y, o, dd, td)) {l1 : Int32} {l2 : Int32} (h : f_X7_settle_73 k18 X l1 l2 = some res) : J G 4 0 0 73 [(0, .ref (wad (gB G) 0)), (1, .int (l1)), (2, .int (l2))] [] (X, Y, o, dd, td) := by
  unfold f_X7_settle_73 at h
  refine j_iincB hG 2 (fun v73 => [(2, .int (v73)), (0, .ref (wad (gB G) 0)), (1, .int (l1))]) (dt dtX7_settle_0 37 rfl) rfl rfl (by decide) (fun _ => rfl) h (fun v73 h => ?_)
  refine j_goto hG (tgt := 18) (dt dtX7_settle_0 38 rfl) (by decide) ?_
  refine j_lv (lv' := [(0, .ref (wad (gB G) 0)), (1, .int (l1)), (2, .int (v73))]) [1, 2, 0] rfl ?_
  exact hk18 X l1 v73 h
set_option maxRecDepth 4000 in
theorem g_f_X7_settle_18b {G : wG} (hG : wOk G RX7 cX7_settle 4 5 113) {X Y : wM} {o : Int64} {dd : UInt64} {td : wX} {res : (Int32 × wM)} (hE : wEnd G (some .int) (rp (some (.int (res.1))) (res.2, Y, o, dd, td)) xp0) (hT : wNoTab G) {k18 : wM → Int32 → Int32 → Option (Int32 × wM)} (hk18 : ∀ (X : wM) (l1 : Int32) (l2 : Int32), k18 X l1 l2 = some res → J G 4 0 0 18 [(0, .ref (wad (gB G) 0)), (1, .int (l1)), (2, .int (l2))] [] (X, Y, o, dd, td)) {l1 : Int32} {l2 : Int32} (h : f_X7_settle_18b k18 X l1 l2 = some res) : J G 4 0 0 18 [(0, .ref (wad (gB G) 0)), (1, .int (l1)), (2, .int (l2))] [] (X, Y, o, dd, td) := by
  unfold f_X7_settle_18b at h
  refine j_iload_n hG 2 (dt dtX7_settle_0 10 rfl) rfl rfl ?_
  refine j_aload_n hG 0 (dt dtX7_settle_0 11 rfl) rfl rfl ?_
  refine j_get hG cl_X7 0 7 (cv_0 _ _ _ _) (by decide) fl_X7_61 rfl rfl (dt dtX7_settle_0 12 rfl) ?_
  refine j_icmp_ge hG (tgt := 79) (dt dtX7_settle_0 13 rfl) (by decide) h (fun h => ?_) (fun h => ?_)
  · refine j_aload_n hG 0 (dt dtX7_settle_0 14 rfl) rfl rfl ?_
    refine j_get hG cl_X7 0 6 (cv_0 _ _ _ _) (by decide) fl_X7_57 rfl rfl (dt dtX7_settle_0 15 rfl) ?_
    refine j_iload_n hG 2 (dt dtX7_settle_0 16 rfl) rfl rfl ?_
    refine j_aaldW hG h (dt dtX7_settle_0 17 rfl) (fun v31 h => ?_)
    refine j_qstore_n hG (lv' := [(3, va_rf (Option.map (fun i => td.1 (4 * i)) v31)), (0, .ref (wad (gB G) 0)), (1, .int (l1)), (2, .int (l2))]) (by first | exact Or.inl rfl | exact wrf_or _) (dt dtX7_settle_0 18 rfl) rfl (by decide) rfl ?_
    refine j_qload_n hG 0 (dt dtX7_settle_0 19 rfl) rfl rfl ?_
    refine j_ifnull hG (td := fun i => td.1 (4 * i)) (tgt := 73) (dt dtX7_settle_0 20 rfl) (by decide) h (fun e h => ?_) (fun i34 e h => ?_)
    · subst e
      refine j_lv (lv' := [(0, .ref (wad (gB G) 0)), (1, .int (l1)), (2, .int (l2))]) [1, 2, 3] rfl ?_
      exact g_f_X7_settle_73 hG hE hT hk18 h
    · subst e
      refine j_aload_n hG 0 (dt dtX7_settle_0 21 rfl) rfl rfl ?_
      obtain ⟨c38, h⟩ := wgd_ok h
      refine j_get hG cl_X5 (39 + 4 * i34) 4 (ct_0 _ _ _ _ _ _ (of_decide_eq_true c38)) (by decide) fl_X7_236 rfl rfl (dt dtX7_settle_0 22 rfl) ?_
      refine j_if_ne hG (tgt := 73) (dt dtX7_settle_0 23 rfl) (by decide) h (fun h => ?_) (fun h => ?_)
      · refine j_aload_n hG 0 (dt dtX7_settle_0 24 rfl) rfl rfl ?_
        refine j_aload_n hG 1 (dt dtX7_settle_0 25 rfl) rfl rfl ?_
        refine j_get hG cl_X7 0 0 (cv_0 _ _ _ _) (by decide) fl_X7_12 rfl rfl (dt dtX7_settle_0 26 rfl) ?_
        refine j_get hG cl_X4 1 1 (cv_1 _ _ _ _) (by decide) fl_X7_65 rfl rfl (dt dtX7_settle_0 27 rfl) ?_
        refine j_aload_n hG 1 (dt dtX7_settle_0 28 rfl) rfl rfl ?_
        refine j_get hG cl_X7 0 3 (cv_0 _ _ _ _) (by decide) fl_X7_39 rfl rfl (dt dtX7_settle_0 29 rfl) ?_
        refine j_get hG cl_X6 10 3 (cv_10 _ _ _ _) (by decide) fl_X7_195 rfl rfl (dt dtX7_settle_0 30 rfl) ?_
        obtain ⟨c59, h⟩ := wgd_ok h
        refine j_callVp hG h (V := fun y59 => (some (.int (y59)))) (S := fun y59 => (X, Y, o, dd, td)) (kc := 0) (ks := 0) (fun z hz => ct_X5_shows hG.2.2.1 (gB G) _ _ _ _ _ (cv_12 _ _ _ _) hz) mf_X5_shows ml_X7_308 _ (ct_0 _ _ _ _ _ _ (of_decide_eq_true c59)) rfl rfl (rest := []) rfl (Nat.le_of_ble_eq_true rfl) (dt dtX7_settle_0 31 rfl) (by decide) (by decide) (fun y59 h => ?_)
        refine j_if_ne hG (tgt := 73) (dt dtX7_settle_0 32 rfl) (by decide) h (fun h => ?_) (fun h => ?_)
        · refine j_aload_n hG 0 (dt dtX7_settle_0 33 rfl) rfl rfl ?_
          refine j_iconst hG (v := 1) (dt dtX7_settle_0 34 rfl) (by decide) ?_
          obtain ⟨c67, h⟩ := wgd_ok h
          refine j_put hG cl_X5 (39 + 4 * i34) 4 (X := X) (k := 39 + 4 * i34) (fun X => (X, Y, o, dd, td)) (ct_0 _ _ _ _ _ _ (of_decide_eq_true c67)) (by decide) fl_X7_236 rfl rfl rfl (by decide) (by decide) (Nat.le_of_ble_eq_true rfl) (cs_undone _ _ _ _ _ _ (of_decide_eq_true c67) _) h (dt dtX7_settle_0 35 rfl) (fun X h => ?_)
          refine j_iincB hG 2 (fun v70 => [(1, .int (v70)), (3, .ref (td.1 (4 * i34))), (0, .ref (wad (gB G) 0)), (2, .int (l2))]) (dt dtX7_settle_0 36 rfl) rfl rfl (by decide) (fun _ => rfl) h (fun v70 h => ?_)
          refine j_lv (lv' := [(0, .ref (wad (gB G) 0)), (1, .int (v70)), (2, .int (l2))]) [2, 0, 3] rfl ?_
          exact g_f_X7_settle_73 hG hE hT hk18 h
        · refine j_lv (lv' := [(0, .ref (wad (gB G) 0)), (1, .int (l1)), (2, .int (l2))]) [1, 2, 3] rfl ?_
          exact g_f_X7_settle_73 hG hE hT hk18 h
      · refine j_lv (lv' := [(0, .ref (wad (gB G) 0)), (1, .int (l1)), (2, .int (l2))]) [1, 2, 3] rfl ?_
        exact g_f_X7_settle_73 hG hE hT hk18 h
  · refine j_iload_n hG 1 (dt dtX7_settle_0 39 rfl) rfl rfl ?_
    obtain rfl := Option.some.inj h
    exact j_iret hG hE ⟨rfl, rfl⟩ (dt dtX7_settle_0 40 rfl)
set_option maxRecDepth 4000 in
theorem g_f_X7_settle_18 {G : wG} (hG : wOk G RX7 cX7_settle 4 5 113) {Y : wM} {o : Int64} {dd : UInt64} {td : wX} {res : (Int32 × wM)} (hE : wEnd G (some .int) (rp (some (.int (res.1))) (res.2, Y, o, dd, td)) xp0) (hT : wNoTab G) (n : Nat) : ∀ (X : wM) (l1 : Int32) (l2 : Int32), f_X7_settle_18 n X l1 l2 = some res → J G 4 0 0 18 [(0, .ref (wad (gB G) 0)), (1, .int (l1)), (2, .int (l2))] [] (X, Y, o, dd, td) := by
  induction n with
  | zero => intro X l1 l2 h; cases h
  | succ n ih =>
    intro X l1 l2 h
    exact g_f_X7_settle_18b hG hE hT ih h
set_option maxRecDepth 4000 in
theorem g_f_X7_settle {G : wG} (hG : wOk G RX7 cX7_settle 4 5 113) {X Y : wM} {o : Int64} {dd : UInt64} {td : wX} {res : (Int32 × wM)} (hE : wEnd G (some .int) (rp (some (.int (res.1))) (res.2, Y, o, dd, td)) xp0) (hT : wNoTab G) (h : f_X7_settle X = some res) : J G 4 0 0 0 [(0, .ref (wad (gB G) 0))] [] (X, Y, o, dd, td) := by
  unfold f_X7_settle at h
  refine j_aload_n hG 0 (dt dtX7_settle_0 0 rfl) rfl rfl ?_
  refine j_get hG cl_X7 0 3 (cv_0 _ _ _ _) (by decide) fl_X7_39 rfl rfl (dt dtX7_settle_0 1 rfl) ?_
  refine j_callVp hG h (V := fun y4 => none) (S := fun y4 => (y4, Y, o, dd, td)) (kc := 0) (ks := 0) (fun z hz => ct_X6_renew_10 hG.2.2.1 (gB G) _ _ _ _ _ hz) mf_X6_renew ml_X7_198 10 (cv_10 _ _ _ _) rfl rfl (rest := []) rfl (Nat.le_of_ble_eq_true rfl) (dt dtX7_settle_0 2 rfl) (by decide) (by decide) (fun y4 h => ?_)
  refine j_aload_n hG 0 (dt dtX7_settle_0 3 rfl) rfl rfl ?_
  refine j_get hG cl_X7 0 5 (cv_0 _ _ _ _) (by decide) fl_X7_51 rfl rfl (dt dtX7_settle_0 4 rfl) ?_
  refine j_callVp hG h (V := fun y11 => none) (S := fun y11 => (y11, Y, o, dd, td)) (kc := 0) (ks := 0) (fun z hz => ct_X2_renew hG.2.2.1 (gB G) _ _ _ _ _ hz) mf_X2_renew ml_X7_312 16 (cv_16 _ _ _ _) rfl rfl (rest := []) rfl (Nat.le_of_ble_eq_true rfl) (dt dtX7_settle_0 5 rfl) (by decide) (by decide) (fun y11 h => ?_)
  refine j_iconst hG (v := 0) (dt dtX7_settle_0 6 rfl) (by decide) ?_
  refine j_istore_n hG (lv' := [(1, .int (0)), (0, .ref (wad (gB G) 0))]) (dt dtX7_settle_0 7 rfl) rfl (by decide) rfl ?_
  refine j_iconst hG (v := 0) (dt dtX7_settle_0 8 rfl) (by decide) ?_
  refine j_istore_n hG (lv' := [(2, .int (0)), (1, .int (0)), (0, .ref (wad (gB G) 0))]) (dt dtX7_settle_0 9 rfl) rfl (by decide) rfl ?_
  refine j_lv (lv' := [(0, .ref (wad (gB G) 0)), (1, .int (0)), (2, .int (0))]) [2, 1, 0] rfl ?_
  exact g_f_X7_settle_18 hG hE hT 1000 y11 (0 : Int32) (0 : Int32) h
theorem ct_X7_settle {l : Launch} (hl : l.stackTraces = false) (B : wB) (X Y : wM) (o : Int64) (dd : UInt64) (td : wX) {res : (Int32 × wM)} (h : f_X7_settle X = some res) : wMet l B yX7_settle cX7_settle 4 (some .int) 5 113 0 0 [.ref (wad B 0)] (X, Y, o, dd, td) (rp (some (.int (res.1))) (res.2, Y, o, dd, td)) xp0 :=
  wMet.of hl (by decide +kernel) (Nat.le_of_ble_eq_true rfl) (fun G hB hL hG hE hT => by subst hB; exact g_f_X7_settle hG hE hT h)
def f_X7_addBlock (X : wM) : Option ((Nat × wM) ⊕ (Int32 × wM)) :=
  (if (X 1 1) < 6 then (f_X4_openBlock X).bind fun y26 =>
  (f_X7_settle y26.2).bind fun y31 =>
  some (.inr (y26.1, y31.2))
  else some (.inl (0, X)))
set_option maxRecDepth 4000 in
theorem g_f_X7_addBlock {G : wG} (hG : wOk G RX7 cX7_addBlock 2 6 136) {X Y : wM} {o : Int64} {dd : UInt64} {td : wX} {res : ((Nat × wM) ⊕ (Int32 × wM))} (hE : wEnd G (some .int) (rpS res (fun z => rp (some (.int (z.1))) (z.2, Y, o, dd, td))) (xpS res (fun e E σ1 => E = exn e.1 ∧ σ1 = (e.2, Y, o, dd, td)))) (hT : wNoTab G) (h : f_X7_addBlock X = some res) : J G 2 1 6 0 [(0, .ref (wad (gB G) 0))] [] (X, Y, o, dd, td) := by
  unfold f_X7_addBlock at h
  refine j_aload_n hG 0 (dt dtX7_addBlock_0 0 rfl) rfl rfl ?_
  refine j_get hG cl_X7 0 0 (cv_0 _ _ _ _) (by decide) fl_X7_12 rfl rfl (dt dtX7_addBlock_0 1 rfl) ?_
  refine j_get hG cl_X4 1 1 (cv_1 _ _ _ _) (by decide) fl_X7_65 rfl rfl (dt dtX7_addBlock_0 2 rfl) ?_
  refine j_bipush hG (v := 6) (dt dtX7_addBlock_0 3 rfl) (by decide) ?_
  refine j_icmp_lt hG (tgt := 22) (dt dtX7_addBlock_0 4 rfl) (by decide) h (fun h => ?_) (fun h => ?_)
  · refine J.weak (kc := 0) (ks := 0) (by decide) (by decide) ?_
    refine j_aload_n hG 0 (dt dtX7_addBlock_0 10 rfl) rfl rfl ?_
    refine j_get hG cl_X7 0 0 (cv_0 _ _ _ _) (by decide) fl_X7_12 rfl rfl (dt dtX7_addBlock_0 11 rfl) ?_
    refine j_callVp hG h (V := fun y26 => (some (.int (y26.1)))) (S := fun y26 => (y26.2, Y, o, dd, td)) (kc := 0) (ks := 0) (fun z hz => ct_X4_openBlock hG.2.2.1 (gB G) _ _ _ _ _ hz) mf_X4_openBlock ml_X7_75 1 (cv_1 _ _ _ _) rfl rfl (rest := []) rfl (Nat.le_of_ble_eq_true rfl) (dt dtX7_addBlock_0 12 rfl) (by decide) (by decide) (fun y26 h => ?_)
    refine j_istore_n hG (lv' := [(1, .int (y26.1)), (0, .ref (wad (gB G) 0))]) (dt dtX7_addBlock_0 13 rfl) rfl (by decide) rfl ?_
    refine j_aload_n hG 1 (dt dtX7_addBlock_0 14 rfl) rfl rfl ?_
    refine j_callVp hG h (V := fun y31 => (some (.int (y31.1)))) (S := fun y31 => (y31.2, Y, o, dd, td)) (kc := 0) (ks := 0) (fun z hz => ct_X7_settle hG.2.2.1 (gB G) _ _ _ _ _ hz) mf_X7_settle ml_X7_79 0 (cv_0 _ _ _ _) rfl rfl (rest := []) rfl (Nat.le_of_ble_eq_true rfl) (dt dtX7_addBlock_0 15 rfl) (by decide) (by decide) (fun y31 h => ?_)
    refine j_pop hG (dt dtX7_addBlock_0 16 rfl) rfl ?_
    refine j_iload_n hG 0 (dt dtX7_addBlock_0 17 rfl) rfl rfl ?_
    obtain rfl := Option.some.inj h
    exact j_iret hG hE ⟨_, rfl, rfl, rfl⟩ (dt dtX7_addBlock_0 18 rfl)
  · obtain rfl := Option.some.inj h
    exact j_throwS hG hE hT tf_X7_68_70_72 (dt dtX7_addBlock_0 5 rfl) (dt dtX7_addBlock_0 6 rfl) (dt dtX7_addBlock_0 7 rfl) (dt dtX7_addBlock_0 8 rfl) (dt dtX7_addBlock_0 9 rfl) (by decide) (by decide) ⟨_, rfl, rfl, rfl⟩
theorem ct_X7_addBlock {l : Launch} (hl : l.stackTraces = false) (B : wB) (X Y : wM) (o : Int64) (dd : UInt64) (td : wX) {res : ((Nat × wM) ⊕ (Int32 × wM))} (h : f_X7_addBlock X = some res) : wMet l B yX7_addBlock cX7_addBlock 2 (some .int) 6 136 1 6 [.ref (wad B 0)] (X, Y, o, dd, td) (rpS res (fun z => rp (some (.int (z.1))) (z.2, Y, o, dd, td))) (xpS res (fun e E σ1 => E = exn e.1 ∧ σ1 = (e.2, Y, o, dd, td))) :=
  wMet.of hl (by decide +kernel) (Nat.le_of_ble_eq_true rfl) (fun G hB hL hG hE hT => by subst hB; exact g_f_X7_addBlock hG hE hT h)
def f_X7_needBlock_15 (X : wM) : Option ((Nat) ⊕ (Unit)) :=
  some (.inl 2)
def f_X7_needBlock (X : wM) (a1 : Int32) : Option ((Nat) ⊕ (Unit)) :=
  (if a1 < 0 then f_X7_needBlock_15 X
  else (if a1 < (X 1 1) then some (.inr ())
  else f_X7_needBlock_15 X))
set_option maxRecDepth 4000 in
theorem g_f_X7_needBlock_15 {G : wG} (hG : wOk G RX7 cX7_needBlock 2 6 90) {X Y : wM} {o : Int64} {dd : UInt64} {td : wX} {res : ((Nat) ⊕ (Unit))} (hE : wEnd G none (rpS res (fun z => rp none (X, Y, o, dd, td))) (xpS res (fun e E σ1 => E = exn e ∧ σ1 = (X, Y, o, dd, td)))) (hT : wNoTab G) (h : f_X7_needBlock_15 X = some res) : J G 2 1 6 15 [] [] (X, Y, o, dd, td) := by
  unfold f_X7_needBlock_15 at h
  obtain rfl := Option.some.inj h
  exact j_throwSW hG hE hT tf_X7_291_313_295 (dt dtX7_needBlock_0 7 rfl) (dt dtX7_needBlock_0 8 rfl) (dt dtX7_needBlock_0 9 rfl) (dt dtX7_needBlock_0 10 rfl) (dt dtX7_needBlock_0 11 rfl) (by decide) (by decide) ⟨_, rfl, rfl, rfl⟩
set_option maxRecDepth 4000 in
theorem g_f_X7_needBlock {G : wG} (hG : wOk G RX7 cX7_needBlock 2 6 90) {X Y : wM} {o : Int64} {dd : UInt64} {td : wX} {res : ((Nat) ⊕ (Unit))} (hE : wEnd G none (rpS res (fun z => rp none (X, Y, o, dd, td))) (xpS res (fun e E σ1 => E = exn e ∧ σ1 = (X, Y, o, dd, td)))) (hT : wNoTab G) {a1 : Int32} (h : f_X7_needBlock X a1 = some res) : J G 2 1 6 0 [(0, .ref (wad (gB G) 0)), (1, .int (a1))] [] (X, Y, o, dd, td) := by
  unfold f_X7_needBlock at h
  refine j_iload_n hG 1 (dt dtX7_needBlock_0 0 rfl) rfl rfl ?_
  refine j_if_lt hG (tgt := 15) (dt dtX7_needBlock_0 1 rfl) (by decide) h (fun h => ?_) (fun h => ?_)
  · refine j_lv (lv' := []) [] rfl ?_
    exact g_f_X7_needBlock_15 hG hE hT h
  · refine j_iload_n hG 1 (dt dtX7_needBlock_0 2 rfl) rfl rfl ?_
    refine j_aload_n hG 0 (dt dtX7_needBlock_0 3 rfl) rfl rfl ?_
    refine j_get hG cl_X7 0 0 (cv_0 _ _ _ _) (by decide) fl_X7_12 rfl rfl (dt dtX7_needBlock_0 4 rfl) ?_
    refine j_get hG cl_X4 1 1 (cv_1 _ _ _ _) (by decide) fl_X7_65 rfl rfl (dt dtX7_needBlock_0 5 rfl) ?_
    refine j_icmp_lt hG (tgt := 26) (dt dtX7_needBlock_0 6 rfl) (by decide) h (fun h => ?_) (fun h => ?_)
    · refine J.weak (kc := 0) (ks := 0) (by decide) (by decide) ?_
      obtain rfl := Option.some.inj h
      exact j_vret hG hE ⟨_, rfl, rfl, rfl⟩ (dt dtX7_needBlock_0 12 rfl)
    · refine j_lv (lv' := []) [] rfl ?_
      exact g_f_X7_needBlock_15 hG hE hT h
theorem ct_X7_needBlock {l : Launch} (hl : l.stackTraces = false) (B : wB) (X Y : wM) (o : Int64) (dd : UInt64) (td : wX) {a1 : Int32} {res : ((Nat) ⊕ (Unit))} (h : f_X7_needBlock X a1 = some res) : wMet l B yX7_needBlock cX7_needBlock 2 none 6 90 1 6 [.ref (wad B 0), .int (a1)] (X, Y, o, dd, td) (rpS res (fun z => rp none (X, Y, o, dd, td))) (xpS res (fun e E σ1 => E = exn e ∧ σ1 = (X, Y, o, dd, td))) :=
  wMet.of hl (by decide +kernel) (Nat.le_of_ble_eq_true rfl) (fun G hB hL hG hE hT => by subst hB; exact g_f_X7_needBlock hG hE hT h)
def f_X7_addAddress (X : wM) (a1 : Int32) : Option ((Nat × wM) ⊕ (Int32 × wM)) :=
  wthr (f_X7_needBlock X a1) (fun e => some (.inl (e, X))) fun y2 =>
  (if (X 1 2) < 20 then (f_X4_openAddress X a1).bind fun y32 =>
  some (.inr (y32.1, y32.2))
  else some (.inl (0, X)))
set_option maxRecDepth 4000 in
theorem g_f_X7_addAddress {G : wG} (hG : wOk G RX7 cX7_addAddress 2 7 111) {X Y : wM} {o : Int64} {dd : UInt64} {td : wX} {res : ((Nat × wM) ⊕ (Int32 × wM))} (hE : wEnd G (some .int) (rpS res (fun z => rp (some (.int (z.1))) (z.2, Y, o, dd, td))) (xpS res (fun e E σ1 => E = exn e.1 ∧ σ1 = (e.2, Y, o, dd, td)))) (hT : wNoTab G) {a1 : Int32} (h : f_X7_addAddress X a1 = some res) : J G 2 2 12 0 [(0, .ref (wad (gB G) 0)), (1, .int (a1))] [] (X, Y, o, dd, td) := by
  unfold f_X7_addAddress at h
  refine j_aload_n hG 0 (dt dtX7_addAddress_0 0 rfl) rfl rfl ?_
  refine j_iload_n hG 1 (dt dtX7_addAddress_0 1 rfl) rfl rfl ?_
  refine j_callVt hG h (V := fun y2 => none) (S := fun y2 => (X, Y, o, dd, td)) (E0 := fun e => exn e) (S0 := fun e => (X, Y, o, dd, td)) (kc := 1) (ks := 6) (fun z hz => ct_X7_needBlock hG.2.2.1 (gB G) _ _ _ _ _ hz) mf_X7_needBlock ml_X7_82 0 (cv_0 _ _ _ _) rfl rfl (rest := []) rfl (Nat.le_of_ble_eq_true rfl) (dt dtX7_addAddress_0 2 rfl) (by decide) (by decide) (fun y2 h => ?_) (fun e h => ?_)
  · refine j_aload_n hG 0 (dt dtX7_addAddress_0 3 rfl) rfl rfl ?_
    refine j_get hG cl_X7 0 0 (cv_0 _ _ _ _) (by decide) fl_X7_12 rfl rfl (dt dtX7_addAddress_0 4 rfl) ?_
    refine j_get hG cl_X4 1 2 (cv_1 _ _ _ _) (by decide) fl_X7_86 rfl rfl (dt dtX7_addAddress_0 5 rfl) ?_
    refine j_bipush hG (v := 20) (dt dtX7_addAddress_0 6 rfl) (by decide) ?_
    refine j_icmp_lt hG (tgt := 27) (dt dtX7_addAddress_0 7 rfl) (by decide) h (fun h => ?_) (fun h => ?_)
    · refine J.weak (kc := 0) (ks := 0) (by decide) (by decide) ?_
      refine j_aload_n hG 0 (dt dtX7_addAddress_0 13 rfl) rfl rfl ?_
      refine j_get hG cl_X7 0 0 (cv_0 _ _ _ _) (by decide) fl_X7_12 rfl rfl (dt dtX7_addAddress_0 14 rfl) ?_
      refine j_iload_n hG 1 (dt dtX7_addAddress_0 15 rfl) rfl rfl ?_
      refine j_callVp hG h (V := fun y32 => (some (.int (y32.1)))) (S := fun y32 => (y32.2, Y, o, dd, td)) (kc := 0) (ks := 0) (fun z hz => ct_X4_openAddress hG.2.2.1 (gB G) _ _ _ _ _ hz) mf_X4_openAddress ml_X7_91 1 (cv_1 _ _ _ _) rfl rfl (rest := []) rfl (Nat.le_of_ble_eq_true rfl) (dt dtX7_addAddress_0 16 rfl) (by decide) (by decide) (fun y32 h => ?_)
      obtain rfl := Option.some.inj h
      exact j_iret hG hE ⟨_, rfl, rfl, rfl⟩ (dt dtX7_addAddress_0 17 rfl)
    · obtain rfl := Option.some.inj h
      exact j_throwS hG hE hT tf_X7_68_89_72 (dt dtX7_addAddress_0 8 rfl) (dt dtX7_addAddress_0 9 rfl) (dt dtX7_addAddress_0 10 rfl) (dt dtX7_addAddress_0 11 rfl) (dt dtX7_addAddress_0 12 rfl) (by decide) (by decide) ⟨_, rfl, rfl, rfl⟩
  · obtain rfl := Option.some.inj h
    exact jx_out hG hE hT ⟨_, rfl, rfl, rfl⟩
theorem ct_X7_addAddress {l : Launch} (hl : l.stackTraces = false) (B : wB) (X Y : wM) (o : Int64) (dd : UInt64) (td : wX) {a1 : Int32} {res : ((Nat × wM) ⊕ (Int32 × wM))} (h : f_X7_addAddress X a1 = some res) : wMet l B yX7_addAddress cX7_addAddress 2 (some .int) 7 111 2 12 [.ref (wad B 0), .int (a1)] (X, Y, o, dd, td) (rpS res (fun z => rp (some (.int (z.1))) (z.2, Y, o, dd, td))) (xpS res (fun e E σ1 => E = exn e.1 ∧ σ1 = (e.2, Y, o, dd, td))) :=
  wMet.of hl (by decide +kernel) (Nat.le_of_ble_eq_true rfl) (fun G hB hL hG hE hT => by subst hB; exact g_f_X7_addAddress hG hE hT h)
def f_X7_split_29 (X : wM) : Option ((Nat × wM) ⊕ (Int32 × wM)) :=
  some (.inl (5, X))
def f_X7_split (X : wM) (a1 : Int32) (a2 : Int32) : Option ((Nat × wM) ⊕ (Int32 × wM)) :=
  wthr (f_X7_needBlock X a1) (fun e => some (.inl (e, X))) fun y2 =>
  (f_X4_hasAddress X a2).bind fun y10 =>
  (if y10 = 0 then f_X7_split_29 X
  else wget 20 (X 2) a2 fun v24 =>
  (if v24 = a1 then (if (X 1 1) < 6 then (f_X4_openBlock X).bind fun y65 =>
  (f_X4_move y65.2 a1 a2 y65.1).bind fun y76 =>
  (f_X7_settle y76.2).bind fun y81 =>
  some (.inr (y65.1, y81.2))
  else some (.inl (0, X)))
  else f_X7_split_29 X))
set_option maxRecDepth 4000 in
theorem g_f_X7_split_29 {G : wG} (hG : wOk G RX7 cX7_split 4 7 136) {X Y : wM} {o : Int64} {dd : UInt64} {td : wX} {res : ((Nat × wM) ⊕ (Int32 × wM))} (hE : wEnd G (some .int) (rpS res (fun z => rp (some (.int (z.1))) (z.2, Y, o, dd, td))) (xpS res (fun e E σ1 => E = exn e.1 ∧ σ1 = (e.2, Y, o, dd, td)))) (hT : wNoTab G) (h : f_X7_split_29 X = some res) : J G 4 1 6 29 [] [] (X, Y, o, dd, td) := by
  unfold f_X7_split_29 at h
  obtain rfl := Option.some.inj h
  exact j_throwX hG hE hT tf_X7_103_105_107 (dt dtX7_split_0 15 rfl) (dt dtX7_split_0 16 rfl) (dt dtX7_split_0 17 rfl) (dt dtX7_split_0 18 rfl) (dt dtX7_split_0 19 rfl) (by decide) (by decide) ⟨_, rfl, rfl, rfl⟩
set_option maxRecDepth 4000 in
theorem g_f_X7_split {G : wG} (hG : wOk G RX7 cX7_split 4 7 136) {X Y : wM} {o : Int64} {dd : UInt64} {td : wX} {res : ((Nat × wM) ⊕ (Int32 × wM))} (hE : wEnd G (some .int) (rpS res (fun z => rp (some (.int (z.1))) (z.2, Y, o, dd, td))) (xpS res (fun e E σ1 => E = exn e.1 ∧ σ1 = (e.2, Y, o, dd, td)))) (hT : wNoTab G) {a1 : Int32} {a2 : Int32} (h : f_X7_split X a1 a2 = some res) : J G 4 2 12 0 [(0, .ref (wad (gB G) 0)), (1, .int (a1)), (2, .int (a2))] [] (X, Y, o, dd, td) := by
  unfold f_X7_split at h
  refine j_aload_n hG 0 (dt dtX7_split_0 0 rfl) rfl rfl ?_
  refine j_iload_n hG 1 (dt dtX7_split_0 1 rfl) rfl rfl ?_
  refine j_callVt hG h (V := fun y2 => none) (S := fun y2 => (X, Y, o, dd, td)) (E0 := fun e => exn e) (S0 := fun e => (X, Y, o, dd, td)) (kc := 1) (ks := 6) (fun z hz => ct_X7_needBlock hG.2.2.1 (gB G) _ _ _ _ _ hz) mf_X7_needBlock ml_X7_82 0 (cv_0 _ _ _ _) rfl rfl (rest := []) rfl (Nat.le_of_ble_eq_true rfl) (dt dtX7_split_0 2 rfl) (by decide) (by decide) (fun y2 h => ?_) (fun e h => ?_)
  · refine j_aload_n hG 0 (dt dtX7_split_0 3 rfl) rfl rfl ?_
    refine j_get hG cl_X7 0 0 (cv_0 _ _ _ _) (by decide) fl_X7_12 rfl rfl (dt dtX7_split_0 4 rfl) ?_
    refine j_iload_n hG 2 (dt dtX7_split_0 5 rfl) rfl rfl ?_
    refine j_callVp hG h (V := fun y10 => (some (.int (y10)))) (S := fun y10 => (X, Y, o, dd, td)) (kc := 1) (ks := 6) (fun z hz => ct_X4_hasAddress hG.2.2.1 (gB G) _ _ _ _ _ hz) mf_X4_hasAddress ml_X7_95 1 (cv_1 _ _ _ _) rfl rfl (rest := []) rfl (Nat.le_of_ble_eq_true rfl) (dt dtX7_split_0 6 rfl) (by decide) (by decide) (fun y10 h => ?_)
    refine j_if_eq hG (tgt := 29) (dt dtX7_split_0 7 rfl) (by decide) h (fun h => ?_) (fun h => ?_)
    · refine j_lv (lv' := []) [] rfl ?_
      exact g_f_X7_split_29 hG hE hT h
    · refine j_aload_n hG 0 (dt dtX7_split_0 8 rfl) rfl rfl ?_
      refine j_get hG cl_X7 0 0 (cv_0 _ _ _ _) (by decide) fl_X7_12 rfl rfl (dt dtX7_split_0 9 rfl) ?_
      refine j_get hG cl_X4 1 0 (cv_1 _ _ _ _) (by decide) fl_X7_99 rfl rfl (dt dtX7_split_0 10 rfl) ?_
      refine j_iload_n hG 2 (dt dtX7_split_0 11 rfl) rfl rfl ?_
      refine j_iald hG 2 (cv_2 _ _ _ _) h (dt dtX7_split_0 12 rfl) (fun v24 h => ?_)
      refine j_iload_n hG 1 (dt dtX7_split_0 13 rfl) rfl rfl ?_
      refine j_icmp_eq hG (tgt := 39) (dt dtX7_split_0 14 rfl) (by decide) h (fun h => ?_) (fun h => ?_)
      · refine j_aload_n hG 0 (dt dtX7_split_0 20 rfl) rfl rfl ?_
        refine j_get hG cl_X7 0 0 (cv_0 _ _ _ _) (by decide) fl_X7_12 rfl rfl (dt dtX7_split_0 21 rfl) ?_
        refine j_get hG cl_X4 1 1 (cv_1 _ _ _ _) (by decide) fl_X7_65 rfl rfl (dt dtX7_split_0 22 rfl) ?_
        refine j_bipush hG (v := 6) (dt dtX7_split_0 23 rfl) (by decide) ?_
        refine j_icmp_lt hG (tgt := 61) (dt dtX7_split_0 24 rfl) (by decide) h (fun h => ?_) (fun h => ?_)
        · refine J.weak (kc := 0) (ks := 0) (by decide) (by decide) ?_
          refine j_aload_n hG 0 (dt dtX7_split_0 30 rfl) rfl rfl ?_
          refine j_get hG cl_X7 0 0 (cv_0 _ _ _ _) (by decide) fl_X7_12 rfl rfl (dt dtX7_split_0 31 rfl) ?_
          refine j_callVp hG h (V := fun y65 => (some (.int (y65.1)))) (S := fun y65 => (y65.2, Y, o, dd, td)) (kc := 0) (ks := 0) (fun z hz => ct_X4_openBlock hG.2.2.1 (gB G) _ _ _ _ _ hz) mf_X4_openBlock ml_X7_75 1 (cv_1 _ _ _ _) rfl rfl (rest := []) rfl (Nat.le_of_ble_eq_true rfl) (dt dtX7_split_0 32 rfl) (by decide) (by decide) (fun y65 h => ?_)
          refine j_istore_n hG (lv' := [(3, .int (y65.1)), (0, .ref (wad (gB G) 0)), (1, .int (a1)), (2, .int (a2))]) (dt dtX7_split_0 33 rfl) rfl (by decide) rfl ?_
          refine j_aload_n hG 1 (dt dtX7_split_0 34 rfl) rfl rfl ?_
          refine j_get hG cl_X7 0 0 (cv_0 _ _ _ _) (by decide) fl_X7_12 rfl rfl (dt dtX7_split_0 35 rfl) ?_
          refine j_iload_n hG 2 (dt dtX7_split_0 36 rfl) rfl rfl ?_
          refine j_iload_n hG 3 (dt dtX7_split_0 37 rfl) rfl rfl ?_
          refine j_iload_n hG 0 (dt dtX7_split_0 38 rfl) rfl rfl ?_
          refine j_callVp hG h (V := fun y76 => (some (.int (y76.1)))) (S := fun y76 => (y76.2, Y, o, dd, td)) (kc := 0) (ks := 0) (fun z hz => ct_X4_move hG.2.2.1 (gB G) _ _ _ _ _ hz) mf_X4_move ml_X7_108 1 (cv_1 _ _ _ _) rfl rfl (rest := []) rfl (Nat.le_of_ble_eq_true rfl) (dt dtX7_split_0 39 rfl) (by decide) (by decide) (fun y76 h => ?_)
          refine j_pop hG (dt dtX7_split_0 40 rfl) rfl ?_
          refine j_aload_n hG 1 (dt dtX7_split_0 41 rfl) rfl rfl ?_
          refine j_callVp hG h (V := fun y81 => (some (.int (y81.1)))) (S := fun y81 => (y81.2, Y, o, dd, td)) (kc := 0) (ks := 0) (fun z hz => ct_X7_settle hG.2.2.1 (gB G) _ _ _ _ _ hz) mf_X7_settle ml_X7_79 0 (cv_0 _ _ _ _) rfl rfl (rest := []) rfl (Nat.le_of_ble_eq_true rfl) (dt dtX7_split_0 42 rfl) (by decide) (by decide) (fun y81 h => ?_)
          refine j_pop hG (dt dtX7_split_0 43 rfl) rfl ?_
          refine j_iload_n hG 0 (dt dtX7_split_0 44 rfl) rfl rfl ?_
          obtain rfl := Option.some.inj h
          exact j_iret hG hE ⟨_, rfl, rfl, rfl⟩ (dt dtX7_split_0 45 rfl)
        · obtain rfl := Option.some.inj h
          exact j_throwS hG hE hT tf_X7_68_70_72 (dt dtX7_split_0 25 rfl) (dt dtX7_split_0 26 rfl) (dt dtX7_split_0 27 rfl) (dt dtX7_split_0 28 rfl) (dt dtX7_split_0 29 rfl) (by decide) (by decide) ⟨_, rfl, rfl, rfl⟩
      · refine j_lv (lv' := []) [] rfl ?_
        exact g_f_X7_split_29 hG hE hT h
  · obtain rfl := Option.some.inj h
    exact jx_out hG hE hT ⟨_, rfl, rfl, rfl⟩
theorem ct_X7_split {l : Launch} (hl : l.stackTraces = false) (B : wB) (X Y : wM) (o : Int64) (dd : UInt64) (td : wX) {a1 : Int32} {a2 : Int32} {res : ((Nat × wM) ⊕ (Int32 × wM))} (h : f_X7_split X a1 a2 = some res) : wMet l B yX7_split cX7_split 4 (some .int) 7 136 2 12 [.ref (wad B 0), .int (a1), .int (a2)] (X, Y, o, dd, td) (rpS res (fun z => rp (some (.int (z.1))) (z.2, Y, o, dd, td))) (xpS res (fun e E σ1 => E = exn e.1 ∧ σ1 = (e.2, Y, o, dd, td))) :=
  wMet.of hl (by decide +kernel) (Nat.le_of_ble_eq_true rfl) (fun G hB hL hG hE hT => by subst hB; exact g_f_X7_split hG hE hT h)
def f_X7_join (X : wM) (a1 : Int32) (a2 : Int32) : Option ((Nat × wM) ⊕ (Int32 × wM)) :=
  wthr (f_X7_needBlock X a1) (fun e => some (.inl (e, X))) fun y2 =>
  wthr (f_X7_needBlock X a2) (fun e => some (.inl (e, X))) fun y7 =>
  (if a1 = a2 then some (.inl (1, X))
  else (f_X4_move X a1 (0 : Int32) a2).bind fun y32 =>
  (f_X7_settle y32.2).bind fun y37 =>
  some (.inr (y32.1, y37.2)))
set_option maxRecDepth 4000 in
theorem g_f_X7_join {G : wG} (hG : wOk G RX7 cX7_join 4 7 136) {X Y : wM} {o : Int64} {dd : UInt64} {td : wX} {res : ((Nat × wM) ⊕ (Int32 × wM))} (hE : wEnd G (some .int) (rpS res (fun z => rp (some (.int (z.1))) (z.2, Y, o, dd, td))) (xpS res (fun e E σ1 => E = exn e.1 ∧ σ1 = (e.2, Y, o, dd, td)))) (hT : wNoTab G) {a1 : Int32} {a2 : Int32} (h : f_X7_join X a1 a2 = some res) : J G 4 3 18 0 [(0, .ref (wad (gB G) 0)), (1, .int (a1)), (2, .int (a2))] [] (X, Y, o, dd, td) := by
  unfold f_X7_join at h
  refine j_aload_n hG 0 (dt dtX7_join_0 0 rfl) rfl rfl ?_
  refine j_iload_n hG 1 (dt dtX7_join_0 1 rfl) rfl rfl ?_
  refine j_callVt hG h (V := fun y2 => none) (S := fun y2 => (X, Y, o, dd, td)) (E0 := fun e => exn e) (S0 := fun e => (X, Y, o, dd, td)) (kc := 2) (ks := 12) (fun z hz => ct_X7_needBlock hG.2.2.1 (gB G) _ _ _ _ _ hz) mf_X7_needBlock ml_X7_82 0 (cv_0 _ _ _ _) rfl rfl (rest := []) rfl (Nat.le_of_ble_eq_true rfl) (dt dtX7_join_0 2 rfl) (by decide) (by decide) (fun y2 h => ?_) (fun e h => ?_)
  · refine j_aload_n hG 0 (dt dtX7_join_0 3 rfl) rfl rfl ?_
    refine j_iload_n hG 2 (dt dtX7_join_0 4 rfl) rfl rfl ?_
    refine j_callVt hG h (V := fun y7 => none) (S := fun y7 => (X, Y, o, dd, td)) (E0 := fun e => exn e) (S0 := fun e => (X, Y, o, dd, td)) (kc := 1) (ks := 6) (fun z hz => ct_X7_needBlock hG.2.2.1 (gB G) _ _ _ _ _ hz) mf_X7_needBlock ml_X7_82 0 (cv_0 _ _ _ _) rfl rfl (rest := []) rfl (Nat.le_of_ble_eq_true rfl) (dt dtX7_join_0 5 rfl) (by decide) (by decide) (fun y7 h => ?_) (fun e h => ?_)
    · refine j_iload_n hG 1 (dt dtX7_join_0 6 rfl) rfl rfl ?_
      refine j_iload_n hG 2 (dt dtX7_join_0 7 rfl) rfl rfl ?_
      refine j_icmp_ne hG (tgt := 25) (dt dtX7_join_0 8 rfl) (by decide) h (fun h => ?_) (fun h => ?_)
      · obtain rfl := Option.some.inj h
        exact j_throwS hG hE hT tf_X7_112_114_116 (dt dtX7_join_0 9 rfl) (dt dtX7_join_0 10 rfl) (dt dtX7_join_0 11 rfl) (dt dtX7_join_0 12 rfl) (dt dtX7_join_0 13 rfl) (by decide) (by decide) ⟨_, rfl, rfl, rfl⟩
      · refine J.weak (kc := 0) (ks := 0) (by decide) (by decide) ?_
        refine j_aload_n hG 0 (dt dtX7_join_0 14 rfl) rfl rfl ?_
        refine j_get hG cl_X7 0 0 (cv_0 _ _ _ _) (by decide) fl_X7_12 rfl rfl (dt dtX7_join_0 15 rfl) ?_
        refine j_iload_n hG 1 (dt dtX7_join_0 16 rfl) rfl rfl ?_
        refine j_iconst hG (v := 0) (dt dtX7_join_0 17 rfl) (by decide) ?_
        refine j_iload_n hG 2 (dt dtX7_join_0 18 rfl) rfl rfl ?_
        refine j_callVp hG h (V := fun y32 => (some (.int (y32.1)))) (S := fun y32 => (y32.2, Y, o, dd, td)) (kc := 0) (ks := 0) (fun z hz => ct_X4_move hG.2.2.1 (gB G) _ _ _ _ _ hz) mf_X4_move ml_X7_108 1 (cv_1 _ _ _ _) rfl rfl (rest := []) rfl (Nat.le_of_ble_eq_true rfl) (dt dtX7_join_0 19 rfl) (by decide) (by decide) (fun y32 h => ?_)
        refine j_istore_n hG (lv' := [(3, .int (y32.1)), (0, .ref (wad (gB G) 0)), (1, .int (a1)), (2, .int (a2))]) (dt dtX7_join_0 20 rfl) rfl (by decide) rfl ?_
        refine j_aload_n hG 1 (dt dtX7_join_0 21 rfl) rfl rfl ?_
        refine j_callVp hG h (V := fun y37 => (some (.int (y37.1)))) (S := fun y37 => (y37.2, Y, o, dd, td)) (kc := 0) (ks := 0) (fun z hz => ct_X7_settle hG.2.2.1 (gB G) _ _ _ _ _ hz) mf_X7_settle ml_X7_79 0 (cv_0 _ _ _ _) rfl rfl (rest := []) rfl (Nat.le_of_ble_eq_true rfl) (dt dtX7_join_0 22 rfl) (by decide) (by decide) (fun y37 h => ?_)
        refine j_pop hG (dt dtX7_join_0 23 rfl) rfl ?_
        refine j_iload_n hG 0 (dt dtX7_join_0 24 rfl) rfl rfl ?_
        obtain rfl := Option.some.inj h
        exact j_iret hG hE ⟨_, rfl, rfl, rfl⟩ (dt dtX7_join_0 25 rfl)
    · obtain rfl := Option.some.inj h
      exact jx_out hG hE hT ⟨_, rfl, rfl, rfl⟩
  · obtain rfl := Option.some.inj h
    exact jx_out hG hE hT ⟨_, rfl, rfl, rfl⟩
theorem ct_X7_join {l : Launch} (hl : l.stackTraces = false) (B : wB) (X Y : wM) (o : Int64) (dd : UInt64) (td : wX) {a1 : Int32} {a2 : Int32} {res : ((Nat × wM) ⊕ (Int32 × wM))} (h : f_X7_join X a1 a2 = some res) : wMet l B yX7_join cX7_join 4 (some .int) 7 136 3 18 [.ref (wad B 0), .int (a1), .int (a2)] (X, Y, o, dd, td) (rpS res (fun z => rp (some (.int (z.1))) (z.2, Y, o, dd, td))) (xpS res (fun e E σ1 => E = exn e.1 ∧ σ1 = (e.2, Y, o, dd, td))) :=
  wMet.of hl (by decide +kernel) (Nat.le_of_ble_eq_true rfl) (fun G hB hL hG hE hT => by subst hB; exact g_f_X7_join hG hE hT h)
def f_X7_needAddress (X : wM) (a1 : Int32) : Option ((Nat) ⊕ (Unit)) :=
  (f_X4_hasAddress X a1).bind fun y5 =>
  (if y5 = 0 then some (.inl 2)
  else some (.inr ()))
set_option maxRecDepth 4000 in
theorem g_f_X7_needAddress {G : wG} (hG : wOk G RX7 cX7_needAddress 2 6 90) {X Y : wM} {o : Int64} {dd : UInt64} {td : wX} {res : ((Nat) ⊕ (Unit))} (hE : wEnd G none (rpS res (fun z => rp none (X, Y, o, dd, td))) (xpS res (fun e E σ1 => E = exn e ∧ σ1 = (X, Y, o, dd, td)))) (hT : wNoTab G) {a1 : Int32} (h : f_X7_needAddress X a1 = some res) : J G 2 1 6 0 [(0, .ref (wad (gB G) 0)), (1, .int (a1))] [] (X, Y, o, dd, td) := by
  unfold f_X7_needAddress at h
  refine j_aload_n hG 0 (dt dtX7_needAddress_0 0 rfl) rfl rfl ?_
  refine j_get hG cl_X7 0 0 (cv_0 _ _ _ _) (by decide) fl_X7_12 rfl rfl (dt dtX7_needAddress_0 1 rfl) ?_
  refine j_iload_n hG 1 (dt dtX7_needAddress_0 2 rfl) rfl rfl ?_
  refine j_callVp hG h (V := fun y5 => (some (.int (y5)))) (S := fun y5 => (X, Y, o, dd, td)) (kc := 1) (ks := 6) (fun z hz => ct_X4_hasAddress hG.2.2.1 (gB G) _ _ _ _ _ hz) mf_X4_hasAddress ml_X7_95 1 (cv_1 _ _ _ _) rfl rfl (rest := []) rfl (Nat.le_of_ble_eq_true rfl) (dt dtX7_needAddress_0 3 rfl) (by decide) (by decide) (fun y5 h => ?_)
  refine j_if_ne hG (tgt := 22) (dt dtX7_needAddress_0 4 rfl) (by decide) h (fun h => ?_) (fun h => ?_)
  · obtain rfl := Option.some.inj h
    exact j_throwSW hG hE hT tf_X7_291_315_295 (dt dtX7_needAddress_0 5 rfl) (dt dtX7_needAddress_0 6 rfl) (dt dtX7_needAddress_0 7 rfl) (dt dtX7_needAddress_0 8 rfl) (dt dtX7_needAddress_0 9 rfl) (by decide) (by decide) ⟨_, rfl, rfl, rfl⟩
  · refine J.weak (kc := 0) (ks := 0) (by decide) (by decide) ?_
    obtain rfl := Option.some.inj h
    exact j_vret hG hE ⟨_, rfl, rfl, rfl⟩ (dt dtX7_needAddress_0 10 rfl)
theorem ct_X7_needAddress {l : Launch} (hl : l.stackTraces = false) (B : wB) (X Y : wM) (o : Int64) (dd : UInt64) (td : wX) {a1 : Int32} {res : ((Nat) ⊕ (Unit))} (h : f_X7_needAddress X a1 = some res) : wMet l B yX7_needAddress cX7_needAddress 2 none 6 90 1 6 [.ref (wad B 0), .int (a1)] (X, Y, o, dd, td) (rpS res (fun z => rp none (X, Y, o, dd, td))) (xpS res (fun e E σ1 => E = exn e ∧ σ1 = (X, Y, o, dd, td))) :=
  wMet.of hl (by decide +kernel) (Nat.le_of_ble_eq_true rfl) (fun G hB hL hG hE hT => by subst hB; exact g_f_X7_needAddress hG hE hT h)
def f_X7_addRecord_45 (X : wM) : Option ((Nat × wM) ⊕ (Int32 × wM)) :=
  some (.inl (1, X))
def f_X7_addRecord_97 (X : wM) (l2 : Int32) (l3 : Int32) (l4 : Int32) (s0 : Int32) : Option ((Nat × wM) ⊕ (Int32 × wM)) :=
  (f_X3_add X s0 l2 l3 l4).bind fun y101 =>
  (f_X7_settle y101.2).bind fun y107 =>
  some (.inr (y101.1, y107.2))
def f_X7_addRecord_22 (X : wM) (l1 : Int32) (l2 : Int32) (l3 : Int32) (l4 : Int32) : Option ((Nat × wM) ⊕ (Int32 × wM)) :=
  (if l3 < 0 then f_X7_addRecord_45 X
  else (if 999 < l3 then f_X7_addRecord_45 X
  else (if l4 < 0 then f_X7_addRecord_45 X
  else (if 120 < l4 then f_X7_addRecord_45 X
  else wthr (f_X7_needAddress X l2) (fun e => some (.inl (e, X))) fun y57 =>
  (if (X 3 5) < 40 then (if l1 = 99 then f_X7_addRecord_97 X l2 l3 l4 (1 : Int32)
  else f_X7_addRecord_97 X l2 l3 l4 (0 : Int32))
  else some (.inl (0, X)))))))
def f_X7_addRecord (X : wM) (a1 : Int32) (a2 : Int32) (a3 : Int32) (a4 : Int32) : Option ((Nat × wM) ⊕ (Int32 × wM)) :=
  (if a1 = 99 then f_X7_addRecord_22 X a1 a2 a3 a4
  else (if a1 = 107 then f_X7_addRecord_22 X a1 a2 a3 a4
  else some (.inl (1, X))))
set_option maxRecDepth 4000 in
theorem g_f_X7_addRecord_45 {G : wG} (hG : wOk G RX7 cX7_addRecord 6 7 136) {X Y : wM} {o : Int64} {dd : UInt64} {td : wX} {res : ((Nat × wM) ⊕ (Int32 × wM))} (hE : wEnd G (some .int) (rpS res (fun z => rp (some (.int (z.1))) (z.2, Y, o, dd, td))) (xpS res (fun e E σ1 => E = exn e.1 ∧ σ1 = (e.2, Y, o, dd, td)))) (hT : wNoTab G) (h : f_X7_addRecord_45 X = some res) : J G 6 1 6 45 [] [] (X, Y, o, dd, td) := by
  unfold f_X7_addRecord_45 at h
  obtain rfl := Option.some.inj h
  exact j_throwS hG hE hT tf_X7_112_119_116 (dt dtX7_addRecord_0 21 rfl) (dt dtX7_addRecord_0 22 rfl) (dt dtX7_addRecord_0 23 rfl) (dt dtX7_addRecord_0 24 rfl) (dt dtX7_addRecord_0 25 rfl) (by decide) (by decide) ⟨_, rfl, rfl, rfl⟩
set_option maxRecDepth 4000 in
theorem g_f_X7_addRecord_97 {G : wG} (hG : wOk G RX7 cX7_addRecord 6 7 136) {X Y : wM} {o : Int64} {dd : UInt64} {td : wX} {res : ((Nat × wM) ⊕ (Int32 × wM))} (hE : wEnd G (some .int) (rpS res (fun z => rp (some (.int (z.1))) (z.2, Y, o, dd, td))) (xpS res (fun e E σ1 => E = exn e.1 ∧ σ1 = (e.2, Y, o, dd, td)))) (hT : wNoTab G) {l2 : Int32} {l3 : Int32} {l4 : Int32} {s0 : Int32} (h : f_X7_addRecord_97 X l2 l3 l4 s0 = some res) : J G 6 0 0 97 [(0, .ref (wad (gB G) 0)), (2, .int (l2)), (3, .int (l3)), (4, .int (l4))] [.int (s0), .ref (wad (gB G) 3)] (X, Y, o, dd, td) := by
  unfold f_X7_addRecord_97 at h
  refine j_iload_n hG 1 (dt dtX7_addRecord_0 47 rfl) rfl rfl ?_
  refine j_iload_n hG 2 (dt dtX7_addRecord_0 48 rfl) rfl rfl ?_
  refine j_iload hG 3 (dt dtX7_addRecord_0 49 rfl) rfl ?_
  refine j_callVp hG h (V := fun y101 => (some (.int (y101.1)))) (S := fun y101 => (y101.2, Y, o, dd, td)) (kc := 0) (ks := 0) (fun z hz => ct_X3_add hG.2.2.1 (gB G) _ _ _ _ _ hz) mf_X3_add ml_X7_129 3 (cv_3 _ _ _ _) rfl rfl (rest := []) rfl (Nat.le_of_ble_eq_true rfl) (dt dtX7_addRecord_0 50 rfl) (by decide) (by decide) (fun y101 h => ?_)
  refine j_istore hG (lv' := [(5, .int (y101.1)), (0, .ref (wad (gB G) 0)), (2, .int (l2)), (3, .int (l3)), (4, .int (l4))]) (dt dtX7_addRecord_0 51 rfl) (by decide) rfl ?_
  refine j_aload_n hG 1 (dt dtX7_addRecord_0 52 rfl) rfl rfl ?_
  refine j_callVp hG h (V := fun y107 => (some (.int (y107.1)))) (S := fun y107 => (y107.2, Y, o, dd, td)) (kc := 0) (ks := 0) (fun z hz => ct_X7_settle hG.2.2.1 (gB G) _ _ _ _ _ hz) mf_X7_settle ml_X7_79 0 (cv_0 _ _ _ _) rfl rfl (rest := []) rfl (Nat.le_of_ble_eq_true rfl) (dt dtX7_addRecord_0 53 rfl) (by decide) (by decide) (fun y107 h => ?_)
  refine j_pop hG (dt dtX7_addRecord_0 54 rfl) rfl ?_
  refine j_iload hG 0 (dt dtX7_addRecord_0 55 rfl) rfl ?_
  obtain rfl := Option.some.inj h
  exact j_iret hG hE ⟨_, rfl, rfl, rfl⟩ (dt dtX7_addRecord_0 56 rfl)
set_option maxRecDepth 4000 in
theorem g_f_X7_addRecord_22 {G : wG} (hG : wOk G RX7 cX7_addRecord 6 7 136) {X Y : wM} {o : Int64} {dd : UInt64} {td : wX} {res : ((Nat × wM) ⊕ (Int32 × wM))} (hE : wEnd G (some .int) (rpS res (fun z => rp (some (.int (z.1))) (z.2, Y, o, dd, td))) (xpS res (fun e E σ1 => E = exn e.1 ∧ σ1 = (e.2, Y, o, dd, td)))) (hT : wNoTab G) {l1 : Int32} {l2 : Int32} {l3 : Int32} {l4 : Int32} (h : f_X7_addRecord_22 X l1 l2 l3 l4 = some res) : J G 6 2 12 22 [(0, .ref (wad (gB G) 0)), (1, .int (l1)), (2, .int (l2)), (3, .int (l3)), (4, .int (l4))] [] (X, Y, o, dd, td) := by
  unfold f_X7_addRecord_22 at h
  refine j_iload_n hG 3 (dt dtX7_addRecord_0 11 rfl) rfl rfl ?_
  refine j_if_lt hG (tgt := 45) (dt dtX7_addRecord_0 12 rfl) (by decide) h (fun h => ?_) (fun h => ?_)
  · refine J.weak (kc := 1) (ks := 6) (by decide) (by decide) ?_
    refine j_lv (lv' := []) [] rfl ?_
    exact g_f_X7_addRecord_45 hG hE hT h
  · refine j_iload_n hG 3 (dt dtX7_addRecord_0 13 rfl) rfl rfl ?_
    refine j_sipush hG (v := 999) (dt dtX7_addRecord_0 14 rfl) (by decide) ?_
    refine j_icmp_gt hG (tgt := 45) (dt dtX7_addRecord_0 15 rfl) (by decide) h (fun h => ?_) (fun h => ?_)
    · refine J.weak (kc := 1) (ks := 6) (by decide) (by decide) ?_
      refine j_lv (lv' := []) [] rfl ?_
      exact g_f_X7_addRecord_45 hG hE hT h
    · refine j_iload hG 4 (dt dtX7_addRecord_0 16 rfl) rfl ?_
      refine j_if_lt hG (tgt := 45) (dt dtX7_addRecord_0 17 rfl) (by decide) h (fun h => ?_) (fun h => ?_)
      · refine J.weak (kc := 1) (ks := 6) (by decide) (by decide) ?_
        refine j_lv (lv' := []) [] rfl ?_
        exact g_f_X7_addRecord_45 hG hE hT h
      · refine j_iload hG 4 (dt dtX7_addRecord_0 18 rfl) rfl ?_
        refine j_bipush hG (v := 120) (dt dtX7_addRecord_0 19 rfl) (by decide) ?_
        refine j_icmp_le hG (tgt := 55) (dt dtX7_addRecord_0 20 rfl) (by decide) h (fun h => ?_) (fun h => ?_)
        · refine J.weak (kc := 1) (ks := 6) (by decide) (by decide) ?_
          refine j_lv (lv' := []) [] rfl ?_
          exact g_f_X7_addRecord_45 hG hE hT h
        · refine j_aload_n hG 0 (dt dtX7_addRecord_0 26 rfl) rfl rfl ?_
          refine j_iload_n hG 2 (dt dtX7_addRecord_0 27 rfl) rfl rfl ?_
          refine j_callVt hG h (V := fun y57 => none) (S := fun y57 => (X, Y, o, dd, td)) (E0 := fun e => exn e) (S0 := fun e => (X, Y, o, dd, td)) (kc := 1) (ks := 6) (fun z hz => ct_X7_needAddress hG.2.2.1 (gB G) _ _ _ _ _ hz) mf_X7_needAddress ml_X7_121 0 (cv_0 _ _ _ _) rfl rfl (rest := []) rfl (Nat.le_of_ble_eq_true rfl) (dt dtX7_addRecord_0 28 rfl) (by decide) (by decide) (fun y57 h => ?_) (fun e h => ?_)
          · refine j_aload_n hG 0 (dt dtX7_addRecord_0 29 rfl) rfl rfl ?_
            refine j_get hG cl_X7 0 1 (cv_0 _ _ _ _) (by decide) fl_X7_21 rfl rfl (dt dtX7_addRecord_0 30 rfl) ?_
            refine j_get hG cl_X3 3 5 (cv_3 _ _ _ _) (by decide) fl_X7_124 rfl rfl (dt dtX7_addRecord_0 31 rfl) ?_
            refine j_bipush hG (v := 40) (dt dtX7_addRecord_0 32 rfl) (by decide) ?_
            refine j_icmp_lt hG (tgt := 82) (dt dtX7_addRecord_0 33 rfl) (by decide) h (fun h => ?_) (fun h => ?_)
            · refine J.weak (kc := 0) (ks := 0) (by decide) (by decide) ?_
              refine j_aload_n hG 0 (dt dtX7_addRecord_0 39 rfl) rfl rfl ?_
              refine j_get hG cl_X7 0 1 (cv_0 _ _ _ _) (by decide) fl_X7_21 rfl rfl (dt dtX7_addRecord_0 40 rfl) ?_
              refine j_iload_n hG 1 (dt dtX7_addRecord_0 41 rfl) rfl rfl ?_
              refine j_bipush hG (v := 99) (dt dtX7_addRecord_0 42 rfl) (by decide) ?_
              refine j_icmp_ne hG (tgt := 96) (dt dtX7_addRecord_0 43 rfl) (by decide) h (fun h => ?_) (fun h => ?_)
              · refine j_iconst hG (v := 1) (dt dtX7_addRecord_0 44 rfl) (by decide) ?_
                refine j_goto hG (tgt := 97) (dt dtX7_addRecord_0 45 rfl) (by decide) ?_
                refine j_lv (lv' := [(0, .ref (wad (gB G) 0)), (2, .int (l2)), (3, .int (l3)), (4, .int (l4))]) [0, 2, 3, 4] rfl ?_
                exact g_f_X7_addRecord_97 hG hE hT h
              · refine j_iconst hG (v := 0) (dt dtX7_addRecord_0 46 rfl) (by decide) ?_
                refine j_lv (lv' := [(0, .ref (wad (gB G) 0)), (2, .int (l2)), (3, .int (l3)), (4, .int (l4))]) [0, 2, 3, 4] rfl ?_
                exact g_f_X7_addRecord_97 hG hE hT h
            · obtain rfl := Option.some.inj h
              exact j_throwS hG hE hT tf_X7_68_127_72 (dt dtX7_addRecord_0 34 rfl) (dt dtX7_addRecord_0 35 rfl) (dt dtX7_addRecord_0 36 rfl) (dt dtX7_addRecord_0 37 rfl) (dt dtX7_addRecord_0 38 rfl) (by decide) (by decide) ⟨_, rfl, rfl, rfl⟩
          · obtain rfl := Option.some.inj h
            exact jx_out hG hE hT ⟨_, rfl, rfl, rfl⟩
set_option maxRecDepth 4000 in
theorem g_f_X7_addRecord {G : wG} (hG : wOk G RX7 cX7_addRecord 6 7 136) {X Y : wM} {o : Int64} {dd : UInt64} {td : wX} {res : ((Nat × wM) ⊕ (Int32 × wM))} (hE : wEnd G (some .int) (rpS res (fun z => rp (some (.int (z.1))) (z.2, Y, o, dd, td))) (xpS res (fun e E σ1 => E = exn e.1 ∧ σ1 = (e.2, Y, o, dd, td)))) (hT : wNoTab G) {a1 : Int32} {a2 : Int32} {a3 : Int32} {a4 : Int32} (h : f_X7_addRecord X a1 a2 a3 a4 = some res) : J G 6 2 12 0 [(0, .ref (wad (gB G) 0)), (1, .int (a1)), (2, .int (a2)), (3, .int (a3)), (4, .int (a4))] [] (X, Y, o, dd, td) := by
  unfold f_X7_addRecord at h
  refine j_iload_n hG 1 (dt dtX7_addRecord_0 0 rfl) rfl rfl ?_
  refine j_bipush hG (v := 99) (dt dtX7_addRecord_0 1 rfl) (by decide) ?_
  refine j_icmp_eq hG (tgt := 22) (dt dtX7_addRecord_0 2 rfl) (by decide) h (fun h => ?_) (fun h => ?_)
  · exact g_f_X7_addRecord_22 hG hE hT h
  · refine j_iload_n hG 1 (dt dtX7_addRecord_0 3 rfl) rfl rfl ?_
    refine j_bipush hG (v := 107) (dt dtX7_addRecord_0 4 rfl) (by decide) ?_
    refine j_icmp_eq hG (tgt := 22) (dt dtX7_addRecord_0 5 rfl) (by decide) h (fun h => ?_) (fun h => ?_)
    · exact g_f_X7_addRecord_22 hG hE hT h
    · refine J.weak (kc := 1) (ks := 6) (by decide) (by decide) ?_
      obtain rfl := Option.some.inj h
      exact j_throwS hG hE hT tf_X7_112_117_116 (dt dtX7_addRecord_0 6 rfl) (dt dtX7_addRecord_0 7 rfl) (dt dtX7_addRecord_0 8 rfl) (dt dtX7_addRecord_0 9 rfl) (dt dtX7_addRecord_0 10 rfl) (by decide) (by decide) ⟨_, rfl, rfl, rfl⟩
theorem ct_X7_addRecord {l : Launch} (hl : l.stackTraces = false) (B : wB) (X Y : wM) (o : Int64) (dd : UInt64) (td : wX) {a1 : Int32} {a2 : Int32} {a3 : Int32} {a4 : Int32} {res : ((Nat × wM) ⊕ (Int32 × wM))} (h : f_X7_addRecord X a1 a2 a3 a4 = some res) : wMet l B yX7_addRecord cX7_addRecord 6 (some .int) 7 136 2 12 [.ref (wad B 0), .int (a1), .int (a2), .int (a3), .int (a4)] (X, Y, o, dd, td) (rpS res (fun z => rp (some (.int (z.1))) (z.2, Y, o, dd, td))) (xpS res (fun e E σ1 => E = exn e.1 ∧ σ1 = (e.2, Y, o, dd, td))) :=
  wMet.of hl (by decide +kernel) (Nat.le_of_ble_eq_true rfl) (fun G hB hL hG hE hT => by subst hB; exact g_f_X7_addRecord hG hE hT h)
def f_X7_blockOf (X : wM) (a1 : Int32) : Option ((Nat) ⊕ (Int32)) :=
  wthr (f_X7_needAddress X a1) (fun e => some (.inl e)) fun y2 =>
  wget 20 (X 2) a1 fun v13 =>
  some (.inr v13)
set_option maxRecDepth 4000 in
theorem g_f_X7_blockOf {G : wG} (hG : wOk G RX7 cX7_blockOf 2 7 111) {X Y : wM} {o : Int64} {dd : UInt64} {td : wX} {res : ((Nat) ⊕ (Int32))} (hE : wEnd G (some .int) (rpS res (fun z => rp (some (.int (z))) (X, Y, o, dd, td))) (xpS res (fun e E σ1 => E = exn e ∧ σ1 = (X, Y, o, dd, td)))) (hT : wNoTab G) {a1 : Int32} (h : f_X7_blockOf X a1 = some res) : J G 2 1 6 0 [(0, .ref (wad (gB G) 0)), (1, .int (a1))] [] (X, Y, o, dd, td) := by
  unfold f_X7_blockOf at h
  refine j_aload_n hG 0 (dt dtX7_blockOf_0 0 rfl) rfl rfl ?_
  refine j_iload_n hG 1 (dt dtX7_blockOf_0 1 rfl) rfl rfl ?_
  refine j_callVt hG h (V := fun y2 => none) (S := fun y2 => (X, Y, o, dd, td)) (E0 := fun e => exn e) (S0 := fun e => (X, Y, o, dd, td)) (kc := 0) (ks := 0) (fun z hz => ct_X7_needAddress hG.2.2.1 (gB G) _ _ _ _ _ hz) mf_X7_needAddress ml_X7_121 0 (cv_0 _ _ _ _) rfl rfl (rest := []) rfl (Nat.le_of_ble_eq_true rfl) (dt dtX7_blockOf_0 2 rfl) (by decide) (by decide) (fun y2 h => ?_) (fun e h => ?_)
  · refine j_aload_n hG 0 (dt dtX7_blockOf_0 3 rfl) rfl rfl ?_
    refine j_get hG cl_X7 0 0 (cv_0 _ _ _ _) (by decide) fl_X7_12 rfl rfl (dt dtX7_blockOf_0 4 rfl) ?_
    refine j_get hG cl_X4 1 0 (cv_1 _ _ _ _) (by decide) fl_X7_99 rfl rfl (dt dtX7_blockOf_0 5 rfl) ?_
    refine j_iload_n hG 1 (dt dtX7_blockOf_0 6 rfl) rfl rfl ?_
    refine j_iald hG 2 (cv_2 _ _ _ _) h (dt dtX7_blockOf_0 7 rfl) (fun v13 h => ?_)
    obtain rfl := Option.some.inj h
    exact j_iret hG hE ⟨_, rfl, rfl, rfl⟩ (dt dtX7_blockOf_0 8 rfl)
  · obtain rfl := Option.some.inj h
    exact jx_out hG hE hT ⟨_, rfl, rfl, rfl⟩
theorem ct_X7_blockOf {l : Launch} (hl : l.stackTraces = false) (B : wB) (X Y : wM) (o : Int64) (dd : UInt64) (td : wX) {a1 : Int32} {res : ((Nat) ⊕ (Int32))} (h : f_X7_blockOf X a1 = some res) : wMet l B yX7_blockOf cX7_blockOf 2 (some .int) 7 111 1 6 [.ref (wad B 0), .int (a1)] (X, Y, o, dd, td) (rpS res (fun z => rp (some (.int (z))) (X, Y, o, dd, td))) (xpS res (fun e E σ1 => E = exn e ∧ σ1 = (X, Y, o, dd, td))) :=
  wMet.of hl (by decide +kernel) (Nat.le_of_ble_eq_true rfl) (fun G hB hL hG hE hT => by subst hB; exact g_f_X7_blockOf hG hE hT h)
def f_X7_setPoints_38 (X : wM) : Option ((Nat × wM) ⊕ (Int32 × wM)) :=
  some (.inl (1, X))
def f_X7_setPoints_28 (X : wM) (l1 : Int32) (l2 : Int32) : Option ((Nat × wM) ⊕ (Int32 × wM)) :=
  (if l2 < 0 then f_X7_setPoints_38 X
  else (if 9 < l2 then f_X7_setPoints_38 X
  else (f_X1_changePoints X l1 l2).bind fun y54 =>
  (f_X7_settle y54.2).bind fun y59 =>
  some (.inr (y54.1, y59.2))))
def f_X7_setPoints (X : wM) (a1 : Int32) (a2 : Int32) : Option ((Nat × wM) ⊕ (Int32 × wM)) :=
  (if a1 = 110 then f_X7_setPoints_28 X a1 a2
  else (if a1 = 121 then f_X7_setPoints_28 X a1 a2
  else (if a1 = 112 then f_X7_setPoints_28 X a1 a2
  else some (.inl (1, X)))))
set_option maxRecDepth 4000 in
theorem g_f_X7_setPoints_38 {G : wG} (hG : wOk G RX7 cX7_setPoints 4 6 136) {X Y : wM} {o : Int64} {dd : UInt64} {td : wX} {res : ((Nat × wM) ⊕ (Int32 × wM))} (hE : wEnd G (some .int) (rpS res (fun z => rp (some (.int (z.1))) (z.2, Y, o, dd, td))) (xpS res (fun e E σ1 => E = exn e.1 ∧ σ1 = (e.2, Y, o, dd, td)))) (hT : wNoTab G) (h : f_X7_setPoints_38 X = some res) : J G 4 1 6 38 [] [] (X, Y, o, dd, td) := by
  unfold f_X7_setPoints_38 at h
  obtain rfl := Option.some.inj h
  exact j_throwS hG hE hT tf_X7_112_135_116 (dt dtX7_setPoints_0 19 rfl) (dt dtX7_setPoints_0 20 rfl) (dt dtX7_setPoints_0 21 rfl) (dt dtX7_setPoints_0 22 rfl) (dt dtX7_setPoints_0 23 rfl) (by decide) (by decide) ⟨_, rfl, rfl, rfl⟩
set_option maxRecDepth 4000 in
theorem g_f_X7_setPoints_28 {G : wG} (hG : wOk G RX7 cX7_setPoints 4 6 136) {X Y : wM} {o : Int64} {dd : UInt64} {td : wX} {res : ((Nat × wM) ⊕ (Int32 × wM))} (hE : wEnd G (some .int) (rpS res (fun z => rp (some (.int (z.1))) (z.2, Y, o, dd, td))) (xpS res (fun e E σ1 => E = exn e.1 ∧ σ1 = (e.2, Y, o, dd, td)))) (hT : wNoTab G) {l1 : Int32} {l2 : Int32} (h : f_X7_setPoints_28 X l1 l2 = some res) : J G 4 1 6 28 [(0, .ref (wad (gB G) 0)), (1, .int (l1)), (2, .int (l2))] [] (X, Y, o, dd, td) := by
  unfold f_X7_setPoints_28 at h
  refine j_iload_n hG 2 (dt dtX7_setPoints_0 14 rfl) rfl rfl ?_
  refine j_if_lt hG (tgt := 38) (dt dtX7_setPoints_0 15 rfl) (by decide) h (fun h => ?_) (fun h => ?_)
  · refine j_lv (lv' := []) [] rfl ?_
    exact g_f_X7_setPoints_38 hG hE hT h
  · refine j_iload_n hG 2 (dt dtX7_setPoints_0 16 rfl) rfl rfl ?_
    refine j_bipush hG (v := 9) (dt dtX7_setPoints_0 17 rfl) (by decide) ?_
    refine j_icmp_le hG (tgt := 48) (dt dtX7_setPoints_0 18 rfl) (by decide) h (fun h => ?_) (fun h => ?_)
    · refine j_lv (lv' := []) [] rfl ?_
      exact g_f_X7_setPoints_38 hG hE hT h
    · refine J.weak (kc := 0) (ks := 0) (by decide) (by decide) ?_
      refine j_aload_n hG 0 (dt dtX7_setPoints_0 24 rfl) rfl rfl ?_
      refine j_get hG cl_X7 0 2 (cv_0 _ _ _ _) (by decide) fl_X7_30 rfl rfl (dt dtX7_setPoints_0 25 rfl) ?_
      refine j_iload_n hG 1 (dt dtX7_setPoints_0 26 rfl) rfl rfl ?_
      refine j_iload_n hG 2 (dt dtX7_setPoints_0 27 rfl) rfl rfl ?_
      refine j_callVp hG h (V := fun y54 => (some (.int (y54.1)))) (S := fun y54 => (y54.2, Y, o, dd, td)) (kc := 0) (ks := 0) (fun z hz => ct_X1_changePoints hG.2.2.1 (gB G) _ _ _ _ _ hz) mf_X1_changePoints ml_X7_137 8 (cv_8 _ _ _ _) rfl rfl (rest := []) rfl (Nat.le_of_ble_eq_true rfl) (dt dtX7_setPoints_0 28 rfl) (by decide) (by decide) (fun y54 h => ?_)
      refine j_istore_n hG (lv' := [(3, .int (y54.1)), (0, .ref (wad (gB G) 0)), (1, .int (l1)), (2, .int (l2))]) (dt dtX7_setPoints_0 29 rfl) rfl (by decide) rfl ?_
      refine j_aload_n hG 1 (dt dtX7_setPoints_0 30 rfl) rfl rfl ?_
      refine j_callVp hG h (V := fun y59 => (some (.int (y59.1)))) (S := fun y59 => (y59.2, Y, o, dd, td)) (kc := 0) (ks := 0) (fun z hz => ct_X7_settle hG.2.2.1 (gB G) _ _ _ _ _ hz) mf_X7_settle ml_X7_79 0 (cv_0 _ _ _ _) rfl rfl (rest := []) rfl (Nat.le_of_ble_eq_true rfl) (dt dtX7_setPoints_0 31 rfl) (by decide) (by decide) (fun y59 h => ?_)
      refine j_pop hG (dt dtX7_setPoints_0 32 rfl) rfl ?_
      refine j_iload_n hG 0 (dt dtX7_setPoints_0 33 rfl) rfl rfl ?_
      obtain rfl := Option.some.inj h
      exact j_iret hG hE ⟨_, rfl, rfl, rfl⟩ (dt dtX7_setPoints_0 34 rfl)
set_option maxRecDepth 4000 in
theorem g_f_X7_setPoints {G : wG} (hG : wOk G RX7 cX7_setPoints 4 6 136) {X Y : wM} {o : Int64} {dd : UInt64} {td : wX} {res : ((Nat × wM) ⊕ (Int32 × wM))} (hE : wEnd G (some .int) (rpS res (fun z => rp (some (.int (z.1))) (z.2, Y, o, dd, td))) (xpS res (fun e E σ1 => E = exn e.1 ∧ σ1 = (e.2, Y, o, dd, td)))) (hT : wNoTab G) {a1 : Int32} {a2 : Int32} (h : f_X7_setPoints X a1 a2 = some res) : J G 4 1 6 0 [(0, .ref (wad (gB G) 0)), (1, .int (a1)), (2, .int (a2))] [] (X, Y, o, dd, td) := by
  unfold f_X7_setPoints at h
  refine j_iload_n hG 1 (dt dtX7_setPoints_0 0 rfl) rfl rfl ?_
  refine j_bipush hG (v := 110) (dt dtX7_setPoints_0 1 rfl) (by decide) ?_
  refine j_icmp_eq hG (tgt := 28) (dt dtX7_setPoints_0 2 rfl) (by decide) h (fun h => ?_) (fun h => ?_)
  · exact g_f_X7_setPoints_28 hG hE hT h
  · refine j_iload_n hG 1 (dt dtX7_setPoints_0 3 rfl) rfl rfl ?_
    refine j_bipush hG (v := 121) (dt dtX7_setPoints_0 4 rfl) (by decide) ?_
    refine j_icmp_eq hG (tgt := 28) (dt dtX7_setPoints_0 5 rfl) (by decide) h (fun h => ?_) (fun h => ?_)
    · exact g_f_X7_setPoints_28 hG hE hT h
    · refine j_iload_n hG 1 (dt dtX7_setPoints_0 6 rfl) rfl rfl ?_
      refine j_bipush hG (v := 112) (dt dtX7_setPoints_0 7 rfl) (by decide) ?_
      refine j_icmp_eq hG (tgt := 28) (dt dtX7_setPoints_0 8 rfl) (by decide) h (fun h => ?_) (fun h => ?_)
      · exact g_f_X7_setPoints_28 hG hE hT h
      · obtain rfl := Option.some.inj h
        exact j_throwS hG hE hT tf_X7_112_133_116 (dt dtX7_setPoints_0 9 rfl) (dt dtX7_setPoints_0 10 rfl) (dt dtX7_setPoints_0 11 rfl) (dt dtX7_setPoints_0 12 rfl) (dt dtX7_setPoints_0 13 rfl) (by decide) (by decide) ⟨_, rfl, rfl, rfl⟩
theorem ct_X7_setPoints {l : Launch} (hl : l.stackTraces = false) (B : wB) (X Y : wM) (o : Int64) (dd : UInt64) (td : wX) {a1 : Int32} {a2 : Int32} {res : ((Nat × wM) ⊕ (Int32 × wM))} (h : f_X7_setPoints X a1 a2 = some res) : wMet l B yX7_setPoints cX7_setPoints 4 (some .int) 6 136 1 6 [.ref (wad B 0), .int (a1), .int (a2)] (X, Y, o, dd, td) (rpS res (fun z => rp (some (.int (z.1))) (z.2, Y, o, dd, td))) (xpS res (fun e E σ1 => E = exn e.1 ∧ σ1 = (e.2, Y, o, dd, td))) :=
  wMet.of hl (by decide +kernel) (Nat.le_of_ble_eq_true rfl) (fun G hB hL hG hE hT => by subst hB; exact g_f_X7_setPoints hG hE hT h)
def f_X7_setBounds_21 (X : wM) : Option ((Nat × wM) ⊕ (Int32 × wM)) :=
  some (.inl (1, X))
def f_X7_setBounds (X : wM) (a1 : Int32) (a2 : Int32) : Option ((Nat × wM) ⊕ (Int32 × wM)) :=
  (if a1 < 0 then f_X7_setBounds_21 X
  else (if 30 < a1 then f_X7_setBounds_21 X
  else (if a2 < a1 then f_X7_setBounds_21 X
  else (if 30 < a2 then f_X7_setBounds_21 X
  else wbd (X 8 6) fun v38 =>
  wfld X 8 5 a1 fun X =>
  wfld X 8 6 a2 fun X =>
  (f_X7_settle X).bind fun y56 =>
  some (.inr (v38, y56.2))))))
set_option maxRecDepth 4000 in
theorem g_f_X7_setBounds_21 {G : wG} (hG : wOk G RX7 cX7_setBounds 4 6 136) {X Y : wM} {o : Int64} {dd : UInt64} {td : wX} {res : ((Nat × wM) ⊕ (Int32 × wM))} (hE : wEnd G (some .int) (rpS res (fun z => rp (some (.int (z.1))) (z.2, Y, o, dd, td))) (xpS res (fun e E σ1 => E = exn e.1 ∧ σ1 = (e.2, Y, o, dd, td)))) (hT : wNoTab G) (h : f_X7_setBounds_21 X = some res) : J G 4 1 6 21 [] [] (X, Y, o, dd, td) := by
  unfold f_X7_setBounds_21 at h
  obtain rfl := Option.some.inj h
  exact j_throwS hG hE hT tf_X7_112_141_116 (dt dtX7_setBounds_0 11 rfl) (dt dtX7_setBounds_0 12 rfl) (dt dtX7_setBounds_0 13 rfl) (dt dtX7_setBounds_0 14 rfl) (dt dtX7_setBounds_0 15 rfl) (by decide) (by decide) ⟨_, rfl, rfl, rfl⟩
set_option maxRecDepth 4000 in
theorem g_f_X7_setBounds {G : wG} (hG : wOk G RX7 cX7_setBounds 4 6 136) {X Y : wM} {o : Int64} {dd : UInt64} {td : wX} {res : ((Nat × wM) ⊕ (Int32 × wM))} (hE : wEnd G (some .int) (rpS res (fun z => rp (some (.int (z.1))) (z.2, Y, o, dd, td))) (xpS res (fun e E σ1 => E = exn e.1 ∧ σ1 = (e.2, Y, o, dd, td)))) (hT : wNoTab G) {a1 : Int32} {a2 : Int32} (h : f_X7_setBounds X a1 a2 = some res) : J G 4 1 6 0 [(0, .ref (wad (gB G) 0)), (1, .int (a1)), (2, .int (a2))] [] (X, Y, o, dd, td) := by
  unfold f_X7_setBounds at h
  refine j_iload_n hG 1 (dt dtX7_setBounds_0 0 rfl) rfl rfl ?_
  refine j_if_lt hG (tgt := 21) (dt dtX7_setBounds_0 1 rfl) (by decide) h (fun h => ?_) (fun h => ?_)
  · refine j_lv (lv' := []) [] rfl ?_
    exact g_f_X7_setBounds_21 hG hE hT h
  · refine j_iload_n hG 1 (dt dtX7_setBounds_0 2 rfl) rfl rfl ?_
    refine j_bipush hG (v := 30) (dt dtX7_setBounds_0 3 rfl) (by decide) ?_
    refine j_icmp_gt hG (tgt := 21) (dt dtX7_setBounds_0 4 rfl) (by decide) h (fun h => ?_) (fun h => ?_)
    · refine j_lv (lv' := []) [] rfl ?_
      exact g_f_X7_setBounds_21 hG hE hT h
    · refine j_iload_n hG 2 (dt dtX7_setBounds_0 5 rfl) rfl rfl ?_
      refine j_iload_n hG 1 (dt dtX7_setBounds_0 6 rfl) rfl rfl ?_
      refine j_icmp_lt hG (tgt := 21) (dt dtX7_setBounds_0 7 rfl) (by decide) h (fun h => ?_) (fun h => ?_)
      · refine j_lv (lv' := []) [] rfl ?_
        exact g_f_X7_setBounds_21 hG hE hT h
      · refine j_iload_n hG 2 (dt dtX7_setBounds_0 8 rfl) rfl rfl ?_
        refine j_bipush hG (v := 30) (dt dtX7_setBounds_0 9 rfl) (by decide) ?_
        refine j_icmp_le hG (tgt := 31) (dt dtX7_setBounds_0 10 rfl) (by decide) h (fun h => ?_) (fun h => ?_)
        · refine j_lv (lv' := []) [] rfl ?_
          exact g_f_X7_setBounds_21 hG hE hT h
        · refine J.weak (kc := 0) (ks := 0) (by decide) (by decide) ?_
          refine j_aload_n hG 0 (dt dtX7_setBounds_0 16 rfl) rfl rfl ?_
          refine j_get hG cl_X7 0 2 (cv_0 _ _ _ _) (by decide) fl_X7_30 rfl rfl (dt dtX7_setBounds_0 17 rfl) ?_
          refine j_get hG cl_X1 8 6 (cv_8 _ _ _ _) (by decide) fl_X7_143 rfl rfl (dt dtX7_setBounds_0 18 rfl) ?_
          refine j_istoreB_n hG (fun v38 => [(3, .int (v38)), (0, .ref (wad (gB G) 0)), (1, .int (a1)), (2, .int (a2))]) (dt dtX7_setBounds_0 19 rfl) rfl (by decide) (fun _ => rfl) h (fun v38 h => ?_)
          refine j_aload_n hG 1 (dt dtX7_setBounds_0 20 rfl) rfl rfl ?_
          refine j_get hG cl_X7 0 2 (cv_0 _ _ _ _) (by decide) fl_X7_30 rfl rfl (dt dtX7_setBounds_0 21 rfl) ?_
          refine j_iload_n hG 2 (dt dtX7_setBounds_0 22 rfl) rfl rfl ?_
          refine j_put hG cl_X1 8 5 (X := X) (k := 8) (fun X => (X, Y, o, dd, td)) (cv_8 _ _ _ _) (by decide) fl_X7_146 rfl rfl rfl rfl rfl (Nat.le_of_ble_eq_true rfl) (cs_8 _ _ _ _ (upd (X 8) 5 a1)) h (dt dtX7_setBounds_0 23 rfl) (fun X h => ?_)
          refine j_aload_n hG 1 (dt dtX7_setBounds_0 24 rfl) rfl rfl ?_
          refine j_get hG cl_X7 0 2 (cv_0 _ _ _ _) (by decide) fl_X7_30 rfl rfl (dt dtX7_setBounds_0 25 rfl) ?_
          refine j_iload_n hG 3 (dt dtX7_setBounds_0 26 rfl) rfl rfl ?_
          refine j_put hG cl_X1 8 6 (X := X) (k := 8) (fun X => (X, Y, o, dd, td)) (cv_8 _ _ _ _) (by decide) fl_X7_143 rfl rfl rfl rfl rfl (Nat.le_of_ble_eq_true rfl) (cs_8 _ _ _ _ (upd (X 8) 6 a2)) h (dt dtX7_setBounds_0 27 rfl) (fun X h => ?_)
          refine j_aload_n hG 1 (dt dtX7_setBounds_0 28 rfl) rfl rfl ?_
          refine j_callVp hG h (V := fun y56 => (some (.int (y56.1)))) (S := fun y56 => (y56.2, Y, o, dd, td)) (kc := 0) (ks := 0) (fun z hz => ct_X7_settle hG.2.2.1 (gB G) _ _ _ _ _ hz) mf_X7_settle ml_X7_79 0 (cv_0 _ _ _ _) rfl rfl (rest := []) rfl (Nat.le_of_ble_eq_true rfl) (dt dtX7_setBounds_0 29 rfl) (by decide) (by decide) (fun y56 h => ?_)
          refine j_pop hG (dt dtX7_setBounds_0 30 rfl) rfl ?_
          refine j_iload_n hG 0 (dt dtX7_setBounds_0 31 rfl) rfl rfl ?_
          obtain rfl := Option.some.inj h
          exact j_iret hG hE ⟨_, rfl, rfl, rfl⟩ (dt dtX7_setBounds_0 32 rfl)
theorem ct_X7_setBounds {l : Launch} (hl : l.stackTraces = false) (B : wB) (X Y : wM) (o : Int64) (dd : UInt64) (td : wX) {a1 : Int32} {a2 : Int32} {res : ((Nat × wM) ⊕ (Int32 × wM))} (h : f_X7_setBounds X a1 a2 = some res) : wMet l B yX7_setBounds cX7_setBounds 4 (some .int) 6 136 1 6 [.ref (wad B 0), .int (a1), .int (a2)] (X, Y, o, dd, td) (rpS res (fun z => rp (some (.int (z.1))) (z.2, Y, o, dd, td))) (xpS res (fun e E σ1 => E = exn e.1 ∧ σ1 = (e.2, Y, o, dd, td))) :=
  wMet.of hl (by decide +kernel) (Nat.le_of_ble_eq_true rfl) (fun G hB hL hG hE hT => by subst hB; exact g_f_X7_setBounds hG hE hT h)
def f_X7_needRecord_15 (X : wM) : Option ((Nat) ⊕ (Unit)) :=
  some (.inl 5)
def f_X7_needRecord (X : wM) (a1 : Int32) : Option ((Nat) ⊕ (Unit)) :=
  (if a1 < 0 then f_X7_needRecord_15 X
  else (if a1 < (X 3 5) then some (.inr ())
  else f_X7_needRecord_15 X))
set_option maxRecDepth 4000 in
theorem g_f_X7_needRecord_15 {G : wG} (hG : wOk G RX7 cX7_needRecord 2 6 90) {X Y : wM} {o : Int64} {dd : UInt64} {td : wX} {res : ((Nat) ⊕ (Unit))} (hE : wEnd G none (rpS res (fun z => rp none (X, Y, o, dd, td))) (xpS res (fun e E σ1 => E = exn e ∧ σ1 = (X, Y, o, dd, td)))) (hT : wNoTab G) (h : f_X7_needRecord_15 X = some res) : J G 2 1 6 15 [] [] (X, Y, o, dd, td) := by
  unfold f_X7_needRecord_15 at h
  obtain rfl := Option.some.inj h
  exact j_throwXW hG hE hT tf_X7_103_319_107 (dt dtX7_needRecord_0 7 rfl) (dt dtX7_needRecord_0 8 rfl) (dt dtX7_needRecord_0 9 rfl) (dt dtX7_needRecord_0 10 rfl) (dt dtX7_needRecord_0 11 rfl) (by decide) (by decide) ⟨_, rfl, rfl, rfl⟩
set_option maxRecDepth 4000 in
theorem g_f_X7_needRecord {G : wG} (hG : wOk G RX7 cX7_needRecord 2 6 90) {X Y : wM} {o : Int64} {dd : UInt64} {td : wX} {res : ((Nat) ⊕ (Unit))} (hE : wEnd G none (rpS res (fun z => rp none (X, Y, o, dd, td))) (xpS res (fun e E σ1 => E = exn e ∧ σ1 = (X, Y, o, dd, td)))) (hT : wNoTab G) {a1 : Int32} (h : f_X7_needRecord X a1 = some res) : J G 2 1 6 0 [(0, .ref (wad (gB G) 0)), (1, .int (a1))] [] (X, Y, o, dd, td) := by
  unfold f_X7_needRecord at h
  refine j_iload_n hG 1 (dt dtX7_needRecord_0 0 rfl) rfl rfl ?_
  refine j_if_lt hG (tgt := 15) (dt dtX7_needRecord_0 1 rfl) (by decide) h (fun h => ?_) (fun h => ?_)
  · refine j_lv (lv' := []) [] rfl ?_
    exact g_f_X7_needRecord_15 hG hE hT h
  · refine j_iload_n hG 1 (dt dtX7_needRecord_0 2 rfl) rfl rfl ?_
    refine j_aload_n hG 0 (dt dtX7_needRecord_0 3 rfl) rfl rfl ?_
    refine j_get hG cl_X7 0 1 (cv_0 _ _ _ _) (by decide) fl_X7_21 rfl rfl (dt dtX7_needRecord_0 4 rfl) ?_
    refine j_get hG cl_X3 3 5 (cv_3 _ _ _ _) (by decide) fl_X7_124 rfl rfl (dt dtX7_needRecord_0 5 rfl) ?_
    refine j_icmp_lt hG (tgt := 26) (dt dtX7_needRecord_0 6 rfl) (by decide) h (fun h => ?_) (fun h => ?_)
    · refine J.weak (kc := 0) (ks := 0) (by decide) (by decide) ?_
      obtain rfl := Option.some.inj h
      exact j_vret hG hE ⟨_, rfl, rfl, rfl⟩ (dt dtX7_needRecord_0 12 rfl)
    · refine j_lv (lv' := []) [] rfl ?_
      exact g_f_X7_needRecord_15 hG hE hT h
theorem ct_X7_needRecord {l : Launch} (hl : l.stackTraces = false) (B : wB) (X Y : wM) (o : Int64) (dd : UInt64) (td : wX) {a1 : Int32} {res : ((Nat) ⊕ (Unit))} (h : f_X7_needRecord X a1 = some res) : wMet l B yX7_needRecord cX7_needRecord 2 none 6 90 1 6 [.ref (wad B 0), .int (a1)] (X, Y, o, dd, td) (rpS res (fun z => rp none (X, Y, o, dd, td))) (xpS res (fun e E σ1 => E = exn e ∧ σ1 = (X, Y, o, dd, td))) :=
  wMet.of hl (by decide +kernel) (Nat.le_of_ble_eq_true rfl) (fun G hB hL hG hE hT => by subst hB; exact g_f_X7_needRecord hG hE hT h)
def f_X7_needTwoRecords (X : wM) (a1 : Int32) (a2 : Int32) : Option ((Nat) ⊕ (Unit)) :=
  wthr (f_X7_needRecord X a1) (fun e => some (.inl e)) fun y2 =>
  wthr (f_X7_needRecord X a2) (fun e => some (.inl e)) fun y7 =>
  (if a1 = a2 then some (.inl 1)
  else some (.inr ()))
set_option maxRecDepth 4000 in
theorem g_f_X7_needTwoRecords {G : wG} (hG : wOk G RX7 cX7_needTwoRecords 3 7 111) {X Y : wM} {o : Int64} {dd : UInt64} {td : wX} {res : ((Nat) ⊕ (Unit))} (hE : wEnd G none (rpS res (fun z => rp none (X, Y, o, dd, td))) (xpS res (fun e E σ1 => E = exn e ∧ σ1 = (X, Y, o, dd, td)))) (hT : wNoTab G) {a1 : Int32} {a2 : Int32} (h : f_X7_needTwoRecords X a1 a2 = some res) : J G 3 3 18 0 [(0, .ref (wad (gB G) 0)), (1, .int (a1)), (2, .int (a2))] [] (X, Y, o, dd, td) := by
  unfold f_X7_needTwoRecords at h
  refine j_aload_n hG 0 (dt dtX7_needTwoRecords_0 0 rfl) rfl rfl ?_
  refine j_iload_n hG 1 (dt dtX7_needTwoRecords_0 1 rfl) rfl rfl ?_
  refine j_callVt hG h (V := fun y2 => none) (S := fun y2 => (X, Y, o, dd, td)) (E0 := fun e => exn e) (S0 := fun e => (X, Y, o, dd, td)) (kc := 2) (ks := 12) (fun z hz => ct_X7_needRecord hG.2.2.1 (gB G) _ _ _ _ _ hz) mf_X7_needRecord ml_X7_170 0 (cv_0 _ _ _ _) rfl rfl (rest := []) rfl (Nat.le_of_ble_eq_true rfl) (dt dtX7_needTwoRecords_0 2 rfl) (by decide) (by decide) (fun y2 h => ?_) (fun e h => ?_)
  · refine j_aload_n hG 0 (dt dtX7_needTwoRecords_0 3 rfl) rfl rfl ?_
    refine j_iload_n hG 2 (dt dtX7_needTwoRecords_0 4 rfl) rfl rfl ?_
    refine j_callVt hG h (V := fun y7 => none) (S := fun y7 => (X, Y, o, dd, td)) (E0 := fun e => exn e) (S0 := fun e => (X, Y, o, dd, td)) (kc := 1) (ks := 6) (fun z hz => ct_X7_needRecord hG.2.2.1 (gB G) _ _ _ _ _ hz) mf_X7_needRecord ml_X7_170 0 (cv_0 _ _ _ _) rfl rfl (rest := []) rfl (Nat.le_of_ble_eq_true rfl) (dt dtX7_needTwoRecords_0 5 rfl) (by decide) (by decide) (fun y7 h => ?_) (fun e h => ?_)
    · refine j_iload_n hG 1 (dt dtX7_needTwoRecords_0 6 rfl) rfl rfl ?_
      refine j_iload_n hG 2 (dt dtX7_needTwoRecords_0 7 rfl) rfl rfl ?_
      refine j_icmp_ne hG (tgt := 26) (dt dtX7_needTwoRecords_0 8 rfl) (by decide) h (fun h => ?_) (fun h => ?_)
      · obtain rfl := Option.some.inj h
        exact j_throwSW hG hE hT tf_X7_112_321_116 (dt dtX7_needTwoRecords_0 9 rfl) (dt dtX7_needTwoRecords_0 10 rfl) (dt dtX7_needTwoRecords_0 11 rfl) (dt dtX7_needTwoRecords_0 12 rfl) (dt dtX7_needTwoRecords_0 13 rfl) (by decide) (by decide) ⟨_, rfl, rfl, rfl⟩
      · refine J.weak (kc := 0) (ks := 0) (by decide) (by decide) ?_
        obtain rfl := Option.some.inj h
        exact j_vret hG hE ⟨_, rfl, rfl, rfl⟩ (dt dtX7_needTwoRecords_0 14 rfl)
    · obtain rfl := Option.some.inj h
      exact jx_out hG hE hT ⟨_, rfl, rfl, rfl⟩
  · obtain rfl := Option.some.inj h
    exact jx_out hG hE hT ⟨_, rfl, rfl, rfl⟩
theorem ct_X7_needTwoRecords {l : Launch} (hl : l.stackTraces = false) (B : wB) (X Y : wM) (o : Int64) (dd : UInt64) (td : wX) {a1 : Int32} {a2 : Int32} {res : ((Nat) ⊕ (Unit))} (h : f_X7_needTwoRecords X a1 a2 = some res) : wMet l B yX7_needTwoRecords cX7_needTwoRecords 3 none 7 111 3 18 [.ref (wad B 0), .int (a1), .int (a2)] (X, Y, o, dd, td) (rpS res (fun z => rp none (X, Y, o, dd, td))) (xpS res (fun e E σ1 => E = exn e ∧ σ1 = (X, Y, o, dd, td))) :=
  wMet.of hl (by decide +kernel) (Nat.le_of_ble_eq_true rfl) (fun G hB hL hG hE hT => by subst hB; exact g_f_X7_needTwoRecords hG hE hT h)
def f_X7_score (X : wM) (a1 : Int32) (a2 : Int32) : Option ((Nat) ⊕ (Int32)) :=
  wthr (f_X7_needTwoRecords X a1 a2) (fun e => some (.inl e)) fun y3 =>
  (f_X1_scoreOf X a1 a2).bind fun y12 =>
  some (.inr y12)
set_option maxRecDepth 4000 in
theorem g_f_X7_score {G : wG} (hG : wOk G RX7 cX7_score 3 8 133) {X Y : wM} {o : Int64} {dd : UInt64} {td : wX} {res : ((Nat) ⊕ (Int32))} (hE : wEnd G (some .int) (rpS res (fun z => rp (some (.int (z))) (X, Y, o, dd, td))) (xpS res (fun e E σ1 => E = exn e ∧ σ1 = (X, Y, o, dd, td)))) (hT : wNoTab G) {a1 : Int32} {a2 : Int32} (h : f_X7_score X a1 a2 = some res) : J G 3 3 18 0 [(0, .ref (wad (gB G) 0)), (1, .int (a1)), (2, .int (a2))] [] (X, Y, o, dd, td) := by
  unfold f_X7_score at h
  refine j_aload_n hG 0 (dt dtX7_score_0 0 rfl) rfl rfl ?_
  refine j_iload_n hG 1 (dt dtX7_score_0 1 rfl) rfl rfl ?_
  refine j_iload_n hG 2 (dt dtX7_score_0 2 rfl) rfl rfl ?_
  refine j_callVt hG h (V := fun y3 => none) (S := fun y3 => (X, Y, o, dd, td)) (E0 := fun e => exn e) (S0 := fun e => (X, Y, o, dd, td)) (kc := 0) (ks := 0) (fun z hz => ct_X7_needTwoRecords hG.2.2.1 (gB G) _ _ _ _ _ hz) mf_X7_needTwoRecords ml_X7_149 0 (cv_0 _ _ _ _) rfl rfl (rest := []) rfl (Nat.le_of_ble_eq_true rfl) (dt dtX7_score_0 3 rfl) (by decide) (by decide) (fun y3 h => ?_) (fun e h => ?_)
  · refine j_aload_n hG 0 (dt dtX7_score_0 4 rfl) rfl rfl ?_
    refine j_get hG cl_X7 0 2 (cv_0 _ _ _ _) (by decide) fl_X7_30 rfl rfl (dt dtX7_score_0 5 rfl) ?_
    refine j_iload_n hG 1 (dt dtX7_score_0 6 rfl) rfl rfl ?_
    refine j_iload_n hG 2 (dt dtX7_score_0 7 rfl) rfl rfl ?_
    refine j_callVp hG h (V := fun y12 => (some (.int (y12)))) (S := fun y12 => (X, Y, o, dd, td)) (kc := 0) (ks := 0) (fun z hz => ct_X1_scoreOf hG.2.2.1 (gB G) _ _ _ _ _ hz) mf_X1_scoreOf ml_X7_153 8 (cv_8 _ _ _ _) rfl rfl (rest := []) rfl (Nat.le_of_ble_eq_true rfl) (dt dtX7_score_0 8 rfl) (by decide) (by decide) (fun y12 h => ?_)
    obtain rfl := Option.some.inj h
    exact j_iret hG hE ⟨_, rfl, rfl, rfl⟩ (dt dtX7_score_0 9 rfl)
  · obtain rfl := Option.some.inj h
    exact jx_out hG hE hT ⟨_, rfl, rfl, rfl⟩
theorem ct_X7_score {l : Launch} (hl : l.stackTraces = false) (B : wB) (X Y : wM) (o : Int64) (dd : UInt64) (td : wX) {a1 : Int32} {a2 : Int32} {res : ((Nat) ⊕ (Int32))} (h : f_X7_score X a1 a2 = some res) : wMet l B yX7_score cX7_score 3 (some .int) 8 133 3 18 [.ref (wad B 0), .int (a1), .int (a2)] (X, Y, o, dd, td) (rpS res (fun z => rp (some (.int (z))) (X, Y, o, dd, td))) (xpS res (fun e E σ1 => E = exn e ∧ σ1 = (X, Y, o, dd, td))) :=
  wMet.of hl (by decide +kernel) (Nat.le_of_ble_eq_true rfl) (fun G hB hL hG hE hT => by subst hB; exact g_f_X7_score hG hE hT h)
def f_X7_decide_57 (X : wM) (s0 : Int32) (s1 : Int32) (s2 : Int32) : Option ((Nat × wM) ⊕ (Int32 × wM)) :=
  (f_X1_putDecision X s2 s1 s0).bind fun y57 =>
  (f_X7_settle y57).bind fun y61 =>
  some (.inr (y61.1, y61.2))
def f_X7_decide_40 (X : wM) (l1 : Int32) (l2 : Int32) (l3 : Int32) : Option ((Nat × wM) ⊕ (Int32 × wM)) :=
  (if l3 = 0 then f_X7_decide_57 X (110 : Int32) l2 l1
  else f_X7_decide_57 X (121 : Int32) l2 l1)
def f_X7_decide (X : wM) (a1 : Int32) (a2 : Int32) (a3 : Int32) : Option ((Nat × wM) ⊕ (Int32 × wM)) :=
  wthr (f_X7_needTwoRecords X a1 a2) (fun e => some (.inl (e, X))) fun y3 =>
  wget 40 (X 4) a1 fun v14 =>
  (if v14 = 0 then wget 40 (X 4) a2 fun v26 =>
  (if v26 = 0 then some (.inl (4, X))
  else f_X7_decide_40 X a1 a2 a3)
  else f_X7_decide_40 X a1 a2 a3)
set_option maxRecDepth 4000 in
theorem g_f_X7_decide_57 {G : wG} (hG : wOk G RX7 cX7_decide 4 8 136) {X Y : wM} {o : Int64} {dd : UInt64} {td : wX} {res : ((Nat × wM) ⊕ (Int32 × wM))} (hE : wEnd G (some .int) (rpS res (fun z => rp (some (.int (z.1))) (z.2, Y, o, dd, td))) (xpS res (fun e E σ1 => E = exn e.1 ∧ σ1 = (e.2, Y, o, dd, td)))) (hT : wNoTab G) {s0 : Int32} {s1 : Int32} {s2 : Int32} (h : f_X7_decide_57 X s0 s1 s2 = some res) : J G 4 0 0 57 [(0, .ref (wad (gB G) 0))] [.int (s0), .int (s1), .int (s2), .ref (wad (gB G) 8)] (X, Y, o, dd, td) := by
  unfold f_X7_decide_57 at h
  refine j_callVp hG h (V := fun y57 => none) (S := fun y57 => (y57, Y, o, dd, td)) (kc := 0) (ks := 0) (fun z hz => ct_X1_putDecision hG.2.2.1 (gB G) _ _ _ _ _ hz) mf_X1_putDecision ml_X7_166 8 (cv_8 _ _ _ _) rfl rfl (rest := []) rfl (Nat.le_of_ble_eq_true rfl) (dt dtX7_decide_0 30 rfl) (by decide) (by decide) (fun y57 h => ?_)
  refine j_aload_n hG 0 (dt dtX7_decide_0 31 rfl) rfl rfl ?_
  refine j_callVp hG h (V := fun y61 => (some (.int (y61.1)))) (S := fun y61 => (y61.2, Y, o, dd, td)) (kc := 0) (ks := 0) (fun z hz => ct_X7_settle hG.2.2.1 (gB G) _ _ _ _ _ hz) mf_X7_settle ml_X7_79 0 (cv_0 _ _ _ _) rfl rfl (rest := []) rfl (Nat.le_of_ble_eq_true rfl) (dt dtX7_decide_0 32 rfl) (by decide) (by decide) (fun y61 h => ?_)
  obtain rfl := Option.some.inj h
  exact j_iret hG hE ⟨_, rfl, rfl, rfl⟩ (dt dtX7_decide_0 33 rfl)
set_option maxRecDepth 4000 in
theorem g_f_X7_decide_40 {G : wG} (hG : wOk G RX7 cX7_decide 4 8 136) {X Y : wM} {o : Int64} {dd : UInt64} {td : wX} {res : ((Nat × wM) ⊕ (Int32 × wM))} (hE : wEnd G (some .int) (rpS res (fun z => rp (some (.int (z.1))) (z.2, Y, o, dd, td))) (xpS res (fun e E σ1 => E = exn e.1 ∧ σ1 = (e.2, Y, o, dd, td)))) (hT : wNoTab G) {l1 : Int32} {l2 : Int32} {l3 : Int32} (h : f_X7_decide_40 X l1 l2 l3 = some res) : J G 4 0 0 40 [(0, .ref (wad (gB G) 0)), (1, .int (l1)), (2, .int (l2)), (3, .int (l3))] [] (X, Y, o, dd, td) := by
  unfold f_X7_decide_40 at h
  refine j_aload_n hG 0 (dt dtX7_decide_0 21 rfl) rfl rfl ?_
  refine j_get hG cl_X7 0 2 (cv_0 _ _ _ _) (by decide) fl_X7_30 rfl rfl (dt dtX7_decide_0 22 rfl) ?_
  refine j_iload_n hG 1 (dt dtX7_decide_0 23 rfl) rfl rfl ?_
  refine j_iload_n hG 2 (dt dtX7_decide_0 24 rfl) rfl rfl ?_
  refine j_iload_n hG 3 (dt dtX7_decide_0 25 rfl) rfl rfl ?_
  refine j_if_eq hG (tgt := 55) (dt dtX7_decide_0 26 rfl) (by decide) h (fun h => ?_) (fun h => ?_)
  · refine j_bipush hG (v := 110) (dt dtX7_decide_0 29 rfl) (by decide) ?_
    refine j_lv (lv' := [(0, .ref (wad (gB G) 0))]) [0] rfl ?_
    exact g_f_X7_decide_57 hG hE hT h
  · refine j_bipush hG (v := 121) (dt dtX7_decide_0 27 rfl) (by decide) ?_
    refine j_goto hG (tgt := 57) (dt dtX7_decide_0 28 rfl) (by decide) ?_
    refine j_lv (lv' := [(0, .ref (wad (gB G) 0))]) [0] rfl ?_
    exact g_f_X7_decide_57 hG hE hT h
set_option maxRecDepth 4000 in
theorem g_f_X7_decide {G : wG} (hG : wOk G RX7 cX7_decide 4 8 136) {X Y : wM} {o : Int64} {dd : UInt64} {td : wX} {res : ((Nat × wM) ⊕ (Int32 × wM))} (hE : wEnd G (some .int) (rpS res (fun z => rp (some (.int (z.1))) (z.2, Y, o, dd, td))) (xpS res (fun e E σ1 => E = exn e.1 ∧ σ1 = (e.2, Y, o, dd, td)))) (hT : wNoTab G) {a1 : Int32} {a2 : Int32} {a3 : Int32} (h : f_X7_decide X a1 a2 a3 = some res) : J G 4 4 24 0 [(0, .ref (wad (gB G) 0)), (1, .int (a1)), (2, .int (a2)), (3, .int (a3))] [] (X, Y, o, dd, td) := by
  unfold f_X7_decide at h
  refine j_aload_n hG 0 (dt dtX7_decide_0 0 rfl) rfl rfl ?_
  refine j_iload_n hG 1 (dt dtX7_decide_0 1 rfl) rfl rfl ?_
  refine j_iload_n hG 2 (dt dtX7_decide_0 2 rfl) rfl rfl ?_
  refine j_callVt hG h (V := fun y3 => none) (S := fun y3 => (X, Y, o, dd, td)) (E0 := fun e => exn e) (S0 := fun e => (X, Y, o, dd, td)) (kc := 1) (ks := 6) (fun z hz => ct_X7_needTwoRecords hG.2.2.1 (gB G) _ _ _ _ _ hz) mf_X7_needTwoRecords ml_X7_149 0 (cv_0 _ _ _ _) rfl rfl (rest := []) rfl (Nat.le_of_ble_eq_true rfl) (dt dtX7_decide_0 3 rfl) (by decide) (by decide) (fun y3 h => ?_) (fun e h => ?_)
  · refine j_aload_n hG 0 (dt dtX7_decide_0 4 rfl) rfl rfl ?_
    refine j_get hG cl_X7 0 1 (cv_0 _ _ _ _) (by decide) fl_X7_21 rfl rfl (dt dtX7_decide_0 5 rfl) ?_
    refine j_get hG cl_X3 3 1 (cv_3 _ _ _ _) (by decide) fl_X7_157 rfl rfl (dt dtX7_decide_0 6 rfl) ?_
    refine j_iload_n hG 1 (dt dtX7_decide_0 7 rfl) rfl rfl ?_
    refine j_zald hG 4 (cv_4 _ _ _ _) h (dt dtX7_decide_0 8 rfl) (fun v14 h => ?_)
    refine j_if_ne hG (tgt := 40) (dt dtX7_decide_0 9 rfl) (by decide) h (fun h => ?_) (fun h => ?_)
    · refine j_aload_n hG 0 (dt dtX7_decide_0 10 rfl) rfl rfl ?_
      refine j_get hG cl_X7 0 1 (cv_0 _ _ _ _) (by decide) fl_X7_21 rfl rfl (dt dtX7_decide_0 11 rfl) ?_
      refine j_get hG cl_X3 3 1 (cv_3 _ _ _ _) (by decide) fl_X7_157 rfl rfl (dt dtX7_decide_0 12 rfl) ?_
      refine j_iload_n hG 2 (dt dtX7_decide_0 13 rfl) rfl rfl ?_
      refine j_zald hG 4 (cv_4 _ _ _ _) h (dt dtX7_decide_0 14 rfl) (fun v26 h => ?_)
      refine j_if_ne hG (tgt := 40) (dt dtX7_decide_0 15 rfl) (by decide) h (fun h => ?_) (fun h => ?_)
      · obtain rfl := Option.some.inj h
        exact j_throwS hG hE hT tf_X7_161_163_165 (dt dtX7_decide_0 16 rfl) (dt dtX7_decide_0 17 rfl) (dt dtX7_decide_0 18 rfl) (dt dtX7_decide_0 19 rfl) (dt dtX7_decide_0 20 rfl) (by decide) (by decide) ⟨_, rfl, rfl, rfl⟩
      · refine J.weak (kc := 0) (ks := 0) (by decide) (by decide) ?_
        exact g_f_X7_decide_40 hG hE hT h
    · refine J.weak (kc := 0) (ks := 0) (by decide) (by decide) ?_
      exact g_f_X7_decide_40 hG hE hT h
  · obtain rfl := Option.some.inj h
    exact jx_out hG hE hT ⟨_, rfl, rfl, rfl⟩
theorem ct_X7_decide {l : Launch} (hl : l.stackTraces = false) (B : wB) (X Y : wM) (o : Int64) (dd : UInt64) (td : wX) {a1 : Int32} {a2 : Int32} {a3 : Int32} {res : ((Nat × wM) ⊕ (Int32 × wM))} (h : f_X7_decide X a1 a2 a3 = some res) : wMet l B yX7_decide cX7_decide 4 (some .int) 8 136 4 24 [.ref (wad B 0), .int (a1), .int (a2), .int (a3)] (X, Y, o, dd, td) (rpS res (fun z => rp (some (.int (z.1))) (z.2, Y, o, dd, td))) (xpS res (fun e E σ1 => E = exn e.1 ∧ σ1 = (e.2, Y, o, dd, td))) :=
  wMet.of hl (by decide +kernel) (Nat.le_of_ble_eq_true rfl) (fun G hB hL hG hE hT => by subst hB; exact g_f_X7_decide hG hE hT h)
def f_X7_takeBack (X : wM) (a1 : Int32) (a2 : Int32) : Option ((Nat × wM) ⊕ (Int32 × wM)) :=
  wthr (f_X7_needRecord X a1) (fun e => some (.inl (e, X))) fun y2 =>
  wthr (f_X7_needRecord X a2) (fun e => some (.inl (e, X))) fun y7 =>
  (f_X1_isDecided X a1 a2).bind fun y16 =>
  (if y16 = 0 then some (.inl (0, X))
  else (f_X1_putDecision X a1 a2 (45 : Int32)).bind fun y40 =>
  (f_X7_settle y40).bind fun y44 =>
  some (.inr (y44.1, y44.2)))
set_option maxRecDepth 4000 in
theorem g_f_X7_takeBack {G : wG} (hG : wOk G RX7 cX7_takeBack 3 7 136) {X Y : wM} {o : Int64} {dd : UInt64} {td : wX} {res : ((Nat × wM) ⊕ (Int32 × wM))} (hE : wEnd G (some .int) (rpS res (fun z => rp (some (.int (z.1))) (z.2, Y, o, dd, td))) (xpS res (fun e E σ1 => E = exn e.1 ∧ σ1 = (e.2, Y, o, dd, td)))) (hT : wNoTab G) {a1 : Int32} {a2 : Int32} (h : f_X7_takeBack X a1 a2 = some res) : J G 3 3 18 0 [(0, .ref (wad (gB G) 0)), (1, .int (a1)), (2, .int (a2))] [] (X, Y, o, dd, td) := by
  unfold f_X7_takeBack at h
  refine j_aload_n hG 0 (dt dtX7_takeBack_0 0 rfl) rfl rfl ?_
  refine j_iload_n hG 1 (dt dtX7_takeBack_0 1 rfl) rfl rfl ?_
  refine j_callVt hG h (V := fun y2 => none) (S := fun y2 => (X, Y, o, dd, td)) (E0 := fun e => exn e) (S0 := fun e => (X, Y, o, dd, td)) (kc := 2) (ks := 12) (fun z hz => ct_X7_needRecord hG.2.2.1 (gB G) _ _ _ _ _ hz) mf_X7_needRecord ml_X7_170 0 (cv_0 _ _ _ _) rfl rfl (rest := []) rfl (Nat.le_of_ble_eq_true rfl) (dt dtX7_takeBack_0 2 rfl) (by decide) (by decide) (fun y2 h => ?_) (fun e h => ?_)
  · refine j_aload_n hG 0 (dt dtX7_takeBack_0 3 rfl) rfl rfl ?_
    refine j_iload_n hG 2 (dt dtX7_takeBack_0 4 rfl) rfl rfl ?_
    refine j_callVt hG h (V := fun y7 => none) (S := fun y7 => (X, Y, o, dd, td)) (E0 := fun e => exn e) (S0 := fun e => (X, Y, o, dd, td)) (kc := 1) (ks := 6) (fun z hz => ct_X7_needRecord hG.2.2.1 (gB G) _ _ _ _ _ hz) mf_X7_needRecord ml_X7_170 0 (cv_0 _ _ _ _) rfl rfl (rest := []) rfl (Nat.le_of_ble_eq_true rfl) (dt dtX7_takeBack_0 5 rfl) (by decide) (by decide) (fun y7 h => ?_) (fun e h => ?_)
    · refine j_aload_n hG 0 (dt dtX7_takeBack_0 6 rfl) rfl rfl ?_
      refine j_get hG cl_X7 0 2 (cv_0 _ _ _ _) (by decide) fl_X7_30 rfl rfl (dt dtX7_takeBack_0 7 rfl) ?_
      refine j_iload_n hG 1 (dt dtX7_takeBack_0 8 rfl) rfl rfl ?_
      refine j_iload_n hG 2 (dt dtX7_takeBack_0 9 rfl) rfl rfl ?_
      refine j_callVp hG h (V := fun y16 => (some (.int (y16)))) (S := fun y16 => (X, Y, o, dd, td)) (kc := 1) (ks := 6) (fun z hz => ct_X1_isDecided hG.2.2.1 (gB G) _ _ _ _ _ hz) mf_X1_isDecided ml_X7_173 8 (cv_8 _ _ _ _) rfl rfl (rest := []) rfl (Nat.le_of_ble_eq_true rfl) (dt dtX7_takeBack_0 10 rfl) (by decide) (by decide) (fun y16 h => ?_)
      refine j_if_ne hG (tgt := 32) (dt dtX7_takeBack_0 11 rfl) (by decide) h (fun h => ?_) (fun h => ?_)
      · obtain rfl := Option.some.inj h
        exact j_throwS hG hE hT tf_X7_68_177_72 (dt dtX7_takeBack_0 12 rfl) (dt dtX7_takeBack_0 13 rfl) (dt dtX7_takeBack_0 14 rfl) (dt dtX7_takeBack_0 15 rfl) (dt dtX7_takeBack_0 16 rfl) (by decide) (by decide) ⟨_, rfl, rfl, rfl⟩
      · refine J.weak (kc := 0) (ks := 0) (by decide) (by decide) ?_
        refine j_aload_n hG 0 (dt dtX7_takeBack_0 17 rfl) rfl rfl ?_
        refine j_get hG cl_X7 0 2 (cv_0 _ _ _ _) (by decide) fl_X7_30 rfl rfl (dt dtX7_takeBack_0 18 rfl) ?_
        refine j_iload_n hG 1 (dt dtX7_takeBack_0 19 rfl) rfl rfl ?_
        refine j_iload_n hG 2 (dt dtX7_takeBack_0 20 rfl) rfl rfl ?_
        refine j_bipush hG (v := 45) (dt dtX7_takeBack_0 21 rfl) (by decide) ?_
        refine j_callVp hG h (V := fun y40 => none) (S := fun y40 => (y40, Y, o, dd, td)) (kc := 0) (ks := 0) (fun z hz => ct_X1_putDecision hG.2.2.1 (gB G) _ _ _ _ _ hz) mf_X1_putDecision ml_X7_166 8 (cv_8 _ _ _ _) rfl rfl (rest := []) rfl (Nat.le_of_ble_eq_true rfl) (dt dtX7_takeBack_0 22 rfl) (by decide) (by decide) (fun y40 h => ?_)
        refine j_aload_n hG 0 (dt dtX7_takeBack_0 23 rfl) rfl rfl ?_
        refine j_callVp hG h (V := fun y44 => (some (.int (y44.1)))) (S := fun y44 => (y44.2, Y, o, dd, td)) (kc := 0) (ks := 0) (fun z hz => ct_X7_settle hG.2.2.1 (gB G) _ _ _ _ _ hz) mf_X7_settle ml_X7_79 0 (cv_0 _ _ _ _) rfl rfl (rest := []) rfl (Nat.le_of_ble_eq_true rfl) (dt dtX7_takeBack_0 24 rfl) (by decide) (by decide) (fun y44 h => ?_)
        obtain rfl := Option.some.inj h
        exact j_iret hG hE ⟨_, rfl, rfl, rfl⟩ (dt dtX7_takeBack_0 25 rfl)
    · obtain rfl := Option.some.inj h
      exact jx_out hG hE hT ⟨_, rfl, rfl, rfl⟩
  · obtain rfl := Option.some.inj h
    exact jx_out hG hE hT ⟨_, rfl, rfl, rfl⟩
theorem ct_X7_takeBack {l : Launch} (hl : l.stackTraces = false) (B : wB) (X Y : wM) (o : Int64) (dd : UInt64) (td : wX) {a1 : Int32} {a2 : Int32} {res : ((Nat × wM) ⊕ (Int32 × wM))} (h : f_X7_takeBack X a1 a2 = some res) : wMet l B yX7_takeBack cX7_takeBack 3 (some .int) 7 136 3 18 [.ref (wad B 0), .int (a1), .int (a2)] (X, Y, o, dd, td) (rpS res (fun z => rp (some (.int (z.1))) (z.2, Y, o, dd, td))) (xpS res (fun e E σ1 => E = exn e.1 ∧ σ1 = (e.2, Y, o, dd, td))) :=
  wMet.of hl (by decide +kernel) (Nat.le_of_ble_eq_true rfl) (fun G hB hL hG hE hT => by subst hB; exact g_f_X7_takeBack hG hE hT h)
def f_X7_link (X : wM) (a1 : Int32) (a2 : Int32) : Option ((Nat) ⊕ (Int32)) :=
  wthr (f_X7_needTwoRecords X a1 a2) (fun e => some (.inl e)) fun y3 =>
  (f_X1_kindOf X a1 a2).bind fun y12 =>
  wgd (wokN .char y12) (some (.inr y12))
set_option maxRecDepth 4000 in
theorem g_f_X7_link {G : wG} (hG : wOk G RX7 cX7_link 3 8 133) {X Y : wM} {o : Int64} {dd : UInt64} {td : wX} {res : ((Nat) ⊕ (Int32))} (hE : wEnd G (some .char) (rpS res (fun z => rp (some (.int (z))) (X, Y, o, dd, td))) (xpS res (fun e E σ1 => E = exn e ∧ σ1 = (X, Y, o, dd, td)))) (hT : wNoTab G) {a1 : Int32} {a2 : Int32} (h : f_X7_link X a1 a2 = some res) : J G 3 3 18 0 [(0, .ref (wad (gB G) 0)), (1, .int (a1)), (2, .int (a2))] [] (X, Y, o, dd, td) := by
  unfold f_X7_link at h
  refine j_aload_n hG 0 (dt dtX7_link_0 0 rfl) rfl rfl ?_
  refine j_iload_n hG 1 (dt dtX7_link_0 1 rfl) rfl rfl ?_
  refine j_iload_n hG 2 (dt dtX7_link_0 2 rfl) rfl rfl ?_
  refine j_callVt hG h (V := fun y3 => none) (S := fun y3 => (X, Y, o, dd, td)) (E0 := fun e => exn e) (S0 := fun e => (X, Y, o, dd, td)) (kc := 0) (ks := 0) (fun z hz => ct_X7_needTwoRecords hG.2.2.1 (gB G) _ _ _ _ _ hz) mf_X7_needTwoRecords ml_X7_149 0 (cv_0 _ _ _ _) rfl rfl (rest := []) rfl (Nat.le_of_ble_eq_true rfl) (dt dtX7_link_0 3 rfl) (by decide) (by decide) (fun y3 h => ?_) (fun e h => ?_)
  · refine j_aload_n hG 0 (dt dtX7_link_0 4 rfl) rfl rfl ?_
    refine j_get hG cl_X7 0 2 (cv_0 _ _ _ _) (by decide) fl_X7_30 rfl rfl (dt dtX7_link_0 5 rfl) ?_
    refine j_iload_n hG 1 (dt dtX7_link_0 6 rfl) rfl rfl ?_
    refine j_iload_n hG 2 (dt dtX7_link_0 7 rfl) rfl rfl ?_
    refine j_callVp hG h (V := fun y12 => (some (.int (y12)))) (S := fun y12 => (X, Y, o, dd, td)) (kc := 0) (ks := 0) (fun z hz => ct_X1_kindOf hG.2.2.1 (gB G) _ _ _ _ _ hz) mf_X1_kindOf ml_X7_179 8 (cv_8 _ _ _ _) rfl rfl (rest := []) rfl (Nat.le_of_ble_eq_true rfl) (dt dtX7_link_0 8 rfl) (by decide) (by decide) (fun y12 h => ?_)
    obtain ⟨c15, h⟩ := wgd_ok h
    obtain rfl := Option.some.inj h
    exact j_zret hG hE (wokN_ok c15) ⟨_, rfl, rfl, rfl⟩ (dt dtX7_link_0 9 rfl)
  · obtain rfl := Option.some.inj h
    exact jx_out hG hE hT ⟨_, rfl, rfl, rfl⟩
theorem ct_X7_link {l : Launch} (hl : l.stackTraces = false) (B : wB) (X Y : wM) (o : Int64) (dd : UInt64) (td : wX) {a1 : Int32} {a2 : Int32} {res : ((Nat) ⊕ (Int32))} (h : f_X7_link X a1 a2 = some res) : wMet l B yX7_link cX7_link 3 (some .char) 8 133 3 18 [.ref (wad B 0), .int (a1), .int (a2)] (X, Y, o, dd, td) (rpS res (fun z => rp (some (.int (z))) (X, Y, o, dd, td))) (xpS res (fun e E σ1 => E = exn e ∧ σ1 = (X, Y, o, dd, td))) :=
  wMet.of hl (by decide +kernel) (Nat.le_of_ble_eq_true rfl) (fun G hB hL hG hE hT => by subst hB; exact g_f_X7_link hG hE hT h)
def f_X7_openPairs_83 (k4 : Int32 → Int32 → Option (Int32)) (k19 : Int32 → Int32 → Int32 → Option (Int32)) (X : wM) (l1 : Int32) (l2 : Int32) (l3 : Int32) : Option (Int32) :=
  wbd (l3 + 1) fun v83 =>
  k19 l1 l2 v83
def f_X7_openPairs_59 (k4 : Int32 → Int32 → Option (Int32)) (k19 : Int32 → Int32 → Int32 → Option (Int32)) (X : wM) (l1 : Int32) (l2 : Int32) (l3 : Int32) (s0 : Int32) : Option (Int32) :=
  (if s0 = 0 then f_X7_openPairs_83 k4 k19 X l1 l2 l3
  else (f_X1_kindOf X l2 l3).bind fun y72 =>
  (if y72 = 63 then wbd (l1 + 1) fun v80 =>
  f_X7_openPairs_83 k4 k19 X v80 l2 l3
  else f_X7_openPairs_83 k4 k19 X l1 l2 l3))
def f_X7_openPairs_54 (k4 : Int32 → Int32 → Option (Int32)) (k19 : Int32 → Int32 → Int32 → Option (Int32)) (X : wM) (l1 : Int32) (l2 : Int32) (l3 : Int32) : Option (Int32) :=
  f_X7_openPairs_59 k4 k19 X l1 l2 l3 (1 : Int32)
def f_X7_openPairs_19b (k4 : Int32 → Int32 → Option (Int32)) (k19 : Int32 → Int32 → Int32 → Option (Int32)) (X : wM) (l1 : Int32) (l2 : Int32) (l3 : Int32) : Option (Int32) :=
  (if l3 < (X 3 5) then wget 40 (X 4) l2 fun v38 =>
  (if v38 = 0 then wget 40 (X 4) l3 fun v50 =>
  (if v50 = 0 then f_X7_openPairs_59 k4 k19 X l1 l2 l3 (0 : Int32)
  else f_X7_openPairs_54 k4 k19 X l1 l2 l3)
  else f_X7_openPairs_54 k4 k19 X l1 l2 l3)
  else wbd (l2 + 1) fun v89 =>
  k4 l1 v89)
def f_X7_openPairs_19 (k4 : Int32 → Int32 → Option (Int32)) (X : wM) : Nat → Int32 → Int32 → Int32 → Option (Int32)
  | 0 => fun _ _ _ => none
  | n + 1 => fun l1 l2 l3 => f_X7_openPairs_19b k4 (f_X7_openPairs_19 k4 X n) X l1 l2 l3
def f_X7_openPairs_4b (k4 : Int32 → Int32 → Option (Int32)) (X : wM) (l1 : Int32) (l2 : Int32) : Option (Int32) :=
  (if l2 < (X 3 5) then wbd (l2 + 1) fun v18 =>
  f_X7_openPairs_19 k4 X 1000 l1 l2 v18
  else some l1)
def f_X7_openPairs_4 (X : wM) : Nat → Int32 → Int32 → Option (Int32)
  | 0 => fun _ _ => none
  | n + 1 => fun l1 l2 => f_X7_openPairs_4b (f_X7_openPairs_4 X n) X l1 l2
def f_X7_openPairs (X : wM) : Option (Int32) :=
  f_X7_openPairs_4 X 1000 (0 : Int32) (0 : Int32)
set_option maxRecDepth 4000 in
theorem g_f_X7_openPairs_83 {G : wG} (hG : wOk G RX7 cX7_openPairs 5 3 70) {X Y : wM} {o : Int64} {dd : UInt64} {td : wX} {res : (Int32)} (hE : wEnd G (some .int) (rp (some (.int (res))) (X, Y, o, dd, td)) xp0) (hT : wNoTab G) {k4 : Int32 → Int32 → Option (Int32)} (hk4 : ∀ (l1 : Int32) (l2 : Int32), k4 l1 l2 = some res → J G 5 0 0 4 [(0, .ref (wad (gB G) 0)), (1, .int (l1)), (2, .int (l2))] [] (X, Y, o, dd, td)) {k19 : Int32 → Int32 → Int32 → Option (Int32)} (hk19 : ∀ (l1 : Int32) (l2 : Int32) (l3 : Int32), k19 l1 l2 l3 = some res → J G 5 0 0 19 [(0, .ref (wad (gB G) 0)), (1, .int (l1)), (2, .int (l2)), (3, .int (l3))] [] (X, Y, o, dd, td)) {l1 : Int32} {l2 : Int32} {l3 : Int32} (h : f_X7_openPairs_83 k4 k19 X l1 l2 l3 = some res) : J G 5 0 0 83 [(0, .ref (wad (gB G) 0)), (1, .int (l1)), (2, .int (l2)), (3, .int (l3))] [] (X, Y, o, dd, td) := by
  unfold f_X7_openPairs_83 at h
  refine j_iincB hG 3 (fun v83 => [(3, .int (v83)), (0, .ref (wad (gB G) 0)), (1, .int (l1)), (2, .int (l2))]) (dt dtX7_openPairs_0 44 rfl) rfl rfl (by decide) (fun _ => rfl) h (fun v83 h => ?_)
  refine j_goto hG (tgt := 19) (dt dtX7_openPairs_0 45 rfl) (by decide) ?_
  refine j_lv (lv' := [(0, .ref (wad (gB G) 0)), (1, .int (l1)), (2, .int (l2)), (3, .int (v83))]) [1, 2, 3, 0] rfl ?_
  exact hk19 l1 l2 v83 h
set_option maxRecDepth 4000 in
theorem g_f_X7_openPairs_59 {G : wG} (hG : wOk G RX7 cX7_openPairs 5 3 70) {X Y : wM} {o : Int64} {dd : UInt64} {td : wX} {res : (Int32)} (hE : wEnd G (some .int) (rp (some (.int (res))) (X, Y, o, dd, td)) xp0) (hT : wNoTab G) {k4 : Int32 → Int32 → Option (Int32)} (hk4 : ∀ (l1 : Int32) (l2 : Int32), k4 l1 l2 = some res → J G 5 0 0 4 [(0, .ref (wad (gB G) 0)), (1, .int (l1)), (2, .int (l2))] [] (X, Y, o, dd, td)) {k19 : Int32 → Int32 → Int32 → Option (Int32)} (hk19 : ∀ (l1 : Int32) (l2 : Int32) (l3 : Int32), k19 l1 l2 l3 = some res → J G 5 0 0 19 [(0, .ref (wad (gB G) 0)), (1, .int (l1)), (2, .int (l2)), (3, .int (l3))] [] (X, Y, o, dd, td)) {l1 : Int32} {l2 : Int32} {l3 : Int32} {s0 : Int32} (h : f_X7_openPairs_59 k4 k19 X l1 l2 l3 s0 = some res) : J G 5 0 0 59 [(0, .ref (wad (gB G) 0)), (1, .int (l1)), (2, .int (l2)), (3, .int (l3))] [.int (s0)] (X, Y, o, dd, td) := by
  unfold f_X7_openPairs_59 at h
  refine j_istore hG (lv' := [(4, .int (s0)), (0, .ref (wad (gB G) 0)), (1, .int (l1)), (2, .int (l2)), (3, .int (l3))]) (dt dtX7_openPairs_0 33 rfl) (by decide) rfl ?_
  refine j_iload hG 0 (dt dtX7_openPairs_0 34 rfl) rfl ?_
  refine j_if_eq hG (tgt := 83) (dt dtX7_openPairs_0 35 rfl) (by decide) h (fun h => ?_) (fun h => ?_)
  · refine j_lv (lv' := [(0, .ref (wad (gB G) 0)), (1, .int (l1)), (2, .int (l2)), (3, .int (l3))]) [1, 2, 3, 4] rfl ?_
    exact g_f_X7_openPairs_83 hG hE hT hk4 hk19 h
  · refine j_aload_n hG 1 (dt dtX7_openPairs_0 36 rfl) rfl rfl ?_
    refine j_get hG cl_X7 0 2 (cv_0 _ _ _ _) (by decide) fl_X7_30 rfl rfl (dt dtX7_openPairs_0 37 rfl) ?_
    refine j_iload_n hG 3 (dt dtX7_openPairs_0 38 rfl) rfl rfl ?_
    refine j_iload_n hG 4 (dt dtX7_openPairs_0 39 rfl) rfl rfl ?_
    refine j_callVp hG h (V := fun y72 => (some (.int (y72)))) (S := fun y72 => (X, Y, o, dd, td)) (kc := 0) (ks := 0) (fun z hz => ct_X1_kindOf hG.2.2.1 (gB G) _ _ _ _ _ hz) mf_X1_kindOf ml_X7_179 8 (cv_8 _ _ _ _) rfl rfl (rest := []) rfl (Nat.le_of_ble_eq_true rfl) (dt dtX7_openPairs_0 40 rfl) (by decide) (by decide) (fun y72 h => ?_)
    refine j_bipush hG (v := 63) (dt dtX7_openPairs_0 41 rfl) (by decide) ?_
    refine j_icmp_ne hG (tgt := 83) (dt dtX7_openPairs_0 42 rfl) (by decide) h (fun h => ?_) (fun h => ?_)
    · refine j_iincB hG 2 (fun v80 => [(1, .int (v80)), (4, .int (s0)), (0, .ref (wad (gB G) 0)), (2, .int (l2)), (3, .int (l3))]) (dt dtX7_openPairs_0 43 rfl) rfl rfl (by decide) (fun _ => rfl) h (fun v80 h => ?_)
      refine j_lv (lv' := [(0, .ref (wad (gB G) 0)), (1, .int (v80)), (2, .int (l2)), (3, .int (l3))]) [2, 0, 3, 4] rfl ?_
      exact g_f_X7_openPairs_83 hG hE hT hk4 hk19 h
    · refine j_lv (lv' := [(0, .ref (wad (gB G) 0)), (1, .int (l1)), (2, .int (l2)), (3, .int (l3))]) [1, 2, 3, 4] rfl ?_
      exact g_f_X7_openPairs_83 hG hE hT hk4 hk19 h
set_option maxRecDepth 4000 in
theorem g_f_X7_openPairs_54 {G : wG} (hG : wOk G RX7 cX7_openPairs 5 3 70) {X Y : wM} {o : Int64} {dd : UInt64} {td : wX} {res : (Int32)} (hE : wEnd G (some .int) (rp (some (.int (res))) (X, Y, o, dd, td)) xp0) (hT : wNoTab G) {k4 : Int32 → Int32 → Option (Int32)} (hk4 : ∀ (l1 : Int32) (l2 : Int32), k4 l1 l2 = some res → J G 5 0 0 4 [(0, .ref (wad (gB G) 0)), (1, .int (l1)), (2, .int (l2))] [] (X, Y, o, dd, td)) {k19 : Int32 → Int32 → Int32 → Option (Int32)} (hk19 : ∀ (l1 : Int32) (l2 : Int32) (l3 : Int32), k19 l1 l2 l3 = some res → J G 5 0 0 19 [(0, .ref (wad (gB G) 0)), (1, .int (l1)), (2, .int (l2)), (3, .int (l3))] [] (X, Y, o, dd, td)) {l1 : Int32} {l2 : Int32} {l3 : Int32} (h : f_X7_openPairs_54 k4 k19 X l1 l2 l3 = some res) : J G 5 0 0 54 [(0, .ref (wad (gB G) 0)), (1, .int (l1)), (2, .int (l2)), (3, .int (l3))] [] (X, Y, o, dd, td) := by
  unfold f_X7_openPairs_54 at h
  refine j_iconst hG (v := 1) (dt dtX7_openPairs_0 30 rfl) (by decide) ?_
  refine j_goto hG (tgt := 59) (dt dtX7_openPairs_0 31 rfl) (by decide) ?_
  exact g_f_X7_openPairs_59 hG hE hT hk4 hk19 h
set_option maxRecDepth 4000 in
theorem g_f_X7_openPairs_19b {G : wG} (hG : wOk G RX7 cX7_openPairs 5 3 70) {X Y : wM} {o : Int64} {dd : UInt64} {td : wX} {res : (Int32)} (hE : wEnd G (some .int) (rp (some (.int (res))) (X, Y, o, dd, td)) xp0) (hT : wNoTab G) {k4 : Int32 → Int32 → Option (Int32)} (hk4 : ∀ (l1 : Int32) (l2 : Int32), k4 l1 l2 = some res → J G 5 0 0 4 [(0, .ref (wad (gB G) 0)), (1, .int (l1)), (2, .int (l2))] [] (X, Y, o, dd, td)) {k19 : Int32 → Int32 → Int32 → Option (Int32)} (hk19 : ∀ (l1 : Int32) (l2 : Int32) (l3 : Int32), k19 l1 l2 l3 = some res → J G 5 0 0 19 [(0, .ref (wad (gB G) 0)), (1, .int (l1)), (2, .int (l2)), (3, .int (l3))] [] (X, Y, o, dd, td)) {l1 : Int32} {l2 : Int32} {l3 : Int32} (h : f_X7_openPairs_19b k4 k19 X l1 l2 l3 = some res) : J G 5 0 0 19 [(0, .ref (wad (gB G) 0)), (1, .int (l1)), (2, .int (l2)), (3, .int (l3))] [] (X, Y, o, dd, td) := by
  unfold f_X7_openPairs_19b at h
  refine j_iload_n hG 3 (dt dtX7_openPairs_0 13 rfl) rfl rfl ?_
  refine j_aload_n hG 0 (dt dtX7_openPairs_0 14 rfl) rfl rfl ?_
  refine j_get hG cl_X7 0 1 (cv_0 _ _ _ _) (by decide) fl_X7_21 rfl rfl (dt dtX7_openPairs_0 15 rfl) ?_
  refine j_get hG cl_X3 3 5 (cv_3 _ _ _ _) (by decide) fl_X7_124 rfl rfl (dt dtX7_openPairs_0 16 rfl) ?_
  refine j_icmp_ge hG (tgt := 89) (dt dtX7_openPairs_0 17 rfl) (by decide) h (fun h => ?_) (fun h => ?_)
  · refine j_aload_n hG 0 (dt dtX7_openPairs_0 18 rfl) rfl rfl ?_
    refine j_get hG cl_X7 0 1 (cv_0 _ _ _ _) (by decide) fl_X7_21 rfl rfl (dt dtX7_openPairs_0 19 rfl) ?_
    refine j_get hG cl_X3 3 1 (cv_3 _ _ _ _) (by decide) fl_X7_157 rfl rfl (dt dtX7_openPairs_0 20 rfl) ?_
    refine j_iload_n hG 2 (dt dtX7_openPairs_0 21 rfl) rfl rfl ?_
    refine j_zald hG 4 (cv_4 _ _ _ _) h (dt dtX7_openPairs_0 22 rfl) (fun v38 h => ?_)
    refine j_if_ne hG (tgt := 54) (dt dtX7_openPairs_0 23 rfl) (by decide) h (fun h => ?_) (fun h => ?_)
    · refine j_aload_n hG 0 (dt dtX7_openPairs_0 24 rfl) rfl rfl ?_
      refine j_get hG cl_X7 0 1 (cv_0 _ _ _ _) (by decide) fl_X7_21 rfl rfl (dt dtX7_openPairs_0 25 rfl) ?_
      refine j_get hG cl_X3 3 1 (cv_3 _ _ _ _) (by decide) fl_X7_157 rfl rfl (dt dtX7_openPairs_0 26 rfl) ?_
      refine j_iload_n hG 3 (dt dtX7_openPairs_0 27 rfl) rfl rfl ?_
      refine j_zald hG 4 (cv_4 _ _ _ _) h (dt dtX7_openPairs_0 28 rfl) (fun v50 h => ?_)
      refine j_if_eq hG (tgt := 58) (dt dtX7_openPairs_0 29 rfl) (by decide) h (fun h => ?_) (fun h => ?_)
      · refine j_iconst hG (v := 0) (dt dtX7_openPairs_0 32 rfl) (by decide) ?_
        exact g_f_X7_openPairs_59 hG hE hT hk4 hk19 h
      · exact g_f_X7_openPairs_54 hG hE hT hk4 hk19 h
    · exact g_f_X7_openPairs_54 hG hE hT hk4 hk19 h
  · refine j_iincB hG 2 (fun v89 => [(2, .int (v89)), (0, .ref (wad (gB G) 0)), (1, .int (l1)), (3, .int (l3))]) (dt dtX7_openPairs_0 46 rfl) rfl rfl (by decide) (fun _ => rfl) h (fun v89 h => ?_)
    refine j_goto hG (tgt := 4) (dt dtX7_openPairs_0 47 rfl) (by decide) ?_
    refine j_lv (lv' := [(0, .ref (wad (gB G) 0)), (1, .int (l1)), (2, .int (v89))]) [1, 2, 0] rfl ?_
    exact hk4 l1 v89 h
set_option maxRecDepth 4000 in
theorem g_f_X7_openPairs_19 {G : wG} (hG : wOk G RX7 cX7_openPairs 5 3 70) {X : wM} {Y : wM} {o : Int64} {dd : UInt64} {td : wX} {res : (Int32)} (hE : wEnd G (some .int) (rp (some (.int (res))) (X, Y, o, dd, td)) xp0) (hT : wNoTab G) {k4 : Int32 → Int32 → Option (Int32)} (hk4 : ∀ (l1 : Int32) (l2 : Int32), k4 l1 l2 = some res → J G 5 0 0 4 [(0, .ref (wad (gB G) 0)), (1, .int (l1)), (2, .int (l2))] [] (X, Y, o, dd, td)) (n : Nat) : ∀ (l1 : Int32) (l2 : Int32) (l3 : Int32), f_X7_openPairs_19 k4 X n l1 l2 l3 = some res → J G 5 0 0 19 [(0, .ref (wad (gB G) 0)), (1, .int (l1)), (2, .int (l2)), (3, .int (l3))] [] (X, Y, o, dd, td) := by
  induction n with
  | zero => intro l1 l2 l3 h; cases h
  | succ n ih =>
    intro l1 l2 l3 h
    exact g_f_X7_openPairs_19b hG hE hT hk4 ih h
set_option maxRecDepth 4000 in
theorem g_f_X7_openPairs_4b {G : wG} (hG : wOk G RX7 cX7_openPairs 5 3 70) {X Y : wM} {o : Int64} {dd : UInt64} {td : wX} {res : (Int32)} (hE : wEnd G (some .int) (rp (some (.int (res))) (X, Y, o, dd, td)) xp0) (hT : wNoTab G) {k4 : Int32 → Int32 → Option (Int32)} (hk4 : ∀ (l1 : Int32) (l2 : Int32), k4 l1 l2 = some res → J G 5 0 0 4 [(0, .ref (wad (gB G) 0)), (1, .int (l1)), (2, .int (l2))] [] (X, Y, o, dd, td)) {l1 : Int32} {l2 : Int32} (h : f_X7_openPairs_4b k4 X l1 l2 = some res) : J G 5 0 0 4 [(0, .ref (wad (gB G) 0)), (1, .int (l1)), (2, .int (l2))] [] (X, Y, o, dd, td) := by
  unfold f_X7_openPairs_4b at h
  refine j_iload_n hG 2 (dt dtX7_openPairs_0 4 rfl) rfl rfl ?_
  refine j_aload_n hG 0 (dt dtX7_openPairs_0 5 rfl) rfl rfl ?_
  refine j_get hG cl_X7 0 1 (cv_0 _ _ _ _) (by decide) fl_X7_21 rfl rfl (dt dtX7_openPairs_0 6 rfl) ?_
  refine j_get hG cl_X3 3 5 (cv_3 _ _ _ _) (by decide) fl_X7_124 rfl rfl (dt dtX7_openPairs_0 7 rfl) ?_
  refine j_icmp_ge hG (tgt := 95) (dt dtX7_openPairs_0 8 rfl) (by decide) h (fun h => ?_) (fun h => ?_)
  · refine j_iload_n hG 2 (dt dtX7_openPairs_0 9 rfl) rfl rfl ?_
    refine j_iconst hG (v := 1) (dt dtX7_openPairs_0 10 rfl) (by decide) ?_
    refine j_iadd hG (dt dtX7_openPairs_0 11 rfl) ?_
    refine j_istoreB_n hG (fun v18 => [(3, .int (v18)), (0, .ref (wad (gB G) 0)), (1, .int (l1)), (2, .int (l2))]) (dt dtX7_openPairs_0 12 rfl) rfl (by decide) (fun _ => rfl) h (fun v18 h => ?_)
    refine j_lv (lv' := [(0, .ref (wad (gB G) 0)), (1, .int (l1)), (2, .int (l2)), (3, .int (v18))]) [1, 2, 3, 0] rfl ?_
    exact g_f_X7_openPairs_19 hG hE hT hk4 1000 l1 l2 v18 h
  · refine j_iload_n hG 1 (dt dtX7_openPairs_0 48 rfl) rfl rfl ?_
    obtain rfl := Option.some.inj h
    exact j_iret hG hE ⟨rfl, rfl⟩ (dt dtX7_openPairs_0 49 rfl)
set_option maxRecDepth 4000 in
theorem g_f_X7_openPairs_4 {G : wG} (hG : wOk G RX7 cX7_openPairs 5 3 70) {X : wM} {Y : wM} {o : Int64} {dd : UInt64} {td : wX} {res : (Int32)} (hE : wEnd G (some .int) (rp (some (.int (res))) (X, Y, o, dd, td)) xp0) (hT : wNoTab G) (n : Nat) : ∀ (l1 : Int32) (l2 : Int32), f_X7_openPairs_4 X n l1 l2 = some res → J G 5 0 0 4 [(0, .ref (wad (gB G) 0)), (1, .int (l1)), (2, .int (l2))] [] (X, Y, o, dd, td) := by
  induction n with
  | zero => intro l1 l2 h; cases h
  | succ n ih =>
    intro l1 l2 h
    exact g_f_X7_openPairs_4b hG hE hT ih h
set_option maxRecDepth 4000 in
theorem g_f_X7_openPairs {G : wG} (hG : wOk G RX7 cX7_openPairs 5 3 70) {X Y : wM} {o : Int64} {dd : UInt64} {td : wX} {res : (Int32)} (hE : wEnd G (some .int) (rp (some (.int (res))) (X, Y, o, dd, td)) xp0) (hT : wNoTab G) (h : f_X7_openPairs X = some res) : J G 5 0 0 0 [(0, .ref (wad (gB G) 0))] [] (X, Y, o, dd, td) := by
  unfold f_X7_openPairs at h
  refine j_iconst hG (v := 0) (dt dtX7_openPairs_0 0 rfl) (by decide) ?_
  refine j_istore_n hG (lv' := [(1, .int (0)), (0, .ref (wad (gB G) 0))]) (dt dtX7_openPairs_0 1 rfl) rfl (by decide) rfl ?_
  refine j_iconst hG (v := 0) (dt dtX7_openPairs_0 2 rfl) (by decide) ?_
  refine j_istore_n hG (lv' := [(2, .int (0)), (1, .int (0)), (0, .ref (wad (gB G) 0))]) (dt dtX7_openPairs_0 3 rfl) rfl (by decide) rfl ?_
  refine j_lv (lv' := [(0, .ref (wad (gB G) 0)), (1, .int (0)), (2, .int (0))]) [2, 1, 0] rfl ?_
  exact g_f_X7_openPairs_4 hG hE hT 1000 (0 : Int32) (0 : Int32) h
theorem ct_X7_openPairs {l : Launch} (hl : l.stackTraces = false) (B : wB) (X Y : wM) (o : Int64) (dd : UInt64) (td : wX) {res : (Int32)} (h : f_X7_openPairs X = some res) : wMet l B yX7_openPairs cX7_openPairs 5 (some .int) 3 70 0 0 [.ref (wad B 0)] (X, Y, o, dd, td) (rp (some (.int (res))) (X, Y, o, dd, td)) xp0 :=
  wMet.of hl (by decide +kernel) (Nat.le_of_ble_eq_true rfl) (fun G hB hL hG hE hT => by subst hB; exact g_f_X7_openPairs hG hE hT h)
def f_X7_isDouble (X : wM) (a1 : Int32) : Option ((Nat) ⊕ (Int32)) :=
  wthr (f_X7_needRecord X a1) (fun e => some (.inl e)) fun y2 =>
  wget 40 (X 11) a1 fun v13 =>
  wgd (wokN .boolean v13) (some (.inr v13))
set_option maxRecDepth 4000 in
theorem g_f_X7_isDouble {G : wG} (hG : wOk G RX7 cX7_isDouble 2 7 111) {X Y : wM} {o : Int64} {dd : UInt64} {td : wX} {res : ((Nat) ⊕ (Int32))} (hE : wEnd G (some .boolean) (rpS res (fun z => rp (some (.int (z))) (X, Y, o, dd, td))) (xpS res (fun e E σ1 => E = exn e ∧ σ1 = (X, Y, o, dd, td)))) (hT : wNoTab G) {a1 : Int32} (h : f_X7_isDouble X a1 = some res) : J G 2 1 6 0 [(0, .ref (wad (gB G) 0)), (1, .int (a1))] [] (X, Y, o, dd, td) := by
  unfold f_X7_isDouble at h
  refine j_aload_n hG 0 (dt dtX7_isDouble_0 0 rfl) rfl rfl ?_
  refine j_iload_n hG 1 (dt dtX7_isDouble_0 1 rfl) rfl rfl ?_
  refine j_callVt hG h (V := fun y2 => none) (S := fun y2 => (X, Y, o, dd, td)) (E0 := fun e => exn e) (S0 := fun e => (X, Y, o, dd, td)) (kc := 0) (ks := 0) (fun z hz => ct_X7_needRecord hG.2.2.1 (gB G) _ _ _ _ _ hz) mf_X7_needRecord ml_X7_170 0 (cv_0 _ _ _ _) rfl rfl (rest := []) rfl (Nat.le_of_ble_eq_true rfl) (dt dtX7_isDouble_0 2 rfl) (by decide) (by decide) (fun y2 h => ?_) (fun e h => ?_)
  · refine j_aload_n hG 0 (dt dtX7_isDouble_0 3 rfl) rfl rfl ?_
    refine j_get hG cl_X7 0 3 (cv_0 _ _ _ _) (by decide) fl_X7_39 rfl rfl (dt dtX7_isDouble_0 4 rfl) ?_
    refine j_get hG cl_X6 10 2 (cv_10 _ _ _ _) (by decide) fl_X7_183 rfl rfl (dt dtX7_isDouble_0 5 rfl) ?_
    refine j_iload_n hG 1 (dt dtX7_isDouble_0 6 rfl) rfl rfl ?_
    refine j_zald hG 11 (cv_11 _ _ _ _) h (dt dtX7_isDouble_0 7 rfl) (fun v13 h => ?_)
    obtain ⟨c14, h⟩ := wgd_ok h
    obtain rfl := Option.some.inj h
    exact j_zret hG hE (wokN_ok c14) ⟨_, rfl, rfl, rfl⟩ (dt dtX7_isDouble_0 8 rfl)
  · obtain rfl := Option.some.inj h
    exact jx_out hG hE hT ⟨_, rfl, rfl, rfl⟩
theorem ct_X7_isDouble {l : Launch} (hl : l.stackTraces = false) (B : wB) (X Y : wM) (o : Int64) (dd : UInt64) (td : wX) {a1 : Int32} {res : ((Nat) ⊕ (Int32))} (h : f_X7_isDouble X a1 = some res) : wMet l B yX7_isDouble cX7_isDouble 2 (some .boolean) 7 111 1 6 [.ref (wad B 0), .int (a1)] (X, Y, o, dd, td) (rpS res (fun z => rp (some (.int (z))) (X, Y, o, dd, td))) (xpS res (fun e E σ1 => E = exn e ∧ σ1 = (X, Y, o, dd, td))) :=
  wMet.of hl (by decide +kernel) (Nat.le_of_ble_eq_true rfl) (fun G hB hL hG hE hT => by subst hB; exact g_f_X7_isDouble hG hE hT h)
def f_X7_matchOf (X : wM) (a1 : Int32) : Option ((Nat) ⊕ (Int32)) :=
  wthr (f_X7_needRecord X a1) (fun e => some (.inl e)) fun y2 =>
  wget 40 (X 17) a1 fun v13 =>
  (if v13 = (-1) then some (.inl 0)
  else wget 40 (X 17) a1 fun v36 =>
  some (.inr v36))
set_option maxRecDepth 4000 in
theorem g_f_X7_matchOf {G : wG} (hG : wOk G RX7 cX7_matchOf 2 7 111) {X Y : wM} {o : Int64} {dd : UInt64} {td : wX} {res : ((Nat) ⊕ (Int32))} (hE : wEnd G (some .int) (rpS res (fun z => rp (some (.int (z))) (X, Y, o, dd, td))) (xpS res (fun e E σ1 => E = exn e ∧ σ1 = (X, Y, o, dd, td)))) (hT : wNoTab G) {a1 : Int32} (h : f_X7_matchOf X a1 = some res) : J G 2 2 12 0 [(0, .ref (wad (gB G) 0)), (1, .int (a1))] [] (X, Y, o, dd, td) := by
  unfold f_X7_matchOf at h
  refine j_aload_n hG 0 (dt dtX7_matchOf_0 0 rfl) rfl rfl ?_
  refine j_iload_n hG 1 (dt dtX7_matchOf_0 1 rfl) rfl rfl ?_
  refine j_callVt hG h (V := fun y2 => none) (S := fun y2 => (X, Y, o, dd, td)) (E0 := fun e => exn e) (S0 := fun e => (X, Y, o, dd, td)) (kc := 1) (ks := 6) (fun z hz => ct_X7_needRecord hG.2.2.1 (gB G) _ _ _ _ _ hz) mf_X7_needRecord ml_X7_170 0 (cv_0 _ _ _ _) rfl rfl (rest := []) rfl (Nat.le_of_ble_eq_true rfl) (dt dtX7_matchOf_0 2 rfl) (by decide) (by decide) (fun y2 h => ?_) (fun e h => ?_)
  · refine j_aload_n hG 0 (dt dtX7_matchOf_0 3 rfl) rfl rfl ?_
    refine j_get hG cl_X7 0 5 (cv_0 _ _ _ _) (by decide) fl_X7_51 rfl rfl (dt dtX7_matchOf_0 4 rfl) ?_
    refine j_get hG cl_X2 16 3 (cv_16 _ _ _ _) (by decide) fl_X7_186 rfl rfl (dt dtX7_matchOf_0 5 rfl) ?_
    refine j_iload_n hG 1 (dt dtX7_matchOf_0 6 rfl) rfl rfl ?_
    refine j_iald hG 17 (cv_17 _ _ _ _) h (dt dtX7_matchOf_0 7 rfl) (fun v13 h => ?_)
    refine j_iconst hG (v := (-1)) (dt dtX7_matchOf_0 8 rfl) (by decide) ?_
    refine j_icmp_ne hG (tgt := 28) (dt dtX7_matchOf_0 9 rfl) (by decide) h (fun h => ?_) (fun h => ?_)
    · obtain rfl := Option.some.inj h
      exact j_throwS hG hE hT tf_X7_68_189_72 (dt dtX7_matchOf_0 10 rfl) (dt dtX7_matchOf_0 11 rfl) (dt dtX7_matchOf_0 12 rfl) (dt dtX7_matchOf_0 13 rfl) (dt dtX7_matchOf_0 14 rfl) (by decide) (by decide) ⟨_, rfl, rfl, rfl⟩
    · refine J.weak (kc := 0) (ks := 0) (by decide) (by decide) ?_
      refine j_aload_n hG 0 (dt dtX7_matchOf_0 15 rfl) rfl rfl ?_
      refine j_get hG cl_X7 0 5 (cv_0 _ _ _ _) (by decide) fl_X7_51 rfl rfl (dt dtX7_matchOf_0 16 rfl) ?_
      refine j_get hG cl_X2 16 3 (cv_16 _ _ _ _) (by decide) fl_X7_186 rfl rfl (dt dtX7_matchOf_0 17 rfl) ?_
      refine j_iload_n hG 1 (dt dtX7_matchOf_0 18 rfl) rfl rfl ?_
      refine j_iald hG 17 (cv_17 _ _ _ _) h (dt dtX7_matchOf_0 19 rfl) (fun v36 h => ?_)
      obtain rfl := Option.some.inj h
      exact j_iret hG hE ⟨_, rfl, rfl, rfl⟩ (dt dtX7_matchOf_0 20 rfl)
  · obtain rfl := Option.some.inj h
    exact jx_out hG hE hT ⟨_, rfl, rfl, rfl⟩
theorem ct_X7_matchOf {l : Launch} (hl : l.stackTraces = false) (B : wB) (X Y : wM) (o : Int64) (dd : UInt64) (td : wX) {a1 : Int32} {res : ((Nat) ⊕ (Int32))} (h : f_X7_matchOf X a1 = some res) : wMet l B yX7_matchOf cX7_matchOf 2 (some .int) 7 111 2 12 [.ref (wad B 0), .int (a1)] (X, Y, o, dd, td) (rpS res (fun z => rp (some (.int (z))) (X, Y, o, dd, td))) (xpS res (fun e E σ1 => E = exn e ∧ σ1 = (X, Y, o, dd, td))) :=
  wMet.of hl (by decide +kernel) (Nat.le_of_ble_eq_true rfl) (fun G hB hL hG hE hT => by subst hB; exact g_f_X7_matchOf hG hE hT h)
def f_X7_matches (X : wM) : Option (Int32) :=
  some (X 16 8)
set_option maxRecDepth 4000 in
theorem g_f_X7_matches {G : wG} (hG : wOk G RX7 cX7_matches 1 0 0) {X Y : wM} {o : Int64} {dd : UInt64} {td : wX} {res : (Int32)} (hE : wEnd G (some .int) (rp (some (.int (res))) (X, Y, o, dd, td)) xp0) (hT : wNoTab G) (h : f_X7_matches X = some res) : J G 1 0 0 0 [(0, .ref (wad (gB G) 0))] [] (X, Y, o, dd, td) := by
  unfold f_X7_matches at h
  refine j_aload_n hG 0 (dt dtX7_matches_0 0 rfl) rfl rfl ?_
  refine j_get hG cl_X7 0 5 (cv_0 _ _ _ _) (by decide) fl_X7_51 rfl rfl (dt dtX7_matches_0 1 rfl) ?_
  refine j_get hG cl_X2 16 8 (cv_16 _ _ _ _) (by decide) fl_X7_191 rfl rfl (dt dtX7_matches_0 2 rfl) ?_
  obtain rfl := Option.some.inj h
  exact j_iret hG hE ⟨rfl, rfl⟩ (dt dtX7_matches_0 3 rfl)
theorem ct_X7_matches {l : Launch} (hl : l.stackTraces = false) (B : wB) (X Y : wM) (o : Int64) (dd : UInt64) (td : wX) {res : (Int32)} (h : f_X7_matches X = some res) : wMet l B yX7_matches cX7_matches 1 (some .int) 0 0 0 0 [.ref (wad B 0)] (X, Y, o, dd, td) (rp (some (.int (res))) (X, Y, o, dd, td)) xp0 :=
  wMet.of hl (by decide +kernel) (Nat.le_of_ble_eq_true rfl) (fun G hB hL hG hE hT => by subst hB; exact g_f_X7_matches hG hE hT h)
def f_X7_needGroup_9 : Option ((Nat) ⊕ (Unit)) :=
  some (.inl 1)
def f_X7_needGroup (a1 : Int32) : Option ((Nat) ⊕ (Unit)) :=
  (if a1 < 0 then f_X7_needGroup_9
  else (if a1 < 4 then some (.inr ())
  else f_X7_needGroup_9))
set_option maxRecDepth 4000 in
theorem g_f_X7_needGroup_9 {G : wG} (hG : wOk G RX7 cX7_needGroup 2 6 90) {X Y : wM} {o : Int64} {dd : UInt64} {td : wX} {res : ((Nat) ⊕ (Unit))} (hE : wEnd G none (rpS res (fun z => rp none (X, Y, o, dd, td))) (xpS res (fun e E σ1 => E = exn e ∧ σ1 = (X, Y, o, dd, td)))) (hT : wNoTab G) (h : f_X7_needGroup_9 = some res) : J G 2 1 6 9 [] [] (X, Y, o, dd, td) := by
  unfold f_X7_needGroup_9 at h
  obtain rfl := Option.some.inj h
  exact j_throwSW hG hE hT tf_X7_112_317_116 (dt dtX7_needGroup_0 5 rfl) (dt dtX7_needGroup_0 6 rfl) (dt dtX7_needGroup_0 7 rfl) (dt dtX7_needGroup_0 8 rfl) (dt dtX7_needGroup_0 9 rfl) (by decide) (by decide) ⟨_, rfl, rfl, rfl⟩
set_option maxRecDepth 4000 in
theorem g_f_X7_needGroup {G : wG} (hG : wOk G RX7 cX7_needGroup 2 6 90) {X Y : wM} {o : Int64} {dd : UInt64} {td : wX} {res : ((Nat) ⊕ (Unit))} (hE : wEnd G none (rpS res (fun z => rp none (X, Y, o, dd, td))) (xpS res (fun e E σ1 => E = exn e ∧ σ1 = (X, Y, o, dd, td)))) (hT : wNoTab G) {a1 : Int32} (h : f_X7_needGroup a1 = some res) : J G 2 1 6 0 [(0, .ref (wad (gB G) 0)), (1, .int (a1))] [] (X, Y, o, dd, td) := by
  unfold f_X7_needGroup at h
  refine j_iload_n hG 1 (dt dtX7_needGroup_0 0 rfl) rfl rfl ?_
  refine j_if_lt hG (tgt := 9) (dt dtX7_needGroup_0 1 rfl) (by decide) h (fun h => ?_) (fun h => ?_)
  · refine j_lv (lv' := []) [] rfl ?_
    exact g_f_X7_needGroup_9 hG hE hT h
  · refine j_iload_n hG 1 (dt dtX7_needGroup_0 2 rfl) rfl rfl ?_
    refine j_iconst hG (v := 4) (dt dtX7_needGroup_0 3 rfl) (by decide) ?_
    refine j_icmp_lt hG (tgt := 20) (dt dtX7_needGroup_0 4 rfl) (by decide) h (fun h => ?_) (fun h => ?_)
    · refine J.weak (kc := 0) (ks := 0) (by decide) (by decide) ?_
      obtain rfl := Option.some.inj h
      exact j_vret hG hE ⟨_, rfl, rfl, rfl⟩ (dt dtX7_needGroup_0 10 rfl)
    · refine j_lv (lv' := []) [] rfl ?_
      exact g_f_X7_needGroup_9 hG hE hT h
theorem ct_X7_needGroup {l : Launch} (hl : l.stackTraces = false) (B : wB) (X Y : wM) (o : Int64) (dd : UInt64) (td : wX) {a1 : Int32} {res : ((Nat) ⊕ (Unit))} (h : f_X7_needGroup a1 = some res) : wMet l B yX7_needGroup cX7_needGroup 2 none 6 90 1 6 [.ref (wad B 0), .int (a1)] (X, Y, o, dd, td) (rpS res (fun z => rp none (X, Y, o, dd, td))) (xpS res (fun e E σ1 => E = exn e ∧ σ1 = (X, Y, o, dd, td))) :=
  wMet.of hl (by decide +kernel) (Nat.le_of_ble_eq_true rfl) (fun G hB hL hG hE hT => by subst hB; exact g_f_X7_needGroup hG hE hT h)
def f_X7_count (X : wM) (a1 : Int32) (a2 : Int32) : Option ((Nat) ⊕ (Int32)) :=
  wthr (f_X7_needBlock X a1) (fun e => some (.inl e)) fun y2 =>
  wthr (f_X7_needGroup a2) (fun e => some (.inl e)) fun y7 =>
  wget 24 (X 12) ((a1 * 4) + a2) fun v22 =>
  some (.inr v22)
set_option maxRecDepth 4000 in
theorem g_f_X7_count {G : wG} (hG : wOk G RX7 cX7_count 3 7 111) {X Y : wM} {o : Int64} {dd : UInt64} {td : wX} {res : ((Nat) ⊕ (Int32))} (hE : wEnd G (some .int) (rpS res (fun z => rp (some (.int (z))) (X, Y, o, dd, td))) (xpS res (fun e E σ1 => E = exn e ∧ σ1 = (X, Y, o, dd, td)))) (hT : wNoTab G) {a1 : Int32} {a2 : Int32} (h : f_X7_count X a1 a2 = some res) : J G 3 2 12 0 [(0, .ref (wad (gB G) 0)), (1, .int (a1)), (2, .int (a2))] [] (X, Y, o, dd, td) := by
  unfold f_X7_count at h
  refine j_aload_n hG 0 (dt dtX7_count_0 0 rfl) rfl rfl ?_
  refine j_iload_n hG 1 (dt dtX7_count_0 1 rfl) rfl rfl ?_
  refine j_callVt hG h (V := fun y2 => none) (S := fun y2 => (X, Y, o, dd, td)) (E0 := fun e => exn e) (S0 := fun e => (X, Y, o, dd, td)) (kc := 1) (ks := 6) (fun z hz => ct_X7_needBlock hG.2.2.1 (gB G) _ _ _ _ _ hz) mf_X7_needBlock ml_X7_82 0 (cv_0 _ _ _ _) rfl rfl (rest := []) rfl (Nat.le_of_ble_eq_true rfl) (dt dtX7_count_0 2 rfl) (by decide) (by decide) (fun y2 h => ?_) (fun e h => ?_)
  · refine j_aload_n hG 0 (dt dtX7_count_0 3 rfl) rfl rfl ?_
    refine j_iload_n hG 2 (dt dtX7_count_0 4 rfl) rfl rfl ?_
    refine j_callVt hG h (V := fun y7 => none) (S := fun y7 => (X, Y, o, dd, td)) (E0 := fun e => exn e) (S0 := fun e => (X, Y, o, dd, td)) (kc := 0) (ks := 0) (fun z hz => ct_X7_needGroup hG.2.2.1 (gB G) _ _ _ _ _ hz) mf_X7_needGroup ml_X7_192 0 (cv_0 _ _ _ _) rfl rfl (rest := []) rfl (Nat.le_of_ble_eq_true rfl) (dt dtX7_count_0 5 rfl) (by decide) (by decide) (fun y7 h => ?_) (fun e h => ?_)
    · refine j_aload_n hG 0 (dt dtX7_count_0 6 rfl) rfl rfl ?_
      refine j_get hG cl_X7 0 3 (cv_0 _ _ _ _) (by decide) fl_X7_39 rfl rfl (dt dtX7_count_0 7 rfl) ?_
      refine j_get hG cl_X6 10 3 (cv_10 _ _ _ _) (by decide) fl_X7_195 rfl rfl (dt dtX7_count_0 8 rfl) ?_
      refine j_iload_n hG 1 (dt dtX7_count_0 9 rfl) rfl rfl ?_
      refine j_iconst hG (v := 4) (dt dtX7_count_0 10 rfl) (by decide) ?_
      refine j_imul hG (dt dtX7_count_0 11 rfl) ?_
      refine j_iload_n hG 2 (dt dtX7_count_0 12 rfl) rfl rfl ?_
      refine j_iadd hG (dt dtX7_count_0 13 rfl) ?_
      refine j_iald hG 12 (cv_12 _ _ _ _) h (dt dtX7_count_0 14 rfl) (fun v22 h => ?_)
      obtain rfl := Option.some.inj h
      exact j_iret hG hE ⟨_, rfl, rfl, rfl⟩ (dt dtX7_count_0 15 rfl)
    · obtain rfl := Option.some.inj h
      exact jx_out hG hE hT ⟨_, rfl, rfl, rfl⟩
  · obtain rfl := Option.some.inj h
    exact jx_out hG hE hT ⟨_, rfl, rfl, rfl⟩
theorem ct_X7_count {l : Launch} (hl : l.stackTraces = false) (B : wB) (X Y : wM) (o : Int64) (dd : UInt64) (td : wX) {a1 : Int32} {a2 : Int32} {res : ((Nat) ⊕ (Int32))} (h : f_X7_count X a1 a2 = some res) : wMet l B yX7_count cX7_count 3 (some .int) 7 111 2 12 [.ref (wad B 0), .int (a1), .int (a2)] (X, Y, o, dd, td) (rpS res (fun z => rp (some (.int (z))) (X, Y, o, dd, td))) (xpS res (fun e E σ1 => E = exn e ∧ σ1 = (X, Y, o, dd, td))) :=
  wMet.of hl (by decide +kernel) (Nat.le_of_ble_eq_true rfl) (fun G hB hL hG hE hT => by subst hB; exact g_f_X7_count hG hE hT h)
def f_X7_countAnew (X : wM) (a1 : Int32) (a2 : Int32) : Option ((Nat × wM) ⊕ (Int32 × wM)) :=
  wthr (f_X7_needBlock X a1) (fun e => some (.inl (e, X))) fun y2 =>
  wthr (f_X7_needGroup a2) (fun e => some (.inl (e, X))) fun y7 =>
  (f_X6_renew_13 X).bind fun y14 =>
  wget 24 (y14 15) ((a1 * 4) + a2) fun v29 =>
  some (.inr (v29, y14))
set_option maxRecDepth 4000 in
theorem g_f_X7_countAnew {G : wG} (hG : wOk G RX7 cX7_countAnew 3 7 113) {X Y : wM} {o : Int64} {dd : UInt64} {td : wX} {res : ((Nat × wM) ⊕ (Int32 × wM))} (hE : wEnd G (some .int) (rpS res (fun z => rp (some (.int (z.1))) (z.2, Y, o, dd, td))) (xpS res (fun e E σ1 => E = exn e.1 ∧ σ1 = (e.2, Y, o, dd, td)))) (hT : wNoTab G) {a1 : Int32} {a2 : Int32} (h : f_X7_countAnew X a1 a2 = some res) : J G 3 2 12 0 [(0, .ref (wad (gB G) 0)), (1, .int (a1)), (2, .int (a2))] [] (X, Y, o, dd, td) := by
  unfold f_X7_countAnew at h
  refine j_aload_n hG 0 (dt dtX7_countAnew_0 0 rfl) rfl rfl ?_
  refine j_iload_n hG 1 (dt dtX7_countAnew_0 1 rfl) rfl rfl ?_
  refine j_callVt hG h (V := fun y2 => none) (S := fun y2 => (X, Y, o, dd, td)) (E0 := fun e => exn e) (S0 := fun e => (X, Y, o, dd, td)) (kc := 1) (ks := 6) (fun z hz => ct_X7_needBlock hG.2.2.1 (gB G) _ _ _ _ _ hz) mf_X7_needBlock ml_X7_82 0 (cv_0 _ _ _ _) rfl rfl (rest := []) rfl (Nat.le_of_ble_eq_true rfl) (dt dtX7_countAnew_0 2 rfl) (by decide) (by decide) (fun y2 h => ?_) (fun e h => ?_)
  · refine j_aload_n hG 0 (dt dtX7_countAnew_0 3 rfl) rfl rfl ?_
    refine j_iload_n hG 2 (dt dtX7_countAnew_0 4 rfl) rfl rfl ?_
    refine j_callVt hG h (V := fun y7 => none) (S := fun y7 => (X, Y, o, dd, td)) (E0 := fun e => exn e) (S0 := fun e => (X, Y, o, dd, td)) (kc := 0) (ks := 0) (fun z hz => ct_X7_needGroup hG.2.2.1 (gB G) _ _ _ _ _ hz) mf_X7_needGroup ml_X7_192 0 (cv_0 _ _ _ _) rfl rfl (rest := []) rfl (Nat.le_of_ble_eq_true rfl) (dt dtX7_countAnew_0 5 rfl) (by decide) (by decide) (fun y7 h => ?_) (fun e h => ?_)
    · refine j_aload_n hG 0 (dt dtX7_countAnew_0 6 rfl) rfl rfl ?_
      refine j_get hG cl_X7 0 4 (cv_0 _ _ _ _) (by decide) fl_X7_43 rfl rfl (dt dtX7_countAnew_0 7 rfl) ?_
      refine j_callVp hG h (V := fun y14 => none) (S := fun y14 => (y14, Y, o, dd, td)) (kc := 0) (ks := 0) (fun z hz => ct_X6_renew_13 hG.2.2.1 (gB G) _ _ _ _ _ hz) mf_X6_renew ml_X7_198 13 (cv_13 _ _ _ _) rfl rfl (rest := []) rfl (Nat.le_of_ble_eq_true rfl) (dt dtX7_countAnew_0 8 rfl) (by decide) (by decide) (fun y14 h => ?_)
      refine j_aload_n hG 0 (dt dtX7_countAnew_0 9 rfl) rfl rfl ?_
      refine j_get hG cl_X7 0 4 (cv_0 _ _ _ _) (by decide) fl_X7_43 rfl rfl (dt dtX7_countAnew_0 10 rfl) ?_
      refine j_get hG cl_X6 13 3 (cv_13 _ _ _ _) (by decide) fl_X7_195 rfl rfl (dt dtX7_countAnew_0 11 rfl) ?_
      refine j_iload_n hG 1 (dt dtX7_countAnew_0 12 rfl) rfl rfl ?_
      refine j_iconst hG (v := 4) (dt dtX7_countAnew_0 13 rfl) (by decide) ?_
      refine j_imul hG (dt dtX7_countAnew_0 14 rfl) ?_
      refine j_iload_n hG 2 (dt dtX7_countAnew_0 15 rfl) rfl rfl ?_
      refine j_iadd hG (dt dtX7_countAnew_0 16 rfl) ?_
      refine j_iald hG 15 (cv_15 _ _ _ _) h (dt dtX7_countAnew_0 17 rfl) (fun v29 h => ?_)
      obtain rfl := Option.some.inj h
      exact j_iret hG hE ⟨_, rfl, rfl, rfl⟩ (dt dtX7_countAnew_0 18 rfl)
    · obtain rfl := Option.some.inj h
      exact jx_out hG hE hT ⟨_, rfl, rfl, rfl⟩
  · obtain rfl := Option.some.inj h
    exact jx_out hG hE hT ⟨_, rfl, rfl, rfl⟩
theorem ct_X7_countAnew {l : Launch} (hl : l.stackTraces = false) (B : wB) (X Y : wM) (o : Int64) (dd : UInt64) (td : wX) {a1 : Int32} {a2 : Int32} {res : ((Nat × wM) ⊕ (Int32 × wM))} (h : f_X7_countAnew X a1 a2 = some res) : wMet l B yX7_countAnew cX7_countAnew 3 (some .int) 7 113 2 12 [.ref (wad B 0), .int (a1), .int (a2)] (X, Y, o, dd, td) (rpS res (fun z => rp (some (.int (z.1))) (z.2, Y, o, dd, td))) (xpS res (fun e E σ1 => E = exn e.1 ∧ σ1 = (e.2, Y, o, dd, td))) :=
  wMet.of hl (by decide +kernel) (Nat.le_of_ble_eq_true rfl) (fun G hB hL hG hE hT => by subst hB; exact g_f_X7_countAnew hG hE hT h)
def f_X7_estimate (X : wM) : Option ((Nat) ⊕ (Int64)) :=
  (if (X 16 8) = 0 then some (.inl 3)
  else wbd (((X 3 5) - (X 10 4)) - (X 10 5)) fun v43 =>
  wgd (decide (¬ ((X 16 8).toInt64) = 0)) (some (.inr ((((X 10 4).toInt64) * (v43.toInt64)) / ((X 16 8).toInt64)))))
set_option maxRecDepth 4000 in
theorem g_f_X7_estimate {G : wG} (hG : wOk G RX7 cX7_estimate 2 6 90) {X Y : wM} {o : Int64} {dd : UInt64} {td : wX} {res : ((Nat) ⊕ (Int64))} (hE : wEnd G (some .long) (rpS res (fun z => rp (some (.long (z))) (X, Y, o, dd, td))) (xpS res (fun e E σ1 => E = exn e ∧ σ1 = (X, Y, o, dd, td)))) (hT : wNoTab G) (h : f_X7_estimate X = some res) : J G 2 1 6 0 [(0, .ref (wad (gB G) 0))] [] (X, Y, o, dd, td) := by
  unfold f_X7_estimate at h
  refine j_aload_n hG 0 (dt dtX7_estimate_0 0 rfl) rfl rfl ?_
  refine j_get hG cl_X7 0 5 (cv_0 _ _ _ _) (by decide) fl_X7_51 rfl rfl (dt dtX7_estimate_0 1 rfl) ?_
  refine j_get hG cl_X2 16 8 (cv_16 _ _ _ _) (by decide) fl_X7_191 rfl rfl (dt dtX7_estimate_0 2 rfl) ?_
  refine j_if_ne hG (tgt := 20) (dt dtX7_estimate_0 3 rfl) (by decide) h (fun h => ?_) (fun h => ?_)
  · obtain rfl := Option.some.inj h
    exact j_throwS hG hE hT tf_X7_201_203_205 (dt dtX7_estimate_0 4 rfl) (dt dtX7_estimate_0 5 rfl) (dt dtX7_estimate_0 6 rfl) (dt dtX7_estimate_0 7 rfl) (dt dtX7_estimate_0 8 rfl) (by decide) (by decide) ⟨_, rfl, rfl, rfl⟩
  · refine J.weak (kc := 0) (ks := 0) (by decide) (by decide) ?_
    refine j_aload_n hG 0 (dt dtX7_estimate_0 9 rfl) rfl rfl ?_
    refine j_get hG cl_X7 0 1 (cv_0 _ _ _ _) (by decide) fl_X7_21 rfl rfl (dt dtX7_estimate_0 10 rfl) ?_
    refine j_get hG cl_X3 3 5 (cv_3 _ _ _ _) (by decide) fl_X7_124 rfl rfl (dt dtX7_estimate_0 11 rfl) ?_
    refine j_aload_n hG 0 (dt dtX7_estimate_0 12 rfl) rfl rfl ?_
    refine j_get hG cl_X7 0 3 (cv_0 _ _ _ _) (by decide) fl_X7_39 rfl rfl (dt dtX7_estimate_0 13 rfl) ?_
    refine j_get hG cl_X6 10 4 (cv_10 _ _ _ _) (by decide) fl_X7_206 rfl rfl (dt dtX7_estimate_0 14 rfl) ?_
    refine j_isub hG (dt dtX7_estimate_0 15 rfl) ?_
    refine j_aload_n hG 0 (dt dtX7_estimate_0 16 rfl) rfl rfl ?_
    refine j_get hG cl_X7 0 3 (cv_0 _ _ _ _) (by decide) fl_X7_39 rfl rfl (dt dtX7_estimate_0 17 rfl) ?_
    refine j_get hG cl_X6 10 5 (cv_10 _ _ _ _) (by decide) fl_X7_209 rfl rfl (dt dtX7_estimate_0 18 rfl) ?_
    refine j_isub hG (dt dtX7_estimate_0 19 rfl) ?_
    refine j_istoreB_n hG (fun v43 => [(1, .int (v43)), (0, .ref (wad (gB G) 0))]) (dt dtX7_estimate_0 20 rfl) rfl (by decide) (fun _ => rfl) h (fun v43 h => ?_)
    refine j_aload_n hG 1 (dt dtX7_estimate_0 21 rfl) rfl rfl ?_
    refine j_get hG cl_X7 0 3 (cv_0 _ _ _ _) (by decide) fl_X7_39 rfl rfl (dt dtX7_estimate_0 22 rfl) ?_
    refine j_get hG cl_X6 10 4 (cv_10 _ _ _ _) (by decide) fl_X7_206 rfl rfl (dt dtX7_estimate_0 23 rfl) ?_
    refine j_i2l hG (dt dtX7_estimate_0 24 rfl) ?_
    refine j_iload_n hG 0 (dt dtX7_estimate_0 25 rfl) rfl rfl ?_
    refine j_i2l hG (dt dtX7_estimate_0 26 rfl) ?_
    refine j_lmul hG (dt dtX7_estimate_0 27 rfl) ?_
    refine j_aload_n hG 1 (dt dtX7_estimate_0 28 rfl) rfl rfl ?_
    refine j_get hG cl_X7 0 5 (cv_0 _ _ _ _) (by decide) fl_X7_51 rfl rfl (dt dtX7_estimate_0 29 rfl) ?_
    refine j_get hG cl_X2 16 8 (cv_16 _ _ _ _) (by decide) fl_X7_191 rfl rfl (dt dtX7_estimate_0 30 rfl) ?_
    refine j_i2l hG (dt dtX7_estimate_0 31 rfl) ?_
    obtain ⟨c63, h⟩ := wgd_ok h
    refine j_ldiv hG (dt dtX7_estimate_0 32 rfl) (of_decide_eq_true c63) ?_
    obtain rfl := Option.some.inj h
    exact j_lret hG hE ⟨_, rfl, rfl, rfl⟩ (dt dtX7_estimate_0 33 rfl)
theorem ct_X7_estimate {l : Launch} (hl : l.stackTraces = false) (B : wB) (X Y : wM) (o : Int64) (dd : UInt64) (td : wX) {res : ((Nat) ⊕ (Int64))} (h : f_X7_estimate X = some res) : wMet l B yX7_estimate cX7_estimate 2 (some .long) 6 90 1 6 [.ref (wad B 0)] (X, Y, o, dd, td) (rpS res (fun z => rp (some (.long (z))) (X, Y, o, dd, td))) (xpS res (fun e E σ1 => E = exn e ∧ σ1 = (X, Y, o, dd, td))) :=
  wMet.of hl (by decide +kernel) (Nat.le_of_ble_eq_true rfl) (fun G hB hL hG hE hT => by subst hB; exact g_f_X7_estimate hG hE hT h)
def f_X7_doubleShare (X : wM) : Option ((Nat) ⊕ (UInt32)) :=
  wbd ((X 10 4) + (X 10 5)) fun v15 =>
  (if v15 = 0 then some (.inl 3)
  else wgd (wnn32 (FP.fdiv (FP.i2f (X 10 5)) (FP.i2f v15))) (some (.inr (FP.fdiv (FP.i2f (X 10 5)) (FP.i2f v15)))))
set_option maxRecDepth 4000 in
theorem g_f_X7_doubleShare {G : wG} (hG : wOk G RX7 cX7_doubleShare 2 6 90) {X Y : wM} {o : Int64} {dd : UInt64} {td : wX} {res : ((Nat) ⊕ (UInt32))} (hE : wEnd G (some .float) (rpS res (fun z => rp (some (.float (z))) (X, Y, o, dd, td))) (xpS res (fun e E σ1 => E = exn e ∧ σ1 = (X, Y, o, dd, td)))) (hT : wNoTab G) (h : f_X7_doubleShare X = some res) : J G 2 1 6 0 [(0, .ref (wad (gB G) 0))] [] (X, Y, o, dd, td) := by
  unfold f_X7_doubleShare at h
  refine j_aload_n hG 0 (dt dtX7_doubleShare_0 0 rfl) rfl rfl ?_
  refine j_get hG cl_X7 0 3 (cv_0 _ _ _ _) (by decide) fl_X7_39 rfl rfl (dt dtX7_doubleShare_0 1 rfl) ?_
  refine j_get hG cl_X6 10 4 (cv_10 _ _ _ _) (by decide) fl_X7_206 rfl rfl (dt dtX7_doubleShare_0 2 rfl) ?_
  refine j_aload_n hG 0 (dt dtX7_doubleShare_0 3 rfl) rfl rfl ?_
  refine j_get hG cl_X7 0 3 (cv_0 _ _ _ _) (by decide) fl_X7_39 rfl rfl (dt dtX7_doubleShare_0 4 rfl) ?_
  refine j_get hG cl_X6 10 5 (cv_10 _ _ _ _) (by decide) fl_X7_209 rfl rfl (dt dtX7_doubleShare_0 5 rfl) ?_
  refine j_iadd hG (dt dtX7_doubleShare_0 6 rfl) ?_
  refine j_istoreB_n hG (fun v15 => [(1, .int (v15)), (0, .ref (wad (gB G) 0))]) (dt dtX7_doubleShare_0 7 rfl) rfl (by decide) (fun _ => rfl) h (fun v15 h => ?_)
  refine j_iload_n hG 0 (dt dtX7_doubleShare_0 8 rfl) rfl rfl ?_
  refine j_if_ne hG (tgt := 30) (dt dtX7_doubleShare_0 9 rfl) (by decide) h (fun h => ?_) (fun h => ?_)
  · obtain rfl := Option.some.inj h
    exact j_throwS hG hE hT tf_X7_201_212_205 (dt dtX7_doubleShare_0 10 rfl) (dt dtX7_doubleShare_0 11 rfl) (dt dtX7_doubleShare_0 12 rfl) (dt dtX7_doubleShare_0 13 rfl) (dt dtX7_doubleShare_0 14 rfl) (by decide) (by decide) ⟨_, rfl, rfl, rfl⟩
  · refine J.weak (kc := 0) (ks := 0) (by decide) (by decide) ?_
    refine j_aload_n hG 1 (dt dtX7_doubleShare_0 15 rfl) rfl rfl ?_
    refine j_get hG cl_X7 0 3 (cv_0 _ _ _ _) (by decide) fl_X7_39 rfl rfl (dt dtX7_doubleShare_0 16 rfl) ?_
    refine j_get hG cl_X6 10 5 (cv_10 _ _ _ _) (by decide) fl_X7_209 rfl rfl (dt dtX7_doubleShare_0 17 rfl) ?_
    refine j_i2f hG (dt dtX7_doubleShare_0 18 rfl) ?_
    refine j_iload_n hG 0 (dt dtX7_doubleShare_0 19 rfl) rfl rfl ?_
    refine j_i2f hG (dt dtX7_doubleShare_0 20 rfl) ?_
    obtain ⟨c40, h⟩ := wgd_ok h
    refine j_fdiv hG (dt dtX7_doubleShare_0 21 rfl) (wnn32_ok c40) ?_
    obtain rfl := Option.some.inj h
    exact j_fret hG hE ⟨_, rfl, rfl, rfl⟩ (dt dtX7_doubleShare_0 22 rfl)
theorem ct_X7_doubleShare {l : Launch} (hl : l.stackTraces = false) (B : wB) (X Y : wM) (o : Int64) (dd : UInt64) (td : wX) {res : ((Nat) ⊕ (UInt32))} (h : f_X7_doubleShare X = some res) : wMet l B yX7_doubleShare cX7_doubleShare 2 (some .float) 6 90 1 6 [.ref (wad B 0)] (X, Y, o, dd, td) (rpS res (fun z => rp (some (.float (z))) (X, Y, o, dd, td))) (xpS res (fun e E σ1 => E = exn e ∧ σ1 = (X, Y, o, dd, td))) :=
  wMet.of hl (by decide +kernel) (Nat.le_of_ble_eq_true rfl) (fun G hB hL hG hE hT => by subst hB; exact g_f_X7_doubleShare hG hE hT h)
def f_X7_meanScore (X : wM) : Option ((Nat) ⊕ (UInt64)) :=
  (if (X 16 8) = 0 then some (.inl 3)
  else wgd (wnn64 (FP.ddiv (FP.i2d (X 16 9)) (FP.i2d (X 16 8)))) (some (.inr (FP.ddiv (FP.i2d (X 16 9)) (FP.i2d (X 16 8))))))
set_option maxRecDepth 4000 in
theorem g_f_X7_meanScore {G : wG} (hG : wOk G RX7 cX7_meanScore 1 6 90) {X Y : wM} {o : Int64} {dd : UInt64} {td : wX} {res : ((Nat) ⊕ (UInt64))} (hE : wEnd G (some .double) (rpS res (fun z => rp (some (.double (z))) (X, Y, o, dd, td))) (xpS res (fun e E σ1 => E = exn e ∧ σ1 = (X, Y, o, dd, td)))) (hT : wNoTab G) (h : f_X7_meanScore X = some res) : J G 1 1 6 0 [(0, .ref (wad (gB G) 0))] [] (X, Y, o, dd, td) := by
  unfold f_X7_meanScore at h
  refine j_aload_n hG 0 (dt dtX7_meanScore_0 0 rfl) rfl rfl ?_
  refine j_get hG cl_X7 0 5 (cv_0 _ _ _ _) (by decide) fl_X7_51 rfl rfl (dt dtX7_meanScore_0 1 rfl) ?_
  refine j_get hG cl_X2 16 8 (cv_16 _ _ _ _) (by decide) fl_X7_191 rfl rfl (dt dtX7_meanScore_0 2 rfl) ?_
  refine j_if_ne hG (tgt := 20) (dt dtX7_meanScore_0 3 rfl) (by decide) h (fun h => ?_) (fun h => ?_)
  · obtain rfl := Option.some.inj h
    exact j_throwS hG hE hT tf_X7_201_203_205 (dt dtX7_meanScore_0 4 rfl) (dt dtX7_meanScore_0 5 rfl) (dt dtX7_meanScore_0 6 rfl) (dt dtX7_meanScore_0 7 rfl) (dt dtX7_meanScore_0 8 rfl) (by decide) (by decide) ⟨_, rfl, rfl, rfl⟩
  · refine J.weak (kc := 0) (ks := 0) (by decide) (by decide) ?_
    refine j_aload_n hG 0 (dt dtX7_meanScore_0 9 rfl) rfl rfl ?_
    refine j_get hG cl_X7 0 5 (cv_0 _ _ _ _) (by decide) fl_X7_51 rfl rfl (dt dtX7_meanScore_0 10 rfl) ?_
    refine j_get hG cl_X2 16 9 (cv_16 _ _ _ _) (by decide) fl_X7_214 rfl rfl (dt dtX7_meanScore_0 11 rfl) ?_
    refine j_i2d hG (dt dtX7_meanScore_0 12 rfl) ?_
    refine j_aload_n hG 0 (dt dtX7_meanScore_0 13 rfl) rfl rfl ?_
    refine j_get hG cl_X7 0 5 (cv_0 _ _ _ _) (by decide) fl_X7_51 rfl rfl (dt dtX7_meanScore_0 14 rfl) ?_
    refine j_get hG cl_X2 16 8 (cv_16 _ _ _ _) (by decide) fl_X7_191 rfl rfl (dt dtX7_meanScore_0 15 rfl) ?_
    refine j_i2d hG (dt dtX7_meanScore_0 16 rfl) ?_
    obtain ⟨c36, h⟩ := wgd_ok h
    refine j_ddiv hG (dt dtX7_meanScore_0 17 rfl) (wnn64_ok c36) ?_
    obtain rfl := Option.some.inj h
    exact j_dret hG hE ⟨_, rfl, rfl, rfl⟩ (dt dtX7_meanScore_0 18 rfl)
theorem ct_X7_meanScore {l : Launch} (hl : l.stackTraces = false) (B : wB) (X Y : wM) (o : Int64) (dd : UInt64) (td : wX) {res : ((Nat) ⊕ (UInt64))} (h : f_X7_meanScore X = some res) : wMet l B yX7_meanScore cX7_meanScore 1 (some .double) 6 90 1 6 [.ref (wad B 0)] (X, Y, o, dd, td) (rpS res (fun z => rp (some (.double (z))) (X, Y, o, dd, td))) (xpS res (fun e E σ1 => E = exn e ∧ σ1 = (X, Y, o, dd, td))) :=
  wMet.of hl (by decide +kernel) (Nat.le_of_ble_eq_true rfl) (fun G hB hL hG hE hT => by subst hB; exact g_f_X7_meanScore hG hE hT h)
def f_X7_toldTable_22 (X : wM) (s0 : Option Nat) : Option ((Nat) ⊕ (Nat)) :=
  (wopt s0 (some (.inl 5))
  fun i24 => some (.inr i24))
def f_X7_toldTable_21 (X : wM) : Option ((Nat) ⊕ (Nat)) :=
  f_X7_toldTable_22 X none
def f_X7_toldTable (X : wM) (a1 : Int32) : Option ((Nat) ⊕ (Nat)) :=
  (if a1 < 0 then f_X7_toldTable_21 X
  else (if a1 < (X 0 7) then wtab X a1 fun v17 =>
  f_X7_toldTable_22 X v17
  else f_X7_toldTable_21 X))
set_option maxRecDepth 4000 in
theorem g_f_X7_toldTable_22 {G : wG} (hG : wOk G RX7 cX7_toldTable 3 6 90) {X Y : wM} {o : Int64} {dd : UInt64} {td : wX} {res : ((Nat) ⊕ (Nat))} (hE : wEnd G (some (.object "CensusLoom$Table")) (rpS res (fun z => rp (some (.ref (td.1 (4 * z)))) (X, Y, o, dd, td))) (xpS res (fun e E σ1 => E = exn e ∧ σ1 = (X, Y, o, dd, td)))) (hT : wNoTab G) {s0 : Option Nat} (h : f_X7_toldTable_22 X s0 = some res) : J G 3 1 6 22 [] [va_rf (Option.map (fun i => td.1 (4 * i)) s0)] (X, Y, o, dd, td) := by
  unfold f_X7_toldTable_22 at h
  refine j_qstore_n hG (lv' := [(2, va_rf (Option.map (fun i => td.1 (4 * i)) s0))]) (by first | exact Or.inl rfl | exact wrf_or _) (dt dtX7_toldTable_0 12 rfl) rfl (by decide) rfl ?_
  refine j_qload_n hG 0 (dt dtX7_toldTable_0 13 rfl) rfl rfl ?_
  refine j_ifnonnull hG (td := fun i => td.1 (4 * i)) (tgt := 38) (dt dtX7_toldTable_0 14 rfl) (by decide) h (fun e h => ?_) (fun i24 e h => ?_)
  · subst e
    obtain rfl := Option.some.inj h
    exact j_throwXW hG hE hT tf_X7_103_323_107 (dt dtX7_toldTable_0 15 rfl) (dt dtX7_toldTable_0 16 rfl) (dt dtX7_toldTable_0 17 rfl) (dt dtX7_toldTable_0 18 rfl) (dt dtX7_toldTable_0 19 rfl) (by decide) (by decide) ⟨_, rfl, rfl, rfl⟩
  · subst e
    refine J.weak (kc := 0) (ks := 0) (by decide) (by decide) ?_
    refine j_aload_n hG 0 (dt dtX7_toldTable_0 20 rfl) rfl rfl ?_
    obtain rfl := Option.some.inj h
    exact j_aret hG hE ⟨_, rfl, rfl, rfl⟩ (dt dtX7_toldTable_0 21 rfl)
set_option maxRecDepth 4000 in
theorem g_f_X7_toldTable_21 {G : wG} (hG : wOk G RX7 cX7_toldTable 3 6 90) {X Y : wM} {o : Int64} {dd : UInt64} {td : wX} {res : ((Nat) ⊕ (Nat))} (hE : wEnd G (some (.object "CensusLoom$Table")) (rpS res (fun z => rp (some (.ref (td.1 (4 * z)))) (X, Y, o, dd, td))) (xpS res (fun e E σ1 => E = exn e ∧ σ1 = (X, Y, o, dd, td)))) (hT : wNoTab G) (h : f_X7_toldTable_21 X = some res) : J G 3 1 6 21 [] [] (X, Y, o, dd, td) := by
  unfold f_X7_toldTable_21 at h
  refine j_null hG (dt dtX7_toldTable_0 11 rfl) ?_
  exact g_f_X7_toldTable_22 hG hE hT h
set_option maxRecDepth 4000 in
theorem g_f_X7_toldTable {G : wG} (hG : wOk G RX7 cX7_toldTable 3 6 90) {X Y : wM} {o : Int64} {dd : UInt64} {td : wX} {res : ((Nat) ⊕ (Nat))} (hE : wEnd G (some (.object "CensusLoom$Table")) (rpS res (fun z => rp (some (.ref (td.1 (4 * z)))) (X, Y, o, dd, td))) (xpS res (fun e E σ1 => E = exn e ∧ σ1 = (X, Y, o, dd, td)))) (hT : wNoTab G) {a1 : Int32} (h : f_X7_toldTable X a1 = some res) : J G 3 1 6 0 [(0, .ref (wad (gB G) 0)), (1, .int (a1))] [] (X, Y, o, dd, td) := by
  unfold f_X7_toldTable at h
  refine j_iload_n hG 1 (dt dtX7_toldTable_0 0 rfl) rfl rfl ?_
  refine j_if_lt hG (tgt := 21) (dt dtX7_toldTable_0 1 rfl) (by decide) h (fun h => ?_) (fun h => ?_)
  · refine j_lv (lv' := []) [] rfl ?_
    exact g_f_X7_toldTable_21 hG hE hT h
  · refine j_iload_n hG 1 (dt dtX7_toldTable_0 2 rfl) rfl rfl ?_
    refine j_aload_n hG 0 (dt dtX7_toldTable_0 3 rfl) rfl rfl ?_
    refine j_get hG cl_X7 0 7 (cv_0 _ _ _ _) (by decide) fl_X7_61 rfl rfl (dt dtX7_toldTable_0 4 rfl) ?_
    refine j_icmp_ge hG (tgt := 21) (dt dtX7_toldTable_0 5 rfl) (by decide) h (fun h => ?_) (fun h => ?_)
    · refine j_aload_n hG 0 (dt dtX7_toldTable_0 6 rfl) rfl rfl ?_
      refine j_get hG cl_X7 0 6 (cv_0 _ _ _ _) (by decide) fl_X7_57 rfl rfl (dt dtX7_toldTable_0 7 rfl) ?_
      refine j_iload_n hG 1 (dt dtX7_toldTable_0 8 rfl) rfl rfl ?_
      refine j_aaldW hG h (dt dtX7_toldTable_0 9 rfl) (fun v17 h => ?_)
      refine j_goto hG (tgt := 22) (dt dtX7_toldTable_0 10 rfl) (by decide) ?_
      refine j_lv (lv' := []) [] rfl ?_
      exact g_f_X7_toldTable_22 hG hE hT h
    · refine j_lv (lv' := []) [] rfl ?_
      exact g_f_X7_toldTable_21 hG hE hT h
theorem ct_X7_toldTable {l : Launch} (hl : l.stackTraces = false) (B : wB) (X Y : wM) (o : Int64) (dd : UInt64) (td : wX) {a1 : Int32} {res : ((Nat) ⊕ (Nat))} (h : f_X7_toldTable X a1 = some res) : wMet l B yX7_toldTable cX7_toldTable 3 (some (.object "CensusLoom$Table")) 6 90 1 6 [.ref (wad B 0), .int (a1)] (X, Y, o, dd, td) (rpS res (fun z => rp (some (.ref (td.1 (4 * z)))) (X, Y, o, dd, td))) (xpS res (fun e E σ1 => E = exn e ∧ σ1 = (X, Y, o, dd, td))) :=
  wMet.of hl (by decide +kernel) (Nat.le_of_ble_eq_true rfl) (fun G hB hL hG hE hT => by subst hB; exact g_f_X7_toldTable hG hE hT h)
def f_X7_stateOf_18 (X : wM) (s0 : Int32) : Option ((Nat) ⊕ (Int32)) :=
  wgd (wokN .char s0) (some (.inr s0))
def f_X7_stateOf (X : wM) (a1 : Int32) : Option ((Nat) ⊕ (Int32)) :=
  wthr (f_X7_toldTable X a1) (fun e => some (.inl e)) fun y2 =>
  wgd (decide (y2 < wT X)) ((if (X (39 + 4 * y2) 4) = 0 then f_X7_stateOf_18 X (116 : Int32)
  else f_X7_stateOf_18 X (117 : Int32)))
set_option maxRecDepth 4000 in
theorem g_f_X7_stateOf_18 {G : wG} (hG : wOk G RX7 cX7_stateOf 2 7 112) {X Y : wM} {o : Int64} {dd : UInt64} {td : wX} {res : ((Nat) ⊕ (Int32))} (hE : wEnd G (some .char) (rpS res (fun z => rp (some (.int (z))) (X, Y, o, dd, td))) (xpS res (fun e E σ1 => E = exn e ∧ σ1 = (X, Y, o, dd, td)))) (hT : wNoTab G) {s0 : Int32} (h : f_X7_stateOf_18 X s0 = some res) : J G 2 0 0 18 [] [.int (s0)] (X, Y, o, dd, td) := by
  unfold f_X7_stateOf_18 at h
  obtain ⟨c18, h⟩ := wgd_ok h
  obtain rfl := Option.some.inj h
  exact j_zret hG hE (wokN_ok c18) ⟨_, rfl, rfl, rfl⟩ (dt dtX7_stateOf_0 8 rfl)
set_option maxRecDepth 4000 in
theorem g_f_X7_stateOf {G : wG} (hG : wOk G RX7 cX7_stateOf 2 7 112) {X Y : wM} {o : Int64} {dd : UInt64} {td : wX} {res : ((Nat) ⊕ (Int32))} (hE : wEnd G (some .char) (rpS res (fun z => rp (some (.int (z))) (X, Y, o, dd, td))) (xpS res (fun e E σ1 => E = exn e ∧ σ1 = (X, Y, o, dd, td)))) (hT : wNoTab G) {a1 : Int32} (h : f_X7_stateOf X a1 = some res) : J G 2 1 6 0 [(0, .ref (wad (gB G) 0)), (1, .int (a1))] [] (X, Y, o, dd, td) := by
  unfold f_X7_stateOf at h
  refine j_aload_n hG 0 (dt dtX7_stateOf_0 0 rfl) rfl rfl ?_
  refine j_iload_n hG 1 (dt dtX7_stateOf_0 1 rfl) rfl rfl ?_
  refine j_callVt hG h (V := fun y2 => (some (.ref (td.1 (4 * y2))))) (S := fun y2 => (X, Y, o, dd, td)) (E0 := fun e => exn e) (S0 := fun e => (X, Y, o, dd, td)) (kc := 0) (ks := 0) (fun z hz => ct_X7_toldTable hG.2.2.1 (gB G) _ _ _ _ _ hz) mf_X7_toldTable ml_X7_232 0 (cv_0 _ _ _ _) rfl rfl (rest := []) rfl (Nat.le_of_ble_eq_true rfl) (dt dtX7_stateOf_0 2 rfl) (by decide) (by decide) (fun y2 h => ?_) (fun e h => ?_)
  · obtain ⟨c5, h⟩ := wgd_ok h
    refine j_get hG cl_X5 (39 + 4 * y2) 4 (ct_0 _ _ _ _ _ _ (of_decide_eq_true c5)) (by decide) fl_X7_236 rfl rfl (dt dtX7_stateOf_0 3 rfl) ?_
    refine j_if_eq hG (tgt := 16) (dt dtX7_stateOf_0 4 rfl) (by decide) h (fun h => ?_) (fun h => ?_)
    · refine j_bipush hG (v := 116) (dt dtX7_stateOf_0 7 rfl) (by decide) ?_
      refine j_lv (lv' := []) [] rfl ?_
      exact g_f_X7_stateOf_18 hG hE hT h
    · refine j_bipush hG (v := 117) (dt dtX7_stateOf_0 5 rfl) (by decide) ?_
      refine j_goto hG (tgt := 18) (dt dtX7_stateOf_0 6 rfl) (by decide) ?_
      refine j_lv (lv' := []) [] rfl ?_
      exact g_f_X7_stateOf_18 hG hE hT h
  · obtain rfl := Option.some.inj h
    exact jx_out hG hE hT ⟨_, rfl, rfl, rfl⟩
theorem ct_X7_stateOf {l : Launch} (hl : l.stackTraces = false) (B : wB) (X Y : wM) (o : Int64) (dd : UInt64) (td : wX) {a1 : Int32} {res : ((Nat) ⊕ (Int32))} (h : f_X7_stateOf X a1 = some res) : wMet l B yX7_stateOf cX7_stateOf 2 (some .char) 7 112 1 6 [.ref (wad B 0), .int (a1)] (X, Y, o, dd, td) (rpS res (fun z => rp (some (.int (z))) (X, Y, o, dd, td))) (xpS res (fun e E σ1 => E = exn e ∧ σ1 = (X, Y, o, dd, td))) :=
  wMet.of hl (by decide +kernel) (Nat.le_of_ble_eq_true rfl) (fun G hB hL hG hE hT => by subst hB; exact g_f_X7_stateOf hG hE hT h)
def f_X7_needBlockIn_12 (X : wM) : Option ((Nat) ⊕ (Unit)) :=
  some (.inl 2)
def f_X7_needBlockIn (X : wM) (a1 : Nat) (a2 : Int32) : Option ((Nat) ⊕ (Unit)) :=
  (if a2 < 0 then f_X7_needBlockIn_12 X
  else wgd (decide (a1 < wT X)) ((if a2 < (X (39 + 4 * a1) 0) then some (.inr ())
  else f_X7_needBlockIn_12 X)))
set_option maxRecDepth 4000 in
theorem g_f_X7_needBlockIn_12 {G : wG} (hG : wOk G RX7 cX7_needBlockIn 3 6 90) {X Y : wM} {o : Int64} {dd : UInt64} {td : wX} {res : ((Nat) ⊕ (Unit))} (hE : wEnd G none (rpS res (fun z => rp none (X, Y, o, dd, td))) (xpS res (fun e E σ1 => E = exn e ∧ σ1 = (X, Y, o, dd, td)))) (hT : wNoTab G) (h : f_X7_needBlockIn_12 X = some res) : J G 3 1 6 12 [] [] (X, Y, o, dd, td) := by
  unfold f_X7_needBlockIn_12 at h
  obtain rfl := Option.some.inj h
  exact j_throwSW hG hE hT tf_X7_291_326_295 (dt dtX7_needBlockIn_0 6 rfl) (dt dtX7_needBlockIn_0 7 rfl) (dt dtX7_needBlockIn_0 8 rfl) (dt dtX7_needBlockIn_0 9 rfl) (dt dtX7_needBlockIn_0 10 rfl) (by decide) (by decide) ⟨_, rfl, rfl, rfl⟩
set_option maxRecDepth 4000 in
theorem g_f_X7_needBlockIn {G : wG} (hG : wOk G RX7 cX7_needBlockIn 3 6 90) {X Y : wM} {o : Int64} {dd : UInt64} {td : wX} {res : ((Nat) ⊕ (Unit))} (hE : wEnd G none (rpS res (fun z => rp none (X, Y, o, dd, td))) (xpS res (fun e E σ1 => E = exn e ∧ σ1 = (X, Y, o, dd, td)))) (hT : wNoTab G) {a1 : Nat} {a2 : Int32} (h : f_X7_needBlockIn X a1 a2 = some res) : J G 3 1 6 0 [(0, .ref (wad (gB G) 0)), (1, .ref (td.1 (4 * a1))), (2, .int (a2))] [] (X, Y, o, dd, td) := by
  unfold f_X7_needBlockIn at h
  refine j_iload_n hG 2 (dt dtX7_needBlockIn_0 0 rfl) rfl rfl ?_
  refine j_if_lt hG (tgt := 12) (dt dtX7_needBlockIn_0 1 rfl) (by decide) h (fun h => ?_) (fun h => ?_)
  · refine j_lv (lv' := []) [] rfl ?_
    exact g_f_X7_needBlockIn_12 hG hE hT h
  · refine j_iload_n hG 2 (dt dtX7_needBlockIn_0 2 rfl) rfl rfl ?_
    refine j_aload_n hG 1 (dt dtX7_needBlockIn_0 3 rfl) rfl rfl ?_
    obtain ⟨c6, h⟩ := wgd_ok h
    refine j_get hG cl_X5 (39 + 4 * a1) 0 (ct_0 _ _ _ _ _ _ (of_decide_eq_true c6)) (by decide) fl_X7_325 rfl rfl (dt dtX7_needBlockIn_0 4 rfl) ?_
    refine j_icmp_lt hG (tgt := 23) (dt dtX7_needBlockIn_0 5 rfl) (by decide) h (fun h => ?_) (fun h => ?_)
    · refine J.weak (kc := 0) (ks := 0) (by decide) (by decide) ?_
      obtain rfl := Option.some.inj h
      exact j_vret hG hE ⟨_, rfl, rfl, rfl⟩ (dt dtX7_needBlockIn_0 11 rfl)
    · refine j_lv (lv' := []) [] rfl ?_
      exact g_f_X7_needBlockIn_12 hG hE hT h
theorem ct_X7_needBlockIn {l : Launch} (hl : l.stackTraces = false) (B : wB) (X Y : wM) (o : Int64) (dd : UInt64) (td : wX) {a1 : Nat} {a2 : Int32} {res : ((Nat) ⊕ (Unit))} (h : f_X7_needBlockIn X a1 a2 = some res) : wMet l B yX7_needBlockIn cX7_needBlockIn 3 none 6 90 1 6 [.ref (wad B 0), .ref (td.1 (4 * a1)), .int (a2)] (X, Y, o, dd, td) (rpS res (fun z => rp none (X, Y, o, dd, td))) (xpS res (fun e E σ1 => E = exn e ∧ σ1 = (X, Y, o, dd, td))) :=
  wMet.of hl (by decide +kernel) (Nat.le_of_ble_eq_true rfl) (fun G hB hL hG hE hT => by subst hB; exact g_f_X7_needBlockIn hG hE hT h)
def f_X7_needCell (X : wM) (a1 : Nat) (a2 : Int32) (a3 : Int32) : Option ((Nat) ⊕ (Unit)) :=
  wthr (f_X7_needBlockIn X a1 a2) (fun e => some (.inl e)) fun y3 =>
  wthr (f_X7_needGroup a3) (fun e => some (.inl e)) fun y8 =>
  some (.inr ())
set_option maxRecDepth 4000 in
theorem g_f_X7_needCell {G : wG} (hG : wOk G RX7 cX7_needCell 4 7 112) {X Y : wM} {o : Int64} {dd : UInt64} {td : wX} {res : ((Nat) ⊕ (Unit))} (hE : wEnd G none (rpS res (fun z => rp none (X, Y, o, dd, td))) (xpS res (fun e E σ1 => E = exn e ∧ σ1 = (X, Y, o, dd, td)))) (hT : wNoTab G) {a1 : Nat} {a2 : Int32} {a3 : Int32} (h : f_X7_needCell X a1 a2 a3 = some res) : J G 4 2 12 0 [(0, .ref (wad (gB G) 0)), (1, .ref (td.1 (4 * a1))), (2, .int (a2)), (3, .int (a3))] [] (X, Y, o, dd, td) := by
  unfold f_X7_needCell at h
  refine j_aload_n hG 0 (dt dtX7_needCell_0 0 rfl) rfl rfl ?_
  refine j_aload_n hG 1 (dt dtX7_needCell_0 1 rfl) rfl rfl ?_
  refine j_iload_n hG 2 (dt dtX7_needCell_0 2 rfl) rfl rfl ?_
  refine j_callVt hG h (V := fun y3 => none) (S := fun y3 => (X, Y, o, dd, td)) (E0 := fun e => exn e) (S0 := fun e => (X, Y, o, dd, td)) (kc := 1) (ks := 6) (fun z hz => ct_X7_needBlockIn hG.2.2.1 (gB G) _ _ _ _ _ hz) mf_X7_needBlockIn ml_X7_253 0 (cv_0 _ _ _ _) rfl rfl (rest := []) rfl (Nat.le_of_ble_eq_true rfl) (dt dtX7_needCell_0 3 rfl) (by decide) (by decide) (fun y3 h => ?_) (fun e h => ?_)
  · refine j_aload_n hG 0 (dt dtX7_needCell_0 4 rfl) rfl rfl ?_
    refine j_iload_n hG 3 (dt dtX7_needCell_0 5 rfl) rfl rfl ?_
    refine j_callVt hG h (V := fun y8 => none) (S := fun y8 => (X, Y, o, dd, td)) (E0 := fun e => exn e) (S0 := fun e => (X, Y, o, dd, td)) (kc := 0) (ks := 0) (fun z hz => ct_X7_needGroup hG.2.2.1 (gB G) _ _ _ _ _ hz) mf_X7_needGroup ml_X7_192 0 (cv_0 _ _ _ _) rfl rfl (rest := []) rfl (Nat.le_of_ble_eq_true rfl) (dt dtX7_needCell_0 6 rfl) (by decide) (by decide) (fun y8 h => ?_) (fun e h => ?_)
    · obtain rfl := Option.some.inj h
      exact j_vret hG hE ⟨_, rfl, rfl, rfl⟩ (dt dtX7_needCell_0 7 rfl)
    · obtain rfl := Option.some.inj h
      exact jx_out hG hE hT ⟨_, rfl, rfl, rfl⟩
  · obtain rfl := Option.some.inj h
    exact jx_out hG hE hT ⟨_, rfl, rfl, rfl⟩
theorem ct_X7_needCell {l : Launch} (hl : l.stackTraces = false) (B : wB) (X Y : wM) (o : Int64) (dd : UInt64) (td : wX) {a1 : Nat} {a2 : Int32} {a3 : Int32} {res : ((Nat) ⊕ (Unit))} (h : f_X7_needCell X a1 a2 a3 = some res) : wMet l B yX7_needCell cX7_needCell 4 none 7 112 2 12 [.ref (wad B 0), .ref (td.1 (4 * a1)), .int (a2), .int (a3)] (X, Y, o, dd, td) (rpS res (fun z => rp none (X, Y, o, dd, td))) (xpS res (fun e E σ1 => E = exn e ∧ σ1 = (X, Y, o, dd, td))) :=
  wMet.of hl (by decide +kernel) (Nat.le_of_ble_eq_true rfl) (fun G hB hL hG hE hT => by subst hB; exact g_f_X7_needCell hG hE hT h)
def f_X7_isHidden (X : wM) (a1 : Int32) (a2 : Int32) (a3 : Int32) : Option ((Nat) ⊕ (Int32)) :=
  wthr (f_X7_toldTable X a1) (fun e => some (.inl e)) fun y2 =>
  wthr (f_X7_needCell X y2 a2 a3) (fun e => some (.inl e)) fun y12 =>
  wgd (decide (y2 < wT X)) ((f_X0_has (X (39 + 4 * y2) 2) ((a2 * 4) + a3)).bind fun y25 =>
  wgd (wokN .boolean y25) (some (.inr y25)))
set_option maxRecDepth 4000 in
theorem g_f_X7_isHidden {G : wG} (hG : wOk G RX7 cX7_isHidden 5 8 135) {X Y : wM} {o : Int64} {dd : UInt64} {td : wX} {res : ((Nat) ⊕ (Int32))} (hE : wEnd G (some .boolean) (rpS res (fun z => rp (some (.int (z))) (X, Y, o, dd, td))) (xpS res (fun e E σ1 => E = exn e ∧ σ1 = (X, Y, o, dd, td)))) (hT : wNoTab G) {a1 : Int32} {a2 : Int32} {a3 : Int32} (h : f_X7_isHidden X a1 a2 a3 = some res) : J G 5 3 18 0 [(0, .ref (wad (gB G) 0)), (1, .int (a1)), (2, .int (a2)), (3, .int (a3))] [] (X, Y, o, dd, td) := by
  unfold f_X7_isHidden at h
  refine j_aload_n hG 0 (dt dtX7_isHidden_0 0 rfl) rfl rfl ?_
  refine j_iload_n hG 1 (dt dtX7_isHidden_0 1 rfl) rfl rfl ?_
  refine j_callVt hG h (V := fun y2 => (some (.ref (td.1 (4 * y2))))) (S := fun y2 => (X, Y, o, dd, td)) (E0 := fun e => exn e) (S0 := fun e => (X, Y, o, dd, td)) (kc := 2) (ks := 12) (fun z hz => ct_X7_toldTable hG.2.2.1 (gB G) _ _ _ _ _ hz) mf_X7_toldTable ml_X7_232 0 (cv_0 _ _ _ _) rfl rfl (rest := []) rfl (Nat.le_of_ble_eq_true rfl) (dt dtX7_isHidden_0 2 rfl) (by decide) (by decide) (fun y2 h => ?_) (fun e h => ?_)
  · refine j_astore hG (lv' := [(4, .ref (td.1 (4 * y2))), (0, .ref (wad (gB G) 0)), (1, .int (a1)), (2, .int (a2)), (3, .int (a3))]) (dt dtX7_isHidden_0 3 rfl) (by decide) rfl ?_
    refine j_aload_n hG 1 (dt dtX7_isHidden_0 4 rfl) rfl rfl ?_
    refine j_aload hG 0 (dt dtX7_isHidden_0 5 rfl) rfl ?_
    refine j_iload_n hG 3 (dt dtX7_isHidden_0 6 rfl) rfl rfl ?_
    refine j_iload_n hG 4 (dt dtX7_isHidden_0 7 rfl) rfl rfl ?_
    refine j_callVt hG h (V := fun y12 => none) (S := fun y12 => (X, Y, o, dd, td)) (E0 := fun e => exn e) (S0 := fun e => (X, Y, o, dd, td)) (kc := 0) (ks := 0) (fun z hz => ct_X7_needCell hG.2.2.1 (gB G) _ _ _ _ _ hz) mf_X7_needCell ml_X7_240 0 (cv_0 _ _ _ _) rfl rfl (rest := []) rfl (Nat.le_of_ble_eq_true rfl) (dt dtX7_isHidden_0 8 rfl) (by decide) (by decide) (fun y12 h => ?_) (fun e h => ?_)
    · refine j_aload hG 0 (dt dtX7_isHidden_0 9 rfl) rfl ?_
      obtain ⟨c17, h⟩ := wgd_ok h
      refine j_get hG cl_X5 (39 + 4 * y2) 2 (ct_0 _ _ _ _ _ _ (of_decide_eq_true c17)) (by decide) fl_X7_244 rfl rfl (dt dtX7_isHidden_0 10 rfl) ?_
      refine j_iload_n hG 3 (dt dtX7_isHidden_0 11 rfl) rfl rfl ?_
      refine j_iconst hG (v := 4) (dt dtX7_isHidden_0 12 rfl) (by decide) ?_
      refine j_imul hG (dt dtX7_isHidden_0 13 rfl) ?_
      refine j_iload_n hG 4 (dt dtX7_isHidden_0 14 rfl) rfl rfl ?_
      refine j_iadd hG (dt dtX7_isHidden_0 15 rfl) ?_
      refine j_callSp hG h (V := fun y25 => (some (.int (y25)))) (S := fun y25 => (X, Y, o, dd, td)) (kc := 0) (ks := 0) (fun z hz => ct_X0_has hG.2.2.1 (gB G) _ _ _ _ _ hz) mf_X0_has ml_X7_247 rfl (rest := []) rfl (Nat.le_of_ble_eq_true rfl) (dt dtX7_isHidden_0 16 rfl) (by decide) (by decide) (fun y25 h => ?_)
      obtain ⟨c28, h⟩ := wgd_ok h
      obtain rfl := Option.some.inj h
      exact j_zret hG hE (wokN_ok c28) ⟨_, rfl, rfl, rfl⟩ (dt dtX7_isHidden_0 17 rfl)
    · obtain rfl := Option.some.inj h
      exact jx_out hG hE hT ⟨_, rfl, rfl, rfl⟩
  · obtain rfl := Option.some.inj h
    exact jx_out hG hE hT ⟨_, rfl, rfl, rfl⟩
theorem ct_X7_isHidden {l : Launch} (hl : l.stackTraces = false) (B : wB) (X Y : wM) (o : Int64) (dd : UInt64) (td : wX) {a1 : Int32} {a2 : Int32} {a3 : Int32} {res : ((Nat) ⊕ (Int32))} (h : f_X7_isHidden X a1 a2 a3 = some res) : wMet l B yX7_isHidden cX7_isHidden 5 (some .boolean) 8 135 3 18 [.ref (wad B 0), .int (a1), .int (a2), .int (a3)] (X, Y, o, dd, td) (rpS res (fun z => rp (some (.int (z))) (X, Y, o, dd, td))) (xpS res (fun e E σ1 => E = exn e ∧ σ1 = (X, Y, o, dd, td))) :=
  wMet.of hl (by decide +kernel) (Nat.le_of_ble_eq_true rfl) (fun G hB hL hG hE hT => by subst hB; exact g_f_X7_isHidden hG hE hT h)
def f_X7_cell (X : wM) (a1 : Int32) (a2 : Int32) (a3 : Int32) : Option ((Nat) ⊕ (Int32)) :=
  wthr (f_X7_toldTable X a1) (fun e => some (.inl e)) fun y2 =>
  wthr (f_X7_needCell X y2 a2 a3) (fun e => some (.inl e)) fun y12 =>
  wgd (decide (y2 < wT X)) ((f_X0_has (X (39 + 4 * y2) 2) ((a2 * 4) + a3)).bind fun y25 =>
  (if y25 = 0 then wgd (decide (y2 < wT X)) (wgd (decide (y2 < wT X)) (wget 24 (X (39 + (4 * y2 + 1))) ((a2 * 4) + a3) fun v51 =>
  some (.inr v51)))
  else some (.inl 4)))
set_option maxRecDepth 4000 in
theorem g_f_X7_cell {G : wG} (hG : wOk G RX7 cX7_cell 5 8 135) {X Y : wM} {o : Int64} {dd : UInt64} {td : wX} {res : ((Nat) ⊕ (Int32))} (hE : wEnd G (some .int) (rpS res (fun z => rp (some (.int (z))) (X, Y, o, dd, td))) (xpS res (fun e E σ1 => E = exn e ∧ σ1 = (X, Y, o, dd, td)))) (hT : wNoTab G) {a1 : Int32} {a2 : Int32} {a3 : Int32} (h : f_X7_cell X a1 a2 a3 = some res) : J G 5 4 24 0 [(0, .ref (wad (gB G) 0)), (1, .int (a1)), (2, .int (a2)), (3, .int (a3))] [] (X, Y, o, dd, td) := by
  unfold f_X7_cell at h
  refine j_aload_n hG 0 (dt dtX7_cell_0 0 rfl) rfl rfl ?_
  refine j_iload_n hG 1 (dt dtX7_cell_0 1 rfl) rfl rfl ?_
  refine j_callVt hG h (V := fun y2 => (some (.ref (td.1 (4 * y2))))) (S := fun y2 => (X, Y, o, dd, td)) (E0 := fun e => exn e) (S0 := fun e => (X, Y, o, dd, td)) (kc := 3) (ks := 18) (fun z hz => ct_X7_toldTable hG.2.2.1 (gB G) _ _ _ _ _ hz) mf_X7_toldTable ml_X7_232 0 (cv_0 _ _ _ _) rfl rfl (rest := []) rfl (Nat.le_of_ble_eq_true rfl) (dt dtX7_cell_0 2 rfl) (by decide) (by decide) (fun y2 h => ?_) (fun e h => ?_)
  · refine j_astore hG (lv' := [(4, .ref (td.1 (4 * y2))), (0, .ref (wad (gB G) 0)), (1, .int (a1)), (2, .int (a2)), (3, .int (a3))]) (dt dtX7_cell_0 3 rfl) (by decide) rfl ?_
    refine j_aload_n hG 1 (dt dtX7_cell_0 4 rfl) rfl rfl ?_
    refine j_aload hG 0 (dt dtX7_cell_0 5 rfl) rfl ?_
    refine j_iload_n hG 3 (dt dtX7_cell_0 6 rfl) rfl rfl ?_
    refine j_iload_n hG 4 (dt dtX7_cell_0 7 rfl) rfl rfl ?_
    refine j_callVt hG h (V := fun y12 => none) (S := fun y12 => (X, Y, o, dd, td)) (E0 := fun e => exn e) (S0 := fun e => (X, Y, o, dd, td)) (kc := 1) (ks := 6) (fun z hz => ct_X7_needCell hG.2.2.1 (gB G) _ _ _ _ _ hz) mf_X7_needCell ml_X7_240 0 (cv_0 _ _ _ _) rfl rfl (rest := []) rfl (Nat.le_of_ble_eq_true rfl) (dt dtX7_cell_0 8 rfl) (by decide) (by decide) (fun y12 h => ?_) (fun e h => ?_)
    · refine j_aload hG 0 (dt dtX7_cell_0 9 rfl) rfl ?_
      obtain ⟨c17, h⟩ := wgd_ok h
      refine j_get hG cl_X5 (39 + 4 * y2) 2 (ct_0 _ _ _ _ _ _ (of_decide_eq_true c17)) (by decide) fl_X7_244 rfl rfl (dt dtX7_cell_0 10 rfl) ?_
      refine j_iload_n hG 3 (dt dtX7_cell_0 11 rfl) rfl rfl ?_
      refine j_iconst hG (v := 4) (dt dtX7_cell_0 12 rfl) (by decide) ?_
      refine j_imul hG (dt dtX7_cell_0 13 rfl) ?_
      refine j_iload_n hG 4 (dt dtX7_cell_0 14 rfl) rfl rfl ?_
      refine j_iadd hG (dt dtX7_cell_0 15 rfl) ?_
      refine j_callSp hG h (V := fun y25 => (some (.int (y25)))) (S := fun y25 => (X, Y, o, dd, td)) (kc := 1) (ks := 6) (fun z hz => ct_X0_has hG.2.2.1 (gB G) _ _ _ _ _ hz) mf_X0_has ml_X7_247 rfl (rest := []) rfl (Nat.le_of_ble_eq_true rfl) (dt dtX7_cell_0 16 rfl) (by decide) (by decide) (fun y25 h => ?_)
      refine j_if_eq hG (tgt := 41) (dt dtX7_cell_0 17 rfl) (by decide) h (fun h => ?_) (fun h => ?_)
      · refine J.weak (kc := 0) (ks := 0) (by decide) (by decide) ?_
        refine j_aload hG 0 (dt dtX7_cell_0 23 rfl) rfl ?_
        obtain ⟨c43, h⟩ := wgd_ok h
        refine j_get hG cl_X5 (39 + 4 * y2) 1 (ct_0 _ _ _ _ _ _ (of_decide_eq_true c43)) (by decide) fl_X7_252 rfl rfl (dt dtX7_cell_0 24 rfl) ?_
        refine j_iload_n hG 3 (dt dtX7_cell_0 25 rfl) rfl rfl ?_
        refine j_iconst hG (v := 4) (dt dtX7_cell_0 26 rfl) (by decide) ?_
        refine j_imul hG (dt dtX7_cell_0 27 rfl) ?_
        refine j_iload_n hG 4 (dt dtX7_cell_0 28 rfl) rfl rfl ?_
        refine j_iadd hG (dt dtX7_cell_0 29 rfl) ?_
        obtain ⟨c51, h⟩ := wgd_ok h
        refine j_iald hG _ (ct_1 _ _ _ _ _ _ (of_decide_eq_true c51)) h (dt dtX7_cell_0 30 rfl) (fun v51 h => ?_)
        obtain rfl := Option.some.inj h
        exact j_iret hG hE ⟨_, rfl, rfl, rfl⟩ (dt dtX7_cell_0 31 rfl)
      · obtain rfl := Option.some.inj h
        exact j_throwS hG hE hT tf_X7_161_250_165 (dt dtX7_cell_0 18 rfl) (dt dtX7_cell_0 19 rfl) (dt dtX7_cell_0 20 rfl) (dt dtX7_cell_0 21 rfl) (dt dtX7_cell_0 22 rfl) (by decide) (by decide) ⟨_, rfl, rfl, rfl⟩
    · obtain rfl := Option.some.inj h
      exact jx_out hG hE hT ⟨_, rfl, rfl, rfl⟩
  · obtain rfl := Option.some.inj h
    exact jx_out hG hE hT ⟨_, rfl, rfl, rfl⟩
theorem ct_X7_cell {l : Launch} (hl : l.stackTraces = false) (B : wB) (X Y : wM) (o : Int64) (dd : UInt64) (td : wX) {a1 : Int32} {a2 : Int32} {a3 : Int32} {res : ((Nat) ⊕ (Int32))} (h : f_X7_cell X a1 a2 a3 = some res) : wMet l B yX7_cell cX7_cell 5 (some .int) 8 135 4 24 [.ref (wad B 0), .int (a1), .int (a2), .int (a3)] (X, Y, o, dd, td) (rpS res (fun z => rp (some (.int (z))) (X, Y, o, dd, td))) (xpS res (fun e E σ1 => E = exn e ∧ σ1 = (X, Y, o, dd, td))) :=
  wMet.of hl (by decide +kernel) (Nat.le_of_ble_eq_true rfl) (fun G hB hL hG hE hT => by subst hB; exact g_f_X7_cell hG hE hT h)
def f_X7_blockSum (X : wM) (a1 : Int32) (a2 : Int32) : Option ((Nat) ⊕ (Int32)) :=
  wthr (f_X7_toldTable X a1) (fun e => some (.inl e)) fun y2 =>
  wthr (f_X7_needBlockIn X y2 a2) (fun e => some (.inl e)) fun y9 =>
  wgd (decide (y2 < wT X)) ((f_X5_sumOfBlock X y2 a2).bind fun y14 =>
  some (.inr y14))
set_option maxRecDepth 4000 in
theorem g_f_X7_blockSum {G : wG} (hG : wOk G RX7 cX7_blockSum 4 7 112) {X Y : wM} {o : Int64} {dd : UInt64} {td : wX} {res : ((Nat) ⊕ (Int32))} (hE : wEnd G (some .int) (rpS res (fun z => rp (some (.int (z))) (X, Y, o, dd, td))) (xpS res (fun e E σ1 => E = exn e ∧ σ1 = (X, Y, o, dd, td)))) (hT : wNoTab G) {a1 : Int32} {a2 : Int32} (h : f_X7_blockSum X a1 a2 = some res) : J G 4 2 12 0 [(0, .ref (wad (gB G) 0)), (1, .int (a1)), (2, .int (a2))] [] (X, Y, o, dd, td) := by
  unfold f_X7_blockSum at h
  refine j_aload_n hG 0 (dt dtX7_blockSum_0 0 rfl) rfl rfl ?_
  refine j_iload_n hG 1 (dt dtX7_blockSum_0 1 rfl) rfl rfl ?_
  refine j_callVt hG h (V := fun y2 => (some (.ref (td.1 (4 * y2))))) (S := fun y2 => (X, Y, o, dd, td)) (E0 := fun e => exn e) (S0 := fun e => (X, Y, o, dd, td)) (kc := 1) (ks := 6) (fun z hz => ct_X7_toldTable hG.2.2.1 (gB G) _ _ _ _ _ hz) mf_X7_toldTable ml_X7_232 0 (cv_0 _ _ _ _) rfl rfl (rest := []) rfl (Nat.le_of_ble_eq_true rfl) (dt dtX7_blockSum_0 2 rfl) (by decide) (by decide) (fun y2 h => ?_) (fun e h => ?_)
  · refine j_astore_n hG (lv' := [(3, .ref (td.1 (4 * y2))), (0, .ref (wad (gB G) 0)), (1, .int (a1)), (2, .int (a2))]) (dt dtX7_blockSum_0 3 rfl) rfl (by decide) rfl ?_
    refine j_aload_n hG 1 (dt dtX7_blockSum_0 4 rfl) rfl rfl ?_
    refine j_aload_n hG 0 (dt dtX7_blockSum_0 5 rfl) rfl rfl ?_
    refine j_iload_n hG 3 (dt dtX7_blockSum_0 6 rfl) rfl rfl ?_
    refine j_callVt hG h (V := fun y9 => none) (S := fun y9 => (X, Y, o, dd, td)) (E0 := fun e => exn e) (S0 := fun e => (X, Y, o, dd, td)) (kc := 0) (ks := 0) (fun z hz => ct_X7_needBlockIn hG.2.2.1 (gB G) _ _ _ _ _ hz) mf_X7_needBlockIn ml_X7_253 0 (cv_0 _ _ _ _) rfl rfl (rest := []) rfl (Nat.le_of_ble_eq_true rfl) (dt dtX7_blockSum_0 7 rfl) (by decide) (by decide) (fun y9 h => ?_) (fun e h => ?_)
    · refine j_aload_n hG 0 (dt dtX7_blockSum_0 8 rfl) rfl rfl ?_
      refine j_iload_n hG 3 (dt dtX7_blockSum_0 9 rfl) rfl rfl ?_
      obtain ⟨c14, h⟩ := wgd_ok h
      refine j_callVp hG h (V := fun y14 => (some (.int (y14)))) (S := fun y14 => (X, Y, o, dd, td)) (kc := 0) (ks := 0) (fun z hz => ct_X5_sumOfBlock hG.2.2.1 (gB G) _ _ _ _ _ hz) mf_X5_sumOfBlock ml_X7_257 _ (ct_0 _ _ _ _ _ _ (of_decide_eq_true c14)) rfl rfl (rest := []) rfl (Nat.le_of_ble_eq_true rfl) (dt dtX7_blockSum_0 10 rfl) (by decide) (by decide) (fun y14 h => ?_)
      obtain rfl := Option.some.inj h
      exact j_iret hG hE ⟨_, rfl, rfl, rfl⟩ (dt dtX7_blockSum_0 11 rfl)
    · obtain rfl := Option.some.inj h
      exact jx_out hG hE hT ⟨_, rfl, rfl, rfl⟩
  · obtain rfl := Option.some.inj h
    exact jx_out hG hE hT ⟨_, rfl, rfl, rfl⟩
theorem ct_X7_blockSum {l : Launch} (hl : l.stackTraces = false) (B : wB) (X Y : wM) (o : Int64) (dd : UInt64) (td : wX) {a1 : Int32} {a2 : Int32} {res : ((Nat) ⊕ (Int32))} (h : f_X7_blockSum X a1 a2 = some res) : wMet l B yX7_blockSum cX7_blockSum 4 (some .int) 7 112 2 12 [.ref (wad B 0), .int (a1), .int (a2)] (X, Y, o, dd, td) (rpS res (fun z => rp (some (.int (z))) (X, Y, o, dd, td))) (xpS res (fun e E σ1 => E = exn e ∧ σ1 = (X, Y, o, dd, td))) :=
  wMet.of hl (by decide +kernel) (Nat.le_of_ble_eq_true rfl) (fun G hB hL hG hE hT => by subst hB; exact g_f_X7_blockSum hG hE hT h)
def f_X7_groupSum (X : wM) (a1 : Int32) (a2 : Int32) : Option ((Nat) ⊕ (Int32)) :=
  wthr (f_X7_toldTable X a1) (fun e => some (.inl e)) fun y2 =>
  wthr (f_X7_needGroup a2) (fun e => some (.inl e)) fun y8 =>
  wgd (decide (y2 < wT X)) ((f_X5_sumOfGroup X y2 a2).bind fun y13 =>
  some (.inr y13))
set_option maxRecDepth 4000 in
theorem g_f_X7_groupSum {G : wG} (hG : wOk G RX7 cX7_groupSum 4 7 112) {X Y : wM} {o : Int64} {dd : UInt64} {td : wX} {res : ((Nat) ⊕ (Int32))} (hE : wEnd G (some .int) (rpS res (fun z => rp (some (.int (z))) (X, Y, o, dd, td))) (xpS res (fun e E σ1 => E = exn e ∧ σ1 = (X, Y, o, dd, td)))) (hT : wNoTab G) {a1 : Int32} {a2 : Int32} (h : f_X7_groupSum X a1 a2 = some res) : J G 4 2 12 0 [(0, .ref (wad (gB G) 0)), (1, .int (a1)), (2, .int (a2))] [] (X, Y, o, dd, td) := by
  unfold f_X7_groupSum at h
  refine j_aload_n hG 0 (dt dtX7_groupSum_0 0 rfl) rfl rfl ?_
  refine j_iload_n hG 1 (dt dtX7_groupSum_0 1 rfl) rfl rfl ?_
  refine j_callVt hG h (V := fun y2 => (some (.ref (td.1 (4 * y2))))) (S := fun y2 => (X, Y, o, dd, td)) (E0 := fun e => exn e) (S0 := fun e => (X, Y, o, dd, td)) (kc := 1) (ks := 6) (fun z hz => ct_X7_toldTable hG.2.2.1 (gB G) _ _ _ _ _ hz) mf_X7_toldTable ml_X7_232 0 (cv_0 _ _ _ _) rfl rfl (rest := []) rfl (Nat.le_of_ble_eq_true rfl) (dt dtX7_groupSum_0 2 rfl) (by decide) (by decide) (fun y2 h => ?_) (fun e h => ?_)
  · refine j_astore_n hG (lv' := [(3, .ref (td.1 (4 * y2))), (0, .ref (wad (gB G) 0)), (1, .int (a1)), (2, .int (a2))]) (dt dtX7_groupSum_0 3 rfl) rfl (by decide) rfl ?_
    refine j_aload_n hG 1 (dt dtX7_groupSum_0 4 rfl) rfl rfl ?_
    refine j_iload_n hG 3 (dt dtX7_groupSum_0 5 rfl) rfl rfl ?_
    refine j_callVt hG h (V := fun y8 => none) (S := fun y8 => (X, Y, o, dd, td)) (E0 := fun e => exn e) (S0 := fun e => (X, Y, o, dd, td)) (kc := 0) (ks := 0) (fun z hz => ct_X7_needGroup hG.2.2.1 (gB G) _ _ _ _ _ hz) mf_X7_needGroup ml_X7_192 0 (cv_0 _ _ _ _) rfl rfl (rest := []) rfl (Nat.le_of_ble_eq_true rfl) (dt dtX7_groupSum_0 6 rfl) (by decide) (by decide) (fun y8 h => ?_) (fun e h => ?_)
    · refine j_aload_n hG 0 (dt dtX7_groupSum_0 7 rfl) rfl rfl ?_
      refine j_iload_n hG 3 (dt dtX7_groupSum_0 8 rfl) rfl rfl ?_
      obtain ⟨c13, h⟩ := wgd_ok h
      refine j_callVp hG h (V := fun y13 => (some (.int (y13)))) (S := fun y13 => (X, Y, o, dd, td)) (kc := 0) (ks := 0) (fun z hz => ct_X5_sumOfGroup hG.2.2.1 (gB G) _ _ _ _ _ hz) mf_X5_sumOfGroup ml_X7_260 _ (ct_0 _ _ _ _ _ _ (of_decide_eq_true c13)) rfl rfl (rest := []) rfl (Nat.le_of_ble_eq_true rfl) (dt dtX7_groupSum_0 9 rfl) (by decide) (by decide) (fun y13 h => ?_)
      obtain rfl := Option.some.inj h
      exact j_iret hG hE ⟨_, rfl, rfl, rfl⟩ (dt dtX7_groupSum_0 10 rfl)
    · obtain rfl := Option.some.inj h
      exact jx_out hG hE hT ⟨_, rfl, rfl, rfl⟩
  · obtain rfl := Option.some.inj h
    exact jx_out hG hE hT ⟨_, rfl, rfl, rfl⟩
theorem ct_X7_groupSum {l : Launch} (hl : l.stackTraces = false) (B : wB) (X Y : wM) (o : Int64) (dd : UInt64) (td : wX) {a1 : Int32} {a2 : Int32} {res : ((Nat) ⊕ (Int32))} (h : f_X7_groupSum X a1 a2 = some res) : wMet l B yX7_groupSum cX7_groupSum 4 (some .int) 7 112 2 12 [.ref (wad B 0), .int (a1), .int (a2)] (X, Y, o, dd, td) (rpS res (fun z => rp (some (.int (z))) (X, Y, o, dd, td))) (xpS res (fun e E σ1 => E = exn e ∧ σ1 = (X, Y, o, dd, td))) :=
  wMet.of hl (by decide +kernel) (Nat.le_of_ble_eq_true rfl) (fun G hB hL hG hE hT => by subst hB; exact g_f_X7_groupSum hG hE hT h)
def f_X7_isAtRisk (X : wM) (a1 : Int32) (a2 : Int32) (a3 : Int32) : Option ((Nat) ⊕ (Int32)) :=
  wthr (f_X7_toldTable X a1) (fun e => some (.inl e)) fun y2 =>
  wthr (f_X7_needCell X y2 a2 a3) (fun e => some (.inl e)) fun y12 =>
  wgd (decide (y2 < wT X)) (wgd (decide (y2 < wT X)) ((f_X0_smallCells (X (39 + (4 * y2 + 1)))).bind fun y20 =>
  (f_X0_has y20 ((a2 * 4) + a3)).bind fun y32 =>
  (if y32 = 0 then some (.inl 4)
  else (f_X0_isFound y20 ((a2 * 4) + a3)).bind fun y56 =>
  wgd (wokN .boolean y56) (some (.inr y56)))))
set_option maxRecDepth 4000 in
theorem g_f_X7_isAtRisk {G : wG} (hG : wOk G RX7 cX7_isAtRisk 6 8 135) {X Y : wM} {o : Int64} {dd : UInt64} {td : wX} {res : ((Nat) ⊕ (Int32))} (hE : wEnd G (some .boolean) (rpS res (fun z => rp (some (.int (z))) (X, Y, o, dd, td))) (xpS res (fun e E σ1 => E = exn e ∧ σ1 = (X, Y, o, dd, td)))) (hT : wNoTab G) {a1 : Int32} {a2 : Int32} {a3 : Int32} (h : f_X7_isAtRisk X a1 a2 a3 = some res) : J G 6 4 24 0 [(0, .ref (wad (gB G) 0)), (1, .int (a1)), (2, .int (a2)), (3, .int (a3))] [] (X, Y, o, dd, td) := by
  unfold f_X7_isAtRisk at h
  refine j_aload_n hG 0 (dt dtX7_isAtRisk_0 0 rfl) rfl rfl ?_
  refine j_iload_n hG 1 (dt dtX7_isAtRisk_0 1 rfl) rfl rfl ?_
  refine j_callVt hG h (V := fun y2 => (some (.ref (td.1 (4 * y2))))) (S := fun y2 => (X, Y, o, dd, td)) (E0 := fun e => exn e) (S0 := fun e => (X, Y, o, dd, td)) (kc := 3) (ks := 18) (fun z hz => ct_X7_toldTable hG.2.2.1 (gB G) _ _ _ _ _ hz) mf_X7_toldTable ml_X7_232 0 (cv_0 _ _ _ _) rfl rfl (rest := []) rfl (Nat.le_of_ble_eq_true rfl) (dt dtX7_isAtRisk_0 2 rfl) (by decide) (by decide) (fun y2 h => ?_) (fun e h => ?_)
  · refine j_astore hG (lv' := [(4, .ref (td.1 (4 * y2))), (0, .ref (wad (gB G) 0)), (1, .int (a1)), (2, .int (a2)), (3, .int (a3))]) (dt dtX7_isAtRisk_0 3 rfl) (by decide) rfl ?_
    refine j_aload_n hG 1 (dt dtX7_isAtRisk_0 4 rfl) rfl rfl ?_
    refine j_aload hG 0 (dt dtX7_isAtRisk_0 5 rfl) rfl ?_
    refine j_iload_n hG 3 (dt dtX7_isAtRisk_0 6 rfl) rfl rfl ?_
    refine j_iload_n hG 4 (dt dtX7_isAtRisk_0 7 rfl) rfl rfl ?_
    refine j_callVt hG h (V := fun y12 => none) (S := fun y12 => (X, Y, o, dd, td)) (E0 := fun e => exn e) (S0 := fun e => (X, Y, o, dd, td)) (kc := 1) (ks := 6) (fun z hz => ct_X7_needCell hG.2.2.1 (gB G) _ _ _ _ _ hz) mf_X7_needCell ml_X7_240 0 (cv_0 _ _ _ _) rfl rfl (rest := []) rfl (Nat.le_of_ble_eq_true rfl) (dt dtX7_isAtRisk_0 8 rfl) (by decide) (by decide) (fun y12 h => ?_) (fun e h => ?_)
    · refine j_aload hG 0 (dt dtX7_isAtRisk_0 9 rfl) rfl ?_
      obtain ⟨c17, h⟩ := wgd_ok h
      refine j_get hG cl_X5 (39 + 4 * y2) 1 (ct_0 _ _ _ _ _ _ (of_decide_eq_true c17)) (by decide) fl_X7_252 rfl rfl (dt dtX7_isAtRisk_0 10 rfl) ?_
      obtain ⟨c20, h⟩ := wgd_ok h
      refine j_callSp hG h (V := fun y20 => (some (.int (y20)))) (S := fun y20 => (X, Y, o, dd, td)) (kc := 1) (ks := 6) (fun z hz => ct_X0_smallCells hG.2.2.1 (gB G) _ _ _ _ _ (ct_1 _ _ _ _ _ _ (of_decide_eq_true c20)) hz) mf_X0_smallCells ml_X7_268 rfl (rest := []) rfl (Nat.le_of_ble_eq_true rfl) (dt dtX7_isAtRisk_0 11 rfl) (by decide) (by decide) (fun y20 h => ?_)
      refine j_istore hG (lv' := [(5, .int (y20)), (4, .ref (td.1 (4 * y2))), (0, .ref (wad (gB G) 0)), (1, .int (a1)), (2, .int (a2)), (3, .int (a3))]) (dt dtX7_isAtRisk_0 12 rfl) (by decide) rfl ?_
      refine j_iload hG 0 (dt dtX7_isAtRisk_0 13 rfl) rfl ?_
      refine j_iload_n hG 4 (dt dtX7_isAtRisk_0 14 rfl) rfl rfl ?_
      refine j_iconst hG (v := 4) (dt dtX7_isAtRisk_0 15 rfl) (by decide) ?_
      refine j_imul hG (dt dtX7_isAtRisk_0 16 rfl) ?_
      refine j_iload_n hG 5 (dt dtX7_isAtRisk_0 17 rfl) rfl rfl ?_
      refine j_iadd hG (dt dtX7_isAtRisk_0 18 rfl) ?_
      refine j_callSp hG h (V := fun y32 => (some (.int (y32)))) (S := fun y32 => (X, Y, o, dd, td)) (kc := 1) (ks := 6) (fun z hz => ct_X0_has hG.2.2.1 (gB G) _ _ _ _ _ hz) mf_X0_has ml_X7_247 rfl (rest := []) rfl (Nat.le_of_ble_eq_true rfl) (dt dtX7_isAtRisk_0 19 rfl) (by decide) (by decide) (fun y32 h => ?_)
      refine j_if_ne hG (tgt := 49) (dt dtX7_isAtRisk_0 20 rfl) (by decide) h (fun h => ?_) (fun h => ?_)
      · obtain rfl := Option.some.inj h
        exact j_throwSW hG hE hT tf_X7_161_271_165 (dt dtX7_isAtRisk_0 21 rfl) (dt dtX7_isAtRisk_0 22 rfl) (dt dtX7_isAtRisk_0 23 rfl) (dt dtX7_isAtRisk_0 24 rfl) (dt dtX7_isAtRisk_0 25 rfl) (by decide) (by decide) ⟨_, rfl, rfl, rfl⟩
      · refine J.weak (kc := 0) (ks := 0) (by decide) (by decide) ?_
        refine j_iload hG 0 (dt dtX7_isAtRisk_0 26 rfl) rfl ?_
        refine j_iload_n hG 4 (dt dtX7_isAtRisk_0 27 rfl) rfl rfl ?_
        refine j_iconst hG (v := 4) (dt dtX7_isAtRisk_0 28 rfl) (by decide) ?_
        refine j_imul hG (dt dtX7_isAtRisk_0 29 rfl) ?_
        refine j_iload_n hG 5 (dt dtX7_isAtRisk_0 30 rfl) rfl rfl ?_
        refine j_iadd hG (dt dtX7_isAtRisk_0 31 rfl) ?_
        refine j_callSp hG h (V := fun y56 => (some (.int (y56)))) (S := fun y56 => (X, Y, o, dd, td)) (kc := 0) (ks := 0) (fun z hz => ct_X0_isFound hG.2.2.1 (gB G) _ _ _ _ _ hz) mf_X0_isFound ml_X7_273 rfl (rest := []) rfl (Nat.le_of_ble_eq_true rfl) (dt dtX7_isAtRisk_0 32 rfl) (by decide) (by decide) (fun y56 h => ?_)
        obtain ⟨c59, h⟩ := wgd_ok h
        obtain rfl := Option.some.inj h
        exact j_zret hG hE (wokN_ok c59) ⟨_, rfl, rfl, rfl⟩ (dt dtX7_isAtRisk_0 33 rfl)
    · obtain rfl := Option.some.inj h
      exact jx_out hG hE hT ⟨_, rfl, rfl, rfl⟩
  · obtain rfl := Option.some.inj h
    exact jx_out hG hE hT ⟨_, rfl, rfl, rfl⟩
theorem ct_X7_isAtRisk {l : Launch} (hl : l.stackTraces = false) (B : wB) (X Y : wM) (o : Int64) (dd : UInt64) (td : wX) {a1 : Int32} {a2 : Int32} {a3 : Int32} {res : ((Nat) ⊕ (Int32))} (h : f_X7_isAtRisk X a1 a2 a3 = some res) : wMet l B yX7_isAtRisk cX7_isAtRisk 6 (some .boolean) 8 135 4 24 [.ref (wad B 0), .int (a1), .int (a2), .int (a3)] (X, Y, o, dd, td) (rpS res (fun z => rp (some (.int (z))) (X, Y, o, dd, td))) (xpS res (fun e E σ1 => E = exn e ∧ σ1 = (X, Y, o, dd, td))) :=
  wMet.of hl (by decide +kernel) (Nat.le_of_ble_eq_true rfl) (fun G hB hL hG hE hT => by subst hB; exact g_f_X7_isAtRisk hG hE hT h)
def f_X7_found (X : wM) (a1 : Int32) : Option ((Nat) ⊕ (Int32)) :=
  wthr (f_X7_toldTable X a1) (fun e => some (.inl e)) fun y2 =>
  wgd (decide (y2 < wT X)) ((f_X0_numberFound (X (39 + 4 * y2) 2)).bind fun y8 =>
  some (.inr y8))
set_option maxRecDepth 4000 in
theorem g_f_X7_found {G : wG} (hG : wOk G RX7 cX7_found 2 7 112) {X Y : wM} {o : Int64} {dd : UInt64} {td : wX} {res : ((Nat) ⊕ (Int32))} (hE : wEnd G (some .int) (rpS res (fun z => rp (some (.int (z))) (X, Y, o, dd, td))) (xpS res (fun e E σ1 => E = exn e ∧ σ1 = (X, Y, o, dd, td)))) (hT : wNoTab G) {a1 : Int32} (h : f_X7_found X a1 = some res) : J G 2 1 6 0 [(0, .ref (wad (gB G) 0)), (1, .int (a1))] [] (X, Y, o, dd, td) := by
  unfold f_X7_found at h
  refine j_aload_n hG 0 (dt dtX7_found_0 0 rfl) rfl rfl ?_
  refine j_iload_n hG 1 (dt dtX7_found_0 1 rfl) rfl rfl ?_
  refine j_callVt hG h (V := fun y2 => (some (.ref (td.1 (4 * y2))))) (S := fun y2 => (X, Y, o, dd, td)) (E0 := fun e => exn e) (S0 := fun e => (X, Y, o, dd, td)) (kc := 0) (ks := 0) (fun z hz => ct_X7_toldTable hG.2.2.1 (gB G) _ _ _ _ _ hz) mf_X7_toldTable ml_X7_232 0 (cv_0 _ _ _ _) rfl rfl (rest := []) rfl (Nat.le_of_ble_eq_true rfl) (dt dtX7_found_0 2 rfl) (by decide) (by decide) (fun y2 h => ?_) (fun e h => ?_)
  · obtain ⟨c5, h⟩ := wgd_ok h
    refine j_get hG cl_X5 (39 + 4 * y2) 2 (ct_0 _ _ _ _ _ _ (of_decide_eq_true c5)) (by decide) fl_X7_244 rfl rfl (dt dtX7_found_0 3 rfl) ?_
    refine j_callSp hG h (V := fun y8 => (some (.int (y8)))) (S := fun y8 => (X, Y, o, dd, td)) (kc := 0) (ks := 0) (fun z hz => ct_X0_numberFound hG.2.2.1 (gB G) _ _ _ _ _ hz) mf_X0_numberFound ml_X7_276 rfl (rest := []) rfl (Nat.le_of_ble_eq_true rfl) (dt dtX7_found_0 4 rfl) (by decide) (by decide) (fun y8 h => ?_)
    obtain rfl := Option.some.inj h
    exact j_iret hG hE ⟨_, rfl, rfl, rfl⟩ (dt dtX7_found_0 5 rfl)
  · obtain rfl := Option.some.inj h
    exact jx_out hG hE hT ⟨_, rfl, rfl, rfl⟩
theorem ct_X7_found {l : Launch} (hl : l.stackTraces = false) (B : wB) (X Y : wM) (o : Int64) (dd : UInt64) (td : wX) {a1 : Int32} {res : ((Nat) ⊕ (Int32))} (h : f_X7_found X a1 = some res) : wMet l B yX7_found cX7_found 2 (some .int) 7 112 1 6 [.ref (wad B 0), .int (a1)] (X, Y, o, dd, td) (rpS res (fun z => rp (some (.int (z))) (X, Y, o, dd, td))) (xpS res (fun e E σ1 => E = exn e ∧ σ1 = (X, Y, o, dd, td))) :=
  wMet.of hl (by decide +kernel) (Nat.le_of_ble_eq_true rfl) (fun G hB hL hG hE hT => by subst hB; exact g_f_X7_found hG hE hT h)
def f_X7_foundByWays (X : wM) (a1 : Int32) : Option ((Nat) ⊕ (Int32)) :=
  wthr (f_X7_toldTable X a1) (fun e => some (.inl e)) fun y2 =>
  wgd (decide (y2 < wT X)) ((f_X0_numberWithoutWay (X (39 + 4 * y2) 2)).bind fun y8 =>
  some (.inr y8))
set_option maxRecDepth 4000 in
theorem g_f_X7_foundByWays {G : wG} (hG : wOk G RX7 cX7_foundByWays 2 7 112) {X Y : wM} {o : Int64} {dd : UInt64} {td : wX} {res : ((Nat) ⊕ (Int32))} (hE : wEnd G (some .int) (rpS res (fun z => rp (some (.int (z))) (X, Y, o, dd, td))) (xpS res (fun e E σ1 => E = exn e ∧ σ1 = (X, Y, o, dd, td)))) (hT : wNoTab G) {a1 : Int32} (h : f_X7_foundByWays X a1 = some res) : J G 2 1 6 0 [(0, .ref (wad (gB G) 0)), (1, .int (a1))] [] (X, Y, o, dd, td) := by
  unfold f_X7_foundByWays at h
  refine j_aload_n hG 0 (dt dtX7_foundByWays_0 0 rfl) rfl rfl ?_
  refine j_iload_n hG 1 (dt dtX7_foundByWays_0 1 rfl) rfl rfl ?_
  refine j_callVt hG h (V := fun y2 => (some (.ref (td.1 (4 * y2))))) (S := fun y2 => (X, Y, o, dd, td)) (E0 := fun e => exn e) (S0 := fun e => (X, Y, o, dd, td)) (kc := 0) (ks := 0) (fun z hz => ct_X7_toldTable hG.2.2.1 (gB G) _ _ _ _ _ hz) mf_X7_toldTable ml_X7_232 0 (cv_0 _ _ _ _) rfl rfl (rest := []) rfl (Nat.le_of_ble_eq_true rfl) (dt dtX7_foundByWays_0 2 rfl) (by decide) (by decide) (fun y2 h => ?_) (fun e h => ?_)
  · obtain ⟨c5, h⟩ := wgd_ok h
    refine j_get hG cl_X5 (39 + 4 * y2) 2 (ct_0 _ _ _ _ _ _ (of_decide_eq_true c5)) (by decide) fl_X7_244 rfl rfl (dt dtX7_foundByWays_0 3 rfl) ?_
    refine j_callSp hG h (V := fun y8 => (some (.int (y8)))) (S := fun y8 => (X, Y, o, dd, td)) (kc := 0) (ks := 0) (fun z hz => ct_X0_numberWithoutWay hG.2.2.1 (gB G) _ _ _ _ _ hz) mf_X0_numberWithoutWay ml_X7_279 rfl (rest := []) rfl (Nat.le_of_ble_eq_true rfl) (dt dtX7_foundByWays_0 4 rfl) (by decide) (by decide) (fun y8 h => ?_)
    obtain rfl := Option.some.inj h
    exact j_iret hG hE ⟨_, rfl, rfl, rfl⟩ (dt dtX7_foundByWays_0 5 rfl)
  · obtain rfl := Option.some.inj h
    exact jx_out hG hE hT ⟨_, rfl, rfl, rfl⟩
theorem ct_X7_foundByWays {l : Launch} (hl : l.stackTraces = false) (B : wB) (X Y : wM) (o : Int64) (dd : UInt64) (td : wX) {a1 : Int32} {res : ((Nat) ⊕ (Int32))} (h : f_X7_foundByWays X a1 = some res) : wMet l B yX7_foundByWays cX7_foundByWays 2 (some .int) 7 112 1 6 [.ref (wad B 0), .int (a1)] (X, Y, o, dd, td) (rpS res (fun z => rp (some (.int (z))) (X, Y, o, dd, td))) (xpS res (fun e E σ1 => E = exn e ∧ σ1 = (X, Y, o, dd, td))) :=
  wMet.of hl (by decide +kernel) (Nat.le_of_ble_eq_true rfl) (fun G hB hL hG hE hT => by subst hB; exact g_f_X7_foundByWays hG hE hT h)
def f_X7_isSafeTable_69 (X : wM) (s0 : Int32) : Option (Int32) :=
  wgd (wokN .boolean s0) (some s0)
def f_X7_isSafeTable_68 (X : wM) : Option (Int32) :=
  f_X7_isSafeTable_69 X (0 : Int32)
def f_X7_isSafeTable_64 (X : wM) : Option (Int32) :=
  f_X7_isSafeTable_69 X (1 : Int32)
def f_X7_isSafeTable_31 (X : wM) (l1 : Nat) (s0 : Int32) : Option (Int32) :=
  (if s0 = 0 then f_X7_isSafeTable_68 X
  else wgd (decide (l1 < wT X)) ((if (X (39 + 4 * l1) 4) = 0 then wgd (decide (l1 < wT X)) ((f_X5_shows X (X 12) l1 (X 1 1)).bind fun y58 =>
  (if y58 = 0 then f_X7_isSafeTable_68 X
  else f_X7_isSafeTable_64 X))
  else f_X7_isSafeTable_64 X)))
def f_X7_isSafeTable_30 (X : wM) (l1 : Nat) : Option (Int32) :=
  f_X7_isSafeTable_31 X l1 (0 : Int32)
def f_X7_isSafeTable (X : wM) (a1 : Option Nat) : Option (Int32) :=
  (wopt a1 (some 0)
  fun i1 => wgd (decide (i1 < wT X)) ((f_X0_numberFound (X (39 + 4 * i1) 2)).bind fun y10 =>
  (if y10 = 0 then wgd (decide (i1 < wT X)) ((f_X0_numberWithoutWay (X (39 + 4 * i1) 2)).bind fun y20 =>
  (if y20 = 0 then f_X7_isSafeTable_31 X i1 (1 : Int32)
  else f_X7_isSafeTable_30 X i1))
  else f_X7_isSafeTable_30 X i1)))
set_option maxRecDepth 4000 in
theorem g_f_X7_isSafeTable_69 {G : wG} (hG : wOk G RX7 cX7_isSafeTable 3 4 92) {X Y : wM} {o : Int64} {dd : UInt64} {td : wX} {res : (Int32)} (hE : wEnd G (some .boolean) (rp (some (.int (res))) (X, Y, o, dd, td)) xp0) (hT : wNoTab G) {s0 : Int32} (h : f_X7_isSafeTable_69 X s0 = some res) : J G 3 0 0 69 [] [.int (s0)] (X, Y, o, dd, td) := by
  unfold f_X7_isSafeTable_69 at h
  obtain ⟨c69, h⟩ := wgd_ok h
  obtain rfl := Option.some.inj h
  exact j_zret hG hE (wokN_ok c69) ⟨rfl, rfl⟩ (dt dtX7_isSafeTable_0 33 rfl)
set_option maxRecDepth 4000 in
theorem g_f_X7_isSafeTable_68 {G : wG} (hG : wOk G RX7 cX7_isSafeTable 3 4 92) {X Y : wM} {o : Int64} {dd : UInt64} {td : wX} {res : (Int32)} (hE : wEnd G (some .boolean) (rp (some (.int (res))) (X, Y, o, dd, td)) xp0) (hT : wNoTab G) (h : f_X7_isSafeTable_68 X = some res) : J G 3 0 0 68 [] [] (X, Y, o, dd, td) := by
  unfold f_X7_isSafeTable_68 at h
  refine j_iconst hG (v := 0) (dt dtX7_isSafeTable_0 32 rfl) (by decide) ?_
  exact g_f_X7_isSafeTable_69 hG hE hT h
set_option maxRecDepth 4000 in
theorem g_f_X7_isSafeTable_64 {G : wG} (hG : wOk G RX7 cX7_isSafeTable 3 4 92) {X Y : wM} {o : Int64} {dd : UInt64} {td : wX} {res : (Int32)} (hE : wEnd G (some .boolean) (rp (some (.int (res))) (X, Y, o, dd, td)) xp0) (hT : wNoTab G) (h : f_X7_isSafeTable_64 X = some res) : J G 3 0 0 64 [] [] (X, Y, o, dd, td) := by
  unfold f_X7_isSafeTable_64 at h
  refine j_iconst hG (v := 1) (dt dtX7_isSafeTable_0 30 rfl) (by decide) ?_
  refine j_goto hG (tgt := 69) (dt dtX7_isSafeTable_0 31 rfl) (by decide) ?_
  exact g_f_X7_isSafeTable_69 hG hE hT h
set_option maxRecDepth 4000 in
theorem g_f_X7_isSafeTable_31 {G : wG} (hG : wOk G RX7 cX7_isSafeTable 3 4 92) {X Y : wM} {o : Int64} {dd : UInt64} {td : wX} {res : (Int32)} (hE : wEnd G (some .boolean) (rp (some (.int (res))) (X, Y, o, dd, td)) xp0) (hT : wNoTab G) {l1 : Nat} {s0 : Int32} (h : f_X7_isSafeTable_31 X l1 s0 = some res) : J G 3 0 0 31 [(0, .ref (wad (gB G) 0)), (1, .ref (td.1 (4 * l1)))] [.int (s0)] (X, Y, o, dd, td) := by
  unfold f_X7_isSafeTable_31 at h
  refine j_istore_n hG (lv' := [(2, .int (s0)), (0, .ref (wad (gB G) 0)), (1, .ref (td.1 (4 * l1)))]) (dt dtX7_isSafeTable_0 15 rfl) rfl (by decide) rfl ?_
  refine j_iload_n hG 0 (dt dtX7_isSafeTable_0 16 rfl) rfl rfl ?_
  refine j_if_eq hG (tgt := 68) (dt dtX7_isSafeTable_0 17 rfl) (by decide) h (fun h => ?_) (fun h => ?_)
  · refine j_lv (lv' := []) [] rfl ?_
    exact g_f_X7_isSafeTable_68 hG hE hT h
  · refine j_aload_n hG 2 (dt dtX7_isSafeTable_0 18 rfl) rfl rfl ?_
    obtain ⟨c37, h⟩ := wgd_ok h
    refine j_get hG cl_X5 (39 + 4 * l1) 4 (ct_0 _ _ _ _ _ _ (of_decide_eq_true c37)) (by decide) fl_X7_236 rfl rfl (dt dtX7_isSafeTable_0 19 rfl) ?_
    refine j_if_ne hG (tgt := 64) (dt dtX7_isSafeTable_0 20 rfl) (by decide) h (fun h => ?_) (fun h => ?_)
    · refine j_aload_n hG 2 (dt dtX7_isSafeTable_0 21 rfl) rfl rfl ?_
      refine j_aload_n hG 1 (dt dtX7_isSafeTable_0 22 rfl) rfl rfl ?_
      refine j_get hG cl_X7 0 0 (cv_0 _ _ _ _) (by decide) fl_X7_12 rfl rfl (dt dtX7_isSafeTable_0 23 rfl) ?_
      refine j_get hG cl_X4 1 1 (cv_1 _ _ _ _) (by decide) fl_X7_65 rfl rfl (dt dtX7_isSafeTable_0 24 rfl) ?_
      refine j_aload_n hG 1 (dt dtX7_isSafeTable_0 25 rfl) rfl rfl ?_
      refine j_get hG cl_X7 0 3 (cv_0 _ _ _ _) (by decide) fl_X7_39 rfl rfl (dt dtX7_isSafeTable_0 26 rfl) ?_
      refine j_get hG cl_X6 10 3 (cv_10 _ _ _ _) (by decide) fl_X7_195 rfl rfl (dt dtX7_isSafeTable_0 27 rfl) ?_
      obtain ⟨c58, h⟩ := wgd_ok h
      refine j_callVp hG h (V := fun y58 => (some (.int (y58)))) (S := fun y58 => (X, Y, o, dd, td)) (kc := 0) (ks := 0) (fun z hz => ct_X5_shows hG.2.2.1 (gB G) _ _ _ _ _ (cv_12 _ _ _ _) hz) mf_X5_shows ml_X7_308 _ (ct_0 _ _ _ _ _ _ (of_decide_eq_true c58)) rfl rfl (rest := []) rfl (Nat.le_of_ble_eq_true rfl) (dt dtX7_isSafeTable_0 28 rfl) (by decide) (by decide) (fun y58 h => ?_)
      refine j_if_eq hG (tgt := 68) (dt dtX7_isSafeTable_0 29 rfl) (by decide) h (fun h => ?_) (fun h => ?_)
      · refine j_lv (lv' := []) [] rfl ?_
        exact g_f_X7_isSafeTable_68 hG hE hT h
      · refine j_lv (lv' := []) [] rfl ?_
        exact g_f_X7_isSafeTable_64 hG hE hT h
    · refine j_lv (lv' := []) [] rfl ?_
      exact g_f_X7_isSafeTable_64 hG hE hT h
set_option maxRecDepth 4000 in
theorem g_f_X7_isSafeTable_30 {G : wG} (hG : wOk G RX7 cX7_isSafeTable 3 4 92) {X Y : wM} {o : Int64} {dd : UInt64} {td : wX} {res : (Int32)} (hE : wEnd G (some .boolean) (rp (some (.int (res))) (X, Y, o, dd, td)) xp0) (hT : wNoTab G) {l1 : Nat} (h : f_X7_isSafeTable_30 X l1 = some res) : J G 3 0 0 30 [(0, .ref (wad (gB G) 0)), (1, .ref (td.1 (4 * l1)))] [] (X, Y, o, dd, td) := by
  unfold f_X7_isSafeTable_30 at h
  refine j_iconst hG (v := 0) (dt dtX7_isSafeTable_0 14 rfl) (by decide) ?_
  exact g_f_X7_isSafeTable_31 hG hE hT h
set_option maxRecDepth 4000 in
theorem g_f_X7_isSafeTable {G : wG} (hG : wOk G RX7 cX7_isSafeTable 3 4 92) {X Y : wM} {o : Int64} {dd : UInt64} {td : wX} {res : (Int32)} (hE : wEnd G (some .boolean) (rp (some (.int (res))) (X, Y, o, dd, td)) xp0) (hT : wNoTab G) {a1 : Option Nat} (h : f_X7_isSafeTable X a1 = some res) : J G 3 0 0 0 [(0, .ref (wad (gB G) 0)), (1, va_rf (Option.map (fun i => td.1 (4 * i)) a1))] [] (X, Y, o, dd, td) := by
  unfold f_X7_isSafeTable at h
  refine j_qload_n hG 1 (dt dtX7_isSafeTable_0 0 rfl) rfl rfl ?_
  refine j_ifnonnull hG (td := fun i => td.1 (4 * i)) (tgt := 6) (dt dtX7_isSafeTable_0 1 rfl) (by decide) h (fun e h => ?_) (fun i1 e h => ?_)
  · subst e
    refine j_iconst hG (v := 0) (dt dtX7_isSafeTable_0 2 rfl) (by decide) ?_
    obtain rfl := Option.some.inj h
    exact j_zret hG hE (by decide) ⟨rfl, rfl⟩ (dt dtX7_isSafeTable_0 3 rfl)
  · subst e
    refine j_aload_n hG 1 (dt dtX7_isSafeTable_0 4 rfl) rfl rfl ?_
    obtain ⟨c7, h⟩ := wgd_ok h
    refine j_get hG cl_X5 (39 + 4 * i1) 2 (ct_0 _ _ _ _ _ _ (of_decide_eq_true c7)) (by decide) fl_X7_244 rfl rfl (dt dtX7_isSafeTable_0 5 rfl) ?_
    refine j_callSp hG h (V := fun y10 => (some (.int (y10)))) (S := fun y10 => (X, Y, o, dd, td)) (kc := 0) (ks := 0) (fun z hz => ct_X0_numberFound hG.2.2.1 (gB G) _ _ _ _ _ hz) mf_X0_numberFound ml_X7_276 rfl (rest := []) rfl (Nat.le_of_ble_eq_true rfl) (dt dtX7_isSafeTable_0 6 rfl) (by decide) (by decide) (fun y10 h => ?_)
    refine j_if_ne hG (tgt := 30) (dt dtX7_isSafeTable_0 7 rfl) (by decide) h (fun h => ?_) (fun h => ?_)
    · refine j_aload_n hG 1 (dt dtX7_isSafeTable_0 8 rfl) rfl rfl ?_
      obtain ⟨c17, h⟩ := wgd_ok h
      refine j_get hG cl_X5 (39 + 4 * i1) 2 (ct_0 _ _ _ _ _ _ (of_decide_eq_true c17)) (by decide) fl_X7_244 rfl rfl (dt dtX7_isSafeTable_0 9 rfl) ?_
      refine j_callSp hG h (V := fun y20 => (some (.int (y20)))) (S := fun y20 => (X, Y, o, dd, td)) (kc := 0) (ks := 0) (fun z hz => ct_X0_numberWithoutWay hG.2.2.1 (gB G) _ _ _ _ _ hz) mf_X0_numberWithoutWay ml_X7_279 rfl (rest := []) rfl (Nat.le_of_ble_eq_true rfl) (dt dtX7_isSafeTable_0 10 rfl) (by decide) (by decide) (fun y20 h => ?_)
      refine j_if_ne hG (tgt := 30) (dt dtX7_isSafeTable_0 11 rfl) (by decide) h (fun h => ?_) (fun h => ?_)
      · refine j_iconst hG (v := 1) (dt dtX7_isSafeTable_0 12 rfl) (by decide) ?_
        refine j_goto hG (tgt := 31) (dt dtX7_isSafeTable_0 13 rfl) (by decide) ?_
        exact g_f_X7_isSafeTable_31 hG hE hT h
      · exact g_f_X7_isSafeTable_30 hG hE hT h
    · exact g_f_X7_isSafeTable_30 hG hE hT h
theorem ct_X7_isSafeTable {l : Launch} (hl : l.stackTraces = false) (B : wB) (X Y : wM) (o : Int64) (dd : UInt64) (td : wX) {a1 : Option Nat} {res : (Int32)} (h : f_X7_isSafeTable X a1 = some res) : wMet l B yX7_isSafeTable cX7_isSafeTable 3 (some .boolean) 4 92 0 0 [.ref (wad B 0), va_rf (Option.map (fun i => td.1 (4 * i)) a1)] (X, Y, o, dd, td) (rp (some (.int (res))) (X, Y, o, dd, td)) xp0 :=
  wMet.of hl (by decide +kernel) (by cases a1 <;> exact Nat.le_of_ble_eq_true rfl) (fun G hB hL hG hE hT => by subst hB; exact g_f_X7_isSafeTable hG hE hT h)
def f_X7_isSafe_28b (k28 : wM → Int32 → Option (Int32 × wM)) (X : wM) (l1 : Int32) : Option (Int32 × wM) :=
  (if l1 < (X 0 7) then wtab X l1 fun v42 =>
  (f_X7_isSafeTable X v42).bind fun y43 =>
  (if y43 = 0 then some (0, X)
  else wbd (l1 + 1) fun v51 =>
  k28 X v51)
  else some (1, X))
def f_X7_isSafe_28 : Nat → wM → Int32 → Option (Int32 × wM)
  | 0 => fun _ _ => none
  | n + 1 => fun X l1 => f_X7_isSafe_28b (f_X7_isSafe_28 n) X l1
def f_X7_isSafe (X : wM) : Option (Int32 × wM) :=
  (f_X6_renew_13 X).bind fun y4 =>
  (f_X6_hasCounts_13 y4 (y4 12)).bind fun y18 =>
  (if y18 = 0 then some (0, y4)
  else f_X7_isSafe_28 1000 y4 (0 : Int32))
set_option maxRecDepth 4000 in
theorem g_f_X7_isSafe_28b {G : wG} (hG : wOk G RX7 cX7_isSafe 2 5 114) {X Y : wM} {o : Int64} {dd : UInt64} {td : wX} {res : (Int32 × wM)} (hE : wEnd G (some .boolean) (rp (some (.int (res.1))) (res.2, Y, o, dd, td)) xp0) (hT : wNoTab G) {k28 : wM → Int32 → Option (Int32 × wM)} (hk28 : ∀ (X : wM) (l1 : Int32), k28 X l1 = some res → J G 2 0 0 28 [(0, .ref (wad (gB G) 0)), (1, .int (l1))] [] (X, Y, o, dd, td)) {l1 : Int32} (h : f_X7_isSafe_28b k28 X l1 = some res) : J G 2 0 0 28 [(0, .ref (wad (gB G) 0)), (1, .int (l1))] [] (X, Y, o, dd, td) := by
  unfold f_X7_isSafe_28b at h
  refine j_iload_n hG 1 (dt dtX7_isSafe_0 14 rfl) rfl rfl ?_
  refine j_aload_n hG 0 (dt dtX7_isSafe_0 15 rfl) rfl rfl ?_
  refine j_get hG cl_X7 0 7 (cv_0 _ _ _ _) (by decide) fl_X7_61 rfl rfl (dt dtX7_isSafe_0 16 rfl) ?_
  refine j_icmp_ge hG (tgt := 57) (dt dtX7_isSafe_0 17 rfl) (by decide) h (fun h => ?_) (fun h => ?_)
  · refine j_aload_n hG 0 (dt dtX7_isSafe_0 18 rfl) rfl rfl ?_
    refine j_aload_n hG 0 (dt dtX7_isSafe_0 19 rfl) rfl rfl ?_
    refine j_get hG cl_X7 0 6 (cv_0 _ _ _ _) (by decide) fl_X7_57 rfl rfl (dt dtX7_isSafe_0 20 rfl) ?_
    refine j_iload_n hG 1 (dt dtX7_isSafe_0 21 rfl) rfl rfl ?_
    refine j_aaldW hG h (dt dtX7_isSafe_0 22 rfl) (fun v42 h => ?_)
    refine j_callVp hG h (V := fun y43 => (some (.int (y43)))) (S := fun y43 => (X, Y, o, dd, td)) (kc := 0) (ks := 0) (fun z hz => ct_X7_isSafeTable hG.2.2.1 (gB G) _ _ _ _ _ hz) mf_X7_isSafeTable ml_X7_304 0 (cv_0 _ _ _ _) rfl rfl (rest := []) rfl (Nat.le_of_ble_eq_true rfl) (dt dtX7_isSafe_0 23 rfl) (by decide) (by decide) (fun y43 h => ?_)
    refine j_if_ne hG (tgt := 51) (dt dtX7_isSafe_0 24 rfl) (by decide) h (fun h => ?_) (fun h => ?_)
    · refine j_iconst hG (v := 0) (dt dtX7_isSafe_0 25 rfl) (by decide) ?_
      obtain rfl := Option.some.inj h
      exact j_zret hG hE (by decide) ⟨rfl, rfl⟩ (dt dtX7_isSafe_0 26 rfl)
    · refine j_iincB hG 1 (fun v51 => [(1, .int (v51)), (0, .ref (wad (gB G) 0))]) (dt dtX7_isSafe_0 27 rfl) rfl rfl (by decide) (fun _ => rfl) h (fun v51 h => ?_)
      refine j_goto hG (tgt := 28) (dt dtX7_isSafe_0 28 rfl) (by decide) ?_
      refine j_lv (lv' := [(0, .ref (wad (gB G) 0)), (1, .int (v51))]) [1, 0] rfl ?_
      exact hk28 X v51 h
  · refine j_iconst hG (v := 1) (dt dtX7_isSafe_0 29 rfl) (by decide) ?_
    obtain rfl := Option.some.inj h
    exact j_zret hG hE (by decide) ⟨rfl, rfl⟩ (dt dtX7_isSafe_0 30 rfl)
set_option maxRecDepth 4000 in
theorem g_f_X7_isSafe_28 {G : wG} (hG : wOk G RX7 cX7_isSafe 2 5 114) {Y : wM} {o : Int64} {dd : UInt64} {td : wX} {res : (Int32 × wM)} (hE : wEnd G (some .boolean) (rp (some (.int (res.1))) (res.2, Y, o, dd, td)) xp0) (hT : wNoTab G) (n : Nat) : ∀ (X : wM) (l1 : Int32), f_X7_isSafe_28 n X l1 = some res → J G 2 0 0 28 [(0, .ref (wad (gB G) 0)), (1, .int (l1))] [] (X, Y, o, dd, td) := by
  induction n with
  | zero => intro X l1 h; cases h
  | succ n ih =>
    intro X l1 h
    exact g_f_X7_isSafe_28b hG hE hT ih h
set_option maxRecDepth 4000 in
theorem g_f_X7_isSafe {G : wG} (hG : wOk G RX7 cX7_isSafe 2 5 114) {X Y : wM} {o : Int64} {dd : UInt64} {td : wX} {res : (Int32 × wM)} (hE : wEnd G (some .boolean) (rp (some (.int (res.1))) (res.2, Y, o, dd, td)) xp0) (hT : wNoTab G) (h : f_X7_isSafe X = some res) : J G 2 0 0 0 [(0, .ref (wad (gB G) 0))] [] (X, Y, o, dd, td) := by
  unfold f_X7_isSafe at h
  refine j_aload_n hG 0 (dt dtX7_isSafe_0 0 rfl) rfl rfl ?_
  refine j_get hG cl_X7 0 4 (cv_0 _ _ _ _) (by decide) fl_X7_43 rfl rfl (dt dtX7_isSafe_0 1 rfl) ?_
  refine j_callVp hG h (V := fun y4 => none) (S := fun y4 => (y4, Y, o, dd, td)) (kc := 0) (ks := 0) (fun z hz => ct_X6_renew_13 hG.2.2.1 (gB G) _ _ _ _ _ hz) mf_X6_renew ml_X7_198 13 (cv_13 _ _ _ _) rfl rfl (rest := []) rfl (Nat.le_of_ble_eq_true rfl) (dt dtX7_isSafe_0 2 rfl) (by decide) (by decide) (fun y4 h => ?_)
  refine j_aload_n hG 0 (dt dtX7_isSafe_0 3 rfl) rfl rfl ?_
  refine j_get hG cl_X7 0 4 (cv_0 _ _ _ _) (by decide) fl_X7_43 rfl rfl (dt dtX7_isSafe_0 4 rfl) ?_
  refine j_aload_n hG 0 (dt dtX7_isSafe_0 5 rfl) rfl rfl ?_
  refine j_get hG cl_X7 0 3 (cv_0 _ _ _ _) (by decide) fl_X7_39 rfl rfl (dt dtX7_isSafe_0 6 rfl) ?_
  refine j_get hG cl_X6 10 3 (cv_10 _ _ _ _) (by decide) fl_X7_195 rfl rfl (dt dtX7_isSafe_0 7 rfl) ?_
  refine j_callVp hG h (V := fun y18 => (some (.int (y18)))) (S := fun y18 => (y4, Y, o, dd, td)) (kc := 0) (ks := 0) (fun z hz => ct_X6_hasCounts_13 hG.2.2.1 (gB G) _ _ _ _ _ (cv_12 _ _ _ _) hz) mf_X6_hasCounts ml_X7_300 13 (cv_13 _ _ _ _) rfl rfl (rest := []) rfl (Nat.le_of_ble_eq_true rfl) (dt dtX7_isSafe_0 8 rfl) (by decide) (by decide) (fun y18 h => ?_)
  refine j_if_ne hG (tgt := 26) (dt dtX7_isSafe_0 9 rfl) (by decide) h (fun h => ?_) (fun h => ?_)
  · refine j_iconst hG (v := 0) (dt dtX7_isSafe_0 10 rfl) (by decide) ?_
    obtain rfl := Option.some.inj h
    exact j_zret hG hE (by decide) ⟨rfl, rfl⟩ (dt dtX7_isSafe_0 11 rfl)
  · refine j_iconst hG (v := 0) (dt dtX7_isSafe_0 12 rfl) (by decide) ?_
    refine j_istore_n hG (lv' := [(1, .int (0)), (0, .ref (wad (gB G) 0))]) (dt dtX7_isSafe_0 13 rfl) rfl (by decide) rfl ?_
    refine j_lv (lv' := [(0, .ref (wad (gB G) 0)), (1, .int (0))]) [1, 0] rfl ?_
    exact g_f_X7_isSafe_28 hG hE hT 1000 y4 (0 : Int32) h
theorem ct_X7_isSafe {l : Launch} (hl : l.stackTraces = false) (B : wB) (X Y : wM) (o : Int64) (dd : UInt64) (td : wX) {res : (Int32 × wM)} (h : f_X7_isSafe X = some res) : wMet l B yX7_isSafe cX7_isSafe 2 (some .boolean) 5 114 0 0 [.ref (wad B 0)] (X, Y, o, dd, td) (rp (some (.int (res.1))) (res.2, Y, o, dd, td)) xp0 :=
  wMet.of hl (by decide +kernel) (Nat.le_of_ble_eq_true rfl) (fun G hB hL hG hE hT => by subst hB; exact g_f_X7_isSafe hG hE hT h)
