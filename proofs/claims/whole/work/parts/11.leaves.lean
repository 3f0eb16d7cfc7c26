def f_X4_openBlock (X : wM) : Option (Int32 × wM) :=
  wfld X 1 1 ((X 1 1) + 1) fun X =>
  some (((X 1 1) - 1), X)
set_option maxRecDepth 4000 in
theorem g_f_X4_openBlock {G : wG} (hG : wOk G RX4 cX4_openBlock 1 0 0) {X Y : wM} {o : Int64} {dd : UInt64} {td : wX} {res : (Int32 × wM)} (hE : wEnd G (some .int) (rp (some (.int (res.1))) (res.2, Y, o, dd, td)) xp0) (hT : wNoTab G) (h : f_X4_openBlock X = some res) : J G 1 0 0 0 [(0, .ref (wad (gB G) 1))] [] (X, Y, o, dd, td) := by
  unfold f_X4_openBlock at h
  refine j_aload_n hG 0 (dt dtX4_openBlock_0 0 rfl) rfl rfl ?_
  refine j_dup hG (dt dtX4_openBlock_0 1 rfl) rfl ?_
  refine j_get hG cl_X4 1 1 (cv_1 _ _ _ _) (by decide) fl_X4_15 rfl rfl (dt dtX4_openBlock_0 2 rfl) ?_
  refine j_iconst hG (v := 1) (dt dtX4_openBlock_0 3 rfl) (by decide) ?_
  refine j_iadd hG (dt dtX4_openBlock_0 4 rfl) ?_
  refine j_put hG cl_X4 1 1 (X := X) (k := 1) (fun X => (X, Y, o, dd, td)) (cv_1 _ _ _ _) (by decide) fl_X4_15 rfl rfl rfl rfl rfl (Nat.le_of_ble_eq_true rfl) (cs_1 _ _ _ _ (upd (X 1) 1 ((X 1 1) + 1))) h (dt dtX4_openBlock_0 5 rfl) (fun X h => ?_)
  refine j_aload_n hG 0 (dt dtX4_openBlock_0 6 rfl) rfl rfl ?_
  refine j_get hG cl_X4 1 1 (cv_1 _ _ _ _) (by decide) fl_X4_15 rfl rfl (dt dtX4_openBlock_0 7 rfl) ?_
  refine j_iconst hG (v := 1) (dt dtX4_openBlock_0 8 rfl) (by decide) ?_
  refine j_isub hG (dt dtX4_openBlock_0 9 rfl) ?_
  obtain rfl := Option.some.inj h
  exact j_iret hG hE ⟨rfl, rfl⟩ (dt dtX4_openBlock_0 10 rfl)
theorem ct_X4_openBlock {l : Launch} (hl : l.stackTraces = false) (B : wB) (X Y : wM) (o : Int64) (dd : UInt64) (td : wX) {res : (Int32 × wM)} (h : f_X4_openBlock X = some res) : wMet l B yX4_openBlock cX4_openBlock 1 (some .int) 0 0 0 0 [.ref (wad B 1)] (X, Y, o, dd, td) (rp (some (.int (res.1))) (res.2, Y, o, dd, td)) xp0 :=
  wMet.of hl (by decide +kernel) (Nat.le_of_ble_eq_true rfl) (fun G hB hL hG hE hT => by subst hB; exact g_f_X4_openBlock hG hE hT h)
def f_X1_placeOfPair (a1 : Int32) (a2 : Int32) : Option (Int32) :=
  some (((if a2 < a1 then a2 else a1) * 40) + (if a1 < a2 then a2 else a1))
set_option maxRecDepth 4000 in
theorem g_f_X1_placeOfPair {G : wG} (hG : wOk G RX1 cX1_placeOfPair 3 1 14) {X Y : wM} {o : Int64} {dd : UInt64} {td : wX} {res : (Int32)} (hE : wEnd G (some .int) (rp (some (.int (res))) (X, Y, o, dd, td)) xp0) (hT : wNoTab G) {a1 : Int32} {a2 : Int32} (h : f_X1_placeOfPair a1 a2 = some res) : J G 3 0 0 0 [(0, .ref (wad (gB G) 8)), (1, .int (a1)), (2, .int (a2))] [] (X, Y, o, dd, td) := by
  unfold f_X1_placeOfPair at h
  refine j_iload_n hG 1 (dt dtX1_placeOfPair_0 0 rfl) rfl rfl ?_
  refine j_iload_n hG 2 (dt dtX1_placeOfPair_0 1 rfl) rfl rfl ?_
  refine j_mmin hG mlm_X1_62 mm_min.1 mm_min.2.1 mm_min.2.2 (dt dtX1_placeOfPair_0 2 rfl) (by decide) (Nat.le_of_ble_eq_true rfl) ?_
  refine j_bipush hG (v := 40) (dt dtX1_placeOfPair_0 3 rfl) (by decide) ?_
  refine j_imul hG (dt dtX1_placeOfPair_0 4 rfl) ?_
  refine j_iload_n hG 1 (dt dtX1_placeOfPair_0 5 rfl) rfl rfl ?_
  refine j_iload_n hG 2 (dt dtX1_placeOfPair_0 6 rfl) rfl rfl ?_
  refine j_mmax hG mlm_X1_67 mm_max.1 mm_max.2.1 mm_max.2.2 (dt dtX1_placeOfPair_0 7 rfl) (by decide) (Nat.le_of_ble_eq_true rfl) ?_
  refine j_iadd hG (dt dtX1_placeOfPair_0 8 rfl) ?_
  obtain rfl := Option.some.inj h
  exact j_iret hG hE ⟨rfl, rfl⟩ (dt dtX1_placeOfPair_0 9 rfl)
theorem ct_X1_placeOfPair {l : Launch} (hl : l.stackTraces = false) (B : wB) (X Y : wM) (o : Int64) (dd : UInt64) (td : wX) {a1 : Int32} {a2 : Int32} {res : (Int32)} (h : f_X1_placeOfPair a1 a2 = some res) : wMet l B yX1_placeOfPair cX1_placeOfPair 3 (some .int) 1 14 0 0 [.ref (wad B 8), .int (a1), .int (a2)] (X, Y, o, dd, td) (rp (some (.int (res))) (X, Y, o, dd, td)) xp0 :=
  wMet.of hl (by decide +kernel) (Nat.le_of_ble_eq_true rfl) (fun G hB hL hG hE hT => by subst hB; exact g_f_X1_placeOfPair hG hE hT h)
def f_X3_blockAt (X : wM) (a1 : Int32) : Option (Int32) :=
  wget 40 (X 5) a1 fun v12 =>
  wget 20 (X 2) v12 fun v13 =>
  some v13
set_option maxRecDepth 4000 in
theorem g_f_X3_blockAt {G : wG} (hG : wOk G RX3 cX3_blockAt 2 0 0) {X Y : wM} {o : Int64} {dd : UInt64} {td : wX} {res : (Int32)} (hE : wEnd G (some .int) (rp (some (.int (res))) (X, Y, o, dd, td)) xp0) (hT : wNoTab G) {a1 : Int32} (h : f_X3_blockAt X a1 = some res) : J G 2 0 0 0 [(0, .ref (wad (gB G) 3)), (1, .int (a1))] [] (X, Y, o, dd, td) := by
  unfold f_X3_blockAt at h
  refine j_aload_n hG 0 (dt dtX3_blockAt_0 0 rfl) rfl rfl ?_
  refine j_get hG cl_X3 3 0 (cv_3 _ _ _ _) (by decide) fl_X3_29 rfl rfl (dt dtX3_blockAt_0 1 rfl) ?_
  refine j_get hG cl_X4 1 0 (cv_1 _ _ _ _) (by decide) fl_X3_33 rfl rfl (dt dtX3_blockAt_0 2 rfl) ?_
  refine j_aload_n hG 0 (dt dtX3_blockAt_0 3 rfl) rfl rfl ?_
  refine j_get hG cl_X3 3 2 (cv_3 _ _ _ _) (by decide) fl_X3_15 rfl rfl (dt dtX3_blockAt_0 4 rfl) ?_
  refine j_iload_n hG 1 (dt dtX3_blockAt_0 5 rfl) rfl rfl ?_
  refine j_iald hG 5 (cv_5 _ _ _ _) h (dt dtX3_blockAt_0 6 rfl) (fun v12 h => ?_)
  refine j_iald hG 2 (cv_2 _ _ _ _) h (dt dtX3_blockAt_0 7 rfl) (fun v13 h => ?_)
  obtain rfl := Option.some.inj h
  exact j_iret hG hE ⟨rfl, rfl⟩ (dt dtX3_blockAt_0 8 rfl)
theorem ct_X3_blockAt {l : Launch} (hl : l.stackTraces = false) (B : wB) (X Y : wM) (o : Int64) (dd : UInt64) (td : wX) {a1 : Int32} {res : (Int32)} (h : f_X3_blockAt X a1 = some res) : wMet l B yX3_blockAt cX3_blockAt 2 (some .int) 0 0 0 0 [.ref (wad B 3), .int (a1)] (X, Y, o, dd, td) (rp (some (.int (res))) (X, Y, o, dd, td)) xp0 :=
  wMet.of hl (by decide +kernel) (Nat.le_of_ble_eq_true rfl) (fun G hB hL hG hE hT => by subst hB; exact g_f_X3_blockAt hG hE hT h)
def f_X1_nameScore_31 (X : wM) (s0 : Int32) : Option (Int32) :=
  some s0
def f_X1_nameScore (X : wM) (a1 : Int32) (a2 : Int32) : Option (Int32) :=
  (if a1 = a2 then some (X 8 2)
  else (if (a1 / 10) = (a2 / 10) then f_X1_nameScore_31 X ((X 8 2) / 2)
  else f_X1_nameScore_31 X (0 : Int32)))
set_option maxRecDepth 4000 in
theorem g_f_X1_nameScore_31 {G : wG} (hG : wOk G RX1 cX1_nameScore 3 0 0) {X Y : wM} {o : Int64} {dd : UInt64} {td : wX} {res : (Int32)} (hE : wEnd G (some .int) (rp (some (.int (res))) (X, Y, o, dd, td)) xp0) (hT : wNoTab G) {s0 : Int32} (h : f_X1_nameScore_31 X s0 = some res) : J G 3 0 0 31 [] [.int (s0)] (X, Y, o, dd, td) := by
  unfold f_X1_nameScore_31 at h
  obtain rfl := Option.some.inj h
  exact j_iret hG hE ⟨rfl, rfl⟩ (dt dtX1_nameScore_0 19 rfl)
set_option maxRecDepth 4000 in
theorem g_f_X1_nameScore {G : wG} (hG : wOk G RX1 cX1_nameScore 3 0 0) {X Y : wM} {o : Int64} {dd : UInt64} {td : wX} {res : (Int32)} (hE : wEnd G (some .int) (rp (some (.int (res))) (X, Y, o, dd, td)) xp0) (hT : wNoTab G) {a1 : Int32} {a2 : Int32} (h : f_X1_nameScore X a1 a2 = some res) : J G 3 0 0 0 [(0, .ref (wad (gB G) 8)), (1, .int (a1)), (2, .int (a2))] [] (X, Y, o, dd, td) := by
  unfold f_X1_nameScore at h
  refine j_iload_n hG 1 (dt dtX1_nameScore_0 0 rfl) rfl rfl ?_
  refine j_iload_n hG 2 (dt dtX1_nameScore_0 1 rfl) rfl rfl ?_
  refine j_icmp_ne hG (tgt := 10) (dt dtX1_nameScore_0 2 rfl) (by decide) h (fun h => ?_) (fun h => ?_)
  · refine j_aload_n hG 0 (dt dtX1_nameScore_0 3 rfl) rfl rfl ?_
    refine j_get hG cl_X1 8 2 (cv_8 _ _ _ _) (by decide) fl_X1_15 rfl rfl (dt dtX1_nameScore_0 4 rfl) ?_
    obtain rfl := Option.some.inj h
    exact j_iret hG hE ⟨rfl, rfl⟩ (dt dtX1_nameScore_0 5 rfl)
  · refine j_iload_n hG 1 (dt dtX1_nameScore_0 6 rfl) rfl rfl ?_
    refine j_bipush hG (v := 10) (dt dtX1_nameScore_0 7 rfl) (by decide) ?_
    refine j_idiv hG (dt dtX1_nameScore_0 8 rfl) (by decide) ?_
    refine j_iload_n hG 2 (dt dtX1_nameScore_0 9 rfl) rfl rfl ?_
    refine j_bipush hG (v := 10) (dt dtX1_nameScore_0 10 rfl) (by decide) ?_
    refine j_idiv hG (dt dtX1_nameScore_0 11 rfl) (by decide) ?_
    refine j_icmp_ne hG (tgt := 30) (dt dtX1_nameScore_0 12 rfl) (by decide) h (fun h => ?_) (fun h => ?_)
    · refine j_aload_n hG 0 (dt dtX1_nameScore_0 13 rfl) rfl rfl ?_
      refine j_get hG cl_X1 8 2 (cv_8 _ _ _ _) (by decide) fl_X1_15 rfl rfl (dt dtX1_nameScore_0 14 rfl) ?_
      refine j_iconst hG (v := 2) (dt dtX1_nameScore_0 15 rfl) (by decide) ?_
      refine j_idiv hG (dt dtX1_nameScore_0 16 rfl) (by decide) ?_
      refine j_goto hG (tgt := 31) (dt dtX1_nameScore_0 17 rfl) (by decide) ?_
      refine j_lv (lv' := []) [] rfl ?_
      exact g_f_X1_nameScore_31 hG hE hT h
    · refine j_iconst hG (v := 0) (dt dtX1_nameScore_0 18 rfl) (by decide) ?_
      refine j_lv (lv' := []) [] rfl ?_
      exact g_f_X1_nameScore_31 hG hE hT h
theorem ct_X1_nameScore {l : Launch} (hl : l.stackTraces = false) (B : wB) (X Y : wM) (o : Int64) (dd : UInt64) (td : wX) {a1 : Int32} {a2 : Int32} {res : (Int32)} (h : f_X1_nameScore X a1 a2 = some res) : wMet l B yX1_nameScore cX1_nameScore 3 (some .int) 0 0 0 0 [.ref (wad B 8), .int (a1), .int (a2)] (X, Y, o, dd, td) (rp (some (.int (res))) (X, Y, o, dd, td)) xp0 :=
  wMet.of hl (by decide +kernel) (Nat.le_of_ble_eq_true rfl) (fun G hB hL hG hE hT => by subst hB; exact g_f_X1_nameScore hG hE hT h)
def f_X1_yearScore_29 (X : wM) (s0 : Int32) : Option (Int32) :=
  some s0
def f_X1_yearScore_19 (X : wM) : Option (Int32) :=
  f_X1_yearScore_29 X ((X 8 3) / 2)
def f_X1_yearScore (X : wM) (a1 : Int32) : Option (Int32) :=
  (if a1 = 0 then some (X 8 3)
  else (if a1 = 1 then f_X1_yearScore_19 X
  else (if a1 = (-1) then f_X1_yearScore_19 X
  else f_X1_yearScore_29 X (0 : Int32))))
set_option maxRecDepth 4000 in
theorem g_f_X1_yearScore_29 {G : wG} (hG : wOk G RX1 cX1_yearScore 2 0 0) {X Y : wM} {o : Int64} {dd : UInt64} {td : wX} {res : (Int32)} (hE : wEnd G (some .int) (rp (some (.int (res))) (X, Y, o, dd, td)) xp0) (hT : wNoTab G) {s0 : Int32} (h : f_X1_yearScore_29 X s0 = some res) : J G 2 0 0 29 [] [.int (s0)] (X, Y, o, dd, td) := by
  unfold f_X1_yearScore_29 at h
  obtain rfl := Option.some.inj h
  exact j_iret hG hE ⟨rfl, rfl⟩ (dt dtX1_yearScore_0 17 rfl)
set_option maxRecDepth 4000 in
theorem g_f_X1_yearScore_19 {G : wG} (hG : wOk G RX1 cX1_yearScore 2 0 0) {X Y : wM} {o : Int64} {dd : UInt64} {td : wX} {res : (Int32)} (hE : wEnd G (some .int) (rp (some (.int (res))) (X, Y, o, dd, td)) xp0) (hT : wNoTab G) (h : f_X1_yearScore_19 X = some res) : J G 2 0 0 19 [(0, .ref (wad (gB G) 8))] [] (X, Y, o, dd, td) := by
  unfold f_X1_yearScore_19 at h
  refine j_aload_n hG 0 (dt dtX1_yearScore_0 11 rfl) rfl rfl ?_
  refine j_get hG cl_X1 8 3 (cv_8 _ _ _ _) (by decide) fl_X1_19 rfl rfl (dt dtX1_yearScore_0 12 rfl) ?_
  refine j_iconst hG (v := 2) (dt dtX1_yearScore_0 13 rfl) (by decide) ?_
  refine j_idiv hG (dt dtX1_yearScore_0 14 rfl) (by decide) ?_
  refine j_goto hG (tgt := 29) (dt dtX1_yearScore_0 15 rfl) (by decide) ?_
  refine j_lv (lv' := []) [] rfl ?_
  exact g_f_X1_yearScore_29 hG hE hT h
set_option maxRecDepth 4000 in
theorem g_f_X1_yearScore {G : wG} (hG : wOk G RX1 cX1_yearScore 2 0 0) {X Y : wM} {o : Int64} {dd : UInt64} {td : wX} {res : (Int32)} (hE : wEnd G (some .int) (rp (some (.int (res))) (X, Y, o, dd, td)) xp0) (hT : wNoTab G) {a1 : Int32} (h : f_X1_yearScore X a1 = some res) : J G 2 0 0 0 [(0, .ref (wad (gB G) 8)), (1, .int (a1))] [] (X, Y, o, dd, td) := by
  unfold f_X1_yearScore at h
  refine j_iload_n hG 1 (dt dtX1_yearScore_0 0 rfl) rfl rfl ?_
  refine j_if_ne hG (tgt := 9) (dt dtX1_yearScore_0 1 rfl) (by decide) h (fun h => ?_) (fun h => ?_)
  · refine j_aload_n hG 0 (dt dtX1_yearScore_0 2 rfl) rfl rfl ?_
    refine j_get hG cl_X1 8 3 (cv_8 _ _ _ _) (by decide) fl_X1_19 rfl rfl (dt dtX1_yearScore_0 3 rfl) ?_
    obtain rfl := Option.some.inj h
    exact j_iret hG hE ⟨rfl, rfl⟩ (dt dtX1_yearScore_0 4 rfl)
  · refine j_iload_n hG 1 (dt dtX1_yearScore_0 5 rfl) rfl rfl ?_
    refine j_iconst hG (v := 1) (dt dtX1_yearScore_0 6 rfl) (by decide) ?_
    refine j_icmp_eq hG (tgt := 19) (dt dtX1_yearScore_0 7 rfl) (by decide) h (fun h => ?_) (fun h => ?_)
    · refine j_lv (lv' := [(0, .ref (wad (gB G) 8))]) [0] rfl ?_
      exact g_f_X1_yearScore_19 hG hE hT h
    · refine j_iload_n hG 1 (dt dtX1_yearScore_0 8 rfl) rfl rfl ?_
      refine j_iconst hG (v := (-1)) (dt dtX1_yearScore_0 9 rfl) (by decide) ?_
      refine j_icmp_ne hG (tgt := 28) (dt dtX1_yearScore_0 10 rfl) (by decide) h (fun h => ?_) (fun h => ?_)
      · refine j_lv (lv' := [(0, .ref (wad (gB G) 8))]) [0] rfl ?_
        exact g_f_X1_yearScore_19 hG hE hT h
      · refine j_iconst hG (v := 0) (dt dtX1_yearScore_0 16 rfl) (by decide) ?_
        refine j_lv (lv' := []) [] rfl ?_
        exact g_f_X1_yearScore_29 hG hE hT h
theorem ct_X1_yearScore {l : Launch} (hl : l.stackTraces = false) (B : wB) (X Y : wM) (o : Int64) (dd : UInt64) (td : wX) {a1 : Int32} {res : (Int32)} (h : f_X1_yearScore X a1 = some res) : wMet l B yX1_yearScore cX1_yearScore 2 (some .int) 0 0 0 0 [.ref (wad B 8), .int (a1)] (X, Y, o, dd, td) (rp (some (.int (res))) (X, Y, o, dd, td)) xp0 :=
  wMet.of hl (by decide +kernel) (Nat.le_of_ble_eq_true rfl) (fun G hB hL hG hE hT => by subst hB; exact g_f_X1_yearScore hG hE hT h)
def f_X1_placeScore_23 (X : wM) (s0 : Int32) : Option (Int32) :=
  some s0
def f_X1_placeScore (X : wM) (a1 : Int32) (a2 : Int32) : Option (Int32) :=
  (if a1 = 0 then (if a2 = 0 then f_X1_placeScore_23 X (0 : Int32)
  else f_X1_placeScore_23 X ((X 8 4) / 2))
  else some (X 8 4))
set_option maxRecDepth 4000 in
theorem g_f_X1_placeScore_23 {G : wG} (hG : wOk G RX1 cX1_placeScore 3 0 0) {X Y : wM} {o : Int64} {dd : UInt64} {td : wX} {res : (Int32)} (hE : wEnd G (some .int) (rp (some (.int (res))) (X, Y, o, dd, td)) xp0) (hT : wNoTab G) {s0 : Int32} (h : f_X1_placeScore_23 X s0 = some res) : J G 3 0 0 23 [] [.int (s0)] (X, Y, o, dd, td) := by
  unfold f_X1_placeScore_23 at h
  obtain rfl := Option.some.inj h
  exact j_iret hG hE ⟨rfl, rfl⟩ (dt dtX1_placeScore_0 13 rfl)
set_option maxRecDepth 4000 in
theorem g_f_X1_placeScore {G : wG} (hG : wOk G RX1 cX1_placeScore 3 0 0) {X Y : wM} {o : Int64} {dd : UInt64} {td : wX} {res : (Int32)} (hE : wEnd G (some .int) (rp (some (.int (res))) (X, Y, o, dd, td)) xp0) (hT : wNoTab G) {a1 : Int32} {a2 : Int32} (h : f_X1_placeScore X a1 a2 = some res) : J G 3 0 0 0 [(0, .ref (wad (gB G) 8)), (1, .int (a1)), (2, .int (a2))] [] (X, Y, o, dd, td) := by
  unfold f_X1_placeScore at h
  refine j_iload_n hG 1 (dt dtX1_placeScore_0 0 rfl) rfl rfl ?_
  refine j_if_eq hG (tgt := 9) (dt dtX1_placeScore_0 1 rfl) (by decide) h (fun h => ?_) (fun h => ?_)
  · refine j_iload_n hG 2 (dt dtX1_placeScore_0 5 rfl) rfl rfl ?_
    refine j_if_eq hG (tgt := 22) (dt dtX1_placeScore_0 6 rfl) (by decide) h (fun h => ?_) (fun h => ?_)
    · refine j_iconst hG (v := 0) (dt dtX1_placeScore_0 12 rfl) (by decide) ?_
      refine j_lv (lv' := []) [] rfl ?_
      exact g_f_X1_placeScore_23 hG hE hT h
    · refine j_aload_n hG 0 (dt dtX1_placeScore_0 7 rfl) rfl rfl ?_
      refine j_get hG cl_X1 8 4 (cv_8 _ _ _ _) (by decide) fl_X1_22 rfl rfl (dt dtX1_placeScore_0 8 rfl) ?_
      refine j_iconst hG (v := 2) (dt dtX1_placeScore_0 9 rfl) (by decide) ?_
      refine j_idiv hG (dt dtX1_placeScore_0 10 rfl) (by decide) ?_
      refine j_goto hG (tgt := 23) (dt dtX1_placeScore_0 11 rfl) (by decide) ?_
      refine j_lv (lv' := []) [] rfl ?_
      exact g_f_X1_placeScore_23 hG hE hT h
  · refine j_aload_n hG 0 (dt dtX1_placeScore_0 2 rfl) rfl rfl ?_
    refine j_get hG cl_X1 8 4 (cv_8 _ _ _ _) (by decide) fl_X1_22 rfl rfl (dt dtX1_placeScore_0 3 rfl) ?_
    obtain rfl := Option.some.inj h
    exact j_iret hG hE ⟨rfl, rfl⟩ (dt dtX1_placeScore_0 4 rfl)
theorem ct_X1_placeScore {l : Launch} (hl : l.stackTraces = false) (B : wB) (X Y : wM) (o : Int64) (dd : UInt64) (td : wX) {a1 : Int32} {a2 : Int32} {res : (Int32)} (h : f_X1_placeScore X a1 a2 = some res) : wMet l B yX1_placeScore cX1_placeScore 3 (some .int) 0 0 0 0 [.ref (wad B 8), .int (a1), .int (a2)] (X, Y, o, dd, td) (rp (some (.int (res))) (X, Y, o, dd, td)) xp0 :=
  wMet.of hl (by decide +kernel) (Nat.le_of_ble_eq_true rfl) (fun G hB hL hG hE hT => by subst hB; exact g_f_X1_placeScore hG hE hT h)
def f_X1_scoreOf_51 (X : wM) (l1 : Int32) (l2 : Int32) (l3 : Int32) (s0 : Int32) : Option (Int32) :=
  wget 40 (X 6) l1 fun v62 =>
  wget 40 (X 6) l2 fun v71 =>
  (f_X1_nameScore X v62 v71).bind fun y72 =>
  wget 40 (X 7) l1 fun v84 =>
  wget 40 (X 7) l2 fun v93 =>
  (f_X1_yearScore X (v84 - v93)).bind fun y95 =>
  (f_X1_placeScore X l3 s0).bind fun y103 =>
  some ((y72 + y95) + y103)
def f_X1_scoreOf_26 (X : wM) (l1 : Int32) (l2 : Int32) (s0 : Int32) : Option (Int32) :=
  (f_X3_blockAt X l1).bind fun y32 =>
  (f_X3_blockAt X l2).bind fun y40 =>
  (if y32 = y40 then f_X1_scoreOf_51 X l1 l2 s0 (1 : Int32)
  else f_X1_scoreOf_51 X l1 l2 s0 (0 : Int32))
def f_X1_scoreOf (X : wM) (a1 : Int32) (a2 : Int32) : Option (Int32) :=
  wget 40 (X 5) a1 fun v8 =>
  wget 40 (X 5) a2 fun v17 =>
  (if v8 = v17 then f_X1_scoreOf_26 X a1 a2 (1 : Int32)
  else f_X1_scoreOf_26 X a1 a2 (0 : Int32))
set_option maxRecDepth 4000 in
theorem g_f_X1_scoreOf_51 {G : wG} (hG : wOk G RX1 cX1_scoreOf 5 1 22) {X Y : wM} {o : Int64} {dd : UInt64} {td : wX} {res : (Int32)} (hE : wEnd G (some .int) (rp (some (.int (res))) (X, Y, o, dd, td)) xp0) (hT : wNoTab G) {l1 : Int32} {l2 : Int32} {l3 : Int32} {s0 : Int32} (h : f_X1_scoreOf_51 X l1 l2 l3 s0 = some res) : J G 5 0 0 51 [(0, .ref (wad (gB G) 8)), (1, .int (l1)), (2, .int (l2)), (3, .int (l3))] [.int (s0)] (X, Y, o, dd, td) := by
  unfold f_X1_scoreOf_51 at h
  refine j_istore hG (lv' := [(4, .int (s0)), (0, .ref (wad (gB G) 8)), (1, .int (l1)), (2, .int (l2)), (3, .int (l3))]) (dt dtX1_scoreOf_0 27 rfl) (by decide) rfl ?_
  refine j_aload_n hG 1 (dt dtX1_scoreOf_0 28 rfl) rfl rfl ?_
  refine j_aload_n hG 1 (dt dtX1_scoreOf_0 29 rfl) rfl rfl ?_
  refine j_get hG cl_X1 8 0 (cv_8 _ _ _ _) (by decide) fl_X1_31 rfl rfl (dt dtX1_scoreOf_0 30 rfl) ?_
  refine j_get hG cl_X3 3 3 (cv_3 _ _ _ _) (by decide) fl_X1_45 rfl rfl (dt dtX1_scoreOf_0 31 rfl) ?_
  refine j_iload_n hG 2 (dt dtX1_scoreOf_0 32 rfl) rfl rfl ?_
  refine j_iald hG 6 (cv_6 _ _ _ _) h (dt dtX1_scoreOf_0 33 rfl) (fun v62 h => ?_)
  refine j_aload_n hG 1 (dt dtX1_scoreOf_0 34 rfl) rfl rfl ?_
  refine j_get hG cl_X1 8 0 (cv_8 _ _ _ _) (by decide) fl_X1_31 rfl rfl (dt dtX1_scoreOf_0 35 rfl) ?_
  refine j_get hG cl_X3 3 3 (cv_3 _ _ _ _) (by decide) fl_X1_45 rfl rfl (dt dtX1_scoreOf_0 36 rfl) ?_
  refine j_iload_n hG 3 (dt dtX1_scoreOf_0 37 rfl) rfl rfl ?_
  refine j_iald hG 6 (cv_6 _ _ _ _) h (dt dtX1_scoreOf_0 38 rfl) (fun v71 h => ?_)
  refine j_callVp hG h (V := fun y72 => (some (.int (y72)))) (S := fun y72 => (X, Y, o, dd, td)) (kc := 0) (ks := 0) (fun z hz => ct_X1_nameScore hG.2.2.1 (gB G) _ _ _ _ _ hz) mf_X1_nameScore ml_X1_48 8 (cv_8 _ _ _ _) rfl rfl (rest := []) rfl (Nat.le_of_ble_eq_true rfl) (dt dtX1_scoreOf_0 39 rfl) (by decide) (by decide) (fun y72 h => ?_)
  refine j_aload_n hG 1 (dt dtX1_scoreOf_0 40 rfl) rfl rfl ?_
  refine j_aload_n hG 1 (dt dtX1_scoreOf_0 41 rfl) rfl rfl ?_
  refine j_get hG cl_X1 8 0 (cv_8 _ _ _ _) (by decide) fl_X1_31 rfl rfl (dt dtX1_scoreOf_0 42 rfl) ?_
  refine j_get hG cl_X3 3 4 (cv_3 _ _ _ _) (by decide) fl_X1_52 rfl rfl (dt dtX1_scoreOf_0 43 rfl) ?_
  refine j_iload_n hG 2 (dt dtX1_scoreOf_0 44 rfl) rfl rfl ?_
  refine j_iald hG 7 (cv_7 _ _ _ _) h (dt dtX1_scoreOf_0 45 rfl) (fun v84 h => ?_)
  refine j_aload_n hG 1 (dt dtX1_scoreOf_0 46 rfl) rfl rfl ?_
  refine j_get hG cl_X1 8 0 (cv_8 _ _ _ _) (by decide) fl_X1_31 rfl rfl (dt dtX1_scoreOf_0 47 rfl) ?_
  refine j_get hG cl_X3 3 4 (cv_3 _ _ _ _) (by decide) fl_X1_52 rfl rfl (dt dtX1_scoreOf_0 48 rfl) ?_
  refine j_iload_n hG 3 (dt dtX1_scoreOf_0 49 rfl) rfl rfl ?_
  refine j_iald hG 7 (cv_7 _ _ _ _) h (dt dtX1_scoreOf_0 50 rfl) (fun v93 h => ?_)
  refine j_isub hG (dt dtX1_scoreOf_0 51 rfl) ?_
  refine j_callVp hG h (V := fun y95 => (some (.int (y95)))) (S := fun y95 => (X, Y, o, dd, td)) (kc := 0) (ks := 0) (fun z hz => ct_X1_yearScore hG.2.2.1 (gB G) _ _ _ _ _ hz) mf_X1_yearScore ml_X1_55 8 (cv_8 _ _ _ _) rfl rfl (rest := [.int (y72)]) rfl (Nat.le_of_ble_eq_true rfl) (dt dtX1_scoreOf_0 52 rfl) (by decide) (by decide) (fun y95 h => ?_)
  refine j_iadd hG (dt dtX1_scoreOf_0 53 rfl) ?_
  refine j_aload_n hG 1 (dt dtX1_scoreOf_0 54 rfl) rfl rfl ?_
  refine j_iload_n hG 4 (dt dtX1_scoreOf_0 55 rfl) rfl rfl ?_
  refine j_iload hG 0 (dt dtX1_scoreOf_0 56 rfl) rfl ?_
  refine j_callVp hG h (V := fun y103 => (some (.int (y103)))) (S := fun y103 => (X, Y, o, dd, td)) (kc := 0) (ks := 0) (fun z hz => ct_X1_placeScore hG.2.2.1 (gB G) _ _ _ _ _ hz) mf_X1_placeScore ml_X1_58 8 (cv_8 _ _ _ _) rfl rfl (rest := [.int ((y72 + y95))]) rfl (Nat.le_of_ble_eq_true rfl) (dt dtX1_scoreOf_0 57 rfl) (by decide) (by decide) (fun y103 h => ?_)
  refine j_iadd hG (dt dtX1_scoreOf_0 58 rfl) ?_
  obtain rfl := Option.some.inj h
  exact j_iret hG hE ⟨rfl, rfl⟩ (dt dtX1_scoreOf_0 59 rfl)
set_option maxRecDepth 4000 in
theorem g_f_X1_scoreOf_26 {G : wG} (hG : wOk G RX1 cX1_scoreOf 5 1 22) {X Y : wM} {o : Int64} {dd : UInt64} {td : wX} {res : (Int32)} (hE : wEnd G (some .int) (rp (some (.int (res))) (X, Y, o, dd, td)) xp0) (hT : wNoTab G) {l1 : Int32} {l2 : Int32} {s0 : Int32} (h : f_X1_scoreOf_26 X l1 l2 s0 = some res) : J G 5 0 0 26 [(0, .ref (wad (gB G) 8)), (1, .int (l1)), (2, .int (l2))] [.int (s0)] (X, Y, o, dd, td) := by
  unfold f_X1_scoreOf_26 at h
  refine j_istore_n hG (lv' := [(3, .int (s0)), (0, .ref (wad (gB G) 8)), (1, .int (l1)), (2, .int (l2))]) (dt dtX1_scoreOf_0 14 rfl) rfl (by decide) rfl ?_
  refine j_aload_n hG 1 (dt dtX1_scoreOf_0 15 rfl) rfl rfl ?_
  refine j_get hG cl_X1 8 0 (cv_8 _ _ _ _) (by decide) fl_X1_31 rfl rfl (dt dtX1_scoreOf_0 16 rfl) ?_
  refine j_iload_n hG 2 (dt dtX1_scoreOf_0 17 rfl) rfl rfl ?_
  refine j_callVp hG h (V := fun y32 => (some (.int (y32)))) (S := fun y32 => (X, Y, o, dd, td)) (kc := 0) (ks := 0) (fun z hz => ct_X3_blockAt hG.2.2.1 (gB G) _ _ _ _ _ hz) mf_X3_blockAt ml_X1_41 3 (cv_3 _ _ _ _) rfl rfl (rest := []) rfl (Nat.le_of_ble_eq_true rfl) (dt dtX1_scoreOf_0 18 rfl) (by decide) (by decide) (fun y32 h => ?_)
  refine j_aload_n hG 1 (dt dtX1_scoreOf_0 19 rfl) rfl rfl ?_
  refine j_get hG cl_X1 8 0 (cv_8 _ _ _ _) (by decide) fl_X1_31 rfl rfl (dt dtX1_scoreOf_0 20 rfl) ?_
  refine j_iload_n hG 3 (dt dtX1_scoreOf_0 21 rfl) rfl rfl ?_
  refine j_callVp hG h (V := fun y40 => (some (.int (y40)))) (S := fun y40 => (X, Y, o, dd, td)) (kc := 0) (ks := 0) (fun z hz => ct_X3_blockAt hG.2.2.1 (gB G) _ _ _ _ _ hz) mf_X3_blockAt ml_X1_41 3 (cv_3 _ _ _ _) rfl rfl (rest := [.int (y32)]) rfl (Nat.le_of_ble_eq_true rfl) (dt dtX1_scoreOf_0 22 rfl) (by decide) (by decide) (fun y40 h => ?_)
  refine j_icmp_ne hG (tgt := 50) (dt dtX1_scoreOf_0 23 rfl) (by decide) h (fun h => ?_) (fun h => ?_)
  · refine j_iconst hG (v := 1) (dt dtX1_scoreOf_0 24 rfl) (by decide) ?_
    refine j_goto hG (tgt := 51) (dt dtX1_scoreOf_0 25 rfl) (by decide) ?_
    refine j_lv (lv' := [(0, .ref (wad (gB G) 8)), (1, .int (l1)), (2, .int (l2)), (3, .int (s0))]) [1, 2, 3, 0] rfl ?_
    exact g_f_X1_scoreOf_51 hG hE hT h
  · refine j_iconst hG (v := 0) (dt dtX1_scoreOf_0 26 rfl) (by decide) ?_
    refine j_lv (lv' := [(0, .ref (wad (gB G) 8)), (1, .int (l1)), (2, .int (l2)), (3, .int (s0))]) [1, 2, 3, 0] rfl ?_
    exact g_f_X1_scoreOf_51 hG hE hT h
set_option maxRecDepth 4000 in
theorem g_f_X1_scoreOf {G : wG} (hG : wOk G RX1 cX1_scoreOf 5 1 22) {X Y : wM} {o : Int64} {dd : UInt64} {td : wX} {res : (Int32)} (hE : wEnd G (some .int) (rp (some (.int (res))) (X, Y, o, dd, td)) xp0) (hT : wNoTab G) {a1 : Int32} {a2 : Int32} (h : f_X1_scoreOf X a1 a2 = some res) : J G 5 0 0 0 [(0, .ref (wad (gB G) 8)), (1, .int (a1)), (2, .int (a2))] [] (X, Y, o, dd, td) := by
  unfold f_X1_scoreOf at h
  refine j_aload_n hG 0 (dt dtX1_scoreOf_0 0 rfl) rfl rfl ?_
  refine j_get hG cl_X1 8 0 (cv_8 _ _ _ _) (by decide) fl_X1_31 rfl rfl (dt dtX1_scoreOf_0 1 rfl) ?_
  refine j_get hG cl_X3 3 2 (cv_3 _ _ _ _) (by decide) fl_X1_35 rfl rfl (dt dtX1_scoreOf_0 2 rfl) ?_
  refine j_iload_n hG 1 (dt dtX1_scoreOf_0 3 rfl) rfl rfl ?_
  refine j_iald hG 5 (cv_5 _ _ _ _) h (dt dtX1_scoreOf_0 4 rfl) (fun v8 h => ?_)
  refine j_aload_n hG 0 (dt dtX1_scoreOf_0 5 rfl) rfl rfl ?_
  refine j_get hG cl_X1 8 0 (cv_8 _ _ _ _) (by decide) fl_X1_31 rfl rfl (dt dtX1_scoreOf_0 6 rfl) ?_
  refine j_get hG cl_X3 3 2 (cv_3 _ _ _ _) (by decide) fl_X1_35 rfl rfl (dt dtX1_scoreOf_0 7 rfl) ?_
  refine j_iload_n hG 2 (dt dtX1_scoreOf_0 8 rfl) rfl rfl ?_
  refine j_iald hG 5 (cv_5 _ _ _ _) h (dt dtX1_scoreOf_0 9 rfl) (fun v17 h => ?_)
  refine j_icmp_ne hG (tgt := 25) (dt dtX1_scoreOf_0 10 rfl) (by decide) h (fun h => ?_) (fun h => ?_)
  · refine j_iconst hG (v := 1) (dt dtX1_scoreOf_0 11 rfl) (by decide) ?_
    refine j_goto hG (tgt := 26) (dt dtX1_scoreOf_0 12 rfl) (by decide) ?_
    exact g_f_X1_scoreOf_26 hG hE hT h
  · refine j_iconst hG (v := 0) (dt dtX1_scoreOf_0 13 rfl) (by decide) ?_
    exact g_f_X1_scoreOf_26 hG hE hT h
theorem ct_X1_scoreOf {l : Launch} (hl : l.stackTraces = false) (B : wB) (X Y : wM) (o : Int64) (dd : UInt64) (td : wX) {a1 : Int32} {a2 : Int32} {res : (Int32)} (h : f_X1_scoreOf X a1 a2 = some res) : wMet l B yX1_scoreOf cX1_scoreOf 5 (some .int) 1 22 0 0 [.ref (wad B 8), .int (a1), .int (a2)] (X, Y, o, dd, td) (rp (some (.int (res))) (X, Y, o, dd, td)) xp0 :=
  wMet.of hl (by decide +kernel) (Nat.le_of_ble_eq_true rfl) (fun G hB hL hG hE hT => by subst hB; exact g_f_X1_scoreOf hG hE hT h)
def f_X1_kindOf_56 (X : wM) (s0 : Int32) : Option (Int32) :=
  wgd (wokN .char s0) (some s0)
def f_X1_kindOf (X : wM) (a1 : Int32) (a2 : Int32) : Option (Int32) :=
  (f_X1_placeOfPair a1 a2).bind fun y7 =>
  wget 1600 (X 9) y7 fun v10 =>
  (if v10 = 45 then (f_X1_scoreOf X a1 a2).bind fun y23 =>
  (if y23 < (X 8 6) then (if y23 < (X 8 5) then f_X1_kindOf_56 X (110 : Int32)
  else f_X1_kindOf_56 X (63 : Int32))
  else some 121)
  else wgd (wokN .char v10) (some v10))
set_option maxRecDepth 4000 in
theorem g_f_X1_kindOf_56 {G : wG} (hG : wOk G RX1 cX1_kindOf 5 2 46) {X Y : wM} {o : Int64} {dd : UInt64} {td : wX} {res : (Int32)} (hE : wEnd G (some .char) (rp (some (.int (res))) (X, Y, o, dd, td)) xp0) (hT : wNoTab G) {s0 : Int32} (h : f_X1_kindOf_56 X s0 = some res) : J G 5 0 0 56 [] [.int (s0)] (X, Y, o, dd, td) := by
  unfold f_X1_kindOf_56 at h
  obtain ⟨c56, h⟩ := wgd_ok h
  obtain rfl := Option.some.inj h
  exact j_zret hG hE (wokN_ok c56) ⟨rfl, rfl⟩ (dt dtX1_kindOf_0 31 rfl)
set_option maxRecDepth 4000 in
theorem g_f_X1_kindOf {G : wG} (hG : wOk G RX1 cX1_kindOf 5 2 46) {X Y : wM} {o : Int64} {dd : UInt64} {td : wX} {res : (Int32)} (hE : wEnd G (some .char) (rp (some (.int (res))) (X, Y, o, dd, td)) xp0) (hT : wNoTab G) {a1 : Int32} {a2 : Int32} (h : f_X1_kindOf X a1 a2 = some res) : J G 5 0 0 0 [(0, .ref (wad (gB G) 8)), (1, .int (a1)), (2, .int (a2))] [] (X, Y, o, dd, td) := by
  unfold f_X1_kindOf at h
  refine j_aload_n hG 0 (dt dtX1_kindOf_0 0 rfl) rfl rfl ?_
  refine j_get hG cl_X1 8 1 (cv_8 _ _ _ _) (by decide) fl_X1_9 rfl rfl (dt dtX1_kindOf_0 1 rfl) ?_
  refine j_aload_n hG 0 (dt dtX1_kindOf_0 2 rfl) rfl rfl ?_
  refine j_iload_n hG 1 (dt dtX1_kindOf_0 3 rfl) rfl rfl ?_
  refine j_iload_n hG 2 (dt dtX1_kindOf_0 4 rfl) rfl rfl ?_
  refine j_callVp hG h (V := fun y7 => (some (.int (y7)))) (S := fun y7 => (X, Y, o, dd, td)) (kc := 0) (ks := 0) (fun z hz => ct_X1_placeOfPair hG.2.2.1 (gB G) _ _ _ _ _ hz) mf_X1_placeOfPair ml_X1_70 8 (cv_8 _ _ _ _) rfl rfl (rest := [.ref (wad (gB G) 9)]) rfl (Nat.le_of_ble_eq_true rfl) (dt dtX1_kindOf_0 5 rfl) (by decide) (by decide) (fun y7 h => ?_)
  refine j_cald hG 9 (cv_9 _ _ _ _) h (dt dtX1_kindOf_0 6 rfl) (fun v10 h => ?_)
  refine j_istore_n hG (lv' := [(3, .int (v10)), (0, .ref (wad (gB G) 8)), (1, .int (a1)), (2, .int (a2))]) (dt dtX1_kindOf_0 7 rfl) rfl (by decide) rfl ?_
  refine j_iload_n hG 0 (dt dtX1_kindOf_0 8 rfl) rfl rfl ?_
  refine j_bipush hG (v := 45) (dt dtX1_kindOf_0 9 rfl) (by decide) ?_
  refine j_icmp_eq hG (tgt := 20) (dt dtX1_kindOf_0 10 rfl) (by decide) h (fun h => ?_) (fun h => ?_)
  · refine j_aload_n hG 1 (dt dtX1_kindOf_0 13 rfl) rfl rfl ?_
    refine j_iload_n hG 2 (dt dtX1_kindOf_0 14 rfl) rfl rfl ?_
    refine j_iload_n hG 3 (dt dtX1_kindOf_0 15 rfl) rfl rfl ?_
    refine j_callVp hG h (V := fun y23 => (some (.int (y23)))) (S := fun y23 => (X, Y, o, dd, td)) (kc := 0) (ks := 0) (fun z hz => ct_X1_scoreOf hG.2.2.1 (gB G) _ _ _ _ _ hz) mf_X1_scoreOf ml_X1_73 8 (cv_8 _ _ _ _) rfl rfl (rest := []) rfl (Nat.le_of_ble_eq_true rfl) (dt dtX1_kindOf_0 16 rfl) (by decide) (by decide) (fun y23 h => ?_)
    refine j_istore hG (lv' := [(4, .int (y23)), (3, .int (v10)), (0, .ref (wad (gB G) 8)), (1, .int (a1)), (2, .int (a2))]) (dt dtX1_kindOf_0 17 rfl) (by decide) rfl ?_
    refine j_iload hG 0 (dt dtX1_kindOf_0 18 rfl) rfl ?_
    refine j_aload_n hG 2 (dt dtX1_kindOf_0 19 rfl) rfl rfl ?_
    refine j_get hG cl_X1 8 6 (cv_8 _ _ _ _) (by decide) fl_X1_28 rfl rfl (dt dtX1_kindOf_0 20 rfl) ?_
    refine j_icmp_lt hG (tgt := 40) (dt dtX1_kindOf_0 21 rfl) (by decide) h (fun h => ?_) (fun h => ?_)
    · refine j_iload hG 0 (dt dtX1_kindOf_0 24 rfl) rfl ?_
      refine j_aload_n hG 2 (dt dtX1_kindOf_0 25 rfl) rfl rfl ?_
      refine j_get hG cl_X1 8 5 (cv_8 _ _ _ _) (by decide) fl_X1_25 rfl rfl (dt dtX1_kindOf_0 26 rfl) ?_
      refine j_icmp_lt hG (tgt := 54) (dt dtX1_kindOf_0 27 rfl) (by decide) h (fun h => ?_) (fun h => ?_)
      · refine j_bipush hG (v := 110) (dt dtX1_kindOf_0 30 rfl) (by decide) ?_
        refine j_lv (lv' := []) [] rfl ?_
        exact g_f_X1_kindOf_56 hG hE hT h
      · refine j_bipush hG (v := 63) (dt dtX1_kindOf_0 28 rfl) (by decide) ?_
        refine j_goto hG (tgt := 56) (dt dtX1_kindOf_0 29 rfl) (by decide) ?_
        refine j_lv (lv' := []) [] rfl ?_
        exact g_f_X1_kindOf_56 hG hE hT h
    · refine j_bipush hG (v := 121) (dt dtX1_kindOf_0 22 rfl) (by decide) ?_
      obtain rfl := Option.some.inj h
      exact j_zret hG hE (by decide) ⟨rfl, rfl⟩ (dt dtX1_kindOf_0 23 rfl)
  · refine j_iload_n hG 0 (dt dtX1_kindOf_0 11 rfl) rfl rfl ?_
    obtain ⟨c19, h⟩ := wgd_ok h
    obtain rfl := Option.some.inj h
    exact j_zret hG hE (wokN_ok c19) ⟨rfl, rfl⟩ (dt dtX1_kindOf_0 12 rfl)
theorem ct_X1_kindOf {l : Launch} (hl : l.stackTraces = false) (B : wB) (X Y : wM) (o : Int64) (dd : UInt64) (td : wX) {a1 : Int32} {a2 : Int32} {res : (Int32)} (h : f_X1_kindOf X a1 a2 = some res) : wMet l B yX1_kindOf cX1_kindOf 5 (some .char) 2 46 0 0 [.ref (wad B 8), .int (a1), .int (a2)] (X, Y, o, dd, td) (rp (some (.int (res))) (X, Y, o, dd, td)) xp0 :=
  wMet.of hl (by decide +kernel) (Nat.le_of_ble_eq_true rfl) (fun G hB hL hG hE hT => by subst hB; exact g_f_X1_kindOf hG hE hT h)
def f_X3_groupAt_34 (X : wM) (s0 : Int32) : Option (Int32) :=
  some s0
def f_X3_groupAt (X : wM) (a1 : Int32) : Option (Int32) :=
  wget 40 (X 7) a1 fun v5 =>
  (if 17 < v5 then (if 39 < v5 then (if 64 < v5 then f_X3_groupAt_34 X (3 : Int32)
  else f_X3_groupAt_34 X (2 : Int32))
  else some 1)
  else some 0)
set_option maxRecDepth 4000 in
theorem g_f_X3_groupAt_34 {G : wG} (hG : wOk G RX3 cX3_groupAt 3 0 0) {X Y : wM} {o : Int64} {dd : UInt64} {td : wX} {res : (Int32)} (hE : wEnd G (some .int) (rp (some (.int (res))) (X, Y, o, dd, td)) xp0) (hT : wNoTab G) {s0 : Int32} (h : f_X3_groupAt_34 X s0 = some res) : J G 3 0 0 34 [] [.int (s0)] (X, Y, o, dd, td) := by
  unfold f_X3_groupAt_34 at h
  obtain rfl := Option.some.inj h
  exact j_iret hG hE ⟨rfl, rfl⟩ (dt dtX3_groupAt_0 21 rfl)
set_option maxRecDepth 4000 in
theorem g_f_X3_groupAt {G : wG} (hG : wOk G RX3 cX3_groupAt 3 0 0) {X Y : wM} {o : Int64} {dd : UInt64} {td : wX} {res : (Int32)} (hE : wEnd G (some .int) (rp (some (.int (res))) (X, Y, o, dd, td)) xp0) (hT : wNoTab G) {a1 : Int32} (h : f_X3_groupAt X a1 = some res) : J G 3 0 0 0 [(0, .ref (wad (gB G) 3)), (1, .int (a1))] [] (X, Y, o, dd, td) := by
  unfold f_X3_groupAt at h
  refine j_aload_n hG 0 (dt dtX3_groupAt_0 0 rfl) rfl rfl ?_
  refine j_get hG cl_X3 3 4 (cv_3 _ _ _ _) (by decide) fl_X3_22 rfl rfl (dt dtX3_groupAt_0 1 rfl) ?_
  refine j_iload_n hG 1 (dt dtX3_groupAt_0 2 rfl) rfl rfl ?_
  refine j_iald hG 7 (cv_7 _ _ _ _) h (dt dtX3_groupAt_0 3 rfl) (fun v5 h => ?_)
  refine j_istore_n hG (lv' := [(2, .int (v5)), (0, .ref (wad (gB G) 3)), (1, .int (a1))]) (dt dtX3_groupAt_0 4 rfl) rfl (by decide) rfl ?_
  refine j_iload_n hG 0 (dt dtX3_groupAt_0 5 rfl) rfl rfl ?_
  refine j_bipush hG (v := 17) (dt dtX3_groupAt_0 6 rfl) (by decide) ?_
  refine j_icmp_gt hG (tgt := 15) (dt dtX3_groupAt_0 7 rfl) (by decide) h (fun h => ?_) (fun h => ?_)
  · refine j_iload_n hG 0 (dt dtX3_groupAt_0 10 rfl) rfl rfl ?_
    refine j_bipush hG (v := 39) (dt dtX3_groupAt_0 11 rfl) (by decide) ?_
    refine j_icmp_gt hG (tgt := 23) (dt dtX3_groupAt_0 12 rfl) (by decide) h (fun h => ?_) (fun h => ?_)
    · refine j_iload_n hG 0 (dt dtX3_groupAt_0 15 rfl) rfl rfl ?_
      refine j_bipush hG (v := 64) (dt dtX3_groupAt_0 16 rfl) (by decide) ?_
      refine j_icmp_gt hG (tgt := 33) (dt dtX3_groupAt_0 17 rfl) (by decide) h (fun h => ?_) (fun h => ?_)
      · refine j_iconst hG (v := 3) (dt dtX3_groupAt_0 20 rfl) (by decide) ?_
        refine j_lv (lv' := []) [] rfl ?_
        exact g_f_X3_groupAt_34 hG hE hT h
      · refine j_iconst hG (v := 2) (dt dtX3_groupAt_0 18 rfl) (by decide) ?_
        refine j_goto hG (tgt := 34) (dt dtX3_groupAt_0 19 rfl) (by decide) ?_
        refine j_lv (lv' := []) [] rfl ?_
        exact g_f_X3_groupAt_34 hG hE hT h
    · refine j_iconst hG (v := 1) (dt dtX3_groupAt_0 13 rfl) (by decide) ?_
      obtain rfl := Option.some.inj h
      exact j_iret hG hE ⟨rfl, rfl⟩ (dt dtX3_groupAt_0 14 rfl)
  · refine j_iconst hG (v := 0) (dt dtX3_groupAt_0 8 rfl) (by decide) ?_
    obtain rfl := Option.some.inj h
    exact j_iret hG hE ⟨rfl, rfl⟩ (dt dtX3_groupAt_0 9 rfl)
theorem ct_X3_groupAt {l : Launch} (hl : l.stackTraces = false) (B : wB) (X Y : wM) (o : Int64) (dd : UInt64) (td : wX) {a1 : Int32} {res : (Int32)} (h : f_X3_groupAt X a1 = some res) : wMet l B yX3_groupAt cX3_groupAt 3 (some .int) 0 0 0 0 [.ref (wad B 3), .int (a1)] (X, Y, o, dd, td) (rp (some (.int (res))) (X, Y, o, dd, td)) xp0 :=
  wMet.of hl (by decide +kernel) (Nat.le_of_ble_eq_true rfl) (fun G hB hL hG hE hT => by subst hB; exact g_f_X3_groupAt hG hE hT h)
def f_X1_bestScore (X : wM) : Option (Int32) :=
  some (((X 8 2) + (X 8 3)) + (X 8 4))
set_option maxRecDepth 4000 in
theorem g_f_X1_bestScore {G : wG} (hG : wOk G RX1 cX1_bestScore 1 0 0) {X Y : wM} {o : Int64} {dd : UInt64} {td : wX} {res : (Int32)} (hE : wEnd G (some .int) (rp (some (.int (res))) (X, Y, o, dd, td)) xp0) (hT : wNoTab G) (h : f_X1_bestScore X = some res) : J G 1 0 0 0 [(0, .ref (wad (gB G) 8))] [] (X, Y, o, dd, td) := by
  unfold f_X1_bestScore at h
  refine j_aload_n hG 0 (dt dtX1_bestScore_0 0 rfl) rfl rfl ?_
  refine j_get hG cl_X1 8 2 (cv_8 _ _ _ _) (by decide) fl_X1_15 rfl rfl (dt dtX1_bestScore_0 1 rfl) ?_
  refine j_aload_n hG 0 (dt dtX1_bestScore_0 2 rfl) rfl rfl ?_
  refine j_get hG cl_X1 8 3 (cv_8 _ _ _ _) (by decide) fl_X1_19 rfl rfl (dt dtX1_bestScore_0 3 rfl) ?_
  refine j_iadd hG (dt dtX1_bestScore_0 4 rfl) ?_
  refine j_aload_n hG 0 (dt dtX1_bestScore_0 5 rfl) rfl rfl ?_
  refine j_get hG cl_X1 8 4 (cv_8 _ _ _ _) (by decide) fl_X1_22 rfl rfl (dt dtX1_bestScore_0 6 rfl) ?_
  refine j_iadd hG (dt dtX1_bestScore_0 7 rfl) ?_
  obtain rfl := Option.some.inj h
  exact j_iret hG hE ⟨rfl, rfl⟩ (dt dtX1_bestScore_0 8 rfl)
theorem ct_X1_bestScore {l : Launch} (hl : l.stackTraces = false) (B : wB) (X Y : wM) (o : Int64) (dd : UInt64) (td : wX) {res : (Int32)} (h : f_X1_bestScore X = some res) : wMet l B yX1_bestScore cX1_bestScore 1 (some .int) 0 0 0 0 [.ref (wad B 8)] (X, Y, o, dd, td) (rp (some (.int (res))) (X, Y, o, dd, td)) xp0 :=
  wMet.of hl (by decide +kernel) (Nat.le_of_ble_eq_true rfl) (fun G hB hL hG hE hT => by subst hB; exact g_f_X1_bestScore hG hE hT h)
def f_X5_shows_12b (k12 : Nat → Int32 → Option (Int32)) (X : wM) (p2 : Nat → Int32) (l0 : Nat) (l3 : Int32) : Option (Int32) :=
  (if l3 < 24 then wgd (decide (l0 < wT X)) (wgd (decide (l0 < wT X)) (wget 24 (X (39 + (4 * l0 + 1))) l3 fun v23 =>
  wget 24 p2 l3 fun v26 =>
  (if v23 = v26 then wbd (l3 + 1) fun v32 =>
  k12 l0 v32
  else some 0)))
  else some 1)
def f_X5_shows_12 (X : wM) (p2 : Nat → Int32) : Nat → Nat → Int32 → Option (Int32)
  | 0 => fun _ _ => none
  | n + 1 => fun l0 l3 => f_X5_shows_12b (f_X5_shows_12 X p2 n) X p2 l0 l3
def f_X5_shows (X : wM) (p2 : Nat → Int32) (a0 : Nat) (a1 : Int32) : Option (Int32) :=
  wgd (decide (a0 < wT X)) ((if (X (39 + 4 * a0) 0) = a1 then f_X5_shows_12 X p2 1000 a0 (0 : Int32)
  else some 0))
set_option maxRecDepth 4000 in
theorem g_f_X5_shows_12b {G : wG} (hG : wOk G RX5 cX5_shows 4 0 0) {X Y : wM} {o : Int64} {dd : UInt64} {td : wX} {p2k p2a : Nat} {p2 : Nat → Int32} (hp2 : (wl (gB G) (X, Y, o, dd, td))[p2k]? = some (p2a, .inl (wdA (gB G) 0, 24, .inl p2))) {res : (Int32)} (hE : wEnd G (some .boolean) (rp (some (.int (res))) (X, Y, o, dd, td)) xp0) (hT : wNoTab G) {k12 : Nat → Int32 → Option (Int32)} (hk12 : ∀ (l0 : Nat) (l3 : Int32), k12 l0 l3 = some res → J G 4 0 0 12 [(0, .ref (td.1 (4 * l0))), (2, .ref p2a), (3, .int (l3))] [] (X, Y, o, dd, td)) {l0 : Nat} {l3 : Int32} (h : f_X5_shows_12b k12 X p2 l0 l3 = some res) : J G 4 0 0 12 [(0, .ref (td.1 (4 * l0))), (2, .ref p2a), (3, .int (l3))] [] (X, Y, o, dd, td) := by
  unfold f_X5_shows_12b at h
  refine j_iload_n hG 2 (dt dtX5_shows_0 8 rfl) rfl rfl ?_
  refine j_bipush hG (v := 24) (dt dtX5_shows_0 9 rfl) (by decide) ?_
  refine j_icmp_ge hG (tgt := 38) (dt dtX5_shows_0 10 rfl) (by decide) h (fun h => ?_) (fun h => ?_)
  · refine j_aload_n hG 0 (dt dtX5_shows_0 11 rfl) rfl rfl ?_
    obtain ⟨c19, h⟩ := wgd_ok h
    refine j_get hG cl_X5 (39 + 4 * l0) 1 (ct_0 _ _ _ _ _ _ (of_decide_eq_true c19)) (by decide) fl_X5_9 rfl rfl (dt dtX5_shows_0 12 rfl) ?_
    refine j_iload_n hG 2 (dt dtX5_shows_0 13 rfl) rfl rfl ?_
    obtain ⟨c23, h⟩ := wgd_ok h
    refine j_iald hG _ (ct_1 _ _ _ _ _ _ (of_decide_eq_true c23)) h (dt dtX5_shows_0 14 rfl) (fun v23 h => ?_)
    refine j_aload_n hG 1 (dt dtX5_shows_0 15 rfl) rfl rfl ?_
    refine j_iload_n hG 2 (dt dtX5_shows_0 16 rfl) rfl rfl ?_
    refine j_iald hG _ hp2 h (dt dtX5_shows_0 17 rfl) (fun v26 h => ?_)
    refine j_icmp_eq hG (tgt := 32) (dt dtX5_shows_0 18 rfl) (by decide) h (fun h => ?_) (fun h => ?_)
    · refine j_iincB hG 2 (fun v32 => [(3, .int (v32)), (0, .ref (td.1 (4 * l0))), (2, .ref p2a)]) (dt dtX5_shows_0 21 rfl) rfl rfl (by decide) (fun _ => rfl) h (fun v32 h => ?_)
      refine j_goto hG (tgt := 12) (dt dtX5_shows_0 22 rfl) (by decide) ?_
      refine j_lv (lv' := [(0, .ref (td.1 (4 * l0))), (2, .ref p2a), (3, .int (v32))]) [1, 2, 0] rfl ?_
      exact hk12 l0 v32 h
    · refine j_iconst hG (v := 0) (dt dtX5_shows_0 19 rfl) (by decide) ?_
      obtain rfl := Option.some.inj h
      exact j_zret hG hE (by decide) ⟨rfl, rfl⟩ (dt dtX5_shows_0 20 rfl)
  · refine j_iconst hG (v := 1) (dt dtX5_shows_0 23 rfl) (by decide) ?_
    obtain rfl := Option.some.inj h
    exact j_zret hG hE (by decide) ⟨rfl, rfl⟩ (dt dtX5_shows_0 24 rfl)
set_option maxRecDepth 4000 in
theorem g_f_X5_shows_12 {G : wG} (hG : wOk G RX5 cX5_shows 4 0 0) {X : wM} {Y : wM} {o : Int64} {dd : UInt64} {td : wX} {p2k p2a : Nat} {p2 : Nat → Int32} (hp2 : (wl (gB G) (X, Y, o, dd, td))[p2k]? = some (p2a, .inl (wdA (gB G) 0, 24, .inl p2))) {res : (Int32)} (hE : wEnd G (some .boolean) (rp (some (.int (res))) (X, Y, o, dd, td)) xp0) (hT : wNoTab G) (n : Nat) : ∀ (l0 : Nat) (l3 : Int32), f_X5_shows_12 X p2 n l0 l3 = some res → J G 4 0 0 12 [(0, .ref (td.1 (4 * l0))), (2, .ref p2a), (3, .int (l3))] [] (X, Y, o, dd, td) := by
  induction n with
  | zero => intro l0 l3 h; cases h
  | succ n ih =>
    intro l0 l3 h
    exact g_f_X5_shows_12b hG hp2 hE hT ih h
set_option maxRecDepth 4000 in
theorem g_f_X5_shows {G : wG} (hG : wOk G RX5 cX5_shows 4 0 0) {X Y : wM} {o : Int64} {dd : UInt64} {td : wX} {p2k p2a : Nat} {p2 : Nat → Int32} (hp2 : (wl (gB G) (X, Y, o, dd, td))[p2k]? = some (p2a, .inl (wdA (gB G) 0, 24, .inl p2))) {res : (Int32)} (hE : wEnd G (some .boolean) (rp (some (.int (res))) (X, Y, o, dd, td)) xp0) (hT : wNoTab G) {a0 : Nat} {a1 : Int32} (h : f_X5_shows X p2 a0 a1 = some res) : J G 4 0 0 0 [(0, .ref (td.1 (4 * a0))), (1, .int (a1)), (2, .ref p2a)] [] (X, Y, o, dd, td) := by
  unfold f_X5_shows at h
  refine j_aload_n hG 0 (dt dtX5_shows_0 0 rfl) rfl rfl ?_
  obtain ⟨c1, h⟩ := wgd_ok h
  refine j_get hG cl_X5 (39 + 4 * a0) 0 (ct_0 _ _ _ _ _ _ (of_decide_eq_true c1)) (by decide) fl_X5_19 rfl rfl (dt dtX5_shows_0 1 rfl) ?_
  refine j_iload_n hG 1 (dt dtX5_shows_0 2 rfl) rfl rfl ?_
  refine j_icmp_eq hG (tgt := 10) (dt dtX5_shows_0 3 rfl) (by decide) h (fun h => ?_) (fun h => ?_)
  · refine j_iconst hG (v := 0) (dt dtX5_shows_0 6 rfl) (by decide) ?_
    refine j_istore_n hG (lv' := [(3, .int (0)), (0, .ref (td.1 (4 * a0))), (1, .int (a1)), (2, .ref p2a)]) (dt dtX5_shows_0 7 rfl) rfl (by decide) rfl ?_
    refine j_lv (lv' := [(0, .ref (td.1 (4 * a0))), (2, .ref p2a), (3, .int (0))]) [1, 3, 0] rfl ?_
    exact g_f_X5_shows_12 hG hp2 hE hT 1000 a0 (0 : Int32) h
  · refine j_iconst hG (v := 0) (dt dtX5_shows_0 4 rfl) (by decide) ?_
    obtain rfl := Option.some.inj h
    exact j_zret hG hE (by decide) ⟨rfl, rfl⟩ (dt dtX5_shows_0 5 rfl)
theorem ct_X5_shows {l : Launch} (hl : l.stackTraces = false) (B : wB) (X Y : wM) (o : Int64) (dd : UInt64) (td : wX) {a0 : Nat} {a1 : Int32} {p2k p2a : Nat} {p2 : Nat → Int32} (hp2 : (wl B (X, Y, o, dd, td))[p2k]? = some (p2a, .inl (wdA B 0, 24, .inl p2))) {res : (Int32)} (h : f_X5_shows X p2 a0 a1 = some res) : wMet l B yX5_shows cX5_shows 4 (some .boolean) 0 0 0 0 [.ref (td.1 (4 * a0)), .int (a1), .ref p2a] (X, Y, o, dd, td) (rp (some (.int (res))) (X, Y, o, dd, td)) xp0 :=
  wMet.of hl (by decide +kernel) (Nat.le_of_ble_eq_true rfl) (fun G hB hL hG hE hT => by subst hB; exact g_f_X5_shows hG hp2 hE hT h)
def f_X4_openAddress (X : wM) (a1 : Int32) : Option (Int32 × wM) :=
  wput X 2 20 (X 1 2) a1 fun X =>
  wfld X 1 2 ((X 1 2) + 1) fun X =>
  some (((X 1 2) - 1), X)
set_option maxRecDepth 4000 in
theorem g_f_X4_openAddress {G : wG} (hG : wOk G RX4 cX4_openAddress 2 0 0) {X Y : wM} {o : Int64} {dd : UInt64} {td : wX} {res : (Int32 × wM)} (hE : wEnd G (some .int) (rp (some (.int (res.1))) (res.2, Y, o, dd, td)) xp0) (hT : wNoTab G) {a1 : Int32} (h : f_X4_openAddress X a1 = some res) : J G 2 0 0 0 [(0, .ref (wad (gB G) 1)), (1, .int (a1))] [] (X, Y, o, dd, td) := by
  unfold f_X4_openAddress at h
  refine j_aload_n hG 0 (dt dtX4_openAddress_0 0 rfl) rfl rfl ?_
  refine j_get hG cl_X4 1 0 (cv_1 _ _ _ _) (by decide) fl_X4_9 rfl rfl (dt dtX4_openAddress_0 1 rfl) ?_
  refine j_aload_n hG 0 (dt dtX4_openAddress_0 2 rfl) rfl rfl ?_
  refine j_get hG cl_X4 1 2 (cv_1 _ _ _ _) (by decide) fl_X4_19 rfl rfl (dt dtX4_openAddress_0 3 rfl) ?_
  refine j_iload_n hG 1 (dt dtX4_openAddress_0 4 rfl) rfl rfl ?_
  refine j_iast hG 2 (X := X) (k := 2) (fun X => (X, Y, o, dd, td)) (cv_2 _ _ _ _) (fun g => cs_2 _ _ _ _ g) h (dt dtX4_openAddress_0 5 rfl) (fun X h => ?_)
  refine j_aload_n hG 0 (dt dtX4_openAddress_0 6 rfl) rfl rfl ?_
  refine j_dup hG (dt dtX4_openAddress_0 7 rfl) rfl ?_
  refine j_get hG cl_X4 1 2 (cv_1 _ _ _ _) (by decide) fl_X4_19 rfl rfl (dt dtX4_openAddress_0 8 rfl) ?_
  refine j_iconst hG (v := 1) (dt dtX4_openAddress_0 9 rfl) (by decide) ?_
  refine j_iadd hG (dt dtX4_openAddress_0 10 rfl) ?_
  refine j_put hG cl_X4 1 2 (X := X) (k := 1) (fun X => (X, Y, o, dd, td)) (cv_1 _ _ _ _) (by decide) fl_X4_19 rfl rfl rfl rfl rfl (Nat.le_of_ble_eq_true rfl) (cs_1 _ _ _ _ (upd (X 1) 2 ((X 1 2) + 1))) h (dt dtX4_openAddress_0 11 rfl) (fun X h => ?_)
  refine j_aload_n hG 0 (dt dtX4_openAddress_0 12 rfl) rfl rfl ?_
  refine j_get hG cl_X4 1 2 (cv_1 _ _ _ _) (by decide) fl_X4_19 rfl rfl (dt dtX4_openAddress_0 13 rfl) ?_
  refine j_iconst hG (v := 1) (dt dtX4_openAddress_0 14 rfl) (by decide) ?_
  refine j_isub hG (dt dtX4_openAddress_0 15 rfl) ?_
  obtain rfl := Option.some.inj h
  exact j_iret hG hE ⟨rfl, rfl⟩ (dt dtX4_openAddress_0 16 rfl)
theorem ct_X4_openAddress {l : Launch} (hl : l.stackTraces = false) (B : wB) (X Y : wM) (o : Int64) (dd : UInt64) (td : wX) {a1 : Int32} {res : (Int32 × wM)} (h : f_X4_openAddress X a1 = some res) : wMet l B yX4_openAddress cX4_openAddress 2 (some .int) 0 0 0 0 [.ref (wad B 1), .int (a1)] (X, Y, o, dd, td) (rp (some (.int (res.1))) (res.2, Y, o, dd, td)) xp0 :=
  wMet.of hl (by decide +kernel) (Nat.le_of_ble_eq_true rfl) (fun G hB hL hG hE hT => by subst hB; exact g_f_X4_openAddress hG hE hT h)
def f_X4_hasAddress_17 (X : wM) (s0 : Int32) : Option (Int32) :=
  wgd (wokN .boolean s0) (some s0)
def f_X4_hasAddress_16 (X : wM) : Option (Int32) :=
  f_X4_hasAddress_17 X (0 : Int32)
def f_X4_hasAddress (X : wM) (a1 : Int32) : Option (Int32) :=
  (if a1 < 0 then f_X4_hasAddress_16 X
  else (if a1 < (X 1 2) then f_X4_hasAddress_17 X (1 : Int32)
  else f_X4_hasAddress_16 X))
set_option maxRecDepth 4000 in
theorem g_f_X4_hasAddress_17 {G : wG} (hG : wOk G RX4 cX4_hasAddress 2 0 0) {X Y : wM} {o : Int64} {dd : UInt64} {td : wX} {res : (Int32)} (hE : wEnd G (some .boolean) (rp (some (.int (res))) (X, Y, o, dd, td)) xp0) (hT : wNoTab G) {s0 : Int32} (h : f_X4_hasAddress_17 X s0 = some res) : J G 2 0 0 17 [] [.int (s0)] (X, Y, o, dd, td) := by
  unfold f_X4_hasAddress_17 at h
  obtain ⟨c17, h⟩ := wgd_ok h
  obtain rfl := Option.some.inj h
  exact j_zret hG hE (wokN_ok c17) ⟨rfl, rfl⟩ (dt dtX4_hasAddress_0 9 rfl)
set_option maxRecDepth 4000 in
theorem g_f_X4_hasAddress_16 {G : wG} (hG : wOk G RX4 cX4_hasAddress 2 0 0) {X Y : wM} {o : Int64} {dd : UInt64} {td : wX} {res : (Int32)} (hE : wEnd G (some .boolean) (rp (some (.int (res))) (X, Y, o, dd, td)) xp0) (hT : wNoTab G) (h : f_X4_hasAddress_16 X = some res) : J G 2 0 0 16 [] [] (X, Y, o, dd, td) := by
  unfold f_X4_hasAddress_16 at h
  refine j_iconst hG (v := 0) (dt dtX4_hasAddress_0 8 rfl) (by decide) ?_
  exact g_f_X4_hasAddress_17 hG hE hT h
set_option maxRecDepth 4000 in
theorem g_f_X4_hasAddress {G : wG} (hG : wOk G RX4 cX4_hasAddress 2 0 0) {X Y : wM} {o : Int64} {dd : UInt64} {td : wX} {res : (Int32)} (hE : wEnd G (some .boolean) (rp (some (.int (res))) (X, Y, o, dd, td)) xp0) (hT : wNoTab G) {a1 : Int32} (h : f_X4_hasAddress X a1 = some res) : J G 2 0 0 0 [(0, .ref (wad (gB G) 1)), (1, .int (a1))] [] (X, Y, o, dd, td) := by
  unfold f_X4_hasAddress at h
  refine j_iload_n hG 1 (dt dtX4_hasAddress_0 0 rfl) rfl rfl ?_
  refine j_if_lt hG (tgt := 16) (dt dtX4_hasAddress_0 1 rfl) (by decide) h (fun h => ?_) (fun h => ?_)
  · refine j_lv (lv' := []) [] rfl ?_
    exact g_f_X4_hasAddress_16 hG hE hT h
  · refine j_iload_n hG 1 (dt dtX4_hasAddress_0 2 rfl) rfl rfl ?_
    refine j_aload_n hG 0 (dt dtX4_hasAddress_0 3 rfl) rfl rfl ?_
    refine j_get hG cl_X4 1 2 (cv_1 _ _ _ _) (by decide) fl_X4_19 rfl rfl (dt dtX4_hasAddress_0 4 rfl) ?_
    refine j_icmp_ge hG (tgt := 16) (dt dtX4_hasAddress_0 5 rfl) (by decide) h (fun h => ?_) (fun h => ?_)
    · refine j_iconst hG (v := 1) (dt dtX4_hasAddress_0 6 rfl) (by decide) ?_
      refine j_goto hG (tgt := 17) (dt dtX4_hasAddress_0 7 rfl) (by decide) ?_
      refine j_lv (lv' := []) [] rfl ?_
      exact g_f_X4_hasAddress_17 hG hE hT h
    · refine j_lv (lv' := []) [] rfl ?_
      exact g_f_X4_hasAddress_16 hG hE hT h
theorem ct_X4_hasAddress {l : Launch} (hl : l.stackTraces = false) (B : wB) (X Y : wM) (o : Int64) (dd : UInt64) (td : wX) {a1 : Int32} {res : (Int32)} (h : f_X4_hasAddress X a1 = some res) : wMet l B yX4_hasAddress cX4_hasAddress 2 (some .boolean) 0 0 0 0 [.ref (wad B 1), .int (a1)] (X, Y, o, dd, td) (rp (some (.int (res))) (X, Y, o, dd, td)) xp0 :=
  wMet.of hl (by decide +kernel) (Nat.le_of_ble_eq_true rfl) (fun G hB hL hG hE hT => by subst hB; exact g_f_X4_hasAddress hG hE hT h)
def f_X4_move_37 (k6 : wM → Int32 → Int32 → Int32 → Int32 → Option (Int32 × wM)) (X : wM) (l1 : Int32) (l3 : Int32) (l4 : Int32) (l5 : Int32) : Option (Int32 × wM) :=
  wbd (l5 + 1) fun v37 =>
  k6 X l1 l3 l4 v37
def f_X4_move_6b (k6 : wM → Int32 → Int32 → Int32 → Int32 → Option (Int32 × wM)) (X : wM) (l1 : Int32) (l3 : Int32) (l4 : Int32) (l5 : Int32) : Option (Int32 × wM) :=
  (if l5 < (X 1 2) then wget 20 (X 2) l5 fun v21 =>
  (if v21 = l1 then wput X 2 20 l5 l3 fun X =>
  wbd (l4 + 1) fun v34 =>
  f_X4_move_37 k6 X l1 l3 v34 l5
  else f_X4_move_37 k6 X l1 l3 l4 l5)
  else some (l4, X))
def f_X4_move_6 : Nat → wM → Int32 → Int32 → Int32 → Int32 → Option (Int32 × wM)
  | 0 => fun _ _ _ _ _ => none
  | n + 1 => fun X l1 l3 l4 l5 => f_X4_move_6b (f_X4_move_6 n) X l1 l3 l4 l5
def f_X4_move (X : wM) (a1 : Int32) (a2 : Int32) (a3 : Int32) : Option (Int32 × wM) :=
  f_X4_move_6 1000 X a1 a3 (0 : Int32) a2
set_option maxRecDepth 4000 in
theorem g_f_X4_move_37 {G : wG} (hG : wOk G RX4 cX4_move 6 0 0) {X Y : wM} {o : Int64} {dd : UInt64} {td : wX} {res : (Int32 × wM)} (hE : wEnd G (some .int) (rp (some (.int (res.1))) (res.2, Y, o, dd, td)) xp0) (hT : wNoTab G) {k6 : wM → Int32 → Int32 → Int32 → Int32 → Option (Int32 × wM)} (hk6 : ∀ (X : wM) (l1 : Int32) (l3 : Int32) (l4 : Int32) (l5 : Int32), k6 X l1 l3 l4 l5 = some res → J G 6 0 0 6 [(0, .ref (wad (gB G) 1)), (1, .int (l1)), (3, .int (l3)), (4, .int (l4)), (5, .int (l5))] [] (X, Y, o, dd, td)) {l1 : Int32} {l3 : Int32} {l4 : Int32} {l5 : Int32} (h : f_X4_move_37 k6 X l1 l3 l4 l5 = some res) : J G 6 0 0 37 [(0, .ref (wad (gB G) 1)), (1, .int (l1)), (3, .int (l3)), (4, .int (l4)), (5, .int (l5))] [] (X, Y, o, dd, td) := by
  unfold f_X4_move_37 at h
  refine j_iincB hG 4 (fun v37 => [(5, .int (v37)), (0, .ref (wad (gB G) 1)), (1, .int (l1)), (3, .int (l3)), (4, .int (l4))]) (dt dtX4_move_0 20 rfl) rfl rfl (by decide) (fun _ => rfl) h (fun v37 h => ?_)
  refine j_goto hG (tgt := 6) (dt dtX4_move_0 21 rfl) (by decide) ?_
  refine j_lv (lv' := [(0, .ref (wad (gB G) 1)), (1, .int (l1)), (3, .int (l3)), (4, .int (l4)), (5, .int (v37))]) [1, 2, 3, 4, 0] rfl ?_
  exact hk6 X l1 l3 l4 v37 h
set_option maxRecDepth 4000 in
theorem g_f_X4_move_6b {G : wG} (hG : wOk G RX4 cX4_move 6 0 0) {X Y : wM} {o : Int64} {dd : UInt64} {td : wX} {res : (Int32 × wM)} (hE : wEnd G (some .int) (rp (some (.int (res.1))) (res.2, Y, o, dd, td)) xp0) (hT : wNoTab G) {k6 : wM → Int32 → Int32 → Int32 → Int32 → Option (Int32 × wM)} (hk6 : ∀ (X : wM) (l1 : Int32) (l3 : Int32) (l4 : Int32) (l5 : Int32), k6 X l1 l3 l4 l5 = some res → J G 6 0 0 6 [(0, .ref (wad (gB G) 1)), (1, .int (l1)), (3, .int (l3)), (4, .int (l4)), (5, .int (l5))] [] (X, Y, o, dd, td)) {l1 : Int32} {l3 : Int32} {l4 : Int32} {l5 : Int32} (h : f_X4_move_6b k6 X l1 l3 l4 l5 = some res) : J G 6 0 0 6 [(0, .ref (wad (gB G) 1)), (1, .int (l1)), (3, .int (l3)), (4, .int (l4)), (5, .int (l5))] [] (X, Y, o, dd, td) := by
  unfold f_X4_move_6b at h
  refine j_iload hG 4 (dt dtX4_move_0 4 rfl) rfl ?_
  refine j_aload_n hG 0 (dt dtX4_move_0 5 rfl) rfl rfl ?_
  refine j_get hG cl_X4 1 2 (cv_1 _ _ _ _) (by decide) fl_X4_19 rfl rfl (dt dtX4_move_0 6 rfl) ?_
  refine j_icmp_ge hG (tgt := 43) (dt dtX4_move_0 7 rfl) (by decide) h (fun h => ?_) (fun h => ?_)
  · refine j_aload_n hG 0 (dt dtX4_move_0 8 rfl) rfl rfl ?_
    refine j_get hG cl_X4 1 0 (cv_1 _ _ _ _) (by decide) fl_X4_9 rfl rfl (dt dtX4_move_0 9 rfl) ?_
    refine j_iload hG 4 (dt dtX4_move_0 10 rfl) rfl ?_
    refine j_iald hG 2 (cv_2 _ _ _ _) h (dt dtX4_move_0 11 rfl) (fun v21 h => ?_)
    refine j_iload_n hG 1 (dt dtX4_move_0 12 rfl) rfl rfl ?_
    refine j_icmp_ne hG (tgt := 37) (dt dtX4_move_0 13 rfl) (by decide) h (fun h => ?_) (fun h => ?_)
    · refine j_aload_n hG 0 (dt dtX4_move_0 14 rfl) rfl rfl ?_
      refine j_get hG cl_X4 1 0 (cv_1 _ _ _ _) (by decide) fl_X4_9 rfl rfl (dt dtX4_move_0 15 rfl) ?_
      refine j_iload hG 4 (dt dtX4_move_0 16 rfl) rfl ?_
      refine j_iload_n hG 2 (dt dtX4_move_0 17 rfl) rfl rfl ?_
      refine j_iast hG 2 (X := X) (k := 2) (fun X => (X, Y, o, dd, td)) (cv_2 _ _ _ _) (fun g => cs_2 _ _ _ _ g) h (dt dtX4_move_0 18 rfl) (fun X h => ?_)
      refine j_iincB hG 3 (fun v34 => [(4, .int (v34)), (0, .ref (wad (gB G) 1)), (1, .int (l1)), (3, .int (l3)), (5, .int (l5))]) (dt dtX4_move_0 19 rfl) rfl rfl (by decide) (fun _ => rfl) h (fun v34 h => ?_)
      refine j_lv (lv' := [(0, .ref (wad (gB G) 1)), (1, .int (l1)), (3, .int (l3)), (4, .int (v34)), (5, .int (l5))]) [1, 2, 3, 0, 4] rfl ?_
      exact g_f_X4_move_37 hG hE hT hk6 h
    · exact g_f_X4_move_37 hG hE hT hk6 h
  · refine j_iload hG 3 (dt dtX4_move_0 22 rfl) rfl ?_
    obtain rfl := Option.some.inj h
    exact j_iret hG hE ⟨rfl, rfl⟩ (dt dtX4_move_0 23 rfl)
set_option maxRecDepth 4000 in
theorem g_f_X4_move_6 {G : wG} (hG : wOk G RX4 cX4_move 6 0 0) {Y : wM} {o : Int64} {dd : UInt64} {td : wX} {res : (Int32 × wM)} (hE : wEnd G (some .int) (rp (some (.int (res.1))) (res.2, Y, o, dd, td)) xp0) (hT : wNoTab G) (n : Nat) : ∀ (X : wM) (l1 : Int32) (l3 : Int32) (l4 : Int32) (l5 : Int32), f_X4_move_6 n X l1 l3 l4 l5 = some res → J G 6 0 0 6 [(0, .ref (wad (gB G) 1)), (1, .int (l1)), (3, .int (l3)), (4, .int (l4)), (5, .int (l5))] [] (X, Y, o, dd, td) := by
  induction n with
  | zero => intro X l1 l3 l4 l5 h; cases h
  | succ n ih =>
    intro X l1 l3 l4 l5 h
    exact g_f_X4_move_6b hG hE hT ih h
set_option maxRecDepth 4000 in
theorem g_f_X4_move {G : wG} (hG : wOk G RX4 cX4_move 6 0 0) {X Y : wM} {o : Int64} {dd : UInt64} {td : wX} {res : (Int32 × wM)} (hE : wEnd G (some .int) (rp (some (.int (res.1))) (res.2, Y, o, dd, td)) xp0) (hT : wNoTab G) {a1 : Int32} {a2 : Int32} {a3 : Int32} (h : f_X4_move X a1 a2 a3 = some res) : J G 6 0 0 0 [(0, .ref (wad (gB G) 1)), (1, .int (a1)), (2, .int (a2)), (3, .int (a3))] [] (X, Y, o, dd, td) := by
  unfold f_X4_move at h
  refine j_iconst hG (v := 0) (dt dtX4_move_0 0 rfl) (by decide) ?_
  refine j_istore hG (lv' := [(4, .int (0)), (0, .ref (wad (gB G) 1)), (1, .int (a1)), (2, .int (a2)), (3, .int (a3))]) (dt dtX4_move_0 1 rfl) (by decide) rfl ?_
  refine j_iload_n hG 3 (dt dtX4_move_0 2 rfl) rfl rfl ?_
  refine j_istore hG (lv' := [(5, .int (a2)), (4, .int (0)), (0, .ref (wad (gB G) 1)), (1, .int (a1)), (2, .int (a2)), (3, .int (a3))]) (dt dtX4_move_0 3 rfl) (by decide) rfl ?_
  refine j_lv (lv' := [(0, .ref (wad (gB G) 1)), (1, .int (a1)), (3, .int (a3)), (4, .int (0)), (5, .int (a2))]) [2, 3, 5, 1, 0] rfl ?_
  exact g_f_X4_move_6 hG hE hT 1000 X a1 a3 (0 : Int32) a2 h
theorem ct_X4_move {l : Launch} (hl : l.stackTraces = false) (B : wB) (X Y : wM) (o : Int64) (dd : UInt64) (td : wX) {a1 : Int32} {a2 : Int32} {a3 : Int32} {res : (Int32 × wM)} (h : f_X4_move X a1 a2 a3 = some res) : wMet l B yX4_move cX4_move 6 (some .int) 0 0 0 0 [.ref (wad B 1), .int (a1), .int (a2), .int (a3)] (X, Y, o, dd, td) (rp (some (.int (res.1))) (res.2, Y, o, dd, td)) xp0 :=
  wMet.of hl (by decide +kernel) (Nat.le_of_ble_eq_true rfl) (fun G hB hL hG hE hT => by subst hB; exact g_f_X4_move hG hE hT h)
def f_X3_add (X : wM) (a1 : Int32) (a2 : Int32) (a3 : Int32) (a4 : Int32) : Option (Int32 × wM) :=
  wput X 4 40 (X 3 5) (vp_nar .boolean a1) fun X =>
  wput X 5 40 (X 3 5) a2 fun X =>
  wput X 6 40 (X 3 5) a3 fun X =>
  wput X 7 40 (X 3 5) a4 fun X =>
  wfld X 3 5 ((X 3 5) + 1) fun X =>
  some (((X 3 5) - 1), X)
set_option maxRecDepth 4000 in
theorem g_f_X3_add {G : wG} (hG : wOk G RX3 cX3_add 5 0 0) {X Y : wM} {o : Int64} {dd : UInt64} {td : wX} {res : (Int32 × wM)} (hE : wEnd G (some .int) (rp (some (.int (res.1))) (res.2, Y, o, dd, td)) xp0) (hT : wNoTab G) {a1 : Int32} {a2 : Int32} {a3 : Int32} {a4 : Int32} (h : f_X3_add X a1 a2 a3 a4 = some res) : J G 5 0 0 0 [(0, .ref (wad (gB G) 3)), (1, .int (a1)), (2, .int (a2)), (3, .int (a3)), (4, .int (a4))] [] (X, Y, o, dd, td) := by
  unfold f_X3_add at h
  refine j_aload_n hG 0 (dt dtX3_add_0 0 rfl) rfl rfl ?_
  refine j_get hG cl_X3 3 1 (cv_3 _ _ _ _) (by decide) fl_X3_9 rfl rfl (dt dtX3_add_0 1 rfl) ?_
  refine j_aload_n hG 0 (dt dtX3_add_0 2 rfl) rfl rfl ?_
  refine j_get hG cl_X3 3 5 (cv_3 _ _ _ _) (by decide) fl_X3_25 rfl rfl (dt dtX3_add_0 3 rfl) ?_
  refine j_iload_n hG 1 (dt dtX3_add_0 4 rfl) rfl rfl ?_
  refine j_zast hG 4 (X := X) (k := 4) (fun X => (X, Y, o, dd, td)) (cv_4 _ _ _ _) (fun g => cs_4 _ _ _ _ g) h (dt dtX3_add_0 5 rfl) (fun X h => ?_)
  refine j_aload_n hG 0 (dt dtX3_add_0 6 rfl) rfl rfl ?_
  refine j_get hG cl_X3 3 2 (cv_3 _ _ _ _) (by decide) fl_X3_15 rfl rfl (dt dtX3_add_0 7 rfl) ?_
  refine j_aload_n hG 0 (dt dtX3_add_0 8 rfl) rfl rfl ?_
  refine j_get hG cl_X3 3 5 (cv_3 _ _ _ _) (by decide) fl_X3_25 rfl rfl (dt dtX3_add_0 9 rfl) ?_
  refine j_iload_n hG 2 (dt dtX3_add_0 10 rfl) rfl rfl ?_
  refine j_iast hG 5 (X := X) (k := 5) (fun X => (X, Y, o, dd, td)) (cv_5 _ _ _ _) (fun g => cs_5 _ _ _ _ g) h (dt dtX3_add_0 11 rfl) (fun X h => ?_)
  refine j_aload_n hG 0 (dt dtX3_add_0 12 rfl) rfl rfl ?_
  refine j_get hG cl_X3 3 3 (cv_3 _ _ _ _) (by decide) fl_X3_19 rfl rfl (dt dtX3_add_0 13 rfl) ?_
  refine j_aload_n hG 0 (dt dtX3_add_0 14 rfl) rfl rfl ?_
  refine j_get hG cl_X3 3 5 (cv_3 _ _ _ _) (by decide) fl_X3_25 rfl rfl (dt dtX3_add_0 15 rfl) ?_
  refine j_iload_n hG 3 (dt dtX3_add_0 16 rfl) rfl rfl ?_
  refine j_iast hG 6 (X := X) (k := 6) (fun X => (X, Y, o, dd, td)) (cv_6 _ _ _ _) (fun g => cs_6 _ _ _ _ g) h (dt dtX3_add_0 17 rfl) (fun X h => ?_)
  refine j_aload_n hG 0 (dt dtX3_add_0 18 rfl) rfl rfl ?_
  refine j_get hG cl_X3 3 4 (cv_3 _ _ _ _) (by decide) fl_X3_22 rfl rfl (dt dtX3_add_0 19 rfl) ?_
  refine j_aload_n hG 0 (dt dtX3_add_0 20 rfl) rfl rfl ?_
  refine j_get hG cl_X3 3 5 (cv_3 _ _ _ _) (by decide) fl_X3_25 rfl rfl (dt dtX3_add_0 21 rfl) ?_
  refine j_iload hG 4 (dt dtX3_add_0 22 rfl) rfl ?_
  refine j_iast hG 7 (X := X) (k := 7) (fun X => (X, Y, o, dd, td)) (cv_7 _ _ _ _) (fun g => cs_7 _ _ _ _ g) h (dt dtX3_add_0 23 rfl) (fun X h => ?_)
  refine j_aload_n hG 0 (dt dtX3_add_0 24 rfl) rfl rfl ?_
  refine j_dup hG (dt dtX3_add_0 25 rfl) rfl ?_
  refine j_get hG cl_X3 3 5 (cv_3 _ _ _ _) (by decide) fl_X3_25 rfl rfl (dt dtX3_add_0 26 rfl) ?_
  refine j_iconst hG (v := 1) (dt dtX3_add_0 27 rfl) (by decide) ?_
  refine j_iadd hG (dt dtX3_add_0 28 rfl) ?_
  refine j_put hG cl_X3 3 5 (X := X) (k := 3) (fun X => (X, Y, o, dd, td)) (cv_3 _ _ _ _) (by decide) fl_X3_25 rfl rfl rfl rfl rfl (Nat.le_of_ble_eq_true rfl) (cs_3 _ _ _ _ (upd (X 3) 5 ((X 3 5) + 1))) h (dt dtX3_add_0 29 rfl) (fun X h => ?_)
  refine j_aload_n hG 0 (dt dtX3_add_0 30 rfl) rfl rfl ?_
  refine j_get hG cl_X3 3 5 (cv_3 _ _ _ _) (by decide) fl_X3_25 rfl rfl (dt dtX3_add_0 31 rfl) ?_
  refine j_iconst hG (v := 1) (dt dtX3_add_0 32 rfl) (by decide) ?_
  refine j_isub hG (dt dtX3_add_0 33 rfl) ?_
  obtain rfl := Option.some.inj h
  exact j_iret hG hE ⟨rfl, rfl⟩ (dt dtX3_add_0 34 rfl)
theorem ct_X3_add {l : Launch} (hl : l.stackTraces = false) (B : wB) (X Y : wM) (o : Int64) (dd : UInt64) (td : wX) {a1 : Int32} {a2 : Int32} {a3 : Int32} {a4 : Int32} {res : (Int32 × wM)} (h : f_X3_add X a1 a2 a3 a4 = some res) : wMet l B yX3_add cX3_add 5 (some .int) 0 0 0 0 [.ref (wad B 3), .int (a1), .int (a2), .int (a3), .int (a4)] (X, Y, o, dd, td) (rp (some (.int (res.1))) (res.2, Y, o, dd, td)) xp0 :=
  wMet.of hl (by decide +kernel) (Nat.le_of_ble_eq_true rfl) (fun G hB hL hG hE hT => by subst hB; exact g_f_X3_add hG hE hT h)
def f_X1_changePoints_48 (X : wM) (l3 : Int32) : Option (Int32 × wM) :=
  some (l3, X)
def f_X1_changePoints (X : wM) (a1 : Int32) (a2 : Int32) : Option (Int32 × wM) :=
  (if a1 = 110 then wbd (X 8 2) fun v10 =>
  wfld X 8 2 a2 fun X =>
  f_X1_changePoints_48 X v10
  else (if a1 = 121 then wbd (X 8 3) fun v29 =>
  wfld X 8 3 a2 fun X =>
  f_X1_changePoints_48 X v29
  else wbd (X 8 4) fun v42 =>
  wfld X 8 4 a2 fun X =>
  f_X1_changePoints_48 X v42))
set_option maxRecDepth 4000 in
theorem g_f_X1_changePoints_48 {G : wG} (hG : wOk G RX1 cX1_changePoints 4 0 0) {X Y : wM} {o : Int64} {dd : UInt64} {td : wX} {res : (Int32 × wM)} (hE : wEnd G (some .int) (rp (some (.int (res.1))) (res.2, Y, o, dd, td)) xp0) (hT : wNoTab G) {l3 : Int32} (h : f_X1_changePoints_48 X l3 = some res) : J G 4 0 0 48 [(3, .int (l3))] [] (X, Y, o, dd, td) := by
  unfold f_X1_changePoints_48 at h
  refine j_iload_n hG 0 (dt dtX1_changePoints_0 26 rfl) rfl rfl ?_
  obtain rfl := Option.some.inj h
  exact j_iret hG hE ⟨rfl, rfl⟩ (dt dtX1_changePoints_0 27 rfl)
set_option maxRecDepth 4000 in
theorem g_f_X1_changePoints {G : wG} (hG : wOk G RX1 cX1_changePoints 4 0 0) {X Y : wM} {o : Int64} {dd : UInt64} {td : wX} {res : (Int32 × wM)} (hE : wEnd G (some .int) (rp (some (.int (res.1))) (res.2, Y, o, dd, td)) xp0) (hT : wNoTab G) {a1 : Int32} {a2 : Int32} (h : f_X1_changePoints X a1 a2 = some res) : J G 4 0 0 0 [(0, .ref (wad (gB G) 8)), (1, .int (a1)), (2, .int (a2))] [] (X, Y, o, dd, td) := by
  unfold f_X1_changePoints at h
  refine j_iload_n hG 1 (dt dtX1_changePoints_0 0 rfl) rfl rfl ?_
  refine j_bipush hG (v := 110) (dt dtX1_changePoints_0 1 rfl) (by decide) ?_
  refine j_icmp_ne hG (tgt := 19) (dt dtX1_changePoints_0 2 rfl) (by decide) h (fun h => ?_) (fun h => ?_)
  · refine j_aload_n hG 0 (dt dtX1_changePoints_0 3 rfl) rfl rfl ?_
    refine j_get hG cl_X1 8 2 (cv_8 _ _ _ _) (by decide) fl_X1_15 rfl rfl (dt dtX1_changePoints_0 4 rfl) ?_
    refine j_istoreB_n hG (fun v10 => [(3, .int (v10)), (0, .ref (wad (gB G) 8)), (1, .int (a1)), (2, .int (a2))]) (dt dtX1_changePoints_0 5 rfl) rfl (by decide) (fun _ => rfl) h (fun v10 h => ?_)
    refine j_aload_n hG 1 (dt dtX1_changePoints_0 6 rfl) rfl rfl ?_
    refine j_iload_n hG 3 (dt dtX1_changePoints_0 7 rfl) rfl rfl ?_
    refine j_put hG cl_X1 8 2 (X := X) (k := 8) (fun X => (X, Y, o, dd, td)) (cv_8 _ _ _ _) (by decide) fl_X1_15 rfl rfl rfl rfl rfl (Nat.le_of_ble_eq_true rfl) (cs_8 _ _ _ _ (upd (X 8) 2 a2)) h (dt dtX1_changePoints_0 8 rfl) (fun X h => ?_)
    refine j_goto hG (tgt := 48) (dt dtX1_changePoints_0 9 rfl) (by decide) ?_
    refine j_lv (lv' := [(3, .int (v10))]) [0] rfl ?_
    exact g_f_X1_changePoints_48 hG hE hT h
  · refine j_iload_n hG 1 (dt dtX1_changePoints_0 10 rfl) rfl rfl ?_
    refine j_bipush hG (v := 121) (dt dtX1_changePoints_0 11 rfl) (by decide) ?_
    refine j_icmp_ne hG (tgt := 38) (dt dtX1_changePoints_0 12 rfl) (by decide) h (fun h => ?_) (fun h => ?_)
    · refine j_aload_n hG 0 (dt dtX1_changePoints_0 13 rfl) rfl rfl ?_
      refine j_get hG cl_X1 8 3 (cv_8 _ _ _ _) (by decide) fl_X1_19 rfl rfl (dt dtX1_changePoints_0 14 rfl) ?_
      refine j_istoreB_n hG (fun v29 => [(3, .int (v29)), (0, .ref (wad (gB G) 8)), (1, .int (a1)), (2, .int (a2))]) (dt dtX1_changePoints_0 15 rfl) rfl (by decide) (fun _ => rfl) h (fun v29 h => ?_)
      refine j_aload_n hG 1 (dt dtX1_changePoints_0 16 rfl) rfl rfl ?_
      refine j_iload_n hG 3 (dt dtX1_changePoints_0 17 rfl) rfl rfl ?_
      refine j_put hG cl_X1 8 3 (X := X) (k := 8) (fun X => (X, Y, o, dd, td)) (cv_8 _ _ _ _) (by decide) fl_X1_19 rfl rfl rfl rfl rfl (Nat.le_of_ble_eq_true rfl) (cs_8 _ _ _ _ (upd (X 8) 3 a2)) h (dt dtX1_changePoints_0 18 rfl) (fun X h => ?_)
      refine j_goto hG (tgt := 48) (dt dtX1_changePoints_0 19 rfl) (by decide) ?_
      refine j_lv (lv' := [(3, .int (v29))]) [0] rfl ?_
      exact g_f_X1_changePoints_48 hG hE hT h
    · refine j_aload_n hG 0 (dt dtX1_changePoints_0 20 rfl) rfl rfl ?_
      refine j_get hG cl_X1 8 4 (cv_8 _ _ _ _) (by decide) fl_X1_22 rfl rfl (dt dtX1_changePoints_0 21 rfl) ?_
      refine j_istoreB_n hG (fun v42 => [(3, .int (v42)), (0, .ref (wad (gB G) 8)), (1, .int (a1)), (2, .int (a2))]) (dt dtX1_changePoints_0 22 rfl) rfl (by decide) (fun _ => rfl) h (fun v42 h => ?_)
      refine j_aload_n hG 1 (dt dtX1_changePoints_0 23 rfl) rfl rfl ?_
      refine j_iload_n hG 3 (dt dtX1_changePoints_0 24 rfl) rfl rfl ?_
      refine j_put hG cl_X1 8 4 (X := X) (k := 8) (fun X => (X, Y, o, dd, td)) (cv_8 _ _ _ _) (by decide) fl_X1_22 rfl rfl rfl rfl rfl (Nat.le_of_ble_eq_true rfl) (cs_8 _ _ _ _ (upd (X 8) 4 a2)) h (dt dtX1_changePoints_0 25 rfl) (fun X h => ?_)
      refine j_lv (lv' := [(3, .int (v42))]) [0] rfl ?_
      exact g_f_X1_changePoints_48 hG hE hT h
theorem ct_X1_changePoints {l : Launch} (hl : l.stackTraces = false) (B : wB) (X Y : wM) (o : Int64) (dd : UInt64) (td : wX) {a1 : Int32} {a2 : Int32} {res : (Int32 × wM)} (h : f_X1_changePoints X a1 a2 = some res) : wMet l B yX1_changePoints cX1_changePoints 4 (some .int) 0 0 0 0 [.ref (wad B 8), .int (a1), .int (a2)] (X, Y, o, dd, td) (rp (some (.int (res.1))) (res.2, Y, o, dd, td)) xp0 :=
  wMet.of hl (by decide +kernel) (Nat.le_of_ble_eq_true rfl) (fun G hB hL hG hE hT => by subst hB; exact g_f_X1_changePoints hG hE hT h)
def f_X1_putDecision (X : wM) (a1 : Int32) (a2 : Int32) (a3 : Int32) : Option (wM) :=
  (f_X1_placeOfPair a1 a2).bind fun y7 =>
  wput X 9 1600 y7 (vp_nar .char a3) fun X =>
  some X
set_option maxRecDepth 4000 in
theorem g_f_X1_putDecision {G : wG} (hG : wOk G RX1 cX1_putDecision 4 2 36) {X Y : wM} {o : Int64} {dd : UInt64} {td : wX} {res : (wM)} (hE : wEnd G none (rp none (res, Y, o, dd, td)) xp0) (hT : wNoTab G) {a1 : Int32} {a2 : Int32} {a3 : Int32} (h : f_X1_putDecision X a1 a2 a3 = some res) : J G 4 0 0 0 [(0, .ref (wad (gB G) 8)), (1, .int (a1)), (2, .int (a2)), (3, .int (a3))] [] (X, Y, o, dd, td) := by
  unfold f_X1_putDecision at h
  refine j_aload_n hG 0 (dt dtX1_putDecision_0 0 rfl) rfl rfl ?_
  refine j_get hG cl_X1 8 1 (cv_8 _ _ _ _) (by decide) fl_X1_9 rfl rfl (dt dtX1_putDecision_0 1 rfl) ?_
  refine j_aload_n hG 0 (dt dtX1_putDecision_0 2 rfl) rfl rfl ?_
  refine j_iload_n hG 1 (dt dtX1_putDecision_0 3 rfl) rfl rfl ?_
  refine j_iload_n hG 2 (dt dtX1_putDecision_0 4 rfl) rfl rfl ?_
  refine j_callVp hG h (V := fun y7 => (some (.int (y7)))) (S := fun y7 => (X, Y, o, dd, td)) (kc := 0) (ks := 0) (fun z hz => ct_X1_placeOfPair hG.2.2.1 (gB G) _ _ _ _ _ hz) mf_X1_placeOfPair ml_X1_70 8 (cv_8 _ _ _ _) rfl rfl (rest := [.ref (wad (gB G) 9)]) rfl (Nat.le_of_ble_eq_true rfl) (dt dtX1_putDecision_0 5 rfl) (by decide) (by decide) (fun y7 h => ?_)
  refine j_iload_n hG 3 (dt dtX1_putDecision_0 6 rfl) rfl rfl ?_
  refine j_cast hG 9 (X := X) (k := 9) (fun X => (X, Y, o, dd, td)) (cv_9 _ _ _ _) (fun g => cs_9 _ _ _ _ g) h (dt dtX1_putDecision_0 7 rfl) (fun X h => ?_)
  obtain rfl := Option.some.inj h
  exact j_vret hG hE ⟨rfl, rfl⟩ (dt dtX1_putDecision_0 8 rfl)
theorem ct_X1_putDecision {l : Launch} (hl : l.stackTraces = false) (B : wB) (X Y : wM) (o : Int64) (dd : UInt64) (td : wX) {a1 : Int32} {a2 : Int32} {a3 : Int32} {res : (wM)} (h : f_X1_putDecision X a1 a2 a3 = some res) : wMet l B yX1_putDecision cX1_putDecision 4 none 2 36 0 0 [.ref (wad B 8), .int (a1), .int (a2), .int (a3)] (X, Y, o, dd, td) (rp none (res, Y, o, dd, td)) xp0 :=
  wMet.of hl (by decide +kernel) (Nat.le_of_ble_eq_true rfl) (fun G hB hL hG hE hT => by subst hB; exact g_f_X1_putDecision hG hE hT h)
def f_X1_isDecided_21 (X : wM) (s0 : Int32) : Option (Int32) :=
  wgd (wokN .boolean s0) (some s0)
def f_X1_isDecided (X : wM) (a1 : Int32) (a2 : Int32) : Option (Int32) :=
  (f_X1_placeOfPair a1 a2).bind fun y7 =>
  wget 1600 (X 9) y7 fun v10 =>
  (if v10 = 45 then f_X1_isDecided_21 X (0 : Int32)
  else f_X1_isDecided_21 X (1 : Int32))
set_option maxRecDepth 4000 in
theorem g_f_X1_isDecided_21 {G : wG} (hG : wOk G RX1 cX1_isDecided 3 2 36) {X Y : wM} {o : Int64} {dd : UInt64} {td : wX} {res : (Int32)} (hE : wEnd G (some .boolean) (rp (some (.int (res))) (X, Y, o, dd, td)) xp0) (hT : wNoTab G) {s0 : Int32} (h : f_X1_isDecided_21 X s0 = some res) : J G 3 0 0 21 [] [.int (s0)] (X, Y, o, dd, td) := by
  unfold f_X1_isDecided_21 at h
  obtain ⟨c21, h⟩ := wgd_ok h
  obtain rfl := Option.some.inj h
  exact j_zret hG hE (wokN_ok c21) ⟨rfl, rfl⟩ (dt dtX1_isDecided_0 12 rfl)
set_option maxRecDepth 4000 in
theorem g_f_X1_isDecided {G : wG} (hG : wOk G RX1 cX1_isDecided 3 2 36) {X Y : wM} {o : Int64} {dd : UInt64} {td : wX} {res : (Int32)} (hE : wEnd G (some .boolean) (rp (some (.int (res))) (X, Y, o, dd, td)) xp0) (hT : wNoTab G) {a1 : Int32} {a2 : Int32} (h : f_X1_isDecided X a1 a2 = some res) : J G 3 0 0 0 [(0, .ref (wad (gB G) 8)), (1, .int (a1)), (2, .int (a2))] [] (X, Y, o, dd, td) := by
  unfold f_X1_isDecided at h
  refine j_aload_n hG 0 (dt dtX1_isDecided_0 0 rfl) rfl rfl ?_
  refine j_get hG cl_X1 8 1 (cv_8 _ _ _ _) (by decide) fl_X1_9 rfl rfl (dt dtX1_isDecided_0 1 rfl) ?_
  refine j_aload_n hG 0 (dt dtX1_isDecided_0 2 rfl) rfl rfl ?_
  refine j_iload_n hG 1 (dt dtX1_isDecided_0 3 rfl) rfl rfl ?_
  refine j_iload_n hG 2 (dt dtX1_isDecided_0 4 rfl) rfl rfl ?_
  refine j_callVp hG h (V := fun y7 => (some (.int (y7)))) (S := fun y7 => (X, Y, o, dd, td)) (kc := 0) (ks := 0) (fun z hz => ct_X1_placeOfPair hG.2.2.1 (gB G) _ _ _ _ _ hz) mf_X1_placeOfPair ml_X1_70 8 (cv_8 _ _ _ _) rfl rfl (rest := [.ref (wad (gB G) 9)]) rfl (Nat.le_of_ble_eq_true rfl) (dt dtX1_isDecided_0 5 rfl) (by decide) (by decide) (fun y7 h => ?_)
  refine j_cald hG 9 (cv_9 _ _ _ _) h (dt dtX1_isDecided_0 6 rfl) (fun v10 h => ?_)
  refine j_bipush hG (v := 45) (dt dtX1_isDecided_0 7 rfl) (by decide) ?_
  refine j_icmp_eq hG (tgt := 20) (dt dtX1_isDecided_0 8 rfl) (by decide) h (fun h => ?_) (fun h => ?_)
  · refine j_iconst hG (v := 0) (dt dtX1_isDecided_0 11 rfl) (by decide) ?_
    refine j_lv (lv' := []) [] rfl ?_
    exact g_f_X1_isDecided_21 hG hE hT h
  · refine j_iconst hG (v := 1) (dt dtX1_isDecided_0 9 rfl) (by decide) ?_
    refine j_goto hG (tgt := 21) (dt dtX1_isDecided_0 10 rfl) (by decide) ?_
    refine j_lv (lv' := []) [] rfl ?_
    exact g_f_X1_isDecided_21 hG hE hT h
theorem ct_X1_isDecided {l : Launch} (hl : l.stackTraces = false) (B : wB) (X Y : wM) (o : Int64) (dd : UInt64) (td : wX) {a1 : Int32} {a2 : Int32} {res : (Int32)} (h : f_X1_isDecided X a1 a2 = some res) : wMet l B yX1_isDecided cX1_isDecided 3 (some .boolean) 2 36 0 0 [.ref (wad B 8), .int (a1), .int (a2)] (X, Y, o, dd, td) (rp (some (.int (res))) (X, Y, o, dd, td)) xp0 :=
  wMet.of hl (by decide +kernel) (Nat.le_of_ble_eq_true rfl) (fun G hB hL hG hE hT => by subst hB; exact g_f_X1_isDecided hG hE hT h)
def f_X5_sumOfBlock_4b (k4 : Nat → Int32 → Int32 → Int32 → Option (Int32)) (X : wM) (l0 : Nat) (l1 : Int32) (l2 : Int32) (l3 : Int32) : Option (Int32) :=
  (if l3 < 4 then wgd (decide (l0 < wT X)) (wgd (decide (l0 < wT X)) (wget 24 (X (39 + (4 * l0 + 1))) ((l1 * 4) + l3) fun v19 =>
  wbd (l2 + v19) fun v21 =>
  wbd (l3 + 1) fun v22 =>
  k4 l0 l1 v21 v22))
  else some l2)
def f_X5_sumOfBlock_4 (X : wM) : Nat → Nat → Int32 → Int32 → Int32 → Option (Int32)
  | 0 => fun _ _ _ _ => none
  | n + 1 => fun l0 l1 l2 l3 => f_X5_sumOfBlock_4b (f_X5_sumOfBlock_4 X n) X l0 l1 l2 l3
def f_X5_sumOfBlock (X : wM) (a0 : Nat) (a1 : Int32) : Option (Int32) :=
  f_X5_sumOfBlock_4 X 1000 a0 a1 (0 : Int32) (0 : Int32)
set_option maxRecDepth 4000 in
theorem g_f_X5_sumOfBlock_4b {G : wG} (hG : wOk G RX5 cX5_sumOfBlock 4 0 0) {X Y : wM} {o : Int64} {dd : UInt64} {td : wX} {res : (Int32)} (hE : wEnd G (some .int) (rp (some (.int (res))) (X, Y, o, dd, td)) xp0) (hT : wNoTab G) {k4 : Nat → Int32 → Int32 → Int32 → Option (Int32)} (hk4 : ∀ (l0 : Nat) (l1 : Int32) (l2 : Int32) (l3 : Int32), k4 l0 l1 l2 l3 = some res → J G 4 0 0 4 [(0, .ref (td.1 (4 * l0))), (1, .int (l1)), (2, .int (l2)), (3, .int (l3))] [] (X, Y, o, dd, td)) {l0 : Nat} {l1 : Int32} {l2 : Int32} {l3 : Int32} (h : f_X5_sumOfBlock_4b k4 X l0 l1 l2 l3 = some res) : J G 4 0 0 4 [(0, .ref (td.1 (4 * l0))), (1, .int (l1)), (2, .int (l2)), (3, .int (l3))] [] (X, Y, o, dd, td) := by
  unfold f_X5_sumOfBlock_4b at h
  refine j_iload_n hG 3 (dt dtX5_sumOfBlock_0 4 rfl) rfl rfl ?_
  refine j_iconst hG (v := 4) (dt dtX5_sumOfBlock_0 5 rfl) (by decide) ?_
  refine j_icmp_ge hG (tgt := 28) (dt dtX5_sumOfBlock_0 6 rfl) (by decide) h (fun h => ?_) (fun h => ?_)
  · refine j_iload_n hG 2 (dt dtX5_sumOfBlock_0 7 rfl) rfl rfl ?_
    refine j_aload_n hG 0 (dt dtX5_sumOfBlock_0 8 rfl) rfl rfl ?_
    obtain ⟨c11, h⟩ := wgd_ok h
    refine j_get hG cl_X5 (39 + 4 * l0) 1 (ct_0 _ _ _ _ _ _ (of_decide_eq_true c11)) (by decide) fl_X5_9 rfl rfl (dt dtX5_sumOfBlock_0 9 rfl) ?_
    refine j_iload_n hG 1 (dt dtX5_sumOfBlock_0 10 rfl) rfl rfl ?_
    refine j_iconst hG (v := 4) (dt dtX5_sumOfBlock_0 11 rfl) (by decide) ?_
    refine j_imul hG (dt dtX5_sumOfBlock_0 12 rfl) ?_
    refine j_iload_n hG 3 (dt dtX5_sumOfBlock_0 13 rfl) rfl rfl ?_
    refine j_iadd hG (dt dtX5_sumOfBlock_0 14 rfl) ?_
    obtain ⟨c19, h⟩ := wgd_ok h
    refine j_iald hG _ (ct_1 _ _ _ _ _ _ (of_decide_eq_true c19)) h (dt dtX5_sumOfBlock_0 15 rfl) (fun v19 h => ?_)
    refine j_iadd hG (dt dtX5_sumOfBlock_0 16 rfl) ?_
    refine j_istoreB_n hG (fun v21 => [(2, .int (v21)), (0, .ref (td.1 (4 * l0))), (1, .int (l1)), (3, .int (l3))]) (dt dtX5_sumOfBlock_0 17 rfl) rfl (by decide) (fun _ => rfl) h (fun v21 h => ?_)
    refine j_iincB hG 3 (fun v22 => [(3, .int (v22)), (2, .int (v21)), (0, .ref (td.1 (4 * l0))), (1, .int (l1))]) (dt dtX5_sumOfBlock_0 18 rfl) rfl rfl (by decide) (fun _ => rfl) h (fun v22 h => ?_)
    refine j_goto hG (tgt := 4) (dt dtX5_sumOfBlock_0 19 rfl) (by decide) ?_
    refine j_lv (lv' := [(0, .ref (td.1 (4 * l0))), (1, .int (l1)), (2, .int (v21)), (3, .int (v22))]) [2, 3, 1, 0] rfl ?_
    exact hk4 l0 l1 v21 v22 h
  · refine j_iload_n hG 2 (dt dtX5_sumOfBlock_0 20 rfl) rfl rfl ?_
    obtain rfl := Option.some.inj h
    exact j_iret hG hE ⟨rfl, rfl⟩ (dt dtX5_sumOfBlock_0 21 rfl)
set_option maxRecDepth 4000 in
theorem g_f_X5_sumOfBlock_4 {G : wG} (hG : wOk G RX5 cX5_sumOfBlock 4 0 0) {X : wM} {Y : wM} {o : Int64} {dd : UInt64} {td : wX} {res : (Int32)} (hE : wEnd G (some .int) (rp (some (.int (res))) (X, Y, o, dd, td)) xp0) (hT : wNoTab G) (n : Nat) : ∀ (l0 : Nat) (l1 : Int32) (l2 : Int32) (l3 : Int32), f_X5_sumOfBlock_4 X n l0 l1 l2 l3 = some res → J G 4 0 0 4 [(0, .ref (td.1 (4 * l0))), (1, .int (l1)), (2, .int (l2)), (3, .int (l3))] [] (X, Y, o, dd, td) := by
  induction n with
  | zero => intro l0 l1 l2 l3 h; cases h
  | succ n ih =>
    intro l0 l1 l2 l3 h
    exact g_f_X5_sumOfBlock_4b hG hE hT ih h
set_option maxRecDepth 4000 in
theorem g_f_X5_sumOfBlock {G : wG} (hG : wOk G RX5 cX5_sumOfBlock 4 0 0) {X Y : wM} {o : Int64} {dd : UInt64} {td : wX} {res : (Int32)} (hE : wEnd G (some .int) (rp (some (.int (res))) (X, Y, o, dd, td)) xp0) (hT : wNoTab G) {a0 : Nat} {a1 : Int32} (h : f_X5_sumOfBlock X a0 a1 = some res) : J G 4 0 0 0 [(0, .ref (td.1 (4 * a0))), (1, .int (a1))] [] (X, Y, o, dd, td) := by
  unfold f_X5_sumOfBlock at h
  refine j_iconst hG (v := 0) (dt dtX5_sumOfBlock_0 0 rfl) (by decide) ?_
  refine j_istore_n hG (lv' := [(2, .int (0)), (0, .ref (td.1 (4 * a0))), (1, .int (a1))]) (dt dtX5_sumOfBlock_0 1 rfl) rfl (by decide) rfl ?_
  refine j_iconst hG (v := 0) (dt dtX5_sumOfBlock_0 2 rfl) (by decide) ?_
  refine j_istore_n hG (lv' := [(3, .int (0)), (2, .int (0)), (0, .ref (td.1 (4 * a0))), (1, .int (a1))]) (dt dtX5_sumOfBlock_0 3 rfl) rfl (by decide) rfl ?_
  refine j_lv (lv' := [(0, .ref (td.1 (4 * a0))), (1, .int (a1)), (2, .int (0)), (3, .int (0))]) [2, 3, 1, 0] rfl ?_
  exact g_f_X5_sumOfBlock_4 hG hE hT 1000 a0 a1 (0 : Int32) (0 : Int32) h
theorem ct_X5_sumOfBlock {l : Launch} (hl : l.stackTraces = false) (B : wB) (X Y : wM) (o : Int64) (dd : UInt64) (td : wX) {a0 : Nat} {a1 : Int32} {res : (Int32)} (h : f_X5_sumOfBlock X a0 a1 = some res) : wMet l B yX5_sumOfBlock cX5_sumOfBlock 4 (some .int) 0 0 0 0 [.ref (td.1 (4 * a0)), .int (a1)] (X, Y, o, dd, td) (rp (some (.int (res))) (X, Y, o, dd, td)) xp0 :=
  wMet.of hl (by decide +kernel) (Nat.le_of_ble_eq_true rfl) (fun G hB hL hG hE hT => by subst hB; exact g_f_X5_sumOfBlock hG hE hT h)
def f_X5_sumOfGroup_4b (k4 : Nat → Int32 → Int32 → Int32 → Option (Int32)) (X : wM) (l0 : Nat) (l1 : Int32) (l2 : Int32) (l3 : Int32) : Option (Int32) :=
  (if l3 < 6 then wgd (decide (l0 < wT X)) (wgd (decide (l0 < wT X)) (wget 24 (X (39 + (4 * l0 + 1))) ((l3 * 4) + l1) fun v20 =>
  wbd (l2 + v20) fun v22 =>
  wbd (l3 + 1) fun v23 =>
  k4 l0 l1 v22 v23))
  else some l2)
def f_X5_sumOfGroup_4 (X : wM) : Nat → Nat → Int32 → Int32 → Int32 → Option (Int32)
  | 0 => fun _ _ _ _ => none
  | n + 1 => fun l0 l1 l2 l3 => f_X5_sumOfGroup_4b (f_X5_sumOfGroup_4 X n) X l0 l1 l2 l3
def f_X5_sumOfGroup (X : wM) (a0 : Nat) (a1 : Int32) : Option (Int32) :=
  f_X5_sumOfGroup_4 X 1000 a0 a1 (0 : Int32) (0 : Int32)
set_option maxRecDepth 4000 in
theorem g_f_X5_sumOfGroup_4b {G : wG} (hG : wOk G RX5 cX5_sumOfGroup 4 0 0) {X Y : wM} {o : Int64} {dd : UInt64} {td : wX} {res : (Int32)} (hE : wEnd G (some .int) (rp (some (.int (res))) (X, Y, o, dd, td)) xp0) (hT : wNoTab G) {k4 : Nat → Int32 → Int32 → Int32 → Option (Int32)} (hk4 : ∀ (l0 : Nat) (l1 : Int32) (l2 : Int32) (l3 : Int32), k4 l0 l1 l2 l3 = some res → J G 4 0 0 4 [(0, .ref (td.1 (4 * l0))), (1, .int (l1)), (2, .int (l2)), (3, .int (l3))] [] (X, Y, o, dd, td)) {l0 : Nat} {l1 : Int32} {l2 : Int32} {l3 : Int32} (h : f_X5_sumOfGroup_4b k4 X l0 l1 l2 l3 = some res) : J G 4 0 0 4 [(0, .ref (td.1 (4 * l0))), (1, .int (l1)), (2, .int (l2)), (3, .int (l3))] [] (X, Y, o, dd, td) := by
  unfold f_X5_sumOfGroup_4b at h
  refine j_iload_n hG 3 (dt dtX5_sumOfGroup_0 4 rfl) rfl rfl ?_
  refine j_bipush hG (v := 6) (dt dtX5_sumOfGroup_0 5 rfl) (by decide) ?_
  refine j_icmp_ge hG (tgt := 29) (dt dtX5_sumOfGroup_0 6 rfl) (by decide) h (fun h => ?_) (fun h => ?_)
  · refine j_iload_n hG 2 (dt dtX5_sumOfGroup_0 7 rfl) rfl rfl ?_
    refine j_aload_n hG 0 (dt dtX5_sumOfGroup_0 8 rfl) rfl rfl ?_
    obtain ⟨c12, h⟩ := wgd_ok h
    refine j_get hG cl_X5 (39 + 4 * l0) 1 (ct_0 _ _ _ _ _ _ (of_decide_eq_true c12)) (by decide) fl_X5_9 rfl rfl (dt dtX5_sumOfGroup_0 9 rfl) ?_
    refine j_iload_n hG 3 (dt dtX5_sumOfGroup_0 10 rfl) rfl rfl ?_
    refine j_iconst hG (v := 4) (dt dtX5_sumOfGroup_0 11 rfl) (by decide) ?_
    refine j_imul hG (dt dtX5_sumOfGroup_0 12 rfl) ?_
    refine j_iload_n hG 1 (dt dtX5_sumOfGroup_0 13 rfl) rfl rfl ?_
    refine j_iadd hG (dt dtX5_sumOfGroup_0 14 rfl) ?_
    obtain ⟨c20, h⟩ := wgd_ok h
    refine j_iald hG _ (ct_1 _ _ _ _ _ _ (of_decide_eq_true c20)) h (dt dtX5_sumOfGroup_0 15 rfl) (fun v20 h => ?_)
    refine j_iadd hG (dt dtX5_sumOfGroup_0 16 rfl) ?_
    refine j_istoreB_n hG (fun v22 => [(2, .int (v22)), (0, .ref (td.1 (4 * l0))), (1, .int (l1)), (3, .int (l3))]) (dt dtX5_sumOfGroup_0 17 rfl) rfl (by decide) (fun _ => rfl) h (fun v22 h => ?_)
    refine j_iincB hG 3 (fun v23 => [(3, .int (v23)), (2, .int (v22)), (0, .ref (td.1 (4 * l0))), (1, .int (l1))]) (dt dtX5_sumOfGroup_0 18 rfl) rfl rfl (by decide) (fun _ => rfl) h (fun v23 h => ?_)
    refine j_goto hG (tgt := 4) (dt dtX5_sumOfGroup_0 19 rfl) (by decide) ?_
    refine j_lv (lv' := [(0, .ref (td.1 (4 * l0))), (1, .int (l1)), (2, .int (v22)), (3, .int (v23))]) [2, 3, 1, 0] rfl ?_
    exact hk4 l0 l1 v22 v23 h
  · refine j_iload_n hG 2 (dt dtX5_sumOfGroup_0 20 rfl) rfl rfl ?_
    obtain rfl := Option.some.inj h
    exact j_iret hG hE ⟨rfl, rfl⟩ (dt dtX5_sumOfGroup_0 21 rfl)
set_option maxRecDepth 4000 in
theorem g_f_X5_sumOfGroup_4 {G : wG} (hG : wOk G RX5 cX5_sumOfGroup 4 0 0) {X : wM} {Y : wM} {o : Int64} {dd : UInt64} {td : wX} {res : (Int32)} (hE : wEnd G (some .int) (rp (some (.int (res))) (X, Y, o, dd, td)) xp0) (hT : wNoTab G) (n : Nat) : ∀ (l0 : Nat) (l1 : Int32) (l2 : Int32) (l3 : Int32), f_X5_sumOfGroup_4 X n l0 l1 l2 l3 = some res → J G 4 0 0 4 [(0, .ref (td.1 (4 * l0))), (1, .int (l1)), (2, .int (l2)), (3, .int (l3))] [] (X, Y, o, dd, td) := by
  induction n with
  | zero => intro l0 l1 l2 l3 h; cases h
  | succ n ih =>
    intro l0 l1 l2 l3 h
    exact g_f_X5_sumOfGroup_4b hG hE hT ih h
set_option maxRecDepth 4000 in
theorem g_f_X5_sumOfGroup {G : wG} (hG : wOk G RX5 cX5_sumOfGroup 4 0 0) {X Y : wM} {o : Int64} {dd : UInt64} {td : wX} {res : (Int32)} (hE : wEnd G (some .int) (rp (some (.int (res))) (X, Y, o, dd, td)) xp0) (hT : wNoTab G) {a0 : Nat} {a1 : Int32} (h : f_X5_sumOfGroup X a0 a1 = some res) : J G 4 0 0 0 [(0, .ref (td.1 (4 * a0))), (1, .int (a1))] [] (X, Y, o, dd, td) := by
  unfold f_X5_sumOfGroup at h
  refine j_iconst hG (v := 0) (dt dtX5_sumOfGroup_0 0 rfl) (by decide) ?_
  refine j_istore_n hG (lv' := [(2, .int (0)), (0, .ref (td.1 (4 * a0))), (1, .int (a1))]) (dt dtX5_sumOfGroup_0 1 rfl) rfl (by decide) rfl ?_
  refine j_iconst hG (v := 0) (dt dtX5_sumOfGroup_0 2 rfl) (by decide) ?_
  refine j_istore_n hG (lv' := [(3, .int (0)), (2, .int (0)), (0, .ref (td.1 (4 * a0))), (1, .int (a1))]) (dt dtX5_sumOfGroup_0 3 rfl) rfl (by decide) rfl ?_
  refine j_lv (lv' := [(0, .ref (td.1 (4 * a0))), (1, .int (a1)), (2, .int (0)), (3, .int (0))]) [2, 3, 1, 0] rfl ?_
  exact g_f_X5_sumOfGroup_4 hG hE hT 1000 a0 a1 (0 : Int32) (0 : Int32) h
theorem ct_X5_sumOfGroup {l : Launch} (hl : l.stackTraces = false) (B : wB) (X Y : wM) (o : Int64) (dd : UInt64) (td : wX) {a0 : Nat} {a1 : Int32} {res : (Int32)} (h : f_X5_sumOfGroup X a0 a1 = some res) : wMet l B yX5_sumOfGroup cX5_sumOfGroup 4 (some .int) 0 0 0 0 [.ref (td.1 (4 * a0)), .int (a1)] (X, Y, o, dd, td) (rp (some (.int (res))) (X, Y, o, dd, td)) xp0 :=
  wMet.of hl (by decide +kernel) (Nat.le_of_ble_eq_true rfl) (fun G hB hL hG hE hT => by subst hB; exact g_f_X5_sumOfGroup hG hE hT h)
