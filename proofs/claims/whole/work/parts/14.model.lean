def f_X8_thrown (Y : wM) : Option (Int32) :=
  some (Y 22 14)
set_option maxRecDepth 4000 in
theorem g_f_X8_thrown {G : wG} (hG : wOk G RX8 cX8_thrown 1 0 0) {X Y : wM} {o : Int64} {dd : UInt64} {td : wX} {res : (Int32)} (hE : wEnd G (some .int) (rp (some (.int (res))) (X, Y, o, dd, td)) xp0) (hT : wNoTab G) (h : f_X8_thrown Y = some res) : J G 1 0 0 0 [(0, .ref (wad (gB G) 22))] [] (X, Y, o, dd, td) := by
  unfold f_X8_thrown at h
  refine j_aload_n hG 0 (dt dtX8_thrown_0 0 rfl) rfl rfl ?_
  refine j_get hG cl_X8 22 14 (cv_22 _ _ _ _) (by decide) fl_X8_54 rfl rfl (dt dtX8_thrown_0 1 rfl) ?_
  obtain rfl := Option.some.inj h
  exact j_iret hG hE ⟨rfl, rfl⟩ (dt dtX8_thrown_0 2 rfl)
theorem ct_X8_thrown {l : Launch} (hl : l.stackTraces = false) (B : wB) (X Y : wM) (o : Int64) (dd : UInt64) (td : wX) {res : (Int32)} (h : f_X8_thrown Y = some res) : wMet l B yX8_thrown cX8_thrown 1 (some .int) 0 0 0 0 [.ref (wad B 22)] (X, Y, o, dd, td) (rp (some (.int (res))) (X, Y, o, dd, td)) xp0 :=
  wMet.of hl (by decide +kernel) (Nat.le_of_ble_eq_true rfl) (fun G hB hL hG hE hT => by subst hB; exact g_f_X8_thrown hG hE hT h)
def f_X8_in_15 (s0 : Int32) : Option (Int32) :=
  wgd (wokN .boolean s0) (some s0)
def f_X8_in_14 : Option (Int32) :=
  f_X8_in_15 (0 : Int32)
def f_X8_in (a0 : Int32) (a1 : Int32) (a2 : Int32) : Option (Int32) :=
  (if a0 < a1 then f_X8_in_14
  else (if a2 < a0 then f_X8_in_14
  else f_X8_in_15 (1 : Int32)))
set_option maxRecDepth 4000 in
theorem g_f_X8_in_15 {G : wG} (hG : wOk G RX8 cX8_in 3 0 0) {X Y : wM} {o : Int64} {dd : UInt64} {td : wX} {res : (Int32)} (hE : wEnd G (some .boolean) (rp (some (.int (res))) (X, Y, o, dd, td)) xp0) (hT : wNoTab G) {s0 : Int32} (h : f_X8_in_15 s0 = some res) : J G 3 0 0 15 [] [.int (s0)] (X, Y, o, dd, td) := by
  unfold f_X8_in_15 at h
  obtain ⟨c15, h⟩ := wgd_ok h
  obtain rfl := Option.some.inj h
  exact j_zret hG hE (wokN_ok c15) ⟨rfl, rfl⟩ (dt dtX8_in_0 9 rfl)
set_option maxRecDepth 4000 in
theorem g_f_X8_in_14 {G : wG} (hG : wOk G RX8 cX8_in 3 0 0) {X Y : wM} {o : Int64} {dd : UInt64} {td : wX} {res : (Int32)} (hE : wEnd G (some .boolean) (rp (some (.int (res))) (X, Y, o, dd, td)) xp0) (hT : wNoTab G) (h : f_X8_in_14 = some res) : J G 3 0 0 14 [] [] (X, Y, o, dd, td) := by
  unfold f_X8_in_14 at h
  refine j_iconst hG (v := 0) (dt dtX8_in_0 8 rfl) (by decide) ?_
  exact g_f_X8_in_15 hG hE hT h
set_option maxRecDepth 4000 in
theorem g_f_X8_in {G : wG} (hG : wOk G RX8 cX8_in 3 0 0) {X Y : wM} {o : Int64} {dd : UInt64} {td : wX} {res : (Int32)} (hE : wEnd G (some .boolean) (rp (some (.int (res))) (X, Y, o, dd, td)) xp0) (hT : wNoTab G) {a0 : Int32} {a1 : Int32} {a2 : Int32} (h : f_X8_in a0 a1 a2 = some res) : J G 3 0 0 0 [(0, .int (a0)), (1, .int (a1)), (2, .int (a2))] [] (X, Y, o, dd, td) := by
  unfold f_X8_in at h
  refine j_iload_n hG 0 (dt dtX8_in_0 0 rfl) rfl rfl ?_
  refine j_iload_n hG 1 (dt dtX8_in_0 1 rfl) rfl rfl ?_
  refine j_icmp_lt hG (tgt := 14) (dt dtX8_in_0 2 rfl) (by decide) h (fun h => ?_) (fun h => ?_)
  · refine j_lv (lv' := []) [] rfl ?_
    exact g_f_X8_in_14 hG hE hT h
  · refine j_iload_n hG 0 (dt dtX8_in_0 3 rfl) rfl rfl ?_
    refine j_iload_n hG 2 (dt dtX8_in_0 4 rfl) rfl rfl ?_
    refine j_icmp_gt hG (tgt := 14) (dt dtX8_in_0 5 rfl) (by decide) h (fun h => ?_) (fun h => ?_)
    · refine j_lv (lv' := []) [] rfl ?_
      exact g_f_X8_in_14 hG hE hT h
    · refine j_iconst hG (v := 1) (dt dtX8_in_0 6 rfl) (by decide) ?_
      refine j_goto hG (tgt := 15) (dt dtX8_in_0 7 rfl) (by decide) ?_
      refine j_lv (lv' := []) [] rfl ?_
      exact g_f_X8_in_15 hG hE hT h
theorem ct_X8_in {l : Launch} (hl : l.stackTraces = false) (B : wB) (X Y : wM) (o : Int64) (dd : UInt64) (td : wX) {a0 : Int32} {a1 : Int32} {a2 : Int32} {res : (Int32)} (h : f_X8_in a0 a1 a2 = some res) : wMet l B yX8_in cX8_in 3 (some .boolean) 0 0 0 0 [.int (a0), .int (a1), .int (a2)] (X, Y, o, dd, td) (rp (some (.int (res))) (X, Y, o, dd, td)) xp0 :=
  wMet.of hl (by decide +kernel) (Nat.le_of_ble_eq_true rfl) (fun G hB hL hG hE hT => by subst hB; exact g_f_X8_in hG hE hT h)
def f_X8_plain (Y : wM) (a1 : Int32) : Option (Int32 × wM) :=
  wfld Y 22 14 0 fun Y =>
  some (a1, Y)
set_option maxRecDepth 4000 in
theorem g_f_X8_plain {G : wG} (hG : wOk G RX8 cX8_plain 2 0 0) {X Y : wM} {o : Int64} {dd : UInt64} {td : wX} {res : (Int32 × wM)} (hE : wEnd G (some .int) (rp (some (.int (res.1))) (X, res.2, o, dd, td)) xp0) (hT : wNoTab G) {a1 : Int32} (h : f_X8_plain Y a1 = some res) : J G 2 0 0 0 [(0, .ref (wad (gB G) 22)), (1, .int (a1))] [] (X, Y, o, dd, td) := by
  unfold f_X8_plain at h
  refine j_aload_n hG 0 (dt dtX8_plain_0 0 rfl) rfl rfl ?_
  refine j_iconst hG (v := 0) (dt dtX8_plain_0 1 rfl) (by decide) ?_
  refine j_put hG cl_X8 22 14 (X := Y) (k := 22) (fun Y => (X, Y, o, dd, td)) (cv_22 _ _ _ _) (by decide) fl_X8_54 rfl rfl rfl rfl rfl (Nat.le_of_ble_eq_true rfl) (cs_22 _ _ _ _ (upd (Y 22) 14 0)) h (dt dtX8_plain_0 2 rfl) (fun Y h => ?_)
  refine j_iload_n hG 1 (dt dtX8_plain_0 3 rfl) rfl rfl ?_
  obtain rfl := Option.some.inj h
  exact j_iret hG hE ⟨rfl, rfl⟩ (dt dtX8_plain_0 4 rfl)
theorem ct_X8_plain {l : Launch} (hl : l.stackTraces = false) (B : wB) (X Y : wM) (o : Int64) (dd : UInt64) (td : wX) {a1 : Int32} {res : (Int32 × wM)} (h : f_X8_plain Y a1 = some res) : wMet l B yX8_plain cX8_plain 2 (some .int) 0 0 0 0 [.ref (wad B 22), .int (a1)] (X, Y, o, dd, td) (rp (some (.int (res.1))) (X, res.2, o, dd, td)) xp0 :=
  wMet.of hl (by decide +kernel) (Nat.le_of_ble_eq_true rfl) (fun G hB hL hG hE hT => by subst hB; exact g_f_X8_plain hG hE hT h)
def f_X8_checked_10 (Y : wM) (s0 : Int32) : Option (Int32 × wM) :=
  wfld Y 22 14 s0 fun Y =>
  some ((Y 22 14), Y)
def f_X8_checked (Y : wM) (a1 : Int32) : Option (Int32 × wM) :=
  (if a1 = 0 then f_X8_checked_10 Y (1 : Int32)
  else f_X8_checked_10 Y (0 : Int32))
set_option maxRecDepth 4000 in
theorem g_f_X8_checked_10 {G : wG} (hG : wOk G RX8 cX8_checked 2 0 0) {X Y : wM} {o : Int64} {dd : UInt64} {td : wX} {res : (Int32 × wM)} (hE : wEnd G (some .int) (rp (some (.int (res.1))) (X, res.2, o, dd, td)) xp0) (hT : wNoTab G) {s0 : Int32} (h : f_X8_checked_10 Y s0 = some res) : J G 2 0 0 10 [(0, .ref (wad (gB G) 22))] [.int (s0), .ref (wad (gB G) 22)] (X, Y, o, dd, td) := by
  unfold f_X8_checked_10 at h
  refine j_put hG cl_X8 22 14 (X := Y) (k := 22) (fun Y => (X, Y, o, dd, td)) (cv_22 _ _ _ _) (by decide) fl_X8_54 rfl rfl rfl rfl rfl (Nat.le_of_ble_eq_true rfl) (cs_22 _ _ _ _ (upd (Y 22) 14 s0)) h (dt dtX8_checked_0 6 rfl) (fun Y h => ?_)
  refine j_aload_n hG 0 (dt dtX8_checked_0 7 rfl) rfl rfl ?_
  refine j_get hG cl_X8 22 14 (cv_22 _ _ _ _) (by decide) fl_X8_54 rfl rfl (dt dtX8_checked_0 8 rfl) ?_
  obtain rfl := Option.some.inj h
  exact j_iret hG hE ⟨rfl, rfl⟩ (dt dtX8_checked_0 9 rfl)
set_option maxRecDepth 4000 in
theorem g_f_X8_checked {G : wG} (hG : wOk G RX8 cX8_checked 2 0 0) {X Y : wM} {o : Int64} {dd : UInt64} {td : wX} {res : (Int32 × wM)} (hE : wEnd G (some .int) (rp (some (.int (res.1))) (X, res.2, o, dd, td)) xp0) (hT : wNoTab G) {a1 : Int32} (h : f_X8_checked Y a1 = some res) : J G 2 0 0 0 [(0, .ref (wad (gB G) 22)), (1, .int (a1))] [] (X, Y, o, dd, td) := by
  unfold f_X8_checked at h
  refine j_aload_n hG 0 (dt dtX8_checked_0 0 rfl) rfl rfl ?_
  refine j_iload_n hG 1 (dt dtX8_checked_0 1 rfl) rfl rfl ?_
  refine j_if_eq hG (tgt := 9) (dt dtX8_checked_0 2 rfl) (by decide) h (fun h => ?_) (fun h => ?_)
  · refine j_iconst hG (v := 1) (dt dtX8_checked_0 5 rfl) (by decide) ?_
    refine j_lv (lv' := [(0, .ref (wad (gB G) 22))]) [0] rfl ?_
    exact g_f_X8_checked_10 hG hE hT h
  · refine j_iconst hG (v := 0) (dt dtX8_checked_0 3 rfl) (by decide) ?_
    refine j_goto hG (tgt := 10) (dt dtX8_checked_0 4 rfl) (by decide) ?_
    refine j_lv (lv' := [(0, .ref (wad (gB G) 22))]) [0] rfl ?_
    exact g_f_X8_checked_10 hG hE hT h
theorem ct_X8_checked {l : Launch} (hl : l.stackTraces = false) (B : wB) (X Y : wM) (o : Int64) (dd : UInt64) (td : wX) {a1 : Int32} {res : (Int32 × wM)} (h : f_X8_checked Y a1 = some res) : wMet l B yX8_checked cX8_checked 2 (some .int) 0 0 0 0 [.ref (wad B 22), .int (a1)] (X, Y, o, dd, td) (rp (some (.int (res.1))) (X, res.2, o, dd, td)) xp0 :=
  wMet.of hl (by decide +kernel) (Nat.le_of_ble_eq_true rfl) (fun G hB hL hG hE hT => by subst hB; exact g_f_X8_checked hG hE hT h)
def f_X8_isBlock (Y : wM) (a1 : Int32) : Option (Int32) :=
  (f_X8_in a1 (0 : Int32) ((Y 22 15) - 1)).bind fun y8 =>
  wgd (wokN .boolean y8) (some y8)
set_option maxRecDepth 4000 in
theorem g_f_X8_isBlock {G : wG} (hG : wOk G RX8 cX8_isBlock 2 1 22) {X Y : wM} {o : Int64} {dd : UInt64} {td : wX} {res : (Int32)} (hE : wEnd G (some .boolean) (rp (some (.int (res))) (X, Y, o, dd, td)) xp0) (hT : wNoTab G) {a1 : Int32} (h : f_X8_isBlock Y a1 = some res) : J G 2 0 0 0 [(0, .ref (wad (gB G) 22)), (1, .int (a1))] [] (X, Y, o, dd, td) := by
  unfold f_X8_isBlock at h
  refine j_iload_n hG 1 (dt dtX8_isBlock_0 0 rfl) rfl rfl ?_
  refine j_iconst hG (v := 0) (dt dtX8_isBlock_0 1 rfl) (by decide) ?_
  refine j_aload_n hG 0 (dt dtX8_isBlock_0 2 rfl) rfl rfl ?_
  refine j_get hG cl_X8 22 15 (cv_22 _ _ _ _) (by decide) fl_X8_58 rfl rfl (dt dtX8_isBlock_0 3 rfl) ?_
  refine j_iconst hG (v := 1) (dt dtX8_isBlock_0 4 rfl) (by decide) ?_
  refine j_isub hG (dt dtX8_isBlock_0 5 rfl) ?_
  refine j_callSp hG h (V := fun y8 => (some (.int (y8)))) (S := fun y8 => (X, Y, o, dd, td)) (kc := 0) (ks := 0) (fun z hz => ct_X8_in hG.2.2.1 (gB G) _ _ _ _ _ hz) mf_X8_in ml_X8_91 rfl (rest := []) rfl (Nat.le_of_ble_eq_true rfl) (dt dtX8_isBlock_0 6 rfl) (by decide) (by decide) (fun y8 h => ?_)
  obtain ⟨c11, h⟩ := wgd_ok h
  obtain rfl := Option.some.inj h
  exact j_zret hG hE (wokN_ok c11) ⟨rfl, rfl⟩ (dt dtX8_isBlock_0 7 rfl)
theorem ct_X8_isBlock {l : Launch} (hl : l.stackTraces = false) (B : wB) (X Y : wM) (o : Int64) (dd : UInt64) (td : wX) {a1 : Int32} {res : (Int32)} (h : f_X8_isBlock Y a1 = some res) : wMet l B yX8_isBlock cX8_isBlock 2 (some .boolean) 1 22 0 0 [.ref (wad B 22), .int (a1)] (X, Y, o, dd, td) (rp (some (.int (res))) (X, Y, o, dd, td)) xp0 :=
  wMet.of hl (by decide +kernel) (Nat.le_of_ble_eq_true rfl) (fun G hB hL hG hE hT => by subst hB; exact g_f_X8_isBlock hG hE hT h)
def f_X8_isRecord (Y : wM) (a1 : Int32) : Option (Int32) :=
  (f_X8_in a1 (0 : Int32) ((Y 22 17) - 1)).bind fun y8 =>
  wgd (wokN .boolean y8) (some y8)
set_option maxRecDepth 4000 in
theorem g_f_X8_isRecord {G : wG} (hG : wOk G RX8 cX8_isRecord 2 1 22) {X Y : wM} {o : Int64} {dd : UInt64} {td : wX} {res : (Int32)} (hE : wEnd G (some .boolean) (rp (some (.int (res))) (X, Y, o, dd, td)) xp0) (hT : wNoTab G) {a1 : Int32} (h : f_X8_isRecord Y a1 = some res) : J G 2 0 0 0 [(0, .ref (wad (gB G) 22)), (1, .int (a1))] [] (X, Y, o, dd, td) := by
  unfold f_X8_isRecord at h
  refine j_iload_n hG 1 (dt dtX8_isRecord_0 0 rfl) rfl rfl ?_
  refine j_iconst hG (v := 0) (dt dtX8_isRecord_0 1 rfl) (by decide) ?_
  refine j_aload_n hG 0 (dt dtX8_isRecord_0 2 rfl) rfl rfl ?_
  refine j_get hG cl_X8 22 17 (cv_22 _ _ _ _) (by decide) fl_X8_64 rfl rfl (dt dtX8_isRecord_0 3 rfl) ?_
  refine j_iconst hG (v := 1) (dt dtX8_isRecord_0 4 rfl) (by decide) ?_
  refine j_isub hG (dt dtX8_isRecord_0 5 rfl) ?_
  refine j_callSp hG h (V := fun y8 => (some (.int (y8)))) (S := fun y8 => (X, Y, o, dd, td)) (kc := 0) (ks := 0) (fun z hz => ct_X8_in hG.2.2.1 (gB G) _ _ _ _ _ hz) mf_X8_in ml_X8_91 rfl (rest := []) rfl (Nat.le_of_ble_eq_true rfl) (dt dtX8_isRecord_0 6 rfl) (by decide) (by decide) (fun y8 h => ?_)
  obtain ⟨c11, h⟩ := wgd_ok h
  obtain rfl := Option.some.inj h
  exact j_zret hG hE (wokN_ok c11) ⟨rfl, rfl⟩ (dt dtX8_isRecord_0 7 rfl)
theorem ct_X8_isRecord {l : Launch} (hl : l.stackTraces = false) (B : wB) (X Y : wM) (o : Int64) (dd : UInt64) (td : wX) {a1 : Int32} {res : (Int32)} (h : f_X8_isRecord Y a1 = some res) : wMet l B yX8_isRecord cX8_isRecord 2 (some .boolean) 1 22 0 0 [.ref (wad B 22), .int (a1)] (X, Y, o, dd, td) (rp (some (.int (res))) (X, Y, o, dd, td)) xp0 :=
  wMet.of hl (by decide +kernel) (Nat.le_of_ble_eq_true rfl) (fun G hB hL hG hE hT => by subst hB; exact g_f_X8_isRecord hG hE hT h)
def f_X8_group_27 (s0 : Int32) : Option (Int32) :=
  some s0
def f_X8_group (a0 : Int32) : Option (Int32) :=
  (if 17 < a0 then (if 39 < a0 then (if 64 < a0 then f_X8_group_27 (3 : Int32)
  else f_X8_group_27 (2 : Int32))
  else some 1)
  else some 0)
set_option maxRecDepth 4000 in
theorem g_f_X8_group_27 {G : wG} (hG : wOk G RX8 cX8_group 1 0 0) {X Y : wM} {o : Int64} {dd : UInt64} {td : wX} {res : (Int32)} (hE : wEnd G (some .int) (rp (some (.int (res))) (X, Y, o, dd, td)) xp0) (hT : wNoTab G) {s0 : Int32} (h : f_X8_group_27 s0 = some res) : J G 1 0 0 27 [] [.int (s0)] (X, Y, o, dd, td) := by
  unfold f_X8_group_27 at h
  obtain rfl := Option.some.inj h
  exact j_iret hG hE ⟨rfl, rfl⟩ (dt dtX8_group_0 16 rfl)
set_option maxRecDepth 4000 in
theorem g_f_X8_group {G : wG} (hG : wOk G RX8 cX8_group 1 0 0) {X Y : wM} {o : Int64} {dd : UInt64} {td : wX} {res : (Int32)} (hE : wEnd G (some .int) (rp (some (.int (res))) (X, Y, o, dd, td)) xp0) (hT : wNoTab G) {a0 : Int32} (h : f_X8_group a0 = some res) : J G 1 0 0 0 [(0, .int (a0))] [] (X, Y, o, dd, td) := by
  unfold f_X8_group at h
  refine j_iload_n hG 0 (dt dtX8_group_0 0 rfl) rfl rfl ?_
  refine j_bipush hG (v := 17) (dt dtX8_group_0 1 rfl) (by decide) ?_
  refine j_icmp_gt hG (tgt := 8) (dt dtX8_group_0 2 rfl) (by decide) h (fun h => ?_) (fun h => ?_)
  · refine j_iload_n hG 0 (dt dtX8_group_0 5 rfl) rfl rfl ?_
    refine j_bipush hG (v := 39) (dt dtX8_group_0 6 rfl) (by decide) ?_
    refine j_icmp_gt hG (tgt := 16) (dt dtX8_group_0 7 rfl) (by decide) h (fun h => ?_) (fun h => ?_)
    · refine j_iload_n hG 0 (dt dtX8_group_0 10 rfl) rfl rfl ?_
      refine j_bipush hG (v := 64) (dt dtX8_group_0 11 rfl) (by decide) ?_
      refine j_icmp_gt hG (tgt := 26) (dt dtX8_group_0 12 rfl) (by decide) h (fun h => ?_) (fun h => ?_)
      · refine j_iconst hG (v := 3) (dt dtX8_group_0 15 rfl) (by decide) ?_
        refine j_lv (lv' := []) [] rfl ?_
        exact g_f_X8_group_27 hG hE hT h
      · refine j_iconst hG (v := 2) (dt dtX8_group_0 13 rfl) (by decide) ?_
        refine j_goto hG (tgt := 27) (dt dtX8_group_0 14 rfl) (by decide) ?_
        refine j_lv (lv' := []) [] rfl ?_
        exact g_f_X8_group_27 hG hE hT h
    · refine j_iconst hG (v := 1) (dt dtX8_group_0 8 rfl) (by decide) ?_
      obtain rfl := Option.some.inj h
      exact j_iret hG hE ⟨rfl, rfl⟩ (dt dtX8_group_0 9 rfl)
  · refine j_iconst hG (v := 0) (dt dtX8_group_0 3 rfl) (by decide) ?_
    obtain rfl := Option.some.inj h
    exact j_iret hG hE ⟨rfl, rfl⟩ (dt dtX8_group_0 4 rfl)
theorem ct_X8_group {l : Launch} (hl : l.stackTraces = false) (B : wB) (X Y : wM) (o : Int64) (dd : UInt64) (td : wX) {a0 : Int32} {res : (Int32)} (h : f_X8_group a0 = some res) : wMet l B yX8_group cX8_group 1 (some .int) 0 0 0 0 [.int (a0)] (X, Y, o, dd, td) (rp (some (.int (res))) (X, Y, o, dd, td)) xp0 :=
  wMet.of hl (by decide +kernel) (Nat.le_of_ble_eq_true rfl) (fun G hB hL hG hE hT => by subst hB; exact g_f_X8_group hG hE hT h)
def f_X8_blockFor (Y : wM) (a1 : Int32) : Option (Int32) :=
  wget 40 (Y 24) a1 fun v9 =>
  wget 20 (Y 23) v9 fun v10 =>
  some v10
set_option maxRecDepth 4000 in
theorem g_f_X8_blockFor {G : wG} (hG : wOk G RX8 cX8_blockFor 2 0 0) {X Y : wM} {o : Int64} {dd : UInt64} {td : wX} {res : (Int32)} (hE : wEnd G (some .int) (rp (some (.int (res))) (X, Y, o, dd, td)) xp0) (hT : wNoTab G) {a1 : Int32} (h : f_X8_blockFor Y a1 = some res) : J G 2 0 0 0 [(0, .ref (wad (gB G) 22)), (1, .int (a1))] [] (X, Y, o, dd, td) := by
  unfold f_X8_blockFor at h
  refine j_aload_n hG 0 (dt dtX8_blockFor_0 0 rfl) rfl rfl ?_
  refine j_get hG cl_X8 22 0 (cv_22 _ _ _ _) (by decide) fl_X8_7 rfl rfl (dt dtX8_blockFor_0 1 rfl) ?_
  refine j_aload_n hG 0 (dt dtX8_blockFor_0 2 rfl) rfl rfl ?_
  refine j_get hG cl_X8 22 1 (cv_22 _ _ _ _) (by decide) fl_X8_13 rfl rfl (dt dtX8_blockFor_0 3 rfl) ?_
  refine j_iload_n hG 1 (dt dtX8_blockFor_0 4 rfl) rfl rfl ?_
  refine j_iald hG 24 (cv_24 _ _ _ _) h (dt dtX8_blockFor_0 5 rfl) (fun v9 h => ?_)
  refine j_iald hG 23 (cv_23 _ _ _ _) h (dt dtX8_blockFor_0 6 rfl) (fun v10 h => ?_)
  obtain rfl := Option.some.inj h
  exact j_iret hG hE ⟨rfl, rfl⟩ (dt dtX8_blockFor_0 7 rfl)
theorem ct_X8_blockFor {l : Launch} (hl : l.stackTraces = false) (B : wB) (X Y : wM) (o : Int64) (dd : UInt64) (td : wX) {a1 : Int32} {res : (Int32)} (h : f_X8_blockFor Y a1 = some res) : wMet l B yX8_blockFor cX8_blockFor 2 (some .int) 0 0 0 0 [.ref (wad B 22), .int (a1)] (X, Y, o, dd, td) (rp (some (.int (res))) (X, Y, o, dd, td)) xp0 :=
  wMet.of hl (by decide +kernel) (Nat.le_of_ble_eq_true rfl) (fun G hB hL hG hE hT => by subst hB; exact g_f_X8_blockFor hG hE hT h)
def f_X8_scoreOf_155 (Y : wM) (s0 : Int32) : Option (Int32) :=
  some s0
def f_X8_scoreOf_108 (Y : wM) (l1 : Int32) (l2 : Int32) (l3 : Int32) : Option (Int32) :=
  wget 40 (Y 24) l1 fun v113 =>
  wget 40 (Y 24) l2 fun v119 =>
  (if v113 = v119 then some (l3 + (Y 22 21))
  else (f_X8_blockFor Y l1).bind fun y132 =>
  (f_X8_blockFor Y l2).bind fun y137 =>
  (if y132 = y137 then f_X8_scoreOf_155 Y (l3 + ((Y 22 21) / 2))
  else f_X8_scoreOf_155 Y l3))
def f_X8_scoreOf_99 (Y : wM) (l1 : Int32) (l2 : Int32) (l3 : Int32) : Option (Int32) :=
  wbd (l3 + ((Y 22 20) / 2)) fun v107 =>
  f_X8_scoreOf_108 Y l1 l2 v107
def f_X8_scoreOf_57 (Y : wM) (l1 : Int32) (l2 : Int32) (l3 : Int32) : Option (Int32) :=
  wget 40 (Y 26) l1 fun v62 =>
  wget 40 (Y 26) l2 fun v68 =>
  wbd (v62 - v68) fun v70 =>
  (if v70 = 0 then wbd (l3 + (Y 22 20)) fun v83 =>
  f_X8_scoreOf_108 Y l1 l2 v83
  else (if v70 = 1 then f_X8_scoreOf_99 Y l1 l2 l3
  else (if v70 = (-1) then f_X8_scoreOf_99 Y l1 l2 l3
  else f_X8_scoreOf_108 Y l1 l2 l3)))
def f_X8_scoreOf (Y : wM) (a1 : Int32) (a2 : Int32) : Option (Int32) :=
  wget 40 (Y 25) a1 fun v7 =>
  wget 40 (Y 25) a2 fun v13 =>
  (if v7 = v13 then wbd (0 + (Y 22 19)) fun v23 =>
  f_X8_scoreOf_57 Y a1 a2 v23
  else wget 40 (Y 25) a1 fun v32 =>
  wget 40 (Y 25) a2 fun v41 =>
  (if (v32 / 10) = (v41 / 10) then wbd (0 + ((Y 22 19) / 2)) fun v56 =>
  f_X8_scoreOf_57 Y a1 a2 v56
  else f_X8_scoreOf_57 Y a1 a2 (0 : Int32)))
set_option maxRecDepth 4000 in
theorem g_f_X8_scoreOf_155 {G : wG} (hG : wOk G RX8 cX8_scoreOf 5 1 21) {X Y : wM} {o : Int64} {dd : UInt64} {td : wX} {res : (Int32)} (hE : wEnd G (some .int) (rp (some (.int (res))) (X, Y, o, dd, td)) xp0) (hT : wNoTab G) {s0 : Int32} (h : f_X8_scoreOf_155 Y s0 = some res) : J G 5 0 0 155 [] [.int (s0)] (X, Y, o, dd, td) := by
  unfold f_X8_scoreOf_155 at h
  obtain rfl := Option.some.inj h
  exact j_iret hG hE ⟨rfl, rfl⟩ (dt dtX8_scoreOf_1 37 rfl)
set_option maxRecDepth 4000 in
theorem g_f_X8_scoreOf_108 {G : wG} (hG : wOk G RX8 cX8_scoreOf 5 1 21) {X Y : wM} {o : Int64} {dd : UInt64} {td : wX} {res : (Int32)} (hE : wEnd G (some .int) (rp (some (.int (res))) (X, Y, o, dd, td)) xp0) (hT : wNoTab G) {l1 : Int32} {l2 : Int32} {l3 : Int32} (h : f_X8_scoreOf_108 Y l1 l2 l3 = some res) : J G 5 0 0 108 [(0, .ref (wad (gB G) 22)), (1, .int (l1)), (2, .int (l2)), (3, .int (l3))] [] (X, Y, o, dd, td) := by
  unfold f_X8_scoreOf_108 at h
  refine j_aload_n hG 0 (dt dtX8_scoreOf_1 8 rfl) rfl rfl ?_
  refine j_get hG cl_X8 22 1 (cv_22 _ _ _ _) (by decide) fl_X8_13 rfl rfl (dt dtX8_scoreOf_1 9 rfl) ?_
  refine j_iload_n hG 1 (dt dtX8_scoreOf_1 10 rfl) rfl rfl ?_
  refine j_iald hG 24 (cv_24 _ _ _ _) h (dt dtX8_scoreOf_1 11 rfl) (fun v113 h => ?_)
  refine j_aload_n hG 0 (dt dtX8_scoreOf_1 12 rfl) rfl rfl ?_
  refine j_get hG cl_X8 22 1 (cv_22 _ _ _ _) (by decide) fl_X8_13 rfl rfl (dt dtX8_scoreOf_1 13 rfl) ?_
  refine j_iload_n hG 2 (dt dtX8_scoreOf_1 14 rfl) rfl rfl ?_
  refine j_iald hG 24 (cv_24 _ _ _ _) h (dt dtX8_scoreOf_1 15 rfl) (fun v119 h => ?_)
  refine j_icmp_ne hG (tgt := 130) (dt dtX8_scoreOf_1 16 rfl) (by decide) h (fun h => ?_) (fun h => ?_)
  · refine j_iload_n hG 3 (dt dtX8_scoreOf_1 17 rfl) rfl rfl ?_
    refine j_aload_n hG 0 (dt dtX8_scoreOf_1 18 rfl) rfl rfl ?_
    refine j_get hG cl_X8 22 21 (cv_22 _ _ _ _) (by decide) fl_X8_76 rfl rfl (dt dtX8_scoreOf_1 19 rfl) ?_
    refine j_iadd hG (dt dtX8_scoreOf_1 20 rfl) ?_
    obtain rfl := Option.some.inj h
    exact j_iret hG hE ⟨rfl, rfl⟩ (dt dtX8_scoreOf_1 21 rfl)
  · refine j_aload_n hG 0 (dt dtX8_scoreOf_1 22 rfl) rfl rfl ?_
    refine j_iload_n hG 1 (dt dtX8_scoreOf_1 23 rfl) rfl rfl ?_
    refine j_callVp hG h (V := fun y132 => (some (.int (y132)))) (S := fun y132 => (X, Y, o, dd, td)) (kc := 0) (ks := 0) (fun z hz => ct_X8_blockFor hG.2.2.1 (gB G) _ _ _ _ _ hz) mf_X8_blockFor ml_X8_95 22 (cv_22 _ _ _ _) rfl rfl (rest := []) rfl (Nat.le_of_ble_eq_true rfl) (dt dtX8_scoreOf_1 24 rfl) (by decide) (by decide) (fun y132 h => ?_)
    refine j_aload_n hG 0 (dt dtX8_scoreOf_1 25 rfl) rfl rfl ?_
    refine j_iload_n hG 2 (dt dtX8_scoreOf_1 26 rfl) rfl rfl ?_
    refine j_callVp hG h (V := fun y137 => (some (.int (y137)))) (S := fun y137 => (X, Y, o, dd, td)) (kc := 0) (ks := 0) (fun z hz => ct_X8_blockFor hG.2.2.1 (gB G) _ _ _ _ _ hz) mf_X8_blockFor ml_X8_95 22 (cv_22 _ _ _ _) rfl rfl (rest := [.int (y132)]) rfl (Nat.le_of_ble_eq_true rfl) (dt dtX8_scoreOf_1 27 rfl) (by decide) (by decide) (fun y137 h => ?_)
    refine j_icmp_ne hG (tgt := 154) (dt dtX8_scoreOf_1 28 rfl) (by decide) h (fun h => ?_) (fun h => ?_)
    · refine j_iload_n hG 3 (dt dtX8_scoreOf_1 29 rfl) rfl rfl ?_
      refine j_aload_n hG 0 (dt dtX8_scoreOf_1 30 rfl) rfl rfl ?_
      refine j_get hG cl_X8 22 21 (cv_22 _ _ _ _) (by decide) fl_X8_76 rfl rfl (dt dtX8_scoreOf_1 31 rfl) ?_
      refine j_iconst hG (v := 2) (dt dtX8_scoreOf_1 32 rfl) (by decide) ?_
      refine j_idiv hG (dt dtX8_scoreOf_1 33 rfl) (by decide) ?_
      refine j_iadd hG (dt dtX8_scoreOf_1 34 rfl) ?_
      refine j_goto hG (tgt := 155) (dt dtX8_scoreOf_1 35 rfl) (by decide) ?_
      refine j_lv (lv' := []) [] rfl ?_
      exact g_f_X8_scoreOf_155 hG hE hT h
    · refine j_iload_n hG 3 (dt dtX8_scoreOf_1 36 rfl) rfl rfl ?_
      refine j_lv (lv' := []) [] rfl ?_
      exact g_f_X8_scoreOf_155 hG hE hT h
set_option maxRecDepth 4000 in
theorem g_f_X8_scoreOf_99 {G : wG} (hG : wOk G RX8 cX8_scoreOf 5 1 21) {X Y : wM} {o : Int64} {dd : UInt64} {td : wX} {res : (Int32)} (hE : wEnd G (some .int) (rp (some (.int (res))) (X, Y, o, dd, td)) xp0) (hT : wNoTab G) {l1 : Int32} {l2 : Int32} {l3 : Int32} (h : f_X8_scoreOf_99 Y l1 l2 l3 = some res) : J G 5 0 0 99 [(0, .ref (wad (gB G) 22)), (1, .int (l1)), (2, .int (l2)), (3, .int (l3))] [] (X, Y, o, dd, td) := by
  unfold f_X8_scoreOf_99 at h
  refine j_iload_n hG 3 (dt dtX8_scoreOf_1 1 rfl) rfl rfl ?_
  refine j_aload_n hG 0 (dt dtX8_scoreOf_1 2 rfl) rfl rfl ?_
  refine j_get hG cl_X8 22 20 (cv_22 _ _ _ _) (by decide) fl_X8_73 rfl rfl (dt dtX8_scoreOf_1 3 rfl) ?_
  refine j_iconst hG (v := 2) (dt dtX8_scoreOf_1 4 rfl) (by decide) ?_
  refine j_idiv hG (dt dtX8_scoreOf_1 5 rfl) (by decide) ?_
  refine j_iadd hG (dt dtX8_scoreOf_1 6 rfl) ?_
  refine j_istoreB_n hG (fun v107 => [(3, .int (v107)), (0, .ref (wad (gB G) 22)), (1, .int (l1)), (2, .int (l2))]) (dt dtX8_scoreOf_1 7 rfl) rfl (by decide) (fun _ => rfl) h (fun v107 h => ?_)
  refine j_lv (lv' := [(0, .ref (wad (gB G) 22)), (1, .int (l1)), (2, .int (l2)), (3, .int (v107))]) [1, 2, 3, 0] rfl ?_
  exact g_f_X8_scoreOf_108 hG hE hT h
set_option maxRecDepth 4000 in
theorem g_f_X8_scoreOf_57 {G : wG} (hG : wOk G RX8 cX8_scoreOf 5 1 21) {X Y : wM} {o : Int64} {dd : UInt64} {td : wX} {res : (Int32)} (hE : wEnd G (some .int) (rp (some (.int (res))) (X, Y, o, dd, td)) xp0) (hT : wNoTab G) {l1 : Int32} {l2 : Int32} {l3 : Int32} (h : f_X8_scoreOf_57 Y l1 l2 l3 = some res) : J G 5 0 0 57 [(0, .ref (wad (gB G) 22)), (1, .int (l1)), (2, .int (l2)), (3, .int (l3))] [] (X, Y, o, dd, td) := by
  unfold f_X8_scoreOf_57 at h
  refine j_aload_n hG 0 (dt dtX8_scoreOf_0 37 rfl) rfl rfl ?_
  refine j_get hG cl_X8 22 3 (cv_22 _ _ _ _) (by decide) fl_X8_19 rfl rfl (dt dtX8_scoreOf_0 38 rfl) ?_
  refine j_iload_n hG 1 (dt dtX8_scoreOf_0 39 rfl) rfl rfl ?_
  refine j_iald hG 26 (cv_26 _ _ _ _) h (dt dtX8_scoreOf_0 40 rfl) (fun v62 h => ?_)
  refine j_aload_n hG 0 (dt dtX8_scoreOf_0 41 rfl) rfl rfl ?_
  refine j_get hG cl_X8 22 3 (cv_22 _ _ _ _) (by decide) fl_X8_19 rfl rfl (dt dtX8_scoreOf_0 42 rfl) ?_
  refine j_iload_n hG 2 (dt dtX8_scoreOf_0 43 rfl) rfl rfl ?_
  refine j_iald hG 26 (cv_26 _ _ _ _) h (dt dtX8_scoreOf_0 44 rfl) (fun v68 h => ?_)
  refine j_isub hG (dt dtX8_scoreOf_0 45 rfl) ?_
  refine j_istoreB hG (fun v70 => [(4, .int (v70)), (0, .ref (wad (gB G) 22)), (1, .int (l1)), (2, .int (l2)), (3, .int (l3))]) (dt dtX8_scoreOf_0 46 rfl) (by decide) (fun _ => rfl) h (fun v70 h => ?_)
  refine j_iload hG 0 (dt dtX8_scoreOf_0 47 rfl) rfl ?_
  refine j_if_ne hG (tgt := 87) (dt dtX8_scoreOf_0 48 rfl) (by decide) h (fun h => ?_) (fun h => ?_)
  · refine j_iload_n hG 4 (dt dtX8_scoreOf_0 49 rfl) rfl rfl ?_
    refine j_aload_n hG 1 (dt dtX8_scoreOf_0 50 rfl) rfl rfl ?_
    refine j_get hG cl_X8 22 20 (cv_22 _ _ _ _) (by decide) fl_X8_73 rfl rfl (dt dtX8_scoreOf_0 51 rfl) ?_
    refine j_iadd hG (dt dtX8_scoreOf_0 52 rfl) ?_
    refine j_istoreB_n hG (fun v83 => [(3, .int (v83)), (4, .int (v70)), (0, .ref (wad (gB G) 22)), (1, .int (l1)), (2, .int (l2))]) (dt dtX8_scoreOf_0 53 rfl) rfl (by decide) (fun _ => rfl) h (fun v83 h => ?_)
    refine j_goto hG (tgt := 108) (dt dtX8_scoreOf_0 54 rfl) (by decide) ?_
    refine j_lv (lv' := [(0, .ref (wad (gB G) 22)), (1, .int (l1)), (2, .int (l2)), (3, .int (v83))]) [2, 3, 4, 0] rfl ?_
    exact g_f_X8_scoreOf_108 hG hE hT h
  · refine j_iload hG 0 (dt dtX8_scoreOf_0 55 rfl) rfl ?_
    refine j_iconst hG (v := 1) (dt dtX8_scoreOf_0 56 rfl) (by decide) ?_
    refine j_icmp_eq hG (tgt := 99) (dt dtX8_scoreOf_0 57 rfl) (by decide) h (fun h => ?_) (fun h => ?_)
    · refine j_lv (lv' := [(0, .ref (wad (gB G) 22)), (1, .int (l1)), (2, .int (l2)), (3, .int (l3))]) [1, 2, 3, 4] rfl ?_
      exact g_f_X8_scoreOf_99 hG hE hT h
    · refine j_iload hG 0 (dt dtX8_scoreOf_0 58 rfl) rfl ?_
      refine j_iconst hG (v := (-1)) (dt dtX8_scoreOf_0 59 rfl) (by decide) ?_
      refine j_icmp_ne hG (tgt := 108) (dt dtX8_scoreOf_1 0 rfl) (by decide) h (fun h => ?_) (fun h => ?_)
      · refine j_lv (lv' := [(0, .ref (wad (gB G) 22)), (1, .int (l1)), (2, .int (l2)), (3, .int (l3))]) [1, 2, 3, 4] rfl ?_
        exact g_f_X8_scoreOf_99 hG hE hT h
      · refine j_lv (lv' := [(0, .ref (wad (gB G) 22)), (1, .int (l1)), (2, .int (l2)), (3, .int (l3))]) [1, 2, 3, 4] rfl ?_
        exact g_f_X8_scoreOf_108 hG hE hT h
set_option maxRecDepth 4000 in
theorem g_f_X8_scoreOf {G : wG} (hG : wOk G RX8 cX8_scoreOf 5 1 21) {X Y : wM} {o : Int64} {dd : UInt64} {td : wX} {res : (Int32)} (hE : wEnd G (some .int) (rp (some (.int (res))) (X, Y, o, dd, td)) xp0) (hT : wNoTab G) {a1 : Int32} {a2 : Int32} (h : f_X8_scoreOf Y a1 a2 = some res) : J G 5 0 0 0 [(0, .ref (wad (gB G) 22)), (1, .int (a1)), (2, .int (a2))] [] (X, Y, o, dd, td) := by
  unfold f_X8_scoreOf at h
  refine j_iconst hG (v := 0) (dt dtX8_scoreOf_0 0 rfl) (by decide) ?_
  refine j_istore_n hG (lv' := [(3, .int (0)), (0, .ref (wad (gB G) 22)), (1, .int (a1)), (2, .int (a2))]) (dt dtX8_scoreOf_0 1 rfl) rfl (by decide) rfl ?_
  refine j_aload_n hG 1 (dt dtX8_scoreOf_0 2 rfl) rfl rfl ?_
  refine j_get hG cl_X8 22 2 (cv_22 _ _ _ _) (by decide) fl_X8_16 rfl rfl (dt dtX8_scoreOf_0 3 rfl) ?_
  refine j_iload_n hG 2 (dt dtX8_scoreOf_0 4 rfl) rfl rfl ?_
  refine j_iald hG 25 (cv_25 _ _ _ _) h (dt dtX8_scoreOf_0 5 rfl) (fun v7 h => ?_)
  refine j_aload_n hG 1 (dt dtX8_scoreOf_0 6 rfl) rfl rfl ?_
  refine j_get hG cl_X8 22 2 (cv_22 _ _ _ _) (by decide) fl_X8_16 rfl rfl (dt dtX8_scoreOf_0 7 rfl) ?_
  refine j_iload_n hG 3 (dt dtX8_scoreOf_0 8 rfl) rfl rfl ?_
  refine j_iald hG 25 (cv_25 _ _ _ _) h (dt dtX8_scoreOf_0 9 rfl) (fun v13 h => ?_)
  refine j_icmp_ne hG (tgt := 27) (dt dtX8_scoreOf_0 10 rfl) (by decide) h (fun h => ?_) (fun h => ?_)
  · refine j_iload_n hG 0 (dt dtX8_scoreOf_0 11 rfl) rfl rfl ?_
    refine j_aload_n hG 1 (dt dtX8_scoreOf_0 12 rfl) rfl rfl ?_
    refine j_get hG cl_X8 22 19 (cv_22 _ _ _ _) (by decide) fl_X8_70 rfl rfl (dt dtX8_scoreOf_0 13 rfl) ?_
    refine j_iadd hG (dt dtX8_scoreOf_0 14 rfl) ?_
    refine j_istoreB_n hG (fun v23 => [(3, .int (v23)), (0, .ref (wad (gB G) 22)), (1, .int (a1)), (2, .int (a2))]) (dt dtX8_scoreOf_0 15 rfl) rfl (by decide) (fun _ => rfl) h (fun v23 h => ?_)
    refine j_goto hG (tgt := 57) (dt dtX8_scoreOf_0 16 rfl) (by decide) ?_
    refine j_lv (lv' := [(0, .ref (wad (gB G) 22)), (1, .int (a1)), (2, .int (a2)), (3, .int (v23))]) [1, 2, 3, 0] rfl ?_
    exact g_f_X8_scoreOf_57 hG hE hT h
  · refine j_aload_n hG 1 (dt dtX8_scoreOf_0 17 rfl) rfl rfl ?_
    refine j_get hG cl_X8 22 2 (cv_22 _ _ _ _) (by decide) fl_X8_16 rfl rfl (dt dtX8_scoreOf_0 18 rfl) ?_
    refine j_iload_n hG 2 (dt dtX8_scoreOf_0 19 rfl) rfl rfl ?_
    refine j_iald hG 25 (cv_25 _ _ _ _) h (dt dtX8_scoreOf_0 20 rfl) (fun v32 h => ?_)
    refine j_bipush hG (v := 10) (dt dtX8_scoreOf_0 21 rfl) (by decide) ?_
    refine j_idiv hG (dt dtX8_scoreOf_0 22 rfl) (by decide) ?_
    refine j_aload_n hG 1 (dt dtX8_scoreOf_0 23 rfl) rfl rfl ?_
    refine j_get hG cl_X8 22 2 (cv_22 _ _ _ _) (by decide) fl_X8_16 rfl rfl (dt dtX8_scoreOf_0 24 rfl) ?_
    refine j_iload_n hG 3 (dt dtX8_scoreOf_0 25 rfl) rfl rfl ?_
    refine j_iald hG 25 (cv_25 _ _ _ _) h (dt dtX8_scoreOf_0 26 rfl) (fun v41 h => ?_)
    refine j_bipush hG (v := 10) (dt dtX8_scoreOf_0 27 rfl) (by decide) ?_
    refine j_idiv hG (dt dtX8_scoreOf_0 28 rfl) (by decide) ?_
    refine j_icmp_ne hG (tgt := 57) (dt dtX8_scoreOf_0 29 rfl) (by decide) h (fun h => ?_) (fun h => ?_)
    · refine j_iload_n hG 0 (dt dtX8_scoreOf_0 30 rfl) rfl rfl ?_
      refine j_aload_n hG 1 (dt dtX8_scoreOf_0 31 rfl) rfl rfl ?_
      refine j_get hG cl_X8 22 19 (cv_22 _ _ _ _) (by decide) fl_X8_70 rfl rfl (dt dtX8_scoreOf_0 32 rfl) ?_
      refine j_iconst hG (v := 2) (dt dtX8_scoreOf_0 33 rfl) (by decide) ?_
      refine j_idiv hG (dt dtX8_scoreOf_0 34 rfl) (by decide) ?_
      refine j_iadd hG (dt dtX8_scoreOf_0 35 rfl) ?_
      refine j_istoreB_n hG (fun v56 => [(3, .int (v56)), (0, .ref (wad (gB G) 22)), (1, .int (a1)), (2, .int (a2))]) (dt dtX8_scoreOf_0 36 rfl) rfl (by decide) (fun _ => rfl) h (fun v56 h => ?_)
      refine j_lv (lv' := [(0, .ref (wad (gB G) 22)), (1, .int (a1)), (2, .int (a2)), (3, .int (v56))]) [1, 2, 3, 0] rfl ?_
      exact g_f_X8_scoreOf_57 hG hE hT h
    · refine j_lv (lv' := [(0, .ref (wad (gB G) 22)), (1, .int (a1)), (2, .int (a2)), (3, .int (0))]) [1, 2, 3, 0] rfl ?_
      exact g_f_X8_scoreOf_57 hG hE hT h
theorem ct_X8_scoreOf {l : Launch} (hl : l.stackTraces = false) (B : wB) (X Y : wM) (o : Int64) (dd : UInt64) (td : wX) {a1 : Int32} {a2 : Int32} {res : (Int32)} (h : f_X8_scoreOf Y a1 a2 = some res) : wMet l B yX8_scoreOf cX8_scoreOf 5 (some .int) 1 21 0 0 [.ref (wad B 22), .int (a1), .int (a2)] (X, Y, o, dd, td) (rp (some (.int (res))) (X, Y, o, dd, td)) xp0 :=
  wMet.of hl (by decide +kernel) (Nat.le_of_ble_eq_true rfl) (fun G hB hL hG hE hT => by subst hB; exact g_f_X8_scoreOf hG hE hT h)
def f_X8_linkOf_54 (Y : wM) (s0 : Int32) : Option (Int32) :=
  wgd (wokN .char s0) (some s0)
def f_X8_linkOf (Y : wM) (a1 : Int32) (a2 : Int32) : Option (Int32) :=
  wget 1600 (Y 30) ((40 * a1) + a2) fun v10 =>
  (if v10 = 0 then (f_X8_scoreOf Y a1 a2).bind fun y21 =>
  (if y21 < (Y 22 23) then (if y21 < (Y 22 22) then f_X8_linkOf_54 Y (110 : Int32)
  else f_X8_linkOf_54 Y (63 : Int32))
  else some 121)
  else wgd (wokN .char v10) (some v10))
set_option maxRecDepth 4000 in
theorem g_f_X8_linkOf_54 {G : wG} (hG : wOk G RX8 cX8_linkOf 5 2 45) {X Y : wM} {o : Int64} {dd : UInt64} {td : wX} {res : (Int32)} (hE : wEnd G (some .char) (rp (some (.int (res))) (X, Y, o, dd, td)) xp0) (hT : wNoTab G) {s0 : Int32} (h : f_X8_linkOf_54 Y s0 = some res) : J G 5 0 0 54 [] [.int (s0)] (X, Y, o, dd, td) := by
  unfold f_X8_linkOf_54 at h
  obtain ⟨c54, h⟩ := wgd_ok h
  obtain rfl := Option.some.inj h
  exact j_zret hG hE (wokN_ok c54) ⟨rfl, rfl⟩ (dt dtX8_linkOf_0 31 rfl)
set_option maxRecDepth 4000 in
theorem g_f_X8_linkOf {G : wG} (hG : wOk G RX8 cX8_linkOf 5 2 45) {X Y : wM} {o : Int64} {dd : UInt64} {td : wX} {res : (Int32)} (hE : wEnd G (some .char) (rp (some (.int (res))) (X, Y, o, dd, td)) xp0) (hT : wNoTab G) {a1 : Int32} {a2 : Int32} (h : f_X8_linkOf Y a1 a2 = some res) : J G 5 0 0 0 [(0, .ref (wad (gB G) 22)), (1, .int (a1)), (2, .int (a2))] [] (X, Y, o, dd, td) := by
  unfold f_X8_linkOf at h
  refine j_aload_n hG 0 (dt dtX8_linkOf_0 0 rfl) rfl rfl ?_
  refine j_get hG cl_X8 22 7 (cv_22 _ _ _ _) (by decide) fl_X8_32 rfl rfl (dt dtX8_linkOf_0 1 rfl) ?_
  refine j_bipush hG (v := 40) (dt dtX8_linkOf_0 2 rfl) (by decide) ?_
  refine j_iload_n hG 1 (dt dtX8_linkOf_0 3 rfl) rfl rfl ?_
  refine j_imul hG (dt dtX8_linkOf_0 4 rfl) ?_
  refine j_iload_n hG 2 (dt dtX8_linkOf_0 5 rfl) rfl rfl ?_
  refine j_iadd hG (dt dtX8_linkOf_0 6 rfl) ?_
  refine j_cald hG 30 (cv_30 _ _ _ _) h (dt dtX8_linkOf_0 7 rfl) (fun v10 h => ?_)
  refine j_istore_n hG (lv' := [(3, .int (v10)), (0, .ref (wad (gB G) 22)), (1, .int (a1)), (2, .int (a2))]) (dt dtX8_linkOf_0 8 rfl) rfl (by decide) rfl ?_
  refine j_iload_n hG 0 (dt dtX8_linkOf_0 9 rfl) rfl rfl ?_
  refine j_if_eq hG (tgt := 18) (dt dtX8_linkOf_0 10 rfl) (by decide) h (fun h => ?_) (fun h => ?_)
  · refine j_aload_n hG 1 (dt dtX8_linkOf_0 13 rfl) rfl rfl ?_
    refine j_iload_n hG 2 (dt dtX8_linkOf_0 14 rfl) rfl rfl ?_
    refine j_iload_n hG 3 (dt dtX8_linkOf_0 15 rfl) rfl rfl ?_
    refine j_callVp hG h (V := fun y21 => (some (.int (y21)))) (S := fun y21 => (X, Y, o, dd, td)) (kc := 0) (ks := 0) (fun z hz => ct_X8_scoreOf hG.2.2.1 (gB G) _ _ _ _ _ hz) mf_X8_scoreOf ml_X8_99 22 (cv_22 _ _ _ _) rfl rfl (rest := []) rfl (Nat.le_of_ble_eq_true rfl) (dt dtX8_linkOf_0 16 rfl) (by decide) (by decide) (fun y21 h => ?_)
    refine j_istore hG (lv' := [(4, .int (y21)), (3, .int (v10)), (0, .ref (wad (gB G) 22)), (1, .int (a1)), (2, .int (a2))]) (dt dtX8_linkOf_0 17 rfl) (by decide) rfl ?_
    refine j_iload hG 0 (dt dtX8_linkOf_0 18 rfl) rfl ?_
    refine j_aload_n hG 2 (dt dtX8_linkOf_0 19 rfl) rfl rfl ?_
    refine j_get hG cl_X8 22 23 (cv_22 _ _ _ _) (by decide) fl_X8_82 rfl rfl (dt dtX8_linkOf_0 20 rfl) ?_
    refine j_icmp_lt hG (tgt := 38) (dt dtX8_linkOf_0 21 rfl) (by decide) h (fun h => ?_) (fun h => ?_)
    · refine j_iload hG 0 (dt dtX8_linkOf_0 24 rfl) rfl ?_
      refine j_aload_n hG 2 (dt dtX8_linkOf_0 25 rfl) rfl rfl ?_
      refine j_get hG cl_X8 22 22 (cv_22 _ _ _ _) (by decide) fl_X8_79 rfl rfl (dt dtX8_linkOf_0 26 rfl) ?_
      refine j_icmp_lt hG (tgt := 52) (dt dtX8_linkOf_0 27 rfl) (by decide) h (fun h => ?_) (fun h => ?_)
      · refine j_bipush hG (v := 110) (dt dtX8_linkOf_0 30 rfl) (by decide) ?_
        refine j_lv (lv' := []) [] rfl ?_
        exact g_f_X8_linkOf_54 hG hE hT h
      · refine j_bipush hG (v := 63) (dt dtX8_linkOf_0 28 rfl) (by decide) ?_
        refine j_goto hG (tgt := 54) (dt dtX8_linkOf_0 29 rfl) (by decide) ?_
        refine j_lv (lv' := []) [] rfl ?_
        exact g_f_X8_linkOf_54 hG hE hT h
    · refine j_bipush hG (v := 121) (dt dtX8_linkOf_0 22 rfl) (by decide) ?_
      obtain rfl := Option.some.inj h
      exact j_zret hG hE (by decide) ⟨rfl, rfl⟩ (dt dtX8_linkOf_0 23 rfl)
  · refine j_iload_n hG 0 (dt dtX8_linkOf_0 11 rfl) rfl rfl ?_
    obtain ⟨c17, h⟩ := wgd_ok h
    obtain rfl := Option.some.inj h
    exact j_zret hG hE (wokN_ok c17) ⟨rfl, rfl⟩ (dt dtX8_linkOf_0 12 rfl)
theorem ct_X8_linkOf {l : Launch} (hl : l.stackTraces = false) (B : wB) (X Y : wM) (o : Int64) (dd : UInt64) (td : wX) {a1 : Int32} {a2 : Int32} {res : (Int32)} (h : f_X8_linkOf Y a1 a2 = some res) : wMet l B yX8_linkOf cX8_linkOf 5 (some .char) 2 45 0 0 [.ref (wad B 22), .int (a1), .int (a2)] (X, Y, o, dd, td) (rp (some (.int (res))) (X, Y, o, dd, td)) xp0 :=
  wMet.of hl (by decide +kernel) (Nat.le_of_ble_eq_true rfl) (fun G hB hL hG hE hT => by subst hB; exact g_f_X8_linkOf hG hE hT h)
def f_X8_layDoubles_73 (k2 : wM → Int32 → Option (wM)) (k19 : wM → Int32 → Int32 → Option (wM)) (Y : wM) (l1 : Int32) (l2 : Int32) : Option (wM) :=
  wbd (l2 + 1) fun v73 =>
  k19 Y l1 v73
def f_X8_layDoubles_79 (k2 : wM → Int32 → Option (wM)) (Y : wM) (l1 : Int32) : Option (wM) :=
  wbd (l1 + 1) fun v79 =>
  k2 Y v79
def f_X8_layDoubles_19b (k2 : wM → Int32 → Option (wM)) (k19 : wM → Int32 → Int32 → Option (wM)) (Y : wM) (l1 : Int32) (l2 : Int32) : Option (wM) :=
  (if l2 < l1 then wget 40 (Y 29) l1 fun v29 =>
  (if v29 = 99 then wget 40 (Y 29) l2 fun v40 =>
  (if v40 = 99 then wget 40 (Y 31) l2 fun v51 =>
  (if v51 = 0 then (f_X8_linkOf Y l1 l2).bind fun y58 =>
  (if y58 = 121 then wput Y 31 40 l1 (vp_nar .boolean 1) fun Y =>
  f_X8_layDoubles_73 k2 k19 Y l1 l2
  else f_X8_layDoubles_73 k2 k19 Y l1 l2)
  else f_X8_layDoubles_73 k2 k19 Y l1 l2)
  else f_X8_layDoubles_73 k2 k19 Y l1 l2)
  else f_X8_layDoubles_79 k2 Y l1)
  else f_X8_layDoubles_79 k2 Y l1)
def f_X8_layDoubles_19 (k2 : wM → Int32 → Option (wM)) : Nat → wM → Int32 → Int32 → Option (wM)
  | 0 => fun _ _ _ => none
  | n + 1 => fun Y l1 l2 => f_X8_layDoubles_19b k2 (f_X8_layDoubles_19 k2 n) Y l1 l2
def f_X8_layDoubles_2b (k2 : wM → Int32 → Option (wM)) (Y : wM) (l1 : Int32) : Option (wM) :=
  (if l1 < (Y 22 17) then wput Y 31 40 l1 (vp_nar .boolean 0) fun Y =>
  f_X8_layDoubles_19 k2 1000 Y l1 (0 : Int32)
  else some Y)
def f_X8_layDoubles_2 : Nat → wM → Int32 → Option (wM)
  | 0 => fun _ _ => none
  | n + 1 => fun Y l1 => f_X8_layDoubles_2b (f_X8_layDoubles_2 n) Y l1
def f_X8_layDoubles (Y : wM) : Option (wM) :=
  f_X8_layDoubles_2 1000 Y (0 : Int32)
set_option maxRecDepth 4000 in
theorem g_f_X8_layDoubles_73 {G : wG} (hG : wOk G RX8 cX8_layDoubles 3 3 69) {X Y : wM} {o : Int64} {dd : UInt64} {td : wX} {res : (wM)} (hE : wEnd G none (rp none (X, res, o, dd, td)) xp0) (hT : wNoTab G) {k2 : wM → Int32 → Option (wM)} (hk2 : ∀ (Y : wM) (l1 : Int32), k2 Y l1 = some res → J G 3 0 0 2 [(0, .ref (wad (gB G) 22)), (1, .int (l1))] [] (X, Y, o, dd, td)) {k19 : wM → Int32 → Int32 → Option (wM)} (hk19 : ∀ (Y : wM) (l1 : Int32) (l2 : Int32), k19 Y l1 l2 = some res → J G 3 0 0 19 [(0, .ref (wad (gB G) 22)), (1, .int (l1)), (2, .int (l2))] [] (X, Y, o, dd, td)) {l1 : Int32} {l2 : Int32} (h : f_X8_layDoubles_73 k2 k19 Y l1 l2 = some res) : J G 3 0 0 73 [(0, .ref (wad (gB G) 22)), (1, .int (l1)), (2, .int (l2))] [] (X, Y, o, dd, td) := by
  unfold f_X8_layDoubles_73 at h
  refine j_iincB hG 2 (fun v73 => [(2, .int (v73)), (0, .ref (wad (gB G) 22)), (1, .int (l1))]) (dt dtX8_layDoubles_0 44 rfl) rfl rfl (by decide) (fun _ => rfl) h (fun v73 h => ?_)
  refine j_goto hG (tgt := 19) (dt dtX8_layDoubles_0 45 rfl) (by decide) ?_
  refine j_lv (lv' := [(0, .ref (wad (gB G) 22)), (1, .int (l1)), (2, .int (v73))]) [1, 2, 0] rfl ?_
  exact hk19 Y l1 v73 h
set_option maxRecDepth 4000 in
theorem g_f_X8_layDoubles_79 {G : wG} (hG : wOk G RX8 cX8_layDoubles 3 3 69) {X Y : wM} {o : Int64} {dd : UInt64} {td : wX} {res : (wM)} (hE : wEnd G none (rp none (X, res, o, dd, td)) xp0) (hT : wNoTab G) {k2 : wM → Int32 → Option (wM)} (hk2 : ∀ (Y : wM) (l1 : Int32), k2 Y l1 = some res → J G 3 0 0 2 [(0, .ref (wad (gB G) 22)), (1, .int (l1))] [] (X, Y, o, dd, td)) {l1 : Int32} (h : f_X8_layDoubles_79 k2 Y l1 = some res) : J G 3 0 0 79 [(0, .ref (wad (gB G) 22)), (1, .int (l1))] [] (X, Y, o, dd, td) := by
  unfold f_X8_layDoubles_79 at h
  refine j_iincB hG 1 (fun v79 => [(1, .int (v79)), (0, .ref (wad (gB G) 22))]) (dt dtX8_layDoubles_0 46 rfl) rfl rfl (by decide) (fun _ => rfl) h (fun v79 h => ?_)
  refine j_goto hG (tgt := 2) (dt dtX8_layDoubles_0 47 rfl) (by decide) ?_
  refine j_lv (lv' := [(0, .ref (wad (gB G) 22)), (1, .int (v79))]) [1, 0] rfl ?_
  exact hk2 Y v79 h
set_option maxRecDepth 4000 in
theorem g_f_X8_layDoubles_19b {G : wG} (hG : wOk G RX8 cX8_layDoubles 3 3 69) {X Y : wM} {o : Int64} {dd : UInt64} {td : wX} {res : (wM)} (hE : wEnd G none (rp none (X, res, o, dd, td)) xp0) (hT : wNoTab G) {k2 : wM → Int32 → Option (wM)} (hk2 : ∀ (Y : wM) (l1 : Int32), k2 Y l1 = some res → J G 3 0 0 2 [(0, .ref (wad (gB G) 22)), (1, .int (l1))] [] (X, Y, o, dd, td)) {k19 : wM → Int32 → Int32 → Option (wM)} (hk19 : ∀ (Y : wM) (l1 : Int32) (l2 : Int32), k19 Y l1 l2 = some res → J G 3 0 0 19 [(0, .ref (wad (gB G) 22)), (1, .int (l1)), (2, .int (l2))] [] (X, Y, o, dd, td)) {l1 : Int32} {l2 : Int32} (h : f_X8_layDoubles_19b k2 k19 Y l1 l2 = some res) : J G 3 0 0 19 [(0, .ref (wad (gB G) 22)), (1, .int (l1)), (2, .int (l2))] [] (X, Y, o, dd, td) := by
  unfold f_X8_layDoubles_19b at h
  refine j_iload_n hG 2 (dt dtX8_layDoubles_0 13 rfl) rfl rfl ?_
  refine j_iload_n hG 1 (dt dtX8_layDoubles_0 14 rfl) rfl rfl ?_
  refine j_icmp_ge hG (tgt := 79) (dt dtX8_layDoubles_0 15 rfl) (by decide) h (fun h => ?_) (fun h => ?_)
  · refine j_aload_n hG 0 (dt dtX8_layDoubles_0 16 rfl) rfl rfl ?_
    refine j_get hG cl_X8 22 6 (cv_22 _ _ _ _) (by decide) fl_X8_28 rfl rfl (dt dtX8_layDoubles_0 17 rfl) ?_
    refine j_iload_n hG 1 (dt dtX8_layDoubles_0 18 rfl) rfl rfl ?_
    refine j_cald hG 29 (cv_29 _ _ _ _) h (dt dtX8_layDoubles_0 19 rfl) (fun v29 h => ?_)
    refine j_bipush hG (v := 99) (dt dtX8_layDoubles_0 20 rfl) (by decide) ?_
    refine j_icmp_ne hG (tgt := 79) (dt dtX8_layDoubles_0 21 rfl) (by decide) h (fun h => ?_) (fun h => ?_)
    · refine j_aload_n hG 0 (dt dtX8_layDoubles_0 22 rfl) rfl rfl ?_
      refine j_get hG cl_X8 22 6 (cv_22 _ _ _ _) (by decide) fl_X8_28 rfl rfl (dt dtX8_layDoubles_0 23 rfl) ?_
      refine j_iload_n hG 2 (dt dtX8_layDoubles_0 24 rfl) rfl rfl ?_
      refine j_cald hG 29 (cv_29 _ _ _ _) h (dt dtX8_layDoubles_0 25 rfl) (fun v40 h => ?_)
      refine j_bipush hG (v := 99) (dt dtX8_layDoubles_0 26 rfl) (by decide) ?_
      refine j_icmp_ne hG (tgt := 73) (dt dtX8_layDoubles_0 27 rfl) (by decide) h (fun h => ?_) (fun h => ?_)
      · refine j_aload_n hG 0 (dt dtX8_layDoubles_0 28 rfl) rfl rfl ?_
        refine j_get hG cl_X8 22 8 (cv_22 _ _ _ _) (by decide) fl_X8_35 rfl rfl (dt dtX8_layDoubles_0 29 rfl) ?_
        refine j_iload_n hG 2 (dt dtX8_layDoubles_0 30 rfl) rfl rfl ?_
        refine j_zald hG 31 (cv_31 _ _ _ _) h (dt dtX8_layDoubles_0 31 rfl) (fun v51 h => ?_)
        refine j_if_ne hG (tgt := 73) (dt dtX8_layDoubles_0 32 rfl) (by decide) h (fun h => ?_) (fun h => ?_)
        · refine j_aload_n hG 0 (dt dtX8_layDoubles_0 33 rfl) rfl rfl ?_
          refine j_iload_n hG 1 (dt dtX8_layDoubles_0 34 rfl) rfl rfl ?_
          refine j_iload_n hG 2 (dt dtX8_layDoubles_0 35 rfl) rfl rfl ?_
          refine j_callVp hG h (V := fun y58 => (some (.int (y58)))) (S := fun y58 => (X, Y, o, dd, td)) (kc := 0) (ks := 0) (fun z hz => ct_X8_linkOf hG.2.2.1 (gB G) _ _ _ _ _ hz) mf_X8_linkOf ml_X8_103 22 (cv_22 _ _ _ _) rfl rfl (rest := []) rfl (Nat.le_of_ble_eq_true rfl) (dt dtX8_layDoubles_0 36 rfl) (by decide) (by decide) (fun y58 h => ?_)
          refine j_bipush hG (v := 121) (dt dtX8_layDoubles_0 37 rfl) (by decide) ?_
          refine j_icmp_ne hG (tgt := 73) (dt dtX8_layDoubles_0 38 rfl) (by decide) h (fun h => ?_) (fun h => ?_)
          · refine j_aload_n hG 0 (dt dtX8_layDoubles_0 39 rfl) rfl rfl ?_
            refine j_get hG cl_X8 22 8 (cv_22 _ _ _ _) (by decide) fl_X8_35 rfl rfl (dt dtX8_layDoubles_0 40 rfl) ?_
            refine j_iload_n hG 1 (dt dtX8_layDoubles_0 41 rfl) rfl rfl ?_
            refine j_iconst hG (v := 1) (dt dtX8_layDoubles_0 42 rfl) (by decide) ?_
            refine j_zast hG 31 (X := Y) (k := 31) (fun Y => (X, Y, o, dd, td)) (cv_31 _ _ _ _) (fun g => cs_31 _ _ _ _ g) h (dt dtX8_layDoubles_0 43 rfl) (fun Y h => ?_)
            exact g_f_X8_layDoubles_73 hG hE hT hk2 hk19 h
          · exact g_f_X8_layDoubles_73 hG hE hT hk2 hk19 h
        · exact g_f_X8_layDoubles_73 hG hE hT hk2 hk19 h
      · exact g_f_X8_layDoubles_73 hG hE hT hk2 hk19 h
    · refine j_lv (lv' := [(0, .ref (wad (gB G) 22)), (1, .int (l1))]) [0, 1] rfl ?_
      exact g_f_X8_layDoubles_79 hG hE hT hk2 h
  · refine j_lv (lv' := [(0, .ref (wad (gB G) 22)), (1, .int (l1))]) [0, 1] rfl ?_
    exact g_f_X8_layDoubles_79 hG hE hT hk2 h
set_option maxRecDepth 4000 in
theorem g_f_X8_layDoubles_19 {G : wG} (hG : wOk G RX8 cX8_layDoubles 3 3 69) {X : wM} {o : Int64} {dd : UInt64} {td : wX} {res : (wM)} (hE : wEnd G none (rp none (X, res, o, dd, td)) xp0) (hT : wNoTab G) {k2 : wM → Int32 → Option (wM)} (hk2 : ∀ (Y : wM) (l1 : Int32), k2 Y l1 = some res → J G 3 0 0 2 [(0, .ref (wad (gB G) 22)), (1, .int (l1))] [] (X, Y, o, dd, td)) (n : Nat) : ∀ (Y : wM) (l1 : Int32) (l2 : Int32), f_X8_layDoubles_19 k2 n Y l1 l2 = some res → J G 3 0 0 19 [(0, .ref (wad (gB G) 22)), (1, .int (l1)), (2, .int (l2))] [] (X, Y, o, dd, td) := by
  induction n with
  | zero => intro Y l1 l2 h; cases h
  | succ n ih =>
    intro Y l1 l2 h
    exact g_f_X8_layDoubles_19b hG hE hT hk2 ih h
set_option maxRecDepth 4000 in
theorem g_f_X8_layDoubles_2b {G : wG} (hG : wOk G RX8 cX8_layDoubles 3 3 69) {X Y : wM} {o : Int64} {dd : UInt64} {td : wX} {res : (wM)} (hE : wEnd G none (rp none (X, res, o, dd, td)) xp0) (hT : wNoTab G) {k2 : wM → Int32 → Option (wM)} (hk2 : ∀ (Y : wM) (l1 : Int32), k2 Y l1 = some res → J G 3 0 0 2 [(0, .ref (wad (gB G) 22)), (1, .int (l1))] [] (X, Y, o, dd, td)) {l1 : Int32} (h : f_X8_layDoubles_2b k2 Y l1 = some res) : J G 3 0 0 2 [(0, .ref (wad (gB G) 22)), (1, .int (l1))] [] (X, Y, o, dd, td) := by
  unfold f_X8_layDoubles_2b at h
  refine j_iload_n hG 1 (dt dtX8_layDoubles_0 2 rfl) rfl rfl ?_
  refine j_aload_n hG 0 (dt dtX8_layDoubles_0 3 rfl) rfl rfl ?_
  refine j_get hG cl_X8 22 17 (cv_22 _ _ _ _) (by decide) fl_X8_64 rfl rfl (dt dtX8_layDoubles_0 4 rfl) ?_
  refine j_icmp_ge hG (tgt := 85) (dt dtX8_layDoubles_0 5 rfl) (by decide) h (fun h => ?_) (fun h => ?_)
  · refine j_aload_n hG 0 (dt dtX8_layDoubles_0 6 rfl) rfl rfl ?_
    refine j_get hG cl_X8 22 8 (cv_22 _ _ _ _) (by decide) fl_X8_35 rfl rfl (dt dtX8_layDoubles_0 7 rfl) ?_
    refine j_iload_n hG 1 (dt dtX8_layDoubles_0 8 rfl) rfl rfl ?_
    refine j_iconst hG (v := 0) (dt dtX8_layDoubles_0 9 rfl) (by decide) ?_
    refine j_zast hG 31 (X := Y) (k := 31) (fun Y => (X, Y, o, dd, td)) (cv_31 _ _ _ _) (fun g => cs_31 _ _ _ _ g) h (dt dtX8_layDoubles_0 10 rfl) (fun Y h => ?_)
    refine j_iconst hG (v := 0) (dt dtX8_layDoubles_0 11 rfl) (by decide) ?_
    refine j_istore_n hG (lv' := [(2, .int (0)), (0, .ref (wad (gB G) 22)), (1, .int (l1))]) (dt dtX8_layDoubles_0 12 rfl) rfl (by decide) rfl ?_
    refine j_lv (lv' := [(0, .ref (wad (gB G) 22)), (1, .int (l1)), (2, .int (0))]) [1, 2, 0] rfl ?_
    exact g_f_X8_layDoubles_19 hG hE hT hk2 1000 Y l1 (0 : Int32) h
  · obtain rfl := Option.some.inj h
    exact j_vret hG hE ⟨rfl, rfl⟩ (dt dtX8_layDoubles_0 48 rfl)
set_option maxRecDepth 4000 in
theorem g_f_X8_layDoubles_2 {G : wG} (hG : wOk G RX8 cX8_layDoubles 3 3 69) {X : wM} {o : Int64} {dd : UInt64} {td : wX} {res : (wM)} (hE : wEnd G none (rp none (X, res, o, dd, td)) xp0) (hT : wNoTab G) (n : Nat) : ∀ (Y : wM) (l1 : Int32), f_X8_layDoubles_2 n Y l1 = some res → J G 3 0 0 2 [(0, .ref (wad (gB G) 22)), (1, .int (l1))] [] (X, Y, o, dd, td) := by
  induction n with
  | zero => intro Y l1 h; cases h
  | succ n ih =>
    intro Y l1 h
    exact g_f_X8_layDoubles_2b hG hE hT ih h
set_option maxRecDepth 4000 in
theorem g_f_X8_layDoubles {G : wG} (hG : wOk G RX8 cX8_layDoubles 3 3 69) {X Y : wM} {o : Int64} {dd : UInt64} {td : wX} {res : (wM)} (hE : wEnd G none (rp none (X, res, o, dd, td)) xp0) (hT : wNoTab G) (h : f_X8_layDoubles Y = some res) : J G 3 0 0 0 [(0, .ref (wad (gB G) 22))] [] (X, Y, o, dd, td) := by
  unfold f_X8_layDoubles at h
  refine j_iconst hG (v := 0) (dt dtX8_layDoubles_0 0 rfl) (by decide) ?_
  refine j_istore_n hG (lv' := [(1, .int (0)), (0, .ref (wad (gB G) 22))]) (dt dtX8_layDoubles_0 1 rfl) rfl (by decide) rfl ?_
  refine j_lv (lv' := [(0, .ref (wad (gB G) 22)), (1, .int (0))]) [1, 0] rfl ?_
  exact g_f_X8_layDoubles_2 hG hE hT 1000 Y (0 : Int32) h
theorem ct_X8_layDoubles {l : Launch} (hl : l.stackTraces = false) (B : wB) (X Y : wM) (o : Int64) (dd : UInt64) (td : wX) {res : (wM)} (h : f_X8_layDoubles Y = some res) : wMet l B yX8_layDoubles cX8_layDoubles 3 none 3 69 0 0 [.ref (wad B 22)] (X, Y, o, dd, td) (rp none (X, res, o, dd, td)) xp0 :=
  wMet.of hl (by decide +kernel) (Nat.le_of_ble_eq_true rfl) (fun G hB hL hG hE hT => by subst hB; exact g_f_X8_layDoubles hG hE hT h)
def f_X8_isCounted_25 (Y : wM) (s0 : Int32) : Option (Int32) :=
  wgd (wokN .boolean s0) (some s0)
def f_X8_isCounted_24 (Y : wM) : Option (Int32) :=
  f_X8_isCounted_25 Y (0 : Int32)
def f_X8_isCounted (Y : wM) (a1 : Int32) : Option (Int32) :=
  wget 40 (Y 29) a1 fun v5 =>
  (if v5 = 99 then wget 40 (Y 31) a1 fun v16 =>
  (if v16 = 0 then f_X8_isCounted_25 Y (1 : Int32)
  else f_X8_isCounted_24 Y)
  else f_X8_isCounted_24 Y)
set_option maxRecDepth 4000 in
theorem g_f_X8_isCounted_25 {G : wG} (hG : wOk G RX8 cX8_isCounted 2 0 0) {X Y : wM} {o : Int64} {dd : UInt64} {td : wX} {res : (Int32)} (hE : wEnd G (some .boolean) (rp (some (.int (res))) (X, Y, o, dd, td)) xp0) (hT : wNoTab G) {s0 : Int32} (h : f_X8_isCounted_25 Y s0 = some res) : J G 2 0 0 25 [] [.int (s0)] (X, Y, o, dd, td) := by
  unfold f_X8_isCounted_25 at h
  obtain ⟨c25, h⟩ := wgd_ok h
  obtain rfl := Option.some.inj h
  exact j_zret hG hE (wokN_ok c25) ⟨rfl, rfl⟩ (dt dtX8_isCounted_0 14 rfl)
set_option maxRecDepth 4000 in
theorem g_f_X8_isCounted_24 {G : wG} (hG : wOk G RX8 cX8_isCounted 2 0 0) {X Y : wM} {o : Int64} {dd : UInt64} {td : wX} {res : (Int32)} (hE : wEnd G (some .boolean) (rp (some (.int (res))) (X, Y, o, dd, td)) xp0) (hT : wNoTab G) (h : f_X8_isCounted_24 Y = some res) : J G 2 0 0 24 [] [] (X, Y, o, dd, td) := by
  unfold f_X8_isCounted_24 at h
  refine j_iconst hG (v := 0) (dt dtX8_isCounted_0 13 rfl) (by decide) ?_
  exact g_f_X8_isCounted_25 hG hE hT h
set_option maxRecDepth 4000 in
theorem g_f_X8_isCounted {G : wG} (hG : wOk G RX8 cX8_isCounted 2 0 0) {X Y : wM} {o : Int64} {dd : UInt64} {td : wX} {res : (Int32)} (hE : wEnd G (some .boolean) (rp (some (.int (res))) (X, Y, o, dd, td)) xp0) (hT : wNoTab G) {a1 : Int32} (h : f_X8_isCounted Y a1 = some res) : J G 2 0 0 0 [(0, .ref (wad (gB G) 22)), (1, .int (a1))] [] (X, Y, o, dd, td) := by
  unfold f_X8_isCounted at h
  refine j_aload_n hG 0 (dt dtX8_isCounted_0 0 rfl) rfl rfl ?_
  refine j_get hG cl_X8 22 6 (cv_22 _ _ _ _) (by decide) fl_X8_28 rfl rfl (dt dtX8_isCounted_0 1 rfl) ?_
  refine j_iload_n hG 1 (dt dtX8_isCounted_0 2 rfl) rfl rfl ?_
  refine j_cald hG 29 (cv_29 _ _ _ _) h (dt dtX8_isCounted_0 3 rfl) (fun v5 h => ?_)
  refine j_bipush hG (v := 99) (dt dtX8_isCounted_0 4 rfl) (by decide) ?_
  refine j_icmp_ne hG (tgt := 24) (dt dtX8_isCounted_0 5 rfl) (by decide) h (fun h => ?_) (fun h => ?_)
  · refine j_aload_n hG 0 (dt dtX8_isCounted_0 6 rfl) rfl rfl ?_
    refine j_get hG cl_X8 22 8 (cv_22 _ _ _ _) (by decide) fl_X8_35 rfl rfl (dt dtX8_isCounted_0 7 rfl) ?_
    refine j_iload_n hG 1 (dt dtX8_isCounted_0 8 rfl) rfl rfl ?_
    refine j_zald hG 31 (cv_31 _ _ _ _) h (dt dtX8_isCounted_0 9 rfl) (fun v16 h => ?_)
    refine j_if_ne hG (tgt := 24) (dt dtX8_isCounted_0 10 rfl) (by decide) h (fun h => ?_) (fun h => ?_)
    · refine j_iconst hG (v := 1) (dt dtX8_isCounted_0 11 rfl) (by decide) ?_
      refine j_goto hG (tgt := 25) (dt dtX8_isCounted_0 12 rfl) (by decide) ?_
      refine j_lv (lv' := []) [] rfl ?_
      exact g_f_X8_isCounted_25 hG hE hT h
    · refine j_lv (lv' := []) [] rfl ?_
      exact g_f_X8_isCounted_24 hG hE hT h
  · refine j_lv (lv' := []) [] rfl ?_
    exact g_f_X8_isCounted_24 hG hE hT h
theorem ct_X8_isCounted {l : Launch} (hl : l.stackTraces = false) (B : wB) (X Y : wM) (o : Int64) (dd : UInt64) (td : wX) {a1 : Int32} {res : (Int32)} (h : f_X8_isCounted Y a1 = some res) : wMet l B yX8_isCounted cX8_isCounted 2 (some .boolean) 0 0 0 0 [.ref (wad B 22), .int (a1)] (X, Y, o, dd, td) (rp (some (.int (res))) (X, Y, o, dd, td)) xp0 :=
  wMet.of hl (by decide +kernel) (Nat.le_of_ble_eq_true rfl) (fun G hB hL hG hE hT => by subst hB; exact g_f_X8_isCounted hG hE hT h)
def f_X8_layCounts_69 (k27 : wM → Int32 → Option (wM)) (Y : wM) (l1 : Int32) : Option (wM) :=
  wbd (l1 + 1) fun v69 =>
  k27 Y v69
def f_X8_layCounts_27b (k27 : wM → Int32 → Option (wM)) (Y : wM) (l1 : Int32) : Option (wM) :=
  (if l1 < (Y 22 17) then (f_X8_isCounted Y l1).bind fun y37 =>
  (if y37 = 0 then f_X8_layCounts_69 k27 Y l1
  else (f_X8_blockFor Y l1).bind fun y50 =>
  wget 40 (Y 26) l1 fun v59 =>
  (f_X8_group v59).bind fun y60 =>
  wget 24 (Y 28) ((4 * y50) + y60) fun v65 =>
  wput Y 28 24 ((4 * y50) + y60) (v65 + 1) fun Y =>
  f_X8_layCounts_69 k27 Y l1)
  else some Y)
def f_X8_layCounts_27 : Nat → wM → Int32 → Option (wM)
  | 0 => fun _ _ => none
  | n + 1 => fun Y l1 => f_X8_layCounts_27b (f_X8_layCounts_27 n) Y l1
def f_X8_layCounts_6b (k6 : wM → Int32 → Option (wM)) (Y : wM) (l1 : Int32) : Option (wM) :=
  (if l1 < 24 then wput Y 28 24 l1 0 fun Y =>
  wbd (l1 + 1) fun v19 =>
  k6 Y v19
  else f_X8_layCounts_27 1000 Y (0 : Int32))
def f_X8_layCounts_6 : Nat → wM → Int32 → Option (wM)
  | 0 => fun _ _ => none
  | n + 1 => fun Y l1 => f_X8_layCounts_6b (f_X8_layCounts_6 n) Y l1
def f_X8_layCounts (Y : wM) : Option (wM) :=
  (f_X8_layDoubles Y).bind fun y1 =>
  f_X8_layCounts_6 1000 y1 (0 : Int32)
set_option maxRecDepth 4000 in
theorem g_f_X8_layCounts_69 {G : wG} (hG : wOk G RX8 cX8_layCounts 2 4 91) {X Y : wM} {o : Int64} {dd : UInt64} {td : wX} {res : (wM)} (hE : wEnd G none (rp none (X, res, o, dd, td)) xp0) (hT : wNoTab G) {k27 : wM → Int32 → Option (wM)} (hk27 : ∀ (Y : wM) (l1 : Int32), k27 Y l1 = some res → J G 2 0 0 27 [(0, .ref (wad (gB G) 22)), (1, .int (l1))] [] (X, Y, o, dd, td)) {l1 : Int32} (h : f_X8_layCounts_69 k27 Y l1 = some res) : J G 2 0 0 69 [(0, .ref (wad (gB G) 22)), (1, .int (l1))] [] (X, Y, o, dd, td) := by
  unfold f_X8_layCounts_69 at h
  refine j_iincB hG 1 (fun v69 => [(1, .int (v69)), (0, .ref (wad (gB G) 22))]) (dt dtX8_layCounts_0 42 rfl) rfl rfl (by decide) (fun _ => rfl) h (fun v69 h => ?_)
  refine j_goto hG (tgt := 27) (dt dtX8_layCounts_0 43 rfl) (by decide) ?_
  refine j_lv (lv' := [(0, .ref (wad (gB G) 22)), (1, .int (v69))]) [1, 0] rfl ?_
  exact hk27 Y v69 h
set_option maxRecDepth 4000 in
theorem g_f_X8_layCounts_27b {G : wG} (hG : wOk G RX8 cX8_layCounts 2 4 91) {X Y : wM} {o : Int64} {dd : UInt64} {td : wX} {res : (wM)} (hE : wEnd G none (rp none (X, res, o, dd, td)) xp0) (hT : wNoTab G) {k27 : wM → Int32 → Option (wM)} (hk27 : ∀ (Y : wM) (l1 : Int32), k27 Y l1 = some res → J G 2 0 0 27 [(0, .ref (wad (gB G) 22)), (1, .int (l1))] [] (X, Y, o, dd, td)) {l1 : Int32} (h : f_X8_layCounts_27b k27 Y l1 = some res) : J G 2 0 0 27 [(0, .ref (wad (gB G) 22)), (1, .int (l1))] [] (X, Y, o, dd, td) := by
  unfold f_X8_layCounts_27b at h
  refine j_iload_n hG 1 (dt dtX8_layCounts_0 16 rfl) rfl rfl ?_
  refine j_aload_n hG 0 (dt dtX8_layCounts_0 17 rfl) rfl rfl ?_
  refine j_get hG cl_X8 22 17 (cv_22 _ _ _ _) (by decide) fl_X8_64 rfl rfl (dt dtX8_layCounts_0 18 rfl) ?_
  refine j_icmp_ge hG (tgt := 75) (dt dtX8_layCounts_0 19 rfl) (by decide) h (fun h => ?_) (fun h => ?_)
  · refine j_aload_n hG 0 (dt dtX8_layCounts_0 20 rfl) rfl rfl ?_
    refine j_iload_n hG 1 (dt dtX8_layCounts_0 21 rfl) rfl rfl ?_
    refine j_callVp hG h (V := fun y37 => (some (.int (y37)))) (S := fun y37 => (X, Y, o, dd, td)) (kc := 0) (ks := 0) (fun z hz => ct_X8_isCounted hG.2.2.1 (gB G) _ _ _ _ _ hz) mf_X8_isCounted ml_X8_110 22 (cv_22 _ _ _ _) rfl rfl (rest := []) rfl (Nat.le_of_ble_eq_true rfl) (dt dtX8_layCounts_0 22 rfl) (by decide) (by decide) (fun y37 h => ?_)
    refine j_if_eq hG (tgt := 69) (dt dtX8_layCounts_0 23 rfl) (by decide) h (fun h => ?_) (fun h => ?_)
    · exact g_f_X8_layCounts_69 hG hE hT hk27 h
    · refine j_aload_n hG 0 (dt dtX8_layCounts_0 24 rfl) rfl rfl ?_
      refine j_get hG cl_X8 22 5 (cv_22 _ _ _ _) (by decide) fl_X8_25 rfl rfl (dt dtX8_layCounts_0 25 rfl) ?_
      refine j_iconst hG (v := 4) (dt dtX8_layCounts_0 26 rfl) (by decide) ?_
      refine j_aload_n hG 0 (dt dtX8_layCounts_0 27 rfl) rfl rfl ?_
      refine j_iload_n hG 1 (dt dtX8_layCounts_0 28 rfl) rfl rfl ?_
      refine j_callVp hG h (V := fun y50 => (some (.int (y50)))) (S := fun y50 => (X, Y, o, dd, td)) (kc := 0) (ks := 0) (fun z hz => ct_X8_blockFor hG.2.2.1 (gB G) _ _ _ _ _ hz) mf_X8_blockFor ml_X8_95 22 (cv_22 _ _ _ _) rfl rfl (rest := [.int (4), .ref (wad (gB G) 28)]) rfl (Nat.le_of_ble_eq_true rfl) (dt dtX8_layCounts_0 29 rfl) (by decide) (by decide) (fun y50 h => ?_)
      refine j_imul hG (dt dtX8_layCounts_0 30 rfl) ?_
      refine j_aload_n hG 0 (dt dtX8_layCounts_0 31 rfl) rfl rfl ?_
      refine j_get hG cl_X8 22 3 (cv_22 _ _ _ _) (by decide) fl_X8_19 rfl rfl (dt dtX8_layCounts_0 32 rfl) ?_
      refine j_iload_n hG 1 (dt dtX8_layCounts_0 33 rfl) rfl rfl ?_
      refine j_iald hG 26 (cv_26 _ _ _ _) h (dt dtX8_layCounts_0 34 rfl) (fun v59 h => ?_)
      refine j_callSp hG h (V := fun y60 => (some (.int (y60)))) (S := fun y60 => (X, Y, o, dd, td)) (kc := 0) (ks := 0) (fun z hz => ct_X8_group hG.2.2.1 (gB G) _ _ _ _ _ hz) mf_X8_group ml_X8_114 rfl (rest := [.int ((4 * y50)), .ref (wad (gB G) 28)]) rfl (Nat.le_of_ble_eq_true rfl) (dt dtX8_layCounts_0 35 rfl) (by decide) (by decide) (fun y60 h => ?_)
      refine j_iadd hG (dt dtX8_layCounts_0 36 rfl) ?_
      refine j_dup2 hG (dt dtX8_layCounts_0 37 rfl) rfl rfl ?_
      refine j_iald hG 28 (cv_28 _ _ _ _) h (dt dtX8_layCounts_0 38 rfl) (fun v65 h => ?_)
      refine j_iconst hG (v := 1) (dt dtX8_layCounts_0 39 rfl) (by decide) ?_
      refine j_iadd hG (dt dtX8_layCounts_0 40 rfl) ?_
      refine j_iast hG 28 (X := Y) (k := 28) (fun Y => (X, Y, o, dd, td)) (cv_28 _ _ _ _) (fun g => cs_28 _ _ _ _ g) h (dt dtX8_layCounts_0 41 rfl) (fun Y h => ?_)
      exact g_f_X8_layCounts_69 hG hE hT hk27 h
  · obtain rfl := Option.some.inj h
    exact j_vret hG hE ⟨rfl, rfl⟩ (dt dtX8_layCounts_0 44 rfl)
set_option maxRecDepth 4000 in
theorem g_f_X8_layCounts_27 {G : wG} (hG : wOk G RX8 cX8_layCounts 2 4 91) {X : wM} {o : Int64} {dd : UInt64} {td : wX} {res : (wM)} (hE : wEnd G none (rp none (X, res, o, dd, td)) xp0) (hT : wNoTab G) (n : Nat) : ∀ (Y : wM) (l1 : Int32), f_X8_layCounts_27 n Y l1 = some res → J G 2 0 0 27 [(0, .ref (wad (gB G) 22)), (1, .int (l1))] [] (X, Y, o, dd, td) := by
  induction n with
  | zero => intro Y l1 h; cases h
  | succ n ih =>
    intro Y l1 h
    exact g_f_X8_layCounts_27b hG hE hT ih h
set_option maxRecDepth 4000 in
theorem g_f_X8_layCounts_6b {G : wG} (hG : wOk G RX8 cX8_layCounts 2 4 91) {X Y : wM} {o : Int64} {dd : UInt64} {td : wX} {res : (wM)} (hE : wEnd G none (rp none (X, res, o, dd, td)) xp0) (hT : wNoTab G) {k6 : wM → Int32 → Option (wM)} (hk6 : ∀ (Y : wM) (l1 : Int32), k6 Y l1 = some res → J G 2 0 0 6 [(0, .ref (wad (gB G) 22)), (1, .int (l1))] [] (X, Y, o, dd, td)) {l1 : Int32} (h : f_X8_layCounts_6b k6 Y l1 = some res) : J G 2 0 0 6 [(0, .ref (wad (gB G) 22)), (1, .int (l1))] [] (X, Y, o, dd, td) := by
  unfold f_X8_layCounts_6b at h
  refine j_iload_n hG 1 (dt dtX8_layCounts_0 4 rfl) rfl rfl ?_
  refine j_bipush hG (v := 24) (dt dtX8_layCounts_0 5 rfl) (by decide) ?_
  refine j_icmp_ge hG (tgt := 25) (dt dtX8_layCounts_0 6 rfl) (by decide) h (fun h => ?_) (fun h => ?_)
  · refine j_aload_n hG 0 (dt dtX8_layCounts_0 7 rfl) rfl rfl ?_
    refine j_get hG cl_X8 22 5 (cv_22 _ _ _ _) (by decide) fl_X8_25 rfl rfl (dt dtX8_layCounts_0 8 rfl) ?_
    refine j_iload_n hG 1 (dt dtX8_layCounts_0 9 rfl) rfl rfl ?_
    refine j_iconst hG (v := 0) (dt dtX8_layCounts_0 10 rfl) (by decide) ?_
    refine j_iast hG 28 (X := Y) (k := 28) (fun Y => (X, Y, o, dd, td)) (cv_28 _ _ _ _) (fun g => cs_28 _ _ _ _ g) h (dt dtX8_layCounts_0 11 rfl) (fun Y h => ?_)
    refine j_iincB hG 1 (fun v19 => [(1, .int (v19)), (0, .ref (wad (gB G) 22))]) (dt dtX8_layCounts_0 12 rfl) rfl rfl (by decide) (fun _ => rfl) h (fun v19 h => ?_)
    refine j_goto hG (tgt := 6) (dt dtX8_layCounts_0 13 rfl) (by decide) ?_
    refine j_lv (lv' := [(0, .ref (wad (gB G) 22)), (1, .int (v19))]) [1, 0] rfl ?_
    exact hk6 Y v19 h
  · refine j_iconst hG (v := 0) (dt dtX8_layCounts_0 14 rfl) (by decide) ?_
    refine j_istore_n hG (lv' := [(1, .int (0)), (0, .ref (wad (gB G) 22))]) (dt dtX8_layCounts_0 15 rfl) rfl (by decide) rfl ?_
    refine j_lv (lv' := [(0, .ref (wad (gB G) 22)), (1, .int (0))]) [1, 0] rfl ?_
    exact g_f_X8_layCounts_27 hG hE hT 1000 Y (0 : Int32) h
set_option maxRecDepth 4000 in
theorem g_f_X8_layCounts_6 {G : wG} (hG : wOk G RX8 cX8_layCounts 2 4 91) {X : wM} {o : Int64} {dd : UInt64} {td : wX} {res : (wM)} (hE : wEnd G none (rp none (X, res, o, dd, td)) xp0) (hT : wNoTab G) (n : Nat) : ∀ (Y : wM) (l1 : Int32), f_X8_layCounts_6 n Y l1 = some res → J G 2 0 0 6 [(0, .ref (wad (gB G) 22)), (1, .int (l1))] [] (X, Y, o, dd, td) := by
  induction n with
  | zero => intro Y l1 h; cases h
  | succ n ih =>
    intro Y l1 h
    exact g_f_X8_layCounts_6b hG hE hT ih h
set_option maxRecDepth 4000 in
theorem g_f_X8_layCounts {G : wG} (hG : wOk G RX8 cX8_layCounts 2 4 91) {X Y : wM} {o : Int64} {dd : UInt64} {td : wX} {res : (wM)} (hE : wEnd G none (rp none (X, res, o, dd, td)) xp0) (hT : wNoTab G) (h : f_X8_layCounts Y = some res) : J G 2 0 0 0 [(0, .ref (wad (gB G) 22))] [] (X, Y, o, dd, td) := by
  unfold f_X8_layCounts at h
  refine j_aload_n hG 0 (dt dtX8_layCounts_0 0 rfl) rfl rfl ?_
  refine j_callVp hG h (V := fun y1 => none) (S := fun y1 => (X, y1, o, dd, td)) (kc := 0) (ks := 0) (fun z hz => ct_X8_layDoubles hG.2.2.1 (gB G) _ _ _ _ _ hz) mf_X8_layDoubles ml_X8_107 22 (cv_22 _ _ _ _) rfl rfl (rest := []) rfl (Nat.le_of_ble_eq_true rfl) (dt dtX8_layCounts_0 1 rfl) (by decide) (by decide) (fun y1 h => ?_)
  refine j_iconst hG (v := 0) (dt dtX8_layCounts_0 2 rfl) (by decide) ?_
  refine j_istore_n hG (lv' := [(1, .int (0)), (0, .ref (wad (gB G) 22))]) (dt dtX8_layCounts_0 3 rfl) rfl (by decide) rfl ?_
  refine j_lv (lv' := [(0, .ref (wad (gB G) 22)), (1, .int (0))]) [1, 0] rfl ?_
  exact g_f_X8_layCounts_6 hG hE hT 1000 y1 (0 : Int32) h
theorem ct_X8_layCounts {l : Launch} (hl : l.stackTraces = false) (B : wB) (X Y : wM) (o : Int64) (dd : UInt64) (td : wX) {res : (wM)} (h : f_X8_layCounts Y = some res) : wMet l B yX8_layCounts cX8_layCounts 2 none 4 91 0 0 [.ref (wad B 22)] (X, Y, o, dd, td) (rp none (X, res, o, dd, td)) xp0 :=
  wMet.of hl (by decide +kernel) (Nat.le_of_ble_eq_true rfl) (fun G hB hL hG hE hT => by subst hB; exact g_f_X8_layCounts hG hE hT h)
def f_X8_layMatches_159 (k40 : wM → Int32 → Option (wM)) (k46 : wM → Int32 → Int32 → Option (wM)) (k56 : wM → Int32 → Int32 → Int32 → Option (wM)) (Y : wM) (l1 : Int32) (l2 : Int32) (l3 : Int32) : Option (wM) :=
  wbd (l3 + 1) fun v159 =>
  k56 Y l1 l2 v159
def f_X8_layMatches_56b (k40 : wM → Int32 → Option (wM)) (k46 : wM → Int32 → Int32 → Option (wM)) (k56 : wM → Int32 → Int32 → Int32 → Option (wM)) (Y : wM) (l1 : Int32) (l2 : Int32) (l3 : Int32) : Option (wM) :=
  (if l3 < (Y 22 17) then (f_X8_isCounted Y l2).bind fun y66 =>
  (if y66 = 0 then f_X8_layMatches_159 k40 k46 k56 Y l1 l2 l3
  else wget 40 (Y 29) l3 fun v77 =>
  (if v77 = 107 then wget 40 (Y 27) l2 fun v88 =>
  (if v88 < 0 then wget 40 (Y 27) l3 fun v97 =>
  (if v97 < 0 then (f_X8_scoreOf Y l2 l3).bind fun y104 =>
  (if y104 = l1 then (f_X8_linkOf Y l2 l3).bind fun y114 =>
  (if y114 = 121 then wput Y 27 40 l2 l3 fun Y =>
  wput Y 27 40 l3 l2 fun Y =>
  wfld Y 22 24 ((Y 22 24) + 1) fun Y =>
  wfld Y 22 25 ((Y 22 25) + l1) fun Y =>
  f_X8_layMatches_159 k40 k46 k56 Y l1 l2 l3
  else f_X8_layMatches_159 k40 k46 k56 Y l1 l2 l3)
  else f_X8_layMatches_159 k40 k46 k56 Y l1 l2 l3)
  else f_X8_layMatches_159 k40 k46 k56 Y l1 l2 l3)
  else f_X8_layMatches_159 k40 k46 k56 Y l1 l2 l3)
  else f_X8_layMatches_159 k40 k46 k56 Y l1 l2 l3))
  else wbd (l2 + 1) fun v165 =>
  k46 Y l1 v165)
def f_X8_layMatches_56 (k40 : wM → Int32 → Option (wM)) (k46 : wM → Int32 → Int32 → Option (wM)) : Nat → wM → Int32 → Int32 → Int32 → Option (wM)
  | 0 => fun _ _ _ _ => none
  | n + 1 => fun Y l1 l2 l3 => f_X8_layMatches_56b k40 k46 (f_X8_layMatches_56 k40 k46 n) Y l1 l2 l3
def f_X8_layMatches_46b (k40 : wM → Int32 → Option (wM)) (k46 : wM → Int32 → Int32 → Option (wM)) (Y : wM) (l1 : Int32) (l2 : Int32) : Option (wM) :=
  (if l2 < (Y 22 17) then f_X8_layMatches_56 k40 k46 1000 Y l1 l2 (0 : Int32)
  else wbd (l1 + (-1)) fun v171 =>
  k40 Y v171)
def f_X8_layMatches_46 (k40 : wM → Int32 → Option (wM)) : Nat → wM → Int32 → Int32 → Option (wM)
  | 0 => fun _ _ _ => none
  | n + 1 => fun Y l1 l2 => f_X8_layMatches_46b k40 (f_X8_layMatches_46 k40 n) Y l1 l2
def f_X8_layMatches_40b (k40 : wM → Int32 → Option (wM)) (Y : wM) (l1 : Int32) : Option (wM) :=
  (if l1 < 0 then some Y
  else f_X8_layMatches_46 k40 1000 Y l1 (0 : Int32))
def f_X8_layMatches_40 : Nat → wM → Int32 → Option (wM)
  | 0 => fun _ _ => none
  | n + 1 => fun Y l1 => f_X8_layMatches_40b (f_X8_layMatches_40 n) Y l1
def f_X8_layMatches_16b (k16 : wM → Int32 → Option (wM)) (Y : wM) (l1 : Int32) : Option (wM) :=
  (if l1 < (Y 22 17) then wput Y 27 40 l1 (-1) fun Y =>
  wbd (l1 + 1) fun v31 =>
  k16 Y v31
  else f_X8_layMatches_40 1000 Y (27 : Int32))
def f_X8_layMatches_16 : Nat → wM → Int32 → Option (wM)
  | 0 => fun _ _ => none
  | n + 1 => fun Y l1 => f_X8_layMatches_16b (f_X8_layMatches_16 n) Y l1
def f_X8_layMatches (Y : wM) : Option (wM) :=
  (f_X8_layDoubles Y).bind fun y1 =>
  wfld y1 22 24 0 fun Y =>
  wfld Y 22 25 0 fun Y =>
  f_X8_layMatches_16 1000 Y (0 : Int32)
set_option maxRecDepth 4000 in
theorem g_f_X8_layMatches_159 {G : wG} (hG : wOk G RX8 cX8_layMatches 4 4 91) {X Y : wM} {o : Int64} {dd : UInt64} {td : wX} {res : (wM)} (hE : wEnd G none (rp none (X, res, o, dd, td)) xp0) (hT : wNoTab G) {k40 : wM → Int32 → Option (wM)} (hk40 : ∀ (Y : wM) (l1 : Int32), k40 Y l1 = some res → J G 4 0 0 40 [(0, .ref (wad (gB G) 22)), (1, .int (l1))] [] (X, Y, o, dd, td)) {k46 : wM → Int32 → Int32 → Option (wM)} (hk46 : ∀ (Y : wM) (l1 : Int32) (l2 : Int32), k46 Y l1 l2 = some res → J G 4 0 0 46 [(0, .ref (wad (gB G) 22)), (1, .int (l1)), (2, .int (l2))] [] (X, Y, o, dd, td)) {k56 : wM → Int32 → Int32 → Int32 → Option (wM)} (hk56 : ∀ (Y : wM) (l1 : Int32) (l2 : Int32) (l3 : Int32), k56 Y l1 l2 l3 = some res → J G 4 0 0 56 [(0, .ref (wad (gB G) 22)), (1, .int (l1)), (2, .int (l2)), (3, .int (l3))] [] (X, Y, o, dd, td)) {l1 : Int32} {l2 : Int32} {l3 : Int32} (h : f_X8_layMatches_159 k40 k46 k56 Y l1 l2 l3 = some res) : J G 4 0 0 159 [(0, .ref (wad (gB G) 22)), (1, .int (l1)), (2, .int (l2)), (3, .int (l3))] [] (X, Y, o, dd, td) := by
  unfold f_X8_layMatches_159 at h
  refine j_iincB hG 3 (fun v159 => [(3, .int (v159)), (0, .ref (wad (gB G) 22)), (1, .int (l1)), (2, .int (l2))]) (dt dtX8_layMatches_1 32 rfl) rfl rfl (by decide) (fun _ => rfl) h (fun v159 h => ?_)
  refine j_goto hG (tgt := 56) (dt dtX8_layMatches_1 33 rfl) (by decide) ?_
  refine j_lv (lv' := [(0, .ref (wad (gB G) 22)), (1, .int (l1)), (2, .int (l2)), (3, .int (v159))]) [1, 2, 3, 0] rfl ?_
  exact hk56 Y l1 l2 v159 h
set_option maxRecDepth 4000 in
theorem g_f_X8_layMatches_56b {G : wG} (hG : wOk G RX8 cX8_layMatches 4 4 91) {X Y : wM} {o : Int64} {dd : UInt64} {td : wX} {res : (wM)} (hE : wEnd G none (rp none (X, res, o, dd, td)) xp0) (hT : wNoTab G) {k40 : wM → Int32 → Option (wM)} (hk40 : ∀ (Y : wM) (l1 : Int32), k40 Y l1 = some res → J G 4 0 0 40 [(0, .ref (wad (gB G) 22)), (1, .int (l1))] [] (X, Y, o, dd, td)) {k46 : wM → Int32 → Int32 → Option (wM)} (hk46 : ∀ (Y : wM) (l1 : Int32) (l2 : Int32), k46 Y l1 l2 = some res → J G 4 0 0 46 [(0, .ref (wad (gB G) 22)), (1, .int (l1)), (2, .int (l2))] [] (X, Y, o, dd, td)) {k56 : wM → Int32 → Int32 → Int32 → Option (wM)} (hk56 : ∀ (Y : wM) (l1 : Int32) (l2 : Int32) (l3 : Int32), k56 Y l1 l2 l3 = some res → J G 4 0 0 56 [(0, .ref (wad (gB G) 22)), (1, .int (l1)), (2, .int (l2)), (3, .int (l3))] [] (X, Y, o, dd, td)) {l1 : Int32} {l2 : Int32} {l3 : Int32} (h : f_X8_layMatches_56b k40 k46 k56 Y l1 l2 l3 = some res) : J G 4 0 0 56 [(0, .ref (wad (gB G) 22)), (1, .int (l1)), (2, .int (l2)), (3, .int (l3))] [] (X, Y, o, dd, td) := by
  unfold f_X8_layMatches_56b at h
  refine j_iload_n hG 3 (dt dtX8_layMatches_0 33 rfl) rfl rfl ?_
  refine j_aload_n hG 0 (dt dtX8_layMatches_0 34 rfl) rfl rfl ?_
  refine j_get hG cl_X8 22 17 (cv_22 _ _ _ _) (by decide) fl_X8_64 rfl rfl (dt dtX8_layMatches_0 35 rfl) ?_
  refine j_icmp_ge hG (tgt := 165) (dt dtX8_layMatches_0 36 rfl) (by decide) h (fun h => ?_) (fun h => ?_)
  · refine j_aload_n hG 0 (dt dtX8_layMatches_0 37 rfl) rfl rfl ?_
    refine j_iload_n hG 2 (dt dtX8_layMatches_0 38 rfl) rfl rfl ?_
    refine j_callVp hG h (V := fun y66 => (some (.int (y66)))) (S := fun y66 => (X, Y, o, dd, td)) (kc := 0) (ks := 0) (fun z hz => ct_X8_isCounted hG.2.2.1 (gB G) _ _ _ _ _ hz) mf_X8_isCounted ml_X8_110 22 (cv_22 _ _ _ _) rfl rfl (rest := []) rfl (Nat.le_of_ble_eq_true rfl) (dt dtX8_layMatches_0 39 rfl) (by decide) (by decide) (fun y66 h => ?_)
    refine j_if_eq hG (tgt := 159) (dt dtX8_layMatches_0 40 rfl) (by decide) h (fun h => ?_) (fun h => ?_)
    · exact g_f_X8_layMatches_159 hG hE hT hk40 hk46 hk56 h
    · refine j_aload_n hG 0 (dt dtX8_layMatches_0 41 rfl) rfl rfl ?_
      refine j_get hG cl_X8 22 6 (cv_22 _ _ _ _) (by decide) fl_X8_28 rfl rfl (dt dtX8_layMatches_0 42 rfl) ?_
      refine j_iload_n hG 3 (dt dtX8_layMatches_0 43 rfl) rfl rfl ?_
      refine j_cald hG 29 (cv_29 _ _ _ _) h (dt dtX8_layMatches_0 44 rfl) (fun v77 h => ?_)
      refine j_bipush hG (v := 107) (dt dtX8_layMatches_0 45 rfl) (by decide) ?_
      refine j_icmp_ne hG (tgt := 159) (dt dtX8_layMatches_0 46 rfl) (by decide) h (fun h => ?_) (fun h => ?_)
      · refine j_aload_n hG 0 (dt dtX8_layMatches_0 47 rfl) rfl rfl ?_
        refine j_get hG cl_X8 22 4 (cv_22 _ _ _ _) (by decide) fl_X8_22 rfl rfl (dt dtX8_layMatches_0 48 rfl) ?_
        refine j_iload_n hG 2 (dt dtX8_layMatches_0 49 rfl) rfl rfl ?_
        refine j_iald hG 27 (cv_27 _ _ _ _) h (dt dtX8_layMatches_0 50 rfl) (fun v88 h => ?_)
        refine j_if_ge hG (tgt := 159) (dt dtX8_layMatches_0 51 rfl) (by decide) h (fun h => ?_) (fun h => ?_)
        · refine j_aload_n hG 0 (dt dtX8_layMatches_0 52 rfl) rfl rfl ?_
          refine j_get hG cl_X8 22 4 (cv_22 _ _ _ _) (by decide) fl_X8_22 rfl rfl (dt dtX8_layMatches_0 53 rfl) ?_
          refine j_iload_n hG 3 (dt dtX8_layMatches_0 54 rfl) rfl rfl ?_
          refine j_iald hG 27 (cv_27 _ _ _ _) h (dt dtX8_layMatches_0 55 rfl) (fun v97 h => ?_)
          refine j_if_ge hG (tgt := 159) (dt dtX8_layMatches_0 56 rfl) (by decide) h (fun h => ?_) (fun h => ?_)
          · refine j_aload_n hG 0 (dt dtX8_layMatches_0 57 rfl) rfl rfl ?_
            refine j_iload_n hG 2 (dt dtX8_layMatches_0 58 rfl) rfl rfl ?_
            refine j_iload_n hG 3 (dt dtX8_layMatches_0 59 rfl) rfl rfl ?_
            refine j_callVp hG h (V := fun y104 => (some (.int (y104)))) (S := fun y104 => (X, Y, o, dd, td)) (kc := 0) (ks := 0) (fun z hz => ct_X8_scoreOf hG.2.2.1 (gB G) _ _ _ _ _ hz) mf_X8_scoreOf ml_X8_99 22 (cv_22 _ _ _ _) rfl rfl (rest := []) rfl (Nat.le_of_ble_eq_true rfl) (dt dtX8_layMatches_1 0 rfl) (by decide) (by decide) (fun y104 h => ?_)
            refine j_iload_n hG 1 (dt dtX8_layMatches_1 1 rfl) rfl rfl ?_
            refine j_icmp_ne hG (tgt := 159) (dt dtX8_layMatches_1 2 rfl) (by decide) h (fun h => ?_) (fun h => ?_)
            · refine j_aload_n hG 0 (dt dtX8_layMatches_1 3 rfl) rfl rfl ?_
              refine j_iload_n hG 2 (dt dtX8_layMatches_1 4 rfl) rfl rfl ?_
              refine j_iload_n hG 3 (dt dtX8_layMatches_1 5 rfl) rfl rfl ?_
              refine j_callVp hG h (V := fun y114 => (some (.int (y114)))) (S := fun y114 => (X, Y, o, dd, td)) (kc := 0) (ks := 0) (fun z hz => ct_X8_linkOf hG.2.2.1 (gB G) _ _ _ _ _ hz) mf_X8_linkOf ml_X8_103 22 (cv_22 _ _ _ _) rfl rfl (rest := []) rfl (Nat.le_of_ble_eq_true rfl) (dt dtX8_layMatches_1 6 rfl) (by decide) (by decide) (fun y114 h => ?_)
              refine j_bipush hG (v := 121) (dt dtX8_layMatches_1 7 rfl) (by decide) ?_
              refine j_icmp_eq hG (tgt := 125) (dt dtX8_layMatches_1 8 rfl) (by decide) h (fun h => ?_) (fun h => ?_)
              · refine j_aload_n hG 0 (dt dtX8_layMatches_1 10 rfl) rfl rfl ?_
                refine j_get hG cl_X8 22 4 (cv_22 _ _ _ _) (by decide) fl_X8_22 rfl rfl (dt dtX8_layMatches_1 11 rfl) ?_
                refine j_iload_n hG 2 (dt dtX8_layMatches_1 12 rfl) rfl rfl ?_
                refine j_iload_n hG 3 (dt dtX8_layMatches_1 13 rfl) rfl rfl ?_
                refine j_iast hG 27 (X := Y) (k := 27) (fun Y => (X, Y, o, dd, td)) (cv_27 _ _ _ _) (fun g => cs_27 _ _ _ _ g) h (dt dtX8_layMatches_1 14 rfl) (fun Y h => ?_)
                refine j_aload_n hG 0 (dt dtX8_layMatches_1 15 rfl) rfl rfl ?_
                refine j_get hG cl_X8 22 4 (cv_22 _ _ _ _) (by decide) fl_X8_22 rfl rfl (dt dtX8_layMatches_1 16 rfl) ?_
                refine j_iload_n hG 3 (dt dtX8_layMatches_1 17 rfl) rfl rfl ?_
                refine j_iload_n hG 2 (dt dtX8_layMatches_1 18 rfl) rfl rfl ?_
                refine j_iast hG 27 (X := Y) (k := 27) (fun Y => (X, Y, o, dd, td)) (cv_27 _ _ _ _) (fun g => cs_27 _ _ _ _ g) h (dt dtX8_layMatches_1 19 rfl) (fun Y h => ?_)
                refine j_aload_n hG 0 (dt dtX8_layMatches_1 20 rfl) rfl rfl ?_
                refine j_dup hG (dt dtX8_layMatches_1 21 rfl) rfl ?_
                refine j_get hG cl_X8 22 24 (cv_22 _ _ _ _) (by decide) fl_X8_85 rfl rfl (dt dtX8_layMatches_1 22 rfl) ?_
                refine j_iconst hG (v := 1) (dt dtX8_layMatches_1 23 rfl) (by decide) ?_
                refine j_iadd hG (dt dtX8_layMatches_1 24 rfl) ?_
                refine j_put hG cl_X8 22 24 (X := Y) (k := 22) (fun Y => (X, Y, o, dd, td)) (cv_22 _ _ _ _) (by decide) fl_X8_85 rfl rfl rfl rfl rfl (Nat.le_of_ble_eq_true rfl) (cs_22 _ _ _ _ (upd (Y 22) 24 ((Y 22 24) + 1))) h (dt dtX8_layMatches_1 25 rfl) (fun Y h => ?_)
                refine j_aload_n hG 0 (dt dtX8_layMatches_1 26 rfl) rfl rfl ?_
                refine j_dup hG (dt dtX8_layMatches_1 27 rfl) rfl ?_
                refine j_get hG cl_X8 22 25 (cv_22 _ _ _ _) (by decide) fl_X8_88 rfl rfl (dt dtX8_layMatches_1 28 rfl) ?_
                refine j_iload_n hG 1 (dt dtX8_layMatches_1 29 rfl) rfl rfl ?_
                refine j_iadd hG (dt dtX8_layMatches_1 30 rfl) ?_
                refine j_put hG cl_X8 22 25 (X := Y) (k := 22) (fun Y => (X, Y, o, dd, td)) (cv_22 _ _ _ _) (by decide) fl_X8_88 rfl rfl rfl rfl rfl (Nat.le_of_ble_eq_true rfl) (cs_22 _ _ _ _ (upd (Y 22) 25 ((Y 22 25) + l1))) h (dt dtX8_layMatches_1 31 rfl) (fun Y h => ?_)
                exact g_f_X8_layMatches_159 hG hE hT hk40 hk46 hk56 h
              · refine j_goto hG (tgt := 159) (dt dtX8_layMatches_1 9 rfl) (by decide) ?_
                exact g_f_X8_layMatches_159 hG hE hT hk40 hk46 hk56 h
            · exact g_f_X8_layMatches_159 hG hE hT hk40 hk46 hk56 h
          · exact g_f_X8_layMatches_159 hG hE hT hk40 hk46 hk56 h
        · exact g_f_X8_layMatches_159 hG hE hT hk40 hk46 hk56 h
      · exact g_f_X8_layMatches_159 hG hE hT hk40 hk46 hk56 h
  · refine j_iincB hG 2 (fun v165 => [(2, .int (v165)), (0, .ref (wad (gB G) 22)), (1, .int (l1)), (3, .int (l3))]) (dt dtX8_layMatches_1 34 rfl) rfl rfl (by decide) (fun _ => rfl) h (fun v165 h => ?_)
    refine j_goto hG (tgt := 46) (dt dtX8_layMatches_1 35 rfl) (by decide) ?_
    refine j_lv (lv' := [(0, .ref (wad (gB G) 22)), (1, .int (l1)), (2, .int (v165))]) [1, 2, 0] rfl ?_
    exact hk46 Y l1 v165 h
set_option maxRecDepth 4000 in
theorem g_f_X8_layMatches_56 {G : wG} (hG : wOk G RX8 cX8_layMatches 4 4 91) {X : wM} {o : Int64} {dd : UInt64} {td : wX} {res : (wM)} (hE : wEnd G none (rp none (X, res, o, dd, td)) xp0) (hT : wNoTab G) {k40 : wM → Int32 → Option (wM)} (hk40 : ∀ (Y : wM) (l1 : Int32), k40 Y l1 = some res → J G 4 0 0 40 [(0, .ref (wad (gB G) 22)), (1, .int (l1))] [] (X, Y, o, dd, td)) {k46 : wM → Int32 → Int32 → Option (wM)} (hk46 : ∀ (Y : wM) (l1 : Int32) (l2 : Int32), k46 Y l1 l2 = some res → J G 4 0 0 46 [(0, .ref (wad (gB G) 22)), (1, .int (l1)), (2, .int (l2))] [] (X, Y, o, dd, td)) (n : Nat) : ∀ (Y : wM) (l1 : Int32) (l2 : Int32) (l3 : Int32), f_X8_layMatches_56 k40 k46 n Y l1 l2 l3 = some res → J G 4 0 0 56 [(0, .ref (wad (gB G) 22)), (1, .int (l1)), (2, .int (l2)), (3, .int (l3))] [] (X, Y, o, dd, td) := by
  induction n with
  | zero => intro Y l1 l2 l3 h; cases h
  | succ n ih =>
    intro Y l1 l2 l3 h
    exact g_f_X8_layMatches_56b hG hE hT hk40 hk46 ih h
set_option maxRecDepth 4000 in
theorem g_f_X8_layMatches_46b {G : wG} (hG : wOk G RX8 cX8_layMatches 4 4 91) {X Y : wM} {o : Int64} {dd : UInt64} {td : wX} {res : (wM)} (hE : wEnd G none (rp none (X, res, o, dd, td)) xp0) (hT : wNoTab G) {k40 : wM → Int32 → Option (wM)} (hk40 : ∀ (Y : wM) (l1 : Int32), k40 Y l1 = some res → J G 4 0 0 40 [(0, .ref (wad (gB G) 22)), (1, .int (l1))] [] (X, Y, o, dd, td)) {k46 : wM → Int32 → Int32 → Option (wM)} (hk46 : ∀ (Y : wM) (l1 : Int32) (l2 : Int32), k46 Y l1 l2 = some res → J G 4 0 0 46 [(0, .ref (wad (gB G) 22)), (1, .int (l1)), (2, .int (l2))] [] (X, Y, o, dd, td)) {l1 : Int32} {l2 : Int32} (h : f_X8_layMatches_46b k40 k46 Y l1 l2 = some res) : J G 4 0 0 46 [(0, .ref (wad (gB G) 22)), (1, .int (l1)), (2, .int (l2))] [] (X, Y, o, dd, td) := by
  unfold f_X8_layMatches_46b at h
  refine j_iload_n hG 2 (dt dtX8_layMatches_0 27 rfl) rfl rfl ?_
  refine j_aload_n hG 0 (dt dtX8_layMatches_0 28 rfl) rfl rfl ?_
  refine j_get hG cl_X8 22 17 (cv_22 _ _ _ _) (by decide) fl_X8_64 rfl rfl (dt dtX8_layMatches_0 29 rfl) ?_
  refine j_icmp_ge hG (tgt := 171) (dt dtX8_layMatches_0 30 rfl) (by decide) h (fun h => ?_) (fun h => ?_)
  · refine j_iconst hG (v := 0) (dt dtX8_layMatches_0 31 rfl) (by decide) ?_
    refine j_istore_n hG (lv' := [(3, .int (0)), (0, .ref (wad (gB G) 22)), (1, .int (l1)), (2, .int (l2))]) (dt dtX8_layMatches_0 32 rfl) rfl (by decide) rfl ?_
    refine j_lv (lv' := [(0, .ref (wad (gB G) 22)), (1, .int (l1)), (2, .int (l2)), (3, .int (0))]) [1, 2, 3, 0] rfl ?_
    exact g_f_X8_layMatches_56 hG hE hT hk40 hk46 1000 Y l1 l2 (0 : Int32) h
  · refine j_iincB hG 1 (fun v171 => [(1, .int (v171)), (0, .ref (wad (gB G) 22)), (2, .int (l2))]) (dt dtX8_layMatches_1 36 rfl) rfl rfl (by decide) (fun _ => rfl) h (fun v171 h => ?_)
    refine j_goto hG (tgt := 40) (dt dtX8_layMatches_1 37 rfl) (by decide) ?_
    refine j_lv (lv' := [(0, .ref (wad (gB G) 22)), (1, .int (v171))]) [1, 0] rfl ?_
    exact hk40 Y v171 h
set_option maxRecDepth 4000 in
theorem g_f_X8_layMatches_46 {G : wG} (hG : wOk G RX8 cX8_layMatches 4 4 91) {X : wM} {o : Int64} {dd : UInt64} {td : wX} {res : (wM)} (hE : wEnd G none (rp none (X, res, o, dd, td)) xp0) (hT : wNoTab G) {k40 : wM → Int32 → Option (wM)} (hk40 : ∀ (Y : wM) (l1 : Int32), k40 Y l1 = some res → J G 4 0 0 40 [(0, .ref (wad (gB G) 22)), (1, .int (l1))] [] (X, Y, o, dd, td)) (n : Nat) : ∀ (Y : wM) (l1 : Int32) (l2 : Int32), f_X8_layMatches_46 k40 n Y l1 l2 = some res → J G 4 0 0 46 [(0, .ref (wad (gB G) 22)), (1, .int (l1)), (2, .int (l2))] [] (X, Y, o, dd, td) := by
  induction n with
  | zero => intro Y l1 l2 h; cases h
  | succ n ih =>
    intro Y l1 l2 h
    exact g_f_X8_layMatches_46b hG hE hT hk40 ih h
set_option maxRecDepth 4000 in
theorem g_f_X8_layMatches_40b {G : wG} (hG : wOk G RX8 cX8_layMatches 4 4 91) {X Y : wM} {o : Int64} {dd : UInt64} {td : wX} {res : (wM)} (hE : wEnd G none (rp none (X, res, o, dd, td)) xp0) (hT : wNoTab G) {k40 : wM → Int32 → Option (wM)} (hk40 : ∀ (Y : wM) (l1 : Int32), k40 Y l1 = some res → J G 4 0 0 40 [(0, .ref (wad (gB G) 22)), (1, .int (l1))] [] (X, Y, o, dd, td)) {l1 : Int32} (h : f_X8_layMatches_40b k40 Y l1 = some res) : J G 4 0 0 40 [(0, .ref (wad (gB G) 22)), (1, .int (l1))] [] (X, Y, o, dd, td) := by
  unfold f_X8_layMatches_40b at h
  refine j_iload_n hG 1 (dt dtX8_layMatches_0 23 rfl) rfl rfl ?_
  refine j_if_lt hG (tgt := 177) (dt dtX8_layMatches_0 24 rfl) (by decide) h (fun h => ?_) (fun h => ?_)
  · obtain rfl := Option.some.inj h
    exact j_vret hG hE ⟨rfl, rfl⟩ (dt dtX8_layMatches_1 38 rfl)
  · refine j_iconst hG (v := 0) (dt dtX8_layMatches_0 25 rfl) (by decide) ?_
    refine j_istore_n hG (lv' := [(2, .int (0)), (0, .ref (wad (gB G) 22)), (1, .int (l1))]) (dt dtX8_layMatches_0 26 rfl) rfl (by decide) rfl ?_
    refine j_lv (lv' := [(0, .ref (wad (gB G) 22)), (1, .int (l1)), (2, .int (0))]) [1, 2, 0] rfl ?_
    exact g_f_X8_layMatches_46 hG hE hT hk40 1000 Y l1 (0 : Int32) h
set_option maxRecDepth 4000 in
theorem g_f_X8_layMatches_40 {G : wG} (hG : wOk G RX8 cX8_layMatches 4 4 91) {X : wM} {o : Int64} {dd : UInt64} {td : wX} {res : (wM)} (hE : wEnd G none (rp none (X, res, o, dd, td)) xp0) (hT : wNoTab G) (n : Nat) : ∀ (Y : wM) (l1 : Int32), f_X8_layMatches_40 n Y l1 = some res → J G 4 0 0 40 [(0, .ref (wad (gB G) 22)), (1, .int (l1))] [] (X, Y, o, dd, td) := by
  induction n with
  | zero => intro Y l1 h; cases h
  | succ n ih =>
    intro Y l1 h
    exact g_f_X8_layMatches_40b hG hE hT ih h
set_option maxRecDepth 4000 in
theorem g_f_X8_layMatches_16b {G : wG} (hG : wOk G RX8 cX8_layMatches 4 4 91) {X Y : wM} {o : Int64} {dd : UInt64} {td : wX} {res : (wM)} (hE : wEnd G none (rp none (X, res, o, dd, td)) xp0) (hT : wNoTab G) {k16 : wM → Int32 → Option (wM)} (hk16 : ∀ (Y : wM) (l1 : Int32), k16 Y l1 = some res → J G 4 0 0 16 [(0, .ref (wad (gB G) 22)), (1, .int (l1))] [] (X, Y, o, dd, td)) {l1 : Int32} (h : f_X8_layMatches_16b k16 Y l1 = some res) : J G 4 0 0 16 [(0, .ref (wad (gB G) 22)), (1, .int (l1))] [] (X, Y, o, dd, td) := by
  unfold f_X8_layMatches_16b at h
  refine j_iload_n hG 1 (dt dtX8_layMatches_0 10 rfl) rfl rfl ?_
  refine j_aload_n hG 0 (dt dtX8_layMatches_0 11 rfl) rfl rfl ?_
  refine j_get hG cl_X8 22 17 (cv_22 _ _ _ _) (by decide) fl_X8_64 rfl rfl (dt dtX8_layMatches_0 12 rfl) ?_
  refine j_icmp_ge hG (tgt := 37) (dt dtX8_layMatches_0 13 rfl) (by decide) h (fun h => ?_) (fun h => ?_)
  · refine j_aload_n hG 0 (dt dtX8_layMatches_0 14 rfl) rfl rfl ?_
    refine j_get hG cl_X8 22 4 (cv_22 _ _ _ _) (by decide) fl_X8_22 rfl rfl (dt dtX8_layMatches_0 15 rfl) ?_
    refine j_iload_n hG 1 (dt dtX8_layMatches_0 16 rfl) rfl rfl ?_
    refine j_iconst hG (v := (-1)) (dt dtX8_layMatches_0 17 rfl) (by decide) ?_
    refine j_iast hG 27 (X := Y) (k := 27) (fun Y => (X, Y, o, dd, td)) (cv_27 _ _ _ _) (fun g => cs_27 _ _ _ _ g) h (dt dtX8_layMatches_0 18 rfl) (fun Y h => ?_)
    refine j_iincB hG 1 (fun v31 => [(1, .int (v31)), (0, .ref (wad (gB G) 22))]) (dt dtX8_layMatches_0 19 rfl) rfl rfl (by decide) (fun _ => rfl) h (fun v31 h => ?_)
    refine j_goto hG (tgt := 16) (dt dtX8_layMatches_0 20 rfl) (by decide) ?_
    refine j_lv (lv' := [(0, .ref (wad (gB G) 22)), (1, .int (v31))]) [1, 0] rfl ?_
    exact hk16 Y v31 h
  · refine j_bipush hG (v := 27) (dt dtX8_layMatches_0 21 rfl) (by decide) ?_
    refine j_istore_n hG (lv' := [(1, .int (27)), (0, .ref (wad (gB G) 22))]) (dt dtX8_layMatches_0 22 rfl) rfl (by decide) rfl ?_
    refine j_lv (lv' := [(0, .ref (wad (gB G) 22)), (1, .int (27))]) [1, 0] rfl ?_
    exact g_f_X8_layMatches_40 hG hE hT 1000 Y (27 : Int32) h
set_option maxRecDepth 4000 in
theorem g_f_X8_layMatches_16 {G : wG} (hG : wOk G RX8 cX8_layMatches 4 4 91) {X : wM} {o : Int64} {dd : UInt64} {td : wX} {res : (wM)} (hE : wEnd G none (rp none (X, res, o, dd, td)) xp0) (hT : wNoTab G) (n : Nat) : ∀ (Y : wM) (l1 : Int32), f_X8_layMatches_16 n Y l1 = some res → J G 4 0 0 16 [(0, .ref (wad (gB G) 22)), (1, .int (l1))] [] (X, Y, o, dd, td) := by
  induction n with
  | zero => intro Y l1 h; cases h
  | succ n ih =>
    intro Y l1 h
    exact g_f_X8_layMatches_16b hG hE hT ih h
set_option maxRecDepth 4000 in
theorem g_f_X8_layMatches {G : wG} (hG : wOk G RX8 cX8_layMatches 4 4 91) {X Y : wM} {o : Int64} {dd : UInt64} {td : wX} {res : (wM)} (hE : wEnd G none (rp none (X, res, o, dd, td)) xp0) (hT : wNoTab G) (h : f_X8_layMatches Y = some res) : J G 4 0 0 0 [(0, .ref (wad (gB G) 22))] [] (X, Y, o, dd, td) := by
  unfold f_X8_layMatches at h
  refine j_aload_n hG 0 (dt dtX8_layMatches_0 0 rfl) rfl rfl ?_
  refine j_callVp hG h (V := fun y1 => none) (S := fun y1 => (X, y1, o, dd, td)) (kc := 0) (ks := 0) (fun z hz => ct_X8_layDoubles hG.2.2.1 (gB G) _ _ _ _ _ hz) mf_X8_layDoubles ml_X8_107 22 (cv_22 _ _ _ _) rfl rfl (rest := []) rfl (Nat.le_of_ble_eq_true rfl) (dt dtX8_layMatches_0 1 rfl) (by decide) (by decide) (fun y1 h => ?_)
  refine j_aload_n hG 0 (dt dtX8_layMatches_0 2 rfl) rfl rfl ?_
  refine j_iconst hG (v := 0) (dt dtX8_layMatches_0 3 rfl) (by decide) ?_
  refine j_put hG cl_X8 22 24 (X := y1) (k := 22) (fun Y => (X, Y, o, dd, td)) (cv_22 _ _ _ _) (by decide) fl_X8_85 rfl rfl rfl rfl rfl (Nat.le_of_ble_eq_true rfl) (cs_22 _ _ _ _ (upd (y1 22) 24 0)) h (dt dtX8_layMatches_0 4 rfl) (fun Y h => ?_)
  refine j_aload_n hG 0 (dt dtX8_layMatches_0 5 rfl) rfl rfl ?_
  refine j_iconst hG (v := 0) (dt dtX8_layMatches_0 6 rfl) (by decide) ?_
  refine j_put hG cl_X8 22 25 (X := Y) (k := 22) (fun Y => (X, Y, o, dd, td)) (cv_22 _ _ _ _) (by decide) fl_X8_88 rfl rfl rfl rfl rfl (Nat.le_of_ble_eq_true rfl) (cs_22 _ _ _ _ (upd (Y 22) 25 0)) h (dt dtX8_layMatches_0 7 rfl) (fun Y h => ?_)
  refine j_iconst hG (v := 0) (dt dtX8_layMatches_0 8 rfl) (by decide) ?_
  refine j_istore_n hG (lv' := [(1, .int (0)), (0, .ref (wad (gB G) 22))]) (dt dtX8_layMatches_0 9 rfl) rfl (by decide) rfl ?_
  refine j_lv (lv' := [(0, .ref (wad (gB G) 22)), (1, .int (0))]) [1, 0] rfl ?_
  exact g_f_X8_layMatches_16 hG hE hT 1000 Y (0 : Int32) h
theorem ct_X8_layMatches {l : Launch} (hl : l.stackTraces = false) (B : wB) (X Y : wM) (o : Int64) (dd : UInt64) (td : wX) {res : (wM)} (h : f_X8_layMatches Y = some res) : wMet l B yX8_layMatches cX8_layMatches 4 none 4 91 0 0 [.ref (wad B 22)] (X, Y, o, dd, td) (rp none (X, res, o, dd, td)) xp0 :=
  wMet.of hl (by decide +kernel) (Nat.le_of_ble_eq_true rfl) (fun G hB hL hG hE hT => by subst hB; exact g_f_X8_layMatches hG hE hT h)
def f_X8_looks_73 (k8 : wM → Int32 → Int32 → Option (Int32 × wM)) (k38 : wM → Int32 → Int32 → Int32 → Int32 → Option (Int32 × wM)) (Y : wM) (l1 : Int32) (l2 : Int32) (l4 : Int32) (s0 : Int32) (s1 : Int32) : Option (Int32 × wM) :=
  wbd (s1 &&& s0) fun v74 =>
  wbd (l4 + 1) fun v75 =>
  k38 Y l1 l2 v74 v75
def f_X8_looks_107 (k8 : wM → Int32 → Int32 → Option (Int32 × wM)) (Y : wM) (l1 : Int32) (l2 : Int32) : Option (Int32 × wM) :=
  wbd (l2 + 1) fun v107 =>
  k8 Y l1 v107
def f_X8_looks_38b (k8 : wM → Int32 → Int32 → Option (Int32 × wM)) (k38 : wM → Int32 → Int32 → Int32 → Int32 → Option (Int32 × wM)) (Y : wM) (l1 : Int32) (l2 : Int32) (l3 : Int32) (l4 : Int32) : Option (Int32 × wM) :=
  (if l4 < 24 then wget 192 (Y 35) ((24 * l2) + l4) fun v57 =>
  wget 24 (Y 28) l4 fun v64 =>
  (if v57 = v64 then f_X8_looks_73 k8 k38 Y l1 l2 l4 (1 : Int32) l3
  else f_X8_looks_73 k8 k38 Y l1 l2 l4 (0 : Int32) l3)
  else (if l3 = 0 then wget 8 (Y 32) l2 fun v90 =>
  (if v90 = 0 then wput Y 32 8 l2 (vp_nar .boolean 1) fun Y =>
  wbd (l1 + 1) fun v104 =>
  f_X8_looks_107 k8 Y v104 l2
  else f_X8_looks_107 k8 Y l1 l2)
  else f_X8_looks_107 k8 Y l1 l2))
def f_X8_looks_38 (k8 : wM → Int32 → Int32 → Option (Int32 × wM)) : Nat → wM → Int32 → Int32 → Int32 → Int32 → Option (Int32 × wM)
  | 0 => fun _ _ _ _ _ => none
  | n + 1 => fun Y l1 l2 l3 l4 => f_X8_looks_38b k8 (f_X8_looks_38 k8 n) Y l1 l2 l3 l4
def f_X8_looks_34 (k8 : wM → Int32 → Int32 → Option (Int32 × wM)) (Y : wM) (l1 : Int32) (l2 : Int32) (s0 : Int32) : Option (Int32 × wM) :=
  f_X8_looks_38 k8 1000 Y l1 l2 s0 (0 : Int32)
def f_X8_looks_8b (k8 : wM → Int32 → Int32 → Option (Int32 × wM)) (Y : wM) (l1 : Int32) (l2 : Int32) : Option (Int32 × wM) :=
  (if l2 < (Y 22 18) then wget 8 (Y 36) l2 fun v21 =>
  (if v21 = (Y 22 15) then f_X8_looks_34 k8 Y l1 l2 (1 : Int32)
  else f_X8_looks_34 k8 Y l1 l2 (0 : Int32))
  else some (l1, Y))
def f_X8_looks_8 : Nat → wM → Int32 → Int32 → Option (Int32 × wM)
  | 0 => fun _ _ _ => none
  | n + 1 => fun Y l1 l2 => f_X8_looks_8b (f_X8_looks_8 n) Y l1 l2
def f_X8_looks (Y : wM) : Option (Int32 × wM) :=
  (f_X8_layCounts Y).bind fun y1 =>
  f_X8_looks_8 1000 y1 (0 : Int32) (0 : Int32)
set_option maxRecDepth 4000 in
theorem g_f_X8_looks_73 {G : wG} (hG : wOk G RX8 cX8_looks 5 5 112) {X Y : wM} {o : Int64} {dd : UInt64} {td : wX} {res : (Int32 × wM)} (hE : wEnd G (some .int) (rp (some (.int (res.1))) (X, res.2, o, dd, td)) xp0) (hT : wNoTab G) {k8 : wM → Int32 → Int32 → Option (Int32 × wM)} (hk8 : ∀ (Y : wM) (l1 : Int32) (l2 : Int32), k8 Y l1 l2 = some res → J G 5 0 0 8 [(0, .ref (wad (gB G) 22)), (1, .int (l1)), (2, .int (l2))] [] (X, Y, o, dd, td)) {k38 : wM → Int32 → Int32 → Int32 → Int32 → Option (Int32 × wM)} (hk38 : ∀ (Y : wM) (l1 : Int32) (l2 : Int32) (l3 : Int32) (l4 : Int32), k38 Y l1 l2 l3 l4 = some res → J G 5 0 0 38 [(0, .ref (wad (gB G) 22)), (1, .int (l1)), (2, .int (l2)), (3, .int (l3)), (4, .int (l4))] [] (X, Y, o, dd, td)) {l1 : Int32} {l2 : Int32} {l4 : Int32} {s0 : Int32} {s1 : Int32} (h : f_X8_looks_73 k8 k38 Y l1 l2 l4 s0 s1 = some res) : J G 5 0 0 73 [(0, .ref (wad (gB G) 22)), (1, .int (l1)), (2, .int (l2)), (4, .int (l4))] [.int (s0), .int (s1)] (X, Y, o, dd, td) := by
  unfold f_X8_looks_73 at h
  refine j_iand hG (dt dtX8_looks_0 43 rfl) ?_
  refine j_istoreB_n hG (fun v74 => [(3, .int (v74)), (0, .ref (wad (gB G) 22)), (1, .int (l1)), (2, .int (l2)), (4, .int (l4))]) (dt dtX8_looks_0 44 rfl) rfl (by decide) (fun _ => rfl) h (fun v74 h => ?_)
  refine j_iincB hG 4 (fun v75 => [(4, .int (v75)), (3, .int (v74)), (0, .ref (wad (gB G) 22)), (1, .int (l1)), (2, .int (l2))]) (dt dtX8_looks_0 45 rfl) rfl rfl (by decide) (fun _ => rfl) h (fun v75 h => ?_)
  refine j_goto hG (tgt := 38) (dt dtX8_looks_0 46 rfl) (by decide) ?_
  refine j_lv (lv' := [(0, .ref (wad (gB G) 22)), (1, .int (l1)), (2, .int (l2)), (3, .int (v74)), (4, .int (v75))]) [2, 3, 4, 1, 0] rfl ?_
  exact hk38 Y l1 l2 v74 v75 h
set_option maxRecDepth 4000 in
theorem g_f_X8_looks_107 {G : wG} (hG : wOk G RX8 cX8_looks 5 5 112) {X Y : wM} {o : Int64} {dd : UInt64} {td : wX} {res : (Int32 × wM)} (hE : wEnd G (some .int) (rp (some (.int (res.1))) (X, res.2, o, dd, td)) xp0) (hT : wNoTab G) {k8 : wM → Int32 → Int32 → Option (Int32 × wM)} (hk8 : ∀ (Y : wM) (l1 : Int32) (l2 : Int32), k8 Y l1 l2 = some res → J G 5 0 0 8 [(0, .ref (wad (gB G) 22)), (1, .int (l1)), (2, .int (l2))] [] (X, Y, o, dd, td)) {l1 : Int32} {l2 : Int32} (h : f_X8_looks_107 k8 Y l1 l2 = some res) : J G 5 0 0 107 [(0, .ref (wad (gB G) 22)), (1, .int (l1)), (2, .int (l2))] [] (X, Y, o, dd, td) := by
  unfold f_X8_looks_107 at h
  refine j_iincB hG 2 (fun v107 => [(2, .int (v107)), (0, .ref (wad (gB G) 22)), (1, .int (l1))]) (dt dtX8_looks_1 1 rfl) rfl rfl (by decide) (fun _ => rfl) h (fun v107 h => ?_)
  refine j_goto hG (tgt := 8) (dt dtX8_looks_1 2 rfl) (by decide) ?_
  refine j_lv (lv' := [(0, .ref (wad (gB G) 22)), (1, .int (l1)), (2, .int (v107))]) [1, 2, 0] rfl ?_
  exact hk8 Y l1 v107 h
set_option maxRecDepth 4000 in
theorem g_f_X8_looks_38b {G : wG} (hG : wOk G RX8 cX8_looks 5 5 112) {X Y : wM} {o : Int64} {dd : UInt64} {td : wX} {res : (Int32 × wM)} (hE : wEnd G (some .int) (rp (some (.int (res.1))) (X, res.2, o, dd, td)) xp0) (hT : wNoTab G) {k8 : wM → Int32 → Int32 → Option (Int32 × wM)} (hk8 : ∀ (Y : wM) (l1 : Int32) (l2 : Int32), k8 Y l1 l2 = some res → J G 5 0 0 8 [(0, .ref (wad (gB G) 22)), (1, .int (l1)), (2, .int (l2))] [] (X, Y, o, dd, td)) {k38 : wM → Int32 → Int32 → Int32 → Int32 → Option (Int32 × wM)} (hk38 : ∀ (Y : wM) (l1 : Int32) (l2 : Int32) (l3 : Int32) (l4 : Int32), k38 Y l1 l2 l3 l4 = some res → J G 5 0 0 38 [(0, .ref (wad (gB G) 22)), (1, .int (l1)), (2, .int (l2)), (3, .int (l3)), (4, .int (l4))] [] (X, Y, o, dd, td)) {l1 : Int32} {l2 : Int32} {l3 : Int32} {l4 : Int32} (h : f_X8_looks_38b k8 k38 Y l1 l2 l3 l4 = some res) : J G 5 0 0 38 [(0, .ref (wad (gB G) 22)), (1, .int (l1)), (2, .int (l2)), (3, .int (l3)), (4, .int (l4))] [] (X, Y, o, dd, td) := by
  unfold f_X8_looks_38b at h
  refine j_iload hG 4 (dt dtX8_looks_0 23 rfl) rfl ?_
  refine j_bipush hG (v := 24) (dt dtX8_looks_0 24 rfl) (by decide) ?_
  refine j_icmp_ge hG (tgt := 81) (dt dtX8_looks_0 25 rfl) (by decide) h (fun h => ?_) (fun h => ?_)
  · refine j_iload_n hG 3 (dt dtX8_looks_0 26 rfl) rfl rfl ?_
    refine j_aload_n hG 0 (dt dtX8_looks_0 27 rfl) rfl rfl ?_
    refine j_get hG cl_X8 22 12 (cv_22 _ _ _ _) (by decide) fl_X8_48 rfl rfl (dt dtX8_looks_0 28 rfl) ?_
    refine j_bipush hG (v := 24) (dt dtX8_looks_0 29 rfl) (by decide) ?_
    refine j_iload_n hG 2 (dt dtX8_looks_0 30 rfl) rfl rfl ?_
    refine j_imul hG (dt dtX8_looks_0 31 rfl) ?_
    refine j_iload hG 4 (dt dtX8_looks_0 32 rfl) rfl ?_
    refine j_iadd hG (dt dtX8_looks_0 33 rfl) ?_
    refine j_iald hG 35 (cv_35 _ _ _ _) h (dt dtX8_looks_0 34 rfl) (fun v57 h => ?_)
    refine j_aload_n hG 0 (dt dtX8_looks_0 35 rfl) rfl rfl ?_
    refine j_get hG cl_X8 22 5 (cv_22 _ _ _ _) (by decide) fl_X8_25 rfl rfl (dt dtX8_looks_0 36 rfl) ?_
    refine j_iload hG 4 (dt dtX8_looks_0 37 rfl) rfl ?_
    refine j_iald hG 28 (cv_28 _ _ _ _) h (dt dtX8_looks_0 38 rfl) (fun v64 h => ?_)
    refine j_icmp_ne hG (tgt := 72) (dt dtX8_looks_0 39 rfl) (by decide) h (fun h => ?_) (fun h => ?_)
    · refine j_iconst hG (v := 1) (dt dtX8_looks_0 40 rfl) (by decide) ?_
      refine j_goto hG (tgt := 73) (dt dtX8_looks_0 41 rfl) (by decide) ?_
      refine j_lv (lv' := [(0, .ref (wad (gB G) 22)), (1, .int (l1)), (2, .int (l2)), (4, .int (l4))]) [0, 1, 2, 4] rfl ?_
      exact g_f_X8_looks_73 hG hE hT hk8 hk38 h
    · refine j_iconst hG (v := 0) (dt dtX8_looks_0 42 rfl) (by decide) ?_
      refine j_lv (lv' := [(0, .ref (wad (gB G) 22)), (1, .int (l1)), (2, .int (l2)), (4, .int (l4))]) [0, 1, 2, 4] rfl ?_
      exact g_f_X8_looks_73 hG hE hT hk8 hk38 h
  · refine j_iload_n hG 3 (dt dtX8_looks_0 47 rfl) rfl rfl ?_
    refine j_if_ne hG (tgt := 107) (dt dtX8_looks_0 48 rfl) (by decide) h (fun h => ?_) (fun h => ?_)
    · refine j_aload_n hG 0 (dt dtX8_looks_0 49 rfl) rfl rfl ?_
      refine j_get hG cl_X8 22 9 (cv_22 _ _ _ _) (by decide) fl_X8_39 rfl rfl (dt dtX8_looks_0 50 rfl) ?_
      refine j_iload_n hG 2 (dt dtX8_looks_0 51 rfl) rfl rfl ?_
      refine j_zald hG 32 (cv_32 _ _ _ _) h (dt dtX8_looks_0 52 rfl) (fun v90 h => ?_)
      refine j_if_eq hG (tgt := 97) (dt dtX8_looks_0 53 rfl) (by decide) h (fun h => ?_) (fun h => ?_)
      · refine j_aload_n hG 0 (dt dtX8_looks_0 55 rfl) rfl rfl ?_
        refine j_get hG cl_X8 22 9 (cv_22 _ _ _ _) (by decide) fl_X8_39 rfl rfl (dt dtX8_looks_0 56 rfl) ?_
        refine j_iload_n hG 2 (dt dtX8_looks_0 57 rfl) rfl rfl ?_
        refine j_iconst hG (v := 1) (dt dtX8_looks_0 58 rfl) (by decide) ?_
        refine j_zast hG 32 (X := Y) (k := 32) (fun Y => (X, Y, o, dd, td)) (cv_32 _ _ _ _) (fun g => cs_32 _ _ _ _ g) h (dt dtX8_looks_0 59 rfl) (fun Y h => ?_)
        refine j_iincB hG 1 (fun v104 => [(1, .int (v104)), (0, .ref (wad (gB G) 22)), (2, .int (l2)), (3, .int (l3)), (4, .int (l4))]) (dt dtX8_looks_1 0 rfl) rfl rfl (by decide) (fun _ => rfl) h (fun v104 h => ?_)
        refine j_lv (lv' := [(0, .ref (wad (gB G) 22)), (1, .int (v104)), (2, .int (l2))]) [1, 0, 2] rfl ?_
        exact g_f_X8_looks_107 hG hE hT hk8 h
      · refine j_goto hG (tgt := 107) (dt dtX8_looks_0 54 rfl) (by decide) ?_
        refine j_lv (lv' := [(0, .ref (wad (gB G) 22)), (1, .int (l1)), (2, .int (l2))]) [0, 1, 2] rfl ?_
        exact g_f_X8_looks_107 hG hE hT hk8 h
    · refine j_lv (lv' := [(0, .ref (wad (gB G) 22)), (1, .int (l1)), (2, .int (l2))]) [0, 1, 2] rfl ?_
      exact g_f_X8_looks_107 hG hE hT hk8 h
set_option maxRecDepth 4000 in
theorem g_f_X8_looks_38 {G : wG} (hG : wOk G RX8 cX8_looks 5 5 112) {X : wM} {o : Int64} {dd : UInt64} {td : wX} {res : (Int32 × wM)} (hE : wEnd G (some .int) (rp (some (.int (res.1))) (X, res.2, o, dd, td)) xp0) (hT : wNoTab G) {k8 : wM → Int32 → Int32 → Option (Int32 × wM)} (hk8 : ∀ (Y : wM) (l1 : Int32) (l2 : Int32), k8 Y l1 l2 = some res → J G 5 0 0 8 [(0, .ref (wad (gB G) 22)), (1, .int (l1)), (2, .int (l2))] [] (X, Y, o, dd, td)) (n : Nat) : ∀ (Y : wM) (l1 : Int32) (l2 : Int32) (l3 : Int32) (l4 : Int32), f_X8_looks_38 k8 n Y l1 l2 l3 l4 = some res → J G 5 0 0 38 [(0, .ref (wad (gB G) 22)), (1, .int (l1)), (2, .int (l2)), (3, .int (l3)), (4, .int (l4))] [] (X, Y, o, dd, td) := by
  induction n with
  | zero => intro Y l1 l2 l3 l4 h; cases h
  | succ n ih =>
    intro Y l1 l2 l3 l4 h
    exact g_f_X8_looks_38b hG hE hT hk8 ih h
set_option maxRecDepth 4000 in
theorem g_f_X8_looks_34 {G : wG} (hG : wOk G RX8 cX8_looks 5 5 112) {X Y : wM} {o : Int64} {dd : UInt64} {td : wX} {res : (Int32 × wM)} (hE : wEnd G (some .int) (rp (some (.int (res.1))) (X, res.2, o, dd, td)) xp0) (hT : wNoTab G) {k8 : wM → Int32 → Int32 → Option (Int32 × wM)} (hk8 : ∀ (Y : wM) (l1 : Int32) (l2 : Int32), k8 Y l1 l2 = some res → J G 5 0 0 8 [(0, .ref (wad (gB G) 22)), (1, .int (l1)), (2, .int (l2))] [] (X, Y, o, dd, td)) {l1 : Int32} {l2 : Int32} {s0 : Int32} (h : f_X8_looks_34 k8 Y l1 l2 s0 = some res) : J G 5 0 0 34 [(0, .ref (wad (gB G) 22)), (1, .int (l1)), (2, .int (l2))] [.int (s0)] (X, Y, o, dd, td) := by
  unfold f_X8_looks_34 at h
  refine j_istore_n hG (lv' := [(3, .int (s0)), (0, .ref (wad (gB G) 22)), (1, .int (l1)), (2, .int (l2))]) (dt dtX8_looks_0 20 rfl) rfl (by decide) rfl ?_
  refine j_iconst hG (v := 0) (dt dtX8_looks_0 21 rfl) (by decide) ?_
  refine j_istore hG (lv' := [(4, .int (0)), (3, .int (s0)), (0, .ref (wad (gB G) 22)), (1, .int (l1)), (2, .int (l2))]) (dt dtX8_looks_0 22 rfl) (by decide) rfl ?_
  refine j_lv (lv' := [(0, .ref (wad (gB G) 22)), (1, .int (l1)), (2, .int (l2)), (3, .int (s0)), (4, .int (0))]) [2, 3, 4, 1, 0] rfl ?_
  exact g_f_X8_looks_38 hG hE hT hk8 1000 Y l1 l2 s0 (0 : Int32) h
set_option maxRecDepth 4000 in
theorem g_f_X8_looks_8b {G : wG} (hG : wOk G RX8 cX8_looks 5 5 112) {X Y : wM} {o : Int64} {dd : UInt64} {td : wX} {res : (Int32 × wM)} (hE : wEnd G (some .int) (rp (some (.int (res.1))) (X, res.2, o, dd, td)) xp0) (hT : wNoTab G) {k8 : wM → Int32 → Int32 → Option (Int32 × wM)} (hk8 : ∀ (Y : wM) (l1 : Int32) (l2 : Int32), k8 Y l1 l2 = some res → J G 5 0 0 8 [(0, .ref (wad (gB G) 22)), (1, .int (l1)), (2, .int (l2))] [] (X, Y, o, dd, td)) {l1 : Int32} {l2 : Int32} (h : f_X8_looks_8b k8 Y l1 l2 = some res) : J G 5 0 0 8 [(0, .ref (wad (gB G) 22)), (1, .int (l1)), (2, .int (l2))] [] (X, Y, o, dd, td) := by
  unfold f_X8_looks_8b at h
  refine j_iload_n hG 2 (dt dtX8_looks_0 6 rfl) rfl rfl ?_
  refine j_aload_n hG 0 (dt dtX8_looks_0 7 rfl) rfl rfl ?_
  refine j_get hG cl_X8 22 18 (cv_22 _ _ _ _) (by decide) fl_X8_67 rfl rfl (dt dtX8_looks_0 8 rfl) ?_
  refine j_icmp_ge hG (tgt := 113) (dt dtX8_looks_0 9 rfl) (by decide) h (fun h => ?_) (fun h => ?_)
  · refine j_aload_n hG 0 (dt dtX8_looks_0 10 rfl) rfl rfl ?_
    refine j_get hG cl_X8 22 13 (cv_22 _ _ _ _) (by decide) fl_X8_51 rfl rfl (dt dtX8_looks_0 11 rfl) ?_
    refine j_iload_n hG 2 (dt dtX8_looks_0 12 rfl) rfl rfl ?_
    refine j_iald hG 36 (cv_36 _ _ _ _) h (dt dtX8_looks_0 13 rfl) (fun v21 h => ?_)
    refine j_aload_n hG 0 (dt dtX8_looks_0 14 rfl) rfl rfl ?_
    refine j_get hG cl_X8 22 15 (cv_22 _ _ _ _) (by decide) fl_X8_58 rfl rfl (dt dtX8_looks_0 15 rfl) ?_
    refine j_icmp_ne hG (tgt := 33) (dt dtX8_looks_0 16 rfl) (by decide) h (fun h => ?_) (fun h => ?_)
    · refine j_iconst hG (v := 1) (dt dtX8_looks_0 17 rfl) (by decide) ?_
      refine j_goto hG (tgt := 34) (dt dtX8_looks_0 18 rfl) (by decide) ?_
      exact g_f_X8_looks_34 hG hE hT hk8 h
    · refine j_iconst hG (v := 0) (dt dtX8_looks_0 19 rfl) (by decide) ?_
      exact g_f_X8_looks_34 hG hE hT hk8 h
  · refine j_iload_n hG 1 (dt dtX8_looks_1 3 rfl) rfl rfl ?_
    obtain rfl := Option.some.inj h
    exact j_iret hG hE ⟨rfl, rfl⟩ (dt dtX8_looks_1 4 rfl)
set_option maxRecDepth 4000 in
theorem g_f_X8_looks_8 {G : wG} (hG : wOk G RX8 cX8_looks 5 5 112) {X : wM} {o : Int64} {dd : UInt64} {td : wX} {res : (Int32 × wM)} (hE : wEnd G (some .int) (rp (some (.int (res.1))) (X, res.2, o, dd, td)) xp0) (hT : wNoTab G) (n : Nat) : ∀ (Y : wM) (l1 : Int32) (l2 : Int32), f_X8_looks_8 n Y l1 l2 = some res → J G 5 0 0 8 [(0, .ref (wad (gB G) 22)), (1, .int (l1)), (2, .int (l2))] [] (X, Y, o, dd, td) := by
  induction n with
  | zero => intro Y l1 l2 h; cases h
  | succ n ih =>
    intro Y l1 l2 h
    exact g_f_X8_looks_8b hG hE hT ih h
set_option maxRecDepth 4000 in
theorem g_f_X8_looks {G : wG} (hG : wOk G RX8 cX8_looks 5 5 112) {X Y : wM} {o : Int64} {dd : UInt64} {td : wX} {res : (Int32 × wM)} (hE : wEnd G (some .int) (rp (some (.int (res.1))) (X, res.2, o, dd, td)) xp0) (hT : wNoTab G) (h : f_X8_looks Y = some res) : J G 5 0 0 0 [(0, .ref (wad (gB G) 22))] [] (X, Y, o, dd, td) := by
  unfold f_X8_looks at h
  refine j_aload_n hG 0 (dt dtX8_looks_0 0 rfl) rfl rfl ?_
  refine j_callVp hG h (V := fun y1 => none) (S := fun y1 => (X, y1, o, dd, td)) (kc := 0) (ks := 0) (fun z hz => ct_X8_layCounts hG.2.2.1 (gB G) _ _ _ _ _ hz) mf_X8_layCounts ml_X8_117 22 (cv_22 _ _ _ _) rfl rfl (rest := []) rfl (Nat.le_of_ble_eq_true rfl) (dt dtX8_looks_0 1 rfl) (by decide) (by decide) (fun y1 h => ?_)
  refine j_iconst hG (v := 0) (dt dtX8_looks_0 2 rfl) (by decide) ?_
  refine j_istore_n hG (lv' := [(1, .int (0)), (0, .ref (wad (gB G) 22))]) (dt dtX8_looks_0 3 rfl) rfl (by decide) rfl ?_
  refine j_iconst hG (v := 0) (dt dtX8_looks_0 4 rfl) (by decide) ?_
  refine j_istore_n hG (lv' := [(2, .int (0)), (1, .int (0)), (0, .ref (wad (gB G) 22))]) (dt dtX8_looks_0 5 rfl) rfl (by decide) rfl ?_
  refine j_lv (lv' := [(0, .ref (wad (gB G) 22)), (1, .int (0)), (2, .int (0))]) [2, 1, 0] rfl ?_
  exact g_f_X8_looks_8 hG hE hT 1000 y1 (0 : Int32) (0 : Int32) h
theorem ct_X8_looks {l : Launch} (hl : l.stackTraces = false) (B : wB) (X Y : wM) (o : Int64) (dd : UInt64) (td : wX) {res : (Int32 × wM)} (h : f_X8_looks Y = some res) : wMet l B yX8_looks cX8_looks 5 (some .int) 5 112 0 0 [.ref (wad B 22)] (X, Y, o, dd, td) (rp (some (.int (res.1))) (X, res.2, o, dd, td)) xp0 :=
  wMet.of hl (by decide +kernel) (Nat.le_of_ble_eq_true rfl) (fun G hB hL hG hE hT => by subst hB; exact g_f_X8_looks hG hE hT h)
def f_X8_addBlock_15 (Y : wM) (s0 : Int32) : Option (Int32 × wM) :=
  (f_X8_checked Y s0).bind fun y15 =>
  (if 0 < y15.1 then some (0, y15.2)
  else wfld y15.2 22 15 ((y15.2 22 15) + 1) fun Y =>
  (f_X8_looks Y).bind fun y34 =>
  some (((y34.2 22 15) - 1), y34.2))
def f_X8_addBlock (Y : wM) : Option (Int32 × wM) :=
  (if (Y 22 15) < 6 then f_X8_addBlock_15 Y (1 : Int32)
  else f_X8_addBlock_15 Y (0 : Int32))
set_option maxRecDepth 4000 in
theorem g_f_X8_addBlock_15 {G : wG} (hG : wOk G RX8 cX8_addBlock 2 6 136) {X Y : wM} {o : Int64} {dd : UInt64} {td : wX} {res : (Int32 × wM)} (hE : wEnd G (some .int) (rp (some (.int (res.1))) (X, res.2, o, dd, td)) xp0) (hT : wNoTab G) {s0 : Int32} (h : f_X8_addBlock_15 Y s0 = some res) : J G 2 0 0 15 [(0, .ref (wad (gB G) 22))] [.int (s0), .ref (wad (gB G) 22)] (X, Y, o, dd, td) := by
  unfold f_X8_addBlock_15 at h
  refine j_callVp hG h (V := fun y15 => (some (.int (y15.1)))) (S := fun y15 => (X, y15.2, o, dd, td)) (kc := 0) (ks := 0) (fun z hz => ct_X8_checked hG.2.2.1 (gB G) _ _ _ _ _ hz) mf_X8_checked ml_X8_120 22 (cv_22 _ _ _ _) rfl rfl (rest := []) rfl (Nat.le_of_ble_eq_true rfl) (dt dtX8_addBlock_0 8 rfl) (by decide) (by decide) (fun y15 h => ?_)
  refine j_if_le hG (tgt := 23) (dt dtX8_addBlock_0 9 rfl) (by decide) h (fun h => ?_) (fun h => ?_)
  · refine j_iconst hG (v := 0) (dt dtX8_addBlock_0 10 rfl) (by decide) ?_
    obtain rfl := Option.some.inj h
    exact j_iret hG hE ⟨rfl, rfl⟩ (dt dtX8_addBlock_0 11 rfl)
  · refine j_aload_n hG 0 (dt dtX8_addBlock_0 12 rfl) rfl rfl ?_
    refine j_dup hG (dt dtX8_addBlock_0 13 rfl) rfl ?_
    refine j_get hG cl_X8 22 15 (cv_22 _ _ _ _) (by decide) fl_X8_58 rfl rfl (dt dtX8_addBlock_0 14 rfl) ?_
    refine j_iconst hG (v := 1) (dt dtX8_addBlock_0 15 rfl) (by decide) ?_
    refine j_iadd hG (dt dtX8_addBlock_0 16 rfl) ?_
    refine j_put hG cl_X8 22 15 (X := y15.2) (k := 22) (fun Y => (X, Y, o, dd, td)) (cv_22 _ _ _ _) (by decide) fl_X8_58 rfl rfl rfl rfl rfl (Nat.le_of_ble_eq_true rfl) (cs_22 _ _ _ _ (upd (y15.2 22) 15 ((y15.2 22 15) + 1))) h (dt dtX8_addBlock_0 17 rfl) (fun Y h => ?_)
    refine j_aload_n hG 0 (dt dtX8_addBlock_0 18 rfl) rfl rfl ?_
    refine j_callVp hG h (V := fun y34 => (some (.int (y34.1)))) (S := fun y34 => (X, y34.2, o, dd, td)) (kc := 0) (ks := 0) (fun z hz => ct_X8_looks hG.2.2.1 (gB G) _ _ _ _ _ hz) mf_X8_looks ml_X8_124 22 (cv_22 _ _ _ _) rfl rfl (rest := []) rfl (Nat.le_of_ble_eq_true rfl) (dt dtX8_addBlock_0 19 rfl) (by decide) (by decide) (fun y34 h => ?_)
    refine j_istore_n hG (lv' := [(1, .int (y34.1)), (0, .ref (wad (gB G) 22))]) (dt dtX8_addBlock_0 20 rfl) rfl (by decide) rfl ?_
    refine j_aload_n hG 1 (dt dtX8_addBlock_0 21 rfl) rfl rfl ?_
    refine j_get hG cl_X8 22 15 (cv_22 _ _ _ _) (by decide) fl_X8_58 rfl rfl (dt dtX8_addBlock_0 22 rfl) ?_
    refine j_iconst hG (v := 1) (dt dtX8_addBlock_0 23 rfl) (by decide) ?_
    refine j_isub hG (dt dtX8_addBlock_0 24 rfl) ?_
    obtain rfl := Option.some.inj h
    exact j_iret hG hE ⟨rfl, rfl⟩ (dt dtX8_addBlock_0 25 rfl)
set_option maxRecDepth 4000 in
theorem g_f_X8_addBlock {G : wG} (hG : wOk G RX8 cX8_addBlock 2 6 136) {X Y : wM} {o : Int64} {dd : UInt64} {td : wX} {res : (Int32 × wM)} (hE : wEnd G (some .int) (rp (some (.int (res.1))) (X, res.2, o, dd, td)) xp0) (hT : wNoTab G) (h : f_X8_addBlock Y = some res) : J G 2 0 0 0 [(0, .ref (wad (gB G) 22))] [] (X, Y, o, dd, td) := by
  unfold f_X8_addBlock at h
  refine j_aload_n hG 0 (dt dtX8_addBlock_0 0 rfl) rfl rfl ?_
  refine j_aload_n hG 0 (dt dtX8_addBlock_0 1 rfl) rfl rfl ?_
  refine j_get hG cl_X8 22 15 (cv_22 _ _ _ _) (by decide) fl_X8_58 rfl rfl (dt dtX8_addBlock_0 2 rfl) ?_
  refine j_bipush hG (v := 6) (dt dtX8_addBlock_0 3 rfl) (by decide) ?_
  refine j_icmp_ge hG (tgt := 14) (dt dtX8_addBlock_0 4 rfl) (by decide) h (fun h => ?_) (fun h => ?_)
  · refine j_iconst hG (v := 1) (dt dtX8_addBlock_0 5 rfl) (by decide) ?_
    refine j_goto hG (tgt := 15) (dt dtX8_addBlock_0 6 rfl) (by decide) ?_
    exact g_f_X8_addBlock_15 hG hE hT h
  · refine j_iconst hG (v := 0) (dt dtX8_addBlock_0 7 rfl) (by decide) ?_
    exact g_f_X8_addBlock_15 hG hE hT h
theorem ct_X8_addBlock {l : Launch} (hl : l.stackTraces = false) (B : wB) (X Y : wM) (o : Int64) (dd : UInt64) (td : wX) {res : (Int32 × wM)} (h : f_X8_addBlock Y = some res) : wMet l B yX8_addBlock cX8_addBlock 2 (some .int) 6 136 0 0 [.ref (wad B 22)] (X, Y, o, dd, td) (rp (some (.int (res.1))) (X, res.2, o, dd, td)) xp0 :=
  wMet.of hl (by decide +kernel) (Nat.le_of_ble_eq_true rfl) (fun G hB hL hG hE hT => by subst hB; exact g_f_X8_addBlock hG hE hT h)
def f_X8_addAddress_27 (Y : wM) (l1 : Int32) (s0 : Int32) : Option (Int32 × wM) :=
  wfld Y 22 14 s0 fun Y =>
  (if 0 < (Y 22 14) then some (0, Y)
  else wput Y 23 20 (Y 22 16) l1 fun Y =>
  wfld Y 22 16 ((Y 22 16) + 1) fun Y =>
  some (((Y 22 16) - 1), Y))
def f_X8_addAddress (Y : wM) (a1 : Int32) : Option (Int32 × wM) :=
  (f_X8_isBlock Y a1).bind fun y3 =>
  (if y3 = 0 then f_X8_addAddress_27 Y a1 (1 : Int32)
  else (if (Y 22 16) = 20 then f_X8_addAddress_27 Y a1 (2 : Int32)
  else f_X8_addAddress_27 Y a1 (0 : Int32)))
set_option maxRecDepth 4000 in
theorem g_f_X8_addAddress_27 {G : wG} (hG : wOk G RX8 cX8_addAddress 2 2 43) {X Y : wM} {o : Int64} {dd : UInt64} {td : wX} {res : (Int32 × wM)} (hE : wEnd G (some .int) (rp (some (.int (res.1))) (X, res.2, o, dd, td)) xp0) (hT : wNoTab G) {l1 : Int32} {s0 : Int32} (h : f_X8_addAddress_27 Y l1 s0 = some res) : J G 2 0 0 27 [(0, .ref (wad (gB G) 22)), (1, .int (l1))] [.int (s0), .ref (wad (gB G) 22)] (X, Y, o, dd, td) := by
  unfold f_X8_addAddress_27 at h
  refine j_put hG cl_X8 22 14 (X := Y) (k := 22) (fun Y => (X, Y, o, dd, td)) (cv_22 _ _ _ _) (by decide) fl_X8_54 rfl rfl rfl rfl rfl (Nat.le_of_ble_eq_true rfl) (cs_22 _ _ _ _ (upd (Y 22) 14 s0)) h (dt dtX8_addAddress_0 14 rfl) (fun Y h => ?_)
  refine j_aload_n hG 0 (dt dtX8_addAddress_0 15 rfl) rfl rfl ?_
  refine j_get hG cl_X8 22 14 (cv_22 _ _ _ _) (by decide) fl_X8_54 rfl rfl (dt dtX8_addAddress_0 16 rfl) ?_
  refine j_if_le hG (tgt := 39) (dt dtX8_addAddress_0 17 rfl) (by decide) h (fun h => ?_) (fun h => ?_)
  · refine j_iconst hG (v := 0) (dt dtX8_addAddress_0 18 rfl) (by decide) ?_
    obtain rfl := Option.some.inj h
    exact j_iret hG hE ⟨rfl, rfl⟩ (dt dtX8_addAddress_0 19 rfl)
  · refine j_aload_n hG 0 (dt dtX8_addAddress_0 20 rfl) rfl rfl ?_
    refine j_get hG cl_X8 22 0 (cv_22 _ _ _ _) (by decide) fl_X8_7 rfl rfl (dt dtX8_addAddress_0 21 rfl) ?_
    refine j_aload_n hG 0 (dt dtX8_addAddress_0 22 rfl) rfl rfl ?_
    refine j_get hG cl_X8 22 16 (cv_22 _ _ _ _) (by decide) fl_X8_61 rfl rfl (dt dtX8_addAddress_0 23 rfl) ?_
    refine j_iload_n hG 1 (dt dtX8_addAddress_0 24 rfl) rfl rfl ?_
    refine j_iast hG 23 (X := Y) (k := 23) (fun Y => (X, Y, o, dd, td)) (cv_23 _ _ _ _) (fun g => cs_23 _ _ _ _ g) h (dt dtX8_addAddress_0 25 rfl) (fun Y h => ?_)
    refine j_aload_n hG 0 (dt dtX8_addAddress_0 26 rfl) rfl rfl ?_
    refine j_dup hG (dt dtX8_addAddress_0 27 rfl) rfl ?_
    refine j_get hG cl_X8 22 16 (cv_22 _ _ _ _) (by decide) fl_X8_61 rfl rfl (dt dtX8_addAddress_0 28 rfl) ?_
    refine j_iconst hG (v := 1) (dt dtX8_addAddress_0 29 rfl) (by decide) ?_
    refine j_iadd hG (dt dtX8_addAddress_0 30 rfl) ?_
    refine j_put hG cl_X8 22 16 (X := Y) (k := 22) (fun Y => (X, Y, o, dd, td)) (cv_22 _ _ _ _) (by decide) fl_X8_61 rfl rfl rfl rfl rfl (Nat.le_of_ble_eq_true rfl) (cs_22 _ _ _ _ (upd (Y 22) 16 ((Y 22 16) + 1))) h (dt dtX8_addAddress_0 31 rfl) (fun Y h => ?_)
    refine j_aload_n hG 0 (dt dtX8_addAddress_0 32 rfl) rfl rfl ?_
    refine j_get hG cl_X8 22 16 (cv_22 _ _ _ _) (by decide) fl_X8_61 rfl rfl (dt dtX8_addAddress_0 33 rfl) ?_
    refine j_iconst hG (v := 1) (dt dtX8_addAddress_0 34 rfl) (by decide) ?_
    refine j_isub hG (dt dtX8_addAddress_0 35 rfl) ?_
    obtain rfl := Option.some.inj h
    exact j_iret hG hE ⟨rfl, rfl⟩ (dt dtX8_addAddress_0 36 rfl)
set_option maxRecDepth 4000 in
theorem g_f_X8_addAddress {G : wG} (hG : wOk G RX8 cX8_addAddress 2 2 43) {X Y : wM} {o : Int64} {dd : UInt64} {td : wX} {res : (Int32 × wM)} (hE : wEnd G (some .int) (rp (some (.int (res.1))) (X, res.2, o, dd, td)) xp0) (hT : wNoTab G) {a1 : Int32} (h : f_X8_addAddress Y a1 = some res) : J G 2 0 0 0 [(0, .ref (wad (gB G) 22)), (1, .int (a1))] [] (X, Y, o, dd, td) := by
  unfold f_X8_addAddress at h
  refine j_aload_n hG 0 (dt dtX8_addAddress_0 0 rfl) rfl rfl ?_
  refine j_aload_n hG 0 (dt dtX8_addAddress_0 1 rfl) rfl rfl ?_
  refine j_iload_n hG 1 (dt dtX8_addAddress_0 2 rfl) rfl rfl ?_
  refine j_callVp hG h (V := fun y3 => (some (.int (y3)))) (S := fun y3 => (X, Y, o, dd, td)) (kc := 0) (ks := 0) (fun z hz => ct_X8_isBlock hG.2.2.1 (gB G) _ _ _ _ _ hz) mf_X8_isBlock ml_X8_128 22 (cv_22 _ _ _ _) rfl rfl (rest := [.ref (wad (gB G) 22)]) rfl (Nat.le_of_ble_eq_true rfl) (dt dtX8_addAddress_0 3 rfl) (by decide) (by decide) (fun y3 h => ?_)
  refine j_if_ne hG (tgt := 13) (dt dtX8_addAddress_0 4 rfl) (by decide) h (fun h => ?_) (fun h => ?_)
  · refine j_iconst hG (v := 1) (dt dtX8_addAddress_0 5 rfl) (by decide) ?_
    refine j_goto hG (tgt := 27) (dt dtX8_addAddress_0 6 rfl) (by decide) ?_
    exact g_f_X8_addAddress_27 hG hE hT h
  · refine j_aload_n hG 0 (dt dtX8_addAddress_0 7 rfl) rfl rfl ?_
    refine j_get hG cl_X8 22 16 (cv_22 _ _ _ _) (by decide) fl_X8_61 rfl rfl (dt dtX8_addAddress_0 8 rfl) ?_
    refine j_bipush hG (v := 20) (dt dtX8_addAddress_0 9 rfl) (by decide) ?_
    refine j_icmp_ne hG (tgt := 26) (dt dtX8_addAddress_0 10 rfl) (by decide) h (fun h => ?_) (fun h => ?_)
    · refine j_iconst hG (v := 2) (dt dtX8_addAddress_0 11 rfl) (by decide) ?_
      refine j_goto hG (tgt := 27) (dt dtX8_addAddress_0 12 rfl) (by decide) ?_
      exact g_f_X8_addAddress_27 hG hE hT h
    · refine j_iconst hG (v := 0) (dt dtX8_addAddress_0 13 rfl) (by decide) ?_
      exact g_f_X8_addAddress_27 hG hE hT h
theorem ct_X8_addAddress {l : Launch} (hl : l.stackTraces = false) (B : wB) (X Y : wM) (o : Int64) (dd : UInt64) (td : wX) {a1 : Int32} {res : (Int32 × wM)} (h : f_X8_addAddress Y a1 = some res) : wMet l B yX8_addAddress cX8_addAddress 2 (some .int) 2 43 0 0 [.ref (wad B 22), .int (a1)] (X, Y, o, dd, td) (rp (some (.int (res.1))) (X, res.2, o, dd, td)) xp0 :=
  wMet.of hl (by decide +kernel) (Nat.le_of_ble_eq_true rfl) (fun G hB hL hG hE hT => by subst hB; exact g_f_X8_addAddress hG hE hT h)
def f_X8_split_97 (k69 : wM → Int32 → Int32 → Option (Int32 × wM)) (Y : wM) (l1 : Int32) (l3 : Int32) : Option (Int32 × wM) :=
  wbd (l3 + 1) fun v97 =>
  k69 Y l1 v97
def f_X8_split_69b (k69 : wM → Int32 → Int32 → Option (Int32 × wM)) (Y : wM) (l1 : Int32) (l3 : Int32) : Option (Int32 × wM) :=
  (if l3 < (Y 22 16) then wget 20 (Y 23) l3 fun v82 =>
  (if v82 = l1 then wput Y 23 20 l3 (Y 22 15) fun Y =>
  f_X8_split_97 k69 Y l1 l3
  else f_X8_split_97 k69 Y l1 l3)
  else wfld Y 22 15 ((Y 22 15) + 1) fun Y =>
  (f_X8_looks Y).bind fun y114 =>
  some (((y114.2 22 15) - 1), y114.2))
def f_X8_split_69 : Nat → wM → Int32 → Int32 → Option (Int32 × wM)
  | 0 => fun _ _ _ => none
  | n + 1 => fun Y l1 l3 => f_X8_split_69b (f_X8_split_69 n) Y l1 l3
def f_X8_split_55 (Y : wM) (l1 : Int32) (l2 : Int32) (s0 : Int32) : Option (Int32 × wM) :=
  wfld Y 22 14 s0 fun Y =>
  (if 0 < (Y 22 14) then some (0, Y)
  else f_X8_split_69 1000 Y l1 l2)
def f_X8_split_37 (Y : wM) (l1 : Int32) (l2 : Int32) : Option (Int32 × wM) :=
  f_X8_split_55 Y l1 l2 (2 : Int32)
def f_X8_split (Y : wM) (a1 : Int32) (a2 : Int32) : Option (Int32 × wM) :=
  (f_X8_isBlock Y a1).bind fun y3 =>
  (if y3 = 0 then f_X8_split_55 Y a1 a2 (1 : Int32)
  else (f_X8_in a2 (0 : Int32) ((Y 22 16) - 1)).bind fun y21 =>
  (if y21 = 0 then f_X8_split_37 Y a1 a2
  else wget 20 (Y 23) a2 fun v32 =>
  (if v32 = a1 then (if (Y 22 15) = 6 then f_X8_split_55 Y a1 a2 (3 : Int32)
  else f_X8_split_55 Y a1 a2 (0 : Int32))
  else f_X8_split_37 Y a1 a2)))
set_option maxRecDepth 4000 in
theorem g_f_X8_split_97 {G : wG} (hG : wOk G RX8 cX8_split 4 6 136) {X Y : wM} {o : Int64} {dd : UInt64} {td : wX} {res : (Int32 × wM)} (hE : wEnd G (some .int) (rp (some (.int (res.1))) (X, res.2, o, dd, td)) xp0) (hT : wNoTab G) {k69 : wM → Int32 → Int32 → Option (Int32 × wM)} (hk69 : ∀ (Y : wM) (l1 : Int32) (l3 : Int32), k69 Y l1 l3 = some res → J G 4 0 0 69 [(0, .ref (wad (gB G) 22)), (1, .int (l1)), (3, .int (l3))] [] (X, Y, o, dd, td)) {l1 : Int32} {l3 : Int32} (h : f_X8_split_97 k69 Y l1 l3 = some res) : J G 4 0 0 97 [(0, .ref (wad (gB G) 22)), (1, .int (l1)), (3, .int (l3))] [] (X, Y, o, dd, td) := by
  unfold f_X8_split_97 at h
  refine j_iincB hG 2 (fun v97 => [(3, .int (v97)), (0, .ref (wad (gB G) 22)), (1, .int (l1))]) (dt dtX8_split_0 54 rfl) rfl rfl (by decide) (fun _ => rfl) h (fun v97 h => ?_)
  refine j_goto hG (tgt := 69) (dt dtX8_split_0 55 rfl) (by decide) ?_
  refine j_lv (lv' := [(0, .ref (wad (gB G) 22)), (1, .int (l1)), (3, .int (v97))]) [1, 2, 0] rfl ?_
  exact hk69 Y l1 v97 h
set_option maxRecDepth 4000 in
theorem g_f_X8_split_69b {G : wG} (hG : wOk G RX8 cX8_split 4 6 136) {X Y : wM} {o : Int64} {dd : UInt64} {td : wX} {res : (Int32 × wM)} (hE : wEnd G (some .int) (rp (some (.int (res.1))) (X, res.2, o, dd, td)) xp0) (hT : wNoTab G) {k69 : wM → Int32 → Int32 → Option (Int32 × wM)} (hk69 : ∀ (Y : wM) (l1 : Int32) (l3 : Int32), k69 Y l1 l3 = some res → J G 4 0 0 69 [(0, .ref (wad (gB G) 22)), (1, .int (l1)), (3, .int (l3))] [] (X, Y, o, dd, td)) {l1 : Int32} {l3 : Int32} (h : f_X8_split_69b k69 Y l1 l3 = some res) : J G 4 0 0 69 [(0, .ref (wad (gB G) 22)), (1, .int (l1)), (3, .int (l3))] [] (X, Y, o, dd, td) := by
  unfold f_X8_split_69b at h
  refine j_iload_n hG 2 (dt dtX8_split_0 38 rfl) rfl rfl ?_
  refine j_aload_n hG 0 (dt dtX8_split_0 39 rfl) rfl rfl ?_
  refine j_get hG cl_X8 22 16 (cv_22 _ _ _ _) (by decide) fl_X8_61 rfl rfl (dt dtX8_split_0 40 rfl) ?_
  refine j_icmp_ge hG (tgt := 103) (dt dtX8_split_0 41 rfl) (by decide) h (fun h => ?_) (fun h => ?_)
  · refine j_aload_n hG 0 (dt dtX8_split_0 42 rfl) rfl rfl ?_
    refine j_get hG cl_X8 22 0 (cv_22 _ _ _ _) (by decide) fl_X8_7 rfl rfl (dt dtX8_split_0 43 rfl) ?_
    refine j_iload_n hG 2 (dt dtX8_split_0 44 rfl) rfl rfl ?_
    refine j_iald hG 23 (cv_23 _ _ _ _) h (dt dtX8_split_0 45 rfl) (fun v82 h => ?_)
    refine j_iload_n hG 1 (dt dtX8_split_0 46 rfl) rfl rfl ?_
    refine j_icmp_ne hG (tgt := 97) (dt dtX8_split_0 47 rfl) (by decide) h (fun h => ?_) (fun h => ?_)
    · refine j_aload_n hG 0 (dt dtX8_split_0 48 rfl) rfl rfl ?_
      refine j_get hG cl_X8 22 0 (cv_22 _ _ _ _) (by decide) fl_X8_7 rfl rfl (dt dtX8_split_0 49 rfl) ?_
      refine j_iload_n hG 2 (dt dtX8_split_0 50 rfl) rfl rfl ?_
      refine j_aload_n hG 0 (dt dtX8_split_0 51 rfl) rfl rfl ?_
      refine j_get hG cl_X8 22 15 (cv_22 _ _ _ _) (by decide) fl_X8_58 rfl rfl (dt dtX8_split_0 52 rfl) ?_
      refine j_iast hG 23 (X := Y) (k := 23) (fun Y => (X, Y, o, dd, td)) (cv_23 _ _ _ _) (fun g => cs_23 _ _ _ _ g) h (dt dtX8_split_0 53 rfl) (fun Y h => ?_)
      exact g_f_X8_split_97 hG hE hT hk69 h
    · exact g_f_X8_split_97 hG hE hT hk69 h
  · refine j_aload_n hG 0 (dt dtX8_split_0 56 rfl) rfl rfl ?_
    refine j_dup hG (dt dtX8_split_0 57 rfl) rfl ?_
    refine j_get hG cl_X8 22 15 (cv_22 _ _ _ _) (by decide) fl_X8_58 rfl rfl (dt dtX8_split_0 58 rfl) ?_
    refine j_iconst hG (v := 1) (dt dtX8_split_0 59 rfl) (by decide) ?_
    refine j_iadd hG (dt dtX8_split_1 0 rfl) ?_
    refine j_put hG cl_X8 22 15 (X := Y) (k := 22) (fun Y => (X, Y, o, dd, td)) (cv_22 _ _ _ _) (by decide) fl_X8_58 rfl rfl rfl rfl rfl (Nat.le_of_ble_eq_true rfl) (cs_22 _ _ _ _ (upd (Y 22) 15 ((Y 22 15) + 1))) h (dt dtX8_split_1 1 rfl) (fun Y h => ?_)
    refine j_aload_n hG 0 (dt dtX8_split_1 2 rfl) rfl rfl ?_
    refine j_callVp hG h (V := fun y114 => (some (.int (y114.1)))) (S := fun y114 => (X, y114.2, o, dd, td)) (kc := 0) (ks := 0) (fun z hz => ct_X8_looks hG.2.2.1 (gB G) _ _ _ _ _ hz) mf_X8_looks ml_X8_124 22 (cv_22 _ _ _ _) rfl rfl (rest := []) rfl (Nat.le_of_ble_eq_true rfl) (dt dtX8_split_1 3 rfl) (by decide) (by decide) (fun y114 h => ?_)
    refine j_istore_n hG (lv' := [(3, .int (y114.1)), (0, .ref (wad (gB G) 22)), (1, .int (l1))]) (dt dtX8_split_1 4 rfl) rfl (by decide) rfl ?_
    refine j_aload_n hG 1 (dt dtX8_split_1 5 rfl) rfl rfl ?_
    refine j_get hG cl_X8 22 15 (cv_22 _ _ _ _) (by decide) fl_X8_58 rfl rfl (dt dtX8_split_1 6 rfl) ?_
    refine j_iconst hG (v := 1) (dt dtX8_split_1 7 rfl) (by decide) ?_
    refine j_isub hG (dt dtX8_split_1 8 rfl) ?_
    obtain rfl := Option.some.inj h
    exact j_iret hG hE ⟨rfl, rfl⟩ (dt dtX8_split_1 9 rfl)
set_option maxRecDepth 4000 in
theorem g_f_X8_split_69 {G : wG} (hG : wOk G RX8 cX8_split 4 6 136) {X : wM} {o : Int64} {dd : UInt64} {td : wX} {res : (Int32 × wM)} (hE : wEnd G (some .int) (rp (some (.int (res.1))) (X, res.2, o, dd, td)) xp0) (hT : wNoTab G) (n : Nat) : ∀ (Y : wM) (l1 : Int32) (l3 : Int32), f_X8_split_69 n Y l1 l3 = some res → J G 4 0 0 69 [(0, .ref (wad (gB G) 22)), (1, .int (l1)), (3, .int (l3))] [] (X, Y, o, dd, td) := by
  induction n with
  | zero => intro Y l1 l3 h; cases h
  | succ n ih =>
    intro Y l1 l3 h
    exact g_f_X8_split_69b hG hE hT ih h
set_option maxRecDepth 4000 in
theorem g_f_X8_split_55 {G : wG} (hG : wOk G RX8 cX8_split 4 6 136) {X Y : wM} {o : Int64} {dd : UInt64} {td : wX} {res : (Int32 × wM)} (hE : wEnd G (some .int) (rp (some (.int (res.1))) (X, res.2, o, dd, td)) xp0) (hT : wNoTab G) {l1 : Int32} {l2 : Int32} {s0 : Int32} (h : f_X8_split_55 Y l1 l2 s0 = some res) : J G 4 0 0 55 [(0, .ref (wad (gB G) 22)), (1, .int (l1)), (2, .int (l2))] [.int (s0), .ref (wad (gB G) 22)] (X, Y, o, dd, td) := by
  unfold f_X8_split_55 at h
  refine j_put hG cl_X8 22 14 (X := Y) (k := 22) (fun Y => (X, Y, o, dd, td)) (cv_22 _ _ _ _) (by decide) fl_X8_54 rfl rfl rfl rfl rfl (Nat.le_of_ble_eq_true rfl) (cs_22 _ _ _ _ (upd (Y 22) 14 s0)) h (dt dtX8_split_0 30 rfl) (fun Y h => ?_)
  refine j_aload_n hG 0 (dt dtX8_split_0 31 rfl) rfl rfl ?_
  refine j_get hG cl_X8 22 14 (cv_22 _ _ _ _) (by decide) fl_X8_54 rfl rfl (dt dtX8_split_0 32 rfl) ?_
  refine j_if_le hG (tgt := 67) (dt dtX8_split_0 33 rfl) (by decide) h (fun h => ?_) (fun h => ?_)
  · refine j_iconst hG (v := 0) (dt dtX8_split_0 34 rfl) (by decide) ?_
    obtain rfl := Option.some.inj h
    exact j_iret hG hE ⟨rfl, rfl⟩ (dt dtX8_split_0 35 rfl)
  · refine j_iload_n hG 2 (dt dtX8_split_0 36 rfl) rfl rfl ?_
    refine j_istore_n hG (lv' := [(3, .int (l2)), (0, .ref (wad (gB G) 22)), (1, .int (l1)), (2, .int (l2))]) (dt dtX8_split_0 37 rfl) rfl (by decide) rfl ?_
    refine j_lv (lv' := [(0, .ref (wad (gB G) 22)), (1, .int (l1)), (3, .int (l2))]) [1, 2, 0] rfl ?_
    exact g_f_X8_split_69 hG hE hT 1000 Y l1 l2 h
set_option maxRecDepth 4000 in
theorem g_f_X8_split_37 {G : wG} (hG : wOk G RX8 cX8_split 4 6 136) {X Y : wM} {o : Int64} {dd : UInt64} {td : wX} {res : (Int32 × wM)} (hE : wEnd G (some .int) (rp (some (.int (res.1))) (X, res.2, o, dd, td)) xp0) (hT : wNoTab G) {l1 : Int32} {l2 : Int32} (h : f_X8_split_37 Y l1 l2 = some res) : J G 4 0 0 37 [(0, .ref (wad (gB G) 22)), (1, .int (l1)), (2, .int (l2))] [.ref (wad (gB G) 22)] (X, Y, o, dd, td) := by
  unfold f_X8_split_37 at h
  refine j_iconst hG (v := 2) (dt dtX8_split_0 21 rfl) (by decide) ?_
  refine j_goto hG (tgt := 55) (dt dtX8_split_0 22 rfl) (by decide) ?_
  exact g_f_X8_split_55 hG hE hT h
set_option maxRecDepth 4000 in
theorem g_f_X8_split {G : wG} (hG : wOk G RX8 cX8_split 4 6 136) {X Y : wM} {o : Int64} {dd : UInt64} {td : wX} {res : (Int32 × wM)} (hE : wEnd G (some .int) (rp (some (.int (res.1))) (X, res.2, o, dd, td)) xp0) (hT : wNoTab G) {a1 : Int32} {a2 : Int32} (h : f_X8_split Y a1 a2 = some res) : J G 4 0 0 0 [(0, .ref (wad (gB G) 22)), (1, .int (a1)), (2, .int (a2))] [] (X, Y, o, dd, td) := by
  unfold f_X8_split at h
  refine j_aload_n hG 0 (dt dtX8_split_0 0 rfl) rfl rfl ?_
  refine j_aload_n hG 0 (dt dtX8_split_0 1 rfl) rfl rfl ?_
  refine j_iload_n hG 1 (dt dtX8_split_0 2 rfl) rfl rfl ?_
  refine j_callVp hG h (V := fun y3 => (some (.int (y3)))) (S := fun y3 => (X, Y, o, dd, td)) (kc := 0) (ks := 0) (fun z hz => ct_X8_isBlock hG.2.2.1 (gB G) _ _ _ _ _ hz) mf_X8_isBlock ml_X8_128 22 (cv_22 _ _ _ _) rfl rfl (rest := [.ref (wad (gB G) 22)]) rfl (Nat.le_of_ble_eq_true rfl) (dt dtX8_split_0 3 rfl) (by decide) (by decide) (fun y3 h => ?_)
  refine j_if_ne hG (tgt := 13) (dt dtX8_split_0 4 rfl) (by decide) h (fun h => ?_) (fun h => ?_)
  · refine j_iconst hG (v := 1) (dt dtX8_split_0 5 rfl) (by decide) ?_
    refine j_goto hG (tgt := 55) (dt dtX8_split_0 6 rfl) (by decide) ?_
    exact g_f_X8_split_55 hG hE hT h
  · refine j_iload_n hG 2 (dt dtX8_split_0 7 rfl) rfl rfl ?_
    refine j_iconst hG (v := 0) (dt dtX8_split_0 8 rfl) (by decide) ?_
    refine j_aload_n hG 0 (dt dtX8_split_0 9 rfl) rfl rfl ?_
    refine j_get hG cl_X8 22 16 (cv_22 _ _ _ _) (by decide) fl_X8_61 rfl rfl (dt dtX8_split_0 10 rfl) ?_
    refine j_iconst hG (v := 1) (dt dtX8_split_0 11 rfl) (by decide) ?_
    refine j_isub hG (dt dtX8_split_0 12 rfl) ?_
    refine j_callSp hG h (V := fun y21 => (some (.int (y21)))) (S := fun y21 => (X, Y, o, dd, td)) (kc := 0) (ks := 0) (fun z hz => ct_X8_in hG.2.2.1 (gB G) _ _ _ _ _ hz) mf_X8_in ml_X8_91 rfl (rest := [.ref (wad (gB G) 22)]) rfl (Nat.le_of_ble_eq_true rfl) (dt dtX8_split_0 13 rfl) (by decide) (by decide) (fun y21 h => ?_)
    refine j_if_eq hG (tgt := 37) (dt dtX8_split_0 14 rfl) (by decide) h (fun h => ?_) (fun h => ?_)
    · exact g_f_X8_split_37 hG hE hT h
    · refine j_aload_n hG 0 (dt dtX8_split_0 15 rfl) rfl rfl ?_
      refine j_get hG cl_X8 22 0 (cv_22 _ _ _ _) (by decide) fl_X8_7 rfl rfl (dt dtX8_split_0 16 rfl) ?_
      refine j_iload_n hG 2 (dt dtX8_split_0 17 rfl) rfl rfl ?_
      refine j_iald hG 23 (cv_23 _ _ _ _) h (dt dtX8_split_0 18 rfl) (fun v32 h => ?_)
      refine j_iload_n hG 1 (dt dtX8_split_0 19 rfl) rfl rfl ?_
      refine j_icmp_eq hG (tgt := 41) (dt dtX8_split_0 20 rfl) (by decide) h (fun h => ?_) (fun h => ?_)
      · refine j_aload_n hG 0 (dt dtX8_split_0 23 rfl) rfl rfl ?_
        refine j_get hG cl_X8 22 15 (cv_22 _ _ _ _) (by decide) fl_X8_58 rfl rfl (dt dtX8_split_0 24 rfl) ?_
        refine j_bipush hG (v := 6) (dt dtX8_split_0 25 rfl) (by decide) ?_
        refine j_icmp_ne hG (tgt := 54) (dt dtX8_split_0 26 rfl) (by decide) h (fun h => ?_) (fun h => ?_)
        · refine j_iconst hG (v := 3) (dt dtX8_split_0 27 rfl) (by decide) ?_
          refine j_goto hG (tgt := 55) (dt dtX8_split_0 28 rfl) (by decide) ?_
          exact g_f_X8_split_55 hG hE hT h
        · refine j_iconst hG (v := 0) (dt dtX8_split_0 29 rfl) (by decide) ?_
          exact g_f_X8_split_55 hG hE hT h
      · exact g_f_X8_split_37 hG hE hT h
theorem ct_X8_split {l : Launch} (hl : l.stackTraces = false) (B : wB) (X Y : wM) (o : Int64) (dd : UInt64) (td : wX) {a1 : Int32} {a2 : Int32} {res : (Int32 × wM)} (h : f_X8_split Y a1 a2 = some res) : wMet l B yX8_split cX8_split 4 (some .int) 6 136 0 0 [.ref (wad B 22), .int (a1), .int (a2)] (X, Y, o, dd, td) (rp (some (.int (res.1))) (X, res.2, o, dd, td)) xp0 :=
  wMet.of hl (by decide +kernel) (Nat.le_of_ble_eq_true rfl) (fun G hB hL hG hE hT => by subst hB; exact g_f_X8_split hG hE hT h)
def f_X8_join_82 (k48 : wM → Int32 → Int32 → Int32 → Int32 → Option (Int32 × wM)) (Y : wM) (l1 : Int32) (l2 : Int32) (l3 : Int32) (l4 : Int32) : Option (Int32 × wM) :=
  wbd (l4 + 1) fun v82 =>
  k48 Y l1 l2 l3 v82
def f_X8_join_48b (k48 : wM → Int32 → Int32 → Int32 → Int32 → Option (Int32 × wM)) (Y : wM) (l1 : Int32) (l2 : Int32) (l3 : Int32) (l4 : Int32) : Option (Int32 × wM) :=
  (if l4 < (Y 22 16) then wget 20 (Y 23) l4 fun v63 =>
  (if v63 = l1 then wput Y 23 20 l4 l2 fun Y =>
  wbd (l3 + 1) fun v79 =>
  f_X8_join_82 k48 Y l1 l2 v79 l4
  else f_X8_join_82 k48 Y l1 l2 l3 l4)
  else (f_X8_looks Y).bind fun y89 =>
  some (l3, y89.2))
def f_X8_join_48 : Nat → wM → Int32 → Int32 → Int32 → Int32 → Option (Int32 × wM)
  | 0 => fun _ _ _ _ _ => none
  | n + 1 => fun Y l1 l2 l3 l4 => f_X8_join_48b (f_X8_join_48 n) Y l1 l2 l3 l4
def f_X8_join_31 (Y : wM) (l1 : Int32) (l2 : Int32) (s0 : Int32) : Option (Int32 × wM) :=
  wfld Y 22 14 s0 fun Y =>
  (if 0 < (Y 22 14) then some (0, Y)
  else f_X8_join_48 1000 Y l1 l2 (0 : Int32) (0 : Int32))
def f_X8_join_17 (Y : wM) (l1 : Int32) (l2 : Int32) : Option (Int32 × wM) :=
  f_X8_join_31 Y l1 l2 (1 : Int32)
def f_X8_join (Y : wM) (a1 : Int32) (a2 : Int32) : Option (Int32 × wM) :=
  (f_X8_isBlock Y a1).bind fun y3 =>
  (if y3 = 0 then f_X8_join_17 Y a1 a2
  else (f_X8_isBlock Y a2).bind fun y11 =>
  (if y11 = 0 then f_X8_join_17 Y a1 a2
  else (if a1 = a2 then f_X8_join_31 Y a1 a2 (2 : Int32)
  else f_X8_join_31 Y a1 a2 (0 : Int32))))
set_option maxRecDepth 4000 in
theorem g_f_X8_join_82 {G : wG} (hG : wOk G RX8 cX8_join 5 6 136) {X Y : wM} {o : Int64} {dd : UInt64} {td : wX} {res : (Int32 × wM)} (hE : wEnd G (some .int) (rp (some (.int (res.1))) (X, res.2, o, dd, td)) xp0) (hT : wNoTab G) {k48 : wM → Int32 → Int32 → Int32 → Int32 → Option (Int32 × wM)} (hk48 : ∀ (Y : wM) (l1 : Int32) (l2 : Int32) (l3 : Int32) (l4 : Int32), k48 Y l1 l2 l3 l4 = some res → J G 5 0 0 48 [(0, .ref (wad (gB G) 22)), (1, .int (l1)), (2, .int (l2)), (3, .int (l3)), (4, .int (l4))] [] (X, Y, o, dd, td)) {l1 : Int32} {l2 : Int32} {l3 : Int32} {l4 : Int32} (h : f_X8_join_82 k48 Y l1 l2 l3 l4 = some res) : J G 5 0 0 82 [(0, .ref (wad (gB G) 22)), (1, .int (l1)), (2, .int (l2)), (3, .int (l3)), (4, .int (l4))] [] (X, Y, o, dd, td) := by
  unfold f_X8_join_82 at h
  refine j_iincB hG 4 (fun v82 => [(4, .int (v82)), (0, .ref (wad (gB G) 22)), (1, .int (l1)), (2, .int (l2)), (3, .int (l3))]) (dt dtX8_join_0 44 rfl) rfl rfl (by decide) (fun _ => rfl) h (fun v82 h => ?_)
  refine j_goto hG (tgt := 48) (dt dtX8_join_0 45 rfl) (by decide) ?_
  refine j_lv (lv' := [(0, .ref (wad (gB G) 22)), (1, .int (l1)), (2, .int (l2)), (3, .int (l3)), (4, .int (v82))]) [1, 2, 3, 4, 0] rfl ?_
  exact hk48 Y l1 l2 l3 v82 h
set_option maxRecDepth 4000 in
theorem g_f_X8_join_48b {G : wG} (hG : wOk G RX8 cX8_join 5 6 136) {X Y : wM} {o : Int64} {dd : UInt64} {td : wX} {res : (Int32 × wM)} (hE : wEnd G (some .int) (rp (some (.int (res.1))) (X, res.2, o, dd, td)) xp0) (hT : wNoTab G) {k48 : wM → Int32 → Int32 → Int32 → Int32 → Option (Int32 × wM)} (hk48 : ∀ (Y : wM) (l1 : Int32) (l2 : Int32) (l3 : Int32) (l4 : Int32), k48 Y l1 l2 l3 l4 = some res → J G 5 0 0 48 [(0, .ref (wad (gB G) 22)), (1, .int (l1)), (2, .int (l2)), (3, .int (l3)), (4, .int (l4))] [] (X, Y, o, dd, td)) {l1 : Int32} {l2 : Int32} {l3 : Int32} {l4 : Int32} (h : f_X8_join_48b k48 Y l1 l2 l3 l4 = some res) : J G 5 0 0 48 [(0, .ref (wad (gB G) 22)), (1, .int (l1)), (2, .int (l2)), (3, .int (l3)), (4, .int (l4))] [] (X, Y, o, dd, td) := by
  unfold f_X8_join_48b at h
  refine j_iload hG 4 (dt dtX8_join_0 27 rfl) rfl ?_
  refine j_aload_n hG 0 (dt dtX8_join_0 28 rfl) rfl rfl ?_
  refine j_get hG cl_X8 22 16 (cv_22 _ _ _ _) (by decide) fl_X8_61 rfl rfl (dt dtX8_join_0 29 rfl) ?_
  refine j_icmp_ge hG (tgt := 88) (dt dtX8_join_0 30 rfl) (by decide) h (fun h => ?_) (fun h => ?_)
  · refine j_aload_n hG 0 (dt dtX8_join_0 31 rfl) rfl rfl ?_
    refine j_get hG cl_X8 22 0 (cv_22 _ _ _ _) (by decide) fl_X8_7 rfl rfl (dt dtX8_join_0 32 rfl) ?_
    refine j_iload hG 4 (dt dtX8_join_0 33 rfl) rfl ?_
    refine j_iald hG 23 (cv_23 _ _ _ _) h (dt dtX8_join_0 34 rfl) (fun v63 h => ?_)
    refine j_iload_n hG 1 (dt dtX8_join_0 35 rfl) rfl rfl ?_
    refine j_icmp_eq hG (tgt := 71) (dt dtX8_join_0 36 rfl) (by decide) h (fun h => ?_) (fun h => ?_)
    · refine j_aload_n hG 0 (dt dtX8_join_0 38 rfl) rfl rfl ?_
      refine j_get hG cl_X8 22 0 (cv_22 _ _ _ _) (by decide) fl_X8_7 rfl rfl (dt dtX8_join_0 39 rfl) ?_
      refine j_iload hG 4 (dt dtX8_join_0 40 rfl) rfl ?_
      refine j_iload_n hG 2 (dt dtX8_join_0 41 rfl) rfl rfl ?_
      refine j_iast hG 23 (X := Y) (k := 23) (fun Y => (X, Y, o, dd, td)) (cv_23 _ _ _ _) (fun g => cs_23 _ _ _ _ g) h (dt dtX8_join_0 42 rfl) (fun Y h => ?_)
      refine j_iincB hG 3 (fun v79 => [(3, .int (v79)), (0, .ref (wad (gB G) 22)), (1, .int (l1)), (2, .int (l2)), (4, .int (l4))]) (dt dtX8_join_0 43 rfl) rfl rfl (by decide) (fun _ => rfl) h (fun v79 h => ?_)
      refine j_lv (lv' := [(0, .ref (wad (gB G) 22)), (1, .int (l1)), (2, .int (l2)), (3, .int (v79)), (4, .int (l4))]) [1, 2, 3, 0, 4] rfl ?_
      exact g_f_X8_join_82 hG hE hT hk48 h
    · refine j_goto hG (tgt := 82) (dt dtX8_join_0 37 rfl) (by decide) ?_
      exact g_f_X8_join_82 hG hE hT hk48 h
  · refine j_aload_n hG 0 (dt dtX8_join_0 46 rfl) rfl rfl ?_
    refine j_callVp hG h (V := fun y89 => (some (.int (y89.1)))) (S := fun y89 => (X, y89.2, o, dd, td)) (kc := 0) (ks := 0) (fun z hz => ct_X8_looks hG.2.2.1 (gB G) _ _ _ _ _ hz) mf_X8_looks ml_X8_124 22 (cv_22 _ _ _ _) rfl rfl (rest := []) rfl (Nat.le_of_ble_eq_true rfl) (dt dtX8_join_0 47 rfl) (by decide) (by decide) (fun y89 h => ?_)
    refine j_istore hG (lv' := [(4, .int (y89.1)), (0, .ref (wad (gB G) 22)), (1, .int (l1)), (2, .int (l2)), (3, .int (l3))]) (dt dtX8_join_0 48 rfl) (by decide) rfl ?_
    refine j_iload_n hG 4 (dt dtX8_join_0 49 rfl) rfl rfl ?_
    obtain rfl := Option.some.inj h
    exact j_iret hG hE ⟨rfl, rfl⟩ (dt dtX8_join_0 50 rfl)
set_option maxRecDepth 4000 in
theorem g_f_X8_join_48 {G : wG} (hG : wOk G RX8 cX8_join 5 6 136) {X : wM} {o : Int64} {dd : UInt64} {td : wX} {res : (Int32 × wM)} (hE : wEnd G (some .int) (rp (some (.int (res.1))) (X, res.2, o, dd, td)) xp0) (hT : wNoTab G) (n : Nat) : ∀ (Y : wM) (l1 : Int32) (l2 : Int32) (l3 : Int32) (l4 : Int32), f_X8_join_48 n Y l1 l2 l3 l4 = some res → J G 5 0 0 48 [(0, .ref (wad (gB G) 22)), (1, .int (l1)), (2, .int (l2)), (3, .int (l3)), (4, .int (l4))] [] (X, Y, o, dd, td) := by
  induction n with
  | zero => intro Y l1 l2 l3 l4 h; cases h
  | succ n ih =>
    intro Y l1 l2 l3 l4 h
    exact g_f_X8_join_48b hG hE hT ih h
set_option maxRecDepth 4000 in
theorem g_f_X8_join_31 {G : wG} (hG : wOk G RX8 cX8_join 5 6 136) {X Y : wM} {o : Int64} {dd : UInt64} {td : wX} {res : (Int32 × wM)} (hE : wEnd G (some .int) (rp (some (.int (res.1))) (X, res.2, o, dd, td)) xp0) (hT : wNoTab G) {l1 : Int32} {l2 : Int32} {s0 : Int32} (h : f_X8_join_31 Y l1 l2 s0 = some res) : J G 5 0 0 31 [(0, .ref (wad (gB G) 22)), (1, .int (l1)), (2, .int (l2))] [.int (s0), .ref (wad (gB G) 22)] (X, Y, o, dd, td) := by
  unfold f_X8_join_31 at h
  refine j_put hG cl_X8 22 14 (X := Y) (k := 22) (fun Y => (X, Y, o, dd, td)) (cv_22 _ _ _ _) (by decide) fl_X8_54 rfl rfl rfl rfl rfl (Nat.le_of_ble_eq_true rfl) (cs_22 _ _ _ _ (upd (Y 22) 14 s0)) h (dt dtX8_join_0 17 rfl) (fun Y h => ?_)
  refine j_aload_n hG 0 (dt dtX8_join_0 18 rfl) rfl rfl ?_
  refine j_get hG cl_X8 22 14 (cv_22 _ _ _ _) (by decide) fl_X8_54 rfl rfl (dt dtX8_join_0 19 rfl) ?_
  refine j_if_le hG (tgt := 43) (dt dtX8_join_0 20 rfl) (by decide) h (fun h => ?_) (fun h => ?_)
  · refine j_iconst hG (v := 0) (dt dtX8_join_0 21 rfl) (by decide) ?_
    obtain rfl := Option.some.inj h
    exact j_iret hG hE ⟨rfl, rfl⟩ (dt dtX8_join_0 22 rfl)
  · refine j_iconst hG (v := 0) (dt dtX8_join_0 23 rfl) (by decide) ?_
    refine j_istore_n hG (lv' := [(3, .int (0)), (0, .ref (wad (gB G) 22)), (1, .int (l1)), (2, .int (l2))]) (dt dtX8_join_0 24 rfl) rfl (by decide) rfl ?_
    refine j_iconst hG (v := 0) (dt dtX8_join_0 25 rfl) (by decide) ?_
    refine j_istore hG (lv' := [(4, .int (0)), (3, .int (0)), (0, .ref (wad (gB G) 22)), (1, .int (l1)), (2, .int (l2))]) (dt dtX8_join_0 26 rfl) (by decide) rfl ?_
    refine j_lv (lv' := [(0, .ref (wad (gB G) 22)), (1, .int (l1)), (2, .int (l2)), (3, .int (0)), (4, .int (0))]) [2, 3, 4, 1, 0] rfl ?_
    exact g_f_X8_join_48 hG hE hT 1000 Y l1 l2 (0 : Int32) (0 : Int32) h
set_option maxRecDepth 4000 in
theorem g_f_X8_join_17 {G : wG} (hG : wOk G RX8 cX8_join 5 6 136) {X Y : wM} {o : Int64} {dd : UInt64} {td : wX} {res : (Int32 × wM)} (hE : wEnd G (some .int) (rp (some (.int (res.1))) (X, res.2, o, dd, td)) xp0) (hT : wNoTab G) {l1 : Int32} {l2 : Int32} (h : f_X8_join_17 Y l1 l2 = some res) : J G 5 0 0 17 [(0, .ref (wad (gB G) 22)), (1, .int (l1)), (2, .int (l2))] [.ref (wad (gB G) 22)] (X, Y, o, dd, td) := by
  unfold f_X8_join_17 at h
  refine j_iconst hG (v := 1) (dt dtX8_join_0 9 rfl) (by decide) ?_
  refine j_goto hG (tgt := 31) (dt dtX8_join_0 10 rfl) (by decide) ?_
  exact g_f_X8_join_31 hG hE hT h
set_option maxRecDepth 4000 in
theorem g_f_X8_join {G : wG} (hG : wOk G RX8 cX8_join 5 6 136) {X Y : wM} {o : Int64} {dd : UInt64} {td : wX} {res : (Int32 × wM)} (hE : wEnd G (some .int) (rp (some (.int (res.1))) (X, res.2, o, dd, td)) xp0) (hT : wNoTab G) {a1 : Int32} {a2 : Int32} (h : f_X8_join Y a1 a2 = some res) : J G 5 0 0 0 [(0, .ref (wad (gB G) 22)), (1, .int (a1)), (2, .int (a2))] [] (X, Y, o, dd, td) := by
  unfold f_X8_join at h
  refine j_aload_n hG 0 (dt dtX8_join_0 0 rfl) rfl rfl ?_
  refine j_aload_n hG 0 (dt dtX8_join_0 1 rfl) rfl rfl ?_
  refine j_iload_n hG 1 (dt dtX8_join_0 2 rfl) rfl rfl ?_
  refine j_callVp hG h (V := fun y3 => (some (.int (y3)))) (S := fun y3 => (X, Y, o, dd, td)) (kc := 0) (ks := 0) (fun z hz => ct_X8_isBlock hG.2.2.1 (gB G) _ _ _ _ _ hz) mf_X8_isBlock ml_X8_128 22 (cv_22 _ _ _ _) rfl rfl (rest := [.ref (wad (gB G) 22)]) rfl (Nat.le_of_ble_eq_true rfl) (dt dtX8_join_0 3 rfl) (by decide) (by decide) (fun y3 h => ?_)
  refine j_if_eq hG (tgt := 17) (dt dtX8_join_0 4 rfl) (by decide) h (fun h => ?_) (fun h => ?_)
  · exact g_f_X8_join_17 hG hE hT h
  · refine j_aload_n hG 0 (dt dtX8_join_0 5 rfl) rfl rfl ?_
    refine j_iload_n hG 2 (dt dtX8_join_0 6 rfl) rfl rfl ?_
    refine j_callVp hG h (V := fun y11 => (some (.int (y11)))) (S := fun y11 => (X, Y, o, dd, td)) (kc := 0) (ks := 0) (fun z hz => ct_X8_isBlock hG.2.2.1 (gB G) _ _ _ _ _ hz) mf_X8_isBlock ml_X8_128 22 (cv_22 _ _ _ _) rfl rfl (rest := [.ref (wad (gB G) 22)]) rfl (Nat.le_of_ble_eq_true rfl) (dt dtX8_join_0 7 rfl) (by decide) (by decide) (fun y11 h => ?_)
    refine j_if_ne hG (tgt := 21) (dt dtX8_join_0 8 rfl) (by decide) h (fun h => ?_) (fun h => ?_)
    · exact g_f_X8_join_17 hG hE hT h
    · refine j_iload_n hG 1 (dt dtX8_join_0 11 rfl) rfl rfl ?_
      refine j_iload_n hG 2 (dt dtX8_join_0 12 rfl) rfl rfl ?_
      refine j_icmp_ne hG (tgt := 30) (dt dtX8_join_0 13 rfl) (by decide) h (fun h => ?_) (fun h => ?_)
      · refine j_iconst hG (v := 2) (dt dtX8_join_0 14 rfl) (by decide) ?_
        refine j_goto hG (tgt := 31) (dt dtX8_join_0 15 rfl) (by decide) ?_
        exact g_f_X8_join_31 hG hE hT h
      · refine j_iconst hG (v := 0) (dt dtX8_join_0 16 rfl) (by decide) ?_
        exact g_f_X8_join_31 hG hE hT h
theorem ct_X8_join {l : Launch} (hl : l.stackTraces = false) (B : wB) (X Y : wM) (o : Int64) (dd : UInt64) (td : wX) {a1 : Int32} {a2 : Int32} {res : (Int32 × wM)} (h : f_X8_join Y a1 a2 = some res) : wMet l B yX8_join cX8_join 5 (some .int) 6 136 0 0 [.ref (wad B 22), .int (a1), .int (a2)] (X, Y, o, dd, td) (rp (some (.int (res.1))) (X, res.2, o, dd, td)) xp0 :=
  wMet.of hl (by decide +kernel) (Nat.le_of_ble_eq_true rfl) (fun G hB hL hG hE hT => by subst hB; exact g_f_X8_join hG hE hT h)
def f_X8_addRecord_71 (Y : wM) (l1 : Int32) (l2 : Int32) (l3 : Int32) (l4 : Int32) (s0 : Int32) : Option (Int32 × wM) :=
  wfld Y 22 14 s0 fun Y =>
  (if 0 < (Y 22 14) then some (0, Y)
  else wput Y 29 40 (Y 22 17) (vp_nar .char l1) fun Y =>
  wput Y 24 40 (Y 22 17) l2 fun Y =>
  wput Y 25 40 (Y 22 17) l3 fun Y =>
  wput Y 26 40 (Y 22 17) l4 fun Y =>
  wfld Y 22 17 ((Y 22 17) + 1) fun Y =>
  (f_X8_looks Y).bind fun y135 =>
  some (((y135.2 22 17) - 1), y135.2))
def f_X8_addRecord_35 (Y : wM) (l1 : Int32) (l2 : Int32) (l3 : Int32) (l4 : Int32) : Option (Int32 × wM) :=
  f_X8_addRecord_71 Y l1 l2 l3 l4 (1 : Int32)
def f_X8_addRecord_13 (Y : wM) (l1 : Int32) (l2 : Int32) (l3 : Int32) (l4 : Int32) : Option (Int32 × wM) :=
  (f_X8_in l3 (0 : Int32) (999 : Int32)).bind fun y18 =>
  (if y18 = 0 then f_X8_addRecord_35 Y l1 l2 l3 l4
  else (f_X8_in l4 (0 : Int32) (120 : Int32)).bind fun y29 =>
  (if y29 = 0 then f_X8_addRecord_35 Y l1 l2 l3 l4
  else (f_X8_in l2 (0 : Int32) ((Y 22 16) - 1)).bind fun y47 =>
  (if y47 = 0 then f_X8_addRecord_71 Y l1 l2 l3 l4 (2 : Int32)
  else (if (Y 22 17) = 40 then f_X8_addRecord_71 Y l1 l2 l3 l4 (3 : Int32)
  else f_X8_addRecord_71 Y l1 l2 l3 l4 (0 : Int32)))))
def f_X8_addRecord (Y : wM) (a1 : Int32) (a2 : Int32) (a3 : Int32) (a4 : Int32) : Option (Int32 × wM) :=
  (if a1 = 99 then f_X8_addRecord_13 Y a1 a2 a3 a4
  else (if a1 = 107 then f_X8_addRecord_13 Y a1 a2 a3 a4
  else f_X8_addRecord_35 Y a1 a2 a3 a4))
set_option maxRecDepth 4000 in
theorem g_f_X8_addRecord_71 {G : wG} (hG : wOk G RX8 cX8_addRecord 6 6 136) {X Y : wM} {o : Int64} {dd : UInt64} {td : wX} {res : (Int32 × wM)} (hE : wEnd G (some .int) (rp (some (.int (res.1))) (X, res.2, o, dd, td)) xp0) (hT : wNoTab G) {l1 : Int32} {l2 : Int32} {l3 : Int32} {l4 : Int32} {s0 : Int32} (h : f_X8_addRecord_71 Y l1 l2 l3 l4 s0 = some res) : J G 6 0 0 71 [(0, .ref (wad (gB G) 22)), (1, .int (l1)), (2, .int (l2)), (3, .int (l3)), (4, .int (l4))] [.int (s0), .ref (wad (gB G) 22)] (X, Y, o, dd, td) := by
  unfold f_X8_addRecord_71 at h
  refine j_put hG cl_X8 22 14 (X := Y) (k := 22) (fun Y => (X, Y, o, dd, td)) (cv_22 _ _ _ _) (by decide) fl_X8_54 rfl rfl rfl rfl rfl (Nat.le_of_ble_eq_true rfl) (cs_22 _ _ _ _ (upd (Y 22) 14 s0)) h (dt dtX8_addRecord_0 36 rfl) (fun Y h => ?_)
  refine j_aload_n hG 0 (dt dtX8_addRecord_0 37 rfl) rfl rfl ?_
  refine j_get hG cl_X8 22 14 (cv_22 _ _ _ _) (by decide) fl_X8_54 rfl rfl (dt dtX8_addRecord_0 38 rfl) ?_
  refine j_if_le hG (tgt := 83) (dt dtX8_addRecord_0 39 rfl) (by decide) h (fun h => ?_) (fun h => ?_)
  · refine j_iconst hG (v := 0) (dt dtX8_addRecord_0 40 rfl) (by decide) ?_
    obtain rfl := Option.some.inj h
    exact j_iret hG hE ⟨rfl, rfl⟩ (dt dtX8_addRecord_0 41 rfl)
  · refine j_aload_n hG 0 (dt dtX8_addRecord_0 42 rfl) rfl rfl ?_
    refine j_get hG cl_X8 22 6 (cv_22 _ _ _ _) (by decide) fl_X8_28 rfl rfl (dt dtX8_addRecord_0 43 rfl) ?_
    refine j_aload_n hG 0 (dt dtX8_addRecord_0 44 rfl) rfl rfl ?_
    refine j_get hG cl_X8 22 17 (cv_22 _ _ _ _) (by decide) fl_X8_64 rfl rfl (dt dtX8_addRecord_0 45 rfl) ?_
    refine j_iload_n hG 1 (dt dtX8_addRecord_0 46 rfl) rfl rfl ?_
    refine j_cast hG 29 (X := Y) (k := 29) (fun Y => (X, Y, o, dd, td)) (cv_29 _ _ _ _) (fun g => cs_29 _ _ _ _ g) h (dt dtX8_addRecord_0 47 rfl) (fun Y h => ?_)
    refine j_aload_n hG 0 (dt dtX8_addRecord_0 48 rfl) rfl rfl ?_
    refine j_get hG cl_X8 22 1 (cv_22 _ _ _ _) (by decide) fl_X8_13 rfl rfl (dt dtX8_addRecord_0 49 rfl) ?_
    refine j_aload_n hG 0 (dt dtX8_addRecord_0 50 rfl) rfl rfl ?_
    refine j_get hG cl_X8 22 17 (cv_22 _ _ _ _) (by decide) fl_X8_64 rfl rfl (dt dtX8_addRecord_0 51 rfl) ?_
    refine j_iload_n hG 2 (dt dtX8_addRecord_0 52 rfl) rfl rfl ?_
    refine j_iast hG 24 (X := Y) (k := 24) (fun Y => (X, Y, o, dd, td)) (cv_24 _ _ _ _) (fun g => cs_24 _ _ _ _ g) h (dt dtX8_addRecord_0 53 rfl) (fun Y h => ?_)
    refine j_aload_n hG 0 (dt dtX8_addRecord_0 54 rfl) rfl rfl ?_
    refine j_get hG cl_X8 22 2 (cv_22 _ _ _ _) (by decide) fl_X8_16 rfl rfl (dt dtX8_addRecord_0 55 rfl) ?_
    refine j_aload_n hG 0 (dt dtX8_addRecord_0 56 rfl) rfl rfl ?_
    refine j_get hG cl_X8 22 17 (cv_22 _ _ _ _) (by decide) fl_X8_64 rfl rfl (dt dtX8_addRecord_0 57 rfl) ?_
    refine j_iload_n hG 3 (dt dtX8_addRecord_0 58 rfl) rfl rfl ?_
    refine j_iast hG 25 (X := Y) (k := 25) (fun Y => (X, Y, o, dd, td)) (cv_25 _ _ _ _) (fun g => cs_25 _ _ _ _ g) h (dt dtX8_addRecord_0 59 rfl) (fun Y h => ?_)
    refine j_aload_n hG 0 (dt dtX8_addRecord_1 0 rfl) rfl rfl ?_
    refine j_get hG cl_X8 22 3 (cv_22 _ _ _ _) (by decide) fl_X8_19 rfl rfl (dt dtX8_addRecord_1 1 rfl) ?_
    refine j_aload_n hG 0 (dt dtX8_addRecord_1 2 rfl) rfl rfl ?_
    refine j_get hG cl_X8 22 17 (cv_22 _ _ _ _) (by decide) fl_X8_64 rfl rfl (dt dtX8_addRecord_1 3 rfl) ?_
    refine j_iload hG 4 (dt dtX8_addRecord_1 4 rfl) rfl ?_
    refine j_iast hG 26 (X := Y) (k := 26) (fun Y => (X, Y, o, dd, td)) (cv_26 _ _ _ _) (fun g => cs_26 _ _ _ _ g) h (dt dtX8_addRecord_1 5 rfl) (fun Y h => ?_)
    refine j_aload_n hG 0 (dt dtX8_addRecord_1 6 rfl) rfl rfl ?_
    refine j_dup hG (dt dtX8_addRecord_1 7 rfl) rfl ?_
    refine j_get hG cl_X8 22 17 (cv_22 _ _ _ _) (by decide) fl_X8_64 rfl rfl (dt dtX8_addRecord_1 8 rfl) ?_
    refine j_iconst hG (v := 1) (dt dtX8_addRecord_1 9 rfl) (by decide) ?_
    refine j_iadd hG (dt dtX8_addRecord_1 10 rfl) ?_
    refine j_put hG cl_X8 22 17 (X := Y) (k := 22) (fun Y => (X, Y, o, dd, td)) (cv_22 _ _ _ _) (by decide) fl_X8_64 rfl rfl rfl rfl rfl (Nat.le_of_ble_eq_true rfl) (cs_22 _ _ _ _ (upd (Y 22) 17 ((Y 22 17) + 1))) h (dt dtX8_addRecord_1 11 rfl) (fun Y h => ?_)
    refine j_aload_n hG 0 (dt dtX8_addRecord_1 12 rfl) rfl rfl ?_
    refine j_callVp hG h (V := fun y135 => (some (.int (y135.1)))) (S := fun y135 => (X, y135.2, o, dd, td)) (kc := 0) (ks := 0) (fun z hz => ct_X8_looks hG.2.2.1 (gB G) _ _ _ _ _ hz) mf_X8_looks ml_X8_124 22 (cv_22 _ _ _ _) rfl rfl (rest := []) rfl (Nat.le_of_ble_eq_true rfl) (dt dtX8_addRecord_1 13 rfl) (by decide) (by decide) (fun y135 h => ?_)
    refine j_istore hG (lv' := [(5, .int (y135.1)), (0, .ref (wad (gB G) 22)), (1, .int (l1)), (2, .int (l2)), (3, .int (l3)), (4, .int (l4))]) (dt dtX8_addRecord_1 14 rfl) (by decide) rfl ?_
    refine j_aload_n hG 1 (dt dtX8_addRecord_1 15 rfl) rfl rfl ?_
    refine j_get hG cl_X8 22 17 (cv_22 _ _ _ _) (by decide) fl_X8_64 rfl rfl (dt dtX8_addRecord_1 16 rfl) ?_
    refine j_iconst hG (v := 1) (dt dtX8_addRecord_1 17 rfl) (by decide) ?_
    refine j_isub hG (dt dtX8_addRecord_1 18 rfl) ?_
    obtain rfl := Option.some.inj h
    exact j_iret hG hE ⟨rfl, rfl⟩ (dt dtX8_addRecord_1 19 rfl)
set_option maxRecDepth 4000 in
theorem g_f_X8_addRecord_35 {G : wG} (hG : wOk G RX8 cX8_addRecord 6 6 136) {X Y : wM} {o : Int64} {dd : UInt64} {td : wX} {res : (Int32 × wM)} (hE : wEnd G (some .int) (rp (some (.int (res.1))) (X, res.2, o, dd, td)) xp0) (hT : wNoTab G) {l1 : Int32} {l2 : Int32} {l3 : Int32} {l4 : Int32} (h : f_X8_addRecord_35 Y l1 l2 l3 l4 = some res) : J G 6 0 0 35 [(0, .ref (wad (gB G) 22)), (1, .int (l1)), (2, .int (l2)), (3, .int (l3)), (4, .int (l4))] [.ref (wad (gB G) 22)] (X, Y, o, dd, td) := by
  unfold f_X8_addRecord_35 at h
  refine j_iconst hG (v := 1) (dt dtX8_addRecord_0 17 rfl) (by decide) ?_
  refine j_goto hG (tgt := 71) (dt dtX8_addRecord_0 18 rfl) (by decide) ?_
  exact g_f_X8_addRecord_71 hG hE hT h
set_option maxRecDepth 4000 in
theorem g_f_X8_addRecord_13 {G : wG} (hG : wOk G RX8 cX8_addRecord 6 6 136) {X Y : wM} {o : Int64} {dd : UInt64} {td : wX} {res : (Int32 × wM)} (hE : wEnd G (some .int) (rp (some (.int (res.1))) (X, res.2, o, dd, td)) xp0) (hT : wNoTab G) {l1 : Int32} {l2 : Int32} {l3 : Int32} {l4 : Int32} (h : f_X8_addRecord_13 Y l1 l2 l3 l4 = some res) : J G 6 0 0 13 [(0, .ref (wad (gB G) 22)), (1, .int (l1)), (2, .int (l2)), (3, .int (l3)), (4, .int (l4))] [.ref (wad (gB G) 22)] (X, Y, o, dd, td) := by
  unfold f_X8_addRecord_13 at h
  refine j_iload_n hG 3 (dt dtX8_addRecord_0 7 rfl) rfl rfl ?_
  refine j_iconst hG (v := 0) (dt dtX8_addRecord_0 8 rfl) (by decide) ?_
  refine j_sipush hG (v := 999) (dt dtX8_addRecord_0 9 rfl) (by decide) ?_
  refine j_callSp hG h (V := fun y18 => (some (.int (y18)))) (S := fun y18 => (X, Y, o, dd, td)) (kc := 0) (ks := 0) (fun z hz => ct_X8_in hG.2.2.1 (gB G) _ _ _ _ _ hz) mf_X8_in ml_X8_91 rfl (rest := [.ref (wad (gB G) 22)]) rfl (Nat.le_of_ble_eq_true rfl) (dt dtX8_addRecord_0 10 rfl) (by decide) (by decide) (fun y18 h => ?_)
  refine j_if_eq hG (tgt := 35) (dt dtX8_addRecord_0 11 rfl) (by decide) h (fun h => ?_) (fun h => ?_)
  · exact g_f_X8_addRecord_35 hG hE hT h
  · refine j_iload hG 4 (dt dtX8_addRecord_0 12 rfl) rfl ?_
    refine j_iconst hG (v := 0) (dt dtX8_addRecord_0 13 rfl) (by decide) ?_
    refine j_bipush hG (v := 120) (dt dtX8_addRecord_0 14 rfl) (by decide) ?_
    refine j_callSp hG h (V := fun y29 => (some (.int (y29)))) (S := fun y29 => (X, Y, o, dd, td)) (kc := 0) (ks := 0) (fun z hz => ct_X8_in hG.2.2.1 (gB G) _ _ _ _ _ hz) mf_X8_in ml_X8_91 rfl (rest := [.ref (wad (gB G) 22)]) rfl (Nat.le_of_ble_eq_true rfl) (dt dtX8_addRecord_0 15 rfl) (by decide) (by decide) (fun y29 h => ?_)
    refine j_if_ne hG (tgt := 39) (dt dtX8_addRecord_0 16 rfl) (by decide) h (fun h => ?_) (fun h => ?_)
    · exact g_f_X8_addRecord_35 hG hE hT h
    · refine j_iload_n hG 2 (dt dtX8_addRecord_0 19 rfl) rfl rfl ?_
      refine j_iconst hG (v := 0) (dt dtX8_addRecord_0 20 rfl) (by decide) ?_
      refine j_aload_n hG 0 (dt dtX8_addRecord_0 21 rfl) rfl rfl ?_
      refine j_get hG cl_X8 22 16 (cv_22 _ _ _ _) (by decide) fl_X8_61 rfl rfl (dt dtX8_addRecord_0 22 rfl) ?_
      refine j_iconst hG (v := 1) (dt dtX8_addRecord_0 23 rfl) (by decide) ?_
      refine j_isub hG (dt dtX8_addRecord_0 24 rfl) ?_
      refine j_callSp hG h (V := fun y47 => (some (.int (y47)))) (S := fun y47 => (X, Y, o, dd, td)) (kc := 0) (ks := 0) (fun z hz => ct_X8_in hG.2.2.1 (gB G) _ _ _ _ _ hz) mf_X8_in ml_X8_91 rfl (rest := [.ref (wad (gB G) 22)]) rfl (Nat.le_of_ble_eq_true rfl) (dt dtX8_addRecord_0 25 rfl) (by decide) (by decide) (fun y47 h => ?_)
      refine j_if_ne hG (tgt := 57) (dt dtX8_addRecord_0 26 rfl) (by decide) h (fun h => ?_) (fun h => ?_)
      · refine j_iconst hG (v := 2) (dt dtX8_addRecord_0 27 rfl) (by decide) ?_
        refine j_goto hG (tgt := 71) (dt dtX8_addRecord_0 28 rfl) (by decide) ?_
        exact g_f_X8_addRecord_71 hG hE hT h
      · refine j_aload_n hG 0 (dt dtX8_addRecord_0 29 rfl) rfl rfl ?_
        refine j_get hG cl_X8 22 17 (cv_22 _ _ _ _) (by decide) fl_X8_64 rfl rfl (dt dtX8_addRecord_0 30 rfl) ?_
        refine j_bipush hG (v := 40) (dt dtX8_addRecord_0 31 rfl) (by decide) ?_
        refine j_icmp_ne hG (tgt := 70) (dt dtX8_addRecord_0 32 rfl) (by decide) h (fun h => ?_) (fun h => ?_)
        · refine j_iconst hG (v := 3) (dt dtX8_addRecord_0 33 rfl) (by decide) ?_
          refine j_goto hG (tgt := 71) (dt dtX8_addRecord_0 34 rfl) (by decide) ?_
          exact g_f_X8_addRecord_71 hG hE hT h
        · refine j_iconst hG (v := 0) (dt dtX8_addRecord_0 35 rfl) (by decide) ?_
          exact g_f_X8_addRecord_71 hG hE hT h
set_option maxRecDepth 4000 in
theorem g_f_X8_addRecord {G : wG} (hG : wOk G RX8 cX8_addRecord 6 6 136) {X Y : wM} {o : Int64} {dd : UInt64} {td : wX} {res : (Int32 × wM)} (hE : wEnd G (some .int) (rp (some (.int (res.1))) (X, res.2, o, dd, td)) xp0) (hT : wNoTab G) {a1 : Int32} {a2 : Int32} {a3 : Int32} {a4 : Int32} (h : f_X8_addRecord Y a1 a2 a3 a4 = some res) : J G 6 0 0 0 [(0, .ref (wad (gB G) 22)), (1, .int (a1)), (2, .int (a2)), (3, .int (a3)), (4, .int (a4))] [] (X, Y, o, dd, td) := by
  unfold f_X8_addRecord at h
  refine j_aload_n hG 0 (dt dtX8_addRecord_0 0 rfl) rfl rfl ?_
  refine j_iload_n hG 1 (dt dtX8_addRecord_0 1 rfl) rfl rfl ?_
  refine j_bipush hG (v := 99) (dt dtX8_addRecord_0 2 rfl) (by decide) ?_
  refine j_icmp_eq hG (tgt := 13) (dt dtX8_addRecord_0 3 rfl) (by decide) h (fun h => ?_) (fun h => ?_)
  · exact g_f_X8_addRecord_13 hG hE hT h
  · refine j_iload_n hG 1 (dt dtX8_addRecord_0 4 rfl) rfl rfl ?_
    refine j_bipush hG (v := 107) (dt dtX8_addRecord_0 5 rfl) (by decide) ?_
    refine j_icmp_ne hG (tgt := 35) (dt dtX8_addRecord_0 6 rfl) (by decide) h (fun h => ?_) (fun h => ?_)
    · exact g_f_X8_addRecord_13 hG hE hT h
    · exact g_f_X8_addRecord_35 hG hE hT h
theorem ct_X8_addRecord {l : Launch} (hl : l.stackTraces = false) (B : wB) (X Y : wM) (o : Int64) (dd : UInt64) (td : wX) {a1 : Int32} {a2 : Int32} {a3 : Int32} {a4 : Int32} {res : (Int32 × wM)} (h : f_X8_addRecord Y a1 a2 a3 a4 = some res) : wMet l B yX8_addRecord cX8_addRecord 6 (some .int) 6 136 0 0 [.ref (wad B 22), .int (a1), .int (a2), .int (a3), .int (a4)] (X, Y, o, dd, td) (rp (some (.int (res.1))) (X, res.2, o, dd, td)) xp0 :=
  wMet.of hl (by decide +kernel) (Nat.le_of_ble_eq_true rfl) (fun G hB hL hG hE hT => by subst hB; exact g_f_X8_addRecord hG hE hT h)
def f_X8_blockOf_28 (Y : wM) (s0 : Int32) : Option (Int32 × wM) :=
  some (s0, Y)
def f_X8_blockOf (Y : wM) (a1 : Int32) : Option (Int32 × wM) :=
  (f_X8_in a1 (0 : Int32) ((Y 22 16) - 1)).bind fun y9 =>
  (f_X8_checked Y y9).bind fun y12 =>
  (if 0 < y12.1 then f_X8_blockOf_28 y12.2 (0 : Int32)
  else wget 20 (y12.2 23) a1 fun v27 =>
  f_X8_blockOf_28 y12.2 v27)
set_option maxRecDepth 4000 in
theorem g_f_X8_blockOf_28 {G : wG} (hG : wOk G RX8 cX8_blockOf 2 1 22) {X Y : wM} {o : Int64} {dd : UInt64} {td : wX} {res : (Int32 × wM)} (hE : wEnd G (some .int) (rp (some (.int (res.1))) (X, res.2, o, dd, td)) xp0) (hT : wNoTab G) {s0 : Int32} (h : f_X8_blockOf_28 Y s0 = some res) : J G 2 0 0 28 [] [.int (s0)] (X, Y, o, dd, td) := by
  unfold f_X8_blockOf_28 at h
  obtain rfl := Option.some.inj h
  exact j_iret hG hE ⟨rfl, rfl⟩ (dt dtX8_blockOf_0 16 rfl)
set_option maxRecDepth 4000 in
theorem g_f_X8_blockOf {G : wG} (hG : wOk G RX8 cX8_blockOf 2 1 22) {X Y : wM} {o : Int64} {dd : UInt64} {td : wX} {res : (Int32 × wM)} (hE : wEnd G (some .int) (rp (some (.int (res.1))) (X, res.2, o, dd, td)) xp0) (hT : wNoTab G) {a1 : Int32} (h : f_X8_blockOf Y a1 = some res) : J G 2 0 0 0 [(0, .ref (wad (gB G) 22)), (1, .int (a1))] [] (X, Y, o, dd, td) := by
  unfold f_X8_blockOf at h
  refine j_aload_n hG 0 (dt dtX8_blockOf_0 0 rfl) rfl rfl ?_
  refine j_iload_n hG 1 (dt dtX8_blockOf_0 1 rfl) rfl rfl ?_
  refine j_iconst hG (v := 0) (dt dtX8_blockOf_0 2 rfl) (by decide) ?_
  refine j_aload_n hG 0 (dt dtX8_blockOf_0 3 rfl) rfl rfl ?_
  refine j_get hG cl_X8 22 16 (cv_22 _ _ _ _) (by decide) fl_X8_61 rfl rfl (dt dtX8_blockOf_0 4 rfl) ?_
  refine j_iconst hG (v := 1) (dt dtX8_blockOf_0 5 rfl) (by decide) ?_
  refine j_isub hG (dt dtX8_blockOf_0 6 rfl) ?_
  refine j_callSp hG h (V := fun y9 => (some (.int (y9)))) (S := fun y9 => (X, Y, o, dd, td)) (kc := 0) (ks := 0) (fun z hz => ct_X8_in hG.2.2.1 (gB G) _ _ _ _ _ hz) mf_X8_in ml_X8_91 rfl (rest := [.ref (wad (gB G) 22)]) rfl (Nat.le_of_ble_eq_true rfl) (dt dtX8_blockOf_0 7 rfl) (by decide) (by decide) (fun y9 h => ?_)
  refine j_callVp hG h (V := fun y12 => (some (.int (y12.1)))) (S := fun y12 => (X, y12.2, o, dd, td)) (kc := 0) (ks := 0) (fun z hz => ct_X8_checked hG.2.2.1 (gB G) _ _ _ _ _ hz) mf_X8_checked ml_X8_120 22 (cv_22 _ _ _ _) rfl rfl (rest := []) rfl (Nat.le_of_ble_eq_true rfl) (dt dtX8_blockOf_0 8 rfl) (by decide) (by decide) (fun y12 h => ?_)
  refine j_if_le hG (tgt := 22) (dt dtX8_blockOf_0 9 rfl) (by decide) h (fun h => ?_) (fun h => ?_)
  · refine j_iconst hG (v := 0) (dt dtX8_blockOf_0 10 rfl) (by decide) ?_
    refine j_goto hG (tgt := 28) (dt dtX8_blockOf_0 11 rfl) (by decide) ?_
    refine j_lv (lv' := []) [] rfl ?_
    exact g_f_X8_blockOf_28 hG hE hT h
  · refine j_aload_n hG 0 (dt dtX8_blockOf_0 12 rfl) rfl rfl ?_
    refine j_get hG cl_X8 22 0 (cv_22 _ _ _ _) (by decide) fl_X8_7 rfl rfl (dt dtX8_blockOf_0 13 rfl) ?_
    refine j_iload_n hG 1 (dt dtX8_blockOf_0 14 rfl) rfl rfl ?_
    refine j_iald hG 23 (cv_23 _ _ _ _) h (dt dtX8_blockOf_0 15 rfl) (fun v27 h => ?_)
    refine j_lv (lv' := []) [] rfl ?_
    exact g_f_X8_blockOf_28 hG hE hT h
theorem ct_X8_blockOf {l : Launch} (hl : l.stackTraces = false) (B : wB) (X Y : wM) (o : Int64) (dd : UInt64) (td : wX) {a1 : Int32} {res : (Int32 × wM)} (h : f_X8_blockOf Y a1 = some res) : wMet l B yX8_blockOf cX8_blockOf 2 (some .int) 1 22 0 0 [.ref (wad B 22), .int (a1)] (X, Y, o, dd, td) (rp (some (.int (res.1))) (X, res.2, o, dd, td)) xp0 :=
  wMet.of hl (by decide +kernel) (Nat.le_of_ble_eq_true rfl) (fun G hB hL hG hE hT => by subst hB; exact g_f_X8_blockOf hG hE hT h)
def f_X8_setPoints_106 (Y : wM) (l3 : Int32) : Option (Int32 × wM) :=
  (f_X8_looks Y).bind fun y107 =>
  some (l3, y107.2)
def f_X8_setPoints_95 (Y : wM) (l1 : Int32) (l2 : Int32) (l3 : Int32) : Option (Int32 × wM) :=
  (if l1 = 112 then wfld Y 22 21 l2 fun Y =>
  f_X8_setPoints_106 Y l3
  else f_X8_setPoints_106 Y l3)
def f_X8_setPoints_84 (Y : wM) (l1 : Int32) (l2 : Int32) (l3 : Int32) : Option (Int32 × wM) :=
  (if l1 = 121 then wfld Y 22 20 l2 fun Y =>
  f_X8_setPoints_95 Y l1 l2 l3
  else f_X8_setPoints_95 Y l1 l2 l3)
def f_X8_setPoints_72 (Y : wM) (l1 : Int32) (l2 : Int32) (s0 : Int32) : Option (Int32 × wM) :=
  (if l1 = 110 then wfld Y 22 19 l2 fun Y =>
  f_X8_setPoints_84 Y l1 l2 s0
  else f_X8_setPoints_84 Y l1 l2 s0)
def f_X8_setPoints_34 (Y : wM) (l1 : Int32) (l2 : Int32) (s0 : Int32) : Option (Int32 × wM) :=
  (f_X8_checked Y s0).bind fun y34 =>
  (if 0 < y34.1 then some (0, y34.2)
  else (if l1 = 110 then f_X8_setPoints_72 y34.2 l1 l2 (y34.2 22 19)
  else (if l1 = 121 then f_X8_setPoints_72 y34.2 l1 l2 (y34.2 22 20)
  else f_X8_setPoints_72 y34.2 l1 l2 (y34.2 22 21))))
def f_X8_setPoints_33 (Y : wM) (l1 : Int32) (l2 : Int32) : Option (Int32 × wM) :=
  f_X8_setPoints_34 Y l1 l2 (0 : Int32)
def f_X8_setPoints_19 (Y : wM) (l1 : Int32) (l2 : Int32) : Option (Int32 × wM) :=
  (f_X8_in l2 (0 : Int32) (9 : Int32)).bind fun y23 =>
  (if y23 = 0 then f_X8_setPoints_33 Y l1 l2
  else f_X8_setPoints_34 Y l1 l2 (1 : Int32))
def f_X8_setPoints (Y : wM) (a1 : Int32) (a2 : Int32) : Option (Int32 × wM) :=
  (if a1 = 110 then f_X8_setPoints_19 Y a1 a2
  else (if a1 = 121 then f_X8_setPoints_19 Y a1 a2
  else (if a1 = 112 then f_X8_setPoints_19 Y a1 a2
  else f_X8_setPoints_33 Y a1 a2)))
set_option maxRecDepth 4000 in
theorem g_f_X8_setPoints_106 {G : wG} (hG : wOk G RX8 cX8_setPoints 5 6 136) {X Y : wM} {o : Int64} {dd : UInt64} {td : wX} {res : (Int32 × wM)} (hE : wEnd G (some .int) (rp (some (.int (res.1))) (X, res.2, o, dd, td)) xp0) (hT : wNoTab G) {l3 : Int32} (h : f_X8_setPoints_106 Y l3 = some res) : J G 5 0 0 106 [(0, .ref (wad (gB G) 22)), (3, .int (l3))] [] (X, Y, o, dd, td) := by
  unfold f_X8_setPoints_106 at h
  refine j_aload_n hG 0 (dt dtX8_setPoints_0 55 rfl) rfl rfl ?_
  refine j_callVp hG h (V := fun y107 => (some (.int (y107.1)))) (S := fun y107 => (X, y107.2, o, dd, td)) (kc := 0) (ks := 0) (fun z hz => ct_X8_looks hG.2.2.1 (gB G) _ _ _ _ _ hz) mf_X8_looks ml_X8_124 22 (cv_22 _ _ _ _) rfl rfl (rest := []) rfl (Nat.le_of_ble_eq_true rfl) (dt dtX8_setPoints_0 56 rfl) (by decide) (by decide) (fun y107 h => ?_)
  refine j_istore hG (lv' := [(4, .int (y107.1)), (0, .ref (wad (gB G) 22)), (3, .int (l3))]) (dt dtX8_setPoints_0 57 rfl) (by decide) rfl ?_
  refine j_iload_n hG 2 (dt dtX8_setPoints_0 58 rfl) rfl rfl ?_
  obtain rfl := Option.some.inj h
  exact j_iret hG hE ⟨rfl, rfl⟩ (dt dtX8_setPoints_0 59 rfl)
set_option maxRecDepth 4000 in
theorem g_f_X8_setPoints_95 {G : wG} (hG : wOk G RX8 cX8_setPoints 5 6 136) {X Y : wM} {o : Int64} {dd : UInt64} {td : wX} {res : (Int32 × wM)} (hE : wEnd G (some .int) (rp (some (.int (res.1))) (X, res.2, o, dd, td)) xp0) (hT : wNoTab G) {l1 : Int32} {l2 : Int32} {l3 : Int32} (h : f_X8_setPoints_95 Y l1 l2 l3 = some res) : J G 5 0 0 95 [(0, .ref (wad (gB G) 22)), (1, .int (l1)), (2, .int (l2)), (3, .int (l3))] [] (X, Y, o, dd, td) := by
  unfold f_X8_setPoints_95 at h
  refine j_iload_n hG 1 (dt dtX8_setPoints_0 49 rfl) rfl rfl ?_
  refine j_bipush hG (v := 112) (dt dtX8_setPoints_0 50 rfl) (by decide) ?_
  refine j_icmp_ne hG (tgt := 106) (dt dtX8_setPoints_0 51 rfl) (by decide) h (fun h => ?_) (fun h => ?_)
  · refine j_aload_n hG 0 (dt dtX8_setPoints_0 52 rfl) rfl rfl ?_
    refine j_iload_n hG 2 (dt dtX8_setPoints_0 53 rfl) rfl rfl ?_
    refine j_put hG cl_X8 22 21 (X := Y) (k := 22) (fun Y => (X, Y, o, dd, td)) (cv_22 _ _ _ _) (by decide) fl_X8_76 rfl rfl rfl rfl rfl (Nat.le_of_ble_eq_true rfl) (cs_22 _ _ _ _ (upd (Y 22) 21 l2)) h (dt dtX8_setPoints_0 54 rfl) (fun Y h => ?_)
    refine j_lv (lv' := [(0, .ref (wad (gB G) 22)), (3, .int (l3))]) [0, 3] rfl ?_
    exact g_f_X8_setPoints_106 hG hE hT h
  · refine j_lv (lv' := [(0, .ref (wad (gB G) 22)), (3, .int (l3))]) [0, 3] rfl ?_
    exact g_f_X8_setPoints_106 hG hE hT h
set_option maxRecDepth 4000 in
theorem g_f_X8_setPoints_84 {G : wG} (hG : wOk G RX8 cX8_setPoints 5 6 136) {X Y : wM} {o : Int64} {dd : UInt64} {td : wX} {res : (Int32 × wM)} (hE : wEnd G (some .int) (rp (some (.int (res.1))) (X, res.2, o, dd, td)) xp0) (hT : wNoTab G) {l1 : Int32} {l2 : Int32} {l3 : Int32} (h : f_X8_setPoints_84 Y l1 l2 l3 = some res) : J G 5 0 0 84 [(0, .ref (wad (gB G) 22)), (1, .int (l1)), (2, .int (l2)), (3, .int (l3))] [] (X, Y, o, dd, td) := by
  unfold f_X8_setPoints_84 at h
  refine j_iload_n hG 1 (dt dtX8_setPoints_0 43 rfl) rfl rfl ?_
  refine j_bipush hG (v := 121) (dt dtX8_setPoints_0 44 rfl) (by decide) ?_
  refine j_icmp_ne hG (tgt := 95) (dt dtX8_setPoints_0 45 rfl) (by decide) h (fun h => ?_) (fun h => ?_)
  · refine j_aload_n hG 0 (dt dtX8_setPoints_0 46 rfl) rfl rfl ?_
    refine j_iload_n hG 2 (dt dtX8_setPoints_0 47 rfl) rfl rfl ?_
    refine j_put hG cl_X8 22 20 (X := Y) (k := 22) (fun Y => (X, Y, o, dd, td)) (cv_22 _ _ _ _) (by decide) fl_X8_73 rfl rfl rfl rfl rfl (Nat.le_of_ble_eq_true rfl) (cs_22 _ _ _ _ (upd (Y 22) 20 l2)) h (dt dtX8_setPoints_0 48 rfl) (fun Y h => ?_)
    exact g_f_X8_setPoints_95 hG hE hT h
  · exact g_f_X8_setPoints_95 hG hE hT h
set_option maxRecDepth 4000 in
theorem g_f_X8_setPoints_72 {G : wG} (hG : wOk G RX8 cX8_setPoints 5 6 136) {X Y : wM} {o : Int64} {dd : UInt64} {td : wX} {res : (Int32 × wM)} (hE : wEnd G (some .int) (rp (some (.int (res.1))) (X, res.2, o, dd, td)) xp0) (hT : wNoTab G) {l1 : Int32} {l2 : Int32} {s0 : Int32} (h : f_X8_setPoints_72 Y l1 l2 s0 = some res) : J G 5 0 0 72 [(0, .ref (wad (gB G) 22)), (1, .int (l1)), (2, .int (l2))] [.int (s0)] (X, Y, o, dd, td) := by
  unfold f_X8_setPoints_72 at h
  refine j_istore_n hG (lv' := [(3, .int (s0)), (0, .ref (wad (gB G) 22)), (1, .int (l1)), (2, .int (l2))]) (dt dtX8_setPoints_0 36 rfl) rfl (by decide) rfl ?_
  refine j_iload_n hG 2 (dt dtX8_setPoints_0 37 rfl) rfl rfl ?_
  refine j_bipush hG (v := 110) (dt dtX8_setPoints_0 38 rfl) (by decide) ?_
  refine j_icmp_ne hG (tgt := 84) (dt dtX8_setPoints_0 39 rfl) (by decide) h (fun h => ?_) (fun h => ?_)
  · refine j_aload_n hG 1 (dt dtX8_setPoints_0 40 rfl) rfl rfl ?_
    refine j_iload_n hG 3 (dt dtX8_setPoints_0 41 rfl) rfl rfl ?_
    refine j_put hG cl_X8 22 19 (X := Y) (k := 22) (fun Y => (X, Y, o, dd, td)) (cv_22 _ _ _ _) (by decide) fl_X8_70 rfl rfl rfl rfl rfl (Nat.le_of_ble_eq_true rfl) (cs_22 _ _ _ _ (upd (Y 22) 19 l2)) h (dt dtX8_setPoints_0 42 rfl) (fun Y h => ?_)
    refine j_lv (lv' := [(0, .ref (wad (gB G) 22)), (1, .int (l1)), (2, .int (l2)), (3, .int (s0))]) [1, 2, 3, 0] rfl ?_
    exact g_f_X8_setPoints_84 hG hE hT h
  · refine j_lv (lv' := [(0, .ref (wad (gB G) 22)), (1, .int (l1)), (2, .int (l2)), (3, .int (s0))]) [1, 2, 3, 0] rfl ?_
    exact g_f_X8_setPoints_84 hG hE hT h
set_option maxRecDepth 4000 in
theorem g_f_X8_setPoints_34 {G : wG} (hG : wOk G RX8 cX8_setPoints 5 6 136) {X Y : wM} {o : Int64} {dd : UInt64} {td : wX} {res : (Int32 × wM)} (hE : wEnd G (some .int) (rp (some (.int (res.1))) (X, res.2, o, dd, td)) xp0) (hT : wNoTab G) {l1 : Int32} {l2 : Int32} {s0 : Int32} (h : f_X8_setPoints_34 Y l1 l2 s0 = some res) : J G 5 0 0 34 [(0, .ref (wad (gB G) 22)), (1, .int (l1)), (2, .int (l2))] [.int (s0), .ref (wad (gB G) 22)] (X, Y, o, dd, td) := by
  unfold f_X8_setPoints_34 at h
  refine j_callVp hG h (V := fun y34 => (some (.int (y34.1)))) (S := fun y34 => (X, y34.2, o, dd, td)) (kc := 0) (ks := 0) (fun z hz => ct_X8_checked hG.2.2.1 (gB G) _ _ _ _ _ hz) mf_X8_checked ml_X8_120 22 (cv_22 _ _ _ _) rfl rfl (rest := []) rfl (Nat.le_of_ble_eq_true rfl) (dt dtX8_setPoints_0 18 rfl) (by decide) (by decide) (fun y34 h => ?_)
  refine j_if_le hG (tgt := 42) (dt dtX8_setPoints_0 19 rfl) (by decide) h (fun h => ?_) (fun h => ?_)
  · refine j_iconst hG (v := 0) (dt dtX8_setPoints_0 20 rfl) (by decide) ?_
    obtain rfl := Option.some.inj h
    exact j_iret hG hE ⟨rfl, rfl⟩ (dt dtX8_setPoints_0 21 rfl)
  · refine j_iload_n hG 1 (dt dtX8_setPoints_0 22 rfl) rfl rfl ?_
    refine j_bipush hG (v := 110) (dt dtX8_setPoints_0 23 rfl) (by decide) ?_
    refine j_icmp_ne hG (tgt := 55) (dt dtX8_setPoints_0 24 rfl) (by decide) h (fun h => ?_) (fun h => ?_)
    · refine j_aload_n hG 0 (dt dtX8_setPoints_0 25 rfl) rfl rfl ?_
      refine j_get hG cl_X8 22 19 (cv_22 _ _ _ _) (by decide) fl_X8_70 rfl rfl (dt dtX8_setPoints_0 26 rfl) ?_
      refine j_goto hG (tgt := 72) (dt dtX8_setPoints_0 27 rfl) (by decide) ?_
      exact g_f_X8_setPoints_72 hG hE hT h
    · refine j_iload_n hG 1 (dt dtX8_setPoints_0 28 rfl) rfl rfl ?_
      refine j_bipush hG (v := 121) (dt dtX8_setPoints_0 29 rfl) (by decide) ?_
      refine j_icmp_ne hG (tgt := 68) (dt dtX8_setPoints_0 30 rfl) (by decide) h (fun h => ?_) (fun h => ?_)
      · refine j_aload_n hG 0 (dt dtX8_setPoints_0 31 rfl) rfl rfl ?_
        refine j_get hG cl_X8 22 20 (cv_22 _ _ _ _) (by decide) fl_X8_73 rfl rfl (dt dtX8_setPoints_0 32 rfl) ?_
        refine j_goto hG (tgt := 72) (dt dtX8_setPoints_0 33 rfl) (by decide) ?_
        exact g_f_X8_setPoints_72 hG hE hT h
      · refine j_aload_n hG 0 (dt dtX8_setPoints_0 34 rfl) rfl rfl ?_
        refine j_get hG cl_X8 22 21 (cv_22 _ _ _ _) (by decide) fl_X8_76 rfl rfl (dt dtX8_setPoints_0 35 rfl) ?_
        exact g_f_X8_setPoints_72 hG hE hT h
set_option maxRecDepth 4000 in
theorem g_f_X8_setPoints_33 {G : wG} (hG : wOk G RX8 cX8_setPoints 5 6 136) {X Y : wM} {o : Int64} {dd : UInt64} {td : wX} {res : (Int32 × wM)} (hE : wEnd G (some .int) (rp (some (.int (res.1))) (X, res.2, o, dd, td)) xp0) (hT : wNoTab G) {l1 : Int32} {l2 : Int32} (h : f_X8_setPoints_33 Y l1 l2 = some res) : J G 5 0 0 33 [(0, .ref (wad (gB G) 22)), (1, .int (l1)), (2, .int (l2))] [.ref (wad (gB G) 22)] (X, Y, o, dd, td) := by
  unfold f_X8_setPoints_33 at h
  refine j_iconst hG (v := 0) (dt dtX8_setPoints_0 17 rfl) (by decide) ?_
  exact g_f_X8_setPoints_34 hG hE hT h
set_option maxRecDepth 4000 in
theorem g_f_X8_setPoints_19 {G : wG} (hG : wOk G RX8 cX8_setPoints 5 6 136) {X Y : wM} {o : Int64} {dd : UInt64} {td : wX} {res : (Int32 × wM)} (hE : wEnd G (some .int) (rp (some (.int (res.1))) (X, res.2, o, dd, td)) xp0) (hT : wNoTab G) {l1 : Int32} {l2 : Int32} (h : f_X8_setPoints_19 Y l1 l2 = some res) : J G 5 0 0 19 [(0, .ref (wad (gB G) 22)), (1, .int (l1)), (2, .int (l2))] [.ref (wad (gB G) 22)] (X, Y, o, dd, td) := by
  unfold f_X8_setPoints_19 at h
  refine j_iload_n hG 2 (dt dtX8_setPoints_0 10 rfl) rfl rfl ?_
  refine j_iconst hG (v := 0) (dt dtX8_setPoints_0 11 rfl) (by decide) ?_
  refine j_bipush hG (v := 9) (dt dtX8_setPoints_0 12 rfl) (by decide) ?_
  refine j_callSp hG h (V := fun y23 => (some (.int (y23)))) (S := fun y23 => (X, Y, o, dd, td)) (kc := 0) (ks := 0) (fun z hz => ct_X8_in hG.2.2.1 (gB G) _ _ _ _ _ hz) mf_X8_in ml_X8_91 rfl (rest := [.ref (wad (gB G) 22)]) rfl (Nat.le_of_ble_eq_true rfl) (dt dtX8_setPoints_0 13 rfl) (by decide) (by decide) (fun y23 h => ?_)
  refine j_if_eq hG (tgt := 33) (dt dtX8_setPoints_0 14 rfl) (by decide) h (fun h => ?_) (fun h => ?_)
  · exact g_f_X8_setPoints_33 hG hE hT h
  · refine j_iconst hG (v := 1) (dt dtX8_setPoints_0 15 rfl) (by decide) ?_
    refine j_goto hG (tgt := 34) (dt dtX8_setPoints_0 16 rfl) (by decide) ?_
    exact g_f_X8_setPoints_34 hG hE hT h
set_option maxRecDepth 4000 in
theorem g_f_X8_setPoints {G : wG} (hG : wOk G RX8 cX8_setPoints 5 6 136) {X Y : wM} {o : Int64} {dd : UInt64} {td : wX} {res : (Int32 × wM)} (hE : wEnd G (some .int) (rp (some (.int (res.1))) (X, res.2, o, dd, td)) xp0) (hT : wNoTab G) {a1 : Int32} {a2 : Int32} (h : f_X8_setPoints Y a1 a2 = some res) : J G 5 0 0 0 [(0, .ref (wad (gB G) 22)), (1, .int (a1)), (2, .int (a2))] [] (X, Y, o, dd, td) := by
  unfold f_X8_setPoints at h
  refine j_aload_n hG 0 (dt dtX8_setPoints_0 0 rfl) rfl rfl ?_
  refine j_iload_n hG 1 (dt dtX8_setPoints_0 1 rfl) rfl rfl ?_
  refine j_bipush hG (v := 110) (dt dtX8_setPoints_0 2 rfl) (by decide) ?_
  refine j_icmp_eq hG (tgt := 19) (dt dtX8_setPoints_0 3 rfl) (by decide) h (fun h => ?_) (fun h => ?_)
  · exact g_f_X8_setPoints_19 hG hE hT h
  · refine j_iload_n hG 1 (dt dtX8_setPoints_0 4 rfl) rfl rfl ?_
    refine j_bipush hG (v := 121) (dt dtX8_setPoints_0 5 rfl) (by decide) ?_
    refine j_icmp_eq hG (tgt := 19) (dt dtX8_setPoints_0 6 rfl) (by decide) h (fun h => ?_) (fun h => ?_)
    · exact g_f_X8_setPoints_19 hG hE hT h
    · refine j_iload_n hG 1 (dt dtX8_setPoints_0 7 rfl) rfl rfl ?_
      refine j_bipush hG (v := 112) (dt dtX8_setPoints_0 8 rfl) (by decide) ?_
      refine j_icmp_ne hG (tgt := 33) (dt dtX8_setPoints_0 9 rfl) (by decide) h (fun h => ?_) (fun h => ?_)
      · exact g_f_X8_setPoints_19 hG hE hT h
      · exact g_f_X8_setPoints_33 hG hE hT h
theorem ct_X8_setPoints {l : Launch} (hl : l.stackTraces = false) (B : wB) (X Y : wM) (o : Int64) (dd : UInt64) (td : wX) {a1 : Int32} {a2 : Int32} {res : (Int32 × wM)} (h : f_X8_setPoints Y a1 a2 = some res) : wMet l B yX8_setPoints cX8_setPoints 5 (some .int) 6 136 0 0 [.ref (wad B 22), .int (a1), .int (a2)] (X, Y, o, dd, td) (rp (some (.int (res.1))) (X, res.2, o, dd, td)) xp0 :=
  wMet.of hl (by decide +kernel) (Nat.le_of_ble_eq_true rfl) (fun G hB hL hG hE hT => by subst hB; exact g_f_X8_setPoints hG hE hT h)
def f_X8_setBounds_26 (Y : wM) (l1 : Int32) (l2 : Int32) (s0 : Int32) : Option (Int32 × wM) :=
  (f_X8_checked Y s0).bind fun y26 =>
  (if 0 < y26.1 then some (0, y26.2)
  else wbd (y26.2 22 23) fun v38 =>
  wfld y26.2 22 22 l1 fun Y =>
  wfld Y 22 23 l2 fun Y =>
  (f_X8_looks Y).bind fun y50 =>
  some (v38, y50.2))
def f_X8_setBounds_25 (Y : wM) (l1 : Int32) (l2 : Int32) : Option (Int32 × wM) :=
  f_X8_setBounds_26 Y l1 l2 (0 : Int32)
def f_X8_setBounds (Y : wM) (a1 : Int32) (a2 : Int32) : Option (Int32 × wM) :=
  (f_X8_in a1 (0 : Int32) (30 : Int32)).bind fun y5 =>
  (if y5 = 0 then f_X8_setBounds_25 Y a1 a2
  else (f_X8_in a2 a1 (30 : Int32)).bind fun y15 =>
  (if y15 = 0 then f_X8_setBounds_25 Y a1 a2
  else f_X8_setBounds_26 Y a1 a2 (1 : Int32)))
set_option maxRecDepth 4000 in
theorem g_f_X8_setBounds_26 {G : wG} (hG : wOk G RX8 cX8_setBounds 5 6 136) {X Y : wM} {o : Int64} {dd : UInt64} {td : wX} {res : (Int32 × wM)} (hE : wEnd G (some .int) (rp (some (.int (res.1))) (X, res.2, o, dd, td)) xp0) (hT : wNoTab G) {l1 : Int32} {l2 : Int32} {s0 : Int32} (h : f_X8_setBounds_26 Y l1 l2 s0 = some res) : J G 5 0 0 26 [(0, .ref (wad (gB G) 22)), (1, .int (l1)), (2, .int (l2))] [.int (s0), .ref (wad (gB G) 22)] (X, Y, o, dd, td) := by
  unfold f_X8_setBounds_26 at h
  refine j_callVp hG h (V := fun y26 => (some (.int (y26.1)))) (S := fun y26 => (X, y26.2, o, dd, td)) (kc := 0) (ks := 0) (fun z hz => ct_X8_checked hG.2.2.1 (gB G) _ _ _ _ _ hz) mf_X8_checked ml_X8_120 22 (cv_22 _ _ _ _) rfl rfl (rest := []) rfl (Nat.le_of_ble_eq_true rfl) (dt dtX8_setBounds_0 14 rfl) (by decide) (by decide) (fun y26 h => ?_)
  refine j_if_le hG (tgt := 34) (dt dtX8_setBounds_0 15 rfl) (by decide) h (fun h => ?_) (fun h => ?_)
  · refine j_iconst hG (v := 0) (dt dtX8_setBounds_0 16 rfl) (by decide) ?_
    obtain rfl := Option.some.inj h
    exact j_iret hG hE ⟨rfl, rfl⟩ (dt dtX8_setBounds_0 17 rfl)
  · refine j_aload_n hG 0 (dt dtX8_setBounds_0 18 rfl) rfl rfl ?_
    refine j_get hG cl_X8 22 23 (cv_22 _ _ _ _) (by decide) fl_X8_82 rfl rfl (dt dtX8_setBounds_0 19 rfl) ?_
    refine j_istoreB_n hG (fun v38 => [(3, .int (v38)), (0, .ref (wad (gB G) 22)), (1, .int (l1)), (2, .int (l2))]) (dt dtX8_setBounds_0 20 rfl) rfl (by decide) (fun _ => rfl) h (fun v38 h => ?_)
    refine j_aload_n hG 1 (dt dtX8_setBounds_0 21 rfl) rfl rfl ?_
    refine j_iload_n hG 2 (dt dtX8_setBounds_0 22 rfl) rfl rfl ?_
    refine j_put hG cl_X8 22 22 (X := y26.2) (k := 22) (fun Y => (X, Y, o, dd, td)) (cv_22 _ _ _ _) (by decide) fl_X8_79 rfl rfl rfl rfl rfl (Nat.le_of_ble_eq_true rfl) (cs_22 _ _ _ _ (upd (y26.2 22) 22 l1)) h (dt dtX8_setBounds_0 23 rfl) (fun Y h => ?_)
    refine j_aload_n hG 1 (dt dtX8_setBounds_0 24 rfl) rfl rfl ?_
    refine j_iload_n hG 3 (dt dtX8_setBounds_0 25 rfl) rfl rfl ?_
    refine j_put hG cl_X8 22 23 (X := Y) (k := 22) (fun Y => (X, Y, o, dd, td)) (cv_22 _ _ _ _) (by decide) fl_X8_82 rfl rfl rfl rfl rfl (Nat.le_of_ble_eq_true rfl) (cs_22 _ _ _ _ (upd (Y 22) 23 l2)) h (dt dtX8_setBounds_0 26 rfl) (fun Y h => ?_)
    refine j_aload_n hG 1 (dt dtX8_setBounds_0 27 rfl) rfl rfl ?_
    refine j_callVp hG h (V := fun y50 => (some (.int (y50.1)))) (S := fun y50 => (X, y50.2, o, dd, td)) (kc := 0) (ks := 0) (fun z hz => ct_X8_looks hG.2.2.1 (gB G) _ _ _ _ _ hz) mf_X8_looks ml_X8_124 22 (cv_22 _ _ _ _) rfl rfl (rest := []) rfl (Nat.le_of_ble_eq_true rfl) (dt dtX8_setBounds_0 28 rfl) (by decide) (by decide) (fun y50 h => ?_)
    refine j_istore hG (lv' := [(4, .int (y50.1)), (3, .int (v38)), (0, .ref (wad (gB G) 22)), (1, .int (l1)), (2, .int (l2))]) (dt dtX8_setBounds_0 29 rfl) (by decide) rfl ?_
    refine j_iload_n hG 1 (dt dtX8_setBounds_0 30 rfl) rfl rfl ?_
    obtain rfl := Option.some.inj h
    exact j_iret hG hE ⟨rfl, rfl⟩ (dt dtX8_setBounds_0 31 rfl)
set_option maxRecDepth 4000 in
theorem g_f_X8_setBounds_25 {G : wG} (hG : wOk G RX8 cX8_setBounds 5 6 136) {X Y : wM} {o : Int64} {dd : UInt64} {td : wX} {res : (Int32 × wM)} (hE : wEnd G (some .int) (rp (some (.int (res.1))) (X, res.2, o, dd, td)) xp0) (hT : wNoTab G) {l1 : Int32} {l2 : Int32} (h : f_X8_setBounds_25 Y l1 l2 = some res) : J G 5 0 0 25 [(0, .ref (wad (gB G) 22)), (1, .int (l1)), (2, .int (l2))] [.ref (wad (gB G) 22)] (X, Y, o, dd, td) := by
  unfold f_X8_setBounds_25 at h
  refine j_iconst hG (v := 0) (dt dtX8_setBounds_0 13 rfl) (by decide) ?_
  exact g_f_X8_setBounds_26 hG hE hT h
set_option maxRecDepth 4000 in
theorem g_f_X8_setBounds {G : wG} (hG : wOk G RX8 cX8_setBounds 5 6 136) {X Y : wM} {o : Int64} {dd : UInt64} {td : wX} {res : (Int32 × wM)} (hE : wEnd G (some .int) (rp (some (.int (res.1))) (X, res.2, o, dd, td)) xp0) (hT : wNoTab G) {a1 : Int32} {a2 : Int32} (h : f_X8_setBounds Y a1 a2 = some res) : J G 5 0 0 0 [(0, .ref (wad (gB G) 22)), (1, .int (a1)), (2, .int (a2))] [] (X, Y, o, dd, td) := by
  unfold f_X8_setBounds at h
  refine j_aload_n hG 0 (dt dtX8_setBounds_0 0 rfl) rfl rfl ?_
  refine j_iload_n hG 1 (dt dtX8_setBounds_0 1 rfl) rfl rfl ?_
  refine j_iconst hG (v := 0) (dt dtX8_setBounds_0 2 rfl) (by decide) ?_
  refine j_bipush hG (v := 30) (dt dtX8_setBounds_0 3 rfl) (by decide) ?_
  refine j_callSp hG h (V := fun y5 => (some (.int (y5)))) (S := fun y5 => (X, Y, o, dd, td)) (kc := 0) (ks := 0) (fun z hz => ct_X8_in hG.2.2.1 (gB G) _ _ _ _ _ hz) mf_X8_in ml_X8_91 rfl (rest := [.ref (wad (gB G) 22)]) rfl (Nat.le_of_ble_eq_true rfl) (dt dtX8_setBounds_0 4 rfl) (by decide) (by decide) (fun y5 h => ?_)
  refine j_if_eq hG (tgt := 25) (dt dtX8_setBounds_0 5 rfl) (by decide) h (fun h => ?_) (fun h => ?_)
  · exact g_f_X8_setBounds_25 hG hE hT h
  · refine j_iload_n hG 2 (dt dtX8_setBounds_0 6 rfl) rfl rfl ?_
    refine j_iload_n hG 1 (dt dtX8_setBounds_0 7 rfl) rfl rfl ?_
    refine j_bipush hG (v := 30) (dt dtX8_setBounds_0 8 rfl) (by decide) ?_
    refine j_callSp hG h (V := fun y15 => (some (.int (y15)))) (S := fun y15 => (X, Y, o, dd, td)) (kc := 0) (ks := 0) (fun z hz => ct_X8_in hG.2.2.1 (gB G) _ _ _ _ _ hz) mf_X8_in ml_X8_91 rfl (rest := [.ref (wad (gB G) 22)]) rfl (Nat.le_of_ble_eq_true rfl) (dt dtX8_setBounds_0 9 rfl) (by decide) (by decide) (fun y15 h => ?_)
    refine j_if_eq hG (tgt := 25) (dt dtX8_setBounds_0 10 rfl) (by decide) h (fun h => ?_) (fun h => ?_)
    · exact g_f_X8_setBounds_25 hG hE hT h
    · refine j_iconst hG (v := 1) (dt dtX8_setBounds_0 11 rfl) (by decide) ?_
      refine j_goto hG (tgt := 26) (dt dtX8_setBounds_0 12 rfl) (by decide) ?_
      exact g_f_X8_setBounds_26 hG hE hT h
theorem ct_X8_setBounds {l : Launch} (hl : l.stackTraces = false) (B : wB) (X Y : wM) (o : Int64) (dd : UInt64) (td : wX) {a1 : Int32} {a2 : Int32} {res : (Int32 × wM)} (h : f_X8_setBounds Y a1 a2 = some res) : wMet l B yX8_setBounds cX8_setBounds 5 (some .int) 6 136 0 0 [.ref (wad B 22), .int (a1), .int (a2)] (X, Y, o, dd, td) (rp (some (.int (res.1))) (X, res.2, o, dd, td)) xp0 :=
  wMet.of hl (by decide +kernel) (Nat.le_of_ble_eq_true rfl) (fun G hB hL hG hE hT => by subst hB; exact g_f_X8_setBounds hG hE hT h)
def f_X8_wrongPair_30 (Y : wM) (s0 : Int32) : Option (Int32) :=
  some s0
def f_X8_wrongPair_16 (Y : wM) : Option (Int32) :=
  f_X8_wrongPair_30 Y (1 : Int32)
def f_X8_wrongPair (Y : wM) (a1 : Int32) (a2 : Int32) : Option (Int32) :=
  (f_X8_isRecord Y a1).bind fun y2 =>
  (if y2 = 0 then f_X8_wrongPair_16 Y
  else (f_X8_isRecord Y a2).bind fun y10 =>
  (if y10 = 0 then f_X8_wrongPair_16 Y
  else (if a1 = a2 then f_X8_wrongPair_30 Y (2 : Int32)
  else f_X8_wrongPair_30 Y (0 : Int32))))
set_option maxRecDepth 4000 in
theorem g_f_X8_wrongPair_30 {G : wG} (hG : wOk G RX8 cX8_wrongPair 3 2 43) {X Y : wM} {o : Int64} {dd : UInt64} {td : wX} {res : (Int32)} (hE : wEnd G (some .int) (rp (some (.int (res))) (X, Y, o, dd, td)) xp0) (hT : wNoTab G) {s0 : Int32} (h : f_X8_wrongPair_30 Y s0 = some res) : J G 3 0 0 30 [] [.int (s0)] (X, Y, o, dd, td) := by
  unfold f_X8_wrongPair_30 at h
  obtain rfl := Option.some.inj h
  exact j_iret hG hE ⟨rfl, rfl⟩ (dt dtX8_wrongPair_0 16 rfl)
set_option maxRecDepth 4000 in
theorem g_f_X8_wrongPair_16 {G : wG} (hG : wOk G RX8 cX8_wrongPair 3 2 43) {X Y : wM} {o : Int64} {dd : UInt64} {td : wX} {res : (Int32)} (hE : wEnd G (some .int) (rp (some (.int (res))) (X, Y, o, dd, td)) xp0) (hT : wNoTab G) (h : f_X8_wrongPair_16 Y = some res) : J G 3 0 0 16 [] [] (X, Y, o, dd, td) := by
  unfold f_X8_wrongPair_16 at h
  refine j_iconst hG (v := 1) (dt dtX8_wrongPair_0 8 rfl) (by decide) ?_
  refine j_goto hG (tgt := 30) (dt dtX8_wrongPair_0 9 rfl) (by decide) ?_
  exact g_f_X8_wrongPair_30 hG hE hT h
set_option maxRecDepth 4000 in
theorem g_f_X8_wrongPair {G : wG} (hG : wOk G RX8 cX8_wrongPair 3 2 43) {X Y : wM} {o : Int64} {dd : UInt64} {td : wX} {res : (Int32)} (hE : wEnd G (some .int) (rp (some (.int (res))) (X, Y, o, dd, td)) xp0) (hT : wNoTab G) {a1 : Int32} {a2 : Int32} (h : f_X8_wrongPair Y a1 a2 = some res) : J G 3 0 0 0 [(0, .ref (wad (gB G) 22)), (1, .int (a1)), (2, .int (a2))] [] (X, Y, o, dd, td) := by
  unfold f_X8_wrongPair at h
  refine j_aload_n hG 0 (dt dtX8_wrongPair_0 0 rfl) rfl rfl ?_
  refine j_iload_n hG 1 (dt dtX8_wrongPair_0 1 rfl) rfl rfl ?_
  refine j_callVp hG h (V := fun y2 => (some (.int (y2)))) (S := fun y2 => (X, Y, o, dd, td)) (kc := 0) (ks := 0) (fun z hz => ct_X8_isRecord hG.2.2.1 (gB G) _ _ _ _ _ hz) mf_X8_isRecord ml_X8_131 22 (cv_22 _ _ _ _) rfl rfl (rest := []) rfl (Nat.le_of_ble_eq_true rfl) (dt dtX8_wrongPair_0 2 rfl) (by decide) (by decide) (fun y2 h => ?_)
  refine j_if_eq hG (tgt := 16) (dt dtX8_wrongPair_0 3 rfl) (by decide) h (fun h => ?_) (fun h => ?_)
  · refine j_lv (lv' := []) [] rfl ?_
    exact g_f_X8_wrongPair_16 hG hE hT h
  · refine j_aload_n hG 0 (dt dtX8_wrongPair_0 4 rfl) rfl rfl ?_
    refine j_iload_n hG 2 (dt dtX8_wrongPair_0 5 rfl) rfl rfl ?_
    refine j_callVp hG h (V := fun y10 => (some (.int (y10)))) (S := fun y10 => (X, Y, o, dd, td)) (kc := 0) (ks := 0) (fun z hz => ct_X8_isRecord hG.2.2.1 (gB G) _ _ _ _ _ hz) mf_X8_isRecord ml_X8_131 22 (cv_22 _ _ _ _) rfl rfl (rest := []) rfl (Nat.le_of_ble_eq_true rfl) (dt dtX8_wrongPair_0 6 rfl) (by decide) (by decide) (fun y10 h => ?_)
    refine j_if_ne hG (tgt := 20) (dt dtX8_wrongPair_0 7 rfl) (by decide) h (fun h => ?_) (fun h => ?_)
    · refine j_lv (lv' := []) [] rfl ?_
      exact g_f_X8_wrongPair_16 hG hE hT h
    · refine j_iload_n hG 1 (dt dtX8_wrongPair_0 10 rfl) rfl rfl ?_
      refine j_iload_n hG 2 (dt dtX8_wrongPair_0 11 rfl) rfl rfl ?_
      refine j_icmp_ne hG (tgt := 29) (dt dtX8_wrongPair_0 12 rfl) (by decide) h (fun h => ?_) (fun h => ?_)
      · refine j_iconst hG (v := 2) (dt dtX8_wrongPair_0 13 rfl) (by decide) ?_
        refine j_goto hG (tgt := 30) (dt dtX8_wrongPair_0 14 rfl) (by decide) ?_
        refine j_lv (lv' := []) [] rfl ?_
        exact g_f_X8_wrongPair_30 hG hE hT h
      · refine j_iconst hG (v := 0) (dt dtX8_wrongPair_0 15 rfl) (by decide) ?_
        refine j_lv (lv' := []) [] rfl ?_
        exact g_f_X8_wrongPair_30 hG hE hT h
theorem ct_X8_wrongPair {l : Launch} (hl : l.stackTraces = false) (B : wB) (X Y : wM) (o : Int64) (dd : UInt64) (td : wX) {a1 : Int32} {a2 : Int32} {res : (Int32)} (h : f_X8_wrongPair Y a1 a2 = some res) : wMet l B yX8_wrongPair cX8_wrongPair 3 (some .int) 2 43 0 0 [.ref (wad B 22), .int (a1), .int (a2)] (X, Y, o, dd, td) (rp (some (.int (res))) (X, Y, o, dd, td)) xp0 :=
  wMet.of hl (by decide +kernel) (Nat.le_of_ble_eq_true rfl) (fun G hB hL hG hE hT => by subst hB; exact g_f_X8_wrongPair hG hE hT h)
def f_X8_score_27 (Y : wM) (s0 : Int32) : Option (Int32 × wM) :=
  some (s0, Y)
def f_X8_score (Y : wM) (a1 : Int32) (a2 : Int32) : Option (Int32 × wM) :=
  (f_X8_wrongPair Y a1 a2).bind fun y4 =>
  wfld Y 22 14 y4 fun Y =>
  (if 0 < (Y 22 14) then f_X8_score_27 Y (0 : Int32)
  else (f_X8_scoreOf Y a1 a2).bind fun y24 =>
  f_X8_score_27 Y y24)
set_option maxRecDepth 4000 in
theorem g_f_X8_score_27 {G : wG} (hG : wOk G RX8 cX8_score 3 3 65) {X Y : wM} {o : Int64} {dd : UInt64} {td : wX} {res : (Int32 × wM)} (hE : wEnd G (some .int) (rp (some (.int (res.1))) (X, res.2, o, dd, td)) xp0) (hT : wNoTab G) {s0 : Int32} (h : f_X8_score_27 Y s0 = some res) : J G 3 0 0 27 [] [.int (s0)] (X, Y, o, dd, td) := by
  unfold f_X8_score_27 at h
  obtain rfl := Option.some.inj h
  exact j_iret hG hE ⟨rfl, rfl⟩ (dt dtX8_score_0 15 rfl)
set_option maxRecDepth 4000 in
theorem g_f_X8_score {G : wG} (hG : wOk G RX8 cX8_score 3 3 65) {X Y : wM} {o : Int64} {dd : UInt64} {td : wX} {res : (Int32 × wM)} (hE : wEnd G (some .int) (rp (some (.int (res.1))) (X, res.2, o, dd, td)) xp0) (hT : wNoTab G) {a1 : Int32} {a2 : Int32} (h : f_X8_score Y a1 a2 = some res) : J G 3 0 0 0 [(0, .ref (wad (gB G) 22)), (1, .int (a1)), (2, .int (a2))] [] (X, Y, o, dd, td) := by
  unfold f_X8_score at h
  refine j_aload_n hG 0 (dt dtX8_score_0 0 rfl) rfl rfl ?_
  refine j_aload_n hG 0 (dt dtX8_score_0 1 rfl) rfl rfl ?_
  refine j_iload_n hG 1 (dt dtX8_score_0 2 rfl) rfl rfl ?_
  refine j_iload_n hG 2 (dt dtX8_score_0 3 rfl) rfl rfl ?_
  refine j_callVp hG h (V := fun y4 => (some (.int (y4)))) (S := fun y4 => (X, Y, o, dd, td)) (kc := 0) (ks := 0) (fun z hz => ct_X8_wrongPair hG.2.2.1 (gB G) _ _ _ _ _ hz) mf_X8_wrongPair ml_X8_134 22 (cv_22 _ _ _ _) rfl rfl (rest := [.ref (wad (gB G) 22)]) rfl (Nat.le_of_ble_eq_true rfl) (dt dtX8_score_0 4 rfl) (by decide) (by decide) (fun y4 h => ?_)
  refine j_put hG cl_X8 22 14 (X := Y) (k := 22) (fun Y => (X, Y, o, dd, td)) (cv_22 _ _ _ _) (by decide) fl_X8_54 rfl rfl rfl rfl rfl (Nat.le_of_ble_eq_true rfl) (cs_22 _ _ _ _ (upd (Y 22) 14 y4)) h (dt dtX8_score_0 5 rfl) (fun Y h => ?_)
  refine j_aload_n hG 0 (dt dtX8_score_0 6 rfl) rfl rfl ?_
  refine j_get hG cl_X8 22 14 (cv_22 _ _ _ _) (by decide) fl_X8_54 rfl rfl (dt dtX8_score_0 7 rfl) ?_
  refine j_if_le hG (tgt := 21) (dt dtX8_score_0 8 rfl) (by decide) h (fun h => ?_) (fun h => ?_)
  · refine j_iconst hG (v := 0) (dt dtX8_score_0 9 rfl) (by decide) ?_
    refine j_goto hG (tgt := 27) (dt dtX8_score_0 10 rfl) (by decide) ?_
    refine j_lv (lv' := []) [] rfl ?_
    exact g_f_X8_score_27 hG hE hT h
  · refine j_aload_n hG 0 (dt dtX8_score_0 11 rfl) rfl rfl ?_
    refine j_iload_n hG 1 (dt dtX8_score_0 12 rfl) rfl rfl ?_
    refine j_iload_n hG 2 (dt dtX8_score_0 13 rfl) rfl rfl ?_
    refine j_callVp hG h (V := fun y24 => (some (.int (y24)))) (S := fun y24 => (X, Y, o, dd, td)) (kc := 0) (ks := 0) (fun z hz => ct_X8_scoreOf hG.2.2.1 (gB G) _ _ _ _ _ hz) mf_X8_scoreOf ml_X8_99 22 (cv_22 _ _ _ _) rfl rfl (rest := []) rfl (Nat.le_of_ble_eq_true rfl) (dt dtX8_score_0 14 rfl) (by decide) (by decide) (fun y24 h => ?_)
    refine j_lv (lv' := []) [] rfl ?_
    exact g_f_X8_score_27 hG hE hT h
theorem ct_X8_score {l : Launch} (hl : l.stackTraces = false) (B : wB) (X Y : wM) (o : Int64) (dd : UInt64) (td : wX) {a1 : Int32} {a2 : Int32} {res : (Int32 × wM)} (h : f_X8_score Y a1 a2 = some res) : wMet l B yX8_score cX8_score 3 (some .int) 3 65 0 0 [.ref (wad B 22), .int (a1), .int (a2)] (X, Y, o, dd, td) (rp (some (.int (res.1))) (X, res.2, o, dd, td)) xp0 :=
  wMet.of hl (by decide +kernel) (Nat.le_of_ble_eq_true rfl) (fun G hB hL hG hE hT => by subst hB; exact g_f_X8_score hG hE hT h)
def f_X8_decides (Y : wM) (a1 : Int32) (a2 : Int32) (a3 : Int32) : Option (wM) :=
  wput Y 30 1600 ((40 * a1) + a2) (vp_nar .char a3) fun Y =>
  wput Y 30 1600 ((40 * a2) + a1) (vp_nar .char a3) fun Y =>
  some Y
set_option maxRecDepth 4000 in
theorem g_f_X8_decides {G : wG} (hG : wOk G RX8 cX8_decides 4 0 0) {X Y : wM} {o : Int64} {dd : UInt64} {td : wX} {res : (wM)} (hE : wEnd G none (rp none (X, res, o, dd, td)) xp0) (hT : wNoTab G) {a1 : Int32} {a2 : Int32} {a3 : Int32} (h : f_X8_decides Y a1 a2 a3 = some res) : J G 4 0 0 0 [(0, .ref (wad (gB G) 22)), (1, .int (a1)), (2, .int (a2)), (3, .int (a3))] [] (X, Y, o, dd, td) := by
  unfold f_X8_decides at h
  refine j_aload_n hG 0 (dt dtX8_decides_0 0 rfl) rfl rfl ?_
  refine j_get hG cl_X8 22 7 (cv_22 _ _ _ _) (by decide) fl_X8_32 rfl rfl (dt dtX8_decides_0 1 rfl) ?_
  refine j_bipush hG (v := 40) (dt dtX8_decides_0 2 rfl) (by decide) ?_
  refine j_iload_n hG 1 (dt dtX8_decides_0 3 rfl) rfl rfl ?_
  refine j_imul hG (dt dtX8_decides_0 4 rfl) ?_
  refine j_iload_n hG 2 (dt dtX8_decides_0 5 rfl) rfl rfl ?_
  refine j_iadd hG (dt dtX8_decides_0 6 rfl) ?_
  refine j_iload_n hG 3 (dt dtX8_decides_0 7 rfl) rfl rfl ?_
  refine j_cast hG 30 (X := Y) (k := 30) (fun Y => (X, Y, o, dd, td)) (cv_30 _ _ _ _) (fun g => cs_30 _ _ _ _ g) h (dt dtX8_decides_0 8 rfl) (fun Y h => ?_)
  refine j_aload_n hG 0 (dt dtX8_decides_0 9 rfl) rfl rfl ?_
  refine j_get hG cl_X8 22 7 (cv_22 _ _ _ _) (by decide) fl_X8_32 rfl rfl (dt dtX8_decides_0 10 rfl) ?_
  refine j_bipush hG (v := 40) (dt dtX8_decides_0 11 rfl) (by decide) ?_
  refine j_iload_n hG 2 (dt dtX8_decides_0 12 rfl) rfl rfl ?_
  refine j_imul hG (dt dtX8_decides_0 13 rfl) ?_
  refine j_iload_n hG 1 (dt dtX8_decides_0 14 rfl) rfl rfl ?_
  refine j_iadd hG (dt dtX8_decides_0 15 rfl) ?_
  refine j_iload_n hG 3 (dt dtX8_decides_0 16 rfl) rfl rfl ?_
  refine j_cast hG 30 (X := Y) (k := 30) (fun Y => (X, Y, o, dd, td)) (cv_30 _ _ _ _) (fun g => cs_30 _ _ _ _ g) h (dt dtX8_decides_0 17 rfl) (fun Y h => ?_)
  obtain rfl := Option.some.inj h
  exact j_vret hG hE ⟨rfl, rfl⟩ (dt dtX8_decides_0 18 rfl)
theorem ct_X8_decides {l : Launch} (hl : l.stackTraces = false) (B : wB) (X Y : wM) (o : Int64) (dd : UInt64) (td : wX) {a1 : Int32} {a2 : Int32} {a3 : Int32} {res : (wM)} (h : f_X8_decides Y a1 a2 a3 = some res) : wMet l B yX8_decides cX8_decides 4 none 0 0 0 0 [.ref (wad B 22), .int (a1), .int (a2), .int (a3)] (X, Y, o, dd, td) (rp none (X, res, o, dd, td)) xp0 :=
  wMet.of hl (by decide +kernel) (Nat.le_of_ble_eq_true rfl) (fun G hB hL hG hE hT => by subst hB; exact g_f_X8_decides hG hE hT h)
def f_X8_decide_67 (Y : wM) (s0 : Int32) (s1 : Int32) (s2 : Int32) : Option (Int32 × wM) :=
  (f_X8_decides Y s2 s1 s0).bind fun y67 =>
  (f_X8_looks y67).bind fun y71 =>
  some (y71.1, y71.2)
def f_X8_decide_44 (Y : wM) (l1 : Int32) (l2 : Int32) (l3 : Int32) : Option (Int32 × wM) :=
  (if 0 < (Y 22 14) then some (0, Y)
  else (if l3 = 0 then f_X8_decide_67 Y (110 : Int32) l2 l1
  else f_X8_decide_67 Y (121 : Int32) l2 l1))
def f_X8_decide (Y : wM) (a1 : Int32) (a2 : Int32) (a3 : Int32) : Option (Int32 × wM) :=
  (f_X8_wrongPair Y a1 a2).bind fun y4 =>
  wfld Y 22 14 y4 fun Y =>
  (if (Y 22 14) = 0 then wget 40 (Y 29) a1 fun v22 =>
  (if v22 = 107 then wget 40 (Y 29) a2 fun v33 =>
  (if v33 = 107 then wfld Y 22 14 3 fun Y =>
  f_X8_decide_44 Y a1 a2 a3
  else f_X8_decide_44 Y a1 a2 a3)
  else f_X8_decide_44 Y a1 a2 a3)
  else f_X8_decide_44 Y a1 a2 a3)
set_option maxRecDepth 4000 in
theorem g_f_X8_decide_67 {G : wG} (hG : wOk G RX8 cX8_decide 4 6 136) {X Y : wM} {o : Int64} {dd : UInt64} {td : wX} {res : (Int32 × wM)} (hE : wEnd G (some .int) (rp (some (.int (res.1))) (X, res.2, o, dd, td)) xp0) (hT : wNoTab G) {s0 : Int32} {s1 : Int32} {s2 : Int32} (h : f_X8_decide_67 Y s0 s1 s2 = some res) : J G 4 0 0 67 [(0, .ref (wad (gB G) 22))] [.int (s0), .int (s1), .int (s2), .ref (wad (gB G) 22)] (X, Y, o, dd, td) := by
  unfold f_X8_decide_67 at h
  refine j_callVp hG h (V := fun y67 => none) (S := fun y67 => (X, y67, o, dd, td)) (kc := 0) (ks := 0) (fun z hz => ct_X8_decides hG.2.2.1 (gB G) _ _ _ _ _ hz) mf_X8_decides ml_X8_137 22 (cv_22 _ _ _ _) rfl rfl (rest := []) rfl (Nat.le_of_ble_eq_true rfl) (dt dtX8_decide_0 37 rfl) (by decide) (by decide) (fun y67 h => ?_)
  refine j_aload_n hG 0 (dt dtX8_decide_0 38 rfl) rfl rfl ?_
  refine j_callVp hG h (V := fun y71 => (some (.int (y71.1)))) (S := fun y71 => (X, y71.2, o, dd, td)) (kc := 0) (ks := 0) (fun z hz => ct_X8_looks hG.2.2.1 (gB G) _ _ _ _ _ hz) mf_X8_looks ml_X8_124 22 (cv_22 _ _ _ _) rfl rfl (rest := []) rfl (Nat.le_of_ble_eq_true rfl) (dt dtX8_decide_0 39 rfl) (by decide) (by decide) (fun y71 h => ?_)
  obtain rfl := Option.some.inj h
  exact j_iret hG hE ⟨rfl, rfl⟩ (dt dtX8_decide_0 40 rfl)
set_option maxRecDepth 4000 in
theorem g_f_X8_decide_44 {G : wG} (hG : wOk G RX8 cX8_decide 4 6 136) {X Y : wM} {o : Int64} {dd : UInt64} {td : wX} {res : (Int32 × wM)} (hE : wEnd G (some .int) (rp (some (.int (res.1))) (X, res.2, o, dd, td)) xp0) (hT : wNoTab G) {l1 : Int32} {l2 : Int32} {l3 : Int32} (h : f_X8_decide_44 Y l1 l2 l3 = some res) : J G 4 0 0 44 [(0, .ref (wad (gB G) 22)), (1, .int (l1)), (2, .int (l2)), (3, .int (l3))] [] (X, Y, o, dd, td) := by
  unfold f_X8_decide_44 at h
  refine j_aload_n hG 0 (dt dtX8_decide_0 24 rfl) rfl rfl ?_
  refine j_get hG cl_X8 22 14 (cv_22 _ _ _ _) (by decide) fl_X8_54 rfl rfl (dt dtX8_decide_0 25 rfl) ?_
  refine j_if_le hG (tgt := 53) (dt dtX8_decide_0 26 rfl) (by decide) h (fun h => ?_) (fun h => ?_)
  · refine j_iconst hG (v := 0) (dt dtX8_decide_0 27 rfl) (by decide) ?_
    obtain rfl := Option.some.inj h
    exact j_iret hG hE ⟨rfl, rfl⟩ (dt dtX8_decide_0 28 rfl)
  · refine j_aload_n hG 0 (dt dtX8_decide_0 29 rfl) rfl rfl ?_
    refine j_iload_n hG 1 (dt dtX8_decide_0 30 rfl) rfl rfl ?_
    refine j_iload_n hG 2 (dt dtX8_decide_0 31 rfl) rfl rfl ?_
    refine j_iload_n hG 3 (dt dtX8_decide_0 32 rfl) rfl rfl ?_
    refine j_if_eq hG (tgt := 65) (dt dtX8_decide_0 33 rfl) (by decide) h (fun h => ?_) (fun h => ?_)
    · refine j_bipush hG (v := 110) (dt dtX8_decide_0 36 rfl) (by decide) ?_
      refine j_lv (lv' := [(0, .ref (wad (gB G) 22))]) [0] rfl ?_
      exact g_f_X8_decide_67 hG hE hT h
    · refine j_bipush hG (v := 121) (dt dtX8_decide_0 34 rfl) (by decide) ?_
      refine j_goto hG (tgt := 67) (dt dtX8_decide_0 35 rfl) (by decide) ?_
      refine j_lv (lv' := [(0, .ref (wad (gB G) 22))]) [0] rfl ?_
      exact g_f_X8_decide_67 hG hE hT h
set_option maxRecDepth 4000 in
theorem g_f_X8_decide {G : wG} (hG : wOk G RX8 cX8_decide 4 6 136) {X Y : wM} {o : Int64} {dd : UInt64} {td : wX} {res : (Int32 × wM)} (hE : wEnd G (some .int) (rp (some (.int (res.1))) (X, res.2, o, dd, td)) xp0) (hT : wNoTab G) {a1 : Int32} {a2 : Int32} {a3 : Int32} (h : f_X8_decide Y a1 a2 a3 = some res) : J G 4 0 0 0 [(0, .ref (wad (gB G) 22)), (1, .int (a1)), (2, .int (a2)), (3, .int (a3))] [] (X, Y, o, dd, td) := by
  unfold f_X8_decide at h
  refine j_aload_n hG 0 (dt dtX8_decide_0 0 rfl) rfl rfl ?_
  refine j_aload_n hG 0 (dt dtX8_decide_0 1 rfl) rfl rfl ?_
  refine j_iload_n hG 1 (dt dtX8_decide_0 2 rfl) rfl rfl ?_
  refine j_iload_n hG 2 (dt dtX8_decide_0 3 rfl) rfl rfl ?_
  refine j_callVp hG h (V := fun y4 => (some (.int (y4)))) (S := fun y4 => (X, Y, o, dd, td)) (kc := 0) (ks := 0) (fun z hz => ct_X8_wrongPair hG.2.2.1 (gB G) _ _ _ _ _ hz) mf_X8_wrongPair ml_X8_134 22 (cv_22 _ _ _ _) rfl rfl (rest := [.ref (wad (gB G) 22)]) rfl (Nat.le_of_ble_eq_true rfl) (dt dtX8_decide_0 4 rfl) (by decide) (by decide) (fun y4 h => ?_)
  refine j_put hG cl_X8 22 14 (X := Y) (k := 22) (fun Y => (X, Y, o, dd, td)) (cv_22 _ _ _ _) (by decide) fl_X8_54 rfl rfl rfl rfl rfl (Nat.le_of_ble_eq_true rfl) (cs_22 _ _ _ _ (upd (Y 22) 14 y4)) h (dt dtX8_decide_0 5 rfl) (fun Y h => ?_)
  refine j_aload_n hG 0 (dt dtX8_decide_0 6 rfl) rfl rfl ?_
  refine j_get hG cl_X8 22 14 (cv_22 _ _ _ _) (by decide) fl_X8_54 rfl rfl (dt dtX8_decide_0 7 rfl) ?_
  refine j_if_ne hG (tgt := 44) (dt dtX8_decide_0 8 rfl) (by decide) h (fun h => ?_) (fun h => ?_)
  · refine j_aload_n hG 0 (dt dtX8_decide_0 9 rfl) rfl rfl ?_
    refine j_get hG cl_X8 22 6 (cv_22 _ _ _ _) (by decide) fl_X8_28 rfl rfl (dt dtX8_decide_0 10 rfl) ?_
    refine j_iload_n hG 1 (dt dtX8_decide_0 11 rfl) rfl rfl ?_
    refine j_cald hG 29 (cv_29 _ _ _ _) h (dt dtX8_decide_0 12 rfl) (fun v22 h => ?_)
    refine j_bipush hG (v := 107) (dt dtX8_decide_0 13 rfl) (by decide) ?_
    refine j_icmp_ne hG (tgt := 44) (dt dtX8_decide_0 14 rfl) (by decide) h (fun h => ?_) (fun h => ?_)
    · refine j_aload_n hG 0 (dt dtX8_decide_0 15 rfl) rfl rfl ?_
      refine j_get hG cl_X8 22 6 (cv_22 _ _ _ _) (by decide) fl_X8_28 rfl rfl (dt dtX8_decide_0 16 rfl) ?_
      refine j_iload_n hG 2 (dt dtX8_decide_0 17 rfl) rfl rfl ?_
      refine j_cald hG 29 (cv_29 _ _ _ _) h (dt dtX8_decide_0 18 rfl) (fun v33 h => ?_)
      refine j_bipush hG (v := 107) (dt dtX8_decide_0 19 rfl) (by decide) ?_
      refine j_icmp_ne hG (tgt := 44) (dt dtX8_decide_0 20 rfl) (by decide) h (fun h => ?_) (fun h => ?_)
      · refine j_aload_n hG 0 (dt dtX8_decide_0 21 rfl) rfl rfl ?_
        refine j_iconst hG (v := 3) (dt dtX8_decide_0 22 rfl) (by decide) ?_
        refine j_put hG cl_X8 22 14 (X := Y) (k := 22) (fun Y => (X, Y, o, dd, td)) (cv_22 _ _ _ _) (by decide) fl_X8_54 rfl rfl rfl rfl rfl (Nat.le_of_ble_eq_true rfl) (cs_22 _ _ _ _ (upd (Y 22) 14 3)) h (dt dtX8_decide_0 23 rfl) (fun Y h => ?_)
        exact g_f_X8_decide_44 hG hE hT h
      · exact g_f_X8_decide_44 hG hE hT h
    · exact g_f_X8_decide_44 hG hE hT h
  · exact g_f_X8_decide_44 hG hE hT h
theorem ct_X8_decide {l : Launch} (hl : l.stackTraces = false) (B : wB) (X Y : wM) (o : Int64) (dd : UInt64) (td : wX) {a1 : Int32} {a2 : Int32} {a3 : Int32} {res : (Int32 × wM)} (h : f_X8_decide Y a1 a2 a3 = some res) : wMet l B yX8_decide cX8_decide 4 (some .int) 6 136 0 0 [.ref (wad B 22), .int (a1), .int (a2), .int (a3)] (X, Y, o, dd, td) (rp (some (.int (res.1))) (X, res.2, o, dd, td)) xp0 :=
  wMet.of hl (by decide +kernel) (Nat.le_of_ble_eq_true rfl) (fun G hB hL hG hE hT => by subst hB; exact g_f_X8_decide hG hE hT h)
def f_X8_takeBack_40 (Y : wM) (l1 : Int32) (l2 : Int32) (s0 : Int32) : Option (Int32 × wM) :=
  wfld Y 22 14 s0 fun Y =>
  (if 0 < (Y 22 14) then some (0, Y)
  else (f_X8_decides Y l1 l2 (0 : Int32)).bind fun y56 =>
  (f_X8_looks y56).bind fun y60 =>
  some (y60.1, y60.2))
def f_X8_takeBack_17 (Y : wM) (l1 : Int32) (l2 : Int32) : Option (Int32 × wM) :=
  f_X8_takeBack_40 Y l1 l2 (1 : Int32)
def f_X8_takeBack (Y : wM) (a1 : Int32) (a2 : Int32) : Option (Int32 × wM) :=
  (f_X8_isRecord Y a1).bind fun y3 =>
  (if y3 = 0 then f_X8_takeBack_17 Y a1 a2
  else (f_X8_isRecord Y a2).bind fun y11 =>
  (if y11 = 0 then f_X8_takeBack_17 Y a1 a2
  else wget 1600 (Y 30) ((40 * a1) + a2) fun v31 =>
  (if v31 = 0 then f_X8_takeBack_40 Y a1 a2 (2 : Int32)
  else f_X8_takeBack_40 Y a1 a2 (0 : Int32))))
set_option maxRecDepth 4000 in
theorem g_f_X8_takeBack_40 {G : wG} (hG : wOk G RX8 cX8_takeBack 3 6 136) {X Y : wM} {o : Int64} {dd : UInt64} {td : wX} {res : (Int32 × wM)} (hE : wEnd G (some .int) (rp (some (.int (res.1))) (X, res.2, o, dd, td)) xp0) (hT : wNoTab G) {l1 : Int32} {l2 : Int32} {s0 : Int32} (h : f_X8_takeBack_40 Y l1 l2 s0 = some res) : J G 3 0 0 40 [(0, .ref (wad (gB G) 22)), (1, .int (l1)), (2, .int (l2))] [.int (s0), .ref (wad (gB G) 22)] (X, Y, o, dd, td) := by
  unfold f_X8_takeBack_40 at h
  refine j_put hG cl_X8 22 14 (X := Y) (k := 22) (fun Y => (X, Y, o, dd, td)) (cv_22 _ _ _ _) (by decide) fl_X8_54 rfl rfl rfl rfl rfl (Nat.le_of_ble_eq_true rfl) (cs_22 _ _ _ _ (upd (Y 22) 14 s0)) h (dt dtX8_takeBack_0 23 rfl) (fun Y h => ?_)
  refine j_aload_n hG 0 (dt dtX8_takeBack_0 24 rfl) rfl rfl ?_
  refine j_get hG cl_X8 22 14 (cv_22 _ _ _ _) (by decide) fl_X8_54 rfl rfl (dt dtX8_takeBack_0 25 rfl) ?_
  refine j_if_le hG (tgt := 52) (dt dtX8_takeBack_0 26 rfl) (by decide) h (fun h => ?_) (fun h => ?_)
  · refine j_iconst hG (v := 0) (dt dtX8_takeBack_0 27 rfl) (by decide) ?_
    obtain rfl := Option.some.inj h
    exact j_iret hG hE ⟨rfl, rfl⟩ (dt dtX8_takeBack_0 28 rfl)
  · refine j_aload_n hG 0 (dt dtX8_takeBack_0 29 rfl) rfl rfl ?_
    refine j_iload_n hG 1 (dt dtX8_takeBack_0 30 rfl) rfl rfl ?_
    refine j_iload_n hG 2 (dt dtX8_takeBack_0 31 rfl) rfl rfl ?_
    refine j_iconst hG (v := 0) (dt dtX8_takeBack_0 32 rfl) (by decide) ?_
    refine j_callVp hG h (V := fun y56 => none) (S := fun y56 => (X, y56, o, dd, td)) (kc := 0) (ks := 0) (fun z hz => ct_X8_decides hG.2.2.1 (gB G) _ _ _ _ _ hz) mf_X8_decides ml_X8_137 22 (cv_22 _ _ _ _) rfl rfl (rest := []) rfl (Nat.le_of_ble_eq_true rfl) (dt dtX8_takeBack_0 33 rfl) (by decide) (by decide) (fun y56 h => ?_)
    refine j_aload_n hG 0 (dt dtX8_takeBack_0 34 rfl) rfl rfl ?_
    refine j_callVp hG h (V := fun y60 => (some (.int (y60.1)))) (S := fun y60 => (X, y60.2, o, dd, td)) (kc := 0) (ks := 0) (fun z hz => ct_X8_looks hG.2.2.1 (gB G) _ _ _ _ _ hz) mf_X8_looks ml_X8_124 22 (cv_22 _ _ _ _) rfl rfl (rest := []) rfl (Nat.le_of_ble_eq_true rfl) (dt dtX8_takeBack_0 35 rfl) (by decide) (by decide) (fun y60 h => ?_)
    obtain rfl := Option.some.inj h
    exact j_iret hG hE ⟨rfl, rfl⟩ (dt dtX8_takeBack_0 36 rfl)
set_option maxRecDepth 4000 in
theorem g_f_X8_takeBack_17 {G : wG} (hG : wOk G RX8 cX8_takeBack 3 6 136) {X Y : wM} {o : Int64} {dd : UInt64} {td : wX} {res : (Int32 × wM)} (hE : wEnd G (some .int) (rp (some (.int (res.1))) (X, res.2, o, dd, td)) xp0) (hT : wNoTab G) {l1 : Int32} {l2 : Int32} (h : f_X8_takeBack_17 Y l1 l2 = some res) : J G 3 0 0 17 [(0, .ref (wad (gB G) 22)), (1, .int (l1)), (2, .int (l2))] [.ref (wad (gB G) 22)] (X, Y, o, dd, td) := by
  unfold f_X8_takeBack_17 at h
  refine j_iconst hG (v := 1) (dt dtX8_takeBack_0 9 rfl) (by decide) ?_
  refine j_goto hG (tgt := 40) (dt dtX8_takeBack_0 10 rfl) (by decide) ?_
  exact g_f_X8_takeBack_40 hG hE hT h
set_option maxRecDepth 4000 in
theorem g_f_X8_takeBack {G : wG} (hG : wOk G RX8 cX8_takeBack 3 6 136) {X Y : wM} {o : Int64} {dd : UInt64} {td : wX} {res : (Int32 × wM)} (hE : wEnd G (some .int) (rp (some (.int (res.1))) (X, res.2, o, dd, td)) xp0) (hT : wNoTab G) {a1 : Int32} {a2 : Int32} (h : f_X8_takeBack Y a1 a2 = some res) : J G 3 0 0 0 [(0, .ref (wad (gB G) 22)), (1, .int (a1)), (2, .int (a2))] [] (X, Y, o, dd, td) := by
  unfold f_X8_takeBack at h
  refine j_aload_n hG 0 (dt dtX8_takeBack_0 0 rfl) rfl rfl ?_
  refine j_aload_n hG 0 (dt dtX8_takeBack_0 1 rfl) rfl rfl ?_
  refine j_iload_n hG 1 (dt dtX8_takeBack_0 2 rfl) rfl rfl ?_
  refine j_callVp hG h (V := fun y3 => (some (.int (y3)))) (S := fun y3 => (X, Y, o, dd, td)) (kc := 0) (ks := 0) (fun z hz => ct_X8_isRecord hG.2.2.1 (gB G) _ _ _ _ _ hz) mf_X8_isRecord ml_X8_131 22 (cv_22 _ _ _ _) rfl rfl (rest := [.ref (wad (gB G) 22)]) rfl (Nat.le_of_ble_eq_true rfl) (dt dtX8_takeBack_0 3 rfl) (by decide) (by decide) (fun y3 h => ?_)
  refine j_if_eq hG (tgt := 17) (dt dtX8_takeBack_0 4 rfl) (by decide) h (fun h => ?_) (fun h => ?_)
  · exact g_f_X8_takeBack_17 hG hE hT h
  · refine j_aload_n hG 0 (dt dtX8_takeBack_0 5 rfl) rfl rfl ?_
    refine j_iload_n hG 2 (dt dtX8_takeBack_0 6 rfl) rfl rfl ?_
    refine j_callVp hG h (V := fun y11 => (some (.int (y11)))) (S := fun y11 => (X, Y, o, dd, td)) (kc := 0) (ks := 0) (fun z hz => ct_X8_isRecord hG.2.2.1 (gB G) _ _ _ _ _ hz) mf_X8_isRecord ml_X8_131 22 (cv_22 _ _ _ _) rfl rfl (rest := [.ref (wad (gB G) 22)]) rfl (Nat.le_of_ble_eq_true rfl) (dt dtX8_takeBack_0 7 rfl) (by decide) (by decide) (fun y11 h => ?_)
    refine j_if_ne hG (tgt := 21) (dt dtX8_takeBack_0 8 rfl) (by decide) h (fun h => ?_) (fun h => ?_)
    · exact g_f_X8_takeBack_17 hG hE hT h
    · refine j_aload_n hG 0 (dt dtX8_takeBack_0 11 rfl) rfl rfl ?_
      refine j_get hG cl_X8 22 7 (cv_22 _ _ _ _) (by decide) fl_X8_32 rfl rfl (dt dtX8_takeBack_0 12 rfl) ?_
      refine j_bipush hG (v := 40) (dt dtX8_takeBack_0 13 rfl) (by decide) ?_
      refine j_iload_n hG 1 (dt dtX8_takeBack_0 14 rfl) rfl rfl ?_
      refine j_imul hG (dt dtX8_takeBack_0 15 rfl) ?_
      refine j_iload_n hG 2 (dt dtX8_takeBack_0 16 rfl) rfl rfl ?_
      refine j_iadd hG (dt dtX8_takeBack_0 17 rfl) ?_
      refine j_cald hG 30 (cv_30 _ _ _ _) h (dt dtX8_takeBack_0 18 rfl) (fun v31 h => ?_)
      refine j_if_ne hG (tgt := 39) (dt dtX8_takeBack_0 19 rfl) (by decide) h (fun h => ?_) (fun h => ?_)
      · refine j_iconst hG (v := 2) (dt dtX8_takeBack_0 20 rfl) (by decide) ?_
        refine j_goto hG (tgt := 40) (dt dtX8_takeBack_0 21 rfl) (by decide) ?_
        exact g_f_X8_takeBack_40 hG hE hT h
      · refine j_iconst hG (v := 0) (dt dtX8_takeBack_0 22 rfl) (by decide) ?_
        exact g_f_X8_takeBack_40 hG hE hT h
theorem ct_X8_takeBack {l : Launch} (hl : l.stackTraces = false) (B : wB) (X Y : wM) (o : Int64) (dd : UInt64) (td : wX) {a1 : Int32} {a2 : Int32} {res : (Int32 × wM)} (h : f_X8_takeBack Y a1 a2 = some res) : wMet l B yX8_takeBack cX8_takeBack 3 (some .int) 6 136 0 0 [.ref (wad B 22), .int (a1), .int (a2)] (X, Y, o, dd, td) (rp (some (.int (res.1))) (X, res.2, o, dd, td)) xp0 :=
  wMet.of hl (by decide +kernel) (Nat.le_of_ble_eq_true rfl) (fun G hB hL hG hE hT => by subst hB; exact g_f_X8_takeBack hG hE hT h)
def f_X8_link_28 (Y : wM) (s0 : Int32) : Option (Int32 × wM) :=
  wgd (wokN .char s0) (some (s0, Y))
def f_X8_link (Y : wM) (a1 : Int32) (a2 : Int32) : Option (Int32 × wM) :=
  (f_X8_wrongPair Y a1 a2).bind fun y4 =>
  wfld Y 22 14 y4 fun Y =>
  (if 0 < (Y 22 14) then f_X8_link_28 Y (32 : Int32)
  else (f_X8_linkOf Y a1 a2).bind fun y25 =>
  f_X8_link_28 Y y25)
set_option maxRecDepth 4000 in
theorem g_f_X8_link_28 {G : wG} (hG : wOk G RX8 cX8_link 3 3 69) {X Y : wM} {o : Int64} {dd : UInt64} {td : wX} {res : (Int32 × wM)} (hE : wEnd G (some .char) (rp (some (.int (res.1))) (X, res.2, o, dd, td)) xp0) (hT : wNoTab G) {s0 : Int32} (h : f_X8_link_28 Y s0 = some res) : J G 3 0 0 28 [] [.int (s0)] (X, Y, o, dd, td) := by
  unfold f_X8_link_28 at h
  obtain ⟨c28, h⟩ := wgd_ok h
  obtain rfl := Option.some.inj h
  exact j_zret hG hE (wokN_ok c28) ⟨rfl, rfl⟩ (dt dtX8_link_0 15 rfl)
set_option maxRecDepth 4000 in
theorem g_f_X8_link {G : wG} (hG : wOk G RX8 cX8_link 3 3 69) {X Y : wM} {o : Int64} {dd : UInt64} {td : wX} {res : (Int32 × wM)} (hE : wEnd G (some .char) (rp (some (.int (res.1))) (X, res.2, o, dd, td)) xp0) (hT : wNoTab G) {a1 : Int32} {a2 : Int32} (h : f_X8_link Y a1 a2 = some res) : J G 3 0 0 0 [(0, .ref (wad (gB G) 22)), (1, .int (a1)), (2, .int (a2))] [] (X, Y, o, dd, td) := by
  unfold f_X8_link at h
  refine j_aload_n hG 0 (dt dtX8_link_0 0 rfl) rfl rfl ?_
  refine j_aload_n hG 0 (dt dtX8_link_0 1 rfl) rfl rfl ?_
  refine j_iload_n hG 1 (dt dtX8_link_0 2 rfl) rfl rfl ?_
  refine j_iload_n hG 2 (dt dtX8_link_0 3 rfl) rfl rfl ?_
  refine j_callVp hG h (V := fun y4 => (some (.int (y4)))) (S := fun y4 => (X, Y, o, dd, td)) (kc := 0) (ks := 0) (fun z hz => ct_X8_wrongPair hG.2.2.1 (gB G) _ _ _ _ _ hz) mf_X8_wrongPair ml_X8_134 22 (cv_22 _ _ _ _) rfl rfl (rest := [.ref (wad (gB G) 22)]) rfl (Nat.le_of_ble_eq_true rfl) (dt dtX8_link_0 4 rfl) (by decide) (by decide) (fun y4 h => ?_)
  refine j_put hG cl_X8 22 14 (X := Y) (k := 22) (fun Y => (X, Y, o, dd, td)) (cv_22 _ _ _ _) (by decide) fl_X8_54 rfl rfl rfl rfl rfl (Nat.le_of_ble_eq_true rfl) (cs_22 _ _ _ _ (upd (Y 22) 14 y4)) h (dt dtX8_link_0 5 rfl) (fun Y h => ?_)
  refine j_aload_n hG 0 (dt dtX8_link_0 6 rfl) rfl rfl ?_
  refine j_get hG cl_X8 22 14 (cv_22 _ _ _ _) (by decide) fl_X8_54 rfl rfl (dt dtX8_link_0 7 rfl) ?_
  refine j_if_le hG (tgt := 22) (dt dtX8_link_0 8 rfl) (by decide) h (fun h => ?_) (fun h => ?_)
  · refine j_bipush hG (v := 32) (dt dtX8_link_0 9 rfl) (by decide) ?_
    refine j_goto hG (tgt := 28) (dt dtX8_link_0 10 rfl) (by decide) ?_
    refine j_lv (lv' := []) [] rfl ?_
    exact g_f_X8_link_28 hG hE hT h
  · refine j_aload_n hG 0 (dt dtX8_link_0 11 rfl) rfl rfl ?_
    refine j_iload_n hG 1 (dt dtX8_link_0 12 rfl) rfl rfl ?_
    refine j_iload_n hG 2 (dt dtX8_link_0 13 rfl) rfl rfl ?_
    refine j_callVp hG h (V := fun y25 => (some (.int (y25)))) (S := fun y25 => (X, Y, o, dd, td)) (kc := 0) (ks := 0) (fun z hz => ct_X8_linkOf hG.2.2.1 (gB G) _ _ _ _ _ hz) mf_X8_linkOf ml_X8_103 22 (cv_22 _ _ _ _) rfl rfl (rest := []) rfl (Nat.le_of_ble_eq_true rfl) (dt dtX8_link_0 14 rfl) (by decide) (by decide) (fun y25 h => ?_)
    refine j_lv (lv' := []) [] rfl ?_
    exact g_f_X8_link_28 hG hE hT h
theorem ct_X8_link {l : Launch} (hl : l.stackTraces = false) (B : wB) (X Y : wM) (o : Int64) (dd : UInt64) (td : wX) {a1 : Int32} {a2 : Int32} {res : (Int32 × wM)} (h : f_X8_link Y a1 a2 = some res) : wMet l B yX8_link cX8_link 3 (some .char) 3 69 0 0 [.ref (wad B 22), .int (a1), .int (a2)] (X, Y, o, dd, td) (rp (some (.int (res.1))) (X, res.2, o, dd, td)) xp0 :=
  wMet.of hl (by decide +kernel) (Nat.le_of_ble_eq_true rfl) (fun G hB hL hG hE hT => by subst hB; exact g_f_X8_link hG hE hT h)
def f_X8_openPairs_58 (k4 : wM → Int32 → Int32 → Option (Int32 × wM)) (k14 : wM → Int32 → Int32 → Int32 → Option (Int32 × wM)) (Y : wM) (l2 : Int32) (l3 : Int32) (s0 : Int32) (s1 : Int32) : Option (Int32 × wM) :=
  wbd (s1 + s0) fun v59 =>
  wbd (l3 + 1) fun v60 =>
  k14 Y v59 l2 v60
def f_X8_openPairs_57 (k4 : wM → Int32 → Int32 → Option (Int32 × wM)) (k14 : wM → Int32 → Int32 → Int32 → Option (Int32 × wM)) (Y : wM) (l2 : Int32) (l3 : Int32) (s0 : Int32) : Option (Int32 × wM) :=
  f_X8_openPairs_58 k4 k14 Y l2 l3 (0 : Int32) s0
def f_X8_openPairs_42 (k4 : wM → Int32 → Int32 → Option (Int32 × wM)) (k14 : wM → Int32 → Int32 → Int32 → Option (Int32 × wM)) (Y : wM) (l2 : Int32) (l3 : Int32) (s0 : Int32) : Option (Int32 × wM) :=
  (f_X8_linkOf Y l2 l3).bind fun y45 =>
  (if y45 = 63 then f_X8_openPairs_58 k4 k14 Y l2 l3 (1 : Int32) s0
  else f_X8_openPairs_57 k4 k14 Y l2 l3 s0)
def f_X8_openPairs_14b (k4 : wM → Int32 → Int32 → Option (Int32 × wM)) (k14 : wM → Int32 → Int32 → Int32 → Option (Int32 × wM)) (Y : wM) (l1 : Int32) (l2 : Int32) (l3 : Int32) : Option (Int32 × wM) :=
  (if l3 < l2 then wget 40 (Y 29) l2 fun v25 =>
  (if v25 = 99 then f_X8_openPairs_42 k4 k14 Y l2 l3 l1
  else wget 40 (Y 29) l3 fun v36 =>
  (if v36 = 99 then f_X8_openPairs_42 k4 k14 Y l2 l3 l1
  else f_X8_openPairs_57 k4 k14 Y l2 l3 l1))
  else wbd (l2 + 1) fun v66 =>
  k4 Y l1 v66)
def f_X8_openPairs_14 (k4 : wM → Int32 → Int32 → Option (Int32 × wM)) : Nat → wM → Int32 → Int32 → Int32 → Option (Int32 × wM)
  | 0 => fun _ _ _ _ => none
  | n + 1 => fun Y l1 l2 l3 => f_X8_openPairs_14b k4 (f_X8_openPairs_14 k4 n) Y l1 l2 l3
def f_X8_openPairs_4b (k4 : wM → Int32 → Int32 → Option (Int32 × wM)) (Y : wM) (l1 : Int32) (l2 : Int32) : Option (Int32 × wM) :=
  (if l2 < (Y 22 17) then f_X8_openPairs_14 k4 1000 Y l1 l2 (0 : Int32)
  else (f_X8_plain Y l1).bind fun y74 =>
  some (y74.1, y74.2))
def f_X8_openPairs_4 : Nat → wM → Int32 → Int32 → Option (Int32 × wM)
  | 0 => fun _ _ _ => none
  | n + 1 => fun Y l1 l2 => f_X8_openPairs_4b (f_X8_openPairs_4 n) Y l1 l2
def f_X8_openPairs (Y : wM) : Option (Int32 × wM) :=
  f_X8_openPairs_4 1000 Y (0 : Int32) (0 : Int32)
set_option maxRecDepth 4000 in
theorem g_f_X8_openPairs_58 {G : wG} (hG : wOk G RX8 cX8_openPairs 4 3 69) {X Y : wM} {o : Int64} {dd : UInt64} {td : wX} {res : (Int32 × wM)} (hE : wEnd G (some .int) (rp (some (.int (res.1))) (X, res.2, o, dd, td)) xp0) (hT : wNoTab G) {k4 : wM → Int32 → Int32 → Option (Int32 × wM)} (hk4 : ∀ (Y : wM) (l1 : Int32) (l2 : Int32), k4 Y l1 l2 = some res → J G 4 0 0 4 [(0, .ref (wad (gB G) 22)), (1, .int (l1)), (2, .int (l2))] [] (X, Y, o, dd, td)) {k14 : wM → Int32 → Int32 → Int32 → Option (Int32 × wM)} (hk14 : ∀ (Y : wM) (l1 : Int32) (l2 : Int32) (l3 : Int32), k14 Y l1 l2 l3 = some res → J G 4 0 0 14 [(0, .ref (wad (gB G) 22)), (1, .int (l1)), (2, .int (l2)), (3, .int (l3))] [] (X, Y, o, dd, td)) {l2 : Int32} {l3 : Int32} {s0 : Int32} {s1 : Int32} (h : f_X8_openPairs_58 k4 k14 Y l2 l3 s0 s1 = some res) : J G 4 0 0 58 [(0, .ref (wad (gB G) 22)), (2, .int (l2)), (3, .int (l3))] [.int (s0), .int (s1)] (X, Y, o, dd, td) := by
  unfold f_X8_openPairs_58 at h
  refine j_iadd hG (dt dtX8_openPairs_0 35 rfl) ?_
  refine j_istoreB_n hG (fun v59 => [(1, .int (v59)), (0, .ref (wad (gB G) 22)), (2, .int (l2)), (3, .int (l3))]) (dt dtX8_openPairs_0 36 rfl) rfl (by decide) (fun _ => rfl) h (fun v59 h => ?_)
  refine j_iincB hG 3 (fun v60 => [(3, .int (v60)), (1, .int (v59)), (0, .ref (wad (gB G) 22)), (2, .int (l2))]) (dt dtX8_openPairs_0 37 rfl) rfl rfl (by decide) (fun _ => rfl) h (fun v60 h => ?_)
  refine j_goto hG (tgt := 14) (dt dtX8_openPairs_0 38 rfl) (by decide) ?_
  refine j_lv (lv' := [(0, .ref (wad (gB G) 22)), (1, .int (v59)), (2, .int (l2)), (3, .int (v60))]) [2, 1, 3, 0] rfl ?_
  exact hk14 Y v59 l2 v60 h
set_option maxRecDepth 4000 in
theorem g_f_X8_openPairs_57 {G : wG} (hG : wOk G RX8 cX8_openPairs 4 3 69) {X Y : wM} {o : Int64} {dd : UInt64} {td : wX} {res : (Int32 × wM)} (hE : wEnd G (some .int) (rp (some (.int (res.1))) (X, res.2, o, dd, td)) xp0) (hT : wNoTab G) {k4 : wM → Int32 → Int32 → Option (Int32 × wM)} (hk4 : ∀ (Y : wM) (l1 : Int32) (l2 : Int32), k4 Y l1 l2 = some res → J G 4 0 0 4 [(0, .ref (wad (gB G) 22)), (1, .int (l1)), (2, .int (l2))] [] (X, Y, o, dd, td)) {k14 : wM → Int32 → Int32 → Int32 → Option (Int32 × wM)} (hk14 : ∀ (Y : wM) (l1 : Int32) (l2 : Int32) (l3 : Int32), k14 Y l1 l2 l3 = some res → J G 4 0 0 14 [(0, .ref (wad (gB G) 22)), (1, .int (l1)), (2, .int (l2)), (3, .int (l3))] [] (X, Y, o, dd, td)) {l2 : Int32} {l3 : Int32} {s0 : Int32} (h : f_X8_openPairs_57 k4 k14 Y l2 l3 s0 = some res) : J G 4 0 0 57 [(0, .ref (wad (gB G) 22)), (2, .int (l2)), (3, .int (l3))] [.int (s0)] (X, Y, o, dd, td) := by
  unfold f_X8_openPairs_57 at h
  refine j_iconst hG (v := 0) (dt dtX8_openPairs_0 34 rfl) (by decide) ?_
  exact g_f_X8_openPairs_58 hG hE hT hk4 hk14 h
set_option maxRecDepth 4000 in
theorem g_f_X8_openPairs_42 {G : wG} (hG : wOk G RX8 cX8_openPairs 4 3 69) {X Y : wM} {o : Int64} {dd : UInt64} {td : wX} {res : (Int32 × wM)} (hE : wEnd G (some .int) (rp (some (.int (res.1))) (X, res.2, o, dd, td)) xp0) (hT : wNoTab G) {k4 : wM → Int32 → Int32 → Option (Int32 × wM)} (hk4 : ∀ (Y : wM) (l1 : Int32) (l2 : Int32), k4 Y l1 l2 = some res → J G 4 0 0 4 [(0, .ref (wad (gB G) 22)), (1, .int (l1)), (2, .int (l2))] [] (X, Y, o, dd, td)) {k14 : wM → Int32 → Int32 → Int32 → Option (Int32 × wM)} (hk14 : ∀ (Y : wM) (l1 : Int32) (l2 : Int32) (l3 : Int32), k14 Y l1 l2 l3 = some res → J G 4 0 0 14 [(0, .ref (wad (gB G) 22)), (1, .int (l1)), (2, .int (l2)), (3, .int (l3))] [] (X, Y, o, dd, td)) {l2 : Int32} {l3 : Int32} {s0 : Int32} (h : f_X8_openPairs_42 k4 k14 Y l2 l3 s0 = some res) : J G 4 0 0 42 [(0, .ref (wad (gB G) 22)), (2, .int (l2)), (3, .int (l3))] [.int (s0)] (X, Y, o, dd, td) := by
  unfold f_X8_openPairs_42 at h
  refine j_aload_n hG 0 (dt dtX8_openPairs_0 26 rfl) rfl rfl ?_
  refine j_iload_n hG 1 (dt dtX8_openPairs_0 27 rfl) rfl rfl ?_
  refine j_iload_n hG 2 (dt dtX8_openPairs_0 28 rfl) rfl rfl ?_
  refine j_callVp hG h (V := fun y45 => (some (.int (y45)))) (S := fun y45 => (X, Y, o, dd, td)) (kc := 0) (ks := 0) (fun z hz => ct_X8_linkOf hG.2.2.1 (gB G) _ _ _ _ _ hz) mf_X8_linkOf ml_X8_103 22 (cv_22 _ _ _ _) rfl rfl (rest := [.int (s0)]) rfl (Nat.le_of_ble_eq_true rfl) (dt dtX8_openPairs_0 29 rfl) (by decide) (by decide) (fun y45 h => ?_)
  refine j_bipush hG (v := 63) (dt dtX8_openPairs_0 30 rfl) (by decide) ?_
  refine j_icmp_ne hG (tgt := 57) (dt dtX8_openPairs_0 31 rfl) (by decide) h (fun h => ?_) (fun h => ?_)
  · refine j_iconst hG (v := 1) (dt dtX8_openPairs_0 32 rfl) (by decide) ?_
    refine j_goto hG (tgt := 58) (dt dtX8_openPairs_0 33 rfl) (by decide) ?_
    exact g_f_X8_openPairs_58 hG hE hT hk4 hk14 h
  · exact g_f_X8_openPairs_57 hG hE hT hk4 hk14 h
set_option maxRecDepth 4000 in
theorem g_f_X8_openPairs_14b {G : wG} (hG : wOk G RX8 cX8_openPairs 4 3 69) {X Y : wM} {o : Int64} {dd : UInt64} {td : wX} {res : (Int32 × wM)} (hE : wEnd G (some .int) (rp (some (.int (res.1))) (X, res.2, o, dd, td)) xp0) (hT : wNoTab G) {k4 : wM → Int32 → Int32 → Option (Int32 × wM)} (hk4 : ∀ (Y : wM) (l1 : Int32) (l2 : Int32), k4 Y l1 l2 = some res → J G 4 0 0 4 [(0, .ref (wad (gB G) 22)), (1, .int (l1)), (2, .int (l2))] [] (X, Y, o, dd, td)) {k14 : wM → Int32 → Int32 → Int32 → Option (Int32 × wM)} (hk14 : ∀ (Y : wM) (l1 : Int32) (l2 : Int32) (l3 : Int32), k14 Y l1 l2 l3 = some res → J G 4 0 0 14 [(0, .ref (wad (gB G) 22)), (1, .int (l1)), (2, .int (l2)), (3, .int (l3))] [] (X, Y, o, dd, td)) {l1 : Int32} {l2 : Int32} {l3 : Int32} (h : f_X8_openPairs_14b k4 k14 Y l1 l2 l3 = some res) : J G 4 0 0 14 [(0, .ref (wad (gB G) 22)), (1, .int (l1)), (2, .int (l2)), (3, .int (l3))] [] (X, Y, o, dd, td) := by
  unfold f_X8_openPairs_14b at h
  refine j_iload_n hG 3 (dt dtX8_openPairs_0 10 rfl) rfl rfl ?_
  refine j_iload_n hG 2 (dt dtX8_openPairs_0 11 rfl) rfl rfl ?_
  refine j_icmp_ge hG (tgt := 66) (dt dtX8_openPairs_0 12 rfl) (by decide) h (fun h => ?_) (fun h => ?_)
  · refine j_iload_n hG 1 (dt dtX8_openPairs_0 13 rfl) rfl rfl ?_
    refine j_aload_n hG 0 (dt dtX8_openPairs_0 14 rfl) rfl rfl ?_
    refine j_get hG cl_X8 22 6 (cv_22 _ _ _ _) (by decide) fl_X8_28 rfl rfl (dt dtX8_openPairs_0 15 rfl) ?_
    refine j_iload_n hG 2 (dt dtX8_openPairs_0 16 rfl) rfl rfl ?_
    refine j_cald hG 29 (cv_29 _ _ _ _) h (dt dtX8_openPairs_0 17 rfl) (fun v25 h => ?_)
    refine j_bipush hG (v := 99) (dt dtX8_openPairs_0 18 rfl) (by decide) ?_
    refine j_icmp_eq hG (tgt := 42) (dt dtX8_openPairs_0 19 rfl) (by decide) h (fun h => ?_) (fun h => ?_)
    · refine j_lv (lv' := [(0, .ref (wad (gB G) 22)), (2, .int (l2)), (3, .int (l3))]) [0, 2, 3] rfl ?_
      exact g_f_X8_openPairs_42 hG hE hT hk4 hk14 h
    · refine j_aload_n hG 0 (dt dtX8_openPairs_0 20 rfl) rfl rfl ?_
      refine j_get hG cl_X8 22 6 (cv_22 _ _ _ _) (by decide) fl_X8_28 rfl rfl (dt dtX8_openPairs_0 21 rfl) ?_
      refine j_iload_n hG 3 (dt dtX8_openPairs_0 22 rfl) rfl rfl ?_
      refine j_cald hG 29 (cv_29 _ _ _ _) h (dt dtX8_openPairs_0 23 rfl) (fun v36 h => ?_)
      refine j_bipush hG (v := 99) (dt dtX8_openPairs_0 24 rfl) (by decide) ?_
      refine j_icmp_ne hG (tgt := 57) (dt dtX8_openPairs_0 25 rfl) (by decide) h (fun h => ?_) (fun h => ?_)
      · refine j_lv (lv' := [(0, .ref (wad (gB G) 22)), (2, .int (l2)), (3, .int (l3))]) [0, 2, 3] rfl ?_
        exact g_f_X8_openPairs_42 hG hE hT hk4 hk14 h
      · refine j_lv (lv' := [(0, .ref (wad (gB G) 22)), (2, .int (l2)), (3, .int (l3))]) [0, 2, 3] rfl ?_
        exact g_f_X8_openPairs_57 hG hE hT hk4 hk14 h
  · refine j_iincB hG 2 (fun v66 => [(2, .int (v66)), (0, .ref (wad (gB G) 22)), (1, .int (l1)), (3, .int (l3))]) (dt dtX8_openPairs_0 39 rfl) rfl rfl (by decide) (fun _ => rfl) h (fun v66 h => ?_)
    refine j_goto hG (tgt := 4) (dt dtX8_openPairs_0 40 rfl) (by decide) ?_
    refine j_lv (lv' := [(0, .ref (wad (gB G) 22)), (1, .int (l1)), (2, .int (v66))]) [1, 2, 0] rfl ?_
    exact hk4 Y l1 v66 h
set_option maxRecDepth 4000 in
theorem g_f_X8_openPairs_14 {G : wG} (hG : wOk G RX8 cX8_openPairs 4 3 69) {X : wM} {o : Int64} {dd : UInt64} {td : wX} {res : (Int32 × wM)} (hE : wEnd G (some .int) (rp (some (.int (res.1))) (X, res.2, o, dd, td)) xp0) (hT : wNoTab G) {k4 : wM → Int32 → Int32 → Option (Int32 × wM)} (hk4 : ∀ (Y : wM) (l1 : Int32) (l2 : Int32), k4 Y l1 l2 = some res → J G 4 0 0 4 [(0, .ref (wad (gB G) 22)), (1, .int (l1)), (2, .int (l2))] [] (X, Y, o, dd, td)) (n : Nat) : ∀ (Y : wM) (l1 : Int32) (l2 : Int32) (l3 : Int32), f_X8_openPairs_14 k4 n Y l1 l2 l3 = some res → J G 4 0 0 14 [(0, .ref (wad (gB G) 22)), (1, .int (l1)), (2, .int (l2)), (3, .int (l3))] [] (X, Y, o, dd, td) := by
  induction n with
  | zero => intro Y l1 l2 l3 h; cases h
  | succ n ih =>
    intro Y l1 l2 l3 h
    exact g_f_X8_openPairs_14b hG hE hT hk4 ih h
set_option maxRecDepth 4000 in
theorem g_f_X8_openPairs_4b {G : wG} (hG : wOk G RX8 cX8_openPairs 4 3 69) {X Y : wM} {o : Int64} {dd : UInt64} {td : wX} {res : (Int32 × wM)} (hE : wEnd G (some .int) (rp (some (.int (res.1))) (X, res.2, o, dd, td)) xp0) (hT : wNoTab G) {k4 : wM → Int32 → Int32 → Option (Int32 × wM)} (hk4 : ∀ (Y : wM) (l1 : Int32) (l2 : Int32), k4 Y l1 l2 = some res → J G 4 0 0 4 [(0, .ref (wad (gB G) 22)), (1, .int (l1)), (2, .int (l2))] [] (X, Y, o, dd, td)) {l1 : Int32} {l2 : Int32} (h : f_X8_openPairs_4b k4 Y l1 l2 = some res) : J G 4 0 0 4 [(0, .ref (wad (gB G) 22)), (1, .int (l1)), (2, .int (l2))] [] (X, Y, o, dd, td) := by
  unfold f_X8_openPairs_4b at h
  refine j_iload_n hG 2 (dt dtX8_openPairs_0 4 rfl) rfl rfl ?_
  refine j_aload_n hG 0 (dt dtX8_openPairs_0 5 rfl) rfl rfl ?_
  refine j_get hG cl_X8 22 17 (cv_22 _ _ _ _) (by decide) fl_X8_64 rfl rfl (dt dtX8_openPairs_0 6 rfl) ?_
  refine j_icmp_ge hG (tgt := 72) (dt dtX8_openPairs_0 7 rfl) (by decide) h (fun h => ?_) (fun h => ?_)
  · refine j_iconst hG (v := 0) (dt dtX8_openPairs_0 8 rfl) (by decide) ?_
    refine j_istore_n hG (lv' := [(3, .int (0)), (0, .ref (wad (gB G) 22)), (1, .int (l1)), (2, .int (l2))]) (dt dtX8_openPairs_0 9 rfl) rfl (by decide) rfl ?_
    refine j_lv (lv' := [(0, .ref (wad (gB G) 22)), (1, .int (l1)), (2, .int (l2)), (3, .int (0))]) [1, 2, 3, 0] rfl ?_
    exact g_f_X8_openPairs_14 hG hE hT hk4 1000 Y l1 l2 (0 : Int32) h
  · refine j_aload_n hG 0 (dt dtX8_openPairs_0 41 rfl) rfl rfl ?_
    refine j_iload_n hG 1 (dt dtX8_openPairs_0 42 rfl) rfl rfl ?_
    refine j_callVp hG h (V := fun y74 => (some (.int (y74.1)))) (S := fun y74 => (X, y74.2, o, dd, td)) (kc := 0) (ks := 0) (fun z hz => ct_X8_plain hG.2.2.1 (gB G) _ _ _ _ _ hz) mf_X8_plain ml_X8_141 22 (cv_22 _ _ _ _) rfl rfl (rest := []) rfl (Nat.le_of_ble_eq_true rfl) (dt dtX8_openPairs_0 43 rfl) (by decide) (by decide) (fun y74 h => ?_)
    obtain rfl := Option.some.inj h
    exact j_iret hG hE ⟨rfl, rfl⟩ (dt dtX8_openPairs_0 44 rfl)
set_option maxRecDepth 4000 in
theorem g_f_X8_openPairs_4 {G : wG} (hG : wOk G RX8 cX8_openPairs 4 3 69) {X : wM} {o : Int64} {dd : UInt64} {td : wX} {res : (Int32 × wM)} (hE : wEnd G (some .int) (rp (some (.int (res.1))) (X, res.2, o, dd, td)) xp0) (hT : wNoTab G) (n : Nat) : ∀ (Y : wM) (l1 : Int32) (l2 : Int32), f_X8_openPairs_4 n Y l1 l2 = some res → J G 4 0 0 4 [(0, .ref (wad (gB G) 22)), (1, .int (l1)), (2, .int (l2))] [] (X, Y, o, dd, td) := by
  induction n with
  | zero => intro Y l1 l2 h; cases h
  | succ n ih =>
    intro Y l1 l2 h
    exact g_f_X8_openPairs_4b hG hE hT ih h
set_option maxRecDepth 4000 in
theorem g_f_X8_openPairs {G : wG} (hG : wOk G RX8 cX8_openPairs 4 3 69) {X Y : wM} {o : Int64} {dd : UInt64} {td : wX} {res : (Int32 × wM)} (hE : wEnd G (some .int) (rp (some (.int (res.1))) (X, res.2, o, dd, td)) xp0) (hT : wNoTab G) (h : f_X8_openPairs Y = some res) : J G 4 0 0 0 [(0, .ref (wad (gB G) 22))] [] (X, Y, o, dd, td) := by
  unfold f_X8_openPairs at h
  refine j_iconst hG (v := 0) (dt dtX8_openPairs_0 0 rfl) (by decide) ?_
  refine j_istore_n hG (lv' := [(1, .int (0)), (0, .ref (wad (gB G) 22))]) (dt dtX8_openPairs_0 1 rfl) rfl (by decide) rfl ?_
  refine j_iconst hG (v := 0) (dt dtX8_openPairs_0 2 rfl) (by decide) ?_
  refine j_istore_n hG (lv' := [(2, .int (0)), (1, .int (0)), (0, .ref (wad (gB G) 22))]) (dt dtX8_openPairs_0 3 rfl) rfl (by decide) rfl ?_
  refine j_lv (lv' := [(0, .ref (wad (gB G) 22)), (1, .int (0)), (2, .int (0))]) [2, 1, 0] rfl ?_
  exact g_f_X8_openPairs_4 hG hE hT 1000 Y (0 : Int32) (0 : Int32) h
theorem ct_X8_openPairs {l : Launch} (hl : l.stackTraces = false) (B : wB) (X Y : wM) (o : Int64) (dd : UInt64) (td : wX) {res : (Int32 × wM)} (h : f_X8_openPairs Y = some res) : wMet l B yX8_openPairs cX8_openPairs 4 (some .int) 3 69 0 0 [.ref (wad B 22)] (X, Y, o, dd, td) (rp (some (.int (res.1))) (X, res.2, o, dd, td)) xp0 :=
  wMet.of hl (by decide +kernel) (Nat.le_of_ble_eq_true rfl) (fun G hB hL hG hE hT => by subst hB; exact g_f_X8_openPairs hG hE hT h)
def f_X8_isDouble_30 (Y : wM) (s0 : Int32) : Option (Int32 × wM) :=
  wgd (wokN .boolean s0) (some (s0, Y))
def f_X8_isDouble_29 (Y : wM) : Option (Int32 × wM) :=
  f_X8_isDouble_30 Y (0 : Int32)
def f_X8_isDouble (Y : wM) (a1 : Int32) : Option (Int32 × wM) :=
  (f_X8_layDoubles Y).bind fun y1 =>
  (f_X8_isRecord y1 a1).bind fun y7 =>
  (f_X8_checked y1 y7).bind fun y10 =>
  (if y10.1 = 0 then wget 40 (y10.2 31) a1 fun v21 =>
  (if v21 = 0 then f_X8_isDouble_29 y10.2
  else f_X8_isDouble_30 y10.2 (1 : Int32))
  else f_X8_isDouble_29 y10.2)
set_option maxRecDepth 4000 in
theorem g_f_X8_isDouble_30 {G : wG} (hG : wOk G RX8 cX8_isDouble 2 4 91) {X Y : wM} {o : Int64} {dd : UInt64} {td : wX} {res : (Int32 × wM)} (hE : wEnd G (some .boolean) (rp (some (.int (res.1))) (X, res.2, o, dd, td)) xp0) (hT : wNoTab G) {s0 : Int32} (h : f_X8_isDouble_30 Y s0 = some res) : J G 2 0 0 30 [] [.int (s0)] (X, Y, o, dd, td) := by
  unfold f_X8_isDouble_30 at h
  obtain ⟨c30, h⟩ := wgd_ok h
  obtain rfl := Option.some.inj h
  exact j_zret hG hE (wokN_ok c30) ⟨rfl, rfl⟩ (dt dtX8_isDouble_0 16 rfl)
set_option maxRecDepth 4000 in
theorem g_f_X8_isDouble_29 {G : wG} (hG : wOk G RX8 cX8_isDouble 2 4 91) {X Y : wM} {o : Int64} {dd : UInt64} {td : wX} {res : (Int32 × wM)} (hE : wEnd G (some .boolean) (rp (some (.int (res.1))) (X, res.2, o, dd, td)) xp0) (hT : wNoTab G) (h : f_X8_isDouble_29 Y = some res) : J G 2 0 0 29 [] [] (X, Y, o, dd, td) := by
  unfold f_X8_isDouble_29 at h
  refine j_iconst hG (v := 0) (dt dtX8_isDouble_0 15 rfl) (by decide) ?_
  exact g_f_X8_isDouble_30 hG hE hT h
set_option maxRecDepth 4000 in
theorem g_f_X8_isDouble {G : wG} (hG : wOk G RX8 cX8_isDouble 2 4 91) {X Y : wM} {o : Int64} {dd : UInt64} {td : wX} {res : (Int32 × wM)} (hE : wEnd G (some .boolean) (rp (some (.int (res.1))) (X, res.2, o, dd, td)) xp0) (hT : wNoTab G) {a1 : Int32} (h : f_X8_isDouble Y a1 = some res) : J G 2 0 0 0 [(0, .ref (wad (gB G) 22)), (1, .int (a1))] [] (X, Y, o, dd, td) := by
  unfold f_X8_isDouble at h
  refine j_aload_n hG 0 (dt dtX8_isDouble_0 0 rfl) rfl rfl ?_
  refine j_callVp hG h (V := fun y1 => none) (S := fun y1 => (X, y1, o, dd, td)) (kc := 0) (ks := 0) (fun z hz => ct_X8_layDoubles hG.2.2.1 (gB G) _ _ _ _ _ hz) mf_X8_layDoubles ml_X8_107 22 (cv_22 _ _ _ _) rfl rfl (rest := []) rfl (Nat.le_of_ble_eq_true rfl) (dt dtX8_isDouble_0 1 rfl) (by decide) (by decide) (fun y1 h => ?_)
  refine j_aload_n hG 0 (dt dtX8_isDouble_0 2 rfl) rfl rfl ?_
  refine j_aload_n hG 0 (dt dtX8_isDouble_0 3 rfl) rfl rfl ?_
  refine j_iload_n hG 1 (dt dtX8_isDouble_0 4 rfl) rfl rfl ?_
  refine j_callVp hG h (V := fun y7 => (some (.int (y7)))) (S := fun y7 => (X, y1, o, dd, td)) (kc := 0) (ks := 0) (fun z hz => ct_X8_isRecord hG.2.2.1 (gB G) _ _ _ _ _ hz) mf_X8_isRecord ml_X8_131 22 (cv_22 _ _ _ _) rfl rfl (rest := [.ref (wad (gB G) 22)]) rfl (Nat.le_of_ble_eq_true rfl) (dt dtX8_isDouble_0 5 rfl) (by decide) (by decide) (fun y7 h => ?_)
  refine j_callVp hG h (V := fun y10 => (some (.int (y10.1)))) (S := fun y10 => (X, y10.2, o, dd, td)) (kc := 0) (ks := 0) (fun z hz => ct_X8_checked hG.2.2.1 (gB G) _ _ _ _ _ hz) mf_X8_checked ml_X8_120 22 (cv_22 _ _ _ _) rfl rfl (rest := []) rfl (Nat.le_of_ble_eq_true rfl) (dt dtX8_isDouble_0 6 rfl) (by decide) (by decide) (fun y10 h => ?_)
  refine j_if_ne hG (tgt := 29) (dt dtX8_isDouble_0 7 rfl) (by decide) h (fun h => ?_) (fun h => ?_)
  · refine j_aload_n hG 0 (dt dtX8_isDouble_0 8 rfl) rfl rfl ?_
    refine j_get hG cl_X8 22 8 (cv_22 _ _ _ _) (by decide) fl_X8_35 rfl rfl (dt dtX8_isDouble_0 9 rfl) ?_
    refine j_iload_n hG 1 (dt dtX8_isDouble_0 10 rfl) rfl rfl ?_
    refine j_zald hG 31 (cv_31 _ _ _ _) h (dt dtX8_isDouble_0 11 rfl) (fun v21 h => ?_)
    refine j_if_eq hG (tgt := 29) (dt dtX8_isDouble_0 12 rfl) (by decide) h (fun h => ?_) (fun h => ?_)
    · refine j_lv (lv' := []) [] rfl ?_
      exact g_f_X8_isDouble_29 hG hE hT h
    · refine j_iconst hG (v := 1) (dt dtX8_isDouble_0 13 rfl) (by decide) ?_
      refine j_goto hG (tgt := 30) (dt dtX8_isDouble_0 14 rfl) (by decide) ?_
      refine j_lv (lv' := []) [] rfl ?_
      exact g_f_X8_isDouble_30 hG hE hT h
  · refine j_lv (lv' := []) [] rfl ?_
    exact g_f_X8_isDouble_29 hG hE hT h
theorem ct_X8_isDouble {l : Launch} (hl : l.stackTraces = false) (B : wB) (X Y : wM) (o : Int64) (dd : UInt64) (td : wX) {a1 : Int32} {res : (Int32 × wM)} (h : f_X8_isDouble Y a1 = some res) : wMet l B yX8_isDouble cX8_isDouble 2 (some .boolean) 4 91 0 0 [.ref (wad B 22), .int (a1)] (X, Y, o, dd, td) (rp (some (.int (res.1))) (X, res.2, o, dd, td)) xp0 :=
  wMet.of hl (by decide +kernel) (Nat.le_of_ble_eq_true rfl) (fun G hB hL hG hE hT => by subst hB; exact g_f_X8_isDouble hG hE hT h)
def f_X8_matchOf_51 (Y : wM) (s0 : Int32) : Option (Int32 × wM) :=
  some (s0, Y)
def f_X8_matchOf_31 (Y : wM) (l1 : Int32) (s0 : Int32) : Option (Int32 × wM) :=
  wfld Y 22 14 s0 fun Y =>
  (if 0 < (Y 22 14) then f_X8_matchOf_51 Y (0 : Int32)
  else wget 40 (Y 27) l1 fun v50 =>
  f_X8_matchOf_51 Y v50)
def f_X8_matchOf (Y : wM) (a1 : Int32) : Option (Int32 × wM) :=
  (f_X8_layMatches Y).bind fun y1 =>
  (f_X8_isRecord y1 a1).bind fun y7 =>
  (if y7 = 0 then f_X8_matchOf_31 y1 a1 (1 : Int32)
  else wget 40 (y1 27) a1 fun v22 =>
  (if v22 < 0 then f_X8_matchOf_31 y1 a1 (2 : Int32)
  else f_X8_matchOf_31 y1 a1 (0 : Int32)))
set_option maxRecDepth 4000 in
theorem g_f_X8_matchOf_51 {G : wG} (hG : wOk G RX8 cX8_matchOf 2 5 114) {X Y : wM} {o : Int64} {dd : UInt64} {td : wX} {res : (Int32 × wM)} (hE : wEnd G (some .int) (rp (some (.int (res.1))) (X, res.2, o, dd, td)) xp0) (hT : wNoTab G) {s0 : Int32} (h : f_X8_matchOf_51 Y s0 = some res) : J G 2 0 0 51 [] [.int (s0)] (X, Y, o, dd, td) := by
  unfold f_X8_matchOf_51 at h
  obtain rfl := Option.some.inj h
  exact j_iret hG hE ⟨rfl, rfl⟩ (dt dtX8_matchOf_0 27 rfl)
set_option maxRecDepth 4000 in
theorem g_f_X8_matchOf_31 {G : wG} (hG : wOk G RX8 cX8_matchOf 2 5 114) {X Y : wM} {o : Int64} {dd : UInt64} {td : wX} {res : (Int32 × wM)} (hE : wEnd G (some .int) (rp (some (.int (res.1))) (X, res.2, o, dd, td)) xp0) (hT : wNoTab G) {l1 : Int32} {s0 : Int32} (h : f_X8_matchOf_31 Y l1 s0 = some res) : J G 2 0 0 31 [(0, .ref (wad (gB G) 22)), (1, .int (l1))] [.int (s0), .ref (wad (gB G) 22)] (X, Y, o, dd, td) := by
  unfold f_X8_matchOf_31 at h
  refine j_put hG cl_X8 22 14 (X := Y) (k := 22) (fun Y => (X, Y, o, dd, td)) (cv_22 _ _ _ _) (by decide) fl_X8_54 rfl rfl rfl rfl rfl (Nat.le_of_ble_eq_true rfl) (cs_22 _ _ _ _ (upd (Y 22) 14 s0)) h (dt dtX8_matchOf_0 17 rfl) (fun Y h => ?_)
  refine j_aload_n hG 0 (dt dtX8_matchOf_0 18 rfl) rfl rfl ?_
  refine j_get hG cl_X8 22 14 (cv_22 _ _ _ _) (by decide) fl_X8_54 rfl rfl (dt dtX8_matchOf_0 19 rfl) ?_
  refine j_if_le hG (tgt := 45) (dt dtX8_matchOf_0 20 rfl) (by decide) h (fun h => ?_) (fun h => ?_)
  · refine j_iconst hG (v := 0) (dt dtX8_matchOf_0 21 rfl) (by decide) ?_
    refine j_goto hG (tgt := 51) (dt dtX8_matchOf_0 22 rfl) (by decide) ?_
    refine j_lv (lv' := []) [] rfl ?_
    exact g_f_X8_matchOf_51 hG hE hT h
  · refine j_aload_n hG 0 (dt dtX8_matchOf_0 23 rfl) rfl rfl ?_
    refine j_get hG cl_X8 22 4 (cv_22 _ _ _ _) (by decide) fl_X8_22 rfl rfl (dt dtX8_matchOf_0 24 rfl) ?_
    refine j_iload_n hG 1 (dt dtX8_matchOf_0 25 rfl) rfl rfl ?_
    refine j_iald hG 27 (cv_27 _ _ _ _) h (dt dtX8_matchOf_0 26 rfl) (fun v50 h => ?_)
    refine j_lv (lv' := []) [] rfl ?_
    exact g_f_X8_matchOf_51 hG hE hT h
set_option maxRecDepth 4000 in
theorem g_f_X8_matchOf {G : wG} (hG : wOk G RX8 cX8_matchOf 2 5 114) {X Y : wM} {o : Int64} {dd : UInt64} {td : wX} {res : (Int32 × wM)} (hE : wEnd G (some .int) (rp (some (.int (res.1))) (X, res.2, o, dd, td)) xp0) (hT : wNoTab G) {a1 : Int32} (h : f_X8_matchOf Y a1 = some res) : J G 2 0 0 0 [(0, .ref (wad (gB G) 22)), (1, .int (a1))] [] (X, Y, o, dd, td) := by
  unfold f_X8_matchOf at h
  refine j_aload_n hG 0 (dt dtX8_matchOf_0 0 rfl) rfl rfl ?_
  refine j_callVp hG h (V := fun y1 => none) (S := fun y1 => (X, y1, o, dd, td)) (kc := 0) (ks := 0) (fun z hz => ct_X8_layMatches hG.2.2.1 (gB G) _ _ _ _ _ hz) mf_X8_layMatches ml_X8_144 22 (cv_22 _ _ _ _) rfl rfl (rest := []) rfl (Nat.le_of_ble_eq_true rfl) (dt dtX8_matchOf_0 1 rfl) (by decide) (by decide) (fun y1 h => ?_)
  refine j_aload_n hG 0 (dt dtX8_matchOf_0 2 rfl) rfl rfl ?_
  refine j_aload_n hG 0 (dt dtX8_matchOf_0 3 rfl) rfl rfl ?_
  refine j_iload_n hG 1 (dt dtX8_matchOf_0 4 rfl) rfl rfl ?_
  refine j_callVp hG h (V := fun y7 => (some (.int (y7)))) (S := fun y7 => (X, y1, o, dd, td)) (kc := 0) (ks := 0) (fun z hz => ct_X8_isRecord hG.2.2.1 (gB G) _ _ _ _ _ hz) mf_X8_isRecord ml_X8_131 22 (cv_22 _ _ _ _) rfl rfl (rest := [.ref (wad (gB G) 22)]) rfl (Nat.le_of_ble_eq_true rfl) (dt dtX8_matchOf_0 5 rfl) (by decide) (by decide) (fun y7 h => ?_)
  refine j_if_ne hG (tgt := 17) (dt dtX8_matchOf_0 6 rfl) (by decide) h (fun h => ?_) (fun h => ?_)
  · refine j_iconst hG (v := 1) (dt dtX8_matchOf_0 7 rfl) (by decide) ?_
    refine j_goto hG (tgt := 31) (dt dtX8_matchOf_0 8 rfl) (by decide) ?_
    exact g_f_X8_matchOf_31 hG hE hT h
  · refine j_aload_n hG 0 (dt dtX8_matchOf_0 9 rfl) rfl rfl ?_
    refine j_get hG cl_X8 22 4 (cv_22 _ _ _ _) (by decide) fl_X8_22 rfl rfl (dt dtX8_matchOf_0 10 rfl) ?_
    refine j_iload_n hG 1 (dt dtX8_matchOf_0 11 rfl) rfl rfl ?_
    refine j_iald hG 27 (cv_27 _ _ _ _) h (dt dtX8_matchOf_0 12 rfl) (fun v22 h => ?_)
    refine j_if_ge hG (tgt := 30) (dt dtX8_matchOf_0 13 rfl) (by decide) h (fun h => ?_) (fun h => ?_)
    · refine j_iconst hG (v := 2) (dt dtX8_matchOf_0 14 rfl) (by decide) ?_
      refine j_goto hG (tgt := 31) (dt dtX8_matchOf_0 15 rfl) (by decide) ?_
      exact g_f_X8_matchOf_31 hG hE hT h
    · refine j_iconst hG (v := 0) (dt dtX8_matchOf_0 16 rfl) (by decide) ?_
      exact g_f_X8_matchOf_31 hG hE hT h
theorem ct_X8_matchOf {l : Launch} (hl : l.stackTraces = false) (B : wB) (X Y : wM) (o : Int64) (dd : UInt64) (td : wX) {a1 : Int32} {res : (Int32 × wM)} (h : f_X8_matchOf Y a1 = some res) : wMet l B yX8_matchOf cX8_matchOf 2 (some .int) 5 114 0 0 [.ref (wad B 22), .int (a1)] (X, Y, o, dd, td) (rp (some (.int (res.1))) (X, res.2, o, dd, td)) xp0 :=
  wMet.of hl (by decide +kernel) (Nat.le_of_ble_eq_true rfl) (fun G hB hL hG hE hT => by subst hB; exact g_f_X8_matchOf hG hE hT h)
def f_X8_matches (Y : wM) : Option (Int32 × wM) :=
  (f_X8_layMatches Y).bind fun y1 =>
  (f_X8_plain y1 (y1 22 24)).bind fun y9 =>
  some (y9.1, y9.2)
set_option maxRecDepth 4000 in
theorem g_f_X8_matches {G : wG} (hG : wOk G RX8 cX8_matches 1 5 114) {X Y : wM} {o : Int64} {dd : UInt64} {td : wX} {res : (Int32 × wM)} (hE : wEnd G (some .int) (rp (some (.int (res.1))) (X, res.2, o, dd, td)) xp0) (hT : wNoTab G) (h : f_X8_matches Y = some res) : J G 1 0 0 0 [(0, .ref (wad (gB G) 22))] [] (X, Y, o, dd, td) := by
  unfold f_X8_matches at h
  refine j_aload_n hG 0 (dt dtX8_matches_0 0 rfl) rfl rfl ?_
  refine j_callVp hG h (V := fun y1 => none) (S := fun y1 => (X, y1, o, dd, td)) (kc := 0) (ks := 0) (fun z hz => ct_X8_layMatches hG.2.2.1 (gB G) _ _ _ _ _ hz) mf_X8_layMatches ml_X8_144 22 (cv_22 _ _ _ _) rfl rfl (rest := []) rfl (Nat.le_of_ble_eq_true rfl) (dt dtX8_matches_0 1 rfl) (by decide) (by decide) (fun y1 h => ?_)
  refine j_aload_n hG 0 (dt dtX8_matches_0 2 rfl) rfl rfl ?_
  refine j_aload_n hG 0 (dt dtX8_matches_0 3 rfl) rfl rfl ?_
  refine j_get hG cl_X8 22 24 (cv_22 _ _ _ _) (by decide) fl_X8_85 rfl rfl (dt dtX8_matches_0 4 rfl) ?_
  refine j_callVp hG h (V := fun y9 => (some (.int (y9.1)))) (S := fun y9 => (X, y9.2, o, dd, td)) (kc := 0) (ks := 0) (fun z hz => ct_X8_plain hG.2.2.1 (gB G) _ _ _ _ _ hz) mf_X8_plain ml_X8_141 22 (cv_22 _ _ _ _) rfl rfl (rest := []) rfl (Nat.le_of_ble_eq_true rfl) (dt dtX8_matches_0 5 rfl) (by decide) (by decide) (fun y9 h => ?_)
  obtain rfl := Option.some.inj h
  exact j_iret hG hE ⟨rfl, rfl⟩ (dt dtX8_matches_0 6 rfl)
theorem ct_X8_matches {l : Launch} (hl : l.stackTraces = false) (B : wB) (X Y : wM) (o : Int64) (dd : UInt64) (td : wX) {res : (Int32 × wM)} (h : f_X8_matches Y = some res) : wMet l B yX8_matches cX8_matches 1 (some .int) 5 114 0 0 [.ref (wad B 22)] (X, Y, o, dd, td) (rp (some (.int (res.1))) (X, res.2, o, dd, td)) xp0 :=
  wMet.of hl (by decide +kernel) (Nat.le_of_ble_eq_true rfl) (fun G hB hL hG hE hT => by subst hB; exact g_f_X8_matches hG hE hT h)
def f_X8_count_55 (Y : wM) (s0 : Int32) : Option (Int32 × wM) :=
  some (s0, Y)
def f_X8_count_31 (Y : wM) (l1 : Int32) (l2 : Int32) (s0 : Int32) : Option (Int32 × wM) :=
  wfld Y 22 14 s0 fun Y =>
  (if 0 < (Y 22 14) then f_X8_count_55 Y (0 : Int32)
  else wget 24 (Y 28) ((4 * l1) + l2) fun v54 =>
  f_X8_count_55 Y v54)
def f_X8_count (Y : wM) (a1 : Int32) (a2 : Int32) : Option (Int32 × wM) :=
  (f_X8_layCounts Y).bind fun y1 =>
  (f_X8_isBlock y1 a1).bind fun y7 =>
  (if y7 = 0 then f_X8_count_31 y1 a1 a2 (1 : Int32)
  else (f_X8_in a2 (0 : Int32) (3 : Int32)).bind fun y20 =>
  (if y20 = 0 then f_X8_count_31 y1 a1 a2 (2 : Int32)
  else f_X8_count_31 y1 a1 a2 (0 : Int32)))
set_option maxRecDepth 4000 in
theorem g_f_X8_count_55 {G : wG} (hG : wOk G RX8 cX8_count 3 5 112) {X Y : wM} {o : Int64} {dd : UInt64} {td : wX} {res : (Int32 × wM)} (hE : wEnd G (some .int) (rp (some (.int (res.1))) (X, res.2, o, dd, td)) xp0) (hT : wNoTab G) {s0 : Int32} (h : f_X8_count_55 Y s0 = some res) : J G 3 0 0 55 [] [.int (s0)] (X, Y, o, dd, td) := by
  unfold f_X8_count_55 at h
  obtain rfl := Option.some.inj h
  exact j_iret hG hE ⟨rfl, rfl⟩ (dt dtX8_count_0 31 rfl)
set_option maxRecDepth 4000 in
theorem g_f_X8_count_31 {G : wG} (hG : wOk G RX8 cX8_count 3 5 112) {X Y : wM} {o : Int64} {dd : UInt64} {td : wX} {res : (Int32 × wM)} (hE : wEnd G (some .int) (rp (some (.int (res.1))) (X, res.2, o, dd, td)) xp0) (hT : wNoTab G) {l1 : Int32} {l2 : Int32} {s0 : Int32} (h : f_X8_count_31 Y l1 l2 s0 = some res) : J G 3 0 0 31 [(0, .ref (wad (gB G) 22)), (1, .int (l1)), (2, .int (l2))] [.int (s0), .ref (wad (gB G) 22)] (X, Y, o, dd, td) := by
  unfold f_X8_count_31 at h
  refine j_put hG cl_X8 22 14 (X := Y) (k := 22) (fun Y => (X, Y, o, dd, td)) (cv_22 _ _ _ _) (by decide) fl_X8_54 rfl rfl rfl rfl rfl (Nat.le_of_ble_eq_true rfl) (cs_22 _ _ _ _ (upd (Y 22) 14 s0)) h (dt dtX8_count_0 17 rfl) (fun Y h => ?_)
  refine j_aload_n hG 0 (dt dtX8_count_0 18 rfl) rfl rfl ?_
  refine j_get hG cl_X8 22 14 (cv_22 _ _ _ _) (by decide) fl_X8_54 rfl rfl (dt dtX8_count_0 19 rfl) ?_
  refine j_if_le hG (tgt := 45) (dt dtX8_count_0 20 rfl) (by decide) h (fun h => ?_) (fun h => ?_)
  · refine j_iconst hG (v := 0) (dt dtX8_count_0 21 rfl) (by decide) ?_
    refine j_goto hG (tgt := 55) (dt dtX8_count_0 22 rfl) (by decide) ?_
    refine j_lv (lv' := []) [] rfl ?_
    exact g_f_X8_count_55 hG hE hT h
  · refine j_aload_n hG 0 (dt dtX8_count_0 23 rfl) rfl rfl ?_
    refine j_get hG cl_X8 22 5 (cv_22 _ _ _ _) (by decide) fl_X8_25 rfl rfl (dt dtX8_count_0 24 rfl) ?_
    refine j_iconst hG (v := 4) (dt dtX8_count_0 25 rfl) (by decide) ?_
    refine j_iload_n hG 1 (dt dtX8_count_0 26 rfl) rfl rfl ?_
    refine j_imul hG (dt dtX8_count_0 27 rfl) ?_
    refine j_iload_n hG 2 (dt dtX8_count_0 28 rfl) rfl rfl ?_
    refine j_iadd hG (dt dtX8_count_0 29 rfl) ?_
    refine j_iald hG 28 (cv_28 _ _ _ _) h (dt dtX8_count_0 30 rfl) (fun v54 h => ?_)
    refine j_lv (lv' := []) [] rfl ?_
    exact g_f_X8_count_55 hG hE hT h
set_option maxRecDepth 4000 in
theorem g_f_X8_count {G : wG} (hG : wOk G RX8 cX8_count 3 5 112) {X Y : wM} {o : Int64} {dd : UInt64} {td : wX} {res : (Int32 × wM)} (hE : wEnd G (some .int) (rp (some (.int (res.1))) (X, res.2, o, dd, td)) xp0) (hT : wNoTab G) {a1 : Int32} {a2 : Int32} (h : f_X8_count Y a1 a2 = some res) : J G 3 0 0 0 [(0, .ref (wad (gB G) 22)), (1, .int (a1)), (2, .int (a2))] [] (X, Y, o, dd, td) := by
  unfold f_X8_count at h
  refine j_aload_n hG 0 (dt dtX8_count_0 0 rfl) rfl rfl ?_
  refine j_callVp hG h (V := fun y1 => none) (S := fun y1 => (X, y1, o, dd, td)) (kc := 0) (ks := 0) (fun z hz => ct_X8_layCounts hG.2.2.1 (gB G) _ _ _ _ _ hz) mf_X8_layCounts ml_X8_117 22 (cv_22 _ _ _ _) rfl rfl (rest := []) rfl (Nat.le_of_ble_eq_true rfl) (dt dtX8_count_0 1 rfl) (by decide) (by decide) (fun y1 h => ?_)
  refine j_aload_n hG 0 (dt dtX8_count_0 2 rfl) rfl rfl ?_
  refine j_aload_n hG 0 (dt dtX8_count_0 3 rfl) rfl rfl ?_
  refine j_iload_n hG 1 (dt dtX8_count_0 4 rfl) rfl rfl ?_
  refine j_callVp hG h (V := fun y7 => (some (.int (y7)))) (S := fun y7 => (X, y1, o, dd, td)) (kc := 0) (ks := 0) (fun z hz => ct_X8_isBlock hG.2.2.1 (gB G) _ _ _ _ _ hz) mf_X8_isBlock ml_X8_128 22 (cv_22 _ _ _ _) rfl rfl (rest := [.ref (wad (gB G) 22)]) rfl (Nat.le_of_ble_eq_true rfl) (dt dtX8_count_0 5 rfl) (by decide) (by decide) (fun y7 h => ?_)
  refine j_if_ne hG (tgt := 17) (dt dtX8_count_0 6 rfl) (by decide) h (fun h => ?_) (fun h => ?_)
  · refine j_iconst hG (v := 1) (dt dtX8_count_0 7 rfl) (by decide) ?_
    refine j_goto hG (tgt := 31) (dt dtX8_count_0 8 rfl) (by decide) ?_
    exact g_f_X8_count_31 hG hE hT h
  · refine j_iload_n hG 2 (dt dtX8_count_0 9 rfl) rfl rfl ?_
    refine j_iconst hG (v := 0) (dt dtX8_count_0 10 rfl) (by decide) ?_
    refine j_iconst hG (v := 3) (dt dtX8_count_0 11 rfl) (by decide) ?_
    refine j_callSp hG h (V := fun y20 => (some (.int (y20)))) (S := fun y20 => (X, y1, o, dd, td)) (kc := 0) (ks := 0) (fun z hz => ct_X8_in hG.2.2.1 (gB G) _ _ _ _ _ hz) mf_X8_in ml_X8_91 rfl (rest := [.ref (wad (gB G) 22)]) rfl (Nat.le_of_ble_eq_true rfl) (dt dtX8_count_0 12 rfl) (by decide) (by decide) (fun y20 h => ?_)
    refine j_if_ne hG (tgt := 30) (dt dtX8_count_0 13 rfl) (by decide) h (fun h => ?_) (fun h => ?_)
    · refine j_iconst hG (v := 2) (dt dtX8_count_0 14 rfl) (by decide) ?_
      refine j_goto hG (tgt := 31) (dt dtX8_count_0 15 rfl) (by decide) ?_
      exact g_f_X8_count_31 hG hE hT h
    · refine j_iconst hG (v := 0) (dt dtX8_count_0 16 rfl) (by decide) ?_
      exact g_f_X8_count_31 hG hE hT h
theorem ct_X8_count {l : Launch} (hl : l.stackTraces = false) (B : wB) (X Y : wM) (o : Int64) (dd : UInt64) (td : wX) {a1 : Int32} {a2 : Int32} {res : (Int32 × wM)} (h : f_X8_count Y a1 a2 = some res) : wMet l B yX8_count cX8_count 3 (some .int) 5 112 0 0 [.ref (wad B 22), .int (a1), .int (a2)] (X, Y, o, dd, td) (rp (some (.int (res.1))) (X, res.2, o, dd, td)) xp0 :=
  wMet.of hl (by decide +kernel) (Nat.le_of_ble_eq_true rfl) (fun G hB hL hG hE hT => by subst hB; exact g_f_X8_count hG hE hT h)
def f_X8_countAnew (Y : wM) (a1 : Int32) (a2 : Int32) : Option (Int32 × wM) :=
  (f_X8_count Y a1 a2).bind fun y3 =>
  some (y3.1, y3.2)
set_option maxRecDepth 4000 in
theorem g_f_X8_countAnew {G : wG} (hG : wOk G RX8 cX8_countAnew 3 6 134) {X Y : wM} {o : Int64} {dd : UInt64} {td : wX} {res : (Int32 × wM)} (hE : wEnd G (some .int) (rp (some (.int (res.1))) (X, res.2, o, dd, td)) xp0) (hT : wNoTab G) {a1 : Int32} {a2 : Int32} (h : f_X8_countAnew Y a1 a2 = some res) : J G 3 0 0 0 [(0, .ref (wad (gB G) 22)), (1, .int (a1)), (2, .int (a2))] [] (X, Y, o, dd, td) := by
  unfold f_X8_countAnew at h
  refine j_aload_n hG 0 (dt dtX8_countAnew_0 0 rfl) rfl rfl ?_
  refine j_iload_n hG 1 (dt dtX8_countAnew_0 1 rfl) rfl rfl ?_
  refine j_iload_n hG 2 (dt dtX8_countAnew_0 2 rfl) rfl rfl ?_
  refine j_callVp hG h (V := fun y3 => (some (.int (y3.1)))) (S := fun y3 => (X, y3.2, o, dd, td)) (kc := 0) (ks := 0) (fun z hz => ct_X8_count hG.2.2.1 (gB G) _ _ _ _ _ hz) mf_X8_count ml_X8_147 22 (cv_22 _ _ _ _) rfl rfl (rest := []) rfl (Nat.le_of_ble_eq_true rfl) (dt dtX8_countAnew_0 3 rfl) (by decide) (by decide) (fun y3 h => ?_)
  obtain rfl := Option.some.inj h
  exact j_iret hG hE ⟨rfl, rfl⟩ (dt dtX8_countAnew_0 4 rfl)
theorem ct_X8_countAnew {l : Launch} (hl : l.stackTraces = false) (B : wB) (X Y : wM) (o : Int64) (dd : UInt64) (td : wX) {a1 : Int32} {a2 : Int32} {res : (Int32 × wM)} (h : f_X8_countAnew Y a1 a2 = some res) : wMet l B yX8_countAnew cX8_countAnew 3 (some .int) 6 134 0 0 [.ref (wad B 22), .int (a1), .int (a2)] (X, Y, o, dd, td) (rp (some (.int (res.1))) (X, res.2, o, dd, td)) xp0 :=
  wMet.of hl (by decide +kernel) (Nat.le_of_ble_eq_true rfl) (fun G hB hL hG hE hT => by subst hB; exact g_f_X8_countAnew hG hE hT h)
def f_X8_many_42 (k5 : Int32 → Int32 → Int32 → Int32 → Option (Int32)) (Y : wM) (l1 : Int32) (l2 : Int32) (l4 : Int32) (s0 : Int32) (s1 : Int32) : Option (Int32) :=
  wbd (s1 + s0) fun v43 =>
  wbd (l4 + 1) fun v44 =>
  k5 l1 l2 v43 v44
def f_X8_many_41 (k5 : Int32 → Int32 → Int32 → Int32 → Option (Int32)) (Y : wM) (l1 : Int32) (l2 : Int32) (l4 : Int32) (s0 : Int32) : Option (Int32) :=
  f_X8_many_42 k5 Y l1 l2 l4 (0 : Int32) s0
def f_X8_many_5b (k5 : Int32 → Int32 → Int32 → Int32 → Option (Int32)) (Y : wM) (l1 : Int32) (l2 : Int32) (l3 : Int32) (l4 : Int32) : Option (Int32) :=
  (if l4 < (Y 22 17) then wget 40 (Y 29) l4 fun v21 =>
  (if v21 = l1 then wget 40 (Y 31) l4 fun v32 =>
  (if v32 = l2 then f_X8_many_42 k5 Y l1 l2 l4 (1 : Int32) l3
  else f_X8_many_41 k5 Y l1 l2 l4 l3)
  else f_X8_many_41 k5 Y l1 l2 l4 l3)
  else some l3)
def f_X8_many_5 (Y : wM) : Nat → Int32 → Int32 → Int32 → Int32 → Option (Int32)
  | 0 => fun _ _ _ _ => none
  | n + 1 => fun l1 l2 l3 l4 => f_X8_many_5b (f_X8_many_5 Y n) Y l1 l2 l3 l4
def f_X8_many (Y : wM) (a1 : Int32) (a2 : Int32) : Option (Int32) :=
  f_X8_many_5 Y 1000 a1 a2 (0 : Int32) (0 : Int32)
set_option maxRecDepth 4000 in
theorem g_f_X8_many_42 {G : wG} (hG : wOk G RX8 cX8_many 5 0 0) {X Y : wM} {o : Int64} {dd : UInt64} {td : wX} {res : (Int32)} (hE : wEnd G (some .int) (rp (some (.int (res))) (X, Y, o, dd, td)) xp0) (hT : wNoTab G) {k5 : Int32 → Int32 → Int32 → Int32 → Option (Int32)} (hk5 : ∀ (l1 : Int32) (l2 : Int32) (l3 : Int32) (l4 : Int32), k5 l1 l2 l3 l4 = some res → J G 5 0 0 5 [(0, .ref (wad (gB G) 22)), (1, .int (l1)), (2, .int (l2)), (3, .int (l3)), (4, .int (l4))] [] (X, Y, o, dd, td)) {l1 : Int32} {l2 : Int32} {l4 : Int32} {s0 : Int32} {s1 : Int32} (h : f_X8_many_42 k5 Y l1 l2 l4 s0 s1 = some res) : J G 5 0 0 42 [(0, .ref (wad (gB G) 22)), (1, .int (l1)), (2, .int (l2)), (4, .int (l4))] [.int (s0), .int (s1)] (X, Y, o, dd, td) := by
  unfold f_X8_many_42 at h
  refine j_iadd hG (dt dtX8_many_0 24 rfl) ?_
  refine j_istoreB_n hG (fun v43 => [(3, .int (v43)), (0, .ref (wad (gB G) 22)), (1, .int (l1)), (2, .int (l2)), (4, .int (l4))]) (dt dtX8_many_0 25 rfl) rfl (by decide) (fun _ => rfl) h (fun v43 h => ?_)
  refine j_iincB hG 4 (fun v44 => [(4, .int (v44)), (3, .int (v43)), (0, .ref (wad (gB G) 22)), (1, .int (l1)), (2, .int (l2))]) (dt dtX8_many_0 26 rfl) rfl rfl (by decide) (fun _ => rfl) h (fun v44 h => ?_)
  refine j_goto hG (tgt := 5) (dt dtX8_many_0 27 rfl) (by decide) ?_
  refine j_lv (lv' := [(0, .ref (wad (gB G) 22)), (1, .int (l1)), (2, .int (l2)), (3, .int (v43)), (4, .int (v44))]) [2, 3, 4, 1, 0] rfl ?_
  exact hk5 l1 l2 v43 v44 h
set_option maxRecDepth 4000 in
theorem g_f_X8_many_41 {G : wG} (hG : wOk G RX8 cX8_many 5 0 0) {X Y : wM} {o : Int64} {dd : UInt64} {td : wX} {res : (Int32)} (hE : wEnd G (some .int) (rp (some (.int (res))) (X, Y, o, dd, td)) xp0) (hT : wNoTab G) {k5 : Int32 → Int32 → Int32 → Int32 → Option (Int32)} (hk5 : ∀ (l1 : Int32) (l2 : Int32) (l3 : Int32) (l4 : Int32), k5 l1 l2 l3 l4 = some res → J G 5 0 0 5 [(0, .ref (wad (gB G) 22)), (1, .int (l1)), (2, .int (l2)), (3, .int (l3)), (4, .int (l4))] [] (X, Y, o, dd, td)) {l1 : Int32} {l2 : Int32} {l4 : Int32} {s0 : Int32} (h : f_X8_many_41 k5 Y l1 l2 l4 s0 = some res) : J G 5 0 0 41 [(0, .ref (wad (gB G) 22)), (1, .int (l1)), (2, .int (l2)), (4, .int (l4))] [.int (s0)] (X, Y, o, dd, td) := by
  unfold f_X8_many_41 at h
  refine j_iconst hG (v := 0) (dt dtX8_many_0 23 rfl) (by decide) ?_
  exact g_f_X8_many_42 hG hE hT hk5 h
set_option maxRecDepth 4000 in
theorem g_f_X8_many_5b {G : wG} (hG : wOk G RX8 cX8_many 5 0 0) {X Y : wM} {o : Int64} {dd : UInt64} {td : wX} {res : (Int32)} (hE : wEnd G (some .int) (rp (some (.int (res))) (X, Y, o, dd, td)) xp0) (hT : wNoTab G) {k5 : Int32 → Int32 → Int32 → Int32 → Option (Int32)} (hk5 : ∀ (l1 : Int32) (l2 : Int32) (l3 : Int32) (l4 : Int32), k5 l1 l2 l3 l4 = some res → J G 5 0 0 5 [(0, .ref (wad (gB G) 22)), (1, .int (l1)), (2, .int (l2)), (3, .int (l3)), (4, .int (l4))] [] (X, Y, o, dd, td)) {l1 : Int32} {l2 : Int32} {l3 : Int32} {l4 : Int32} (h : f_X8_many_5b k5 Y l1 l2 l3 l4 = some res) : J G 5 0 0 5 [(0, .ref (wad (gB G) 22)), (1, .int (l1)), (2, .int (l2)), (3, .int (l3)), (4, .int (l4))] [] (X, Y, o, dd, td) := by
  unfold f_X8_many_5b at h
  refine j_iload hG 4 (dt dtX8_many_0 4 rfl) rfl ?_
  refine j_aload_n hG 0 (dt dtX8_many_0 5 rfl) rfl rfl ?_
  refine j_get hG cl_X8 22 17 (cv_22 _ _ _ _) (by decide) fl_X8_64 rfl rfl (dt dtX8_many_0 6 rfl) ?_
  refine j_icmp_ge hG (tgt := 50) (dt dtX8_many_0 7 rfl) (by decide) h (fun h => ?_) (fun h => ?_)
  · refine j_iload_n hG 3 (dt dtX8_many_0 8 rfl) rfl rfl ?_
    refine j_aload_n hG 0 (dt dtX8_many_0 9 rfl) rfl rfl ?_
    refine j_get hG cl_X8 22 6 (cv_22 _ _ _ _) (by decide) fl_X8_28 rfl rfl (dt dtX8_many_0 10 rfl) ?_
    refine j_iload hG 4 (dt dtX8_many_0 11 rfl) rfl ?_
    refine j_cald hG 29 (cv_29 _ _ _ _) h (dt dtX8_many_0 12 rfl) (fun v21 h => ?_)
    refine j_iload_n hG 1 (dt dtX8_many_0 13 rfl) rfl rfl ?_
    refine j_icmp_ne hG (tgt := 41) (dt dtX8_many_0 14 rfl) (by decide) h (fun h => ?_) (fun h => ?_)
    · refine j_aload_n hG 0 (dt dtX8_many_0 15 rfl) rfl rfl ?_
      refine j_get hG cl_X8 22 8 (cv_22 _ _ _ _) (by decide) fl_X8_35 rfl rfl (dt dtX8_many_0 16 rfl) ?_
      refine j_iload hG 4 (dt dtX8_many_0 17 rfl) rfl ?_
      refine j_zald hG 31 (cv_31 _ _ _ _) h (dt dtX8_many_0 18 rfl) (fun v32 h => ?_)
      refine j_iload_n hG 2 (dt dtX8_many_0 19 rfl) rfl rfl ?_
      refine j_icmp_ne hG (tgt := 41) (dt dtX8_many_0 20 rfl) (by decide) h (fun h => ?_) (fun h => ?_)
      · refine j_iconst hG (v := 1) (dt dtX8_many_0 21 rfl) (by decide) ?_
        refine j_goto hG (tgt := 42) (dt dtX8_many_0 22 rfl) (by decide) ?_
        refine j_lv (lv' := [(0, .ref (wad (gB G) 22)), (1, .int (l1)), (2, .int (l2)), (4, .int (l4))]) [0, 1, 2, 4] rfl ?_
        exact g_f_X8_many_42 hG hE hT hk5 h
      · refine j_lv (lv' := [(0, .ref (wad (gB G) 22)), (1, .int (l1)), (2, .int (l2)), (4, .int (l4))]) [0, 1, 2, 4] rfl ?_
        exact g_f_X8_many_41 hG hE hT hk5 h
    · refine j_lv (lv' := [(0, .ref (wad (gB G) 22)), (1, .int (l1)), (2, .int (l2)), (4, .int (l4))]) [0, 1, 2, 4] rfl ?_
      exact g_f_X8_many_41 hG hE hT hk5 h
  · refine j_iload_n hG 3 (dt dtX8_many_0 28 rfl) rfl rfl ?_
    obtain rfl := Option.some.inj h
    exact j_iret hG hE ⟨rfl, rfl⟩ (dt dtX8_many_0 29 rfl)
set_option maxRecDepth 4000 in
theorem g_f_X8_many_5 {G : wG} (hG : wOk G RX8 cX8_many 5 0 0) {X : wM} {Y : wM} {o : Int64} {dd : UInt64} {td : wX} {res : (Int32)} (hE : wEnd G (some .int) (rp (some (.int (res))) (X, Y, o, dd, td)) xp0) (hT : wNoTab G) (n : Nat) : ∀ (l1 : Int32) (l2 : Int32) (l3 : Int32) (l4 : Int32), f_X8_many_5 Y n l1 l2 l3 l4 = some res → J G 5 0 0 5 [(0, .ref (wad (gB G) 22)), (1, .int (l1)), (2, .int (l2)), (3, .int (l3)), (4, .int (l4))] [] (X, Y, o, dd, td) := by
  induction n with
  | zero => intro l1 l2 l3 l4 h; cases h
  | succ n ih =>
    intro l1 l2 l3 l4 h
    exact g_f_X8_many_5b hG hE hT ih h
set_option maxRecDepth 4000 in
theorem g_f_X8_many {G : wG} (hG : wOk G RX8 cX8_many 5 0 0) {X Y : wM} {o : Int64} {dd : UInt64} {td : wX} {res : (Int32)} (hE : wEnd G (some .int) (rp (some (.int (res))) (X, Y, o, dd, td)) xp0) (hT : wNoTab G) {a1 : Int32} {a2 : Int32} (h : f_X8_many Y a1 a2 = some res) : J G 5 0 0 0 [(0, .ref (wad (gB G) 22)), (1, .int (a1)), (2, .int (a2))] [] (X, Y, o, dd, td) := by
  unfold f_X8_many at h
  refine j_iconst hG (v := 0) (dt dtX8_many_0 0 rfl) (by decide) ?_
  refine j_istore_n hG (lv' := [(3, .int (0)), (0, .ref (wad (gB G) 22)), (1, .int (a1)), (2, .int (a2))]) (dt dtX8_many_0 1 rfl) rfl (by decide) rfl ?_
  refine j_iconst hG (v := 0) (dt dtX8_many_0 2 rfl) (by decide) ?_
  refine j_istore hG (lv' := [(4, .int (0)), (3, .int (0)), (0, .ref (wad (gB G) 22)), (1, .int (a1)), (2, .int (a2))]) (dt dtX8_many_0 3 rfl) (by decide) rfl ?_
  refine j_lv (lv' := [(0, .ref (wad (gB G) 22)), (1, .int (a1)), (2, .int (a2)), (3, .int (0)), (4, .int (0))]) [2, 3, 4, 1, 0] rfl ?_
  exact g_f_X8_many_5 hG hE hT 1000 a1 a2 (0 : Int32) (0 : Int32) h
theorem ct_X8_many {l : Launch} (hl : l.stackTraces = false) (B : wB) (X Y : wM) (o : Int64) (dd : UInt64) (td : wX) {a1 : Int32} {a2 : Int32} {res : (Int32)} (h : f_X8_many Y a1 a2 = some res) : wMet l B yX8_many cX8_many 5 (some .int) 0 0 0 0 [.ref (wad B 22), .int (a1), .int (a2)] (X, Y, o, dd, td) (rp (some (.int (res))) (X, Y, o, dd, td)) xp0 :=
  wMet.of hl (by decide +kernel) (Nat.le_of_ble_eq_true rfl) (fun G hB hL hG hE hT => by subst hB; exact g_f_X8_many hG hE hT h)
def f_X8_estimate_50 (Y : wM) (s0 : Int64) : Option (Int64 × wM) :=
  some (s0, Y)
def f_X8_estimate_17 (Y : wM) (s0 : Int32) : Option (Int64 × wM) :=
  (f_X8_checked Y s0).bind fun y17 =>
  (if 0 < y17.1 then f_X8_estimate_50 y17.2 (0 : Int64)
  else (f_X8_many y17.2 (99 : Int32) (0 : Int32)).bind fun y31 =>
  (f_X8_many y17.2 (107 : Int32) (0 : Int32)).bind fun y39 =>
  wgd (decide (¬ ((y17.2 22 24).toInt64) = 0)) (f_X8_estimate_50 y17.2 (((y31.toInt64) * (y39.toInt64)) / ((y17.2 22 24).toInt64))))
def f_X8_estimate (Y : wM) : Option (Int64 × wM) :=
  (f_X8_layMatches Y).bind fun y1 =>
  (if 0 < (y1 22 24) then f_X8_estimate_17 y1 (1 : Int32)
  else f_X8_estimate_17 y1 (0 : Int32))
set_option maxRecDepth 4000 in
theorem g_f_X8_estimate_50 {G : wG} (hG : wOk G RX8 cX8_estimate 1 5 114) {X Y : wM} {o : Int64} {dd : UInt64} {td : wX} {res : (Int64 × wM)} (hE : wEnd G (some .long) (rp (some (.long (res.1))) (X, res.2, o, dd, td)) xp0) (hT : wNoTab G) {s0 : Int64} (h : f_X8_estimate_50 Y s0 = some res) : J G 1 0 0 50 [] [.long (s0)] (X, Y, o, dd, td) := by
  unfold f_X8_estimate_50 at h
  obtain rfl := Option.some.inj h
  exact j_lret hG hE ⟨rfl, rfl⟩ (dt dtX8_estimate_0 28 rfl)
set_option maxRecDepth 4000 in
theorem g_f_X8_estimate_17 {G : wG} (hG : wOk G RX8 cX8_estimate 1 5 114) {X Y : wM} {o : Int64} {dd : UInt64} {td : wX} {res : (Int64 × wM)} (hE : wEnd G (some .long) (rp (some (.long (res.1))) (X, res.2, o, dd, td)) xp0) (hT : wNoTab G) {s0 : Int32} (h : f_X8_estimate_17 Y s0 = some res) : J G 1 0 0 17 [(0, .ref (wad (gB G) 22))] [.int (s0), .ref (wad (gB G) 22)] (X, Y, o, dd, td) := by
  unfold f_X8_estimate_17 at h
  refine j_callVp hG h (V := fun y17 => (some (.int (y17.1)))) (S := fun y17 => (X, y17.2, o, dd, td)) (kc := 0) (ks := 0) (fun z hz => ct_X8_checked hG.2.2.1 (gB G) _ _ _ _ _ hz) mf_X8_checked ml_X8_120 22 (cv_22 _ _ _ _) rfl rfl (rest := []) rfl (Nat.le_of_ble_eq_true rfl) (dt dtX8_estimate_0 9 rfl) (by decide) (by decide) (fun y17 h => ?_)
  refine j_if_le hG (tgt := 27) (dt dtX8_estimate_0 10 rfl) (by decide) h (fun h => ?_) (fun h => ?_)
  · refine j_lconst hG (v := 0) (dt dtX8_estimate_0 11 rfl) (by decide) ?_
    refine j_goto hG (tgt := 50) (dt dtX8_estimate_0 12 rfl) (by decide) ?_
    refine j_lv (lv' := []) [] rfl ?_
    exact g_f_X8_estimate_50 hG hE hT h
  · refine j_aload_n hG 0 (dt dtX8_estimate_0 13 rfl) rfl rfl ?_
    refine j_bipush hG (v := 99) (dt dtX8_estimate_0 14 rfl) (by decide) ?_
    refine j_iconst hG (v := 0) (dt dtX8_estimate_0 15 rfl) (by decide) ?_
    refine j_callVp hG h (V := fun y31 => (some (.int (y31)))) (S := fun y31 => (X, y17.2, o, dd, td)) (kc := 0) (ks := 0) (fun z hz => ct_X8_many hG.2.2.1 (gB G) _ _ _ _ _ hz) mf_X8_many ml_X8_150 22 (cv_22 _ _ _ _) rfl rfl (rest := []) rfl (Nat.le_of_ble_eq_true rfl) (dt dtX8_estimate_0 16 rfl) (by decide) (by decide) (fun y31 h => ?_)
    refine j_i2l hG (dt dtX8_estimate_0 17 rfl) ?_
    refine j_aload_n hG 0 (dt dtX8_estimate_0 18 rfl) rfl rfl ?_
    refine j_bipush hG (v := 107) (dt dtX8_estimate_0 19 rfl) (by decide) ?_
    refine j_iconst hG (v := 0) (dt dtX8_estimate_0 20 rfl) (by decide) ?_
    refine j_callVp hG h (V := fun y39 => (some (.int (y39)))) (S := fun y39 => (X, y17.2, o, dd, td)) (kc := 0) (ks := 0) (fun z hz => ct_X8_many hG.2.2.1 (gB G) _ _ _ _ _ hz) mf_X8_many ml_X8_150 22 (cv_22 _ _ _ _) rfl rfl (rest := [.long ((y31.toInt64))]) rfl (Nat.le_of_ble_eq_true rfl) (dt dtX8_estimate_0 21 rfl) (by decide) (by decide) (fun y39 h => ?_)
    refine j_i2l hG (dt dtX8_estimate_0 22 rfl) ?_
    refine j_lmul hG (dt dtX8_estimate_0 23 rfl) ?_
    refine j_aload_n hG 0 (dt dtX8_estimate_0 24 rfl) rfl rfl ?_
    refine j_get hG cl_X8 22 24 (cv_22 _ _ _ _) (by decide) fl_X8_85 rfl rfl (dt dtX8_estimate_0 25 rfl) ?_
    refine j_i2l hG (dt dtX8_estimate_0 26 rfl) ?_
    obtain ⟨c49, h⟩ := wgd_ok h
    refine j_ldiv hG (dt dtX8_estimate_0 27 rfl) (of_decide_eq_true c49) ?_
    refine j_lv (lv' := []) [] rfl ?_
    exact g_f_X8_estimate_50 hG hE hT h
set_option maxRecDepth 4000 in
theorem g_f_X8_estimate {G : wG} (hG : wOk G RX8 cX8_estimate 1 5 114) {X Y : wM} {o : Int64} {dd : UInt64} {td : wX} {res : (Int64 × wM)} (hE : wEnd G (some .long) (rp (some (.long (res.1))) (X, res.2, o, dd, td)) xp0) (hT : wNoTab G) (h : f_X8_estimate Y = some res) : J G 1 0 0 0 [(0, .ref (wad (gB G) 22))] [] (X, Y, o, dd, td) := by
  unfold f_X8_estimate at h
  refine j_aload_n hG 0 (dt dtX8_estimate_0 0 rfl) rfl rfl ?_
  refine j_callVp hG h (V := fun y1 => none) (S := fun y1 => (X, y1, o, dd, td)) (kc := 0) (ks := 0) (fun z hz => ct_X8_layMatches hG.2.2.1 (gB G) _ _ _ _ _ hz) mf_X8_layMatches ml_X8_144 22 (cv_22 _ _ _ _) rfl rfl (rest := []) rfl (Nat.le_of_ble_eq_true rfl) (dt dtX8_estimate_0 1 rfl) (by decide) (by decide) (fun y1 h => ?_)
  refine j_aload_n hG 0 (dt dtX8_estimate_0 2 rfl) rfl rfl ?_
  refine j_aload_n hG 0 (dt dtX8_estimate_0 3 rfl) rfl rfl ?_
  refine j_get hG cl_X8 22 24 (cv_22 _ _ _ _) (by decide) fl_X8_85 rfl rfl (dt dtX8_estimate_0 4 rfl) ?_
  refine j_if_le hG (tgt := 16) (dt dtX8_estimate_0 5 rfl) (by decide) h (fun h => ?_) (fun h => ?_)
  · refine j_iconst hG (v := 1) (dt dtX8_estimate_0 6 rfl) (by decide) ?_
    refine j_goto hG (tgt := 17) (dt dtX8_estimate_0 7 rfl) (by decide) ?_
    exact g_f_X8_estimate_17 hG hE hT h
  · refine j_iconst hG (v := 0) (dt dtX8_estimate_0 8 rfl) (by decide) ?_
    exact g_f_X8_estimate_17 hG hE hT h
theorem ct_X8_estimate {l : Launch} (hl : l.stackTraces = false) (B : wB) (X Y : wM) (o : Int64) (dd : UInt64) (td : wX) {res : (Int64 × wM)} (h : f_X8_estimate Y = some res) : wMet l B yX8_estimate cX8_estimate 1 (some .long) 5 114 0 0 [.ref (wad B 22)] (X, Y, o, dd, td) (rp (some (.long (res.1))) (X, res.2, o, dd, td)) xp0 :=
  wMet.of hl (by decide +kernel) (Nat.le_of_ble_eq_true rfl) (fun G hB hL hG hE hT => by subst hB; exact g_f_X8_estimate hG hE hT h)
def f_X8_doubleShare_51 (Y : wM) (s0 : UInt32) : Option (UInt32 × wM) :=
  some (s0, Y)
def f_X8_doubleShare_30 (Y : wM) (l1 : Int32) (s0 : Int32) : Option (UInt32 × wM) :=
  (f_X8_checked Y s0).bind fun y30 =>
  (if 0 < y30.1 then f_X8_doubleShare_51 y30.2 (0 : UInt32)
  else (f_X8_many y30.2 (99 : Int32) (1 : Int32)).bind fun y44 =>
  wgd (wnn32 (FP.fdiv (FP.i2f y44) (FP.i2f l1))) (f_X8_doubleShare_51 y30.2 (FP.fdiv (FP.i2f y44) (FP.i2f l1))))
def f_X8_doubleShare (Y : wM) : Option (UInt32 × wM) :=
  (f_X8_layDoubles Y).bind fun y1 =>
  (f_X8_many y1 (99 : Int32) (1 : Int32)).bind fun y8 =>
  (f_X8_many y1 (99 : Int32) (0 : Int32)).bind fun y15 =>
  wbd (y8 + y15) fun v19 =>
  (if 0 < v19 then f_X8_doubleShare_30 y1 v19 (1 : Int32)
  else f_X8_doubleShare_30 y1 v19 (0 : Int32))
set_option maxRecDepth 4000 in
theorem g_f_X8_doubleShare_51 {G : wG} (hG : wOk G RX8 cX8_doubleShare 2 4 91) {X Y : wM} {o : Int64} {dd : UInt64} {td : wX} {res : (UInt32 × wM)} (hE : wEnd G (some .float) (rp (some (.float (res.1))) (X, res.2, o, dd, td)) xp0) (hT : wNoTab G) {s0 : UInt32} (h : f_X8_doubleShare_51 Y s0 = some res) : J G 2 0 0 51 [] [.float (s0)] (X, Y, o, dd, td) := by
  unfold f_X8_doubleShare_51 at h
  obtain rfl := Option.some.inj h
  exact j_fret hG hE ⟨rfl, rfl⟩ (dt dtX8_doubleShare_0 30 rfl)
set_option maxRecDepth 4000 in
theorem g_f_X8_doubleShare_30 {G : wG} (hG : wOk G RX8 cX8_doubleShare 2 4 91) {X Y : wM} {o : Int64} {dd : UInt64} {td : wX} {res : (UInt32 × wM)} (hE : wEnd G (some .float) (rp (some (.float (res.1))) (X, res.2, o, dd, td)) xp0) (hT : wNoTab G) {l1 : Int32} {s0 : Int32} (h : f_X8_doubleShare_30 Y l1 s0 = some res) : J G 2 0 0 30 [(0, .ref (wad (gB G) 22)), (1, .int (l1))] [.int (s0), .ref (wad (gB G) 22)] (X, Y, o, dd, td) := by
  unfold f_X8_doubleShare_30 at h
  refine j_callVp hG h (V := fun y30 => (some (.int (y30.1)))) (S := fun y30 => (X, y30.2, o, dd, td)) (kc := 0) (ks := 0) (fun z hz => ct_X8_checked hG.2.2.1 (gB G) _ _ _ _ _ hz) mf_X8_checked ml_X8_120 22 (cv_22 _ _ _ _) rfl rfl (rest := []) rfl (Nat.le_of_ble_eq_true rfl) (dt dtX8_doubleShare_0 18 rfl) (by decide) (by decide) (fun y30 h => ?_)
  refine j_if_le hG (tgt := 40) (dt dtX8_doubleShare_0 19 rfl) (by decide) h (fun h => ?_) (fun h => ?_)
  · refine j_fconst0 hG (dt dtX8_doubleShare_0 20 rfl) ?_
    refine j_goto hG (tgt := 51) (dt dtX8_doubleShare_0 21 rfl) (by decide) ?_
    refine j_lv (lv' := []) [] rfl ?_
    exact g_f_X8_doubleShare_51 hG hE hT h
  · refine j_aload_n hG 0 (dt dtX8_doubleShare_0 22 rfl) rfl rfl ?_
    refine j_bipush hG (v := 99) (dt dtX8_doubleShare_0 23 rfl) (by decide) ?_
    refine j_iconst hG (v := 1) (dt dtX8_doubleShare_0 24 rfl) (by decide) ?_
    refine j_callVp hG h (V := fun y44 => (some (.int (y44)))) (S := fun y44 => (X, y30.2, o, dd, td)) (kc := 0) (ks := 0) (fun z hz => ct_X8_many hG.2.2.1 (gB G) _ _ _ _ _ hz) mf_X8_many ml_X8_150 22 (cv_22 _ _ _ _) rfl rfl (rest := []) rfl (Nat.le_of_ble_eq_true rfl) (dt dtX8_doubleShare_0 25 rfl) (by decide) (by decide) (fun y44 h => ?_)
    refine j_i2f hG (dt dtX8_doubleShare_0 26 rfl) ?_
    refine j_iload_n hG 1 (dt dtX8_doubleShare_0 27 rfl) rfl rfl ?_
    refine j_i2f hG (dt dtX8_doubleShare_0 28 rfl) ?_
    obtain ⟨c50, h⟩ := wgd_ok h
    refine j_fdiv hG (dt dtX8_doubleShare_0 29 rfl) (wnn32_ok c50) ?_
    refine j_lv (lv' := []) [] rfl ?_
    exact g_f_X8_doubleShare_51 hG hE hT h
set_option maxRecDepth 4000 in
theorem g_f_X8_doubleShare {G : wG} (hG : wOk G RX8 cX8_doubleShare 2 4 91) {X Y : wM} {o : Int64} {dd : UInt64} {td : wX} {res : (UInt32 × wM)} (hE : wEnd G (some .float) (rp (some (.float (res.1))) (X, res.2, o, dd, td)) xp0) (hT : wNoTab G) (h : f_X8_doubleShare Y = some res) : J G 2 0 0 0 [(0, .ref (wad (gB G) 22))] [] (X, Y, o, dd, td) := by
  unfold f_X8_doubleShare at h
  refine j_aload_n hG 0 (dt dtX8_doubleShare_0 0 rfl) rfl rfl ?_
  refine j_callVp hG h (V := fun y1 => none) (S := fun y1 => (X, y1, o, dd, td)) (kc := 0) (ks := 0) (fun z hz => ct_X8_layDoubles hG.2.2.1 (gB G) _ _ _ _ _ hz) mf_X8_layDoubles ml_X8_107 22 (cv_22 _ _ _ _) rfl rfl (rest := []) rfl (Nat.le_of_ble_eq_true rfl) (dt dtX8_doubleShare_0 1 rfl) (by decide) (by decide) (fun y1 h => ?_)
  refine j_aload_n hG 0 (dt dtX8_doubleShare_0 2 rfl) rfl rfl ?_
  refine j_bipush hG (v := 99) (dt dtX8_doubleShare_0 3 rfl) (by decide) ?_
  refine j_iconst hG (v := 1) (dt dtX8_doubleShare_0 4 rfl) (by decide) ?_
  refine j_callVp hG h (V := fun y8 => (some (.int (y8)))) (S := fun y8 => (X, y1, o, dd, td)) (kc := 0) (ks := 0) (fun z hz => ct_X8_many hG.2.2.1 (gB G) _ _ _ _ _ hz) mf_X8_many ml_X8_150 22 (cv_22 _ _ _ _) rfl rfl (rest := []) rfl (Nat.le_of_ble_eq_true rfl) (dt dtX8_doubleShare_0 5 rfl) (by decide) (by decide) (fun y8 h => ?_)
  refine j_aload_n hG 0 (dt dtX8_doubleShare_0 6 rfl) rfl rfl ?_
  refine j_bipush hG (v := 99) (dt dtX8_doubleShare_0 7 rfl) (by decide) ?_
  refine j_iconst hG (v := 0) (dt dtX8_doubleShare_0 8 rfl) (by decide) ?_
  refine j_callVp hG h (V := fun y15 => (some (.int (y15)))) (S := fun y15 => (X, y1, o, dd, td)) (kc := 0) (ks := 0) (fun z hz => ct_X8_many hG.2.2.1 (gB G) _ _ _ _ _ hz) mf_X8_many ml_X8_150 22 (cv_22 _ _ _ _) rfl rfl (rest := [.int (y8)]) rfl (Nat.le_of_ble_eq_true rfl) (dt dtX8_doubleShare_0 9 rfl) (by decide) (by decide) (fun y15 h => ?_)
  refine j_iadd hG (dt dtX8_doubleShare_0 10 rfl) ?_
  refine j_istoreB_n hG (fun v19 => [(1, .int (v19)), (0, .ref (wad (gB G) 22))]) (dt dtX8_doubleShare_0 11 rfl) rfl (by decide) (fun _ => rfl) h (fun v19 h => ?_)
  refine j_aload_n hG 1 (dt dtX8_doubleShare_0 12 rfl) rfl rfl ?_
  refine j_iload_n hG 0 (dt dtX8_doubleShare_0 13 rfl) rfl rfl ?_
  refine j_if_le hG (tgt := 29) (dt dtX8_doubleShare_0 14 rfl) (by decide) h (fun h => ?_) (fun h => ?_)
  · refine j_iconst hG (v := 1) (dt dtX8_doubleShare_0 15 rfl) (by decide) ?_
    refine j_goto hG (tgt := 30) (dt dtX8_doubleShare_0 16 rfl) (by decide) ?_
    refine j_lv (lv' := [(0, .ref (wad (gB G) 22)), (1, .int (v19))]) [1, 0] rfl ?_
    exact g_f_X8_doubleShare_30 hG hE hT h
  · refine j_iconst hG (v := 0) (dt dtX8_doubleShare_0 17 rfl) (by decide) ?_
    refine j_lv (lv' := [(0, .ref (wad (gB G) 22)), (1, .int (v19))]) [1, 0] rfl ?_
    exact g_f_X8_doubleShare_30 hG hE hT h
theorem ct_X8_doubleShare {l : Launch} (hl : l.stackTraces = false) (B : wB) (X Y : wM) (o : Int64) (dd : UInt64) (td : wX) {res : (UInt32 × wM)} (h : f_X8_doubleShare Y = some res) : wMet l B yX8_doubleShare cX8_doubleShare 2 (some .float) 4 91 0 0 [.ref (wad B 22)] (X, Y, o, dd, td) (rp (some (.float (res.1))) (X, res.2, o, dd, td)) xp0 :=
  wMet.of hl (by decide +kernel) (Nat.le_of_ble_eq_true rfl) (fun G hB hL hG hE hT => by subst hB; exact g_f_X8_doubleShare hG hE hT h)
def f_X8_meanScore_38 (Y : wM) (s0 : UInt64) : Option (UInt64 × wM) :=
  some (s0, Y)
def f_X8_meanScore_17 (Y : wM) (s0 : Int32) : Option (UInt64 × wM) :=
  (f_X8_checked Y s0).bind fun y17 =>
  (if 0 < y17.1 then f_X8_meanScore_38 y17.2 (0 : UInt64)
  else wgd (wnn64 (FP.ddiv (FP.i2d (y17.2 22 25)) (FP.i2d (y17.2 22 24)))) (f_X8_meanScore_38 y17.2 (FP.ddiv (FP.i2d (y17.2 22 25)) (FP.i2d (y17.2 22 24)))))
def f_X8_meanScore (Y : wM) : Option (UInt64 × wM) :=
  (f_X8_layMatches Y).bind fun y1 =>
  (if 0 < (y1 22 24) then f_X8_meanScore_17 y1 (1 : Int32)
  else f_X8_meanScore_17 y1 (0 : Int32))
set_option maxRecDepth 4000 in
theorem g_f_X8_meanScore_38 {G : wG} (hG : wOk G RX8 cX8_meanScore 1 5 114) {X Y : wM} {o : Int64} {dd : UInt64} {td : wX} {res : (UInt64 × wM)} (hE : wEnd G (some .double) (rp (some (.double (res.1))) (X, res.2, o, dd, td)) xp0) (hT : wNoTab G) {s0 : UInt64} (h : f_X8_meanScore_38 Y s0 = some res) : J G 1 0 0 38 [] [.double (s0)] (X, Y, o, dd, td) := by
  unfold f_X8_meanScore_38 at h
  obtain rfl := Option.some.inj h
  exact j_dret hG hE ⟨rfl, rfl⟩ (dt dtX8_meanScore_0 20 rfl)
set_option maxRecDepth 4000 in
theorem g_f_X8_meanScore_17 {G : wG} (hG : wOk G RX8 cX8_meanScore 1 5 114) {X Y : wM} {o : Int64} {dd : UInt64} {td : wX} {res : (UInt64 × wM)} (hE : wEnd G (some .double) (rp (some (.double (res.1))) (X, res.2, o, dd, td)) xp0) (hT : wNoTab G) {s0 : Int32} (h : f_X8_meanScore_17 Y s0 = some res) : J G 1 0 0 17 [(0, .ref (wad (gB G) 22))] [.int (s0), .ref (wad (gB G) 22)] (X, Y, o, dd, td) := by
  unfold f_X8_meanScore_17 at h
  refine j_callVp hG h (V := fun y17 => (some (.int (y17.1)))) (S := fun y17 => (X, y17.2, o, dd, td)) (kc := 0) (ks := 0) (fun z hz => ct_X8_checked hG.2.2.1 (gB G) _ _ _ _ _ hz) mf_X8_checked ml_X8_120 22 (cv_22 _ _ _ _) rfl rfl (rest := []) rfl (Nat.le_of_ble_eq_true rfl) (dt dtX8_meanScore_0 9 rfl) (by decide) (by decide) (fun y17 h => ?_)
  refine j_if_le hG (tgt := 27) (dt dtX8_meanScore_0 10 rfl) (by decide) h (fun h => ?_) (fun h => ?_)
  · refine j_dconst0 hG (dt dtX8_meanScore_0 11 rfl) ?_
    refine j_goto hG (tgt := 38) (dt dtX8_meanScore_0 12 rfl) (by decide) ?_
    refine j_lv (lv' := []) [] rfl ?_
    exact g_f_X8_meanScore_38 hG hE hT h
  · refine j_aload_n hG 0 (dt dtX8_meanScore_0 13 rfl) rfl rfl ?_
    refine j_get hG cl_X8 22 25 (cv_22 _ _ _ _) (by decide) fl_X8_88 rfl rfl (dt dtX8_meanScore_0 14 rfl) ?_
    refine j_i2d hG (dt dtX8_meanScore_0 15 rfl) ?_
    refine j_aload_n hG 0 (dt dtX8_meanScore_0 16 rfl) rfl rfl ?_
    refine j_get hG cl_X8 22 24 (cv_22 _ _ _ _) (by decide) fl_X8_85 rfl rfl (dt dtX8_meanScore_0 17 rfl) ?_
    refine j_i2d hG (dt dtX8_meanScore_0 18 rfl) ?_
    obtain ⟨c37, h⟩ := wgd_ok h
    refine j_ddiv hG (dt dtX8_meanScore_0 19 rfl) (wnn64_ok c37) ?_
    refine j_lv (lv' := []) [] rfl ?_
    exact g_f_X8_meanScore_38 hG hE hT h
set_option maxRecDepth 4000 in
theorem g_f_X8_meanScore {G : wG} (hG : wOk G RX8 cX8_meanScore 1 5 114) {X Y : wM} {o : Int64} {dd : UInt64} {td : wX} {res : (UInt64 × wM)} (hE : wEnd G (some .double) (rp (some (.double (res.1))) (X, res.2, o, dd, td)) xp0) (hT : wNoTab G) (h : f_X8_meanScore Y = some res) : J G 1 0 0 0 [(0, .ref (wad (gB G) 22))] [] (X, Y, o, dd, td) := by
  unfold f_X8_meanScore at h
  refine j_aload_n hG 0 (dt dtX8_meanScore_0 0 rfl) rfl rfl ?_
  refine j_callVp hG h (V := fun y1 => none) (S := fun y1 => (X, y1, o, dd, td)) (kc := 0) (ks := 0) (fun z hz => ct_X8_layMatches hG.2.2.1 (gB G) _ _ _ _ _ hz) mf_X8_layMatches ml_X8_144 22 (cv_22 _ _ _ _) rfl rfl (rest := []) rfl (Nat.le_of_ble_eq_true rfl) (dt dtX8_meanScore_0 1 rfl) (by decide) (by decide) (fun y1 h => ?_)
  refine j_aload_n hG 0 (dt dtX8_meanScore_0 2 rfl) rfl rfl ?_
  refine j_aload_n hG 0 (dt dtX8_meanScore_0 3 rfl) rfl rfl ?_
  refine j_get hG cl_X8 22 24 (cv_22 _ _ _ _) (by decide) fl_X8_85 rfl rfl (dt dtX8_meanScore_0 4 rfl) ?_
  refine j_if_le hG (tgt := 16) (dt dtX8_meanScore_0 5 rfl) (by decide) h (fun h => ?_) (fun h => ?_)
  · refine j_iconst hG (v := 1) (dt dtX8_meanScore_0 6 rfl) (by decide) ?_
    refine j_goto hG (tgt := 17) (dt dtX8_meanScore_0 7 rfl) (by decide) ?_
    exact g_f_X8_meanScore_17 hG hE hT h
  · refine j_iconst hG (v := 0) (dt dtX8_meanScore_0 8 rfl) (by decide) ?_
    exact g_f_X8_meanScore_17 hG hE hT h
theorem ct_X8_meanScore {l : Launch} (hl : l.stackTraces = false) (B : wB) (X Y : wM) (o : Int64) (dd : UInt64) (td : wX) {res : (UInt64 × wM)} (h : f_X8_meanScore Y = some res) : wMet l B yX8_meanScore cX8_meanScore 1 (some .double) 5 114 0 0 [.ref (wad B 22)] (X, Y, o, dd, td) (rp (some (.double (res.1))) (X, res.2, o, dd, td)) xp0 :=
  wMet.of hl (by decide +kernel) (Nat.le_of_ble_eq_true rfl) (fun G hB hL hG hE hT => by subst hB; exact g_f_X8_meanScore hG hE hT h)
def f_X8_isFound_25 (k2 : wM → Int32 → Int32 → Int32 → Option (Int32 × wM)) (Y : wM) (l1 : Int32) (l2 : Int32) (l3 : Int32) (s0 : Int32) (s1 : Int32) : Option (Int32 × wM) :=
  wput Y 34 10 s1 (vp_nar .boolean s0) fun Y =>
  wbd (l3 + 1) fun v26 =>
  k2 Y l1 l2 v26
def f_X8_isFound_133 (k34 : wM → Int32 → Int32 → Int32 → Option (Int32 × wM)) (k43 : wM → Int32 → Int32 → Int32 → Int32 → Option (Int32 × wM)) (Y : wM) (l1 : Int32) (l2 : Int32) (l3 : Int32) (l4 : Int32) : Option (Int32 × wM) :=
  wbd (l4 + 1) fun v133 =>
  k43 Y l1 l2 l3 v133
def f_X8_isFound_106 (k34 : wM → Int32 → Int32 → Int32 → Option (Int32 × wM)) (k43 : wM → Int32 → Int32 → Int32 → Int32 → Option (Int32 × wM)) (Y : wM) (l1 : Int32) (l2 : Int32) (l3 : Int32) (l4 : Int32) (s0 : Int32) : Option (Int32 × wM) :=
  wput Y 34 10 (l4 / 4) (vp_nar .boolean s0) fun Y =>
  wput Y 34 10 (6 + (l4 - l4 / 4 * 4)) (vp_nar .boolean s0) fun Y =>
  f_X8_isFound_133 k34 k43 Y l1 l2 l3 l4
def f_X8_isFound_101 (k34 : wM → Int32 → Int32 → Int32 → Option (Int32 × wM)) (k43 : wM → Int32 → Int32 → Int32 → Int32 → Option (Int32 × wM)) (Y : wM) (l1 : Int32) (l2 : Int32) (l3 : Int32) (l4 : Int32) : Option (Int32 × wM) :=
  f_X8_isFound_106 k34 k43 Y l1 l2 l3 l4 (1 : Int32)
def f_X8_isFound_43b (k34 : wM → Int32 → Int32 → Int32 → Option (Int32 × wM)) (k43 : wM → Int32 → Int32 → Int32 → Int32 → Option (Int32 × wM)) (Y : wM) (l1 : Int32) (l2 : Int32) (l3 : Int32) (l4 : Int32) : Option (Int32 × wM) :=
  (if l4 < 24 then (if l4 = l2 then f_X8_isFound_133 k34 k43 Y l1 l2 l3 l4
  else wget 192 (Y 33) ((24 * l1) + l4) fun v67 =>
  (if v67 = 0 then f_X8_isFound_133 k34 k43 Y l1 l2 l3 l4
  else wget 10 (Y 34) (l4 / 4) fun v82 =>
  (if v82 = 0 then wget 10 (Y 34) (6 + (l4 - l4 / 4 * 4)) fun v97 =>
  (if v97 = 0 then f_X8_isFound_106 k34 k43 Y l1 l2 l3 l4 (0 : Int32)
  else f_X8_isFound_101 k34 k43 Y l1 l2 l3 l4)
  else f_X8_isFound_101 k34 k43 Y l1 l2 l3 l4)))
  else wbd (l3 + 1) fun v139 =>
  k34 Y l1 l2 v139)
def f_X8_isFound_43 (k34 : wM → Int32 → Int32 → Int32 → Option (Int32 × wM)) : Nat → wM → Int32 → Int32 → Int32 → Int32 → Option (Int32 × wM)
  | 0 => fun _ _ _ _ _ => none
  | n + 1 => fun Y l1 l2 l3 l4 => f_X8_isFound_43b k34 (f_X8_isFound_43 k34 n) Y l1 l2 l3 l4
def f_X8_isFound_164 (Y : wM) (s0 : Int32) : Option (Int32 × wM) :=
  wgd (wokN .boolean s0) (some (s0, Y))
def f_X8_isFound_34b (k34 : wM → Int32 → Int32 → Int32 → Option (Int32 × wM)) (Y : wM) (l1 : Int32) (l2 : Int32) (l3 : Int32) : Option (Int32 × wM) :=
  (if l3 < 10 then f_X8_isFound_43 k34 1000 Y l1 l2 l3 (0 : Int32)
  else wget 10 (Y 34) (6 + (l2 - l2 / 4 * 4)) fun v155 =>
  (if v155 = 0 then f_X8_isFound_164 Y (1 : Int32)
  else f_X8_isFound_164 Y (0 : Int32)))
def f_X8_isFound_34 : Nat → wM → Int32 → Int32 → Int32 → Option (Int32 × wM)
  | 0 => fun _ _ _ _ => none
  | n + 1 => fun Y l1 l2 l3 => f_X8_isFound_34b (f_X8_isFound_34 n) Y l1 l2 l3
def f_X8_isFound_2b (k2 : wM → Int32 → Int32 → Int32 → Option (Int32 × wM)) (Y : wM) (l1 : Int32) (l2 : Int32) (l3 : Int32) : Option (Int32 × wM) :=
  (if l3 < 10 then (if l3 = (l2 / 4) then f_X8_isFound_25 k2 Y l1 l2 l3 (1 : Int32) l3
  else f_X8_isFound_25 k2 Y l1 l2 l3 (0 : Int32) l3)
  else f_X8_isFound_34 1000 Y l1 l2 (0 : Int32))
def f_X8_isFound_2 : Nat → wM → Int32 → Int32 → Int32 → Option (Int32 × wM)
  | 0 => fun _ _ _ _ => none
  | n + 1 => fun Y l1 l2 l3 => f_X8_isFound_2b (f_X8_isFound_2 n) Y l1 l2 l3
def f_X8_isFound (Y : wM) (a1 : Int32) (a2 : Int32) : Option (Int32 × wM) :=
  f_X8_isFound_2 1000 Y a1 a2 (0 : Int32)
set_option maxRecDepth 4000 in
theorem g_f_X8_isFound_25 {G : wG} (hG : wOk G RX8 cX8_isFound 6 0 0) {X Y : wM} {o : Int64} {dd : UInt64} {td : wX} {res : (Int32 × wM)} (hE : wEnd G (some .boolean) (rp (some (.int (res.1))) (X, res.2, o, dd, td)) xp0) (hT : wNoTab G) {k2 : wM → Int32 → Int32 → Int32 → Option (Int32 × wM)} (hk2 : ∀ (Y : wM) (l1 : Int32) (l2 : Int32) (l3 : Int32), k2 Y l1 l2 l3 = some res → J G 6 0 0 2 [(0, .ref (wad (gB G) 22)), (1, .int (l1)), (2, .int (l2)), (3, .int (l3))] [] (X, Y, o, dd, td)) {l1 : Int32} {l2 : Int32} {l3 : Int32} {s0 : Int32} {s1 : Int32} (h : f_X8_isFound_25 k2 Y l1 l2 l3 s0 s1 = some res) : J G 6 0 0 25 [(0, .ref (wad (gB G) 22)), (1, .int (l1)), (2, .int (l2)), (3, .int (l3))] [.int (s0), .int (s1), .ref (wad (gB G) 34)] (X, Y, o, dd, td) := by
  unfold f_X8_isFound_25 at h
  refine j_zast hG 34 (X := Y) (k := 34) (fun Y => (X, Y, o, dd, td)) (cv_34 _ _ _ _) (fun g => cs_34 _ _ _ _ g) h (dt dtX8_isFound_0 16 rfl) (fun Y h => ?_)
  refine j_iincB hG 3 (fun v26 => [(3, .int (v26)), (0, .ref (wad (gB G) 22)), (1, .int (l1)), (2, .int (l2))]) (dt dtX8_isFound_0 17 rfl) rfl rfl (by decide) (fun _ => rfl) h (fun v26 h => ?_)
  refine j_goto hG (tgt := 2) (dt dtX8_isFound_0 18 rfl) (by decide) ?_
  refine j_lv (lv' := [(0, .ref (wad (gB G) 22)), (1, .int (l1)), (2, .int (l2)), (3, .int (v26))]) [1, 2, 3, 0] rfl ?_
  exact hk2 Y l1 l2 v26 h
set_option maxRecDepth 4000 in
theorem g_f_X8_isFound_133 {G : wG} (hG : wOk G RX8 cX8_isFound 6 0 0) {X Y : wM} {o : Int64} {dd : UInt64} {td : wX} {res : (Int32 × wM)} (hE : wEnd G (some .boolean) (rp (some (.int (res.1))) (X, res.2, o, dd, td)) xp0) (hT : wNoTab G) {k34 : wM → Int32 → Int32 → Int32 → Option (Int32 × wM)} (hk34 : ∀ (Y : wM) (l1 : Int32) (l2 : Int32) (l3 : Int32), k34 Y l1 l2 l3 = some res → J G 6 0 0 34 [(0, .ref (wad (gB G) 22)), (1, .int (l1)), (2, .int (l2)), (3, .int (l3))] [] (X, Y, o, dd, td)) {k43 : wM → Int32 → Int32 → Int32 → Int32 → Option (Int32 × wM)} (hk43 : ∀ (Y : wM) (l1 : Int32) (l2 : Int32) (l3 : Int32) (l4 : Int32), k43 Y l1 l2 l3 l4 = some res → J G 6 0 0 43 [(0, .ref (wad (gB G) 22)), (1, .int (l1)), (2, .int (l2)), (3, .int (l3)), (4, .int (l4))] [] (X, Y, o, dd, td)) {l1 : Int32} {l2 : Int32} {l3 : Int32} {l4 : Int32} (h : f_X8_isFound_133 k34 k43 Y l1 l2 l3 l4 = some res) : J G 6 0 0 133 [(0, .ref (wad (gB G) 22)), (1, .int (l1)), (2, .int (l2)), (3, .int (l3)), (4, .int (l4))] [] (X, Y, o, dd, td) := by
  unfold f_X8_isFound_133 at h
  refine j_iincB hG 4 (fun v133 => [(4, .int (v133)), (0, .ref (wad (gB G) 22)), (1, .int (l1)), (2, .int (l2)), (3, .int (l3))]) (dt dtX8_isFound_1 18 rfl) rfl rfl (by decide) (fun _ => rfl) h (fun v133 h => ?_)
  refine j_goto hG (tgt := 43) (dt dtX8_isFound_1 19 rfl) (by decide) ?_
  refine j_lv (lv' := [(0, .ref (wad (gB G) 22)), (1, .int (l1)), (2, .int (l2)), (3, .int (l3)), (4, .int (v133))]) [1, 2, 3, 4, 0] rfl ?_
  exact hk43 Y l1 l2 l3 v133 h
set_option maxRecDepth 4000 in
theorem g_f_X8_isFound_106 {G : wG} (hG : wOk G RX8 cX8_isFound 6 0 0) {X Y : wM} {o : Int64} {dd : UInt64} {td : wX} {res : (Int32 × wM)} (hE : wEnd G (some .boolean) (rp (some (.int (res.1))) (X, res.2, o, dd, td)) xp0) (hT : wNoTab G) {k34 : wM → Int32 → Int32 → Int32 → Option (Int32 × wM)} (hk34 : ∀ (Y : wM) (l1 : Int32) (l2 : Int32) (l3 : Int32), k34 Y l1 l2 l3 = some res → J G 6 0 0 34 [(0, .ref (wad (gB G) 22)), (1, .int (l1)), (2, .int (l2)), (3, .int (l3))] [] (X, Y, o, dd, td)) {k43 : wM → Int32 → Int32 → Int32 → Int32 → Option (Int32 × wM)} (hk43 : ∀ (Y : wM) (l1 : Int32) (l2 : Int32) (l3 : Int32) (l4 : Int32), k43 Y l1 l2 l3 l4 = some res → J G 6 0 0 43 [(0, .ref (wad (gB G) 22)), (1, .int (l1)), (2, .int (l2)), (3, .int (l3)), (4, .int (l4))] [] (X, Y, o, dd, td)) {l1 : Int32} {l2 : Int32} {l3 : Int32} {l4 : Int32} {s0 : Int32} (h : f_X8_isFound_106 k34 k43 Y l1 l2 l3 l4 s0 = some res) : J G 6 0 0 106 [(0, .ref (wad (gB G) 22)), (1, .int (l1)), (2, .int (l2)), (3, .int (l3)), (4, .int (l4))] [.int (s0)] (X, Y, o, dd, td) := by
  unfold f_X8_isFound_106 at h
  refine j_istore hG (lv' := [(5, .int (s0)), (0, .ref (wad (gB G) 22)), (1, .int (l1)), (2, .int (l2)), (3, .int (l3)), (4, .int (l4))]) (dt dtX8_isFound_1 1 rfl) (by decide) rfl ?_
  refine j_aload_n hG 1 (dt dtX8_isFound_1 2 rfl) rfl rfl ?_
  refine j_get hG cl_X8 22 11 (cv_22 _ _ _ _) (by decide) fl_X8_45 rfl rfl (dt dtX8_isFound_1 3 rfl) ?_
  refine j_iload hG 5 (dt dtX8_isFound_1 4 rfl) rfl ?_
  refine j_iconst hG (v := 4) (dt dtX8_isFound_1 5 rfl) (by decide) ?_
  refine j_idiv hG (dt dtX8_isFound_1 6 rfl) (by decide) ?_
  refine j_iload hG 0 (dt dtX8_isFound_1 7 rfl) rfl ?_
  refine j_zast hG 34 (X := Y) (k := 34) (fun Y => (X, Y, o, dd, td)) (cv_34 _ _ _ _) (fun g => cs_34 _ _ _ _ g) h (dt dtX8_isFound_1 8 rfl) (fun Y h => ?_)
  refine j_aload_n hG 1 (dt dtX8_isFound_1 9 rfl) rfl rfl ?_
  refine j_get hG cl_X8 22 11 (cv_22 _ _ _ _) (by decide) fl_X8_45 rfl rfl (dt dtX8_isFound_1 10 rfl) ?_
  refine j_bipush hG (v := 6) (dt dtX8_isFound_1 11 rfl) (by decide) ?_
  refine j_iload hG 5 (dt dtX8_isFound_1 12 rfl) rfl ?_
  refine j_iconst hG (v := 4) (dt dtX8_isFound_1 13 rfl) (by decide) ?_
  refine j_irem hG (dt dtX8_isFound_1 14 rfl) (by decide) ?_
  refine j_iadd hG (dt dtX8_isFound_1 15 rfl) ?_
  refine j_iload hG 0 (dt dtX8_isFound_1 16 rfl) rfl ?_
  refine j_zast hG 34 (X := Y) (k := 34) (fun Y => (X, Y, o, dd, td)) (cv_34 _ _ _ _) (fun g => cs_34 _ _ _ _ g) h (dt dtX8_isFound_1 17 rfl) (fun Y h => ?_)
  refine j_lv (lv' := [(0, .ref (wad (gB G) 22)), (1, .int (l1)), (2, .int (l2)), (3, .int (l3)), (4, .int (l4))]) [1, 2, 3, 4, 5] rfl ?_
  exact g_f_X8_isFound_133 hG hE hT hk34 hk43 h
set_option maxRecDepth 4000 in
theorem g_f_X8_isFound_101 {G : wG} (hG : wOk G RX8 cX8_isFound 6 0 0) {X Y : wM} {o : Int64} {dd : UInt64} {td : wX} {res : (Int32 × wM)} (hE : wEnd G (some .boolean) (rp (some (.int (res.1))) (X, res.2, o, dd, td)) xp0) (hT : wNoTab G) {k34 : wM → Int32 → Int32 → Int32 → Option (Int32 × wM)} (hk34 : ∀ (Y : wM) (l1 : Int32) (l2 : Int32) (l3 : Int32), k34 Y l1 l2 l3 = some res → J G 6 0 0 34 [(0, .ref (wad (gB G) 22)), (1, .int (l1)), (2, .int (l2)), (3, .int (l3))] [] (X, Y, o, dd, td)) {k43 : wM → Int32 → Int32 → Int32 → Int32 → Option (Int32 × wM)} (hk43 : ∀ (Y : wM) (l1 : Int32) (l2 : Int32) (l3 : Int32) (l4 : Int32), k43 Y l1 l2 l3 l4 = some res → J G 6 0 0 43 [(0, .ref (wad (gB G) 22)), (1, .int (l1)), (2, .int (l2)), (3, .int (l3)), (4, .int (l4))] [] (X, Y, o, dd, td)) {l1 : Int32} {l2 : Int32} {l3 : Int32} {l4 : Int32} (h : f_X8_isFound_101 k34 k43 Y l1 l2 l3 l4 = some res) : J G 6 0 0 101 [(0, .ref (wad (gB G) 22)), (1, .int (l1)), (2, .int (l2)), (3, .int (l3)), (4, .int (l4))] [] (X, Y, o, dd, td) := by
  unfold f_X8_isFound_101 at h
  refine j_iconst hG (v := 1) (dt dtX8_isFound_0 58 rfl) (by decide) ?_
  refine j_goto hG (tgt := 106) (dt dtX8_isFound_0 59 rfl) (by decide) ?_
  exact g_f_X8_isFound_106 hG hE hT hk34 hk43 h
set_option maxRecDepth 4000 in
theorem g_f_X8_isFound_43b {G : wG} (hG : wOk G RX8 cX8_isFound 6 0 0) {X Y : wM} {o : Int64} {dd : UInt64} {td : wX} {res : (Int32 × wM)} (hE : wEnd G (some .boolean) (rp (some (.int (res.1))) (X, res.2, o, dd, td)) xp0) (hT : wNoTab G) {k34 : wM → Int32 → Int32 → Int32 → Option (Int32 × wM)} (hk34 : ∀ (Y : wM) (l1 : Int32) (l2 : Int32) (l3 : Int32), k34 Y l1 l2 l3 = some res → J G 6 0 0 34 [(0, .ref (wad (gB G) 22)), (1, .int (l1)), (2, .int (l2)), (3, .int (l3))] [] (X, Y, o, dd, td)) {k43 : wM → Int32 → Int32 → Int32 → Int32 → Option (Int32 × wM)} (hk43 : ∀ (Y : wM) (l1 : Int32) (l2 : Int32) (l3 : Int32) (l4 : Int32), k43 Y l1 l2 l3 l4 = some res → J G 6 0 0 43 [(0, .ref (wad (gB G) 22)), (1, .int (l1)), (2, .int (l2)), (3, .int (l3)), (4, .int (l4))] [] (X, Y, o, dd, td)) {l1 : Int32} {l2 : Int32} {l3 : Int32} {l4 : Int32} (h : f_X8_isFound_43b k34 k43 Y l1 l2 l3 l4 = some res) : J G 6 0 0 43 [(0, .ref (wad (gB G) 22)), (1, .int (l1)), (2, .int (l2)), (3, .int (l3)), (4, .int (l4))] [] (X, Y, o, dd, td) := by
  unfold f_X8_isFound_43b at h
  refine j_iload hG 4 (dt dtX8_isFound_0 26 rfl) rfl ?_
  refine j_bipush hG (v := 24) (dt dtX8_isFound_0 27 rfl) (by decide) ?_
  refine j_icmp_ge hG (tgt := 139) (dt dtX8_isFound_0 28 rfl) (by decide) h (fun h => ?_) (fun h => ?_)
  · refine j_iload hG 4 (dt dtX8_isFound_0 29 rfl) rfl ?_
    refine j_iload_n hG 2 (dt dtX8_isFound_0 30 rfl) rfl rfl ?_
    refine j_icmp_eq hG (tgt := 133) (dt dtX8_isFound_0 31 rfl) (by decide) h (fun h => ?_) (fun h => ?_)
    · exact g_f_X8_isFound_133 hG hE hT hk34 hk43 h
    · refine j_aload_n hG 0 (dt dtX8_isFound_0 32 rfl) rfl rfl ?_
      refine j_get hG cl_X8 22 10 (cv_22 _ _ _ _) (by decide) fl_X8_42 rfl rfl (dt dtX8_isFound_0 33 rfl) ?_
      refine j_bipush hG (v := 24) (dt dtX8_isFound_0 34 rfl) (by decide) ?_
      refine j_iload_n hG 1 (dt dtX8_isFound_0 35 rfl) rfl rfl ?_
      refine j_imul hG (dt dtX8_isFound_0 36 rfl) ?_
      refine j_iload hG 4 (dt dtX8_isFound_0 37 rfl) rfl ?_
      refine j_iadd hG (dt dtX8_isFound_0 38 rfl) ?_
      refine j_zald hG 33 (cv_33 _ _ _ _) h (dt dtX8_isFound_0 39 rfl) (fun v67 h => ?_)
      refine j_if_ne hG (tgt := 74) (dt dtX8_isFound_0 40 rfl) (by decide) h (fun h => ?_) (fun h => ?_)
      · refine j_goto hG (tgt := 133) (dt dtX8_isFound_0 41 rfl) (by decide) ?_
        exact g_f_X8_isFound_133 hG hE hT hk34 hk43 h
      · refine j_aload_n hG 0 (dt dtX8_isFound_0 42 rfl) rfl rfl ?_
        refine j_get hG cl_X8 22 11 (cv_22 _ _ _ _) (by decide) fl_X8_45 rfl rfl (dt dtX8_isFound_0 43 rfl) ?_
        refine j_iload hG 4 (dt dtX8_isFound_0 44 rfl) rfl ?_
        refine j_iconst hG (v := 4) (dt dtX8_isFound_0 45 rfl) (by decide) ?_
        refine j_idiv hG (dt dtX8_isFound_0 46 rfl) (by decide) ?_
        refine j_zald hG 34 (cv_34 _ _ _ _) h (dt dtX8_isFound_0 47 rfl) (fun v82 h => ?_)
        refine j_if_ne hG (tgt := 101) (dt dtX8_isFound_0 48 rfl) (by decide) h (fun h => ?_) (fun h => ?_)
        · refine j_aload_n hG 0 (dt dtX8_isFound_0 49 rfl) rfl rfl ?_
          refine j_get hG cl_X8 22 11 (cv_22 _ _ _ _) (by decide) fl_X8_45 rfl rfl (dt dtX8_isFound_0 50 rfl) ?_
          refine j_bipush hG (v := 6) (dt dtX8_isFound_0 51 rfl) (by decide) ?_
          refine j_iload hG 4 (dt dtX8_isFound_0 52 rfl) rfl ?_
          refine j_iconst hG (v := 4) (dt dtX8_isFound_0 53 rfl) (by decide) ?_
          refine j_irem hG (dt dtX8_isFound_0 54 rfl) (by decide) ?_
          refine j_iadd hG (dt dtX8_isFound_0 55 rfl) ?_
          refine j_zald hG 34 (cv_34 _ _ _ _) h (dt dtX8_isFound_0 56 rfl) (fun v97 h => ?_)
          refine j_if_eq hG (tgt := 105) (dt dtX8_isFound_0 57 rfl) (by decide) h (fun h => ?_) (fun h => ?_)
          · refine j_iconst hG (v := 0) (dt dtX8_isFound_1 0 rfl) (by decide) ?_
            exact g_f_X8_isFound_106 hG hE hT hk34 hk43 h
          · exact g_f_X8_isFound_101 hG hE hT hk34 hk43 h
        · exact g_f_X8_isFound_101 hG hE hT hk34 hk43 h
  · refine j_iincB hG 3 (fun v139 => [(3, .int (v139)), (0, .ref (wad (gB G) 22)), (1, .int (l1)), (2, .int (l2)), (4, .int (l4))]) (dt dtX8_isFound_1 20 rfl) rfl rfl (by decide) (fun _ => rfl) h (fun v139 h => ?_)
    refine j_goto hG (tgt := 34) (dt dtX8_isFound_1 21 rfl) (by decide) ?_
    refine j_lv (lv' := [(0, .ref (wad (gB G) 22)), (1, .int (l1)), (2, .int (l2)), (3, .int (v139))]) [1, 2, 3, 0] rfl ?_
    exact hk34 Y l1 l2 v139 h
set_option maxRecDepth 4000 in
theorem g_f_X8_isFound_43 {G : wG} (hG : wOk G RX8 cX8_isFound 6 0 0) {X : wM} {o : Int64} {dd : UInt64} {td : wX} {res : (Int32 × wM)} (hE : wEnd G (some .boolean) (rp (some (.int (res.1))) (X, res.2, o, dd, td)) xp0) (hT : wNoTab G) {k34 : wM → Int32 → Int32 → Int32 → Option (Int32 × wM)} (hk34 : ∀ (Y : wM) (l1 : Int32) (l2 : Int32) (l3 : Int32), k34 Y l1 l2 l3 = some res → J G 6 0 0 34 [(0, .ref (wad (gB G) 22)), (1, .int (l1)), (2, .int (l2)), (3, .int (l3))] [] (X, Y, o, dd, td)) (n : Nat) : ∀ (Y : wM) (l1 : Int32) (l2 : Int32) (l3 : Int32) (l4 : Int32), f_X8_isFound_43 k34 n Y l1 l2 l3 l4 = some res → J G 6 0 0 43 [(0, .ref (wad (gB G) 22)), (1, .int (l1)), (2, .int (l2)), (3, .int (l3)), (4, .int (l4))] [] (X, Y, o, dd, td) := by
  induction n with
  | zero => intro Y l1 l2 l3 l4 h; cases h
  | succ n ih =>
    intro Y l1 l2 l3 l4 h
    exact g_f_X8_isFound_43b hG hE hT hk34 ih h
set_option maxRecDepth 4000 in
theorem g_f_X8_isFound_164 {G : wG} (hG : wOk G RX8 cX8_isFound 6 0 0) {X Y : wM} {o : Int64} {dd : UInt64} {td : wX} {res : (Int32 × wM)} (hE : wEnd G (some .boolean) (rp (some (.int (res.1))) (X, res.2, o, dd, td)) xp0) (hT : wNoTab G) {s0 : Int32} (h : f_X8_isFound_164 Y s0 = some res) : J G 6 0 0 164 [] [.int (s0)] (X, Y, o, dd, td) := by
  unfold f_X8_isFound_164 at h
  obtain ⟨c164, h⟩ := wgd_ok h
  obtain rfl := Option.some.inj h
  exact j_zret hG hE (wokN_ok c164) ⟨rfl, rfl⟩ (dt dtX8_isFound_1 34 rfl)
set_option maxRecDepth 4000 in
theorem g_f_X8_isFound_34b {G : wG} (hG : wOk G RX8 cX8_isFound 6 0 0) {X Y : wM} {o : Int64} {dd : UInt64} {td : wX} {res : (Int32 × wM)} (hE : wEnd G (some .boolean) (rp (some (.int (res.1))) (X, res.2, o, dd, td)) xp0) (hT : wNoTab G) {k34 : wM → Int32 → Int32 → Int32 → Option (Int32 × wM)} (hk34 : ∀ (Y : wM) (l1 : Int32) (l2 : Int32) (l3 : Int32), k34 Y l1 l2 l3 = some res → J G 6 0 0 34 [(0, .ref (wad (gB G) 22)), (1, .int (l1)), (2, .int (l2)), (3, .int (l3))] [] (X, Y, o, dd, td)) {l1 : Int32} {l2 : Int32} {l3 : Int32} (h : f_X8_isFound_34b k34 Y l1 l2 l3 = some res) : J G 6 0 0 34 [(0, .ref (wad (gB G) 22)), (1, .int (l1)), (2, .int (l2)), (3, .int (l3))] [] (X, Y, o, dd, td) := by
  unfold f_X8_isFound_34b at h
  refine j_iload_n hG 3 (dt dtX8_isFound_0 21 rfl) rfl rfl ?_
  refine j_bipush hG (v := 10) (dt dtX8_isFound_0 22 rfl) (by decide) ?_
  refine j_icmp_ge hG (tgt := 145) (dt dtX8_isFound_0 23 rfl) (by decide) h (fun h => ?_) (fun h => ?_)
  · refine j_iconst hG (v := 0) (dt dtX8_isFound_0 24 rfl) (by decide) ?_
    refine j_istore hG (lv' := [(4, .int (0)), (0, .ref (wad (gB G) 22)), (1, .int (l1)), (2, .int (l2)), (3, .int (l3))]) (dt dtX8_isFound_0 25 rfl) (by decide) rfl ?_
    refine j_lv (lv' := [(0, .ref (wad (gB G) 22)), (1, .int (l1)), (2, .int (l2)), (3, .int (l3)), (4, .int (0))]) [1, 2, 3, 4, 0] rfl ?_
    exact g_f_X8_isFound_43 hG hE hT hk34 1000 Y l1 l2 l3 (0 : Int32) h
  · refine j_aload_n hG 0 (dt dtX8_isFound_1 22 rfl) rfl rfl ?_
    refine j_get hG cl_X8 22 11 (cv_22 _ _ _ _) (by decide) fl_X8_45 rfl rfl (dt dtX8_isFound_1 23 rfl) ?_
    refine j_bipush hG (v := 6) (dt dtX8_isFound_1 24 rfl) (by decide) ?_
    refine j_iload_n hG 2 (dt dtX8_isFound_1 25 rfl) rfl rfl ?_
    refine j_iconst hG (v := 4) (dt dtX8_isFound_1 26 rfl) (by decide) ?_
    refine j_irem hG (dt dtX8_isFound_1 27 rfl) (by decide) ?_
    refine j_iadd hG (dt dtX8_isFound_1 28 rfl) ?_
    refine j_zald hG 34 (cv_34 _ _ _ _) h (dt dtX8_isFound_1 29 rfl) (fun v155 h => ?_)
    refine j_if_ne hG (tgt := 163) (dt dtX8_isFound_1 30 rfl) (by decide) h (fun h => ?_) (fun h => ?_)
    · refine j_iconst hG (v := 1) (dt dtX8_isFound_1 31 rfl) (by decide) ?_
      refine j_goto hG (tgt := 164) (dt dtX8_isFound_1 32 rfl) (by decide) ?_
      refine j_lv (lv' := []) [] rfl ?_
      exact g_f_X8_isFound_164 hG hE hT h
    · refine j_iconst hG (v := 0) (dt dtX8_isFound_1 33 rfl) (by decide) ?_
      refine j_lv (lv' := []) [] rfl ?_
      exact g_f_X8_isFound_164 hG hE hT h
set_option maxRecDepth 4000 in
theorem g_f_X8_isFound_34 {G : wG} (hG : wOk G RX8 cX8_isFound 6 0 0) {X : wM} {o : Int64} {dd : UInt64} {td : wX} {res : (Int32 × wM)} (hE : wEnd G (some .boolean) (rp (some (.int (res.1))) (X, res.2, o, dd, td)) xp0) (hT : wNoTab G) (n : Nat) : ∀ (Y : wM) (l1 : Int32) (l2 : Int32) (l3 : Int32), f_X8_isFound_34 n Y l1 l2 l3 = some res → J G 6 0 0 34 [(0, .ref (wad (gB G) 22)), (1, .int (l1)), (2, .int (l2)), (3, .int (l3))] [] (X, Y, o, dd, td) := by
  induction n with
  | zero => intro Y l1 l2 l3 h; cases h
  | succ n ih =>
    intro Y l1 l2 l3 h
    exact g_f_X8_isFound_34b hG hE hT ih h
set_option maxRecDepth 4000 in
theorem g_f_X8_isFound_2b {G : wG} (hG : wOk G RX8 cX8_isFound 6 0 0) {X Y : wM} {o : Int64} {dd : UInt64} {td : wX} {res : (Int32 × wM)} (hE : wEnd G (some .boolean) (rp (some (.int (res.1))) (X, res.2, o, dd, td)) xp0) (hT : wNoTab G) {k2 : wM → Int32 → Int32 → Int32 → Option (Int32 × wM)} (hk2 : ∀ (Y : wM) (l1 : Int32) (l2 : Int32) (l3 : Int32), k2 Y l1 l2 l3 = some res → J G 6 0 0 2 [(0, .ref (wad (gB G) 22)), (1, .int (l1)), (2, .int (l2)), (3, .int (l3))] [] (X, Y, o, dd, td)) {l1 : Int32} {l2 : Int32} {l3 : Int32} (h : f_X8_isFound_2b k2 Y l1 l2 l3 = some res) : J G 6 0 0 2 [(0, .ref (wad (gB G) 22)), (1, .int (l1)), (2, .int (l2)), (3, .int (l3))] [] (X, Y, o, dd, td) := by
  unfold f_X8_isFound_2b at h
  refine j_iload_n hG 3 (dt dtX8_isFound_0 2 rfl) rfl rfl ?_
  refine j_bipush hG (v := 10) (dt dtX8_isFound_0 3 rfl) (by decide) ?_
  refine j_icmp_ge hG (tgt := 32) (dt dtX8_isFound_0 4 rfl) (by decide) h (fun h => ?_) (fun h => ?_)
  · refine j_aload_n hG 0 (dt dtX8_isFound_0 5 rfl) rfl rfl ?_
    refine j_get hG cl_X8 22 11 (cv_22 _ _ _ _) (by decide) fl_X8_45 rfl rfl (dt dtX8_isFound_0 6 rfl) ?_
    refine j_iload_n hG 3 (dt dtX8_isFound_0 7 rfl) rfl rfl ?_
    refine j_iload_n hG 3 (dt dtX8_isFound_0 8 rfl) rfl rfl ?_
    refine j_iload_n hG 2 (dt dtX8_isFound_0 9 rfl) rfl rfl ?_
    refine j_iconst hG (v := 4) (dt dtX8_isFound_0 10 rfl) (by decide) ?_
    refine j_idiv hG (dt dtX8_isFound_0 11 rfl) (by decide) ?_
    refine j_icmp_ne hG (tgt := 24) (dt dtX8_isFound_0 12 rfl) (by decide) h (fun h => ?_) (fun h => ?_)
    · refine j_iconst hG (v := 1) (dt dtX8_isFound_0 13 rfl) (by decide) ?_
      refine j_goto hG (tgt := 25) (dt dtX8_isFound_0 14 rfl) (by decide) ?_
      exact g_f_X8_isFound_25 hG hE hT hk2 h
    · refine j_iconst hG (v := 0) (dt dtX8_isFound_0 15 rfl) (by decide) ?_
      exact g_f_X8_isFound_25 hG hE hT hk2 h
  · refine j_iconst hG (v := 0) (dt dtX8_isFound_0 19 rfl) (by decide) ?_
    refine j_istore_n hG (lv' := [(3, .int (0)), (0, .ref (wad (gB G) 22)), (1, .int (l1)), (2, .int (l2))]) (dt dtX8_isFound_0 20 rfl) rfl (by decide) rfl ?_
    refine j_lv (lv' := [(0, .ref (wad (gB G) 22)), (1, .int (l1)), (2, .int (l2)), (3, .int (0))]) [1, 2, 3, 0] rfl ?_
    exact g_f_X8_isFound_34 hG hE hT 1000 Y l1 l2 (0 : Int32) h
set_option maxRecDepth 4000 in
theorem g_f_X8_isFound_2 {G : wG} (hG : wOk G RX8 cX8_isFound 6 0 0) {X : wM} {o : Int64} {dd : UInt64} {td : wX} {res : (Int32 × wM)} (hE : wEnd G (some .boolean) (rp (some (.int (res.1))) (X, res.2, o, dd, td)) xp0) (hT : wNoTab G) (n : Nat) : ∀ (Y : wM) (l1 : Int32) (l2 : Int32) (l3 : Int32), f_X8_isFound_2 n Y l1 l2 l3 = some res → J G 6 0 0 2 [(0, .ref (wad (gB G) 22)), (1, .int (l1)), (2, .int (l2)), (3, .int (l3))] [] (X, Y, o, dd, td) := by
  induction n with
  | zero => intro Y l1 l2 l3 h; cases h
  | succ n ih =>
    intro Y l1 l2 l3 h
    exact g_f_X8_isFound_2b hG hE hT ih h
set_option maxRecDepth 4000 in
theorem g_f_X8_isFound {G : wG} (hG : wOk G RX8 cX8_isFound 6 0 0) {X Y : wM} {o : Int64} {dd : UInt64} {td : wX} {res : (Int32 × wM)} (hE : wEnd G (some .boolean) (rp (some (.int (res.1))) (X, res.2, o, dd, td)) xp0) (hT : wNoTab G) {a1 : Int32} {a2 : Int32} (h : f_X8_isFound Y a1 a2 = some res) : J G 6 0 0 0 [(0, .ref (wad (gB G) 22)), (1, .int (a1)), (2, .int (a2))] [] (X, Y, o, dd, td) := by
  unfold f_X8_isFound at h
  refine j_iconst hG (v := 0) (dt dtX8_isFound_0 0 rfl) (by decide) ?_
  refine j_istore_n hG (lv' := [(3, .int (0)), (0, .ref (wad (gB G) 22)), (1, .int (a1)), (2, .int (a2))]) (dt dtX8_isFound_0 1 rfl) rfl (by decide) rfl ?_
  refine j_lv (lv' := [(0, .ref (wad (gB G) 22)), (1, .int (a1)), (2, .int (a2)), (3, .int (0))]) [1, 2, 3, 0] rfl ?_
  exact g_f_X8_isFound_2 hG hE hT 1000 Y a1 a2 (0 : Int32) h
theorem ct_X8_isFound {l : Launch} (hl : l.stackTraces = false) (B : wB) (X Y : wM) (o : Int64) (dd : UInt64) (td : wX) {a1 : Int32} {a2 : Int32} {res : (Int32 × wM)} (h : f_X8_isFound Y a1 a2 = some res) : wMet l B yX8_isFound cX8_isFound 6 (some .boolean) 0 0 0 0 [.ref (wad B 22), .int (a1), .int (a2)] (X, Y, o, dd, td) (rp (some (.int (res.1))) (X, res.2, o, dd, td)) xp0 :=
  wMet.of hl (by decide +kernel) (Nat.le_of_ble_eq_true rfl) (fun G hB hL hG hE hT => by subst hB; exact g_f_X8_isFound hG hE hT h)
def f_X8_firstFound_33 (k2 : wM → Int32 → Int32 → Option (Int32 × wM)) (Y : wM) (l1 : Int32) (l2 : Int32) : Option (Int32 × wM) :=
  wbd (l2 + 1) fun v33 =>
  k2 Y l1 v33
def f_X8_firstFound_2b (k2 : wM → Int32 → Int32 → Option (Int32 × wM)) (Y : wM) (l1 : Int32) (l2 : Int32) : Option (Int32 × wM) :=
  (if l2 < 24 then wget 192 (Y 33) ((24 * l1) + l2) fun v18 =>
  (if v18 = 0 then f_X8_firstFound_33 k2 Y l1 l2
  else (f_X8_isFound Y l1 l2).bind fun y25 =>
  (if y25.1 = 0 then f_X8_firstFound_33 k2 y25.2 l1 l2
  else some (l2, y25.2)))
  else some ((-1), Y))
def f_X8_firstFound_2 : Nat → wM → Int32 → Int32 → Option (Int32 × wM)
  | 0 => fun _ _ _ => none
  | n + 1 => fun Y l1 l2 => f_X8_firstFound_2b (f_X8_firstFound_2 n) Y l1 l2
def f_X8_firstFound (Y : wM) (a1 : Int32) : Option (Int32 × wM) :=
  f_X8_firstFound_2 1000 Y a1 (0 : Int32)
set_option maxRecDepth 4000 in
theorem g_f_X8_firstFound_33 {G : wG} (hG : wOk G RX8 cX8_firstFound 3 1 25) {X Y : wM} {o : Int64} {dd : UInt64} {td : wX} {res : (Int32 × wM)} (hE : wEnd G (some .int) (rp (some (.int (res.1))) (X, res.2, o, dd, td)) xp0) (hT : wNoTab G) {k2 : wM → Int32 → Int32 → Option (Int32 × wM)} (hk2 : ∀ (Y : wM) (l1 : Int32) (l2 : Int32), k2 Y l1 l2 = some res → J G 3 0 0 2 [(0, .ref (wad (gB G) 22)), (1, .int (l1)), (2, .int (l2))] [] (X, Y, o, dd, td)) {l1 : Int32} {l2 : Int32} (h : f_X8_firstFound_33 k2 Y l1 l2 = some res) : J G 3 0 0 33 [(0, .ref (wad (gB G) 22)), (1, .int (l1)), (2, .int (l2))] [] (X, Y, o, dd, td) := by
  unfold f_X8_firstFound_33 at h
  refine j_iincB hG 2 (fun v33 => [(2, .int (v33)), (0, .ref (wad (gB G) 22)), (1, .int (l1))]) (dt dtX8_firstFound_0 21 rfl) rfl rfl (by decide) (fun _ => rfl) h (fun v33 h => ?_)
  refine j_goto hG (tgt := 2) (dt dtX8_firstFound_0 22 rfl) (by decide) ?_
  refine j_lv (lv' := [(0, .ref (wad (gB G) 22)), (1, .int (l1)), (2, .int (v33))]) [1, 2, 0] rfl ?_
  exact hk2 Y l1 v33 h
set_option maxRecDepth 4000 in
theorem g_f_X8_firstFound_2b {G : wG} (hG : wOk G RX8 cX8_firstFound 3 1 25) {X Y : wM} {o : Int64} {dd : UInt64} {td : wX} {res : (Int32 × wM)} (hE : wEnd G (some .int) (rp (some (.int (res.1))) (X, res.2, o, dd, td)) xp0) (hT : wNoTab G) {k2 : wM → Int32 → Int32 → Option (Int32 × wM)} (hk2 : ∀ (Y : wM) (l1 : Int32) (l2 : Int32), k2 Y l1 l2 = some res → J G 3 0 0 2 [(0, .ref (wad (gB G) 22)), (1, .int (l1)), (2, .int (l2))] [] (X, Y, o, dd, td)) {l1 : Int32} {l2 : Int32} (h : f_X8_firstFound_2b k2 Y l1 l2 = some res) : J G 3 0 0 2 [(0, .ref (wad (gB G) 22)), (1, .int (l1)), (2, .int (l2))] [] (X, Y, o, dd, td) := by
  unfold f_X8_firstFound_2b at h
  refine j_iload_n hG 2 (dt dtX8_firstFound_0 2 rfl) rfl rfl ?_
  refine j_bipush hG (v := 24) (dt dtX8_firstFound_0 3 rfl) (by decide) ?_
  refine j_icmp_ge hG (tgt := 39) (dt dtX8_firstFound_0 4 rfl) (by decide) h (fun h => ?_) (fun h => ?_)
  · refine j_aload_n hG 0 (dt dtX8_firstFound_0 5 rfl) rfl rfl ?_
    refine j_get hG cl_X8 22 10 (cv_22 _ _ _ _) (by decide) fl_X8_42 rfl rfl (dt dtX8_firstFound_0 6 rfl) ?_
    refine j_bipush hG (v := 24) (dt dtX8_firstFound_0 7 rfl) (by decide) ?_
    refine j_iload_n hG 1 (dt dtX8_firstFound_0 8 rfl) rfl rfl ?_
    refine j_imul hG (dt dtX8_firstFound_0 9 rfl) ?_
    refine j_iload_n hG 2 (dt dtX8_firstFound_0 10 rfl) rfl rfl ?_
    refine j_iadd hG (dt dtX8_firstFound_0 11 rfl) ?_
    refine j_zald hG 33 (cv_33 _ _ _ _) h (dt dtX8_firstFound_0 12 rfl) (fun v18 h => ?_)
    refine j_if_eq hG (tgt := 33) (dt dtX8_firstFound_0 13 rfl) (by decide) h (fun h => ?_) (fun h => ?_)
    · exact g_f_X8_firstFound_33 hG hE hT hk2 h
    · refine j_aload_n hG 0 (dt dtX8_firstFound_0 14 rfl) rfl rfl ?_
      refine j_iload_n hG 1 (dt dtX8_firstFound_0 15 rfl) rfl rfl ?_
      refine j_iload_n hG 2 (dt dtX8_firstFound_0 16 rfl) rfl rfl ?_
      refine j_callVp hG h (V := fun y25 => (some (.int (y25.1)))) (S := fun y25 => (X, y25.2, o, dd, td)) (kc := 0) (ks := 0) (fun z hz => ct_X8_isFound hG.2.2.1 (gB G) _ _ _ _ _ hz) mf_X8_isFound ml_X8_154 22 (cv_22 _ _ _ _) rfl rfl (rest := []) rfl (Nat.le_of_ble_eq_true rfl) (dt dtX8_firstFound_0 17 rfl) (by decide) (by decide) (fun y25 h => ?_)
      refine j_if_eq hG (tgt := 33) (dt dtX8_firstFound_0 18 rfl) (by decide) h (fun h => ?_) (fun h => ?_)
      · exact g_f_X8_firstFound_33 hG hE hT hk2 h
      · refine j_iload_n hG 2 (dt dtX8_firstFound_0 19 rfl) rfl rfl ?_
        obtain rfl := Option.some.inj h
        exact j_iret hG hE ⟨rfl, rfl⟩ (dt dtX8_firstFound_0 20 rfl)
  · refine j_iconst hG (v := (-1)) (dt dtX8_firstFound_0 23 rfl) (by decide) ?_
    obtain rfl := Option.some.inj h
    exact j_iret hG hE ⟨rfl, rfl⟩ (dt dtX8_firstFound_0 24 rfl)
set_option maxRecDepth 4000 in
theorem g_f_X8_firstFound_2 {G : wG} (hG : wOk G RX8 cX8_firstFound 3 1 25) {X : wM} {o : Int64} {dd : UInt64} {td : wX} {res : (Int32 × wM)} (hE : wEnd G (some .int) (rp (some (.int (res.1))) (X, res.2, o, dd, td)) xp0) (hT : wNoTab G) (n : Nat) : ∀ (Y : wM) (l1 : Int32) (l2 : Int32), f_X8_firstFound_2 n Y l1 l2 = some res → J G 3 0 0 2 [(0, .ref (wad (gB G) 22)), (1, .int (l1)), (2, .int (l2))] [] (X, Y, o, dd, td) := by
  induction n with
  | zero => intro Y l1 l2 h; cases h
  | succ n ih =>
    intro Y l1 l2 h
    exact g_f_X8_firstFound_2b hG hE hT ih h
set_option maxRecDepth 4000 in
theorem g_f_X8_firstFound {G : wG} (hG : wOk G RX8 cX8_firstFound 3 1 25) {X Y : wM} {o : Int64} {dd : UInt64} {td : wX} {res : (Int32 × wM)} (hE : wEnd G (some .int) (rp (some (.int (res.1))) (X, res.2, o, dd, td)) xp0) (hT : wNoTab G) {a1 : Int32} (h : f_X8_firstFound Y a1 = some res) : J G 3 0 0 0 [(0, .ref (wad (gB G) 22)), (1, .int (a1))] [] (X, Y, o, dd, td) := by
  unfold f_X8_firstFound at h
  refine j_iconst hG (v := 0) (dt dtX8_firstFound_0 0 rfl) (by decide) ?_
  refine j_istore_n hG (lv' := [(2, .int (0)), (0, .ref (wad (gB G) 22)), (1, .int (a1))]) (dt dtX8_firstFound_0 1 rfl) rfl (by decide) rfl ?_
  refine j_lv (lv' := [(0, .ref (wad (gB G) 22)), (1, .int (a1)), (2, .int (0))]) [1, 2, 0] rfl ?_
  exact g_f_X8_firstFound_2 hG hE hT 1000 Y a1 (0 : Int32) h
theorem ct_X8_firstFound {l : Launch} (hl : l.stackTraces = false) (B : wB) (X Y : wM) (o : Int64) (dd : UInt64) (td : wX) {a1 : Int32} {res : (Int32 × wM)} (h : f_X8_firstFound Y a1 = some res) : wMet l B yX8_firstFound cX8_firstFound 3 (some .int) 1 25 0 0 [.ref (wad B 22), .int (a1)] (X, Y, o, dd, td) (rp (some (.int (res.1))) (X, res.2, o, dd, td)) xp0 :=
  wMet.of hl (by decide +kernel) (Nat.le_of_ble_eq_true rfl) (fun G hB hL hG hE hT => by subst hB; exact g_f_X8_firstFound hG hE hT h)
def f_X8_canHide_33 (Y : wM) (s0 : Int32) : Option (Int32) :=
  wgd (wokN .boolean s0) (some s0)
def f_X8_canHide_32 (Y : wM) : Option (Int32) :=
  f_X8_canHide_33 Y (0 : Int32)
def f_X8_canHide (Y : wM) (a1 : Int32) (a2 : Int32) : Option (Int32) :=
  wget 192 (Y 35) ((24 * a1) + a2) fun v10 =>
  (if 0 < v10 then wget 192 (Y 33) ((24 * a1) + a2) fun v24 =>
  (if v24 = 0 then f_X8_canHide_33 Y (1 : Int32)
  else f_X8_canHide_32 Y)
  else f_X8_canHide_32 Y)
set_option maxRecDepth 4000 in
theorem g_f_X8_canHide_33 {G : wG} (hG : wOk G RX8 cX8_canHide 3 0 0) {X Y : wM} {o : Int64} {dd : UInt64} {td : wX} {res : (Int32)} (hE : wEnd G (some .boolean) (rp (some (.int (res))) (X, Y, o, dd, td)) xp0) (hT : wNoTab G) {s0 : Int32} (h : f_X8_canHide_33 Y s0 = some res) : J G 3 0 0 33 [] [.int (s0)] (X, Y, o, dd, td) := by
  unfold f_X8_canHide_33 at h
  obtain ⟨c33, h⟩ := wgd_ok h
  obtain rfl := Option.some.inj h
  exact j_zret hG hE (wokN_ok c33) ⟨rfl, rfl⟩ (dt dtX8_canHide_0 21 rfl)
set_option maxRecDepth 4000 in
theorem g_f_X8_canHide_32 {G : wG} (hG : wOk G RX8 cX8_canHide 3 0 0) {X Y : wM} {o : Int64} {dd : UInt64} {td : wX} {res : (Int32)} (hE : wEnd G (some .boolean) (rp (some (.int (res))) (X, Y, o, dd, td)) xp0) (hT : wNoTab G) (h : f_X8_canHide_32 Y = some res) : J G 3 0 0 32 [] [] (X, Y, o, dd, td) := by
  unfold f_X8_canHide_32 at h
  refine j_iconst hG (v := 0) (dt dtX8_canHide_0 20 rfl) (by decide) ?_
  exact g_f_X8_canHide_33 hG hE hT h
set_option maxRecDepth 4000 in
theorem g_f_X8_canHide {G : wG} (hG : wOk G RX8 cX8_canHide 3 0 0) {X Y : wM} {o : Int64} {dd : UInt64} {td : wX} {res : (Int32)} (hE : wEnd G (some .boolean) (rp (some (.int (res))) (X, Y, o, dd, td)) xp0) (hT : wNoTab G) {a1 : Int32} {a2 : Int32} (h : f_X8_canHide Y a1 a2 = some res) : J G 3 0 0 0 [(0, .ref (wad (gB G) 22)), (1, .int (a1)), (2, .int (a2))] [] (X, Y, o, dd, td) := by
  unfold f_X8_canHide at h
  refine j_aload_n hG 0 (dt dtX8_canHide_0 0 rfl) rfl rfl ?_
  refine j_get hG cl_X8 22 12 (cv_22 _ _ _ _) (by decide) fl_X8_48 rfl rfl (dt dtX8_canHide_0 1 rfl) ?_
  refine j_bipush hG (v := 24) (dt dtX8_canHide_0 2 rfl) (by decide) ?_
  refine j_iload_n hG 1 (dt dtX8_canHide_0 3 rfl) rfl rfl ?_
  refine j_imul hG (dt dtX8_canHide_0 4 rfl) ?_
  refine j_iload_n hG 2 (dt dtX8_canHide_0 5 rfl) rfl rfl ?_
  refine j_iadd hG (dt dtX8_canHide_0 6 rfl) ?_
  refine j_iald hG 35 (cv_35 _ _ _ _) h (dt dtX8_canHide_0 7 rfl) (fun v10 h => ?_)
  refine j_if_le hG (tgt := 32) (dt dtX8_canHide_0 8 rfl) (by decide) h (fun h => ?_) (fun h => ?_)
  · refine j_aload_n hG 0 (dt dtX8_canHide_0 9 rfl) rfl rfl ?_
    refine j_get hG cl_X8 22 10 (cv_22 _ _ _ _) (by decide) fl_X8_42 rfl rfl (dt dtX8_canHide_0 10 rfl) ?_
    refine j_bipush hG (v := 24) (dt dtX8_canHide_0 11 rfl) (by decide) ?_
    refine j_iload_n hG 1 (dt dtX8_canHide_0 12 rfl) rfl rfl ?_
    refine j_imul hG (dt dtX8_canHide_0 13 rfl) ?_
    refine j_iload_n hG 2 (dt dtX8_canHide_0 14 rfl) rfl rfl ?_
    refine j_iadd hG (dt dtX8_canHide_0 15 rfl) ?_
    refine j_zald hG 33 (cv_33 _ _ _ _) h (dt dtX8_canHide_0 16 rfl) (fun v24 h => ?_)
    refine j_if_ne hG (tgt := 32) (dt dtX8_canHide_0 17 rfl) (by decide) h (fun h => ?_) (fun h => ?_)
    · refine j_iconst hG (v := 1) (dt dtX8_canHide_0 18 rfl) (by decide) ?_
      refine j_goto hG (tgt := 33) (dt dtX8_canHide_0 19 rfl) (by decide) ?_
      refine j_lv (lv' := []) [] rfl ?_
      exact g_f_X8_canHide_33 hG hE hT h
    · refine j_lv (lv' := []) [] rfl ?_
      exact g_f_X8_canHide_32 hG hE hT h
  · refine j_lv (lv' := []) [] rfl ?_
    exact g_f_X8_canHide_32 hG hE hT h
theorem ct_X8_canHide {l : Launch} (hl : l.stackTraces = false) (B : wB) (X Y : wM) (o : Int64) (dd : UInt64) (td : wX) {a1 : Int32} {a2 : Int32} {res : (Int32)} (h : f_X8_canHide Y a1 a2 = some res) : wMet l B yX8_canHide cX8_canHide 3 (some .boolean) 0 0 0 0 [.ref (wad B 22), .int (a1), .int (a2)] (X, Y, o, dd, td) (rp (some (.int (res))) (X, Y, o, dd, td)) xp0 :=
  wMet.of hl (by decide +kernel) (Nat.le_of_ble_eq_true rfl) (fun G hB hL hG hE hT => by subst hB; exact g_f_X8_canHide hG hE hT h)
def f_X8_helps_26 (Y : wM) (l1 : Int32) (l2 : Int32) (s0 : Int32) : Option (Int32 × wM) :=
  wput Y 33 192 ((24 * l1) + l2) (vp_nar .boolean 0) fun Y =>
  wgd (wokN .boolean s0) (some (s0, Y))
def f_X8_helps (Y : wM) (a1 : Int32) (a2 : Int32) (a3 : Int32) : Option (Int32 × wM) :=
  wput Y 33 192 ((24 * a1) + a2) (vp_nar .boolean 1) fun Y =>
  (f_X8_isFound Y a1 a3).bind fun y15 =>
  (if y15.1 = 0 then f_X8_helps_26 y15.2 a1 a2 (1 : Int32)
  else f_X8_helps_26 y15.2 a1 a2 (0 : Int32))
set_option maxRecDepth 4000 in
theorem g_f_X8_helps_26 {G : wG} (hG : wOk G RX8 cX8_helps 5 1 25) {X Y : wM} {o : Int64} {dd : UInt64} {td : wX} {res : (Int32 × wM)} (hE : wEnd G (some .boolean) (rp (some (.int (res.1))) (X, res.2, o, dd, td)) xp0) (hT : wNoTab G) {l1 : Int32} {l2 : Int32} {s0 : Int32} (h : f_X8_helps_26 Y l1 l2 s0 = some res) : J G 5 0 0 26 [(0, .ref (wad (gB G) 22)), (1, .int (l1)), (2, .int (l2))] [.int (s0)] (X, Y, o, dd, td) := by
  unfold f_X8_helps_26 at h
  refine j_istore hG (lv' := [(4, .int (s0)), (0, .ref (wad (gB G) 22)), (1, .int (l1)), (2, .int (l2))]) (dt dtX8_helps_0 17 rfl) (by decide) rfl ?_
  refine j_aload_n hG 1 (dt dtX8_helps_0 18 rfl) rfl rfl ?_
  refine j_get hG cl_X8 22 10 (cv_22 _ _ _ _) (by decide) fl_X8_42 rfl rfl (dt dtX8_helps_0 19 rfl) ?_
  refine j_bipush hG (v := 24) (dt dtX8_helps_0 20 rfl) (by decide) ?_
  refine j_iload_n hG 2 (dt dtX8_helps_0 21 rfl) rfl rfl ?_
  refine j_imul hG (dt dtX8_helps_0 22 rfl) ?_
  refine j_iload_n hG 3 (dt dtX8_helps_0 23 rfl) rfl rfl ?_
  refine j_iadd hG (dt dtX8_helps_0 24 rfl) ?_
  refine j_iconst hG (v := 0) (dt dtX8_helps_0 25 rfl) (by decide) ?_
  refine j_zast hG 33 (X := Y) (k := 33) (fun Y => (X, Y, o, dd, td)) (cv_33 _ _ _ _) (fun g => cs_33 _ _ _ _ g) h (dt dtX8_helps_0 26 rfl) (fun Y h => ?_)
  refine j_iload hG 0 (dt dtX8_helps_0 27 rfl) rfl ?_
  obtain ⟨c42, h⟩ := wgd_ok h
  obtain rfl := Option.some.inj h
  exact j_zret hG hE (wokN_ok c42) ⟨rfl, rfl⟩ (dt dtX8_helps_0 28 rfl)
set_option maxRecDepth 4000 in
theorem g_f_X8_helps {G : wG} (hG : wOk G RX8 cX8_helps 5 1 25) {X Y : wM} {o : Int64} {dd : UInt64} {td : wX} {res : (Int32 × wM)} (hE : wEnd G (some .boolean) (rp (some (.int (res.1))) (X, res.2, o, dd, td)) xp0) (hT : wNoTab G) {a1 : Int32} {a2 : Int32} {a3 : Int32} (h : f_X8_helps Y a1 a2 a3 = some res) : J G 5 0 0 0 [(0, .ref (wad (gB G) 22)), (1, .int (a1)), (2, .int (a2)), (3, .int (a3))] [] (X, Y, o, dd, td) := by
  unfold f_X8_helps at h
  refine j_aload_n hG 0 (dt dtX8_helps_0 0 rfl) rfl rfl ?_
  refine j_get hG cl_X8 22 10 (cv_22 _ _ _ _) (by decide) fl_X8_42 rfl rfl (dt dtX8_helps_0 1 rfl) ?_
  refine j_bipush hG (v := 24) (dt dtX8_helps_0 2 rfl) (by decide) ?_
  refine j_iload_n hG 1 (dt dtX8_helps_0 3 rfl) rfl rfl ?_
  refine j_imul hG (dt dtX8_helps_0 4 rfl) ?_
  refine j_iload_n hG 2 (dt dtX8_helps_0 5 rfl) rfl rfl ?_
  refine j_iadd hG (dt dtX8_helps_0 6 rfl) ?_
  refine j_iconst hG (v := 1) (dt dtX8_helps_0 7 rfl) (by decide) ?_
  refine j_zast hG 33 (X := Y) (k := 33) (fun Y => (X, Y, o, dd, td)) (cv_33 _ _ _ _) (fun g => cs_33 _ _ _ _ g) h (dt dtX8_helps_0 8 rfl) (fun Y h => ?_)
  refine j_aload_n hG 0 (dt dtX8_helps_0 9 rfl) rfl rfl ?_
  refine j_iload_n hG 1 (dt dtX8_helps_0 10 rfl) rfl rfl ?_
  refine j_iload_n hG 3 (dt dtX8_helps_0 11 rfl) rfl rfl ?_
  refine j_callVp hG h (V := fun y15 => (some (.int (y15.1)))) (S := fun y15 => (X, y15.2, o, dd, td)) (kc := 0) (ks := 0) (fun z hz => ct_X8_isFound hG.2.2.1 (gB G) _ _ _ _ _ hz) mf_X8_isFound ml_X8_154 22 (cv_22 _ _ _ _) rfl rfl (rest := []) rfl (Nat.le_of_ble_eq_true rfl) (dt dtX8_helps_0 12 rfl) (by decide) (by decide) (fun y15 h => ?_)
  refine j_if_ne hG (tgt := 25) (dt dtX8_helps_0 13 rfl) (by decide) h (fun h => ?_) (fun h => ?_)
  · refine j_iconst hG (v := 1) (dt dtX8_helps_0 14 rfl) (by decide) ?_
    refine j_goto hG (tgt := 26) (dt dtX8_helps_0 15 rfl) (by decide) ?_
    refine j_lv (lv' := [(0, .ref (wad (gB G) 22)), (1, .int (a1)), (2, .int (a2))]) [0, 1, 2] rfl ?_
    exact g_f_X8_helps_26 hG hE hT h
  · refine j_iconst hG (v := 0) (dt dtX8_helps_0 16 rfl) (by decide) ?_
    refine j_lv (lv' := [(0, .ref (wad (gB G) 22)), (1, .int (a1)), (2, .int (a2))]) [0, 1, 2] rfl ?_
    exact g_f_X8_helps_26 hG hE hT h
theorem ct_X8_helps {l : Launch} (hl : l.stackTraces = false) (B : wB) (X Y : wM) (o : Int64) (dd : UInt64) (td : wX) {a1 : Int32} {a2 : Int32} {a3 : Int32} {res : (Int32 × wM)} (h : f_X8_helps Y a1 a2 a3 = some res) : wMet l B yX8_helps cX8_helps 5 (some .boolean) 1 25 0 0 [.ref (wad B 22), .int (a1), .int (a2), .int (a3)] (X, Y, o, dd, td) (rp (some (.int (res.1))) (X, res.2, o, dd, td)) xp0 :=
  wMet.of hl (by decide +kernel) (Nat.le_of_ble_eq_true rfl) (fun G hB hL hG hE hT => by subst hB; exact g_f_X8_helps hG hE hT h)
def f_X8_next_77 (k6 : wM → Int32 → Int32 → Int32 → Int32 → Int32 → Option (Int32 × wM)) (Y : wM) (l1 : Int32) (l2 : Int32) (l3 : Int32) (l4 : Int32) (l5 : Int32) : Option (Int32 × wM) :=
  wbd (l5 + 1) fun v77 =>
  k6 Y l1 l2 l3 l4 v77
def f_X8_next_73 (k6 : wM → Int32 → Int32 → Int32 → Int32 → Int32 → Option (Int32 × wM)) (Y : wM) (l1 : Int32) (l2 : Int32) (l3 : Int32) (l5 : Int32) : Option (Int32 × wM) :=
  f_X8_next_77 k6 Y l1 l2 l3 l5 l5
def f_X8_next_41 (k6 : wM → Int32 → Int32 → Int32 → Int32 → Int32 → Option (Int32 × wM)) (Y : wM) (l1 : Int32) (l2 : Int32) (l3 : Int32) (l4 : Int32) (l5 : Int32) : Option (Int32 × wM) :=
  (if l4 < 0 then f_X8_next_73 k6 Y l1 l2 l3 l5
  else wget 192 (Y 35) ((24 * l1) + l5) fun v57 =>
  wget 192 (Y 35) ((24 * l1) + l4) fun v69 =>
  (if v57 < v69 then f_X8_next_73 k6 Y l1 l2 l3 l5
  else f_X8_next_77 k6 Y l1 l2 l3 l4 l5))
def f_X8_next_6b (k6 : wM → Int32 → Int32 → Int32 → Int32 → Int32 → Option (Int32 × wM)) (Y : wM) (l1 : Int32) (l2 : Int32) (l3 : Int32) (l4 : Int32) (l5 : Int32) : Option (Int32 × wM) :=
  (if l5 < 24 then (f_X8_canHide Y l1 l5).bind fun y17 =>
  (if y17 = 0 then f_X8_next_77 k6 Y l1 l2 l3 l4 l5
  else (if l3 = 0 then f_X8_next_41 k6 Y l1 l2 l3 l4 l5
  else (f_X8_helps Y l1 l5 l2).bind fun y32 =>
  (if y32.1 = 0 then f_X8_next_77 k6 y32.2 l1 l2 l3 l4 l5
  else f_X8_next_41 k6 y32.2 l1 l2 l3 l4 l5)))
  else some (l4, Y))
def f_X8_next_6 : Nat → wM → Int32 → Int32 → Int32 → Int32 → Int32 → Option (Int32 × wM)
  | 0 => fun _ _ _ _ _ _ => none
  | n + 1 => fun Y l1 l2 l3 l4 l5 => f_X8_next_6b (f_X8_next_6 n) Y l1 l2 l3 l4 l5
def f_X8_next (Y : wM) (a1 : Int32) (a2 : Int32) (a3 : Int32) : Option (Int32 × wM) :=
  f_X8_next_6 1000 Y a1 a2 a3 ((-1) : Int32) (0 : Int32)
set_option maxRecDepth 4000 in
theorem g_f_X8_next_77 {G : wG} (hG : wOk G RX8 cX8_next 6 2 49) {X Y : wM} {o : Int64} {dd : UInt64} {td : wX} {res : (Int32 × wM)} (hE : wEnd G (some .int) (rp (some (.int (res.1))) (X, res.2, o, dd, td)) xp0) (hT : wNoTab G) {k6 : wM → Int32 → Int32 → Int32 → Int32 → Int32 → Option (Int32 × wM)} (hk6 : ∀ (Y : wM) (l1 : Int32) (l2 : Int32) (l3 : Int32) (l4 : Int32) (l5 : Int32), k6 Y l1 l2 l3 l4 l5 = some res → J G 6 0 0 6 [(0, .ref (wad (gB G) 22)), (1, .int (l1)), (2, .int (l2)), (3, .int (l3)), (4, .int (l4)), (5, .int (l5))] [] (X, Y, o, dd, td)) {l1 : Int32} {l2 : Int32} {l3 : Int32} {l4 : Int32} {l5 : Int32} (h : f_X8_next_77 k6 Y l1 l2 l3 l4 l5 = some res) : J G 6 0 0 77 [(0, .ref (wad (gB G) 22)), (1, .int (l1)), (2, .int (l2)), (3, .int (l3)), (4, .int (l4)), (5, .int (l5))] [] (X, Y, o, dd, td) := by
  unfold f_X8_next_77 at h
  refine j_iincB hG 5 (fun v77 => [(5, .int (v77)), (0, .ref (wad (gB G) 22)), (1, .int (l1)), (2, .int (l2)), (3, .int (l3)), (4, .int (l4))]) (dt dtX8_next_0 42 rfl) rfl rfl (by decide) (fun _ => rfl) h (fun v77 h => ?_)
  refine j_goto hG (tgt := 6) (dt dtX8_next_0 43 rfl) (by decide) ?_
  refine j_lv (lv' := [(0, .ref (wad (gB G) 22)), (1, .int (l1)), (2, .int (l2)), (3, .int (l3)), (4, .int (l4)), (5, .int (v77))]) [1, 2, 3, 4, 5, 0] rfl ?_
  exact hk6 Y l1 l2 l3 l4 v77 h
set_option maxRecDepth 4000 in
theorem g_f_X8_next_73 {G : wG} (hG : wOk G RX8 cX8_next 6 2 49) {X Y : wM} {o : Int64} {dd : UInt64} {td : wX} {res : (Int32 × wM)} (hE : wEnd G (some .int) (rp (some (.int (res.1))) (X, res.2, o, dd, td)) xp0) (hT : wNoTab G) {k6 : wM → Int32 → Int32 → Int32 → Int32 → Int32 → Option (Int32 × wM)} (hk6 : ∀ (Y : wM) (l1 : Int32) (l2 : Int32) (l3 : Int32) (l4 : Int32) (l5 : Int32), k6 Y l1 l2 l3 l4 l5 = some res → J G 6 0 0 6 [(0, .ref (wad (gB G) 22)), (1, .int (l1)), (2, .int (l2)), (3, .int (l3)), (4, .int (l4)), (5, .int (l5))] [] (X, Y, o, dd, td)) {l1 : Int32} {l2 : Int32} {l3 : Int32} {l5 : Int32} (h : f_X8_next_73 k6 Y l1 l2 l3 l5 = some res) : J G 6 0 0 73 [(0, .ref (wad (gB G) 22)), (1, .int (l1)), (2, .int (l2)), (3, .int (l3)), (5, .int (l5))] [] (X, Y, o, dd, td) := by
  unfold f_X8_next_73 at h
  refine j_iload hG 4 (dt dtX8_next_0 40 rfl) rfl ?_
  refine j_istore hG (lv' := [(4, .int (l5)), (0, .ref (wad (gB G) 22)), (1, .int (l1)), (2, .int (l2)), (3, .int (l3)), (5, .int (l5))]) (dt dtX8_next_0 41 rfl) (by decide) rfl ?_
  refine j_lv (lv' := [(0, .ref (wad (gB G) 22)), (1, .int (l1)), (2, .int (l2)), (3, .int (l3)), (4, .int (l5)), (5, .int (l5))]) [1, 2, 3, 4, 0, 5] rfl ?_
  exact g_f_X8_next_77 hG hE hT hk6 h
set_option maxRecDepth 4000 in
theorem g_f_X8_next_41 {G : wG} (hG : wOk G RX8 cX8_next 6 2 49) {X Y : wM} {o : Int64} {dd : UInt64} {td : wX} {res : (Int32 × wM)} (hE : wEnd G (some .int) (rp (some (.int (res.1))) (X, res.2, o, dd, td)) xp0) (hT : wNoTab G) {k6 : wM → Int32 → Int32 → Int32 → Int32 → Int32 → Option (Int32 × wM)} (hk6 : ∀ (Y : wM) (l1 : Int32) (l2 : Int32) (l3 : Int32) (l4 : Int32) (l5 : Int32), k6 Y l1 l2 l3 l4 l5 = some res → J G 6 0 0 6 [(0, .ref (wad (gB G) 22)), (1, .int (l1)), (2, .int (l2)), (3, .int (l3)), (4, .int (l4)), (5, .int (l5))] [] (X, Y, o, dd, td)) {l1 : Int32} {l2 : Int32} {l3 : Int32} {l4 : Int32} {l5 : Int32} (h : f_X8_next_41 k6 Y l1 l2 l3 l4 l5 = some res) : J G 6 0 0 41 [(0, .ref (wad (gB G) 22)), (1, .int (l1)), (2, .int (l2)), (3, .int (l3)), (4, .int (l4)), (5, .int (l5))] [] (X, Y, o, dd, td) := by
  unfold f_X8_next_41 at h
  refine j_iload hG 4 (dt dtX8_next_0 21 rfl) rfl ?_
  refine j_if_lt hG (tgt := 73) (dt dtX8_next_0 22 rfl) (by decide) h (fun h => ?_) (fun h => ?_)
  · refine j_lv (lv' := [(0, .ref (wad (gB G) 22)), (1, .int (l1)), (2, .int (l2)), (3, .int (l3)), (5, .int (l5))]) [0, 1, 2, 3, 5] rfl ?_
    exact g_f_X8_next_73 hG hE hT hk6 h
  · refine j_aload_n hG 0 (dt dtX8_next_0 23 rfl) rfl rfl ?_
    refine j_get hG cl_X8 22 12 (cv_22 _ _ _ _) (by decide) fl_X8_48 rfl rfl (dt dtX8_next_0 24 rfl) ?_
    refine j_bipush hG (v := 24) (dt dtX8_next_0 25 rfl) (by decide) ?_
    refine j_iload_n hG 1 (dt dtX8_next_0 26 rfl) rfl rfl ?_
    refine j_imul hG (dt dtX8_next_0 27 rfl) ?_
    refine j_iload hG 5 (dt dtX8_next_0 28 rfl) rfl ?_
    refine j_iadd hG (dt dtX8_next_0 29 rfl) ?_
    refine j_iald hG 35 (cv_35 _ _ _ _) h (dt dtX8_next_0 30 rfl) (fun v57 h => ?_)
    refine j_aload_n hG 0 (dt dtX8_next_0 31 rfl) rfl rfl ?_
    refine j_get hG cl_X8 22 12 (cv_22 _ _ _ _) (by decide) fl_X8_48 rfl rfl (dt dtX8_next_0 32 rfl) ?_
    refine j_bipush hG (v := 24) (dt dtX8_next_0 33 rfl) (by decide) ?_
    refine j_iload_n hG 1 (dt dtX8_next_0 34 rfl) rfl rfl ?_
    refine j_imul hG (dt dtX8_next_0 35 rfl) ?_
    refine j_iload hG 4 (dt dtX8_next_0 36 rfl) rfl ?_
    refine j_iadd hG (dt dtX8_next_0 37 rfl) ?_
    refine j_iald hG 35 (cv_35 _ _ _ _) h (dt dtX8_next_0 38 rfl) (fun v69 h => ?_)
    refine j_icmp_ge hG (tgt := 77) (dt dtX8_next_0 39 rfl) (by decide) h (fun h => ?_) (fun h => ?_)
    · refine j_lv (lv' := [(0, .ref (wad (gB G) 22)), (1, .int (l1)), (2, .int (l2)), (3, .int (l3)), (5, .int (l5))]) [0, 1, 2, 3, 5] rfl ?_
      exact g_f_X8_next_73 hG hE hT hk6 h
    · exact g_f_X8_next_77 hG hE hT hk6 h
set_option maxRecDepth 4000 in
theorem g_f_X8_next_6b {G : wG} (hG : wOk G RX8 cX8_next 6 2 49) {X Y : wM} {o : Int64} {dd : UInt64} {td : wX} {res : (Int32 × wM)} (hE : wEnd G (some .int) (rp (some (.int (res.1))) (X, res.2, o, dd, td)) xp0) (hT : wNoTab G) {k6 : wM → Int32 → Int32 → Int32 → Int32 → Int32 → Option (Int32 × wM)} (hk6 : ∀ (Y : wM) (l1 : Int32) (l2 : Int32) (l3 : Int32) (l4 : Int32) (l5 : Int32), k6 Y l1 l2 l3 l4 l5 = some res → J G 6 0 0 6 [(0, .ref (wad (gB G) 22)), (1, .int (l1)), (2, .int (l2)), (3, .int (l3)), (4, .int (l4)), (5, .int (l5))] [] (X, Y, o, dd, td)) {l1 : Int32} {l2 : Int32} {l3 : Int32} {l4 : Int32} {l5 : Int32} (h : f_X8_next_6b k6 Y l1 l2 l3 l4 l5 = some res) : J G 6 0 0 6 [(0, .ref (wad (gB G) 22)), (1, .int (l1)), (2, .int (l2)), (3, .int (l3)), (4, .int (l4)), (5, .int (l5))] [] (X, Y, o, dd, td) := by
  unfold f_X8_next_6b at h
  refine j_iload hG 5 (dt dtX8_next_0 4 rfl) rfl ?_
  refine j_bipush hG (v := 24) (dt dtX8_next_0 5 rfl) (by decide) ?_
  refine j_icmp_ge hG (tgt := 83) (dt dtX8_next_0 6 rfl) (by decide) h (fun h => ?_) (fun h => ?_)
  · refine j_aload_n hG 0 (dt dtX8_next_0 7 rfl) rfl rfl ?_
    refine j_iload_n hG 1 (dt dtX8_next_0 8 rfl) rfl rfl ?_
    refine j_iload hG 5 (dt dtX8_next_0 9 rfl) rfl ?_
    refine j_callVp hG h (V := fun y17 => (some (.int (y17)))) (S := fun y17 => (X, Y, o, dd, td)) (kc := 0) (ks := 0) (fun z hz => ct_X8_canHide hG.2.2.1 (gB G) _ _ _ _ _ hz) mf_X8_canHide ml_X8_158 22 (cv_22 _ _ _ _) rfl rfl (rest := []) rfl (Nat.le_of_ble_eq_true rfl) (dt dtX8_next_0 10 rfl) (by decide) (by decide) (fun y17 h => ?_)
    refine j_if_eq hG (tgt := 77) (dt dtX8_next_0 11 rfl) (by decide) h (fun h => ?_) (fun h => ?_)
    · exact g_f_X8_next_77 hG hE hT hk6 h
    · refine j_iload_n hG 3 (dt dtX8_next_0 12 rfl) rfl rfl ?_
      refine j_if_eq hG (tgt := 41) (dt dtX8_next_0 13 rfl) (by decide) h (fun h => ?_) (fun h => ?_)
      · exact g_f_X8_next_41 hG hE hT hk6 h
      · refine j_aload_n hG 0 (dt dtX8_next_0 14 rfl) rfl rfl ?_
        refine j_iload_n hG 1 (dt dtX8_next_0 15 rfl) rfl rfl ?_
        refine j_iload hG 5 (dt dtX8_next_0 16 rfl) rfl ?_
        refine j_iload_n hG 2 (dt dtX8_next_0 17 rfl) rfl rfl ?_
        refine j_callVp hG h (V := fun y32 => (some (.int (y32.1)))) (S := fun y32 => (X, y32.2, o, dd, td)) (kc := 0) (ks := 0) (fun z hz => ct_X8_helps hG.2.2.1 (gB G) _ _ _ _ _ hz) mf_X8_helps ml_X8_161 22 (cv_22 _ _ _ _) rfl rfl (rest := []) rfl (Nat.le_of_ble_eq_true rfl) (dt dtX8_next_0 18 rfl) (by decide) (by decide) (fun y32 h => ?_)
        refine j_if_ne hG (tgt := 41) (dt dtX8_next_0 19 rfl) (by decide) h (fun h => ?_) (fun h => ?_)
        · refine j_goto hG (tgt := 77) (dt dtX8_next_0 20 rfl) (by decide) ?_
          exact g_f_X8_next_77 hG hE hT hk6 h
        · exact g_f_X8_next_41 hG hE hT hk6 h
  · refine j_iload hG 4 (dt dtX8_next_0 44 rfl) rfl ?_
    obtain rfl := Option.some.inj h
    exact j_iret hG hE ⟨rfl, rfl⟩ (dt dtX8_next_0 45 rfl)
set_option maxRecDepth 4000 in
theorem g_f_X8_next_6 {G : wG} (hG : wOk G RX8 cX8_next 6 2 49) {X : wM} {o : Int64} {dd : UInt64} {td : wX} {res : (Int32 × wM)} (hE : wEnd G (some .int) (rp (some (.int (res.1))) (X, res.2, o, dd, td)) xp0) (hT : wNoTab G) (n : Nat) : ∀ (Y : wM) (l1 : Int32) (l2 : Int32) (l3 : Int32) (l4 : Int32) (l5 : Int32), f_X8_next_6 n Y l1 l2 l3 l4 l5 = some res → J G 6 0 0 6 [(0, .ref (wad (gB G) 22)), (1, .int (l1)), (2, .int (l2)), (3, .int (l3)), (4, .int (l4)), (5, .int (l5))] [] (X, Y, o, dd, td) := by
  induction n with
  | zero => intro Y l1 l2 l3 l4 l5 h; cases h
  | succ n ih =>
    intro Y l1 l2 l3 l4 l5 h
    exact g_f_X8_next_6b hG hE hT ih h
set_option maxRecDepth 4000 in
theorem g_f_X8_next {G : wG} (hG : wOk G RX8 cX8_next 6 2 49) {X Y : wM} {o : Int64} {dd : UInt64} {td : wX} {res : (Int32 × wM)} (hE : wEnd G (some .int) (rp (some (.int (res.1))) (X, res.2, o, dd, td)) xp0) (hT : wNoTab G) {a1 : Int32} {a2 : Int32} {a3 : Int32} (h : f_X8_next Y a1 a2 a3 = some res) : J G 6 0 0 0 [(0, .ref (wad (gB G) 22)), (1, .int (a1)), (2, .int (a2)), (3, .int (a3))] [] (X, Y, o, dd, td) := by
  unfold f_X8_next at h
  refine j_iconst hG (v := (-1)) (dt dtX8_next_0 0 rfl) (by decide) ?_
  refine j_istore hG (lv' := [(4, .int ((-1))), (0, .ref (wad (gB G) 22)), (1, .int (a1)), (2, .int (a2)), (3, .int (a3))]) (dt dtX8_next_0 1 rfl) (by decide) rfl ?_
  refine j_iconst hG (v := 0) (dt dtX8_next_0 2 rfl) (by decide) ?_
  refine j_istore hG (lv' := [(5, .int (0)), (4, .int ((-1))), (0, .ref (wad (gB G) 22)), (1, .int (a1)), (2, .int (a2)), (3, .int (a3))]) (dt dtX8_next_0 3 rfl) (by decide) rfl ?_
  refine j_lv (lv' := [(0, .ref (wad (gB G) 22)), (1, .int (a1)), (2, .int (a2)), (3, .int (a3)), (4, .int ((-1))), (5, .int (0))]) [2, 3, 4, 5, 1, 0] rfl ?_
  exact g_f_X8_next_6 hG hE hT 1000 Y a1 a2 a3 ((-1) : Int32) (0 : Int32) h
theorem ct_X8_next {l : Launch} (hl : l.stackTraces = false) (B : wB) (X Y : wM) (o : Int64) (dd : UInt64) (td : wX) {a1 : Int32} {a2 : Int32} {a3 : Int32} {res : (Int32 × wM)} (h : f_X8_next Y a1 a2 a3 = some res) : wMet l B yX8_next cX8_next 6 (some .int) 2 49 0 0 [.ref (wad B 22), .int (a1), .int (a2), .int (a3)] (X, Y, o, dd, td) (rp (some (.int (res.1))) (X, res.2, o, dd, td)) xp0 :=
  wMet.of hl (by decide +kernel) (Nat.le_of_ble_eq_true rfl) (fun G hB hL hG hE hT => by subst hB; exact g_f_X8_next hG hE hT h)
def f_X8_hidesSmall_2b (k2 : wM → Int32 → Int32 → Option (wM)) (Y : wM) (l1 : Int32) (l2 : Int32) : Option (wM) :=
  (if l2 < 24 then wget 192 (Y 35) ((24 * l1) + l2) fun v28 =>
  (f_X8_in v28 (1 : Int32) (2 : Int32)).bind fun y31 =>
  wput Y 33 192 ((24 * l1) + l2) (vp_nar .boolean y31) fun Y =>
  wbd (l2 + 1) fun v35 =>
  k2 Y l1 v35
  else some Y)
def f_X8_hidesSmall_2 : Nat → wM → Int32 → Int32 → Option (wM)
  | 0 => fun _ _ _ => none
  | n + 1 => fun Y l1 l2 => f_X8_hidesSmall_2b (f_X8_hidesSmall_2 n) Y l1 l2
def f_X8_hidesSmall (Y : wM) (a1 : Int32) : Option (wM) :=
  f_X8_hidesSmall_2 1000 Y a1 (0 : Int32)
set_option maxRecDepth 4000 in
theorem g_f_X8_hidesSmall_2b {G : wG} (hG : wOk G RX8 cX8_hidesSmall 3 1 22) {X Y : wM} {o : Int64} {dd : UInt64} {td : wX} {res : (wM)} (hE : wEnd G none (rp none (X, res, o, dd, td)) xp0) (hT : wNoTab G) {k2 : wM → Int32 → Int32 → Option (wM)} (hk2 : ∀ (Y : wM) (l1 : Int32) (l2 : Int32), k2 Y l1 l2 = some res → J G 3 0 0 2 [(0, .ref (wad (gB G) 22)), (1, .int (l1)), (2, .int (l2))] [] (X, Y, o, dd, td)) {l1 : Int32} {l2 : Int32} (h : f_X8_hidesSmall_2b k2 Y l1 l2 = some res) : J G 3 0 0 2 [(0, .ref (wad (gB G) 22)), (1, .int (l1)), (2, .int (l2))] [] (X, Y, o, dd, td) := by
  unfold f_X8_hidesSmall_2b at h
  refine j_iload_n hG 2 (dt dtX8_hidesSmall_0 2 rfl) rfl rfl ?_
  refine j_bipush hG (v := 24) (dt dtX8_hidesSmall_0 3 rfl) (by decide) ?_
  refine j_icmp_ge hG (tgt := 41) (dt dtX8_hidesSmall_0 4 rfl) (by decide) h (fun h => ?_) (fun h => ?_)
  · refine j_aload_n hG 0 (dt dtX8_hidesSmall_0 5 rfl) rfl rfl ?_
    refine j_get hG cl_X8 22 10 (cv_22 _ _ _ _) (by decide) fl_X8_42 rfl rfl (dt dtX8_hidesSmall_0 6 rfl) ?_
    refine j_bipush hG (v := 24) (dt dtX8_hidesSmall_0 7 rfl) (by decide) ?_
    refine j_iload_n hG 1 (dt dtX8_hidesSmall_0 8 rfl) rfl rfl ?_
    refine j_imul hG (dt dtX8_hidesSmall_0 9 rfl) ?_
    refine j_iload_n hG 2 (dt dtX8_hidesSmall_0 10 rfl) rfl rfl ?_
    refine j_iadd hG (dt dtX8_hidesSmall_0 11 rfl) ?_
    refine j_aload_n hG 0 (dt dtX8_hidesSmall_0 12 rfl) rfl rfl ?_
    refine j_get hG cl_X8 22 12 (cv_22 _ _ _ _) (by decide) fl_X8_48 rfl rfl (dt dtX8_hidesSmall_0 13 rfl) ?_
    refine j_bipush hG (v := 24) (dt dtX8_hidesSmall_0 14 rfl) (by decide) ?_
    refine j_iload_n hG 1 (dt dtX8_hidesSmall_0 15 rfl) rfl rfl ?_
    refine j_imul hG (dt dtX8_hidesSmall_0 16 rfl) ?_
    refine j_iload_n hG 2 (dt dtX8_hidesSmall_0 17 rfl) rfl rfl ?_
    refine j_iadd hG (dt dtX8_hidesSmall_0 18 rfl) ?_
    refine j_iald hG 35 (cv_35 _ _ _ _) h (dt dtX8_hidesSmall_0 19 rfl) (fun v28 h => ?_)
    refine j_iconst hG (v := 1) (dt dtX8_hidesSmall_0 20 rfl) (by decide) ?_
    refine j_iconst hG (v := 2) (dt dtX8_hidesSmall_0 21 rfl) (by decide) ?_
    refine j_callSp hG h (V := fun y31 => (some (.int (y31)))) (S := fun y31 => (X, Y, o, dd, td)) (kc := 0) (ks := 0) (fun z hz => ct_X8_in hG.2.2.1 (gB G) _ _ _ _ _ hz) mf_X8_in ml_X8_91 rfl (rest := [.int (((24 * l1) + l2)), .ref (wad (gB G) 33)]) rfl (Nat.le_of_ble_eq_true rfl) (dt dtX8_hidesSmall_0 22 rfl) (by decide) (by decide) (fun y31 h => ?_)
    refine j_zast hG 33 (X := Y) (k := 33) (fun Y => (X, Y, o, dd, td)) (cv_33 _ _ _ _) (fun g => cs_33 _ _ _ _ g) h (dt dtX8_hidesSmall_0 23 rfl) (fun Y h => ?_)
    refine j_iincB hG 2 (fun v35 => [(2, .int (v35)), (0, .ref (wad (gB G) 22)), (1, .int (l1))]) (dt dtX8_hidesSmall_0 24 rfl) rfl rfl (by decide) (fun _ => rfl) h (fun v35 h => ?_)
    refine j_goto hG (tgt := 2) (dt dtX8_hidesSmall_0 25 rfl) (by decide) ?_
    refine j_lv (lv' := [(0, .ref (wad (gB G) 22)), (1, .int (l1)), (2, .int (v35))]) [1, 2, 0] rfl ?_
    exact hk2 Y l1 v35 h
  · obtain rfl := Option.some.inj h
    exact j_vret hG hE ⟨rfl, rfl⟩ (dt dtX8_hidesSmall_0 26 rfl)
set_option maxRecDepth 4000 in
theorem g_f_X8_hidesSmall_2 {G : wG} (hG : wOk G RX8 cX8_hidesSmall 3 1 22) {X : wM} {o : Int64} {dd : UInt64} {td : wX} {res : (wM)} (hE : wEnd G none (rp none (X, res, o, dd, td)) xp0) (hT : wNoTab G) (n : Nat) : ∀ (Y : wM) (l1 : Int32) (l2 : Int32), f_X8_hidesSmall_2 n Y l1 l2 = some res → J G 3 0 0 2 [(0, .ref (wad (gB G) 22)), (1, .int (l1)), (2, .int (l2))] [] (X, Y, o, dd, td) := by
  induction n with
  | zero => intro Y l1 l2 h; cases h
  | succ n ih =>
    intro Y l1 l2 h
    exact g_f_X8_hidesSmall_2b hG hE hT ih h
set_option maxRecDepth 4000 in
theorem g_f_X8_hidesSmall {G : wG} (hG : wOk G RX8 cX8_hidesSmall 3 1 22) {X Y : wM} {o : Int64} {dd : UInt64} {td : wX} {res : (wM)} (hE : wEnd G none (rp none (X, res, o, dd, td)) xp0) (hT : wNoTab G) {a1 : Int32} (h : f_X8_hidesSmall Y a1 = some res) : J G 3 0 0 0 [(0, .ref (wad (gB G) 22)), (1, .int (a1))] [] (X, Y, o, dd, td) := by
  unfold f_X8_hidesSmall at h
  refine j_iconst hG (v := 0) (dt dtX8_hidesSmall_0 0 rfl) (by decide) ?_
  refine j_istore_n hG (lv' := [(2, .int (0)), (0, .ref (wad (gB G) 22)), (1, .int (a1))]) (dt dtX8_hidesSmall_0 1 rfl) rfl (by decide) rfl ?_
  refine j_lv (lv' := [(0, .ref (wad (gB G) 22)), (1, .int (a1)), (2, .int (0))]) [1, 2, 0] rfl ?_
  exact g_f_X8_hidesSmall_2 hG hE hT 1000 Y a1 (0 : Int32) h
theorem ct_X8_hidesSmall {l : Launch} (hl : l.stackTraces = false) (B : wB) (X Y : wM) (o : Int64) (dd : UInt64) (td : wX) {a1 : Int32} {res : (wM)} (h : f_X8_hidesSmall Y a1 = some res) : wMet l B yX8_hidesSmall cX8_hidesSmall 3 none 1 22 0 0 [.ref (wad B 22), .int (a1)] (X, Y, o, dd, td) (rp none (X, res, o, dd, td)) xp0 :=
  wMet.of hl (by decide +kernel) (Nat.le_of_ble_eq_true rfl) (fun G hB hL hG hE hT => by subst hB; exact g_f_X8_hidesSmall hG hE hT h)
def f_X8_hides_35 (k11 : wM → Int32 → Int32 → Option (Int32 × wM)) (Y : wM) (l1 : Int32) (l3 : Int32) : Option (Int32 × wM) :=
  (if l3 < 0 then some (0, Y)
  else wput Y 33 192 ((24 * l1) + l3) (vp_nar .boolean 1) fun Y =>
  (f_X8_firstFound Y l1).bind fun y55 =>
  k11 y55.2 l1 y55.1)
def f_X8_hides_11b (k11 : wM → Int32 → Int32 → Option (Int32 × wM)) (Y : wM) (l1 : Int32) (l2 : Int32) : Option (Int32 × wM) :=
  (if l2 < 0 then some (1, Y)
  else (f_X8_next Y l1 l2 (1 : Int32)).bind fun y19 =>
  (if y19.1 < 0 then (f_X8_next y19.2 l1 l2 (0 : Int32)).bind fun y31 =>
  f_X8_hides_35 k11 y31.2 l1 y31.1
  else f_X8_hides_35 k11 y19.2 l1 y19.1))
def f_X8_hides_11 : Nat → wM → Int32 → Int32 → Option (Int32 × wM)
  | 0 => fun _ _ _ => none
  | n + 1 => fun Y l1 l2 => f_X8_hides_11b (f_X8_hides_11 n) Y l1 l2
def f_X8_hides (Y : wM) (a1 : Int32) : Option (Int32 × wM) :=
  (f_X8_hidesSmall Y a1).bind fun y2 =>
  (f_X8_firstFound y2 a1).bind fun y7 =>
  f_X8_hides_11 1000 y7.2 a1 y7.1
set_option maxRecDepth 4000 in
theorem g_f_X8_hides_35 {G : wG} (hG : wOk G RX8 cX8_hides 4 3 74) {X Y : wM} {o : Int64} {dd : UInt64} {td : wX} {res : (Int32 × wM)} (hE : wEnd G (some .boolean) (rp (some (.int (res.1))) (X, res.2, o, dd, td)) xp0) (hT : wNoTab G) {k11 : wM → Int32 → Int32 → Option (Int32 × wM)} (hk11 : ∀ (Y : wM) (l1 : Int32) (l2 : Int32), k11 Y l1 l2 = some res → J G 4 0 0 11 [(0, .ref (wad (gB G) 22)), (1, .int (l1)), (2, .int (l2))] [] (X, Y, o, dd, td)) {l1 : Int32} {l3 : Int32} (h : f_X8_hides_35 k11 Y l1 l3 = some res) : J G 4 0 0 35 [(0, .ref (wad (gB G) 22)), (1, .int (l1)), (3, .int (l3))] [] (X, Y, o, dd, td) := by
  unfold f_X8_hides_35 at h
  refine j_iload_n hG 2 (dt dtX8_hides_0 23 rfl) rfl rfl ?_
  refine j_if_ge hG (tgt := 41) (dt dtX8_hides_0 24 rfl) (by decide) h (fun h => ?_) (fun h => ?_)
  · refine j_iconst hG (v := 0) (dt dtX8_hides_0 25 rfl) (by decide) ?_
    obtain rfl := Option.some.inj h
    exact j_zret hG hE (by decide) ⟨rfl, rfl⟩ (dt dtX8_hides_0 26 rfl)
  · refine j_aload_n hG 0 (dt dtX8_hides_0 27 rfl) rfl rfl ?_
    refine j_get hG cl_X8 22 10 (cv_22 _ _ _ _) (by decide) fl_X8_42 rfl rfl (dt dtX8_hides_0 28 rfl) ?_
    refine j_bipush hG (v := 24) (dt dtX8_hides_0 29 rfl) (by decide) ?_
    refine j_iload_n hG 1 (dt dtX8_hides_0 30 rfl) rfl rfl ?_
    refine j_imul hG (dt dtX8_hides_0 31 rfl) ?_
    refine j_iload_n hG 2 (dt dtX8_hides_0 32 rfl) rfl rfl ?_
    refine j_iadd hG (dt dtX8_hides_0 33 rfl) ?_
    refine j_iconst hG (v := 1) (dt dtX8_hides_0 34 rfl) (by decide) ?_
    refine j_zast hG 33 (X := Y) (k := 33) (fun Y => (X, Y, o, dd, td)) (cv_33 _ _ _ _) (fun g => cs_33 _ _ _ _ g) h (dt dtX8_hides_0 35 rfl) (fun Y h => ?_)
    refine j_aload_n hG 0 (dt dtX8_hides_0 36 rfl) rfl rfl ?_
    refine j_iload_n hG 1 (dt dtX8_hides_0 37 rfl) rfl rfl ?_
    refine j_callVp hG h (V := fun y55 => (some (.int (y55.1)))) (S := fun y55 => (X, y55.2, o, dd, td)) (kc := 0) (ks := 0) (fun z hz => ct_X8_firstFound hG.2.2.1 (gB G) _ _ _ _ _ hz) mf_X8_firstFound ml_X8_168 22 (cv_22 _ _ _ _) rfl rfl (rest := []) rfl (Nat.le_of_ble_eq_true rfl) (dt dtX8_hides_0 38 rfl) (by decide) (by decide) (fun y55 h => ?_)
    refine j_istore_n hG (lv' := [(2, .int (y55.1)), (0, .ref (wad (gB G) 22)), (1, .int (l1)), (3, .int (l3))]) (dt dtX8_hides_0 39 rfl) rfl (by decide) rfl ?_
    refine j_goto hG (tgt := 11) (dt dtX8_hides_0 40 rfl) (by decide) ?_
    refine j_lv (lv' := [(0, .ref (wad (gB G) 22)), (1, .int (l1)), (2, .int (y55.1))]) [1, 2, 0] rfl ?_
    exact hk11 y55.2 l1 y55.1 h
set_option maxRecDepth 4000 in
theorem g_f_X8_hides_11b {G : wG} (hG : wOk G RX8 cX8_hides 4 3 74) {X Y : wM} {o : Int64} {dd : UInt64} {td : wX} {res : (Int32 × wM)} (hE : wEnd G (some .boolean) (rp (some (.int (res.1))) (X, res.2, o, dd, td)) xp0) (hT : wNoTab G) {k11 : wM → Int32 → Int32 → Option (Int32 × wM)} (hk11 : ∀ (Y : wM) (l1 : Int32) (l2 : Int32), k11 Y l1 l2 = some res → J G 4 0 0 11 [(0, .ref (wad (gB G) 22)), (1, .int (l1)), (2, .int (l2))] [] (X, Y, o, dd, td)) {l1 : Int32} {l2 : Int32} (h : f_X8_hides_11b k11 Y l1 l2 = some res) : J G 4 0 0 11 [(0, .ref (wad (gB G) 22)), (1, .int (l1)), (2, .int (l2))] [] (X, Y, o, dd, td) := by
  unfold f_X8_hides_11b at h
  refine j_iload_n hG 2 (dt dtX8_hides_0 7 rfl) rfl rfl ?_
  refine j_if_lt hG (tgt := 62) (dt dtX8_hides_0 8 rfl) (by decide) h (fun h => ?_) (fun h => ?_)
  · refine j_iconst hG (v := 1) (dt dtX8_hides_0 41 rfl) (by decide) ?_
    obtain rfl := Option.some.inj h
    exact j_zret hG hE (by decide) ⟨rfl, rfl⟩ (dt dtX8_hides_0 42 rfl)
  · refine j_aload_n hG 0 (dt dtX8_hides_0 9 rfl) rfl rfl ?_
    refine j_iload_n hG 1 (dt dtX8_hides_0 10 rfl) rfl rfl ?_
    refine j_iload_n hG 2 (dt dtX8_hides_0 11 rfl) rfl rfl ?_
    refine j_iconst hG (v := 1) (dt dtX8_hides_0 12 rfl) (by decide) ?_
    refine j_callVp hG h (V := fun y19 => (some (.int (y19.1)))) (S := fun y19 => (X, y19.2, o, dd, td)) (kc := 0) (ks := 0) (fun z hz => ct_X8_next hG.2.2.1 (gB G) _ _ _ _ _ hz) mf_X8_next ml_X8_171 22 (cv_22 _ _ _ _) rfl rfl (rest := []) rfl (Nat.le_of_ble_eq_true rfl) (dt dtX8_hides_0 13 rfl) (by decide) (by decide) (fun y19 h => ?_)
    refine j_istore_n hG (lv' := [(3, .int (y19.1)), (0, .ref (wad (gB G) 22)), (1, .int (l1)), (2, .int (l2))]) (dt dtX8_hides_0 14 rfl) rfl (by decide) rfl ?_
    refine j_iload_n hG 0 (dt dtX8_hides_0 15 rfl) rfl rfl ?_
    refine j_if_ge hG (tgt := 35) (dt dtX8_hides_0 16 rfl) (by decide) h (fun h => ?_) (fun h => ?_)
    · refine j_aload_n hG 1 (dt dtX8_hides_0 17 rfl) rfl rfl ?_
      refine j_iload_n hG 2 (dt dtX8_hides_0 18 rfl) rfl rfl ?_
      refine j_iload_n hG 3 (dt dtX8_hides_0 19 rfl) rfl rfl ?_
      refine j_iconst hG (v := 0) (dt dtX8_hides_0 20 rfl) (by decide) ?_
      refine j_callVp hG h (V := fun y31 => (some (.int (y31.1)))) (S := fun y31 => (X, y31.2, o, dd, td)) (kc := 0) (ks := 0) (fun z hz => ct_X8_next hG.2.2.1 (gB G) _ _ _ _ _ hz) mf_X8_next ml_X8_171 22 (cv_22 _ _ _ _) rfl rfl (rest := []) rfl (Nat.le_of_ble_eq_true rfl) (dt dtX8_hides_0 21 rfl) (by decide) (by decide) (fun y31 h => ?_)
      refine j_istore_n hG (lv' := [(3, .int (y31.1)), (0, .ref (wad (gB G) 22)), (1, .int (l1)), (2, .int (l2))]) (dt dtX8_hides_0 22 rfl) rfl (by decide) rfl ?_
      refine j_lv (lv' := [(0, .ref (wad (gB G) 22)), (1, .int (l1)), (3, .int (y31.1))]) [1, 2, 0] rfl ?_
      exact g_f_X8_hides_35 hG hE hT hk11 h
    · refine j_lv (lv' := [(0, .ref (wad (gB G) 22)), (1, .int (l1)), (3, .int (y19.1))]) [1, 2, 0] rfl ?_
      exact g_f_X8_hides_35 hG hE hT hk11 h
set_option maxRecDepth 4000 in
theorem g_f_X8_hides_11 {G : wG} (hG : wOk G RX8 cX8_hides 4 3 74) {X : wM} {o : Int64} {dd : UInt64} {td : wX} {res : (Int32 × wM)} (hE : wEnd G (some .boolean) (rp (some (.int (res.1))) (X, res.2, o, dd, td)) xp0) (hT : wNoTab G) (n : Nat) : ∀ (Y : wM) (l1 : Int32) (l2 : Int32), f_X8_hides_11 n Y l1 l2 = some res → J G 4 0 0 11 [(0, .ref (wad (gB G) 22)), (1, .int (l1)), (2, .int (l2))] [] (X, Y, o, dd, td) := by
  induction n with
  | zero => intro Y l1 l2 h; cases h
  | succ n ih =>
    intro Y l1 l2 h
    exact g_f_X8_hides_11b hG hE hT ih h
set_option maxRecDepth 4000 in
theorem g_f_X8_hides {G : wG} (hG : wOk G RX8 cX8_hides 4 3 74) {X Y : wM} {o : Int64} {dd : UInt64} {td : wX} {res : (Int32 × wM)} (hE : wEnd G (some .boolean) (rp (some (.int (res.1))) (X, res.2, o, dd, td)) xp0) (hT : wNoTab G) {a1 : Int32} (h : f_X8_hides Y a1 = some res) : J G 4 0 0 0 [(0, .ref (wad (gB G) 22)), (1, .int (a1))] [] (X, Y, o, dd, td) := by
  unfold f_X8_hides at h
  refine j_aload_n hG 0 (dt dtX8_hides_0 0 rfl) rfl rfl ?_
  refine j_iload_n hG 1 (dt dtX8_hides_0 1 rfl) rfl rfl ?_
  refine j_callVp hG h (V := fun y2 => none) (S := fun y2 => (X, y2, o, dd, td)) (kc := 0) (ks := 0) (fun z hz => ct_X8_hidesSmall hG.2.2.1 (gB G) _ _ _ _ _ hz) mf_X8_hidesSmall ml_X8_164 22 (cv_22 _ _ _ _) rfl rfl (rest := []) rfl (Nat.le_of_ble_eq_true rfl) (dt dtX8_hides_0 2 rfl) (by decide) (by decide) (fun y2 h => ?_)
  refine j_aload_n hG 0 (dt dtX8_hides_0 3 rfl) rfl rfl ?_
  refine j_iload_n hG 1 (dt dtX8_hides_0 4 rfl) rfl rfl ?_
  refine j_callVp hG h (V := fun y7 => (some (.int (y7.1)))) (S := fun y7 => (X, y7.2, o, dd, td)) (kc := 0) (ks := 0) (fun z hz => ct_X8_firstFound hG.2.2.1 (gB G) _ _ _ _ _ hz) mf_X8_firstFound ml_X8_168 22 (cv_22 _ _ _ _) rfl rfl (rest := []) rfl (Nat.le_of_ble_eq_true rfl) (dt dtX8_hides_0 5 rfl) (by decide) (by decide) (fun y7 h => ?_)
  refine j_istore_n hG (lv' := [(2, .int (y7.1)), (0, .ref (wad (gB G) 22)), (1, .int (a1))]) (dt dtX8_hides_0 6 rfl) rfl (by decide) rfl ?_
  refine j_lv (lv' := [(0, .ref (wad (gB G) 22)), (1, .int (a1)), (2, .int (y7.1))]) [1, 2, 0] rfl ?_
  exact g_f_X8_hides_11 hG hE hT 1000 y7.2 a1 y7.1 h
theorem ct_X8_hides {l : Launch} (hl : l.stackTraces = false) (B : wB) (X Y : wM) (o : Int64) (dd : UInt64) (td : wX) {a1 : Int32} {res : (Int32 × wM)} (h : f_X8_hides Y a1 = some res) : wMet l B yX8_hides cX8_hides 4 (some .boolean) 3 74 0 0 [.ref (wad B 22), .int (a1)] (X, Y, o, dd, td) (rp (some (.int (res.1))) (X, res.2, o, dd, td)) xp0 :=
  wMet.of hl (by decide +kernel) (Nat.le_of_ble_eq_true rfl) (fun G hB hL hG hE hT => by subst hB; exact g_f_X8_hides hG hE hT h)
def f_X8_tell_90 (Y : wM) (s0 : Int32) : Option (Int32 × wM) :=
  wfld Y 22 14 s0 fun Y =>
  (if 0 < (Y 22 14) then some (0, Y)
  else wput Y 36 8 (Y 22 18) (Y 22 15) fun Y =>
  wfld Y 22 18 ((Y 22 18) + 1) fun Y =>
  some (((Y 22 18) - 1), Y))
def f_X8_tell_41b (k41 : wM → Int32 → Option (Int32 × wM)) (Y : wM) (l1 : Int32) : Option (Int32 × wM) :=
  (if l1 < 24 then wget 24 (Y 28) l1 fun v65 =>
  wput Y 35 192 ((24 * (Y 22 18)) + l1) v65 fun Y =>
  wbd (l1 + 1) fun v67 =>
  k41 Y v67
  else (f_X8_hides Y (Y 22 18)).bind fun y79 =>
  (if y79.1 = 0 then f_X8_tell_90 y79.2 (2 : Int32)
  else f_X8_tell_90 y79.2 (0 : Int32)))
def f_X8_tell_41 : Nat → wM → Int32 → Option (Int32 × wM)
  | 0 => fun _ _ => none
  | n + 1 => fun Y l1 => f_X8_tell_41b (f_X8_tell_41 n) Y l1
def f_X8_tell_23 (Y : wM) (s0 : Int32) : Option (Int32 × wM) :=
  wfld Y 22 14 s0 fun Y =>
  (if 0 < (Y 22 14) then some (0, Y)
  else (f_X8_layCounts Y).bind fun y36 =>
  f_X8_tell_41 1000 y36 (0 : Int32))
def f_X8_tell_18 (Y : wM) : Option (Int32 × wM) :=
  f_X8_tell_23 Y (1 : Int32)
def f_X8_tell (Y : wM) : Option (Int32 × wM) :=
  (if (Y 22 15) < 2 then f_X8_tell_18 Y
  else (if (Y 22 18) = 8 then f_X8_tell_18 Y
  else f_X8_tell_23 Y (0 : Int32)))
set_option maxRecDepth 4000 in
theorem g_f_X8_tell_90 {G : wG} (hG : wOk G RX8 cX8_tell 2 5 112) {X Y : wM} {o : Int64} {dd : UInt64} {td : wX} {res : (Int32 × wM)} (hE : wEnd G (some .int) (rp (some (.int (res.1))) (X, res.2, o, dd, td)) xp0) (hT : wNoTab G) {s0 : Int32} (h : f_X8_tell_90 Y s0 = some res) : J G 2 0 0 90 [(0, .ref (wad (gB G) 22))] [.int (s0), .ref (wad (gB G) 22)] (X, Y, o, dd, td) := by
  unfold f_X8_tell_90 at h
  refine j_put hG cl_X8 22 14 (X := Y) (k := 22) (fun Y => (X, Y, o, dd, td)) (cv_22 _ _ _ _) (by decide) fl_X8_54 rfl rfl rfl rfl rfl (Nat.le_of_ble_eq_true rfl) (cs_22 _ _ _ _ (upd (Y 22) 14 s0)) h (dt dtX8_tell_0 49 rfl) (fun Y h => ?_)
  refine j_aload_n hG 0 (dt dtX8_tell_0 50 rfl) rfl rfl ?_
  refine j_get hG cl_X8 22 14 (cv_22 _ _ _ _) (by decide) fl_X8_54 rfl rfl (dt dtX8_tell_0 51 rfl) ?_
  refine j_if_le hG (tgt := 102) (dt dtX8_tell_0 52 rfl) (by decide) h (fun h => ?_) (fun h => ?_)
  · refine j_iconst hG (v := 0) (dt dtX8_tell_0 53 rfl) (by decide) ?_
    obtain rfl := Option.some.inj h
    exact j_iret hG hE ⟨rfl, rfl⟩ (dt dtX8_tell_0 54 rfl)
  · refine j_aload_n hG 0 (dt dtX8_tell_0 55 rfl) rfl rfl ?_
    refine j_get hG cl_X8 22 13 (cv_22 _ _ _ _) (by decide) fl_X8_51 rfl rfl (dt dtX8_tell_0 56 rfl) ?_
    refine j_aload_n hG 0 (dt dtX8_tell_0 57 rfl) rfl rfl ?_
    refine j_get hG cl_X8 22 18 (cv_22 _ _ _ _) (by decide) fl_X8_67 rfl rfl (dt dtX8_tell_0 58 rfl) ?_
    refine j_aload_n hG 0 (dt dtX8_tell_0 59 rfl) rfl rfl ?_
    refine j_get hG cl_X8 22 15 (cv_22 _ _ _ _) (by decide) fl_X8_58 rfl rfl (dt dtX8_tell_1 0 rfl) ?_
    refine j_iast hG 36 (X := Y) (k := 36) (fun Y => (X, Y, o, dd, td)) (cv_36 _ _ _ _) (fun g => cs_36 _ _ _ _ g) h (dt dtX8_tell_1 1 rfl) (fun Y h => ?_)
    refine j_aload_n hG 0 (dt dtX8_tell_1 2 rfl) rfl rfl ?_
    refine j_dup hG (dt dtX8_tell_1 3 rfl) rfl ?_
    refine j_get hG cl_X8 22 18 (cv_22 _ _ _ _) (by decide) fl_X8_67 rfl rfl (dt dtX8_tell_1 4 rfl) ?_
    refine j_iconst hG (v := 1) (dt dtX8_tell_1 5 rfl) (by decide) ?_
    refine j_iadd hG (dt dtX8_tell_1 6 rfl) ?_
    refine j_put hG cl_X8 22 18 (X := Y) (k := 22) (fun Y => (X, Y, o, dd, td)) (cv_22 _ _ _ _) (by decide) fl_X8_67 rfl rfl rfl rfl rfl (Nat.le_of_ble_eq_true rfl) (cs_22 _ _ _ _ (upd (Y 22) 18 ((Y 22 18) + 1))) h (dt dtX8_tell_1 7 rfl) (fun Y h => ?_)
    refine j_aload_n hG 0 (dt dtX8_tell_1 8 rfl) rfl rfl ?_
    refine j_get hG cl_X8 22 18 (cv_22 _ _ _ _) (by decide) fl_X8_67 rfl rfl (dt dtX8_tell_1 9 rfl) ?_
    refine j_iconst hG (v := 1) (dt dtX8_tell_1 10 rfl) (by decide) ?_
    refine j_isub hG (dt dtX8_tell_1 11 rfl) ?_
    obtain rfl := Option.some.inj h
    exact j_iret hG hE ⟨rfl, rfl⟩ (dt dtX8_tell_1 12 rfl)
set_option maxRecDepth 4000 in
theorem g_f_X8_tell_41b {G : wG} (hG : wOk G RX8 cX8_tell 2 5 112) {X Y : wM} {o : Int64} {dd : UInt64} {td : wX} {res : (Int32 × wM)} (hE : wEnd G (some .int) (rp (some (.int (res.1))) (X, res.2, o, dd, td)) xp0) (hT : wNoTab G) {k41 : wM → Int32 → Option (Int32 × wM)} (hk41 : ∀ (Y : wM) (l1 : Int32), k41 Y l1 = some res → J G 2 0 0 41 [(0, .ref (wad (gB G) 22)), (1, .int (l1))] [] (X, Y, o, dd, td)) {l1 : Int32} (h : f_X8_tell_41b k41 Y l1 = some res) : J G 2 0 0 41 [(0, .ref (wad (gB G) 22)), (1, .int (l1))] [] (X, Y, o, dd, td) := by
  unfold f_X8_tell_41b at h
  refine j_iload_n hG 1 (dt dtX8_tell_0 22 rfl) rfl rfl ?_
  refine j_bipush hG (v := 24) (dt dtX8_tell_0 23 rfl) (by decide) ?_
  refine j_icmp_ge hG (tgt := 73) (dt dtX8_tell_0 24 rfl) (by decide) h (fun h => ?_) (fun h => ?_)
  · refine j_aload_n hG 0 (dt dtX8_tell_0 25 rfl) rfl rfl ?_
    refine j_get hG cl_X8 22 12 (cv_22 _ _ _ _) (by decide) fl_X8_48 rfl rfl (dt dtX8_tell_0 26 rfl) ?_
    refine j_bipush hG (v := 24) (dt dtX8_tell_0 27 rfl) (by decide) ?_
    refine j_aload_n hG 0 (dt dtX8_tell_0 28 rfl) rfl rfl ?_
    refine j_get hG cl_X8 22 18 (cv_22 _ _ _ _) (by decide) fl_X8_67 rfl rfl (dt dtX8_tell_0 29 rfl) ?_
    refine j_imul hG (dt dtX8_tell_0 30 rfl) ?_
    refine j_iload_n hG 1 (dt dtX8_tell_0 31 rfl) rfl rfl ?_
    refine j_iadd hG (dt dtX8_tell_0 32 rfl) ?_
    refine j_aload_n hG 0 (dt dtX8_tell_0 33 rfl) rfl rfl ?_
    refine j_get hG cl_X8 22 5 (cv_22 _ _ _ _) (by decide) fl_X8_25 rfl rfl (dt dtX8_tell_0 34 rfl) ?_
    refine j_iload_n hG 1 (dt dtX8_tell_0 35 rfl) rfl rfl ?_
    refine j_iald hG 28 (cv_28 _ _ _ _) h (dt dtX8_tell_0 36 rfl) (fun v65 h => ?_)
    refine j_iast hG 35 (X := Y) (k := 35) (fun Y => (X, Y, o, dd, td)) (cv_35 _ _ _ _) (fun g => cs_35 _ _ _ _ g) h (dt dtX8_tell_0 37 rfl) (fun Y h => ?_)
    refine j_iincB hG 1 (fun v67 => [(1, .int (v67)), (0, .ref (wad (gB G) 22))]) (dt dtX8_tell_0 38 rfl) rfl rfl (by decide) (fun _ => rfl) h (fun v67 h => ?_)
    refine j_goto hG (tgt := 41) (dt dtX8_tell_0 39 rfl) (by decide) ?_
    refine j_lv (lv' := [(0, .ref (wad (gB G) 22)), (1, .int (v67))]) [1, 0] rfl ?_
    exact hk41 Y v67 h
  · refine j_aload_n hG 0 (dt dtX8_tell_0 40 rfl) rfl rfl ?_
    refine j_aload_n hG 0 (dt dtX8_tell_0 41 rfl) rfl rfl ?_
    refine j_aload_n hG 0 (dt dtX8_tell_0 42 rfl) rfl rfl ?_
    refine j_get hG cl_X8 22 18 (cv_22 _ _ _ _) (by decide) fl_X8_67 rfl rfl (dt dtX8_tell_0 43 rfl) ?_
    refine j_callVp hG h (V := fun y79 => (some (.int (y79.1)))) (S := fun y79 => (X, y79.2, o, dd, td)) (kc := 0) (ks := 0) (fun z hz => ct_X8_hides hG.2.2.1 (gB G) _ _ _ _ _ hz) mf_X8_hides ml_X8_175 22 (cv_22 _ _ _ _) rfl rfl (rest := [.ref (wad (gB G) 22)]) rfl (Nat.le_of_ble_eq_true rfl) (dt dtX8_tell_0 44 rfl) (by decide) (by decide) (fun y79 h => ?_)
    refine j_if_eq hG (tgt := 89) (dt dtX8_tell_0 45 rfl) (by decide) h (fun h => ?_) (fun h => ?_)
    · refine j_iconst hG (v := 2) (dt dtX8_tell_0 48 rfl) (by decide) ?_
      refine j_lv (lv' := [(0, .ref (wad (gB G) 22))]) [0] rfl ?_
      exact g_f_X8_tell_90 hG hE hT h
    · refine j_iconst hG (v := 0) (dt dtX8_tell_0 46 rfl) (by decide) ?_
      refine j_goto hG (tgt := 90) (dt dtX8_tell_0 47 rfl) (by decide) ?_
      refine j_lv (lv' := [(0, .ref (wad (gB G) 22))]) [0] rfl ?_
      exact g_f_X8_tell_90 hG hE hT h
set_option maxRecDepth 4000 in
theorem g_f_X8_tell_41 {G : wG} (hG : wOk G RX8 cX8_tell 2 5 112) {X : wM} {o : Int64} {dd : UInt64} {td : wX} {res : (Int32 × wM)} (hE : wEnd G (some .int) (rp (some (.int (res.1))) (X, res.2, o, dd, td)) xp0) (hT : wNoTab G) (n : Nat) : ∀ (Y : wM) (l1 : Int32), f_X8_tell_41 n Y l1 = some res → J G 2 0 0 41 [(0, .ref (wad (gB G) 22)), (1, .int (l1))] [] (X, Y, o, dd, td) := by
  induction n with
  | zero => intro Y l1 h; cases h
  | succ n ih =>
    intro Y l1 h
    exact g_f_X8_tell_41b hG hE hT ih h
set_option maxRecDepth 4000 in
theorem g_f_X8_tell_23 {G : wG} (hG : wOk G RX8 cX8_tell 2 5 112) {X Y : wM} {o : Int64} {dd : UInt64} {td : wX} {res : (Int32 × wM)} (hE : wEnd G (some .int) (rp (some (.int (res.1))) (X, res.2, o, dd, td)) xp0) (hT : wNoTab G) {s0 : Int32} (h : f_X8_tell_23 Y s0 = some res) : J G 2 0 0 23 [(0, .ref (wad (gB G) 22))] [.int (s0), .ref (wad (gB G) 22)] (X, Y, o, dd, td) := by
  unfold f_X8_tell_23 at h
  refine j_put hG cl_X8 22 14 (X := Y) (k := 22) (fun Y => (X, Y, o, dd, td)) (cv_22 _ _ _ _) (by decide) fl_X8_54 rfl rfl rfl rfl rfl (Nat.le_of_ble_eq_true rfl) (cs_22 _ _ _ _ (upd (Y 22) 14 s0)) h (dt dtX8_tell_0 12 rfl) (fun Y h => ?_)
  refine j_aload_n hG 0 (dt dtX8_tell_0 13 rfl) rfl rfl ?_
  refine j_get hG cl_X8 22 14 (cv_22 _ _ _ _) (by decide) fl_X8_54 rfl rfl (dt dtX8_tell_0 14 rfl) ?_
  refine j_if_le hG (tgt := 35) (dt dtX8_tell_0 15 rfl) (by decide) h (fun h => ?_) (fun h => ?_)
  · refine j_iconst hG (v := 0) (dt dtX8_tell_0 16 rfl) (by decide) ?_
    obtain rfl := Option.some.inj h
    exact j_iret hG hE ⟨rfl, rfl⟩ (dt dtX8_tell_0 17 rfl)
  · refine j_aload_n hG 0 (dt dtX8_tell_0 18 rfl) rfl rfl ?_
    refine j_callVp hG h (V := fun y36 => none) (S := fun y36 => (X, y36, o, dd, td)) (kc := 0) (ks := 0) (fun z hz => ct_X8_layCounts hG.2.2.1 (gB G) _ _ _ _ _ hz) mf_X8_layCounts ml_X8_117 22 (cv_22 _ _ _ _) rfl rfl (rest := []) rfl (Nat.le_of_ble_eq_true rfl) (dt dtX8_tell_0 19 rfl) (by decide) (by decide) (fun y36 h => ?_)
    refine j_iconst hG (v := 0) (dt dtX8_tell_0 20 rfl) (by decide) ?_
    refine j_istore_n hG (lv' := [(1, .int (0)), (0, .ref (wad (gB G) 22))]) (dt dtX8_tell_0 21 rfl) rfl (by decide) rfl ?_
    refine j_lv (lv' := [(0, .ref (wad (gB G) 22)), (1, .int (0))]) [1, 0] rfl ?_
    exact g_f_X8_tell_41 hG hE hT 1000 y36 (0 : Int32) h
set_option maxRecDepth 4000 in
theorem g_f_X8_tell_18 {G : wG} (hG : wOk G RX8 cX8_tell 2 5 112) {X Y : wM} {o : Int64} {dd : UInt64} {td : wX} {res : (Int32 × wM)} (hE : wEnd G (some .int) (rp (some (.int (res.1))) (X, res.2, o, dd, td)) xp0) (hT : wNoTab G) (h : f_X8_tell_18 Y = some res) : J G 2 0 0 18 [(0, .ref (wad (gB G) 22))] [.ref (wad (gB G) 22)] (X, Y, o, dd, td) := by
  unfold f_X8_tell_18 at h
  refine j_iconst hG (v := 1) (dt dtX8_tell_0 9 rfl) (by decide) ?_
  refine j_goto hG (tgt := 23) (dt dtX8_tell_0 10 rfl) (by decide) ?_
  exact g_f_X8_tell_23 hG hE hT h
set_option maxRecDepth 4000 in
theorem g_f_X8_tell {G : wG} (hG : wOk G RX8 cX8_tell 2 5 112) {X Y : wM} {o : Int64} {dd : UInt64} {td : wX} {res : (Int32 × wM)} (hE : wEnd G (some .int) (rp (some (.int (res.1))) (X, res.2, o, dd, td)) xp0) (hT : wNoTab G) (h : f_X8_tell Y = some res) : J G 2 0 0 0 [(0, .ref (wad (gB G) 22))] [] (X, Y, o, dd, td) := by
  unfold f_X8_tell at h
  refine j_aload_n hG 0 (dt dtX8_tell_0 0 rfl) rfl rfl ?_
  refine j_aload_n hG 0 (dt dtX8_tell_0 1 rfl) rfl rfl ?_
  refine j_get hG cl_X8 22 15 (cv_22 _ _ _ _) (by decide) fl_X8_58 rfl rfl (dt dtX8_tell_0 2 rfl) ?_
  refine j_iconst hG (v := 2) (dt dtX8_tell_0 3 rfl) (by decide) ?_
  refine j_icmp_lt hG (tgt := 18) (dt dtX8_tell_0 4 rfl) (by decide) h (fun h => ?_) (fun h => ?_)
  · exact g_f_X8_tell_18 hG hE hT h
  · refine j_aload_n hG 0 (dt dtX8_tell_0 5 rfl) rfl rfl ?_
    refine j_get hG cl_X8 22 18 (cv_22 _ _ _ _) (by decide) fl_X8_67 rfl rfl (dt dtX8_tell_0 6 rfl) ?_
    refine j_bipush hG (v := 8) (dt dtX8_tell_0 7 rfl) (by decide) ?_
    refine j_icmp_ne hG (tgt := 22) (dt dtX8_tell_0 8 rfl) (by decide) h (fun h => ?_) (fun h => ?_)
    · exact g_f_X8_tell_18 hG hE hT h
    · refine j_iconst hG (v := 0) (dt dtX8_tell_0 11 rfl) (by decide) ?_
      exact g_f_X8_tell_23 hG hE hT h
theorem ct_X8_tell {l : Launch} (hl : l.stackTraces = false) (B : wB) (X Y : wM) (o : Int64) (dd : UInt64) (td : wX) {res : (Int32 × wM)} (h : f_X8_tell Y = some res) : wMet l B yX8_tell cX8_tell 2 (some .int) 5 112 0 0 [.ref (wad B 22)] (X, Y, o, dd, td) (rp (some (.int (res.1))) (X, res.2, o, dd, td)) xp0 :=
  wMet.of hl (by decide +kernel) (Nat.le_of_ble_eq_true rfl) (fun G hB hL hG hE hT => by subst hB; exact g_f_X8_tell hG hE hT h)
def f_X8_isTable (Y : wM) (a1 : Int32) : Option (Int32) :=
  (f_X8_in a1 (0 : Int32) ((Y 22 18) - 1)).bind fun y8 =>
  wgd (wokN .boolean y8) (some y8)
set_option maxRecDepth 4000 in
theorem g_f_X8_isTable {G : wG} (hG : wOk G RX8 cX8_isTable 2 1 22) {X Y : wM} {o : Int64} {dd : UInt64} {td : wX} {res : (Int32)} (hE : wEnd G (some .boolean) (rp (some (.int (res))) (X, Y, o, dd, td)) xp0) (hT : wNoTab G) {a1 : Int32} (h : f_X8_isTable Y a1 = some res) : J G 2 0 0 0 [(0, .ref (wad (gB G) 22)), (1, .int (a1))] [] (X, Y, o, dd, td) := by
  unfold f_X8_isTable at h
  refine j_iload_n hG 1 (dt dtX8_isTable_0 0 rfl) rfl rfl ?_
  refine j_iconst hG (v := 0) (dt dtX8_isTable_0 1 rfl) (by decide) ?_
  refine j_aload_n hG 0 (dt dtX8_isTable_0 2 rfl) rfl rfl ?_
  refine j_get hG cl_X8 22 18 (cv_22 _ _ _ _) (by decide) fl_X8_67 rfl rfl (dt dtX8_isTable_0 3 rfl) ?_
  refine j_iconst hG (v := 1) (dt dtX8_isTable_0 4 rfl) (by decide) ?_
  refine j_isub hG (dt dtX8_isTable_0 5 rfl) ?_
  refine j_callSp hG h (V := fun y8 => (some (.int (y8)))) (S := fun y8 => (X, Y, o, dd, td)) (kc := 0) (ks := 0) (fun z hz => ct_X8_in hG.2.2.1 (gB G) _ _ _ _ _ hz) mf_X8_in ml_X8_91 rfl (rest := []) rfl (Nat.le_of_ble_eq_true rfl) (dt dtX8_isTable_0 6 rfl) (by decide) (by decide) (fun y8 h => ?_)
  obtain ⟨c11, h⟩ := wgd_ok h
  obtain rfl := Option.some.inj h
  exact j_zret hG hE (wokN_ok c11) ⟨rfl, rfl⟩ (dt dtX8_isTable_0 7 rfl)
theorem ct_X8_isTable {l : Launch} (hl : l.stackTraces = false) (B : wB) (X Y : wM) (o : Int64) (dd : UInt64) (td : wX) {a1 : Int32} {res : (Int32)} (h : f_X8_isTable Y a1 = some res) : wMet l B yX8_isTable cX8_isTable 2 (some .boolean) 1 22 0 0 [.ref (wad B 22), .int (a1)] (X, Y, o, dd, td) (rp (some (.int (res))) (X, Y, o, dd, td)) xp0 :=
  wMet.of hl (by decide +kernel) (Nat.le_of_ble_eq_true rfl) (fun G hB hL hG hE hT => by subst hB; exact g_f_X8_isTable hG hE hT h)
def f_X8_stateOf_28 (Y : wM) (s0 : Int32) : Option (Int32 × wM) :=
  wgd (wokN .char s0) (some (s0, Y))
def f_X8_stateOf_21 (Y : wM) : Option (Int32 × wM) :=
  f_X8_stateOf_28 Y (116 : Int32)
def f_X8_stateOf (Y : wM) (a1 : Int32) : Option (Int32 × wM) :=
  (f_X8_isTable Y a1).bind fun y3 =>
  (f_X8_checked Y y3).bind fun y6 =>
  (if 0 < y6.1 then f_X8_stateOf_21 y6.2
  else wget 8 (y6.2 32) a1 fun v17 =>
  (if v17 = 0 then f_X8_stateOf_21 y6.2
  else f_X8_stateOf_28 y6.2 (117 : Int32)))
set_option maxRecDepth 4000 in
theorem g_f_X8_stateOf_28 {G : wG} (hG : wOk G RX8 cX8_stateOf 2 2 43) {X Y : wM} {o : Int64} {dd : UInt64} {td : wX} {res : (Int32 × wM)} (hE : wEnd G (some .char) (rp (some (.int (res.1))) (X, res.2, o, dd, td)) xp0) (hT : wNoTab G) {s0 : Int32} (h : f_X8_stateOf_28 Y s0 = some res) : J G 2 0 0 28 [] [.int (s0)] (X, Y, o, dd, td) := by
  unfold f_X8_stateOf_28 at h
  obtain ⟨c28, h⟩ := wgd_ok h
  obtain rfl := Option.some.inj h
  exact j_zret hG hE (wokN_ok c28) ⟨rfl, rfl⟩ (dt dtX8_stateOf_0 14 rfl)
set_option maxRecDepth 4000 in
theorem g_f_X8_stateOf_21 {G : wG} (hG : wOk G RX8 cX8_stateOf 2 2 43) {X Y : wM} {o : Int64} {dd : UInt64} {td : wX} {res : (Int32 × wM)} (hE : wEnd G (some .char) (rp (some (.int (res.1))) (X, res.2, o, dd, td)) xp0) (hT : wNoTab G) (h : f_X8_stateOf_21 Y = some res) : J G 2 0 0 21 [] [] (X, Y, o, dd, td) := by
  unfold f_X8_stateOf_21 at h
  refine j_bipush hG (v := 116) (dt dtX8_stateOf_0 11 rfl) (by decide) ?_
  refine j_goto hG (tgt := 28) (dt dtX8_stateOf_0 12 rfl) (by decide) ?_
  exact g_f_X8_stateOf_28 hG hE hT h
set_option maxRecDepth 4000 in
theorem g_f_X8_stateOf {G : wG} (hG : wOk G RX8 cX8_stateOf 2 2 43) {X Y : wM} {o : Int64} {dd : UInt64} {td : wX} {res : (Int32 × wM)} (hE : wEnd G (some .char) (rp (some (.int (res.1))) (X, res.2, o, dd, td)) xp0) (hT : wNoTab G) {a1 : Int32} (h : f_X8_stateOf Y a1 = some res) : J G 2 0 0 0 [(0, .ref (wad (gB G) 22)), (1, .int (a1))] [] (X, Y, o, dd, td) := by
  unfold f_X8_stateOf at h
  refine j_aload_n hG 0 (dt dtX8_stateOf_0 0 rfl) rfl rfl ?_
  refine j_aload_n hG 0 (dt dtX8_stateOf_0 1 rfl) rfl rfl ?_
  refine j_iload_n hG 1 (dt dtX8_stateOf_0 2 rfl) rfl rfl ?_
  refine j_callVp hG h (V := fun y3 => (some (.int (y3)))) (S := fun y3 => (X, Y, o, dd, td)) (kc := 0) (ks := 0) (fun z hz => ct_X8_isTable hG.2.2.1 (gB G) _ _ _ _ _ hz) mf_X8_isTable ml_X8_178 22 (cv_22 _ _ _ _) rfl rfl (rest := [.ref (wad (gB G) 22)]) rfl (Nat.le_of_ble_eq_true rfl) (dt dtX8_stateOf_0 3 rfl) (by decide) (by decide) (fun y3 h => ?_)
  refine j_callVp hG h (V := fun y6 => (some (.int (y6.1)))) (S := fun y6 => (X, y6.2, o, dd, td)) (kc := 0) (ks := 0) (fun z hz => ct_X8_checked hG.2.2.1 (gB G) _ _ _ _ _ hz) mf_X8_checked ml_X8_120 22 (cv_22 _ _ _ _) rfl rfl (rest := []) rfl (Nat.le_of_ble_eq_true rfl) (dt dtX8_stateOf_0 4 rfl) (by decide) (by decide) (fun y6 h => ?_)
  refine j_if_gt hG (tgt := 21) (dt dtX8_stateOf_0 5 rfl) (by decide) h (fun h => ?_) (fun h => ?_)
  · refine j_lv (lv' := []) [] rfl ?_
    exact g_f_X8_stateOf_21 hG hE hT h
  · refine j_aload_n hG 0 (dt dtX8_stateOf_0 6 rfl) rfl rfl ?_
    refine j_get hG cl_X8 22 9 (cv_22 _ _ _ _) (by decide) fl_X8_39 rfl rfl (dt dtX8_stateOf_0 7 rfl) ?_
    refine j_iload_n hG 1 (dt dtX8_stateOf_0 8 rfl) rfl rfl ?_
    refine j_zald hG 32 (cv_32 _ _ _ _) h (dt dtX8_stateOf_0 9 rfl) (fun v17 h => ?_)
    refine j_if_ne hG (tgt := 26) (dt dtX8_stateOf_0 10 rfl) (by decide) h (fun h => ?_) (fun h => ?_)
    · refine j_lv (lv' := []) [] rfl ?_
      exact g_f_X8_stateOf_21 hG hE hT h
    · refine j_bipush hG (v := 117) (dt dtX8_stateOf_0 13 rfl) (by decide) ?_
      refine j_lv (lv' := []) [] rfl ?_
      exact g_f_X8_stateOf_28 hG hE hT h
theorem ct_X8_stateOf {l : Launch} (hl : l.stackTraces = false) (B : wB) (X Y : wM) (o : Int64) (dd : UInt64) (td : wX) {a1 : Int32} {res : (Int32 × wM)} (h : f_X8_stateOf Y a1 = some res) : wMet l B yX8_stateOf cX8_stateOf 2 (some .char) 2 43 0 0 [.ref (wad B 22), .int (a1)] (X, Y, o, dd, td) (rp (some (.int (res.1))) (X, res.2, o, dd, td)) xp0 :=
  wMet.of hl (by decide +kernel) (Nat.le_of_ble_eq_true rfl) (fun G hB hL hG hE hT => by subst hB; exact g_f_X8_stateOf hG hE hT h)
def f_X8_wrongCell_46 (Y : wM) (s0 : Int32) : Option (Int32) :=
  some s0
def f_X8_wrongCell (Y : wM) (a1 : Int32) (a2 : Int32) (a3 : Int32) : Option (Int32) :=
  (f_X8_isTable Y a1).bind fun y2 =>
  (if y2 = 0 then f_X8_wrongCell_46 Y (1 : Int32)
  else wget 8 (Y 36) a1 fun v19 =>
  (f_X8_in a2 (0 : Int32) (v19 - 1)).bind fun y22 =>
  (if y22 = 0 then f_X8_wrongCell_46 Y (2 : Int32)
  else (f_X8_in a3 (0 : Int32) (3 : Int32)).bind fun y35 =>
  (if y35 = 0 then f_X8_wrongCell_46 Y (3 : Int32)
  else f_X8_wrongCell_46 Y (0 : Int32))))
set_option maxRecDepth 4000 in
theorem g_f_X8_wrongCell_46 {G : wG} (hG : wOk G RX8 cX8_wrongCell 4 2 43) {X Y : wM} {o : Int64} {dd : UInt64} {td : wX} {res : (Int32)} (hE : wEnd G (some .int) (rp (some (.int (res))) (X, Y, o, dd, td)) xp0) (hT : wNoTab G) {s0 : Int32} (h : f_X8_wrongCell_46 Y s0 = some res) : J G 4 0 0 46 [] [.int (s0)] (X, Y, o, dd, td) := by
  unfold f_X8_wrongCell_46 at h
  obtain rfl := Option.some.inj h
  exact j_iret hG hE ⟨rfl, rfl⟩ (dt dtX8_wrongCell_0 26 rfl)
set_option maxRecDepth 4000 in
theorem g_f_X8_wrongCell {G : wG} (hG : wOk G RX8 cX8_wrongCell 4 2 43) {X Y : wM} {o : Int64} {dd : UInt64} {td : wX} {res : (Int32)} (hE : wEnd G (some .int) (rp (some (.int (res))) (X, Y, o, dd, td)) xp0) (hT : wNoTab G) {a1 : Int32} {a2 : Int32} {a3 : Int32} (h : f_X8_wrongCell Y a1 a2 a3 = some res) : J G 4 0 0 0 [(0, .ref (wad (gB G) 22)), (1, .int (a1)), (2, .int (a2)), (3, .int (a3))] [] (X, Y, o, dd, td) := by
  unfold f_X8_wrongCell at h
  refine j_aload_n hG 0 (dt dtX8_wrongCell_0 0 rfl) rfl rfl ?_
  refine j_iload_n hG 1 (dt dtX8_wrongCell_0 1 rfl) rfl rfl ?_
  refine j_callVp hG h (V := fun y2 => (some (.int (y2)))) (S := fun y2 => (X, Y, o, dd, td)) (kc := 0) (ks := 0) (fun z hz => ct_X8_isTable hG.2.2.1 (gB G) _ _ _ _ _ hz) mf_X8_isTable ml_X8_178 22 (cv_22 _ _ _ _) rfl rfl (rest := []) rfl (Nat.le_of_ble_eq_true rfl) (dt dtX8_wrongCell_0 2 rfl) (by decide) (by decide) (fun y2 h => ?_)
  refine j_if_ne hG (tgt := 12) (dt dtX8_wrongCell_0 3 rfl) (by decide) h (fun h => ?_) (fun h => ?_)
  · refine j_iconst hG (v := 1) (dt dtX8_wrongCell_0 4 rfl) (by decide) ?_
    refine j_goto hG (tgt := 46) (dt dtX8_wrongCell_0 5 rfl) (by decide) ?_
    refine j_lv (lv' := []) [] rfl ?_
    exact g_f_X8_wrongCell_46 hG hE hT h
  · refine j_iload_n hG 2 (dt dtX8_wrongCell_0 6 rfl) rfl rfl ?_
    refine j_iconst hG (v := 0) (dt dtX8_wrongCell_0 7 rfl) (by decide) ?_
    refine j_aload_n hG 0 (dt dtX8_wrongCell_0 8 rfl) rfl rfl ?_
    refine j_get hG cl_X8 22 13 (cv_22 _ _ _ _) (by decide) fl_X8_51 rfl rfl (dt dtX8_wrongCell_0 9 rfl) ?_
    refine j_iload_n hG 1 (dt dtX8_wrongCell_0 10 rfl) rfl rfl ?_
    refine j_iald hG 36 (cv_36 _ _ _ _) h (dt dtX8_wrongCell_0 11 rfl) (fun v19 h => ?_)
    refine j_iconst hG (v := 1) (dt dtX8_wrongCell_0 12 rfl) (by decide) ?_
    refine j_isub hG (dt dtX8_wrongCell_0 13 rfl) ?_
    refine j_callSp hG h (V := fun y22 => (some (.int (y22)))) (S := fun y22 => (X, Y, o, dd, td)) (kc := 0) (ks := 0) (fun z hz => ct_X8_in hG.2.2.1 (gB G) _ _ _ _ _ hz) mf_X8_in ml_X8_91 rfl (rest := []) rfl (Nat.le_of_ble_eq_true rfl) (dt dtX8_wrongCell_0 14 rfl) (by decide) (by decide) (fun y22 h => ?_)
    refine j_if_ne hG (tgt := 32) (dt dtX8_wrongCell_0 15 rfl) (by decide) h (fun h => ?_) (fun h => ?_)
    · refine j_iconst hG (v := 2) (dt dtX8_wrongCell_0 16 rfl) (by decide) ?_
      refine j_goto hG (tgt := 46) (dt dtX8_wrongCell_0 17 rfl) (by decide) ?_
      refine j_lv (lv' := []) [] rfl ?_
      exact g_f_X8_wrongCell_46 hG hE hT h
    · refine j_iload_n hG 3 (dt dtX8_wrongCell_0 18 rfl) rfl rfl ?_
      refine j_iconst hG (v := 0) (dt dtX8_wrongCell_0 19 rfl) (by decide) ?_
      refine j_iconst hG (v := 3) (dt dtX8_wrongCell_0 20 rfl) (by decide) ?_
      refine j_callSp hG h (V := fun y35 => (some (.int (y35)))) (S := fun y35 => (X, Y, o, dd, td)) (kc := 0) (ks := 0) (fun z hz => ct_X8_in hG.2.2.1 (gB G) _ _ _ _ _ hz) mf_X8_in ml_X8_91 rfl (rest := []) rfl (Nat.le_of_ble_eq_true rfl) (dt dtX8_wrongCell_0 21 rfl) (by decide) (by decide) (fun y35 h => ?_)
      refine j_if_ne hG (tgt := 45) (dt dtX8_wrongCell_0 22 rfl) (by decide) h (fun h => ?_) (fun h => ?_)
      · refine j_iconst hG (v := 3) (dt dtX8_wrongCell_0 23 rfl) (by decide) ?_
        refine j_goto hG (tgt := 46) (dt dtX8_wrongCell_0 24 rfl) (by decide) ?_
        refine j_lv (lv' := []) [] rfl ?_
        exact g_f_X8_wrongCell_46 hG hE hT h
      · refine j_iconst hG (v := 0) (dt dtX8_wrongCell_0 25 rfl) (by decide) ?_
        refine j_lv (lv' := []) [] rfl ?_
        exact g_f_X8_wrongCell_46 hG hE hT h
theorem ct_X8_wrongCell {l : Launch} (hl : l.stackTraces = false) (B : wB) (X Y : wM) (o : Int64) (dd : UInt64) (td : wX) {a1 : Int32} {a2 : Int32} {a3 : Int32} {res : (Int32)} (h : f_X8_wrongCell Y a1 a2 a3 = some res) : wMet l B yX8_wrongCell cX8_wrongCell 4 (some .int) 2 43 0 0 [.ref (wad B 22), .int (a1), .int (a2), .int (a3)] (X, Y, o, dd, td) (rp (some (.int (res))) (X, Y, o, dd, td)) xp0 :=
  wMet.of hl (by decide +kernel) (Nat.le_of_ble_eq_true rfl) (fun G hB hL hG hE hT => by subst hB; exact g_f_X8_wrongCell hG hE hT h)
def f_X8_place (a0 : Int32) (a1 : Int32) (a2 : Int32) : Option (Int32) :=
  some (((24 * a0) + (4 * a1)) + a2)
set_option maxRecDepth 4000 in
theorem g_f_X8_place {G : wG} (hG : wOk G RX8 cX8_place 3 0 0) {X Y : wM} {o : Int64} {dd : UInt64} {td : wX} {res : (Int32)} (hE : wEnd G (some .int) (rp (some (.int (res))) (X, Y, o, dd, td)) xp0) (hT : wNoTab G) {a0 : Int32} {a1 : Int32} {a2 : Int32} (h : f_X8_place a0 a1 a2 = some res) : J G 3 0 0 0 [(0, .int (a0)), (1, .int (a1)), (2, .int (a2))] [] (X, Y, o, dd, td) := by
  unfold f_X8_place at h
  refine j_bipush hG (v := 24) (dt dtX8_place_0 0 rfl) (by decide) ?_
  refine j_iload_n hG 0 (dt dtX8_place_0 1 rfl) rfl rfl ?_
  refine j_imul hG (dt dtX8_place_0 2 rfl) ?_
  refine j_iconst hG (v := 4) (dt dtX8_place_0 3 rfl) (by decide) ?_
  refine j_iload_n hG 1 (dt dtX8_place_0 4 rfl) rfl rfl ?_
  refine j_imul hG (dt dtX8_place_0 5 rfl) ?_
  refine j_iadd hG (dt dtX8_place_0 6 rfl) ?_
  refine j_iload_n hG 2 (dt dtX8_place_0 7 rfl) rfl rfl ?_
  refine j_iadd hG (dt dtX8_place_0 8 rfl) ?_
  obtain rfl := Option.some.inj h
  exact j_iret hG hE ⟨rfl, rfl⟩ (dt dtX8_place_0 9 rfl)
theorem ct_X8_place {l : Launch} (hl : l.stackTraces = false) (B : wB) (X Y : wM) (o : Int64) (dd : UInt64) (td : wX) {a0 : Int32} {a1 : Int32} {a2 : Int32} {res : (Int32)} (h : f_X8_place a0 a1 a2 = some res) : wMet l B yX8_place cX8_place 3 (some .int) 0 0 0 0 [.int (a0), .int (a1), .int (a2)] (X, Y, o, dd, td) (rp (some (.int (res))) (X, Y, o, dd, td)) xp0 :=
  wMet.of hl (by decide +kernel) (Nat.le_of_ble_eq_true rfl) (fun G hB hL hG hE hT => by subst hB; exact g_f_X8_place hG hE hT h)
def f_X8_isHidden_37 (Y : wM) (s0 : Int32) : Option (Int32 × wM) :=
  wgd (wokN .boolean s0) (some (s0, Y))
def f_X8_isHidden_36 (Y : wM) : Option (Int32 × wM) :=
  f_X8_isHidden_37 Y (0 : Int32)
def f_X8_isHidden (Y : wM) (a1 : Int32) (a2 : Int32) (a3 : Int32) : Option (Int32 × wM) :=
  (f_X8_wrongCell Y a1 a2 a3).bind fun y5 =>
  wfld Y 22 14 y5 fun Y =>
  (if (Y 22 14) = 0 then (f_X8_place a1 a2 a3).bind fun y25 =>
  wget 192 (Y 33) y25 fun v28 =>
  (if v28 = 0 then f_X8_isHidden_36 Y
  else f_X8_isHidden_37 Y (1 : Int32))
  else f_X8_isHidden_36 Y)
set_option maxRecDepth 4000 in
theorem g_f_X8_isHidden_37 {G : wG} (hG : wOk G RX8 cX8_isHidden 4 3 66) {X Y : wM} {o : Int64} {dd : UInt64} {td : wX} {res : (Int32 × wM)} (hE : wEnd G (some .boolean) (rp (some (.int (res.1))) (X, res.2, o, dd, td)) xp0) (hT : wNoTab G) {s0 : Int32} (h : f_X8_isHidden_37 Y s0 = some res) : J G 4 0 0 37 [] [.int (s0)] (X, Y, o, dd, td) := by
  unfold f_X8_isHidden_37 at h
  obtain ⟨c37, h⟩ := wgd_ok h
  obtain rfl := Option.some.inj h
  exact j_zret hG hE (wokN_ok c37) ⟨rfl, rfl⟩ (dt dtX8_isHidden_0 21 rfl)
set_option maxRecDepth 4000 in
theorem g_f_X8_isHidden_36 {G : wG} (hG : wOk G RX8 cX8_isHidden 4 3 66) {X Y : wM} {o : Int64} {dd : UInt64} {td : wX} {res : (Int32 × wM)} (hE : wEnd G (some .boolean) (rp (some (.int (res.1))) (X, res.2, o, dd, td)) xp0) (hT : wNoTab G) (h : f_X8_isHidden_36 Y = some res) : J G 4 0 0 36 [] [] (X, Y, o, dd, td) := by
  unfold f_X8_isHidden_36 at h
  refine j_iconst hG (v := 0) (dt dtX8_isHidden_0 20 rfl) (by decide) ?_
  exact g_f_X8_isHidden_37 hG hE hT h
set_option maxRecDepth 4000 in
theorem g_f_X8_isHidden {G : wG} (hG : wOk G RX8 cX8_isHidden 4 3 66) {X Y : wM} {o : Int64} {dd : UInt64} {td : wX} {res : (Int32 × wM)} (hE : wEnd G (some .boolean) (rp (some (.int (res.1))) (X, res.2, o, dd, td)) xp0) (hT : wNoTab G) {a1 : Int32} {a2 : Int32} {a3 : Int32} (h : f_X8_isHidden Y a1 a2 a3 = some res) : J G 4 0 0 0 [(0, .ref (wad (gB G) 22)), (1, .int (a1)), (2, .int (a2)), (3, .int (a3))] [] (X, Y, o, dd, td) := by
  unfold f_X8_isHidden at h
  refine j_aload_n hG 0 (dt dtX8_isHidden_0 0 rfl) rfl rfl ?_
  refine j_aload_n hG 0 (dt dtX8_isHidden_0 1 rfl) rfl rfl ?_
  refine j_iload_n hG 1 (dt dtX8_isHidden_0 2 rfl) rfl rfl ?_
  refine j_iload_n hG 2 (dt dtX8_isHidden_0 3 rfl) rfl rfl ?_
  refine j_iload_n hG 3 (dt dtX8_isHidden_0 4 rfl) rfl rfl ?_
  refine j_callVp hG h (V := fun y5 => (some (.int (y5)))) (S := fun y5 => (X, Y, o, dd, td)) (kc := 0) (ks := 0) (fun z hz => ct_X8_wrongCell hG.2.2.1 (gB G) _ _ _ _ _ hz) mf_X8_wrongCell ml_X8_181 22 (cv_22 _ _ _ _) rfl rfl (rest := [.ref (wad (gB G) 22)]) rfl (Nat.le_of_ble_eq_true rfl) (dt dtX8_isHidden_0 5 rfl) (by decide) (by decide) (fun y5 h => ?_)
  refine j_put hG cl_X8 22 14 (X := Y) (k := 22) (fun Y => (X, Y, o, dd, td)) (cv_22 _ _ _ _) (by decide) fl_X8_54 rfl rfl rfl rfl rfl (Nat.le_of_ble_eq_true rfl) (cs_22 _ _ _ _ (upd (Y 22) 14 y5)) h (dt dtX8_isHidden_0 6 rfl) (fun Y h => ?_)
  refine j_aload_n hG 0 (dt dtX8_isHidden_0 7 rfl) rfl rfl ?_
  refine j_get hG cl_X8 22 14 (cv_22 _ _ _ _) (by decide) fl_X8_54 rfl rfl (dt dtX8_isHidden_0 8 rfl) ?_
  refine j_if_ne hG (tgt := 36) (dt dtX8_isHidden_0 9 rfl) (by decide) h (fun h => ?_) (fun h => ?_)
  · refine j_aload_n hG 0 (dt dtX8_isHidden_0 10 rfl) rfl rfl ?_
    refine j_get hG cl_X8 22 10 (cv_22 _ _ _ _) (by decide) fl_X8_42 rfl rfl (dt dtX8_isHidden_0 11 rfl) ?_
    refine j_iload_n hG 1 (dt dtX8_isHidden_0 12 rfl) rfl rfl ?_
    refine j_iload_n hG 2 (dt dtX8_isHidden_0 13 rfl) rfl rfl ?_
    refine j_iload_n hG 3 (dt dtX8_isHidden_0 14 rfl) rfl rfl ?_
    refine j_callSp hG h (V := fun y25 => (some (.int (y25)))) (S := fun y25 => (X, Y, o, dd, td)) (kc := 0) (ks := 0) (fun z hz => ct_X8_place hG.2.2.1 (gB G) _ _ _ _ _ hz) mf_X8_place ml_X8_185 rfl (rest := [.ref (wad (gB G) 33)]) rfl (Nat.le_of_ble_eq_true rfl) (dt dtX8_isHidden_0 15 rfl) (by decide) (by decide) (fun y25 h => ?_)
    refine j_zald hG 33 (cv_33 _ _ _ _) h (dt dtX8_isHidden_0 16 rfl) (fun v28 h => ?_)
    refine j_if_eq hG (tgt := 36) (dt dtX8_isHidden_0 17 rfl) (by decide) h (fun h => ?_) (fun h => ?_)
    · refine j_lv (lv' := []) [] rfl ?_
      exact g_f_X8_isHidden_36 hG hE hT h
    · refine j_iconst hG (v := 1) (dt dtX8_isHidden_0 18 rfl) (by decide) ?_
      refine j_goto hG (tgt := 37) (dt dtX8_isHidden_0 19 rfl) (by decide) ?_
      refine j_lv (lv' := []) [] rfl ?_
      exact g_f_X8_isHidden_37 hG hE hT h
  · refine j_lv (lv' := []) [] rfl ?_
    exact g_f_X8_isHidden_36 hG hE hT h
theorem ct_X8_isHidden {l : Launch} (hl : l.stackTraces = false) (B : wB) (X Y : wM) (o : Int64) (dd : UInt64) (td : wX) {a1 : Int32} {a2 : Int32} {a3 : Int32} {res : (Int32 × wM)} (h : f_X8_isHidden Y a1 a2 a3 = some res) : wMet l B yX8_isHidden cX8_isHidden 4 (some .boolean) 3 66 0 0 [.ref (wad B 22), .int (a1), .int (a2), .int (a3)] (X, Y, o, dd, td) (rp (some (.int (res.1))) (X, res.2, o, dd, td)) xp0 :=
  wMet.of hl (by decide +kernel) (Nat.le_of_ble_eq_true rfl) (fun G hB hL hG hE hT => by subst hB; exact g_f_X8_isHidden hG hE hT h)
def f_X8_cell_59 (Y : wM) (s0 : Int32) : Option (Int32 × wM) :=
  some (s0, Y)
def f_X8_cell_37 (Y : wM) (l1 : Int32) (l2 : Int32) (l3 : Int32) : Option (Int32 × wM) :=
  (if 0 < (Y 22 14) then f_X8_cell_59 Y (0 : Int32)
  else (f_X8_place l1 l2 l3).bind fun y55 =>
  wget 192 (Y 35) y55 fun v58 =>
  f_X8_cell_59 Y v58)
def f_X8_cell (Y : wM) (a1 : Int32) (a2 : Int32) (a3 : Int32) : Option (Int32 × wM) :=
  (f_X8_wrongCell Y a1 a2 a3).bind fun y5 =>
  wfld Y 22 14 y5 fun Y =>
  (if (Y 22 14) = 0 then (f_X8_place a1 a2 a3).bind fun y25 =>
  wget 192 (Y 33) y25 fun v28 =>
  (if v28 = 0 then f_X8_cell_37 Y a1 a2 a3
  else wfld Y 22 14 4 fun Y =>
  f_X8_cell_37 Y a1 a2 a3)
  else f_X8_cell_37 Y a1 a2 a3)
set_option maxRecDepth 4000 in
theorem g_f_X8_cell_59 {G : wG} (hG : wOk G RX8 cX8_cell 4 3 66) {X Y : wM} {o : Int64} {dd : UInt64} {td : wX} {res : (Int32 × wM)} (hE : wEnd G (some .int) (rp (some (.int (res.1))) (X, res.2, o, dd, td)) xp0) (hT : wNoTab G) {s0 : Int32} (h : f_X8_cell_59 Y s0 = some res) : J G 4 0 0 59 [] [.int (s0)] (X, Y, o, dd, td) := by
  unfold f_X8_cell_59 at h
  obtain rfl := Option.some.inj h
  exact j_iret hG hE ⟨rfl, rfl⟩ (dt dtX8_cell_0 33 rfl)
set_option maxRecDepth 4000 in
theorem g_f_X8_cell_37 {G : wG} (hG : wOk G RX8 cX8_cell 4 3 66) {X Y : wM} {o : Int64} {dd : UInt64} {td : wX} {res : (Int32 × wM)} (hE : wEnd G (some .int) (rp (some (.int (res.1))) (X, res.2, o, dd, td)) xp0) (hT : wNoTab G) {l1 : Int32} {l2 : Int32} {l3 : Int32} (h : f_X8_cell_37 Y l1 l2 l3 = some res) : J G 4 0 0 37 [(0, .ref (wad (gB G) 22)), (1, .int (l1)), (2, .int (l2)), (3, .int (l3))] [] (X, Y, o, dd, td) := by
  unfold f_X8_cell_37 at h
  refine j_aload_n hG 0 (dt dtX8_cell_0 21 rfl) rfl rfl ?_
  refine j_get hG cl_X8 22 14 (cv_22 _ _ _ _) (by decide) fl_X8_54 rfl rfl (dt dtX8_cell_0 22 rfl) ?_
  refine j_if_le hG (tgt := 48) (dt dtX8_cell_0 23 rfl) (by decide) h (fun h => ?_) (fun h => ?_)
  · refine j_iconst hG (v := 0) (dt dtX8_cell_0 24 rfl) (by decide) ?_
    refine j_goto hG (tgt := 59) (dt dtX8_cell_0 25 rfl) (by decide) ?_
    refine j_lv (lv' := []) [] rfl ?_
    exact g_f_X8_cell_59 hG hE hT h
  · refine j_aload_n hG 0 (dt dtX8_cell_0 26 rfl) rfl rfl ?_
    refine j_get hG cl_X8 22 12 (cv_22 _ _ _ _) (by decide) fl_X8_48 rfl rfl (dt dtX8_cell_0 27 rfl) ?_
    refine j_iload_n hG 1 (dt dtX8_cell_0 28 rfl) rfl rfl ?_
    refine j_iload_n hG 2 (dt dtX8_cell_0 29 rfl) rfl rfl ?_
    refine j_iload_n hG 3 (dt dtX8_cell_0 30 rfl) rfl rfl ?_
    refine j_callSp hG h (V := fun y55 => (some (.int (y55)))) (S := fun y55 => (X, Y, o, dd, td)) (kc := 0) (ks := 0) (fun z hz => ct_X8_place hG.2.2.1 (gB G) _ _ _ _ _ hz) mf_X8_place ml_X8_185 rfl (rest := [.ref (wad (gB G) 35)]) rfl (Nat.le_of_ble_eq_true rfl) (dt dtX8_cell_0 31 rfl) (by decide) (by decide) (fun y55 h => ?_)
    refine j_iald hG 35 (cv_35 _ _ _ _) h (dt dtX8_cell_0 32 rfl) (fun v58 h => ?_)
    refine j_lv (lv' := []) [] rfl ?_
    exact g_f_X8_cell_59 hG hE hT h
set_option maxRecDepth 4000 in
theorem g_f_X8_cell {G : wG} (hG : wOk G RX8 cX8_cell 4 3 66) {X Y : wM} {o : Int64} {dd : UInt64} {td : wX} {res : (Int32 × wM)} (hE : wEnd G (some .int) (rp (some (.int (res.1))) (X, res.2, o, dd, td)) xp0) (hT : wNoTab G) {a1 : Int32} {a2 : Int32} {a3 : Int32} (h : f_X8_cell Y a1 a2 a3 = some res) : J G 4 0 0 0 [(0, .ref (wad (gB G) 22)), (1, .int (a1)), (2, .int (a2)), (3, .int (a3))] [] (X, Y, o, dd, td) := by
  unfold f_X8_cell at h
  refine j_aload_n hG 0 (dt dtX8_cell_0 0 rfl) rfl rfl ?_
  refine j_aload_n hG 0 (dt dtX8_cell_0 1 rfl) rfl rfl ?_
  refine j_iload_n hG 1 (dt dtX8_cell_0 2 rfl) rfl rfl ?_
  refine j_iload_n hG 2 (dt dtX8_cell_0 3 rfl) rfl rfl ?_
  refine j_iload_n hG 3 (dt dtX8_cell_0 4 rfl) rfl rfl ?_
  refine j_callVp hG h (V := fun y5 => (some (.int (y5)))) (S := fun y5 => (X, Y, o, dd, td)) (kc := 0) (ks := 0) (fun z hz => ct_X8_wrongCell hG.2.2.1 (gB G) _ _ _ _ _ hz) mf_X8_wrongCell ml_X8_181 22 (cv_22 _ _ _ _) rfl rfl (rest := [.ref (wad (gB G) 22)]) rfl (Nat.le_of_ble_eq_true rfl) (dt dtX8_cell_0 5 rfl) (by decide) (by decide) (fun y5 h => ?_)
  refine j_put hG cl_X8 22 14 (X := Y) (k := 22) (fun Y => (X, Y, o, dd, td)) (cv_22 _ _ _ _) (by decide) fl_X8_54 rfl rfl rfl rfl rfl (Nat.le_of_ble_eq_true rfl) (cs_22 _ _ _ _ (upd (Y 22) 14 y5)) h (dt dtX8_cell_0 6 rfl) (fun Y h => ?_)
  refine j_aload_n hG 0 (dt dtX8_cell_0 7 rfl) rfl rfl ?_
  refine j_get hG cl_X8 22 14 (cv_22 _ _ _ _) (by decide) fl_X8_54 rfl rfl (dt dtX8_cell_0 8 rfl) ?_
  refine j_if_ne hG (tgt := 37) (dt dtX8_cell_0 9 rfl) (by decide) h (fun h => ?_) (fun h => ?_)
  · refine j_aload_n hG 0 (dt dtX8_cell_0 10 rfl) rfl rfl ?_
    refine j_get hG cl_X8 22 10 (cv_22 _ _ _ _) (by decide) fl_X8_42 rfl rfl (dt dtX8_cell_0 11 rfl) ?_
    refine j_iload_n hG 1 (dt dtX8_cell_0 12 rfl) rfl rfl ?_
    refine j_iload_n hG 2 (dt dtX8_cell_0 13 rfl) rfl rfl ?_
    refine j_iload_n hG 3 (dt dtX8_cell_0 14 rfl) rfl rfl ?_
    refine j_callSp hG h (V := fun y25 => (some (.int (y25)))) (S := fun y25 => (X, Y, o, dd, td)) (kc := 0) (ks := 0) (fun z hz => ct_X8_place hG.2.2.1 (gB G) _ _ _ _ _ hz) mf_X8_place ml_X8_185 rfl (rest := [.ref (wad (gB G) 33)]) rfl (Nat.le_of_ble_eq_true rfl) (dt dtX8_cell_0 15 rfl) (by decide) (by decide) (fun y25 h => ?_)
    refine j_zald hG 33 (cv_33 _ _ _ _) h (dt dtX8_cell_0 16 rfl) (fun v28 h => ?_)
    refine j_if_eq hG (tgt := 37) (dt dtX8_cell_0 17 rfl) (by decide) h (fun h => ?_) (fun h => ?_)
    · exact g_f_X8_cell_37 hG hE hT h
    · refine j_aload_n hG 0 (dt dtX8_cell_0 18 rfl) rfl rfl ?_
      refine j_iconst hG (v := 4) (dt dtX8_cell_0 19 rfl) (by decide) ?_
      refine j_put hG cl_X8 22 14 (X := Y) (k := 22) (fun Y => (X, Y, o, dd, td)) (cv_22 _ _ _ _) (by decide) fl_X8_54 rfl rfl rfl rfl rfl (Nat.le_of_ble_eq_true rfl) (cs_22 _ _ _ _ (upd (Y 22) 14 4)) h (dt dtX8_cell_0 20 rfl) (fun Y h => ?_)
      exact g_f_X8_cell_37 hG hE hT h
  · exact g_f_X8_cell_37 hG hE hT h
theorem ct_X8_cell {l : Launch} (hl : l.stackTraces = false) (B : wB) (X Y : wM) (o : Int64) (dd : UInt64) (td : wX) {a1 : Int32} {a2 : Int32} {a3 : Int32} {res : (Int32 × wM)} (h : f_X8_cell Y a1 a2 a3 = some res) : wMet l B yX8_cell cX8_cell 4 (some .int) 3 66 0 0 [.ref (wad B 22), .int (a1), .int (a2), .int (a3)] (X, Y, o, dd, td) (rp (some (.int (res.1))) (X, res.2, o, dd, td)) xp0 :=
  wMet.of hl (by decide +kernel) (Nat.le_of_ble_eq_true rfl) (fun G hB hL hG hE hT => by subst hB; exact g_f_X8_cell hG hE hT h)
def f_X8_blockSum_25b (k25 : wM → Int32 → Int32 → Int32 → Int32 → Option (Int32 × wM)) (Y : wM) (l1 : Int32) (l2 : Int32) (l3 : Int32) (l4 : Int32) : Option (Int32 × wM) :=
  (if l4 < 4 then (f_X8_place l1 l2 l4).bind fun y40 =>
  wget 192 (Y 35) y40 fun v43 =>
  wbd (l3 + v43) fun v45 =>
  wbd (l4 + 1) fun v46 =>
  k25 Y l1 l2 v45 v46
  else some (l3, Y))
def f_X8_blockSum_25 : Nat → wM → Int32 → Int32 → Int32 → Int32 → Option (Int32 × wM)
  | 0 => fun _ _ _ _ _ => none
  | n + 1 => fun Y l1 l2 l3 l4 => f_X8_blockSum_25b (f_X8_blockSum_25 n) Y l1 l2 l3 l4
def f_X8_blockSum (Y : wM) (a1 : Int32) (a2 : Int32) : Option (Int32 × wM) :=
  (f_X8_wrongCell Y a1 a2 (0 : Int32)).bind fun y5 =>
  wfld Y 22 14 y5 fun Y =>
  (if 0 < (Y 22 14) then some (0, Y)
  else f_X8_blockSum_25 1000 Y a1 a2 (0 : Int32) (0 : Int32))
set_option maxRecDepth 4000 in
theorem g_f_X8_blockSum_25b {G : wG} (hG : wOk G RX8 cX8_blockSum 5 3 66) {X Y : wM} {o : Int64} {dd : UInt64} {td : wX} {res : (Int32 × wM)} (hE : wEnd G (some .int) (rp (some (.int (res.1))) (X, res.2, o, dd, td)) xp0) (hT : wNoTab G) {k25 : wM → Int32 → Int32 → Int32 → Int32 → Option (Int32 × wM)} (hk25 : ∀ (Y : wM) (l1 : Int32) (l2 : Int32) (l3 : Int32) (l4 : Int32), k25 Y l1 l2 l3 l4 = some res → J G 5 0 0 25 [(0, .ref (wad (gB G) 22)), (1, .int (l1)), (2, .int (l2)), (3, .int (l3)), (4, .int (l4))] [] (X, Y, o, dd, td)) {l1 : Int32} {l2 : Int32} {l3 : Int32} {l4 : Int32} (h : f_X8_blockSum_25b k25 Y l1 l2 l3 l4 = some res) : J G 5 0 0 25 [(0, .ref (wad (gB G) 22)), (1, .int (l1)), (2, .int (l2)), (3, .int (l3)), (4, .int (l4))] [] (X, Y, o, dd, td) := by
  unfold f_X8_blockSum_25b at h
  refine j_iload hG 4 (dt dtX8_blockSum_0 16 rfl) rfl ?_
  refine j_iconst hG (v := 4) (dt dtX8_blockSum_0 17 rfl) (by decide) ?_
  refine j_icmp_ge hG (tgt := 52) (dt dtX8_blockSum_0 18 rfl) (by decide) h (fun h => ?_) (fun h => ?_)
  · refine j_iload_n hG 3 (dt dtX8_blockSum_0 19 rfl) rfl rfl ?_
    refine j_aload_n hG 0 (dt dtX8_blockSum_0 20 rfl) rfl rfl ?_
    refine j_get hG cl_X8 22 12 (cv_22 _ _ _ _) (by decide) fl_X8_48 rfl rfl (dt dtX8_blockSum_0 21 rfl) ?_
    refine j_iload_n hG 1 (dt dtX8_blockSum_0 22 rfl) rfl rfl ?_
    refine j_iload_n hG 2 (dt dtX8_blockSum_0 23 rfl) rfl rfl ?_
    refine j_iload hG 4 (dt dtX8_blockSum_0 24 rfl) rfl ?_
    refine j_callSp hG h (V := fun y40 => (some (.int (y40)))) (S := fun y40 => (X, Y, o, dd, td)) (kc := 0) (ks := 0) (fun z hz => ct_X8_place hG.2.2.1 (gB G) _ _ _ _ _ hz) mf_X8_place ml_X8_185 rfl (rest := [.ref (wad (gB G) 35), .int (l3)]) rfl (Nat.le_of_ble_eq_true rfl) (dt dtX8_blockSum_0 25 rfl) (by decide) (by decide) (fun y40 h => ?_)
    refine j_iald hG 35 (cv_35 _ _ _ _) h (dt dtX8_blockSum_0 26 rfl) (fun v43 h => ?_)
    refine j_iadd hG (dt dtX8_blockSum_0 27 rfl) ?_
    refine j_istoreB_n hG (fun v45 => [(3, .int (v45)), (0, .ref (wad (gB G) 22)), (1, .int (l1)), (2, .int (l2)), (4, .int (l4))]) (dt dtX8_blockSum_0 28 rfl) rfl (by decide) (fun _ => rfl) h (fun v45 h => ?_)
    refine j_iincB hG 4 (fun v46 => [(4, .int (v46)), (3, .int (v45)), (0, .ref (wad (gB G) 22)), (1, .int (l1)), (2, .int (l2))]) (dt dtX8_blockSum_0 29 rfl) rfl rfl (by decide) (fun _ => rfl) h (fun v46 h => ?_)
    refine j_goto hG (tgt := 25) (dt dtX8_blockSum_0 30 rfl) (by decide) ?_
    refine j_lv (lv' := [(0, .ref (wad (gB G) 22)), (1, .int (l1)), (2, .int (l2)), (3, .int (v45)), (4, .int (v46))]) [2, 3, 4, 1, 0] rfl ?_
    exact hk25 Y l1 l2 v45 v46 h
  · refine j_iload_n hG 3 (dt dtX8_blockSum_0 31 rfl) rfl rfl ?_
    obtain rfl := Option.some.inj h
    exact j_iret hG hE ⟨rfl, rfl⟩ (dt dtX8_blockSum_0 32 rfl)
set_option maxRecDepth 4000 in
theorem g_f_X8_blockSum_25 {G : wG} (hG : wOk G RX8 cX8_blockSum 5 3 66) {X : wM} {o : Int64} {dd : UInt64} {td : wX} {res : (Int32 × wM)} (hE : wEnd G (some .int) (rp (some (.int (res.1))) (X, res.2, o, dd, td)) xp0) (hT : wNoTab G) (n : Nat) : ∀ (Y : wM) (l1 : Int32) (l2 : Int32) (l3 : Int32) (l4 : Int32), f_X8_blockSum_25 n Y l1 l2 l3 l4 = some res → J G 5 0 0 25 [(0, .ref (wad (gB G) 22)), (1, .int (l1)), (2, .int (l2)), (3, .int (l3)), (4, .int (l4))] [] (X, Y, o, dd, td) := by
  induction n with
  | zero => intro Y l1 l2 l3 l4 h; cases h
  | succ n ih =>
    intro Y l1 l2 l3 l4 h
    exact g_f_X8_blockSum_25b hG hE hT ih h
set_option maxRecDepth 4000 in
theorem g_f_X8_blockSum {G : wG} (hG : wOk G RX8 cX8_blockSum 5 3 66) {X Y : wM} {o : Int64} {dd : UInt64} {td : wX} {res : (Int32 × wM)} (hE : wEnd G (some .int) (rp (some (.int (res.1))) (X, res.2, o, dd, td)) xp0) (hT : wNoTab G) {a1 : Int32} {a2 : Int32} (h : f_X8_blockSum Y a1 a2 = some res) : J G 5 0 0 0 [(0, .ref (wad (gB G) 22)), (1, .int (a1)), (2, .int (a2))] [] (X, Y, o, dd, td) := by
  unfold f_X8_blockSum at h
  refine j_aload_n hG 0 (dt dtX8_blockSum_0 0 rfl) rfl rfl ?_
  refine j_aload_n hG 0 (dt dtX8_blockSum_0 1 rfl) rfl rfl ?_
  refine j_iload_n hG 1 (dt dtX8_blockSum_0 2 rfl) rfl rfl ?_
  refine j_iload_n hG 2 (dt dtX8_blockSum_0 3 rfl) rfl rfl ?_
  refine j_iconst hG (v := 0) (dt dtX8_blockSum_0 4 rfl) (by decide) ?_
  refine j_callVp hG h (V := fun y5 => (some (.int (y5)))) (S := fun y5 => (X, Y, o, dd, td)) (kc := 0) (ks := 0) (fun z hz => ct_X8_wrongCell hG.2.2.1 (gB G) _ _ _ _ _ hz) mf_X8_wrongCell ml_X8_181 22 (cv_22 _ _ _ _) rfl rfl (rest := [.ref (wad (gB G) 22)]) rfl (Nat.le_of_ble_eq_true rfl) (dt dtX8_blockSum_0 5 rfl) (by decide) (by decide) (fun y5 h => ?_)
  refine j_put hG cl_X8 22 14 (X := Y) (k := 22) (fun Y => (X, Y, o, dd, td)) (cv_22 _ _ _ _) (by decide) fl_X8_54 rfl rfl rfl rfl rfl (Nat.le_of_ble_eq_true rfl) (cs_22 _ _ _ _ (upd (Y 22) 14 y5)) h (dt dtX8_blockSum_0 6 rfl) (fun Y h => ?_)
  refine j_aload_n hG 0 (dt dtX8_blockSum_0 7 rfl) rfl rfl ?_
  refine j_get hG cl_X8 22 14 (cv_22 _ _ _ _) (by decide) fl_X8_54 rfl rfl (dt dtX8_blockSum_0 8 rfl) ?_
  refine j_if_le hG (tgt := 20) (dt dtX8_blockSum_0 9 rfl) (by decide) h (fun h => ?_) (fun h => ?_)
  · refine j_iconst hG (v := 0) (dt dtX8_blockSum_0 10 rfl) (by decide) ?_
    obtain rfl := Option.some.inj h
    exact j_iret hG hE ⟨rfl, rfl⟩ (dt dtX8_blockSum_0 11 rfl)
  · refine j_iconst hG (v := 0) (dt dtX8_blockSum_0 12 rfl) (by decide) ?_
    refine j_istore_n hG (lv' := [(3, .int (0)), (0, .ref (wad (gB G) 22)), (1, .int (a1)), (2, .int (a2))]) (dt dtX8_blockSum_0 13 rfl) rfl (by decide) rfl ?_
    refine j_iconst hG (v := 0) (dt dtX8_blockSum_0 14 rfl) (by decide) ?_
    refine j_istore hG (lv' := [(4, .int (0)), (3, .int (0)), (0, .ref (wad (gB G) 22)), (1, .int (a1)), (2, .int (a2))]) (dt dtX8_blockSum_0 15 rfl) (by decide) rfl ?_
    refine j_lv (lv' := [(0, .ref (wad (gB G) 22)), (1, .int (a1)), (2, .int (a2)), (3, .int (0)), (4, .int (0))]) [2, 3, 4, 1, 0] rfl ?_
    exact g_f_X8_blockSum_25 hG hE hT 1000 Y a1 a2 (0 : Int32) (0 : Int32) h
theorem ct_X8_blockSum {l : Launch} (hl : l.stackTraces = false) (B : wB) (X Y : wM) (o : Int64) (dd : UInt64) (td : wX) {a1 : Int32} {a2 : Int32} {res : (Int32 × wM)} (h : f_X8_blockSum Y a1 a2 = some res) : wMet l B yX8_blockSum cX8_blockSum 5 (some .int) 3 66 0 0 [.ref (wad B 22), .int (a1), .int (a2)] (X, Y, o, dd, td) (rp (some (.int (res.1))) (X, res.2, o, dd, td)) xp0 :=
  wMet.of hl (by decide +kernel) (Nat.le_of_ble_eq_true rfl) (fun G hB hL hG hE hT => by subst hB; exact g_f_X8_blockSum hG hE hT h)
def f_X8_groupSum_44b (k44 : wM → Int32 → Int32 → Int32 → Int32 → Option (Int32 × wM)) (Y : wM) (l1 : Int32) (l2 : Int32) (l3 : Int32) (l4 : Int32) : Option (Int32 × wM) :=
  (if l4 < 6 then (f_X8_place l1 l4 l2).bind fun y60 =>
  wget 192 (Y 35) y60 fun v63 =>
  wbd (l3 + v63) fun v65 =>
  wbd (l4 + 1) fun v66 =>
  k44 Y l1 l2 v65 v66
  else some (l3, Y))
def f_X8_groupSum_44 : Nat → wM → Int32 → Int32 → Int32 → Int32 → Option (Int32 × wM)
  | 0 => fun _ _ _ _ _ => none
  | n + 1 => fun Y l1 l2 l3 l4 => f_X8_groupSum_44b (f_X8_groupSum_44 n) Y l1 l2 l3 l4
def f_X8_groupSum_27 (Y : wM) (l1 : Int32) (l2 : Int32) (s0 : Int32) : Option (Int32 × wM) :=
  wfld Y 22 14 s0 fun Y =>
  (if 0 < (Y 22 14) then some (0, Y)
  else f_X8_groupSum_44 1000 Y l1 l2 (0 : Int32) (0 : Int32))
def f_X8_groupSum (Y : wM) (a1 : Int32) (a2 : Int32) : Option (Int32 × wM) :=
  (f_X8_isTable Y a1).bind fun y3 =>
  (if y3 = 0 then f_X8_groupSum_27 Y a1 a2 (1 : Int32)
  else (f_X8_in a2 (0 : Int32) (3 : Int32)).bind fun y16 =>
  (if y16 = 0 then f_X8_groupSum_27 Y a1 a2 (2 : Int32)
  else f_X8_groupSum_27 Y a1 a2 (0 : Int32)))
set_option maxRecDepth 4000 in
theorem g_f_X8_groupSum_44b {G : wG} (hG : wOk G RX8 cX8_groupSum 5 2 43) {X Y : wM} {o : Int64} {dd : UInt64} {td : wX} {res : (Int32 × wM)} (hE : wEnd G (some .int) (rp (some (.int (res.1))) (X, res.2, o, dd, td)) xp0) (hT : wNoTab G) {k44 : wM → Int32 → Int32 → Int32 → Int32 → Option (Int32 × wM)} (hk44 : ∀ (Y : wM) (l1 : Int32) (l2 : Int32) (l3 : Int32) (l4 : Int32), k44 Y l1 l2 l3 l4 = some res → J G 5 0 0 44 [(0, .ref (wad (gB G) 22)), (1, .int (l1)), (2, .int (l2)), (3, .int (l3)), (4, .int (l4))] [] (X, Y, o, dd, td)) {l1 : Int32} {l2 : Int32} {l3 : Int32} {l4 : Int32} (h : f_X8_groupSum_44b k44 Y l1 l2 l3 l4 = some res) : J G 5 0 0 44 [(0, .ref (wad (gB G) 22)), (1, .int (l1)), (2, .int (l2)), (3, .int (l3)), (4, .int (l4))] [] (X, Y, o, dd, td) := by
  unfold f_X8_groupSum_44b at h
  refine j_iload hG 4 (dt dtX8_groupSum_0 25 rfl) rfl ?_
  refine j_bipush hG (v := 6) (dt dtX8_groupSum_0 26 rfl) (by decide) ?_
  refine j_icmp_ge hG (tgt := 72) (dt dtX8_groupSum_0 27 rfl) (by decide) h (fun h => ?_) (fun h => ?_)
  · refine j_iload_n hG 3 (dt dtX8_groupSum_0 28 rfl) rfl rfl ?_
    refine j_aload_n hG 0 (dt dtX8_groupSum_0 29 rfl) rfl rfl ?_
    refine j_get hG cl_X8 22 12 (cv_22 _ _ _ _) (by decide) fl_X8_48 rfl rfl (dt dtX8_groupSum_0 30 rfl) ?_
    refine j_iload_n hG 1 (dt dtX8_groupSum_0 31 rfl) rfl rfl ?_
    refine j_iload hG 4 (dt dtX8_groupSum_0 32 rfl) rfl ?_
    refine j_iload_n hG 2 (dt dtX8_groupSum_0 33 rfl) rfl rfl ?_
    refine j_callSp hG h (V := fun y60 => (some (.int (y60)))) (S := fun y60 => (X, Y, o, dd, td)) (kc := 0) (ks := 0) (fun z hz => ct_X8_place hG.2.2.1 (gB G) _ _ _ _ _ hz) mf_X8_place ml_X8_185 rfl (rest := [.ref (wad (gB G) 35), .int (l3)]) rfl (Nat.le_of_ble_eq_true rfl) (dt dtX8_groupSum_0 34 rfl) (by decide) (by decide) (fun y60 h => ?_)
    refine j_iald hG 35 (cv_35 _ _ _ _) h (dt dtX8_groupSum_0 35 rfl) (fun v63 h => ?_)
    refine j_iadd hG (dt dtX8_groupSum_0 36 rfl) ?_
    refine j_istoreB_n hG (fun v65 => [(3, .int (v65)), (0, .ref (wad (gB G) 22)), (1, .int (l1)), (2, .int (l2)), (4, .int (l4))]) (dt dtX8_groupSum_0 37 rfl) rfl (by decide) (fun _ => rfl) h (fun v65 h => ?_)
    refine j_iincB hG 4 (fun v66 => [(4, .int (v66)), (3, .int (v65)), (0, .ref (wad (gB G) 22)), (1, .int (l1)), (2, .int (l2))]) (dt dtX8_groupSum_0 38 rfl) rfl rfl (by decide) (fun _ => rfl) h (fun v66 h => ?_)
    refine j_goto hG (tgt := 44) (dt dtX8_groupSum_0 39 rfl) (by decide) ?_
    refine j_lv (lv' := [(0, .ref (wad (gB G) 22)), (1, .int (l1)), (2, .int (l2)), (3, .int (v65)), (4, .int (v66))]) [2, 3, 4, 1, 0] rfl ?_
    exact hk44 Y l1 l2 v65 v66 h
  · refine j_iload_n hG 3 (dt dtX8_groupSum_0 40 rfl) rfl rfl ?_
    obtain rfl := Option.some.inj h
    exact j_iret hG hE ⟨rfl, rfl⟩ (dt dtX8_groupSum_0 41 rfl)
set_option maxRecDepth 4000 in
theorem g_f_X8_groupSum_44 {G : wG} (hG : wOk G RX8 cX8_groupSum 5 2 43) {X : wM} {o : Int64} {dd : UInt64} {td : wX} {res : (Int32 × wM)} (hE : wEnd G (some .int) (rp (some (.int (res.1))) (X, res.2, o, dd, td)) xp0) (hT : wNoTab G) (n : Nat) : ∀ (Y : wM) (l1 : Int32) (l2 : Int32) (l3 : Int32) (l4 : Int32), f_X8_groupSum_44 n Y l1 l2 l3 l4 = some res → J G 5 0 0 44 [(0, .ref (wad (gB G) 22)), (1, .int (l1)), (2, .int (l2)), (3, .int (l3)), (4, .int (l4))] [] (X, Y, o, dd, td) := by
  induction n with
  | zero => intro Y l1 l2 l3 l4 h; cases h
  | succ n ih =>
    intro Y l1 l2 l3 l4 h
    exact g_f_X8_groupSum_44b hG hE hT ih h
set_option maxRecDepth 4000 in
theorem g_f_X8_groupSum_27 {G : wG} (hG : wOk G RX8 cX8_groupSum 5 2 43) {X Y : wM} {o : Int64} {dd : UInt64} {td : wX} {res : (Int32 × wM)} (hE : wEnd G (some .int) (rp (some (.int (res.1))) (X, res.2, o, dd, td)) xp0) (hT : wNoTab G) {l1 : Int32} {l2 : Int32} {s0 : Int32} (h : f_X8_groupSum_27 Y l1 l2 s0 = some res) : J G 5 0 0 27 [(0, .ref (wad (gB G) 22)), (1, .int (l1)), (2, .int (l2))] [.int (s0), .ref (wad (gB G) 22)] (X, Y, o, dd, td) := by
  unfold f_X8_groupSum_27 at h
  refine j_put hG cl_X8 22 14 (X := Y) (k := 22) (fun Y => (X, Y, o, dd, td)) (cv_22 _ _ _ _) (by decide) fl_X8_54 rfl rfl rfl rfl rfl (Nat.le_of_ble_eq_true rfl) (cs_22 _ _ _ _ (upd (Y 22) 14 s0)) h (dt dtX8_groupSum_0 15 rfl) (fun Y h => ?_)
  refine j_aload_n hG 0 (dt dtX8_groupSum_0 16 rfl) rfl rfl ?_
  refine j_get hG cl_X8 22 14 (cv_22 _ _ _ _) (by decide) fl_X8_54 rfl rfl (dt dtX8_groupSum_0 17 rfl) ?_
  refine j_if_le hG (tgt := 39) (dt dtX8_groupSum_0 18 rfl) (by decide) h (fun h => ?_) (fun h => ?_)
  · refine j_iconst hG (v := 0) (dt dtX8_groupSum_0 19 rfl) (by decide) ?_
    obtain rfl := Option.some.inj h
    exact j_iret hG hE ⟨rfl, rfl⟩ (dt dtX8_groupSum_0 20 rfl)
  · refine j_iconst hG (v := 0) (dt dtX8_groupSum_0 21 rfl) (by decide) ?_
    refine j_istore_n hG (lv' := [(3, .int (0)), (0, .ref (wad (gB G) 22)), (1, .int (l1)), (2, .int (l2))]) (dt dtX8_groupSum_0 22 rfl) rfl (by decide) rfl ?_
    refine j_iconst hG (v := 0) (dt dtX8_groupSum_0 23 rfl) (by decide) ?_
    refine j_istore hG (lv' := [(4, .int (0)), (3, .int (0)), (0, .ref (wad (gB G) 22)), (1, .int (l1)), (2, .int (l2))]) (dt dtX8_groupSum_0 24 rfl) (by decide) rfl ?_
    refine j_lv (lv' := [(0, .ref (wad (gB G) 22)), (1, .int (l1)), (2, .int (l2)), (3, .int (0)), (4, .int (0))]) [2, 3, 4, 1, 0] rfl ?_
    exact g_f_X8_groupSum_44 hG hE hT 1000 Y l1 l2 (0 : Int32) (0 : Int32) h
set_option maxRecDepth 4000 in
theorem g_f_X8_groupSum {G : wG} (hG : wOk G RX8 cX8_groupSum 5 2 43) {X Y : wM} {o : Int64} {dd : UInt64} {td : wX} {res : (Int32 × wM)} (hE : wEnd G (some .int) (rp (some (.int (res.1))) (X, res.2, o, dd, td)) xp0) (hT : wNoTab G) {a1 : Int32} {a2 : Int32} (h : f_X8_groupSum Y a1 a2 = some res) : J G 5 0 0 0 [(0, .ref (wad (gB G) 22)), (1, .int (a1)), (2, .int (a2))] [] (X, Y, o, dd, td) := by
  unfold f_X8_groupSum at h
  refine j_aload_n hG 0 (dt dtX8_groupSum_0 0 rfl) rfl rfl ?_
  refine j_aload_n hG 0 (dt dtX8_groupSum_0 1 rfl) rfl rfl ?_
  refine j_iload_n hG 1 (dt dtX8_groupSum_0 2 rfl) rfl rfl ?_
  refine j_callVp hG h (V := fun y3 => (some (.int (y3)))) (S := fun y3 => (X, Y, o, dd, td)) (kc := 0) (ks := 0) (fun z hz => ct_X8_isTable hG.2.2.1 (gB G) _ _ _ _ _ hz) mf_X8_isTable ml_X8_178 22 (cv_22 _ _ _ _) rfl rfl (rest := [.ref (wad (gB G) 22)]) rfl (Nat.le_of_ble_eq_true rfl) (dt dtX8_groupSum_0 3 rfl) (by decide) (by decide) (fun y3 h => ?_)
  refine j_if_ne hG (tgt := 13) (dt dtX8_groupSum_0 4 rfl) (by decide) h (fun h => ?_) (fun h => ?_)
  · refine j_iconst hG (v := 1) (dt dtX8_groupSum_0 5 rfl) (by decide) ?_
    refine j_goto hG (tgt := 27) (dt dtX8_groupSum_0 6 rfl) (by decide) ?_
    exact g_f_X8_groupSum_27 hG hE hT h
  · refine j_iload_n hG 2 (dt dtX8_groupSum_0 7 rfl) rfl rfl ?_
    refine j_iconst hG (v := 0) (dt dtX8_groupSum_0 8 rfl) (by decide) ?_
    refine j_iconst hG (v := 3) (dt dtX8_groupSum_0 9 rfl) (by decide) ?_
    refine j_callSp hG h (V := fun y16 => (some (.int (y16)))) (S := fun y16 => (X, Y, o, dd, td)) (kc := 0) (ks := 0) (fun z hz => ct_X8_in hG.2.2.1 (gB G) _ _ _ _ _ hz) mf_X8_in ml_X8_91 rfl (rest := [.ref (wad (gB G) 22)]) rfl (Nat.le_of_ble_eq_true rfl) (dt dtX8_groupSum_0 10 rfl) (by decide) (by decide) (fun y16 h => ?_)
    refine j_if_ne hG (tgt := 26) (dt dtX8_groupSum_0 11 rfl) (by decide) h (fun h => ?_) (fun h => ?_)
    · refine j_iconst hG (v := 2) (dt dtX8_groupSum_0 12 rfl) (by decide) ?_
      refine j_goto hG (tgt := 27) (dt dtX8_groupSum_0 13 rfl) (by decide) ?_
      exact g_f_X8_groupSum_27 hG hE hT h
    · refine j_iconst hG (v := 0) (dt dtX8_groupSum_0 14 rfl) (by decide) ?_
      exact g_f_X8_groupSum_27 hG hE hT h
theorem ct_X8_groupSum {l : Launch} (hl : l.stackTraces = false) (B : wB) (X Y : wM) (o : Int64) (dd : UInt64) (td : wX) {a1 : Int32} {a2 : Int32} {res : (Int32 × wM)} (h : f_X8_groupSum Y a1 a2 = some res) : wMet l B yX8_groupSum cX8_groupSum 5 (some .int) 2 43 0 0 [.ref (wad B 22), .int (a1), .int (a2)] (X, Y, o, dd, td) (rp (some (.int (res.1))) (X, res.2, o, dd, td)) xp0 :=
  wMet.of hl (by decide +kernel) (Nat.le_of_ble_eq_true rfl) (fun G hB hL hG hE hT => by subst hB; exact g_f_X8_groupSum hG hE hT h)
def f_X8_holes_44 (k18 : wM → Int32 → Int32 → Int32 → Option (Int32 × wM)) (Y : wM) (l1 : Int32) (l3 : Int32) (s0 : Int32) (s1 : Int32) : Option (Int32 × wM) :=
  wbd (s1 + s0) fun v45 =>
  wbd (l3 + 1) fun v46 =>
  k18 Y l1 v45 v46
def f_X8_holes_18b (k18 : wM → Int32 → Int32 → Int32 → Option (Int32 × wM)) (Y : wM) (l1 : Int32) (l2 : Int32) (l3 : Int32) : Option (Int32 × wM) :=
  (if l3 < 24 then wget 192 (Y 33) ((24 * l1) + l3) fun v35 =>
  (if v35 = 0 then f_X8_holes_44 k18 Y l1 l3 (0 : Int32) l2
  else f_X8_holes_44 k18 Y l1 l3 (1 : Int32) l2)
  else some (l2, Y))
def f_X8_holes_18 : Nat → wM → Int32 → Int32 → Int32 → Option (Int32 × wM)
  | 0 => fun _ _ _ _ => none
  | n + 1 => fun Y l1 l2 l3 => f_X8_holes_18b (f_X8_holes_18 n) Y l1 l2 l3
def f_X8_holes (Y : wM) (a1 : Int32) : Option (Int32 × wM) :=
  (f_X8_isTable Y a1).bind fun y3 =>
  (f_X8_checked Y y3).bind fun y6 =>
  (if 0 < y6.1 then some (0, y6.2)
  else f_X8_holes_18 1000 y6.2 a1 (0 : Int32) (0 : Int32))
set_option maxRecDepth 4000 in
theorem g_f_X8_holes_44 {G : wG} (hG : wOk G RX8 cX8_holes 4 2 43) {X Y : wM} {o : Int64} {dd : UInt64} {td : wX} {res : (Int32 × wM)} (hE : wEnd G (some .int) (rp (some (.int (res.1))) (X, res.2, o, dd, td)) xp0) (hT : wNoTab G) {k18 : wM → Int32 → Int32 → Int32 → Option (Int32 × wM)} (hk18 : ∀ (Y : wM) (l1 : Int32) (l2 : Int32) (l3 : Int32), k18 Y l1 l2 l3 = some res → J G 4 0 0 18 [(0, .ref (wad (gB G) 22)), (1, .int (l1)), (2, .int (l2)), (3, .int (l3))] [] (X, Y, o, dd, td)) {l1 : Int32} {l3 : Int32} {s0 : Int32} {s1 : Int32} (h : f_X8_holes_44 k18 Y l1 l3 s0 s1 = some res) : J G 4 0 0 44 [(0, .ref (wad (gB G) 22)), (1, .int (l1)), (3, .int (l3))] [.int (s0), .int (s1)] (X, Y, o, dd, td) := by
  unfold f_X8_holes_44 at h
  refine j_iadd hG (dt dtX8_holes_0 28 rfl) ?_
  refine j_istoreB_n hG (fun v45 => [(2, .int (v45)), (0, .ref (wad (gB G) 22)), (1, .int (l1)), (3, .int (l3))]) (dt dtX8_holes_0 29 rfl) rfl (by decide) (fun _ => rfl) h (fun v45 h => ?_)
  refine j_iincB hG 3 (fun v46 => [(3, .int (v46)), (2, .int (v45)), (0, .ref (wad (gB G) 22)), (1, .int (l1))]) (dt dtX8_holes_0 30 rfl) rfl rfl (by decide) (fun _ => rfl) h (fun v46 h => ?_)
  refine j_goto hG (tgt := 18) (dt dtX8_holes_0 31 rfl) (by decide) ?_
  refine j_lv (lv' := [(0, .ref (wad (gB G) 22)), (1, .int (l1)), (2, .int (v45)), (3, .int (v46))]) [2, 3, 1, 0] rfl ?_
  exact hk18 Y l1 v45 v46 h
set_option maxRecDepth 4000 in
theorem g_f_X8_holes_18b {G : wG} (hG : wOk G RX8 cX8_holes 4 2 43) {X Y : wM} {o : Int64} {dd : UInt64} {td : wX} {res : (Int32 × wM)} (hE : wEnd G (some .int) (rp (some (.int (res.1))) (X, res.2, o, dd, td)) xp0) (hT : wNoTab G) {k18 : wM → Int32 → Int32 → Int32 → Option (Int32 × wM)} (hk18 : ∀ (Y : wM) (l1 : Int32) (l2 : Int32) (l3 : Int32), k18 Y l1 l2 l3 = some res → J G 4 0 0 18 [(0, .ref (wad (gB G) 22)), (1, .int (l1)), (2, .int (l2)), (3, .int (l3))] [] (X, Y, o, dd, td)) {l1 : Int32} {l2 : Int32} {l3 : Int32} (h : f_X8_holes_18b k18 Y l1 l2 l3 = some res) : J G 4 0 0 18 [(0, .ref (wad (gB G) 22)), (1, .int (l1)), (2, .int (l2)), (3, .int (l3))] [] (X, Y, o, dd, td) := by
  unfold f_X8_holes_18b at h
  refine j_iload_n hG 3 (dt dtX8_holes_0 12 rfl) rfl rfl ?_
  refine j_bipush hG (v := 24) (dt dtX8_holes_0 13 rfl) (by decide) ?_
  refine j_icmp_ge hG (tgt := 52) (dt dtX8_holes_0 14 rfl) (by decide) h (fun h => ?_) (fun h => ?_)
  · refine j_iload_n hG 2 (dt dtX8_holes_0 15 rfl) rfl rfl ?_
    refine j_aload_n hG 0 (dt dtX8_holes_0 16 rfl) rfl rfl ?_
    refine j_get hG cl_X8 22 10 (cv_22 _ _ _ _) (by decide) fl_X8_42 rfl rfl (dt dtX8_holes_0 17 rfl) ?_
    refine j_bipush hG (v := 24) (dt dtX8_holes_0 18 rfl) (by decide) ?_
    refine j_iload_n hG 1 (dt dtX8_holes_0 19 rfl) rfl rfl ?_
    refine j_imul hG (dt dtX8_holes_0 20 rfl) ?_
    refine j_iload_n hG 3 (dt dtX8_holes_0 21 rfl) rfl rfl ?_
    refine j_iadd hG (dt dtX8_holes_0 22 rfl) ?_
    refine j_zald hG 33 (cv_33 _ _ _ _) h (dt dtX8_holes_0 23 rfl) (fun v35 h => ?_)
    refine j_if_eq hG (tgt := 43) (dt dtX8_holes_0 24 rfl) (by decide) h (fun h => ?_) (fun h => ?_)
    · refine j_iconst hG (v := 0) (dt dtX8_holes_0 27 rfl) (by decide) ?_
      refine j_lv (lv' := [(0, .ref (wad (gB G) 22)), (1, .int (l1)), (3, .int (l3))]) [0, 1, 3] rfl ?_
      exact g_f_X8_holes_44 hG hE hT hk18 h
    · refine j_iconst hG (v := 1) (dt dtX8_holes_0 25 rfl) (by decide) ?_
      refine j_goto hG (tgt := 44) (dt dtX8_holes_0 26 rfl) (by decide) ?_
      refine j_lv (lv' := [(0, .ref (wad (gB G) 22)), (1, .int (l1)), (3, .int (l3))]) [0, 1, 3] rfl ?_
      exact g_f_X8_holes_44 hG hE hT hk18 h
  · refine j_iload_n hG 2 (dt dtX8_holes_0 32 rfl) rfl rfl ?_
    obtain rfl := Option.some.inj h
    exact j_iret hG hE ⟨rfl, rfl⟩ (dt dtX8_holes_0 33 rfl)
set_option maxRecDepth 4000 in
theorem g_f_X8_holes_18 {G : wG} (hG : wOk G RX8 cX8_holes 4 2 43) {X : wM} {o : Int64} {dd : UInt64} {td : wX} {res : (Int32 × wM)} (hE : wEnd G (some .int) (rp (some (.int (res.1))) (X, res.2, o, dd, td)) xp0) (hT : wNoTab G) (n : Nat) : ∀ (Y : wM) (l1 : Int32) (l2 : Int32) (l3 : Int32), f_X8_holes_18 n Y l1 l2 l3 = some res → J G 4 0 0 18 [(0, .ref (wad (gB G) 22)), (1, .int (l1)), (2, .int (l2)), (3, .int (l3))] [] (X, Y, o, dd, td) := by
  induction n with
  | zero => intro Y l1 l2 l3 h; cases h
  | succ n ih =>
    intro Y l1 l2 l3 h
    exact g_f_X8_holes_18b hG hE hT ih h
set_option maxRecDepth 4000 in
theorem g_f_X8_holes {G : wG} (hG : wOk G RX8 cX8_holes 4 2 43) {X Y : wM} {o : Int64} {dd : UInt64} {td : wX} {res : (Int32 × wM)} (hE : wEnd G (some .int) (rp (some (.int (res.1))) (X, res.2, o, dd, td)) xp0) (hT : wNoTab G) {a1 : Int32} (h : f_X8_holes Y a1 = some res) : J G 4 0 0 0 [(0, .ref (wad (gB G) 22)), (1, .int (a1))] [] (X, Y, o, dd, td) := by
  unfold f_X8_holes at h
  refine j_aload_n hG 0 (dt dtX8_holes_0 0 rfl) rfl rfl ?_
  refine j_aload_n hG 0 (dt dtX8_holes_0 1 rfl) rfl rfl ?_
  refine j_iload_n hG 1 (dt dtX8_holes_0 2 rfl) rfl rfl ?_
  refine j_callVp hG h (V := fun y3 => (some (.int (y3)))) (S := fun y3 => (X, Y, o, dd, td)) (kc := 0) (ks := 0) (fun z hz => ct_X8_isTable hG.2.2.1 (gB G) _ _ _ _ _ hz) mf_X8_isTable ml_X8_178 22 (cv_22 _ _ _ _) rfl rfl (rest := [.ref (wad (gB G) 22)]) rfl (Nat.le_of_ble_eq_true rfl) (dt dtX8_holes_0 3 rfl) (by decide) (by decide) (fun y3 h => ?_)
  refine j_callVp hG h (V := fun y6 => (some (.int (y6.1)))) (S := fun y6 => (X, y6.2, o, dd, td)) (kc := 0) (ks := 0) (fun z hz => ct_X8_checked hG.2.2.1 (gB G) _ _ _ _ _ hz) mf_X8_checked ml_X8_120 22 (cv_22 _ _ _ _) rfl rfl (rest := []) rfl (Nat.le_of_ble_eq_true rfl) (dt dtX8_holes_0 4 rfl) (by decide) (by decide) (fun y6 h => ?_)
  refine j_if_le hG (tgt := 14) (dt dtX8_holes_0 5 rfl) (by decide) h (fun h => ?_) (fun h => ?_)
  · refine j_iconst hG (v := 0) (dt dtX8_holes_0 6 rfl) (by decide) ?_
    obtain rfl := Option.some.inj h
    exact j_iret hG hE ⟨rfl, rfl⟩ (dt dtX8_holes_0 7 rfl)
  · refine j_iconst hG (v := 0) (dt dtX8_holes_0 8 rfl) (by decide) ?_
    refine j_istore_n hG (lv' := [(2, .int (0)), (0, .ref (wad (gB G) 22)), (1, .int (a1))]) (dt dtX8_holes_0 9 rfl) rfl (by decide) rfl ?_
    refine j_iconst hG (v := 0) (dt dtX8_holes_0 10 rfl) (by decide) ?_
    refine j_istore_n hG (lv' := [(3, .int (0)), (2, .int (0)), (0, .ref (wad (gB G) 22)), (1, .int (a1))]) (dt dtX8_holes_0 11 rfl) rfl (by decide) rfl ?_
    refine j_lv (lv' := [(0, .ref (wad (gB G) 22)), (1, .int (a1)), (2, .int (0)), (3, .int (0))]) [2, 3, 1, 0] rfl ?_
    exact g_f_X8_holes_18 hG hE hT 1000 y6.2 a1 (0 : Int32) (0 : Int32) h
theorem ct_X8_holes {l : Launch} (hl : l.stackTraces = false) (B : wB) (X Y : wM) (o : Int64) (dd : UInt64) (td : wX) {a1 : Int32} {res : (Int32 × wM)} (h : f_X8_holes Y a1 = some res) : wMet l B yX8_holes cX8_holes 4 (some .int) 2 43 0 0 [.ref (wad B 22), .int (a1)] (X, Y, o, dd, td) (rp (some (.int (res.1))) (X, res.2, o, dd, td)) xp0 :=
  wMet.of hl (by decide +kernel) (Nat.le_of_ble_eq_true rfl) (fun G hB hL hG hE hT => by subst hB; exact g_f_X8_holes hG hE hT h)
def f_X8_isAtRisk_42 (Y : wM) (l1 : Int32) (l2 : Int32) (l3 : Int32) : Option (Int32 × wM) :=
  (if 0 < (Y 22 14) then some (0, Y)
  else (f_X8_hidesSmall Y l1).bind fun y53 =>
  (f_X8_isFound y53 l1 ((4 * l2) + l3)).bind fun y63 =>
  (f_X8_hides y63.2 l1).bind fun y70 =>
  wgd (wokN .boolean y63.1) (some (y63.1, y70.2)))
def f_X8_isAtRisk (Y : wM) (a1 : Int32) (a2 : Int32) (a3 : Int32) : Option (Int32 × wM) :=
  (f_X8_wrongCell Y a1 a2 a3).bind fun y5 =>
  wfld Y 22 14 y5 fun Y =>
  (if (Y 22 14) = 0 then (f_X8_place a1 a2 a3).bind fun y25 =>
  wget 192 (Y 35) y25 fun v28 =>
  (f_X8_in v28 (1 : Int32) (2 : Int32)).bind fun y31 =>
  (if y31 = 0 then wfld Y 22 14 4 fun Y =>
  f_X8_isAtRisk_42 Y a1 a2 a3
  else f_X8_isAtRisk_42 Y a1 a2 a3)
  else f_X8_isAtRisk_42 Y a1 a2 a3)
set_option maxRecDepth 4000 in
theorem g_f_X8_isAtRisk_42 {G : wG} (hG : wOk G RX8 cX8_isAtRisk 6 4 97) {X Y : wM} {o : Int64} {dd : UInt64} {td : wX} {res : (Int32 × wM)} (hE : wEnd G (some .boolean) (rp (some (.int (res.1))) (X, res.2, o, dd, td)) xp0) (hT : wNoTab G) {l1 : Int32} {l2 : Int32} {l3 : Int32} (h : f_X8_isAtRisk_42 Y l1 l2 l3 = some res) : J G 6 0 0 42 [(0, .ref (wad (gB G) 22)), (1, .int (l1)), (2, .int (l2)), (3, .int (l3))] [] (X, Y, o, dd, td) := by
  unfold f_X8_isAtRisk_42 at h
  refine j_aload_n hG 0 (dt dtX8_isAtRisk_0 24 rfl) rfl rfl ?_
  refine j_get hG cl_X8 22 14 (cv_22 _ _ _ _) (by decide) fl_X8_54 rfl rfl (dt dtX8_isAtRisk_0 25 rfl) ?_
  refine j_if_le hG (tgt := 51) (dt dtX8_isAtRisk_0 26 rfl) (by decide) h (fun h => ?_) (fun h => ?_)
  · refine j_iconst hG (v := 0) (dt dtX8_isAtRisk_0 27 rfl) (by decide) ?_
    obtain rfl := Option.some.inj h
    exact j_zret hG hE (by decide) ⟨rfl, rfl⟩ (dt dtX8_isAtRisk_0 28 rfl)
  · refine j_aload_n hG 0 (dt dtX8_isAtRisk_0 29 rfl) rfl rfl ?_
    refine j_iload_n hG 1 (dt dtX8_isAtRisk_0 30 rfl) rfl rfl ?_
    refine j_callVp hG h (V := fun y53 => none) (S := fun y53 => (X, y53, o, dd, td)) (kc := 0) (ks := 0) (fun z hz => ct_X8_hidesSmall hG.2.2.1 (gB G) _ _ _ _ _ hz) mf_X8_hidesSmall ml_X8_164 22 (cv_22 _ _ _ _) rfl rfl (rest := []) rfl (Nat.le_of_ble_eq_true rfl) (dt dtX8_isAtRisk_0 31 rfl) (by decide) (by decide) (fun y53 h => ?_)
    refine j_aload_n hG 0 (dt dtX8_isAtRisk_0 32 rfl) rfl rfl ?_
    refine j_iload_n hG 1 (dt dtX8_isAtRisk_0 33 rfl) rfl rfl ?_
    refine j_iconst hG (v := 4) (dt dtX8_isAtRisk_0 34 rfl) (by decide) ?_
    refine j_iload_n hG 2 (dt dtX8_isAtRisk_0 35 rfl) rfl rfl ?_
    refine j_imul hG (dt dtX8_isAtRisk_0 36 rfl) ?_
    refine j_iload_n hG 3 (dt dtX8_isAtRisk_0 37 rfl) rfl rfl ?_
    refine j_iadd hG (dt dtX8_isAtRisk_0 38 rfl) ?_
    refine j_callVp hG h (V := fun y63 => (some (.int (y63.1)))) (S := fun y63 => (X, y63.2, o, dd, td)) (kc := 0) (ks := 0) (fun z hz => ct_X8_isFound hG.2.2.1 (gB G) _ _ _ _ _ hz) mf_X8_isFound ml_X8_154 22 (cv_22 _ _ _ _) rfl rfl (rest := []) rfl (Nat.le_of_ble_eq_true rfl) (dt dtX8_isAtRisk_0 39 rfl) (by decide) (by decide) (fun y63 h => ?_)
    refine j_istore hG (lv' := [(4, .int (y63.1)), (0, .ref (wad (gB G) 22)), (1, .int (l1)), (2, .int (l2)), (3, .int (l3))]) (dt dtX8_isAtRisk_0 40 rfl) (by decide) rfl ?_
    refine j_aload_n hG 1 (dt dtX8_isAtRisk_0 41 rfl) rfl rfl ?_
    refine j_iload_n hG 2 (dt dtX8_isAtRisk_0 42 rfl) rfl rfl ?_
    refine j_callVp hG h (V := fun y70 => (some (.int (y70.1)))) (S := fun y70 => (X, y70.2, o, dd, td)) (kc := 0) (ks := 0) (fun z hz => ct_X8_hides hG.2.2.1 (gB G) _ _ _ _ _ hz) mf_X8_hides ml_X8_175 22 (cv_22 _ _ _ _) rfl rfl (rest := []) rfl (Nat.le_of_ble_eq_true rfl) (dt dtX8_isAtRisk_0 43 rfl) (by decide) (by decide) (fun y70 h => ?_)
    refine j_istore hG (lv' := [(5, .int (y70.1)), (4, .int (y63.1)), (0, .ref (wad (gB G) 22)), (1, .int (l1)), (2, .int (l2)), (3, .int (l3))]) (dt dtX8_isAtRisk_0 44 rfl) (by decide) rfl ?_
    refine j_iload hG 1 (dt dtX8_isAtRisk_0 45 rfl) rfl ?_
    obtain ⟨c77, h⟩ := wgd_ok h
    obtain rfl := Option.some.inj h
    exact j_zret hG hE (wokN_ok c77) ⟨rfl, rfl⟩ (dt dtX8_isAtRisk_0 46 rfl)
set_option maxRecDepth 4000 in
theorem g_f_X8_isAtRisk {G : wG} (hG : wOk G RX8 cX8_isAtRisk 6 4 97) {X Y : wM} {o : Int64} {dd : UInt64} {td : wX} {res : (Int32 × wM)} (hE : wEnd G (some .boolean) (rp (some (.int (res.1))) (X, res.2, o, dd, td)) xp0) (hT : wNoTab G) {a1 : Int32} {a2 : Int32} {a3 : Int32} (h : f_X8_isAtRisk Y a1 a2 a3 = some res) : J G 6 0 0 0 [(0, .ref (wad (gB G) 22)), (1, .int (a1)), (2, .int (a2)), (3, .int (a3))] [] (X, Y, o, dd, td) := by
  unfold f_X8_isAtRisk at h
  refine j_aload_n hG 0 (dt dtX8_isAtRisk_0 0 rfl) rfl rfl ?_
  refine j_aload_n hG 0 (dt dtX8_isAtRisk_0 1 rfl) rfl rfl ?_
  refine j_iload_n hG 1 (dt dtX8_isAtRisk_0 2 rfl) rfl rfl ?_
  refine j_iload_n hG 2 (dt dtX8_isAtRisk_0 3 rfl) rfl rfl ?_
  refine j_iload_n hG 3 (dt dtX8_isAtRisk_0 4 rfl) rfl rfl ?_
  refine j_callVp hG h (V := fun y5 => (some (.int (y5)))) (S := fun y5 => (X, Y, o, dd, td)) (kc := 0) (ks := 0) (fun z hz => ct_X8_wrongCell hG.2.2.1 (gB G) _ _ _ _ _ hz) mf_X8_wrongCell ml_X8_181 22 (cv_22 _ _ _ _) rfl rfl (rest := [.ref (wad (gB G) 22)]) rfl (Nat.le_of_ble_eq_true rfl) (dt dtX8_isAtRisk_0 5 rfl) (by decide) (by decide) (fun y5 h => ?_)
  refine j_put hG cl_X8 22 14 (X := Y) (k := 22) (fun Y => (X, Y, o, dd, td)) (cv_22 _ _ _ _) (by decide) fl_X8_54 rfl rfl rfl rfl rfl (Nat.le_of_ble_eq_true rfl) (cs_22 _ _ _ _ (upd (Y 22) 14 y5)) h (dt dtX8_isAtRisk_0 6 rfl) (fun Y h => ?_)
  refine j_aload_n hG 0 (dt dtX8_isAtRisk_0 7 rfl) rfl rfl ?_
  refine j_get hG cl_X8 22 14 (cv_22 _ _ _ _) (by decide) fl_X8_54 rfl rfl (dt dtX8_isAtRisk_0 8 rfl) ?_
  refine j_if_ne hG (tgt := 42) (dt dtX8_isAtRisk_0 9 rfl) (by decide) h (fun h => ?_) (fun h => ?_)
  · refine j_aload_n hG 0 (dt dtX8_isAtRisk_0 10 rfl) rfl rfl ?_
    refine j_get hG cl_X8 22 12 (cv_22 _ _ _ _) (by decide) fl_X8_48 rfl rfl (dt dtX8_isAtRisk_0 11 rfl) ?_
    refine j_iload_n hG 1 (dt dtX8_isAtRisk_0 12 rfl) rfl rfl ?_
    refine j_iload_n hG 2 (dt dtX8_isAtRisk_0 13 rfl) rfl rfl ?_
    refine j_iload_n hG 3 (dt dtX8_isAtRisk_0 14 rfl) rfl rfl ?_
    refine j_callSp hG h (V := fun y25 => (some (.int (y25)))) (S := fun y25 => (X, Y, o, dd, td)) (kc := 0) (ks := 0) (fun z hz => ct_X8_place hG.2.2.1 (gB G) _ _ _ _ _ hz) mf_X8_place ml_X8_185 rfl (rest := [.ref (wad (gB G) 35)]) rfl (Nat.le_of_ble_eq_true rfl) (dt dtX8_isAtRisk_0 15 rfl) (by decide) (by decide) (fun y25 h => ?_)
    refine j_iald hG 35 (cv_35 _ _ _ _) h (dt dtX8_isAtRisk_0 16 rfl) (fun v28 h => ?_)
    refine j_iconst hG (v := 1) (dt dtX8_isAtRisk_0 17 rfl) (by decide) ?_
    refine j_iconst hG (v := 2) (dt dtX8_isAtRisk_0 18 rfl) (by decide) ?_
    refine j_callSp hG h (V := fun y31 => (some (.int (y31)))) (S := fun y31 => (X, Y, o, dd, td)) (kc := 0) (ks := 0) (fun z hz => ct_X8_in hG.2.2.1 (gB G) _ _ _ _ _ hz) mf_X8_in ml_X8_91 rfl (rest := []) rfl (Nat.le_of_ble_eq_true rfl) (dt dtX8_isAtRisk_0 19 rfl) (by decide) (by decide) (fun y31 h => ?_)
    refine j_if_ne hG (tgt := 42) (dt dtX8_isAtRisk_0 20 rfl) (by decide) h (fun h => ?_) (fun h => ?_)
    · refine j_aload_n hG 0 (dt dtX8_isAtRisk_0 21 rfl) rfl rfl ?_
      refine j_iconst hG (v := 4) (dt dtX8_isAtRisk_0 22 rfl) (by decide) ?_
      refine j_put hG cl_X8 22 14 (X := Y) (k := 22) (fun Y => (X, Y, o, dd, td)) (cv_22 _ _ _ _) (by decide) fl_X8_54 rfl rfl rfl rfl rfl (Nat.le_of_ble_eq_true rfl) (cs_22 _ _ _ _ (upd (Y 22) 14 4)) h (dt dtX8_isAtRisk_0 23 rfl) (fun Y h => ?_)
      exact g_f_X8_isAtRisk_42 hG hE hT h
    · exact g_f_X8_isAtRisk_42 hG hE hT h
  · exact g_f_X8_isAtRisk_42 hG hE hT h
theorem ct_X8_isAtRisk {l : Launch} (hl : l.stackTraces = false) (B : wB) (X Y : wM) (o : Int64) (dd : UInt64) (td : wX) {a1 : Int32} {a2 : Int32} {a3 : Int32} {res : (Int32 × wM)} (h : f_X8_isAtRisk Y a1 a2 a3 = some res) : wMet l B yX8_isAtRisk cX8_isAtRisk 6 (some .boolean) 4 97 0 0 [.ref (wad B 22), .int (a1), .int (a2), .int (a3)] (X, Y, o, dd, td) (rp (some (.int (res.1))) (X, res.2, o, dd, td)) xp0 :=
  wMet.of hl (by decide +kernel) (Nat.le_of_ble_eq_true rfl) (fun G hB hL hG hE hT => by subst hB; exact g_f_X8_isAtRisk hG hE hT h)
def f_X8_found_25 (Y : wM) (s0 : Int32) : Option (Int32 × wM) :=
  some (s0, Y)
def f_X8_found_20 (Y : wM) : Option (Int32 × wM) :=
  f_X8_found_25 Y (0 : Int32)
def f_X8_found (Y : wM) (a1 : Int32) : Option (Int32 × wM) :=
  (f_X8_isTable Y a1).bind fun y3 =>
  (f_X8_checked Y y3).bind fun y6 =>
  (if 0 < y6.1 then f_X8_found_20 y6.2
  else (f_X8_firstFound y6.2 a1).bind fun y14 =>
  (if y14.1 < 0 then f_X8_found_20 y14.2
  else f_X8_found_25 y14.2 (1 : Int32)))
set_option maxRecDepth 4000 in
theorem g_f_X8_found_25 {G : wG} (hG : wOk G RX8 cX8_found 2 2 47) {X Y : wM} {o : Int64} {dd : UInt64} {td : wX} {res : (Int32 × wM)} (hE : wEnd G (some .int) (rp (some (.int (res.1))) (X, res.2, o, dd, td)) xp0) (hT : wNoTab G) {s0 : Int32} (h : f_X8_found_25 Y s0 = some res) : J G 2 0 0 25 [] [.int (s0)] (X, Y, o, dd, td) := by
  unfold f_X8_found_25 at h
  obtain rfl := Option.some.inj h
  exact j_iret hG hE ⟨rfl, rfl⟩ (dt dtX8_found_0 13 rfl)
set_option maxRecDepth 4000 in
theorem g_f_X8_found_20 {G : wG} (hG : wOk G RX8 cX8_found 2 2 47) {X Y : wM} {o : Int64} {dd : UInt64} {td : wX} {res : (Int32 × wM)} (hE : wEnd G (some .int) (rp (some (.int (res.1))) (X, res.2, o, dd, td)) xp0) (hT : wNoTab G) (h : f_X8_found_20 Y = some res) : J G 2 0 0 20 [] [] (X, Y, o, dd, td) := by
  unfold f_X8_found_20 at h
  refine j_iconst hG (v := 0) (dt dtX8_found_0 10 rfl) (by decide) ?_
  refine j_goto hG (tgt := 25) (dt dtX8_found_0 11 rfl) (by decide) ?_
  exact g_f_X8_found_25 hG hE hT h
set_option maxRecDepth 4000 in
theorem g_f_X8_found {G : wG} (hG : wOk G RX8 cX8_found 2 2 47) {X Y : wM} {o : Int64} {dd : UInt64} {td : wX} {res : (Int32 × wM)} (hE : wEnd G (some .int) (rp (some (.int (res.1))) (X, res.2, o, dd, td)) xp0) (hT : wNoTab G) {a1 : Int32} (h : f_X8_found Y a1 = some res) : J G 2 0 0 0 [(0, .ref (wad (gB G) 22)), (1, .int (a1))] [] (X, Y, o, dd, td) := by
  unfold f_X8_found at h
  refine j_aload_n hG 0 (dt dtX8_found_0 0 rfl) rfl rfl ?_
  refine j_aload_n hG 0 (dt dtX8_found_0 1 rfl) rfl rfl ?_
  refine j_iload_n hG 1 (dt dtX8_found_0 2 rfl) rfl rfl ?_
  refine j_callVp hG h (V := fun y3 => (some (.int (y3)))) (S := fun y3 => (X, Y, o, dd, td)) (kc := 0) (ks := 0) (fun z hz => ct_X8_isTable hG.2.2.1 (gB G) _ _ _ _ _ hz) mf_X8_isTable ml_X8_178 22 (cv_22 _ _ _ _) rfl rfl (rest := [.ref (wad (gB G) 22)]) rfl (Nat.le_of_ble_eq_true rfl) (dt dtX8_found_0 3 rfl) (by decide) (by decide) (fun y3 h => ?_)
  refine j_callVp hG h (V := fun y6 => (some (.int (y6.1)))) (S := fun y6 => (X, y6.2, o, dd, td)) (kc := 0) (ks := 0) (fun z hz => ct_X8_checked hG.2.2.1 (gB G) _ _ _ _ _ hz) mf_X8_checked ml_X8_120 22 (cv_22 _ _ _ _) rfl rfl (rest := []) rfl (Nat.le_of_ble_eq_true rfl) (dt dtX8_found_0 4 rfl) (by decide) (by decide) (fun y6 h => ?_)
  refine j_if_gt hG (tgt := 20) (dt dtX8_found_0 5 rfl) (by decide) h (fun h => ?_) (fun h => ?_)
  · refine j_lv (lv' := []) [] rfl ?_
    exact g_f_X8_found_20 hG hE hT h
  · refine j_aload_n hG 0 (dt dtX8_found_0 6 rfl) rfl rfl ?_
    refine j_iload_n hG 1 (dt dtX8_found_0 7 rfl) rfl rfl ?_
    refine j_callVp hG h (V := fun y14 => (some (.int (y14.1)))) (S := fun y14 => (X, y14.2, o, dd, td)) (kc := 0) (ks := 0) (fun z hz => ct_X8_firstFound hG.2.2.1 (gB G) _ _ _ _ _ hz) mf_X8_firstFound ml_X8_168 22 (cv_22 _ _ _ _) rfl rfl (rest := []) rfl (Nat.le_of_ble_eq_true rfl) (dt dtX8_found_0 8 rfl) (by decide) (by decide) (fun y14 h => ?_)
    refine j_if_ge hG (tgt := 24) (dt dtX8_found_0 9 rfl) (by decide) h (fun h => ?_) (fun h => ?_)
    · refine j_lv (lv' := []) [] rfl ?_
      exact g_f_X8_found_20 hG hE hT h
    · refine j_iconst hG (v := 1) (dt dtX8_found_0 12 rfl) (by decide) ?_
      refine j_lv (lv' := []) [] rfl ?_
      exact g_f_X8_found_25 hG hE hT h
theorem ct_X8_found {l : Launch} (hl : l.stackTraces = false) (B : wB) (X Y : wM) (o : Int64) (dd : UInt64) (td : wX) {a1 : Int32} {res : (Int32 × wM)} (h : f_X8_found Y a1 = some res) : wMet l B yX8_found cX8_found 2 (some .int) 2 47 0 0 [.ref (wad B 22), .int (a1)] (X, Y, o, dd, td) (rp (some (.int (res.1))) (X, res.2, o, dd, td)) xp0 :=
  wMet.of hl (by decide +kernel) (Nat.le_of_ble_eq_true rfl) (fun G hB hL hG hE hT => by subst hB; exact g_f_X8_found hG hE hT h)
def f_X8_foundByWays (Y : wM) (a1 : Int32) : Option (Int32 × wM) :=
  (f_X8_found Y a1).bind fun y2 =>
  some (y2.1, y2.2)
set_option maxRecDepth 4000 in
theorem g_f_X8_foundByWays {G : wG} (hG : wOk G RX8 cX8_foundByWays 2 3 68) {X Y : wM} {o : Int64} {dd : UInt64} {td : wX} {res : (Int32 × wM)} (hE : wEnd G (some .int) (rp (some (.int (res.1))) (X, res.2, o, dd, td)) xp0) (hT : wNoTab G) {a1 : Int32} (h : f_X8_foundByWays Y a1 = some res) : J G 2 0 0 0 [(0, .ref (wad (gB G) 22)), (1, .int (a1))] [] (X, Y, o, dd, td) := by
  unfold f_X8_foundByWays at h
  refine j_aload_n hG 0 (dt dtX8_foundByWays_0 0 rfl) rfl rfl ?_
  refine j_iload_n hG 1 (dt dtX8_foundByWays_0 1 rfl) rfl rfl ?_
  refine j_callVp hG h (V := fun y2 => (some (.int (y2.1)))) (S := fun y2 => (X, y2.2, o, dd, td)) (kc := 0) (ks := 0) (fun z hz => ct_X8_found hG.2.2.1 (gB G) _ _ _ _ _ hz) mf_X8_found ml_X8_188 22 (cv_22 _ _ _ _) rfl rfl (rest := []) rfl (Nat.le_of_ble_eq_true rfl) (dt dtX8_foundByWays_0 2 rfl) (by decide) (by decide) (fun y2 h => ?_)
  obtain rfl := Option.some.inj h
  exact j_iret hG hE ⟨rfl, rfl⟩ (dt dtX8_foundByWays_0 3 rfl)
theorem ct_X8_foundByWays {l : Launch} (hl : l.stackTraces = false) (B : wB) (X Y : wM) (o : Int64) (dd : UInt64) (td : wX) {a1 : Int32} {res : (Int32 × wM)} (h : f_X8_foundByWays Y a1 = some res) : wMet l B yX8_foundByWays cX8_foundByWays 2 (some .int) 3 68 0 0 [.ref (wad B 22), .int (a1)] (X, Y, o, dd, td) (rp (some (.int (res.1))) (X, res.2, o, dd, td)) xp0 :=
  wMet.of hl (by decide +kernel) (Nat.le_of_ble_eq_true rfl) (fun G hB hL hG hE hT => by subst hB; exact g_f_X8_foundByWays hG hE hT h)
def f_X8_isSafe (Y : wM) : Option (Int32 × wM) :=
  wfld Y 22 14 0 fun Y =>
  some (1, Y)
set_option maxRecDepth 4000 in
theorem g_f_X8_isSafe {G : wG} (hG : wOk G RX8 cX8_isSafe 1 0 0) {X Y : wM} {o : Int64} {dd : UInt64} {td : wX} {res : (Int32 × wM)} (hE : wEnd G (some .boolean) (rp (some (.int (res.1))) (X, res.2, o, dd, td)) xp0) (hT : wNoTab G) (h : f_X8_isSafe Y = some res) : J G 1 0 0 0 [(0, .ref (wad (gB G) 22))] [] (X, Y, o, dd, td) := by
  unfold f_X8_isSafe at h
  refine j_aload_n hG 0 (dt dtX8_isSafe_0 0 rfl) rfl rfl ?_
  refine j_iconst hG (v := 0) (dt dtX8_isSafe_0 1 rfl) (by decide) ?_
  refine j_put hG cl_X8 22 14 (X := Y) (k := 22) (fun Y => (X, Y, o, dd, td)) (cv_22 _ _ _ _) (by decide) fl_X8_54 rfl rfl rfl rfl rfl (Nat.le_of_ble_eq_true rfl) (cs_22 _ _ _ _ (upd (Y 22) 14 0)) h (dt dtX8_isSafe_0 2 rfl) (fun Y h => ?_)
  refine j_iconst hG (v := 1) (dt dtX8_isSafe_0 3 rfl) (by decide) ?_
  obtain rfl := Option.some.inj h
  exact j_zret hG hE (by decide) ⟨rfl, rfl⟩ (dt dtX8_isSafe_0 4 rfl)
theorem ct_X8_isSafe {l : Launch} (hl : l.stackTraces = false) (B : wB) (X Y : wM) (o : Int64) (dd : UInt64) (td : wX) {res : (Int32 × wM)} (h : f_X8_isSafe Y = some res) : wMet l B yX8_isSafe cX8_isSafe 1 (some .boolean) 0 0 0 0 [.ref (wad B 22)] (X, Y, o, dd, td) (rp (some (.int (res.1))) (X, res.2, o, dd, td)) xp0 :=
  wMet.of hl (by decide +kernel) (Nat.le_of_ble_eq_true rfl) (fun G hB hL hG hE hT => by subst hB; exact g_f_X8_isSafe hG hE hT h)
