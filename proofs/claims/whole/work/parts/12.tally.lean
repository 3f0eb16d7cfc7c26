def f_X6_isCounted_10_26 (X : wM) (s0 : Int32) : Option (Int32) :=
  wgd (wokN .boolean s0) (some s0)
def f_X6_isCounted_10_25 (X : wM) : Option (Int32) :=
  f_X6_isCounted_10_26 X (0 : Int32)
def f_X6_isCounted_10 (X : wM) (a1 : Int32) : Option (Int32) :=
  wget 40 (X 4) a1 fun v8 =>
  (if v8 = 0 then f_X6_isCounted_10_25 X
  else wget 40 (X 11) a1 fun v17 =>
  (if v17 = 0 then f_X6_isCounted_10_26 X (1 : Int32)
  else f_X6_isCounted_10_25 X))
set_option maxRecDepth 4000 in
theorem g_f_X6_isCounted_10_26 {G : wG} (hG : wOk G RX6 cX6_isCounted 2 0 0) {X Y : wM} {o : Int64} {dd : UInt64} {td : wX} {res : (Int32)} (hE : wEnd G (some .boolean) (rp (some (.int (res))) (X, Y, o, dd, td)) xp0) (hT : wNoTab G) {s0 : Int32} (h : f_X6_isCounted_10_26 X s0 = some res) : J G 2 0 0 26 [] [.int (s0)] (X, Y, o, dd, td) := by
  unfold f_X6_isCounted_10_26 at h
  obtain ⟨c26, h⟩ := wgd_ok h
  obtain rfl := Option.some.inj h
  exact j_zret hG hE (wokN_ok c26) ⟨rfl, rfl⟩ (dt dtX6_isCounted_0 14 rfl)
set_option maxRecDepth 4000 in
theorem g_f_X6_isCounted_10_25 {G : wG} (hG : wOk G RX6 cX6_isCounted 2 0 0) {X Y : wM} {o : Int64} {dd : UInt64} {td : wX} {res : (Int32)} (hE : wEnd G (some .boolean) (rp (some (.int (res))) (X, Y, o, dd, td)) xp0) (hT : wNoTab G) (h : f_X6_isCounted_10_25 X = some res) : J G 2 0 0 25 [] [] (X, Y, o, dd, td) := by
  unfold f_X6_isCounted_10_25 at h
  refine j_iconst hG (v := 0) (dt dtX6_isCounted_0 13 rfl) (by decide) ?_
  exact g_f_X6_isCounted_10_26 hG hE hT h
set_option maxRecDepth 4000 in
theorem g_f_X6_isCounted_10 {G : wG} (hG : wOk G RX6 cX6_isCounted 2 0 0) {X Y : wM} {o : Int64} {dd : UInt64} {td : wX} {res : (Int32)} (hE : wEnd G (some .boolean) (rp (some (.int (res))) (X, Y, o, dd, td)) xp0) (hT : wNoTab G) {a1 : Int32} (h : f_X6_isCounted_10 X a1 = some res) : J G 2 0 0 0 [(0, .ref (wad (gB G) 10)), (1, .int (a1))] [] (X, Y, o, dd, td) := by
  unfold f_X6_isCounted_10 at h
  refine j_aload_n hG 0 (dt dtX6_isCounted_0 0 rfl) rfl rfl ?_
  refine j_get hG cl_X6 10 0 (cv_10 _ _ _ _) (by decide) fl_X6_26 rfl rfl (dt dtX6_isCounted_0 1 rfl) ?_
  refine j_get hG cl_X3 3 1 (cv_3 _ _ _ _) (by decide) fl_X6_39 rfl rfl (dt dtX6_isCounted_0 2 rfl) ?_
  refine j_iload_n hG 1 (dt dtX6_isCounted_0 3 rfl) rfl rfl ?_
  refine j_zald hG 4 (cv_4 _ _ _ _) h (dt dtX6_isCounted_0 4 rfl) (fun v8 h => ?_)
  refine j_if_eq hG (tgt := 25) (dt dtX6_isCounted_0 5 rfl) (by decide) h (fun h => ?_) (fun h => ?_)
  · refine j_lv (lv' := []) [] rfl ?_
    exact g_f_X6_isCounted_10_25 hG hE hT h
  · refine j_aload_n hG 0 (dt dtX6_isCounted_0 6 rfl) rfl rfl ?_
    refine j_get hG cl_X6 10 2 (cv_10 _ _ _ _) (by decide) fl_X6_9 rfl rfl (dt dtX6_isCounted_0 7 rfl) ?_
    refine j_iload_n hG 1 (dt dtX6_isCounted_0 8 rfl) rfl rfl ?_
    refine j_zald hG 11 (cv_11 _ _ _ _) h (dt dtX6_isCounted_0 9 rfl) (fun v17 h => ?_)
    refine j_if_ne hG (tgt := 25) (dt dtX6_isCounted_0 10 rfl) (by decide) h (fun h => ?_) (fun h => ?_)
    · refine j_iconst hG (v := 1) (dt dtX6_isCounted_0 11 rfl) (by decide) ?_
      refine j_goto hG (tgt := 26) (dt dtX6_isCounted_0 12 rfl) (by decide) ?_
      refine j_lv (lv' := []) [] rfl ?_
      exact g_f_X6_isCounted_10_26 hG hE hT h
    · refine j_lv (lv' := []) [] rfl ?_
      exact g_f_X6_isCounted_10_25 hG hE hT h
theorem ct_X6_isCounted_10 {l : Launch} (hl : l.stackTraces = false) (B : wB) (X Y : wM) (o : Int64) (dd : UInt64) (td : wX) {a1 : Int32} {res : (Int32)} (h : f_X6_isCounted_10 X a1 = some res) : wMet l B yX6_isCounted cX6_isCounted 2 (some .boolean) 0 0 0 0 [.ref (wad B 10), .int (a1)] (X, Y, o, dd, td) (rp (some (.int (res))) (X, Y, o, dd, td)) xp0 :=
  wMet.of hl (by decide +kernel) (Nat.le_of_ble_eq_true rfl) (fun G hB hL hG hE hT => by subst hB; exact g_f_X6_isCounted_10 hG hE hT h)
def f_X6_repeatsEarlier_10_31 (k2 : Int32 → Int32 → Option (Int32)) (X : wM) (l1 : Int32) (l2 : Int32) : Option (Int32) :=
  wbd (l2 + 1) fun v31 =>
  k2 l1 v31
def f_X6_repeatsEarlier_10_2b (k2 : Int32 → Int32 → Option (Int32)) (X : wM) (l1 : Int32) (l2 : Int32) : Option (Int32) :=
  (if l2 < l1 then (f_X6_isCounted_10 X l2).bind fun y9 =>
  (if y9 = 0 then f_X6_repeatsEarlier_10_31 k2 X l1 l2
  else (f_X1_kindOf X l2 l1).bind fun y21 =>
  (if y21 = 121 then some 1
  else f_X6_repeatsEarlier_10_31 k2 X l1 l2))
  else some 0)
def f_X6_repeatsEarlier_10_2 (X : wM) : Nat → Int32 → Int32 → Option (Int32)
  | 0 => fun _ _ => none
  | n + 1 => fun l1 l2 => f_X6_repeatsEarlier_10_2b (f_X6_repeatsEarlier_10_2 X n) X l1 l2
def f_X6_repeatsEarlier_10 (X : wM) (a1 : Int32) : Option (Int32) :=
  f_X6_repeatsEarlier_10_2 X 1000 a1 (0 : Int32)
set_option maxRecDepth 4000 in
theorem g_f_X6_repeatsEarlier_10_31 {G : wG} (hG : wOk G RX6 cX6_repeatsEarlier 3 3 70) {X Y : wM} {o : Int64} {dd : UInt64} {td : wX} {res : (Int32)} (hE : wEnd G (some .boolean) (rp (some (.int (res))) (X, Y, o, dd, td)) xp0) (hT : wNoTab G) {k2 : Int32 → Int32 → Option (Int32)} (hk2 : ∀ (l1 : Int32) (l2 : Int32), k2 l1 l2 = some res → J G 3 0 0 2 [(0, .ref (wad (gB G) 10)), (1, .int (l1)), (2, .int (l2))] [] (X, Y, o, dd, td)) {l1 : Int32} {l2 : Int32} (h : f_X6_repeatsEarlier_10_31 k2 X l1 l2 = some res) : J G 3 0 0 31 [(0, .ref (wad (gB G) 10)), (1, .int (l1)), (2, .int (l2))] [] (X, Y, o, dd, td) := by
  unfold f_X6_repeatsEarlier_10_31 at h
  refine j_iincB hG 2 (fun v31 => [(2, .int (v31)), (0, .ref (wad (gB G) 10)), (1, .int (l1))]) (dt dtX6_repeatsEarlier_0 18 rfl) rfl rfl (by decide) (fun _ => rfl) h (fun v31 h => ?_)
  refine j_goto hG (tgt := 2) (dt dtX6_repeatsEarlier_0 19 rfl) (by decide) ?_
  refine j_lv (lv' := [(0, .ref (wad (gB G) 10)), (1, .int (l1)), (2, .int (v31))]) [1, 2, 0] rfl ?_
  exact hk2 l1 v31 h
set_option maxRecDepth 4000 in
theorem g_f_X6_repeatsEarlier_10_2b {G : wG} (hG : wOk G RX6 cX6_repeatsEarlier 3 3 70) {X Y : wM} {o : Int64} {dd : UInt64} {td : wX} {res : (Int32)} (hE : wEnd G (some .boolean) (rp (some (.int (res))) (X, Y, o, dd, td)) xp0) (hT : wNoTab G) {k2 : Int32 → Int32 → Option (Int32)} (hk2 : ∀ (l1 : Int32) (l2 : Int32), k2 l1 l2 = some res → J G 3 0 0 2 [(0, .ref (wad (gB G) 10)), (1, .int (l1)), (2, .int (l2))] [] (X, Y, o, dd, td)) {l1 : Int32} {l2 : Int32} (h : f_X6_repeatsEarlier_10_2b k2 X l1 l2 = some res) : J G 3 0 0 2 [(0, .ref (wad (gB G) 10)), (1, .int (l1)), (2, .int (l2))] [] (X, Y, o, dd, td) := by
  unfold f_X6_repeatsEarlier_10_2b at h
  refine j_iload_n hG 2 (dt dtX6_repeatsEarlier_0 2 rfl) rfl rfl ?_
  refine j_iload_n hG 1 (dt dtX6_repeatsEarlier_0 3 rfl) rfl rfl ?_
  refine j_icmp_ge hG (tgt := 37) (dt dtX6_repeatsEarlier_0 4 rfl) (by decide) h (fun h => ?_) (fun h => ?_)
  · refine j_aload_n hG 0 (dt dtX6_repeatsEarlier_0 5 rfl) rfl rfl ?_
    refine j_iload_n hG 2 (dt dtX6_repeatsEarlier_0 6 rfl) rfl rfl ?_
    refine j_callVp hG h (V := fun y9 => (some (.int (y9)))) (S := fun y9 => (X, Y, o, dd, td)) (kc := 0) (ks := 0) (fun z hz => ct_X6_isCounted_10 hG.2.2.1 (gB G) _ _ _ _ _ hz) mf_X6_isCounted ml_X6_53 10 (cv_10 _ _ _ _) rfl rfl (rest := []) rfl (Nat.le_of_ble_eq_true rfl) (dt dtX6_repeatsEarlier_0 7 rfl) (by decide) (by decide) (fun y9 h => ?_)
    refine j_if_eq hG (tgt := 31) (dt dtX6_repeatsEarlier_0 8 rfl) (by decide) h (fun h => ?_) (fun h => ?_)
    · exact g_f_X6_repeatsEarlier_10_31 hG hE hT hk2 h
    · refine j_aload_n hG 0 (dt dtX6_repeatsEarlier_0 9 rfl) rfl rfl ?_
      refine j_get hG cl_X6 10 1 (cv_10 _ _ _ _) (by decide) fl_X6_30 rfl rfl (dt dtX6_repeatsEarlier_0 10 rfl) ?_
      refine j_iload_n hG 2 (dt dtX6_repeatsEarlier_0 11 rfl) rfl rfl ?_
      refine j_iload_n hG 1 (dt dtX6_repeatsEarlier_0 12 rfl) rfl rfl ?_
      refine j_callVp hG h (V := fun y21 => (some (.int (y21)))) (S := fun y21 => (X, Y, o, dd, td)) (kc := 0) (ks := 0) (fun z hz => ct_X1_kindOf hG.2.2.1 (gB G) _ _ _ _ _ hz) mf_X1_kindOf ml_X6_56 8 (cv_8 _ _ _ _) rfl rfl (rest := []) rfl (Nat.le_of_ble_eq_true rfl) (dt dtX6_repeatsEarlier_0 13 rfl) (by decide) (by decide) (fun y21 h => ?_)
      refine j_bipush hG (v := 121) (dt dtX6_repeatsEarlier_0 14 rfl) (by decide) ?_
      refine j_icmp_ne hG (tgt := 31) (dt dtX6_repeatsEarlier_0 15 rfl) (by decide) h (fun h => ?_) (fun h => ?_)
      · refine j_iconst hG (v := 1) (dt dtX6_repeatsEarlier_0 16 rfl) (by decide) ?_
        obtain rfl := Option.some.inj h
        exact j_zret hG hE (by decide) ⟨rfl, rfl⟩ (dt dtX6_repeatsEarlier_0 17 rfl)
      · exact g_f_X6_repeatsEarlier_10_31 hG hE hT hk2 h
  · refine j_iconst hG (v := 0) (dt dtX6_repeatsEarlier_0 20 rfl) (by decide) ?_
    obtain rfl := Option.some.inj h
    exact j_zret hG hE (by decide) ⟨rfl, rfl⟩ (dt dtX6_repeatsEarlier_0 21 rfl)
set_option maxRecDepth 4000 in
theorem g_f_X6_repeatsEarlier_10_2 {G : wG} (hG : wOk G RX6 cX6_repeatsEarlier 3 3 70) {X : wM} {Y : wM} {o : Int64} {dd : UInt64} {td : wX} {res : (Int32)} (hE : wEnd G (some .boolean) (rp (some (.int (res))) (X, Y, o, dd, td)) xp0) (hT : wNoTab G) (n : Nat) : ∀ (l1 : Int32) (l2 : Int32), f_X6_repeatsEarlier_10_2 X n l1 l2 = some res → J G 3 0 0 2 [(0, .ref (wad (gB G) 10)), (1, .int (l1)), (2, .int (l2))] [] (X, Y, o, dd, td) := by
  induction n with
  | zero => intro l1 l2 h; cases h
  | succ n ih =>
    intro l1 l2 h
    exact g_f_X6_repeatsEarlier_10_2b hG hE hT ih h
set_option maxRecDepth 4000 in
theorem g_f_X6_repeatsEarlier_10 {G : wG} (hG : wOk G RX6 cX6_repeatsEarlier 3 3 70) {X Y : wM} {o : Int64} {dd : UInt64} {td : wX} {res : (Int32)} (hE : wEnd G (some .boolean) (rp (some (.int (res))) (X, Y, o, dd, td)) xp0) (hT : wNoTab G) {a1 : Int32} (h : f_X6_repeatsEarlier_10 X a1 = some res) : J G 3 0 0 0 [(0, .ref (wad (gB G) 10)), (1, .int (a1))] [] (X, Y, o, dd, td) := by
  unfold f_X6_repeatsEarlier_10 at h
  refine j_iconst hG (v := 0) (dt dtX6_repeatsEarlier_0 0 rfl) (by decide) ?_
  refine j_istore_n hG (lv' := [(2, .int (0)), (0, .ref (wad (gB G) 10)), (1, .int (a1))]) (dt dtX6_repeatsEarlier_0 1 rfl) rfl (by decide) rfl ?_
  refine j_lv (lv' := [(0, .ref (wad (gB G) 10)), (1, .int (a1)), (2, .int (0))]) [1, 2, 0] rfl ?_
  exact g_f_X6_repeatsEarlier_10_2 hG hE hT 1000 a1 (0 : Int32) h
theorem ct_X6_repeatsEarlier_10 {l : Launch} (hl : l.stackTraces = false) (B : wB) (X Y : wM) (o : Int64) (dd : UInt64) (td : wX) {a1 : Int32} {res : (Int32)} (h : f_X6_repeatsEarlier_10 X a1 = some res) : wMet l B yX6_repeatsEarlier cX6_repeatsEarlier 3 (some .boolean) 3 70 0 0 [.ref (wad B 10), .int (a1)] (X, Y, o, dd, td) (rp (some (.int (res))) (X, Y, o, dd, td)) xp0 :=
  wMet.of hl (by decide +kernel) (Nat.le_of_ble_eq_true rfl) (fun G hB hL hG hE hT => by subst hB; exact g_f_X6_repeatsEarlier_10 hG hE hT h)
def f_X6_renew_10_147 (k33 : wM → Int32 → Option (wM)) (X : wM) (l1 : Int32) : Option (wM) :=
  wbd (l1 + 1) fun v147 =>
  k33 X v147
def f_X6_renew_10_74 (k33 : wM → Int32 → Option (wM)) (X : wM) (l1 : Int32) (s0 : Int32) (s1 : Int32) : Option (wM) :=
  wput X 11 40 s1 (vp_nar .boolean s0) fun X =>
  wget 40 (X 11) l1 fun v80 =>
  (if v80 = 0 then wget 40 (X 4) l1 fun v105 =>
  (if v105 = 0 then f_X6_renew_10_147 k33 X l1
  else wfld X 10 4 ((X 10 4) + 1) fun X =>
  (f_X3_blockAt X l1).bind fun y128 =>
  (f_X3_groupAt X l1).bind fun y138 =>
  wget 24 (X 12) ((y128 * 4) + y138) fun v143 =>
  wput X 12 24 ((y128 * 4) + y138) (v143 + 1) fun X =>
  f_X6_renew_10_147 k33 X l1)
  else wfld X 10 5 ((X 10 5) + 1) fun X =>
  f_X6_renew_10_147 k33 X l1)
def f_X6_renew_10_73 (k33 : wM → Int32 → Option (wM)) (X : wM) (l1 : Int32) (s0 : Int32) : Option (wM) :=
  f_X6_renew_10_74 k33 X l1 (0 : Int32) s0
def f_X6_renew_10_33b (k33 : wM → Int32 → Option (wM)) (X : wM) (l1 : Int32) : Option (wM) :=
  (if l1 < (X 3 5) then wget 40 (X 4) l1 fun v57 =>
  (if v57 = 0 then f_X6_renew_10_73 k33 X l1 l1
  else (f_X6_repeatsEarlier_10 X l1).bind fun y63 =>
  (if y63 = 0 then f_X6_renew_10_73 k33 X l1 l1
  else f_X6_renew_10_74 k33 X l1 (1 : Int32) l1))
  else some X)
def f_X6_renew_10_33 : Nat → wM → Int32 → Option (wM)
  | 0 => fun _ _ => none
  | n + 1 => fun X l1 => f_X6_renew_10_33b (f_X6_renew_10_33 n) X l1
def f_X6_renew_10_2b (k2 : wM → Int32 → Option (wM)) (X : wM) (l1 : Int32) : Option (wM) :=
  (if l1 < 24 then wput X 12 24 l1 0 fun X =>
  wbd (l1 + 1) fun v15 =>
  k2 X v15
  else wfld X 10 4 0 fun X =>
  wfld X 10 5 0 fun X =>
  f_X6_renew_10_33 1000 X (0 : Int32))
def f_X6_renew_10_2 : Nat → wM → Int32 → Option (wM)
  | 0 => fun _ _ => none
  | n + 1 => fun X l1 => f_X6_renew_10_2b (f_X6_renew_10_2 n) X l1
def f_X6_renew_10 (X : wM) : Option (wM) :=
  f_X6_renew_10_2 1000 X (0 : Int32)
set_option maxRecDepth 4000 in
theorem g_f_X6_renew_10_147 {G : wG} (hG : wOk G RX6 cX6_renew 2 4 92) {X Y : wM} {o : Int64} {dd : UInt64} {td : wX} {res : (wM)} (hE : wEnd G none (rp none (res, Y, o, dd, td)) xp0) (hT : wNoTab G) {k33 : wM → Int32 → Option (wM)} (hk33 : ∀ (X : wM) (l1 : Int32), k33 X l1 = some res → J G 2 0 0 33 [(0, .ref (wad (gB G) 10)), (1, .int (l1))] [] (X, Y, o, dd, td)) {l1 : Int32} (h : f_X6_renew_10_147 k33 X l1 = some res) : J G 2 0 0 147 [(0, .ref (wad (gB G) 10)), (1, .int (l1))] [] (X, Y, o, dd, td) := by
  unfold f_X6_renew_10_147 at h
  refine j_iincB hG 1 (fun v147 => [(1, .int (v147)), (0, .ref (wad (gB G) 10))]) (dt dtX6_renew_1 24 rfl) rfl rfl (by decide) (fun _ => rfl) h (fun v147 h => ?_)
  refine j_goto hG (tgt := 33) (dt dtX6_renew_1 25 rfl) (by decide) ?_
  refine j_lv (lv' := [(0, .ref (wad (gB G) 10)), (1, .int (v147))]) [1, 0] rfl ?_
  exact hk33 X v147 h
set_option maxRecDepth 4000 in
theorem g_f_X6_renew_10_74 {G : wG} (hG : wOk G RX6 cX6_renew 2 4 92) {X Y : wM} {o : Int64} {dd : UInt64} {td : wX} {res : (wM)} (hE : wEnd G none (rp none (res, Y, o, dd, td)) xp0) (hT : wNoTab G) {k33 : wM → Int32 → Option (wM)} (hk33 : ∀ (X : wM) (l1 : Int32), k33 X l1 = some res → J G 2 0 0 33 [(0, .ref (wad (gB G) 10)), (1, .int (l1))] [] (X, Y, o, dd, td)) {l1 : Int32} {s0 : Int32} {s1 : Int32} (h : f_X6_renew_10_74 k33 X l1 s0 s1 = some res) : J G 2 0 0 74 [(0, .ref (wad (gB G) 10)), (1, .int (l1))] [.int (s0), .int (s1), .ref (wad (gB G) 11)] (X, Y, o, dd, td) := by
  unfold f_X6_renew_10_74 at h
  refine j_zast hG 11 (X := X) (k := 11) (fun X => (X, Y, o, dd, td)) (cv_11 _ _ _ _) (fun g => cs_11 _ _ _ _ g) h (dt dtX6_renew_0 41 rfl) (fun X h => ?_)
  refine j_aload_n hG 0 (dt dtX6_renew_0 42 rfl) rfl rfl ?_
  refine j_get hG cl_X6 10 2 (cv_10 _ _ _ _) (by decide) fl_X6_9 rfl rfl (dt dtX6_renew_0 43 rfl) ?_
  refine j_iload_n hG 1 (dt dtX6_renew_0 44 rfl) rfl rfl ?_
  refine j_zald hG 11 (cv_11 _ _ _ _) h (dt dtX6_renew_0 45 rfl) (fun v80 h => ?_)
  refine j_if_eq hG (tgt := 97) (dt dtX6_renew_0 46 rfl) (by decide) h (fun h => ?_) (fun h => ?_)
  · refine j_aload_n hG 0 (dt dtX6_renew_0 54 rfl) rfl rfl ?_
    refine j_get hG cl_X6 10 0 (cv_10 _ _ _ _) (by decide) fl_X6_26 rfl rfl (dt dtX6_renew_0 55 rfl) ?_
    refine j_get hG cl_X3 3 1 (cv_3 _ _ _ _) (by decide) fl_X6_39 rfl rfl (dt dtX6_renew_0 56 rfl) ?_
    refine j_iload_n hG 1 (dt dtX6_renew_0 57 rfl) rfl rfl ?_
    refine j_zald hG 4 (cv_4 _ _ _ _) h (dt dtX6_renew_0 58 rfl) (fun v105 h => ?_)
    refine j_if_eq hG (tgt := 147) (dt dtX6_renew_0 59 rfl) (by decide) h (fun h => ?_) (fun h => ?_)
    · exact g_f_X6_renew_10_147 hG hE hT hk33 h
    · refine j_aload_n hG 0 (dt dtX6_renew_1 0 rfl) rfl rfl ?_
      refine j_dup hG (dt dtX6_renew_1 1 rfl) rfl ?_
      refine j_get hG cl_X6 10 4 (cv_10 _ _ _ _) (by decide) fl_X6_19 rfl rfl (dt dtX6_renew_1 2 rfl) ?_
      refine j_iconst hG (v := 1) (dt dtX6_renew_1 3 rfl) (by decide) ?_
      refine j_iadd hG (dt dtX6_renew_1 4 rfl) ?_
      refine j_put hG cl_X6 10 4 (X := X) (k := 10) (fun X => (X, Y, o, dd, td)) (cv_10 _ _ _ _) (by decide) fl_X6_19 rfl rfl rfl rfl rfl (Nat.le_of_ble_eq_true rfl) (cs_10 _ _ _ _ (upd (X 10) 4 ((X 10 4) + 1))) h (dt dtX6_renew_1 5 rfl) (fun X h => ?_)
      refine j_aload_n hG 0 (dt dtX6_renew_1 6 rfl) rfl rfl ?_
      refine j_get hG cl_X6 10 3 (cv_10 _ _ _ _) (by decide) fl_X6_15 rfl rfl (dt dtX6_renew_1 7 rfl) ?_
      refine j_aload_n hG 0 (dt dtX6_renew_1 8 rfl) rfl rfl ?_
      refine j_get hG cl_X6 10 0 (cv_10 _ _ _ _) (by decide) fl_X6_26 rfl rfl (dt dtX6_renew_1 9 rfl) ?_
      refine j_iload_n hG 1 (dt dtX6_renew_1 10 rfl) rfl rfl ?_
      refine j_callVp hG h (V := fun y128 => (some (.int (y128)))) (S := fun y128 => (X, Y, o, dd, td)) (kc := 0) (ks := 0) (fun z hz => ct_X3_blockAt hG.2.2.1 (gB G) _ _ _ _ _ hz) mf_X3_blockAt ml_X6_46 3 (cv_3 _ _ _ _) rfl rfl (rest := [.ref (wad (gB G) 12)]) rfl (Nat.le_of_ble_eq_true rfl) (dt dtX6_renew_1 11 rfl) (by decide) (by decide) (fun y128 h => ?_)
      refine j_iconst hG (v := 4) (dt dtX6_renew_1 12 rfl) (by decide) ?_
      refine j_imul hG (dt dtX6_renew_1 13 rfl) ?_
      refine j_aload_n hG 0 (dt dtX6_renew_1 14 rfl) rfl rfl ?_
      refine j_get hG cl_X6 10 0 (cv_10 _ _ _ _) (by decide) fl_X6_26 rfl rfl (dt dtX6_renew_1 15 rfl) ?_
      refine j_iload_n hG 1 (dt dtX6_renew_1 16 rfl) rfl rfl ?_
      refine j_callVp hG h (V := fun y138 => (some (.int (y138)))) (S := fun y138 => (X, Y, o, dd, td)) (kc := 0) (ks := 0) (fun z hz => ct_X3_groupAt hG.2.2.1 (gB G) _ _ _ _ _ hz) mf_X3_groupAt ml_X6_50 3 (cv_3 _ _ _ _) rfl rfl (rest := [.int ((y128 * 4)), .ref (wad (gB G) 12)]) rfl (Nat.le_of_ble_eq_true rfl) (dt dtX6_renew_1 17 rfl) (by decide) (by decide) (fun y138 h => ?_)
      refine j_iadd hG (dt dtX6_renew_1 18 rfl) ?_
      refine j_dup2 hG (dt dtX6_renew_1 19 rfl) rfl rfl ?_
      refine j_iald hG 12 (cv_12 _ _ _ _) h (dt dtX6_renew_1 20 rfl) (fun v143 h => ?_)
      refine j_iconst hG (v := 1) (dt dtX6_renew_1 21 rfl) (by decide) ?_
      refine j_iadd hG (dt dtX6_renew_1 22 rfl) ?_
      refine j_iast hG 12 (X := X) (k := 12) (fun X => (X, Y, o, dd, td)) (cv_12 _ _ _ _) (fun g => cs_12 _ _ _ _ g) h (dt dtX6_renew_1 23 rfl) (fun X h => ?_)
      exact g_f_X6_renew_10_147 hG hE hT hk33 h
  · refine j_aload_n hG 0 (dt dtX6_renew_0 47 rfl) rfl rfl ?_
    refine j_dup hG (dt dtX6_renew_0 48 rfl) rfl ?_
    refine j_get hG cl_X6 10 5 (cv_10 _ _ _ _) (by decide) fl_X6_23 rfl rfl (dt dtX6_renew_0 49 rfl) ?_
    refine j_iconst hG (v := 1) (dt dtX6_renew_0 50 rfl) (by decide) ?_
    refine j_iadd hG (dt dtX6_renew_0 51 rfl) ?_
    refine j_put hG cl_X6 10 5 (X := X) (k := 10) (fun X => (X, Y, o, dd, td)) (cv_10 _ _ _ _) (by decide) fl_X6_23 rfl rfl rfl rfl rfl (Nat.le_of_ble_eq_true rfl) (cs_10 _ _ _ _ (upd (X 10) 5 ((X 10 5) + 1))) h (dt dtX6_renew_0 52 rfl) (fun X h => ?_)
    refine j_goto hG (tgt := 147) (dt dtX6_renew_0 53 rfl) (by decide) ?_
    exact g_f_X6_renew_10_147 hG hE hT hk33 h
set_option maxRecDepth 4000 in
theorem g_f_X6_renew_10_73 {G : wG} (hG : wOk G RX6 cX6_renew 2 4 92) {X Y : wM} {o : Int64} {dd : UInt64} {td : wX} {res : (wM)} (hE : wEnd G none (rp none (res, Y, o, dd, td)) xp0) (hT : wNoTab G) {k33 : wM → Int32 → Option (wM)} (hk33 : ∀ (X : wM) (l1 : Int32), k33 X l1 = some res → J G 2 0 0 33 [(0, .ref (wad (gB G) 10)), (1, .int (l1))] [] (X, Y, o, dd, td)) {l1 : Int32} {s0 : Int32} (h : f_X6_renew_10_73 k33 X l1 s0 = some res) : J G 2 0 0 73 [(0, .ref (wad (gB G) 10)), (1, .int (l1))] [.int (s0), .ref (wad (gB G) 11)] (X, Y, o, dd, td) := by
  unfold f_X6_renew_10_73 at h
  refine j_iconst hG (v := 0) (dt dtX6_renew_0 40 rfl) (by decide) ?_
  exact g_f_X6_renew_10_74 hG hE hT hk33 h
set_option maxRecDepth 4000 in
theorem g_f_X6_renew_10_33b {G : wG} (hG : wOk G RX6 cX6_renew 2 4 92) {X Y : wM} {o : Int64} {dd : UInt64} {td : wX} {res : (wM)} (hE : wEnd G none (rp none (res, Y, o, dd, td)) xp0) (hT : wNoTab G) {k33 : wM → Int32 → Option (wM)} (hk33 : ∀ (X : wM) (l1 : Int32), k33 X l1 = some res → J G 2 0 0 33 [(0, .ref (wad (gB G) 10)), (1, .int (l1))] [] (X, Y, o, dd, td)) {l1 : Int32} (h : f_X6_renew_10_33b k33 X l1 = some res) : J G 2 0 0 33 [(0, .ref (wad (gB G) 10)), (1, .int (l1))] [] (X, Y, o, dd, td) := by
  unfold f_X6_renew_10_33b at h
  refine j_iload_n hG 1 (dt dtX6_renew_0 20 rfl) rfl rfl ?_
  refine j_aload_n hG 0 (dt dtX6_renew_0 21 rfl) rfl rfl ?_
  refine j_get hG cl_X6 10 0 (cv_10 _ _ _ _) (by decide) fl_X6_26 rfl rfl (dt dtX6_renew_0 22 rfl) ?_
  refine j_get hG cl_X3 3 5 (cv_3 _ _ _ _) (by decide) fl_X6_34 rfl rfl (dt dtX6_renew_0 23 rfl) ?_
  refine j_icmp_ge hG (tgt := 153) (dt dtX6_renew_0 24 rfl) (by decide) h (fun h => ?_) (fun h => ?_)
  · refine j_aload_n hG 0 (dt dtX6_renew_0 25 rfl) rfl rfl ?_
    refine j_get hG cl_X6 10 2 (cv_10 _ _ _ _) (by decide) fl_X6_9 rfl rfl (dt dtX6_renew_0 26 rfl) ?_
    refine j_iload_n hG 1 (dt dtX6_renew_0 27 rfl) rfl rfl ?_
    refine j_aload_n hG 0 (dt dtX6_renew_0 28 rfl) rfl rfl ?_
    refine j_get hG cl_X6 10 0 (cv_10 _ _ _ _) (by decide) fl_X6_26 rfl rfl (dt dtX6_renew_0 29 rfl) ?_
    refine j_get hG cl_X3 3 1 (cv_3 _ _ _ _) (by decide) fl_X6_39 rfl rfl (dt dtX6_renew_0 30 rfl) ?_
    refine j_iload_n hG 1 (dt dtX6_renew_0 31 rfl) rfl rfl ?_
    refine j_zald hG 4 (cv_4 _ _ _ _) h (dt dtX6_renew_0 32 rfl) (fun v57 h => ?_)
    refine j_if_eq hG (tgt := 73) (dt dtX6_renew_0 33 rfl) (by decide) h (fun h => ?_) (fun h => ?_)
    · exact g_f_X6_renew_10_73 hG hE hT hk33 h
    · refine j_aload_n hG 0 (dt dtX6_renew_0 34 rfl) rfl rfl ?_
      refine j_iload_n hG 1 (dt dtX6_renew_0 35 rfl) rfl rfl ?_
      refine j_callVp hG h (V := fun y63 => (some (.int (y63)))) (S := fun y63 => (X, Y, o, dd, td)) (kc := 0) (ks := 0) (fun z hz => ct_X6_repeatsEarlier_10 hG.2.2.1 (gB G) _ _ _ _ _ hz) mf_X6_repeatsEarlier ml_X6_42 10 (cv_10 _ _ _ _) rfl rfl (rest := [.int (l1), .ref (wad (gB G) 11)]) rfl (Nat.le_of_ble_eq_true rfl) (dt dtX6_renew_0 36 rfl) (by decide) (by decide) (fun y63 h => ?_)
      refine j_if_eq hG (tgt := 73) (dt dtX6_renew_0 37 rfl) (by decide) h (fun h => ?_) (fun h => ?_)
      · exact g_f_X6_renew_10_73 hG hE hT hk33 h
      · refine j_iconst hG (v := 1) (dt dtX6_renew_0 38 rfl) (by decide) ?_
        refine j_goto hG (tgt := 74) (dt dtX6_renew_0 39 rfl) (by decide) ?_
        exact g_f_X6_renew_10_74 hG hE hT hk33 h
  · obtain rfl := Option.some.inj h
    exact j_vret hG hE ⟨rfl, rfl⟩ (dt dtX6_renew_1 26 rfl)
set_option maxRecDepth 4000 in
theorem g_f_X6_renew_10_33 {G : wG} (hG : wOk G RX6 cX6_renew 2 4 92) {Y : wM} {o : Int64} {dd : UInt64} {td : wX} {res : (wM)} (hE : wEnd G none (rp none (res, Y, o, dd, td)) xp0) (hT : wNoTab G) (n : Nat) : ∀ (X : wM) (l1 : Int32), f_X6_renew_10_33 n X l1 = some res → J G 2 0 0 33 [(0, .ref (wad (gB G) 10)), (1, .int (l1))] [] (X, Y, o, dd, td) := by
  induction n with
  | zero => intro X l1 h; cases h
  | succ n ih =>
    intro X l1 h
    exact g_f_X6_renew_10_33b hG hE hT ih h
set_option maxRecDepth 4000 in
theorem g_f_X6_renew_10_2b {G : wG} (hG : wOk G RX6 cX6_renew 2 4 92) {X Y : wM} {o : Int64} {dd : UInt64} {td : wX} {res : (wM)} (hE : wEnd G none (rp none (res, Y, o, dd, td)) xp0) (hT : wNoTab G) {k2 : wM → Int32 → Option (wM)} (hk2 : ∀ (X : wM) (l1 : Int32), k2 X l1 = some res → J G 2 0 0 2 [(0, .ref (wad (gB G) 10)), (1, .int (l1))] [] (X, Y, o, dd, td)) {l1 : Int32} (h : f_X6_renew_10_2b k2 X l1 = some res) : J G 2 0 0 2 [(0, .ref (wad (gB G) 10)), (1, .int (l1))] [] (X, Y, o, dd, td) := by
  unfold f_X6_renew_10_2b at h
  refine j_iload_n hG 1 (dt dtX6_renew_0 2 rfl) rfl rfl ?_
  refine j_bipush hG (v := 24) (dt dtX6_renew_0 3 rfl) (by decide) ?_
  refine j_icmp_ge hG (tgt := 21) (dt dtX6_renew_0 4 rfl) (by decide) h (fun h => ?_) (fun h => ?_)
  · refine j_aload_n hG 0 (dt dtX6_renew_0 5 rfl) rfl rfl ?_
    refine j_get hG cl_X6 10 3 (cv_10 _ _ _ _) (by decide) fl_X6_15 rfl rfl (dt dtX6_renew_0 6 rfl) ?_
    refine j_iload_n hG 1 (dt dtX6_renew_0 7 rfl) rfl rfl ?_
    refine j_iconst hG (v := 0) (dt dtX6_renew_0 8 rfl) (by decide) ?_
    refine j_iast hG 12 (X := X) (k := 12) (fun X => (X, Y, o, dd, td)) (cv_12 _ _ _ _) (fun g => cs_12 _ _ _ _ g) h (dt dtX6_renew_0 9 rfl) (fun X h => ?_)
    refine j_iincB hG 1 (fun v15 => [(1, .int (v15)), (0, .ref (wad (gB G) 10))]) (dt dtX6_renew_0 10 rfl) rfl rfl (by decide) (fun _ => rfl) h (fun v15 h => ?_)
    refine j_goto hG (tgt := 2) (dt dtX6_renew_0 11 rfl) (by decide) ?_
    refine j_lv (lv' := [(0, .ref (wad (gB G) 10)), (1, .int (v15))]) [1, 0] rfl ?_
    exact hk2 X v15 h
  · refine j_aload_n hG 0 (dt dtX6_renew_0 12 rfl) rfl rfl ?_
    refine j_iconst hG (v := 0) (dt dtX6_renew_0 13 rfl) (by decide) ?_
    refine j_put hG cl_X6 10 4 (X := X) (k := 10) (fun X => (X, Y, o, dd, td)) (cv_10 _ _ _ _) (by decide) fl_X6_19 rfl rfl rfl rfl rfl (Nat.le_of_ble_eq_true rfl) (cs_10 _ _ _ _ (upd (X 10) 4 0)) h (dt dtX6_renew_0 14 rfl) (fun X h => ?_)
    refine j_aload_n hG 0 (dt dtX6_renew_0 15 rfl) rfl rfl ?_
    refine j_iconst hG (v := 0) (dt dtX6_renew_0 16 rfl) (by decide) ?_
    refine j_put hG cl_X6 10 5 (X := X) (k := 10) (fun X => (X, Y, o, dd, td)) (cv_10 _ _ _ _) (by decide) fl_X6_23 rfl rfl rfl rfl rfl (Nat.le_of_ble_eq_true rfl) (cs_10 _ _ _ _ (upd (X 10) 5 0)) h (dt dtX6_renew_0 17 rfl) (fun X h => ?_)
    refine j_iconst hG (v := 0) (dt dtX6_renew_0 18 rfl) (by decide) ?_
    refine j_istore_n hG (lv' := [(1, .int (0)), (0, .ref (wad (gB G) 10))]) (dt dtX6_renew_0 19 rfl) rfl (by decide) rfl ?_
    refine j_lv (lv' := [(0, .ref (wad (gB G) 10)), (1, .int (0))]) [1, 0] rfl ?_
    exact g_f_X6_renew_10_33 hG hE hT 1000 X (0 : Int32) h
set_option maxRecDepth 4000 in
theorem g_f_X6_renew_10_2 {G : wG} (hG : wOk G RX6 cX6_renew 2 4 92) {Y : wM} {o : Int64} {dd : UInt64} {td : wX} {res : (wM)} (hE : wEnd G none (rp none (res, Y, o, dd, td)) xp0) (hT : wNoTab G) (n : Nat) : ∀ (X : wM) (l1 : Int32), f_X6_renew_10_2 n X l1 = some res → J G 2 0 0 2 [(0, .ref (wad (gB G) 10)), (1, .int (l1))] [] (X, Y, o, dd, td) := by
  induction n with
  | zero => intro X l1 h; cases h
  | succ n ih =>
    intro X l1 h
    exact g_f_X6_renew_10_2b hG hE hT ih h
set_option maxRecDepth 4000 in
theorem g_f_X6_renew_10 {G : wG} (hG : wOk G RX6 cX6_renew 2 4 92) {X Y : wM} {o : Int64} {dd : UInt64} {td : wX} {res : (wM)} (hE : wEnd G none (rp none (res, Y, o, dd, td)) xp0) (hT : wNoTab G) (h : f_X6_renew_10 X = some res) : J G 2 0 0 0 [(0, .ref (wad (gB G) 10))] [] (X, Y, o, dd, td) := by
  unfold f_X6_renew_10 at h
  refine j_iconst hG (v := 0) (dt dtX6_renew_0 0 rfl) (by decide) ?_
  refine j_istore_n hG (lv' := [(1, .int (0)), (0, .ref (wad (gB G) 10))]) (dt dtX6_renew_0 1 rfl) rfl (by decide) rfl ?_
  refine j_lv (lv' := [(0, .ref (wad (gB G) 10)), (1, .int (0))]) [1, 0] rfl ?_
  exact g_f_X6_renew_10_2 hG hE hT 1000 X (0 : Int32) h
theorem ct_X6_renew_10 {l : Launch} (hl : l.stackTraces = false) (B : wB) (X Y : wM) (o : Int64) (dd : UInt64) (td : wX) {res : (wM)} (h : f_X6_renew_10 X = some res) : wMet l B yX6_renew cX6_renew 2 none 4 92 0 0 [.ref (wad B 10)] (X, Y, o, dd, td) (rp none (res, Y, o, dd, td)) xp0 :=
  wMet.of hl (by decide +kernel) (Nat.le_of_ble_eq_true rfl) (fun G hB hL hG hE hT => by subst hB; exact g_f_X6_renew_10 hG hE hT h)
def f_X2_gatherLinked_135 (k7 : wM → Int32 → Option (wM)) (X : wM) (l1 : Int32) : Option (wM) :=
  wbd (l1 + 1) fun v135 =>
  k7 X v135
def f_X2_gatherLinked_129 (k7 : wM → Int32 → Option (wM)) (k34 : wM → Int32 → Int32 → Option (wM)) (X : wM) (l1 : Int32) (l2 : Int32) : Option (wM) :=
  wbd (l2 + 1) fun v129 =>
  k34 X l1 v129
def f_X2_gatherLinked_34b (k7 : wM → Int32 → Option (wM)) (k34 : wM → Int32 → Int32 → Option (wM)) (X : wM) (l1 : Int32) (l2 : Int32) : Option (wM) :=
  (if l2 < (X 3 5) then (if (X 16 7) < 400 then wget 40 (X 4) l2 fun v63 =>
  (if v63 = 0 then (f_X1_kindOf X l1 l2).bind fun y73 =>
  (if y73 = 121 then wput X 18 400 (X 16 7) l1 fun X =>
  wput X 19 400 (X 16 7) l2 fun X =>
  (f_X1_scoreOf X l1 l2).bind fun y115 =>
  wput X 20 400 (X 16 7) y115 fun X =>
  wfld X 16 7 ((X 16 7) + 1) fun X =>
  f_X2_gatherLinked_129 k7 k34 X l1 l2
  else f_X2_gatherLinked_129 k7 k34 X l1 l2)
  else f_X2_gatherLinked_129 k7 k34 X l1 l2)
  else f_X2_gatherLinked_135 k7 X l1)
  else f_X2_gatherLinked_135 k7 X l1)
def f_X2_gatherLinked_34 (k7 : wM → Int32 → Option (wM)) : Nat → wM → Int32 → Int32 → Option (wM)
  | 0 => fun _ _ _ => none
  | n + 1 => fun X l1 l2 => f_X2_gatherLinked_34b k7 (f_X2_gatherLinked_34 k7 n) X l1 l2
def f_X2_gatherLinked_7b (k7 : wM → Int32 → Option (wM)) (X : wM) (l1 : Int32) : Option (wM) :=
  (if l1 < (X 3 5) then (f_X6_isCounted_10 X l1).bind fun y23 =>
  (if y23 = 0 then f_X2_gatherLinked_135 k7 X l1
  else f_X2_gatherLinked_34 k7 1000 X l1 (0 : Int32))
  else some X)
def f_X2_gatherLinked_7 : Nat → wM → Int32 → Option (wM)
  | 0 => fun _ _ => none
  | n + 1 => fun X l1 => f_X2_gatherLinked_7b (f_X2_gatherLinked_7 n) X l1
def f_X2_gatherLinked (X : wM) : Option (wM) :=
  wfld X 16 7 0 fun X =>
  f_X2_gatherLinked_7 1000 X (0 : Int32)
set_option maxRecDepth 4000 in
theorem g_f_X2_gatherLinked_135 {G : wG} (hG : wOk G RX2 cX2_gatherLinked 3 3 70) {X Y : wM} {o : Int64} {dd : UInt64} {td : wX} {res : (wM)} (hE : wEnd G none (rp none (res, Y, o, dd, td)) xp0) (hT : wNoTab G) {k7 : wM → Int32 → Option (wM)} (hk7 : ∀ (X : wM) (l1 : Int32), k7 X l1 = some res → J G 3 0 0 7 [(0, .ref (wad (gB G) 16)), (1, .int (l1))] [] (X, Y, o, dd, td)) {l1 : Int32} (h : f_X2_gatherLinked_135 k7 X l1 = some res) : J G 3 0 0 135 [(0, .ref (wad (gB G) 16)), (1, .int (l1))] [] (X, Y, o, dd, td) := by
  unfold f_X2_gatherLinked_135 at h
  refine j_iincB hG 1 (fun v135 => [(1, .int (v135)), (0, .ref (wad (gB G) 16))]) (dt dtX2_gatherLinked_1 10 rfl) rfl rfl (by decide) (fun _ => rfl) h (fun v135 h => ?_)
  refine j_goto hG (tgt := 7) (dt dtX2_gatherLinked_1 11 rfl) (by decide) ?_
  refine j_lv (lv' := [(0, .ref (wad (gB G) 16)), (1, .int (v135))]) [1, 0] rfl ?_
  exact hk7 X v135 h
set_option maxRecDepth 4000 in
theorem g_f_X2_gatherLinked_129 {G : wG} (hG : wOk G RX2 cX2_gatherLinked 3 3 70) {X Y : wM} {o : Int64} {dd : UInt64} {td : wX} {res : (wM)} (hE : wEnd G none (rp none (res, Y, o, dd, td)) xp0) (hT : wNoTab G) {k7 : wM → Int32 → Option (wM)} (hk7 : ∀ (X : wM) (l1 : Int32), k7 X l1 = some res → J G 3 0 0 7 [(0, .ref (wad (gB G) 16)), (1, .int (l1))] [] (X, Y, o, dd, td)) {k34 : wM → Int32 → Int32 → Option (wM)} (hk34 : ∀ (X : wM) (l1 : Int32) (l2 : Int32), k34 X l1 l2 = some res → J G 3 0 0 34 [(0, .ref (wad (gB G) 16)), (1, .int (l1)), (2, .int (l2))] [] (X, Y, o, dd, td)) {l1 : Int32} {l2 : Int32} (h : f_X2_gatherLinked_129 k7 k34 X l1 l2 = some res) : J G 3 0 0 129 [(0, .ref (wad (gB G) 16)), (1, .int (l1)), (2, .int (l2))] [] (X, Y, o, dd, td) := by
  unfold f_X2_gatherLinked_129 at h
  refine j_iincB hG 2 (fun v129 => [(2, .int (v129)), (0, .ref (wad (gB G) 16)), (1, .int (l1))]) (dt dtX2_gatherLinked_1 8 rfl) rfl rfl (by decide) (fun _ => rfl) h (fun v129 h => ?_)
  refine j_goto hG (tgt := 34) (dt dtX2_gatherLinked_1 9 rfl) (by decide) ?_
  refine j_lv (lv' := [(0, .ref (wad (gB G) 16)), (1, .int (l1)), (2, .int (v129))]) [1, 2, 0] rfl ?_
  exact hk34 X l1 v129 h
set_option maxRecDepth 4000 in
theorem g_f_X2_gatherLinked_34b {G : wG} (hG : wOk G RX2 cX2_gatherLinked 3 3 70) {X Y : wM} {o : Int64} {dd : UInt64} {td : wX} {res : (wM)} (hE : wEnd G none (rp none (res, Y, o, dd, td)) xp0) (hT : wNoTab G) {k7 : wM → Int32 → Option (wM)} (hk7 : ∀ (X : wM) (l1 : Int32), k7 X l1 = some res → J G 3 0 0 7 [(0, .ref (wad (gB G) 16)), (1, .int (l1))] [] (X, Y, o, dd, td)) {k34 : wM → Int32 → Int32 → Option (wM)} (hk34 : ∀ (X : wM) (l1 : Int32) (l2 : Int32), k34 X l1 l2 = some res → J G 3 0 0 34 [(0, .ref (wad (gB G) 16)), (1, .int (l1)), (2, .int (l2))] [] (X, Y, o, dd, td)) {l1 : Int32} {l2 : Int32} (h : f_X2_gatherLinked_34b k7 k34 X l1 l2 = some res) : J G 3 0 0 34 [(0, .ref (wad (gB G) 16)), (1, .int (l1)), (2, .int (l2))] [] (X, Y, o, dd, td) := by
  unfold f_X2_gatherLinked_34b at h
  refine j_iload_n hG 2 (dt dtX2_gatherLinked_0 18 rfl) rfl rfl ?_
  refine j_aload_n hG 0 (dt dtX2_gatherLinked_0 19 rfl) rfl rfl ?_
  refine j_get hG cl_X2 16 0 (cv_16 _ _ _ _) (by decide) fl_X2_34 rfl rfl (dt dtX2_gatherLinked_0 20 rfl) ?_
  refine j_get hG cl_X3 3 5 (cv_3 _ _ _ _) (by decide) fl_X2_59 rfl rfl (dt dtX2_gatherLinked_0 21 rfl) ?_
  refine j_icmp_ge hG (tgt := 135) (dt dtX2_gatherLinked_0 22 rfl) (by decide) h (fun h => ?_) (fun h => ?_)
  · refine j_aload_n hG 0 (dt dtX2_gatherLinked_0 23 rfl) rfl rfl ?_
    refine j_get hG cl_X2 16 7 (cv_16 _ _ _ _) (by decide) fl_X2_24 rfl rfl (dt dtX2_gatherLinked_0 24 rfl) ?_
    refine j_sipush hG (v := 400) (dt dtX2_gatherLinked_0 25 rfl) (by decide) ?_
    refine j_icmp_ge hG (tgt := 135) (dt dtX2_gatherLinked_0 26 rfl) (by decide) h (fun h => ?_) (fun h => ?_)
    · refine j_aload_n hG 0 (dt dtX2_gatherLinked_0 27 rfl) rfl rfl ?_
      refine j_get hG cl_X2 16 0 (cv_16 _ _ _ _) (by decide) fl_X2_34 rfl rfl (dt dtX2_gatherLinked_0 28 rfl) ?_
      refine j_get hG cl_X3 3 1 (cv_3 _ _ _ _) (by decide) fl_X2_68 rfl rfl (dt dtX2_gatherLinked_0 29 rfl) ?_
      refine j_iload_n hG 2 (dt dtX2_gatherLinked_0 30 rfl) rfl rfl ?_
      refine j_zald hG 4 (cv_4 _ _ _ _) h (dt dtX2_gatherLinked_0 31 rfl) (fun v63 h => ?_)
      refine j_if_ne hG (tgt := 129) (dt dtX2_gatherLinked_0 32 rfl) (by decide) h (fun h => ?_) (fun h => ?_)
      · refine j_aload_n hG 0 (dt dtX2_gatherLinked_0 33 rfl) rfl rfl ?_
        refine j_get hG cl_X2 16 1 (cv_16 _ _ _ _) (by decide) fl_X2_38 rfl rfl (dt dtX2_gatherLinked_0 34 rfl) ?_
        refine j_iload_n hG 1 (dt dtX2_gatherLinked_0 35 rfl) rfl rfl ?_
        refine j_iload_n hG 2 (dt dtX2_gatherLinked_0 36 rfl) rfl rfl ?_
        refine j_callVp hG h (V := fun y73 => (some (.int (y73)))) (S := fun y73 => (X, Y, o, dd, td)) (kc := 0) (ks := 0) (fun z hz => ct_X1_kindOf hG.2.2.1 (gB G) _ _ _ _ _ hz) mf_X1_kindOf ml_X2_72 8 (cv_8 _ _ _ _) rfl rfl (rest := []) rfl (Nat.le_of_ble_eq_true rfl) (dt dtX2_gatherLinked_0 37 rfl) (by decide) (by decide) (fun y73 h => ?_)
        refine j_bipush hG (v := 121) (dt dtX2_gatherLinked_0 38 rfl) (by decide) ?_
        refine j_icmp_ne hG (tgt := 129) (dt dtX2_gatherLinked_0 39 rfl) (by decide) h (fun h => ?_) (fun h => ?_)
        · refine j_aload_n hG 0 (dt dtX2_gatherLinked_0 40 rfl) rfl rfl ?_
          refine j_get hG cl_X2 16 4 (cv_16 _ _ _ _) (by decide) fl_X2_15 rfl rfl (dt dtX2_gatherLinked_0 41 rfl) ?_
          refine j_aload_n hG 0 (dt dtX2_gatherLinked_0 42 rfl) rfl rfl ?_
          refine j_get hG cl_X2 16 7 (cv_16 _ _ _ _) (by decide) fl_X2_24 rfl rfl (dt dtX2_gatherLinked_0 43 rfl) ?_
          refine j_iload_n hG 1 (dt dtX2_gatherLinked_0 44 rfl) rfl rfl ?_
          refine j_iast hG 18 (X := X) (k := 18) (fun X => (X, Y, o, dd, td)) (cv_18 _ _ _ _) (fun g => cs_18 _ _ _ _ g) h (dt dtX2_gatherLinked_0 45 rfl) (fun X h => ?_)
          refine j_aload_n hG 0 (dt dtX2_gatherLinked_0 46 rfl) rfl rfl ?_
          refine j_get hG cl_X2 16 5 (cv_16 _ _ _ _) (by decide) fl_X2_18 rfl rfl (dt dtX2_gatherLinked_0 47 rfl) ?_
          refine j_aload_n hG 0 (dt dtX2_gatherLinked_0 48 rfl) rfl rfl ?_
          refine j_get hG cl_X2 16 7 (cv_16 _ _ _ _) (by decide) fl_X2_24 rfl rfl (dt dtX2_gatherLinked_0 49 rfl) ?_
          refine j_iload_n hG 2 (dt dtX2_gatherLinked_0 50 rfl) rfl rfl ?_
          refine j_iast hG 19 (X := X) (k := 19) (fun X => (X, Y, o, dd, td)) (cv_19 _ _ _ _) (fun g => cs_19 _ _ _ _ g) h (dt dtX2_gatherLinked_0 51 rfl) (fun X h => ?_)
          refine j_aload_n hG 0 (dt dtX2_gatherLinked_0 52 rfl) rfl rfl ?_
          refine j_get hG cl_X2 16 6 (cv_16 _ _ _ _) (by decide) fl_X2_21 rfl rfl (dt dtX2_gatherLinked_0 53 rfl) ?_
          refine j_aload_n hG 0 (dt dtX2_gatherLinked_0 54 rfl) rfl rfl ?_
          refine j_get hG cl_X2 16 7 (cv_16 _ _ _ _) (by decide) fl_X2_24 rfl rfl (dt dtX2_gatherLinked_0 55 rfl) ?_
          refine j_aload_n hG 0 (dt dtX2_gatherLinked_0 56 rfl) rfl rfl ?_
          refine j_get hG cl_X2 16 1 (cv_16 _ _ _ _) (by decide) fl_X2_38 rfl rfl (dt dtX2_gatherLinked_0 57 rfl) ?_
          refine j_iload_n hG 1 (dt dtX2_gatherLinked_0 58 rfl) rfl rfl ?_
          refine j_iload_n hG 2 (dt dtX2_gatherLinked_0 59 rfl) rfl rfl ?_
          refine j_callVp hG h (V := fun y115 => (some (.int (y115)))) (S := fun y115 => (X, Y, o, dd, td)) (kc := 0) (ks := 0) (fun z hz => ct_X1_scoreOf hG.2.2.1 (gB G) _ _ _ _ _ hz) mf_X1_scoreOf ml_X2_76 8 (cv_8 _ _ _ _) rfl rfl (rest := [.int ((X 16 7)), .ref (wad (gB G) 20)]) rfl (Nat.le_of_ble_eq_true rfl) (dt dtX2_gatherLinked_1 0 rfl) (by decide) (by decide) (fun y115 h => ?_)
          refine j_iast hG 20 (X := X) (k := 20) (fun X => (X, Y, o, dd, td)) (cv_20 _ _ _ _) (fun g => cs_20 _ _ _ _ g) h (dt dtX2_gatherLinked_1 1 rfl) (fun X h => ?_)
          refine j_aload_n hG 0 (dt dtX2_gatherLinked_1 2 rfl) rfl rfl ?_
          refine j_dup hG (dt dtX2_gatherLinked_1 3 rfl) rfl ?_
          refine j_get hG cl_X2 16 7 (cv_16 _ _ _ _) (by decide) fl_X2_24 rfl rfl (dt dtX2_gatherLinked_1 4 rfl) ?_
          refine j_iconst hG (v := 1) (dt dtX2_gatherLinked_1 5 rfl) (by decide) ?_
          refine j_iadd hG (dt dtX2_gatherLinked_1 6 rfl) ?_
          refine j_put hG cl_X2 16 7 (X := X) (k := 16) (fun X => (X, Y, o, dd, td)) (cv_16 _ _ _ _) (by decide) fl_X2_24 rfl rfl rfl rfl rfl (Nat.le_of_ble_eq_true rfl) (cs_16 _ _ _ _ (upd (X 16) 7 ((X 16 7) + 1))) h (dt dtX2_gatherLinked_1 7 rfl) (fun X h => ?_)
          exact g_f_X2_gatherLinked_129 hG hE hT hk7 hk34 h
        · exact g_f_X2_gatherLinked_129 hG hE hT hk7 hk34 h
      · exact g_f_X2_gatherLinked_129 hG hE hT hk7 hk34 h
    · refine j_lv (lv' := [(0, .ref (wad (gB G) 16)), (1, .int (l1))]) [0, 1] rfl ?_
      exact g_f_X2_gatherLinked_135 hG hE hT hk7 h
  · refine j_lv (lv' := [(0, .ref (wad (gB G) 16)), (1, .int (l1))]) [0, 1] rfl ?_
    exact g_f_X2_gatherLinked_135 hG hE hT hk7 h
set_option maxRecDepth 4000 in
theorem g_f_X2_gatherLinked_34 {G : wG} (hG : wOk G RX2 cX2_gatherLinked 3 3 70) {Y : wM} {o : Int64} {dd : UInt64} {td : wX} {res : (wM)} (hE : wEnd G none (rp none (res, Y, o, dd, td)) xp0) (hT : wNoTab G) {k7 : wM → Int32 → Option (wM)} (hk7 : ∀ (X : wM) (l1 : Int32), k7 X l1 = some res → J G 3 0 0 7 [(0, .ref (wad (gB G) 16)), (1, .int (l1))] [] (X, Y, o, dd, td)) (n : Nat) : ∀ (X : wM) (l1 : Int32) (l2 : Int32), f_X2_gatherLinked_34 k7 n X l1 l2 = some res → J G 3 0 0 34 [(0, .ref (wad (gB G) 16)), (1, .int (l1)), (2, .int (l2))] [] (X, Y, o, dd, td) := by
  induction n with
  | zero => intro X l1 l2 h; cases h
  | succ n ih =>
    intro X l1 l2 h
    exact g_f_X2_gatherLinked_34b hG hE hT hk7 ih h
set_option maxRecDepth 4000 in
theorem g_f_X2_gatherLinked_7b {G : wG} (hG : wOk G RX2 cX2_gatherLinked 3 3 70) {X Y : wM} {o : Int64} {dd : UInt64} {td : wX} {res : (wM)} (hE : wEnd G none (rp none (res, Y, o, dd, td)) xp0) (hT : wNoTab G) {k7 : wM → Int32 → Option (wM)} (hk7 : ∀ (X : wM) (l1 : Int32), k7 X l1 = some res → J G 3 0 0 7 [(0, .ref (wad (gB G) 16)), (1, .int (l1))] [] (X, Y, o, dd, td)) {l1 : Int32} (h : f_X2_gatherLinked_7b k7 X l1 = some res) : J G 3 0 0 7 [(0, .ref (wad (gB G) 16)), (1, .int (l1))] [] (X, Y, o, dd, td) := by
  unfold f_X2_gatherLinked_7b at h
  refine j_iload_n hG 1 (dt dtX2_gatherLinked_0 5 rfl) rfl rfl ?_
  refine j_aload_n hG 0 (dt dtX2_gatherLinked_0 6 rfl) rfl rfl ?_
  refine j_get hG cl_X2 16 0 (cv_16 _ _ _ _) (by decide) fl_X2_34 rfl rfl (dt dtX2_gatherLinked_0 7 rfl) ?_
  refine j_get hG cl_X3 3 5 (cv_3 _ _ _ _) (by decide) fl_X2_59 rfl rfl (dt dtX2_gatherLinked_0 8 rfl) ?_
  refine j_icmp_ge hG (tgt := 141) (dt dtX2_gatherLinked_0 9 rfl) (by decide) h (fun h => ?_) (fun h => ?_)
  · refine j_aload_n hG 0 (dt dtX2_gatherLinked_0 10 rfl) rfl rfl ?_
    refine j_get hG cl_X2 16 2 (cv_16 _ _ _ _) (by decide) fl_X2_42 rfl rfl (dt dtX2_gatherLinked_0 11 rfl) ?_
    refine j_iload_n hG 1 (dt dtX2_gatherLinked_0 12 rfl) rfl rfl ?_
    refine j_callVp hG h (V := fun y23 => (some (.int (y23)))) (S := fun y23 => (X, Y, o, dd, td)) (kc := 0) (ks := 0) (fun z hz => ct_X6_isCounted_10 hG.2.2.1 (gB G) _ _ _ _ _ hz) mf_X6_isCounted ml_X2_62 10 (cv_10 _ _ _ _) rfl rfl (rest := []) rfl (Nat.le_of_ble_eq_true rfl) (dt dtX2_gatherLinked_0 13 rfl) (by decide) (by decide) (fun y23 h => ?_)
    refine j_if_ne hG (tgt := 32) (dt dtX2_gatherLinked_0 14 rfl) (by decide) h (fun h => ?_) (fun h => ?_)
    · refine j_goto hG (tgt := 135) (dt dtX2_gatherLinked_0 15 rfl) (by decide) ?_
      exact g_f_X2_gatherLinked_135 hG hE hT hk7 h
    · refine j_iconst hG (v := 0) (dt dtX2_gatherLinked_0 16 rfl) (by decide) ?_
      refine j_istore_n hG (lv' := [(2, .int (0)), (0, .ref (wad (gB G) 16)), (1, .int (l1))]) (dt dtX2_gatherLinked_0 17 rfl) rfl (by decide) rfl ?_
      refine j_lv (lv' := [(0, .ref (wad (gB G) 16)), (1, .int (l1)), (2, .int (0))]) [1, 2, 0] rfl ?_
      exact g_f_X2_gatherLinked_34 hG hE hT hk7 1000 X l1 (0 : Int32) h
  · obtain rfl := Option.some.inj h
    exact j_vret hG hE ⟨rfl, rfl⟩ (dt dtX2_gatherLinked_1 12 rfl)
set_option maxRecDepth 4000 in
theorem g_f_X2_gatherLinked_7 {G : wG} (hG : wOk G RX2 cX2_gatherLinked 3 3 70) {Y : wM} {o : Int64} {dd : UInt64} {td : wX} {res : (wM)} (hE : wEnd G none (rp none (res, Y, o, dd, td)) xp0) (hT : wNoTab G) (n : Nat) : ∀ (X : wM) (l1 : Int32), f_X2_gatherLinked_7 n X l1 = some res → J G 3 0 0 7 [(0, .ref (wad (gB G) 16)), (1, .int (l1))] [] (X, Y, o, dd, td) := by
  induction n with
  | zero => intro X l1 h; cases h
  | succ n ih =>
    intro X l1 h
    exact g_f_X2_gatherLinked_7b hG hE hT ih h
set_option maxRecDepth 4000 in
theorem g_f_X2_gatherLinked {G : wG} (hG : wOk G RX2 cX2_gatherLinked 3 3 70) {X Y : wM} {o : Int64} {dd : UInt64} {td : wX} {res : (wM)} (hE : wEnd G none (rp none (res, Y, o, dd, td)) xp0) (hT : wNoTab G) (h : f_X2_gatherLinked X = some res) : J G 3 0 0 0 [(0, .ref (wad (gB G) 16))] [] (X, Y, o, dd, td) := by
  unfold f_X2_gatherLinked at h
  refine j_aload_n hG 0 (dt dtX2_gatherLinked_0 0 rfl) rfl rfl ?_
  refine j_iconst hG (v := 0) (dt dtX2_gatherLinked_0 1 rfl) (by decide) ?_
  refine j_put hG cl_X2 16 7 (X := X) (k := 16) (fun X => (X, Y, o, dd, td)) (cv_16 _ _ _ _) (by decide) fl_X2_24 rfl rfl rfl rfl rfl (Nat.le_of_ble_eq_true rfl) (cs_16 _ _ _ _ (upd (X 16) 7 0)) h (dt dtX2_gatherLinked_0 2 rfl) (fun X h => ?_)
  refine j_iconst hG (v := 0) (dt dtX2_gatherLinked_0 3 rfl) (by decide) ?_
  refine j_istore_n hG (lv' := [(1, .int (0)), (0, .ref (wad (gB G) 16))]) (dt dtX2_gatherLinked_0 4 rfl) rfl (by decide) rfl ?_
  refine j_lv (lv' := [(0, .ref (wad (gB G) 16)), (1, .int (0))]) [1, 0] rfl ?_
  exact g_f_X2_gatherLinked_7 hG hE hT 1000 X (0 : Int32) h
theorem ct_X2_gatherLinked {l : Launch} (hl : l.stackTraces = false) (B : wB) (X Y : wM) (o : Int64) (dd : UInt64) (td : wX) {res : (wM)} (h : f_X2_gatherLinked X = some res) : wMet l B yX2_gatherLinked cX2_gatherLinked 3 none 3 70 0 0 [.ref (wad B 16)] (X, Y, o, dd, td) (rp none (res, Y, o, dd, td)) xp0 :=
  wMet.of hl (by decide +kernel) (Nat.le_of_ble_eq_true rfl) (fun G hB hL hG hE hT => by subst hB; exact g_f_X2_gatherLinked hG hE hT h)
def f_X2_takeWithScore_92 (k2 : wM → Int32 → Int32 → Option (wM)) (X : wM) (l1 : Int32) (l2 : Int32) : Option (wM) :=
  wbd (l2 + 1) fun v92 =>
  k2 X l1 v92
def f_X2_takeWithScore_2b (k2 : wM → Int32 → Int32 → Option (wM)) (X : wM) (l1 : Int32) (l2 : Int32) : Option (wM) :=
  (if l2 < (X 16 7) then wget 400 (X 18) l2 fun v15 =>
  wget 400 (X 19) l2 fun v22 =>
  wget 400 (X 20) l2 fun v30 =>
  (if v30 = l1 then wget 40 (X 17) v15 fun v40 =>
  (if v40 = (-1) then wget 40 (X 17) v22 fun v51 =>
  (if v51 = (-1) then wput X 17 40 v15 v22 fun X =>
  wput X 17 40 v22 v15 fun X =>
  wfld X 16 8 ((X 16 8) + 1) fun X =>
  wfld X 16 9 ((X 16 9) + l1) fun X =>
  f_X2_takeWithScore_92 k2 X l1 l2
  else f_X2_takeWithScore_92 k2 X l1 l2)
  else f_X2_takeWithScore_92 k2 X l1 l2)
  else f_X2_takeWithScore_92 k2 X l1 l2)
  else some X)
def f_X2_takeWithScore_2 : Nat → wM → Int32 → Int32 → Option (wM)
  | 0 => fun _ _ _ => none
  | n + 1 => fun X l1 l2 => f_X2_takeWithScore_2b (f_X2_takeWithScore_2 n) X l1 l2
def f_X2_takeWithScore (X : wM) (a1 : Int32) : Option (wM) :=
  f_X2_takeWithScore_2 1000 X a1 (0 : Int32)
set_option maxRecDepth 4000 in
theorem g_f_X2_takeWithScore_92 {G : wG} (hG : wOk G RX2 cX2_takeWithScore 5 0 0) {X Y : wM} {o : Int64} {dd : UInt64} {td : wX} {res : (wM)} (hE : wEnd G none (rp none (res, Y, o, dd, td)) xp0) (hT : wNoTab G) {k2 : wM → Int32 → Int32 → Option (wM)} (hk2 : ∀ (X : wM) (l1 : Int32) (l2 : Int32), k2 X l1 l2 = some res → J G 5 0 0 2 [(0, .ref (wad (gB G) 16)), (1, .int (l1)), (2, .int (l2))] [] (X, Y, o, dd, td)) {l1 : Int32} {l2 : Int32} (h : f_X2_takeWithScore_92 k2 X l1 l2 = some res) : J G 5 0 0 92 [(0, .ref (wad (gB G) 16)), (1, .int (l1)), (2, .int (l2))] [] (X, Y, o, dd, td) := by
  unfold f_X2_takeWithScore_92 at h
  refine j_iincB hG 2 (fun v92 => [(2, .int (v92)), (0, .ref (wad (gB G) 16)), (1, .int (l1))]) (dt dtX2_takeWithScore_0 56 rfl) rfl rfl (by decide) (fun _ => rfl) h (fun v92 h => ?_)
  refine j_goto hG (tgt := 2) (dt dtX2_takeWithScore_0 57 rfl) (by decide) ?_
  refine j_lv (lv' := [(0, .ref (wad (gB G) 16)), (1, .int (l1)), (2, .int (v92))]) [1, 2, 0] rfl ?_
  exact hk2 X l1 v92 h
set_option maxRecDepth 4000 in
theorem g_f_X2_takeWithScore_2b {G : wG} (hG : wOk G RX2 cX2_takeWithScore 5 0 0) {X Y : wM} {o : Int64} {dd : UInt64} {td : wX} {res : (wM)} (hE : wEnd G none (rp none (res, Y, o, dd, td)) xp0) (hT : wNoTab G) {k2 : wM → Int32 → Int32 → Option (wM)} (hk2 : ∀ (X : wM) (l1 : Int32) (l2 : Int32), k2 X l1 l2 = some res → J G 5 0 0 2 [(0, .ref (wad (gB G) 16)), (1, .int (l1)), (2, .int (l2))] [] (X, Y, o, dd, td)) {l1 : Int32} {l2 : Int32} (h : f_X2_takeWithScore_2b k2 X l1 l2 = some res) : J G 5 0 0 2 [(0, .ref (wad (gB G) 16)), (1, .int (l1)), (2, .int (l2))] [] (X, Y, o, dd, td) := by
  unfold f_X2_takeWithScore_2b at h
  refine j_iload_n hG 2 (dt dtX2_takeWithScore_0 2 rfl) rfl rfl ?_
  refine j_aload_n hG 0 (dt dtX2_takeWithScore_0 3 rfl) rfl rfl ?_
  refine j_get hG cl_X2 16 7 (cv_16 _ _ _ _) (by decide) fl_X2_24 rfl rfl (dt dtX2_takeWithScore_0 4 rfl) ?_
  refine j_icmp_ge hG (tgt := 98) (dt dtX2_takeWithScore_0 5 rfl) (by decide) h (fun h => ?_) (fun h => ?_)
  · refine j_aload_n hG 0 (dt dtX2_takeWithScore_0 6 rfl) rfl rfl ?_
    refine j_get hG cl_X2 16 4 (cv_16 _ _ _ _) (by decide) fl_X2_15 rfl rfl (dt dtX2_takeWithScore_0 7 rfl) ?_
    refine j_iload_n hG 2 (dt dtX2_takeWithScore_0 8 rfl) rfl rfl ?_
    refine j_iald hG 18 (cv_18 _ _ _ _) h (dt dtX2_takeWithScore_0 9 rfl) (fun v15 h => ?_)
    refine j_istore_n hG (lv' := [(3, .int (v15)), (0, .ref (wad (gB G) 16)), (1, .int (l1)), (2, .int (l2))]) (dt dtX2_takeWithScore_0 10 rfl) rfl (by decide) rfl ?_
    refine j_aload_n hG 1 (dt dtX2_takeWithScore_0 11 rfl) rfl rfl ?_
    refine j_get hG cl_X2 16 5 (cv_16 _ _ _ _) (by decide) fl_X2_18 rfl rfl (dt dtX2_takeWithScore_0 12 rfl) ?_
    refine j_iload_n hG 3 (dt dtX2_takeWithScore_0 13 rfl) rfl rfl ?_
    refine j_iald hG 19 (cv_19 _ _ _ _) h (dt dtX2_takeWithScore_0 14 rfl) (fun v22 h => ?_)
    refine j_istore hG (lv' := [(4, .int (v22)), (3, .int (v15)), (0, .ref (wad (gB G) 16)), (1, .int (l1)), (2, .int (l2))]) (dt dtX2_takeWithScore_0 15 rfl) (by decide) rfl ?_
    refine j_aload_n hG 2 (dt dtX2_takeWithScore_0 16 rfl) rfl rfl ?_
    refine j_get hG cl_X2 16 6 (cv_16 _ _ _ _) (by decide) fl_X2_21 rfl rfl (dt dtX2_takeWithScore_0 17 rfl) ?_
    refine j_iload_n hG 4 (dt dtX2_takeWithScore_0 18 rfl) rfl rfl ?_
    refine j_iald hG 20 (cv_20 _ _ _ _) h (dt dtX2_takeWithScore_0 19 rfl) (fun v30 h => ?_)
    refine j_iload_n hG 3 (dt dtX2_takeWithScore_0 20 rfl) rfl rfl ?_
    refine j_icmp_ne hG (tgt := 92) (dt dtX2_takeWithScore_0 21 rfl) (by decide) h (fun h => ?_) (fun h => ?_)
    · refine j_aload_n hG 2 (dt dtX2_takeWithScore_0 22 rfl) rfl rfl ?_
      refine j_get hG cl_X2 16 3 (cv_16 _ _ _ _) (by decide) fl_X2_9 rfl rfl (dt dtX2_takeWithScore_0 23 rfl) ?_
      refine j_iload_n hG 1 (dt dtX2_takeWithScore_0 24 rfl) rfl rfl ?_
      refine j_iald hG 17 (cv_17 _ _ _ _) h (dt dtX2_takeWithScore_0 25 rfl) (fun v40 h => ?_)
      refine j_iconst hG (v := (-1)) (dt dtX2_takeWithScore_0 26 rfl) (by decide) ?_
      refine j_icmp_ne hG (tgt := 92) (dt dtX2_takeWithScore_0 27 rfl) (by decide) h (fun h => ?_) (fun h => ?_)
      · refine j_aload_n hG 2 (dt dtX2_takeWithScore_0 28 rfl) rfl rfl ?_
        refine j_get hG cl_X2 16 3 (cv_16 _ _ _ _) (by decide) fl_X2_9 rfl rfl (dt dtX2_takeWithScore_0 29 rfl) ?_
        refine j_iload hG 0 (dt dtX2_takeWithScore_0 30 rfl) rfl ?_
        refine j_iald hG 17 (cv_17 _ _ _ _) h (dt dtX2_takeWithScore_0 31 rfl) (fun v51 h => ?_)
        refine j_iconst hG (v := (-1)) (dt dtX2_takeWithScore_0 32 rfl) (by decide) ?_
        refine j_icmp_ne hG (tgt := 92) (dt dtX2_takeWithScore_0 33 rfl) (by decide) h (fun h => ?_) (fun h => ?_)
        · refine j_aload_n hG 2 (dt dtX2_takeWithScore_0 34 rfl) rfl rfl ?_
          refine j_get hG cl_X2 16 3 (cv_16 _ _ _ _) (by decide) fl_X2_9 rfl rfl (dt dtX2_takeWithScore_0 35 rfl) ?_
          refine j_iload_n hG 1 (dt dtX2_takeWithScore_0 36 rfl) rfl rfl ?_
          refine j_iload hG 0 (dt dtX2_takeWithScore_0 37 rfl) rfl ?_
          refine j_iast hG 17 (X := X) (k := 17) (fun X => (X, Y, o, dd, td)) (cv_17 _ _ _ _) (fun g => cs_17 _ _ _ _ g) h (dt dtX2_takeWithScore_0 38 rfl) (fun X h => ?_)
          refine j_aload_n hG 2 (dt dtX2_takeWithScore_0 39 rfl) rfl rfl ?_
          refine j_get hG cl_X2 16 3 (cv_16 _ _ _ _) (by decide) fl_X2_9 rfl rfl (dt dtX2_takeWithScore_0 40 rfl) ?_
          refine j_iload hG 0 (dt dtX2_takeWithScore_0 41 rfl) rfl ?_
          refine j_iload_n hG 1 (dt dtX2_takeWithScore_0 42 rfl) rfl rfl ?_
          refine j_iast hG 17 (X := X) (k := 17) (fun X => (X, Y, o, dd, td)) (cv_17 _ _ _ _) (fun g => cs_17 _ _ _ _ g) h (dt dtX2_takeWithScore_0 43 rfl) (fun X h => ?_)
          refine j_aload_n hG 2 (dt dtX2_takeWithScore_0 44 rfl) rfl rfl ?_
          refine j_dup hG (dt dtX2_takeWithScore_0 45 rfl) rfl ?_
          refine j_get hG cl_X2 16 8 (cv_16 _ _ _ _) (by decide) fl_X2_28 rfl rfl (dt dtX2_takeWithScore_0 46 rfl) ?_
          refine j_iconst hG (v := 1) (dt dtX2_takeWithScore_0 47 rfl) (by decide) ?_
          refine j_iadd hG (dt dtX2_takeWithScore_0 48 rfl) ?_
          refine j_put hG cl_X2 16 8 (X := X) (k := 16) (fun X => (X, Y, o, dd, td)) (cv_16 _ _ _ _) (by decide) fl_X2_28 rfl rfl rfl rfl rfl (Nat.le_of_ble_eq_true rfl) (cs_16 _ _ _ _ (upd (X 16) 8 ((X 16 8) + 1))) h (dt dtX2_takeWithScore_0 49 rfl) (fun X h => ?_)
          refine j_aload_n hG 2 (dt dtX2_takeWithScore_0 50 rfl) rfl rfl ?_
          refine j_dup hG (dt dtX2_takeWithScore_0 51 rfl) rfl ?_
          refine j_get hG cl_X2 16 9 (cv_16 _ _ _ _) (by decide) fl_X2_31 rfl rfl (dt dtX2_takeWithScore_0 52 rfl) ?_
          refine j_iload_n hG 3 (dt dtX2_takeWithScore_0 53 rfl) rfl rfl ?_
          refine j_iadd hG (dt dtX2_takeWithScore_0 54 rfl) ?_
          refine j_put hG cl_X2 16 9 (X := X) (k := 16) (fun X => (X, Y, o, dd, td)) (cv_16 _ _ _ _) (by decide) fl_X2_31 rfl rfl rfl rfl rfl (Nat.le_of_ble_eq_true rfl) (cs_16 _ _ _ _ (upd (X 16) 9 ((X 16 9) + l1))) h (dt dtX2_takeWithScore_0 55 rfl) (fun X h => ?_)
          refine j_lv (lv' := [(0, .ref (wad (gB G) 16)), (1, .int (l1)), (2, .int (l2))]) [2, 3, 4] rfl ?_
          exact g_f_X2_takeWithScore_92 hG hE hT hk2 h
        · refine j_lv (lv' := [(0, .ref (wad (gB G) 16)), (1, .int (l1)), (2, .int (l2))]) [2, 3, 4] rfl ?_
          exact g_f_X2_takeWithScore_92 hG hE hT hk2 h
      · refine j_lv (lv' := [(0, .ref (wad (gB G) 16)), (1, .int (l1)), (2, .int (l2))]) [2, 3, 4] rfl ?_
        exact g_f_X2_takeWithScore_92 hG hE hT hk2 h
    · refine j_lv (lv' := [(0, .ref (wad (gB G) 16)), (1, .int (l1)), (2, .int (l2))]) [2, 3, 4] rfl ?_
      exact g_f_X2_takeWithScore_92 hG hE hT hk2 h
  · obtain rfl := Option.some.inj h
    exact j_vret hG hE ⟨rfl, rfl⟩ (dt dtX2_takeWithScore_0 58 rfl)
set_option maxRecDepth 4000 in
theorem g_f_X2_takeWithScore_2 {G : wG} (hG : wOk G RX2 cX2_takeWithScore 5 0 0) {Y : wM} {o : Int64} {dd : UInt64} {td : wX} {res : (wM)} (hE : wEnd G none (rp none (res, Y, o, dd, td)) xp0) (hT : wNoTab G) (n : Nat) : ∀ (X : wM) (l1 : Int32) (l2 : Int32), f_X2_takeWithScore_2 n X l1 l2 = some res → J G 5 0 0 2 [(0, .ref (wad (gB G) 16)), (1, .int (l1)), (2, .int (l2))] [] (X, Y, o, dd, td) := by
  induction n with
  | zero => intro X l1 l2 h; cases h
  | succ n ih =>
    intro X l1 l2 h
    exact g_f_X2_takeWithScore_2b hG hE hT ih h
set_option maxRecDepth 4000 in
theorem g_f_X2_takeWithScore {G : wG} (hG : wOk G RX2 cX2_takeWithScore 5 0 0) {X Y : wM} {o : Int64} {dd : UInt64} {td : wX} {res : (wM)} (hE : wEnd G none (rp none (res, Y, o, dd, td)) xp0) (hT : wNoTab G) {a1 : Int32} (h : f_X2_takeWithScore X a1 = some res) : J G 5 0 0 0 [(0, .ref (wad (gB G) 16)), (1, .int (a1))] [] (X, Y, o, dd, td) := by
  unfold f_X2_takeWithScore at h
  refine j_iconst hG (v := 0) (dt dtX2_takeWithScore_0 0 rfl) (by decide) ?_
  refine j_istore_n hG (lv' := [(2, .int (0)), (0, .ref (wad (gB G) 16)), (1, .int (a1))]) (dt dtX2_takeWithScore_0 1 rfl) rfl (by decide) rfl ?_
  refine j_lv (lv' := [(0, .ref (wad (gB G) 16)), (1, .int (a1)), (2, .int (0))]) [1, 2, 0] rfl ?_
  exact g_f_X2_takeWithScore_2 hG hE hT 1000 X a1 (0 : Int32) h
theorem ct_X2_takeWithScore {l : Launch} (hl : l.stackTraces = false) (B : wB) (X Y : wM) (o : Int64) (dd : UInt64) (td : wX) {a1 : Int32} {res : (wM)} (h : f_X2_takeWithScore X a1 = some res) : wMet l B yX2_takeWithScore cX2_takeWithScore 5 none 0 0 0 0 [.ref (wad B 16), .int (a1)] (X, Y, o, dd, td) (rp none (res, Y, o, dd, td)) xp0 :=
  wMet.of hl (by decide +kernel) (Nat.le_of_ble_eq_true rfl) (fun G hB hL hG hE hT => by subst hB; exact g_f_X2_takeWithScore hG hE hT h)
def f_X2_renew_43b (k43 : wM → Int32 → Option (wM)) (X : wM) (l1 : Int32) : Option (wM) :=
  (if l1 < 0 then some X
  else (f_X2_takeWithScore X l1).bind fun y49 =>
  wbd (l1 + (-1)) fun v52 =>
  k43 y49 v52)
def f_X2_renew_43 : Nat → wM → Int32 → Option (wM)
  | 0 => fun _ _ => none
  | n + 1 => fun X l1 => f_X2_renew_43b (f_X2_renew_43 n) X l1
def f_X2_renew_2b (k2 : wM → Int32 → Option (wM)) (X : wM) (l1 : Int32) : Option (wM) :=
  (if l1 < 40 then wput X 17 40 l1 (-1) fun X =>
  wbd (l1 + 1) fun v15 =>
  k2 X v15
  else wfld X 16 8 0 fun X =>
  wfld X 16 9 0 fun X =>
  (f_X2_gatherLinked X).bind fun y32 =>
  (f_X1_bestScore y32).bind fun y39 =>
  f_X2_renew_43 1000 y32 y39)
def f_X2_renew_2 : Nat → wM → Int32 → Option (wM)
  | 0 => fun _ _ => none
  | n + 1 => fun X l1 => f_X2_renew_2b (f_X2_renew_2 n) X l1
def f_X2_renew (X : wM) : Option (wM) :=
  f_X2_renew_2 1000 X (0 : Int32)
set_option maxRecDepth 4000 in
theorem g_f_X2_renew_43b {G : wG} (hG : wOk G RX2 cX2_renew 2 4 92) {X Y : wM} {o : Int64} {dd : UInt64} {td : wX} {res : (wM)} (hE : wEnd G none (rp none (res, Y, o, dd, td)) xp0) (hT : wNoTab G) {k43 : wM → Int32 → Option (wM)} (hk43 : ∀ (X : wM) (l1 : Int32), k43 X l1 = some res → J G 2 0 0 43 [(0, .ref (wad (gB G) 16)), (1, .int (l1))] [] (X, Y, o, dd, td)) {l1 : Int32} (h : f_X2_renew_43b k43 X l1 = some res) : J G 2 0 0 43 [(0, .ref (wad (gB G) 16)), (1, .int (l1))] [] (X, Y, o, dd, td) := by
  unfold f_X2_renew_43b at h
  refine j_iload_n hG 1 (dt dtX2_renew_0 24 rfl) rfl rfl ?_
  refine j_if_lt hG (tgt := 58) (dt dtX2_renew_0 25 rfl) (by decide) h (fun h => ?_) (fun h => ?_)
  · obtain rfl := Option.some.inj h
    exact j_vret hG hE ⟨rfl, rfl⟩ (dt dtX2_renew_0 31 rfl)
  · refine j_aload_n hG 0 (dt dtX2_renew_0 26 rfl) rfl rfl ?_
    refine j_iload_n hG 1 (dt dtX2_renew_0 27 rfl) rfl rfl ?_
    refine j_callVp hG h (V := fun y49 => none) (S := fun y49 => (y49, Y, o, dd, td)) (kc := 0) (ks := 0) (fun z hz => ct_X2_takeWithScore hG.2.2.1 (gB G) _ _ _ _ _ hz) mf_X2_takeWithScore ml_X2_55 16 (cv_16 _ _ _ _) rfl rfl (rest := []) rfl (Nat.le_of_ble_eq_true rfl) (dt dtX2_renew_0 28 rfl) (by decide) (by decide) (fun y49 h => ?_)
    refine j_iincB hG 1 (fun v52 => [(1, .int (v52)), (0, .ref (wad (gB G) 16))]) (dt dtX2_renew_0 29 rfl) rfl rfl (by decide) (fun _ => rfl) h (fun v52 h => ?_)
    refine j_goto hG (tgt := 43) (dt dtX2_renew_0 30 rfl) (by decide) ?_
    refine j_lv (lv' := [(0, .ref (wad (gB G) 16)), (1, .int (v52))]) [1, 0] rfl ?_
    exact hk43 y49 v52 h
set_option maxRecDepth 4000 in
theorem g_f_X2_renew_43 {G : wG} (hG : wOk G RX2 cX2_renew 2 4 92) {Y : wM} {o : Int64} {dd : UInt64} {td : wX} {res : (wM)} (hE : wEnd G none (rp none (res, Y, o, dd, td)) xp0) (hT : wNoTab G) (n : Nat) : ∀ (X : wM) (l1 : Int32), f_X2_renew_43 n X l1 = some res → J G 2 0 0 43 [(0, .ref (wad (gB G) 16)), (1, .int (l1))] [] (X, Y, o, dd, td) := by
  induction n with
  | zero => intro X l1 h; cases h
  | succ n ih =>
    intro X l1 h
    exact g_f_X2_renew_43b hG hE hT ih h
set_option maxRecDepth 4000 in
theorem g_f_X2_renew_2b {G : wG} (hG : wOk G RX2 cX2_renew 2 4 92) {X Y : wM} {o : Int64} {dd : UInt64} {td : wX} {res : (wM)} (hE : wEnd G none (rp none (res, Y, o, dd, td)) xp0) (hT : wNoTab G) {k2 : wM → Int32 → Option (wM)} (hk2 : ∀ (X : wM) (l1 : Int32), k2 X l1 = some res → J G 2 0 0 2 [(0, .ref (wad (gB G) 16)), (1, .int (l1))] [] (X, Y, o, dd, td)) {l1 : Int32} (h : f_X2_renew_2b k2 X l1 = some res) : J G 2 0 0 2 [(0, .ref (wad (gB G) 16)), (1, .int (l1))] [] (X, Y, o, dd, td) := by
  unfold f_X2_renew_2b at h
  refine j_iload_n hG 1 (dt dtX2_renew_0 2 rfl) rfl rfl ?_
  refine j_bipush hG (v := 40) (dt dtX2_renew_0 3 rfl) (by decide) ?_
  refine j_icmp_ge hG (tgt := 21) (dt dtX2_renew_0 4 rfl) (by decide) h (fun h => ?_) (fun h => ?_)
  · refine j_aload_n hG 0 (dt dtX2_renew_0 5 rfl) rfl rfl ?_
    refine j_get hG cl_X2 16 3 (cv_16 _ _ _ _) (by decide) fl_X2_9 rfl rfl (dt dtX2_renew_0 6 rfl) ?_
    refine j_iload_n hG 1 (dt dtX2_renew_0 7 rfl) rfl rfl ?_
    refine j_iconst hG (v := (-1)) (dt dtX2_renew_0 8 rfl) (by decide) ?_
    refine j_iast hG 17 (X := X) (k := 17) (fun X => (X, Y, o, dd, td)) (cv_17 _ _ _ _) (fun g => cs_17 _ _ _ _ g) h (dt dtX2_renew_0 9 rfl) (fun X h => ?_)
    refine j_iincB hG 1 (fun v15 => [(1, .int (v15)), (0, .ref (wad (gB G) 16))]) (dt dtX2_renew_0 10 rfl) rfl rfl (by decide) (fun _ => rfl) h (fun v15 h => ?_)
    refine j_goto hG (tgt := 2) (dt dtX2_renew_0 11 rfl) (by decide) ?_
    refine j_lv (lv' := [(0, .ref (wad (gB G) 16)), (1, .int (v15))]) [1, 0] rfl ?_
    exact hk2 X v15 h
  · refine j_aload_n hG 0 (dt dtX2_renew_0 12 rfl) rfl rfl ?_
    refine j_iconst hG (v := 0) (dt dtX2_renew_0 13 rfl) (by decide) ?_
    refine j_put hG cl_X2 16 8 (X := X) (k := 16) (fun X => (X, Y, o, dd, td)) (cv_16 _ _ _ _) (by decide) fl_X2_28 rfl rfl rfl rfl rfl (Nat.le_of_ble_eq_true rfl) (cs_16 _ _ _ _ (upd (X 16) 8 0)) h (dt dtX2_renew_0 14 rfl) (fun X h => ?_)
    refine j_aload_n hG 0 (dt dtX2_renew_0 15 rfl) rfl rfl ?_
    refine j_iconst hG (v := 0) (dt dtX2_renew_0 16 rfl) (by decide) ?_
    refine j_put hG cl_X2 16 9 (X := X) (k := 16) (fun X => (X, Y, o, dd, td)) (cv_16 _ _ _ _) (by decide) fl_X2_31 rfl rfl rfl rfl rfl (Nat.le_of_ble_eq_true rfl) (cs_16 _ _ _ _ (upd (X 16) 9 0)) h (dt dtX2_renew_0 17 rfl) (fun X h => ?_)
    refine j_aload_n hG 0 (dt dtX2_renew_0 18 rfl) rfl rfl ?_
    refine j_callVp hG h (V := fun y32 => none) (S := fun y32 => (y32, Y, o, dd, td)) (kc := 0) (ks := 0) (fun z hz => ct_X2_gatherLinked hG.2.2.1 (gB G) _ _ _ _ _ hz) mf_X2_gatherLinked ml_X2_46 16 (cv_16 _ _ _ _) rfl rfl (rest := []) rfl (Nat.le_of_ble_eq_true rfl) (dt dtX2_renew_0 19 rfl) (by decide) (by decide) (fun y32 h => ?_)
    refine j_aload_n hG 0 (dt dtX2_renew_0 20 rfl) rfl rfl ?_
    refine j_get hG cl_X2 16 1 (cv_16 _ _ _ _) (by decide) fl_X2_38 rfl rfl (dt dtX2_renew_0 21 rfl) ?_
    refine j_callVp hG h (V := fun y39 => (some (.int (y39)))) (S := fun y39 => (y32, Y, o, dd, td)) (kc := 0) (ks := 0) (fun z hz => ct_X1_bestScore hG.2.2.1 (gB G) _ _ _ _ _ hz) mf_X1_bestScore ml_X2_49 8 (cv_8 _ _ _ _) rfl rfl (rest := []) rfl (Nat.le_of_ble_eq_true rfl) (dt dtX2_renew_0 22 rfl) (by decide) (by decide) (fun y39 h => ?_)
    refine j_istore_n hG (lv' := [(1, .int (y39)), (0, .ref (wad (gB G) 16))]) (dt dtX2_renew_0 23 rfl) rfl (by decide) rfl ?_
    refine j_lv (lv' := [(0, .ref (wad (gB G) 16)), (1, .int (y39))]) [1, 0] rfl ?_
    exact g_f_X2_renew_43 hG hE hT 1000 y32 y39 h
set_option maxRecDepth 4000 in
theorem g_f_X2_renew_2 {G : wG} (hG : wOk G RX2 cX2_renew 2 4 92) {Y : wM} {o : Int64} {dd : UInt64} {td : wX} {res : (wM)} (hE : wEnd G none (rp none (res, Y, o, dd, td)) xp0) (hT : wNoTab G) (n : Nat) : ∀ (X : wM) (l1 : Int32), f_X2_renew_2 n X l1 = some res → J G 2 0 0 2 [(0, .ref (wad (gB G) 16)), (1, .int (l1))] [] (X, Y, o, dd, td) := by
  induction n with
  | zero => intro X l1 h; cases h
  | succ n ih =>
    intro X l1 h
    exact g_f_X2_renew_2b hG hE hT ih h
set_option maxRecDepth 4000 in
theorem g_f_X2_renew {G : wG} (hG : wOk G RX2 cX2_renew 2 4 92) {X Y : wM} {o : Int64} {dd : UInt64} {td : wX} {res : (wM)} (hE : wEnd G none (rp none (res, Y, o, dd, td)) xp0) (hT : wNoTab G) (h : f_X2_renew X = some res) : J G 2 0 0 0 [(0, .ref (wad (gB G) 16))] [] (X, Y, o, dd, td) := by
  unfold f_X2_renew at h
  refine j_iconst hG (v := 0) (dt dtX2_renew_0 0 rfl) (by decide) ?_
  refine j_istore_n hG (lv' := [(1, .int (0)), (0, .ref (wad (gB G) 16))]) (dt dtX2_renew_0 1 rfl) rfl (by decide) rfl ?_
  refine j_lv (lv' := [(0, .ref (wad (gB G) 16)), (1, .int (0))]) [1, 0] rfl ?_
  exact g_f_X2_renew_2 hG hE hT 1000 X (0 : Int32) h
theorem ct_X2_renew {l : Launch} (hl : l.stackTraces = false) (B : wB) (X Y : wM) (o : Int64) (dd : UInt64) (td : wX) {res : (wM)} (h : f_X2_renew X = some res) : wMet l B yX2_renew cX2_renew 2 none 4 92 0 0 [.ref (wad B 16)] (X, Y, o, dd, td) (rp none (res, Y, o, dd, td)) xp0 :=
  wMet.of hl (by decide +kernel) (Nat.le_of_ble_eq_true rfl) (fun G hB hL hG hE hT => by subst hB; exact g_f_X2_renew hG hE hT h)
def f_X6_isCounted_13_26 (X : wM) (s0 : Int32) : Option (Int32) :=
  wgd (wokN .boolean s0) (some s0)
def f_X6_isCounted_13_25 (X : wM) : Option (Int32) :=
  f_X6_isCounted_13_26 X (0 : Int32)
def f_X6_isCounted_13 (X : wM) (a1 : Int32) : Option (Int32) :=
  wget 40 (X 4) a1 fun v8 =>
  (if v8 = 0 then f_X6_isCounted_13_25 X
  else wget 40 (X 14) a1 fun v17 =>
  (if v17 = 0 then f_X6_isCounted_13_26 X (1 : Int32)
  else f_X6_isCounted_13_25 X))
set_option maxRecDepth 4000 in
theorem g_f_X6_isCounted_13_26 {G : wG} (hG : wOk G RX6 cX6_isCounted 2 0 0) {X Y : wM} {o : Int64} {dd : UInt64} {td : wX} {res : (Int32)} (hE : wEnd G (some .boolean) (rp (some (.int (res))) (X, Y, o, dd, td)) xp0) (hT : wNoTab G) {s0 : Int32} (h : f_X6_isCounted_13_26 X s0 = some res) : J G 2 0 0 26 [] [.int (s0)] (X, Y, o, dd, td) := by
  unfold f_X6_isCounted_13_26 at h
  obtain ⟨c26, h⟩ := wgd_ok h
  obtain rfl := Option.some.inj h
  exact j_zret hG hE (wokN_ok c26) ⟨rfl, rfl⟩ (dt dtX6_isCounted_0 14 rfl)
set_option maxRecDepth 4000 in
theorem g_f_X6_isCounted_13_25 {G : wG} (hG : wOk G RX6 cX6_isCounted 2 0 0) {X Y : wM} {o : Int64} {dd : UInt64} {td : wX} {res : (Int32)} (hE : wEnd G (some .boolean) (rp (some (.int (res))) (X, Y, o, dd, td)) xp0) (hT : wNoTab G) (h : f_X6_isCounted_13_25 X = some res) : J G 2 0 0 25 [] [] (X, Y, o, dd, td) := by
  unfold f_X6_isCounted_13_25 at h
  refine j_iconst hG (v := 0) (dt dtX6_isCounted_0 13 rfl) (by decide) ?_
  exact g_f_X6_isCounted_13_26 hG hE hT h
set_option maxRecDepth 4000 in
theorem g_f_X6_isCounted_13 {G : wG} (hG : wOk G RX6 cX6_isCounted 2 0 0) {X Y : wM} {o : Int64} {dd : UInt64} {td : wX} {res : (Int32)} (hE : wEnd G (some .boolean) (rp (some (.int (res))) (X, Y, o, dd, td)) xp0) (hT : wNoTab G) {a1 : Int32} (h : f_X6_isCounted_13 X a1 = some res) : J G 2 0 0 0 [(0, .ref (wad (gB G) 13)), (1, .int (a1))] [] (X, Y, o, dd, td) := by
  unfold f_X6_isCounted_13 at h
  refine j_aload_n hG 0 (dt dtX6_isCounted_0 0 rfl) rfl rfl ?_
  refine j_get hG cl_X6 13 0 (cv_13 _ _ _ _) (by decide) fl_X6_26 rfl rfl (dt dtX6_isCounted_0 1 rfl) ?_
  refine j_get hG cl_X3 3 1 (cv_3 _ _ _ _) (by decide) fl_X6_39 rfl rfl (dt dtX6_isCounted_0 2 rfl) ?_
  refine j_iload_n hG 1 (dt dtX6_isCounted_0 3 rfl) rfl rfl ?_
  refine j_zald hG 4 (cv_4 _ _ _ _) h (dt dtX6_isCounted_0 4 rfl) (fun v8 h => ?_)
  refine j_if_eq hG (tgt := 25) (dt dtX6_isCounted_0 5 rfl) (by decide) h (fun h => ?_) (fun h => ?_)
  · refine j_lv (lv' := []) [] rfl ?_
    exact g_f_X6_isCounted_13_25 hG hE hT h
  · refine j_aload_n hG 0 (dt dtX6_isCounted_0 6 rfl) rfl rfl ?_
    refine j_get hG cl_X6 13 2 (cv_13 _ _ _ _) (by decide) fl_X6_9 rfl rfl (dt dtX6_isCounted_0 7 rfl) ?_
    refine j_iload_n hG 1 (dt dtX6_isCounted_0 8 rfl) rfl rfl ?_
    refine j_zald hG 14 (cv_14 _ _ _ _) h (dt dtX6_isCounted_0 9 rfl) (fun v17 h => ?_)
    refine j_if_ne hG (tgt := 25) (dt dtX6_isCounted_0 10 rfl) (by decide) h (fun h => ?_) (fun h => ?_)
    · refine j_iconst hG (v := 1) (dt dtX6_isCounted_0 11 rfl) (by decide) ?_
      refine j_goto hG (tgt := 26) (dt dtX6_isCounted_0 12 rfl) (by decide) ?_
      refine j_lv (lv' := []) [] rfl ?_
      exact g_f_X6_isCounted_13_26 hG hE hT h
    · refine j_lv (lv' := []) [] rfl ?_
      exact g_f_X6_isCounted_13_25 hG hE hT h
theorem ct_X6_isCounted_13 {l : Launch} (hl : l.stackTraces = false) (B : wB) (X Y : wM) (o : Int64) (dd : UInt64) (td : wX) {a1 : Int32} {res : (Int32)} (h : f_X6_isCounted_13 X a1 = some res) : wMet l B yX6_isCounted cX6_isCounted 2 (some .boolean) 0 0 0 0 [.ref (wad B 13), .int (a1)] (X, Y, o, dd, td) (rp (some (.int (res))) (X, Y, o, dd, td)) xp0 :=
  wMet.of hl (by decide +kernel) (Nat.le_of_ble_eq_true rfl) (fun G hB hL hG hE hT => by subst hB; exact g_f_X6_isCounted_13 hG hE hT h)
def f_X6_repeatsEarlier_13_31 (k2 : Int32 → Int32 → Option (Int32)) (X : wM) (l1 : Int32) (l2 : Int32) : Option (Int32) :=
  wbd (l2 + 1) fun v31 =>
  k2 l1 v31
def f_X6_repeatsEarlier_13_2b (k2 : Int32 → Int32 → Option (Int32)) (X : wM) (l1 : Int32) (l2 : Int32) : Option (Int32) :=
  (if l2 < l1 then (f_X6_isCounted_13 X l2).bind fun y9 =>
  (if y9 = 0 then f_X6_repeatsEarlier_13_31 k2 X l1 l2
  else (f_X1_kindOf X l2 l1).bind fun y21 =>
  (if y21 = 121 then some 1
  else f_X6_repeatsEarlier_13_31 k2 X l1 l2))
  else some 0)
def f_X6_repeatsEarlier_13_2 (X : wM) : Nat → Int32 → Int32 → Option (Int32)
  | 0 => fun _ _ => none
  | n + 1 => fun l1 l2 => f_X6_repeatsEarlier_13_2b (f_X6_repeatsEarlier_13_2 X n) X l1 l2
def f_X6_repeatsEarlier_13 (X : wM) (a1 : Int32) : Option (Int32) :=
  f_X6_repeatsEarlier_13_2 X 1000 a1 (0 : Int32)
set_option maxRecDepth 4000 in
theorem g_f_X6_repeatsEarlier_13_31 {G : wG} (hG : wOk G RX6 cX6_repeatsEarlier 3 3 70) {X Y : wM} {o : Int64} {dd : UInt64} {td : wX} {res : (Int32)} (hE : wEnd G (some .boolean) (rp (some (.int (res))) (X, Y, o, dd, td)) xp0) (hT : wNoTab G) {k2 : Int32 → Int32 → Option (Int32)} (hk2 : ∀ (l1 : Int32) (l2 : Int32), k2 l1 l2 = some res → J G 3 0 0 2 [(0, .ref (wad (gB G) 13)), (1, .int (l1)), (2, .int (l2))] [] (X, Y, o, dd, td)) {l1 : Int32} {l2 : Int32} (h : f_X6_repeatsEarlier_13_31 k2 X l1 l2 = some res) : J G 3 0 0 31 [(0, .ref (wad (gB G) 13)), (1, .int (l1)), (2, .int (l2))] [] (X, Y, o, dd, td) := by
  unfold f_X6_repeatsEarlier_13_31 at h
  refine j_iincB hG 2 (fun v31 => [(2, .int (v31)), (0, .ref (wad (gB G) 13)), (1, .int (l1))]) (dt dtX6_repeatsEarlier_0 18 rfl) rfl rfl (by decide) (fun _ => rfl) h (fun v31 h => ?_)
  refine j_goto hG (tgt := 2) (dt dtX6_repeatsEarlier_0 19 rfl) (by decide) ?_
  refine j_lv (lv' := [(0, .ref (wad (gB G) 13)), (1, .int (l1)), (2, .int (v31))]) [1, 2, 0] rfl ?_
  exact hk2 l1 v31 h
set_option maxRecDepth 4000 in
theorem g_f_X6_repeatsEarlier_13_2b {G : wG} (hG : wOk G RX6 cX6_repeatsEarlier 3 3 70) {X Y : wM} {o : Int64} {dd : UInt64} {td : wX} {res : (Int32)} (hE : wEnd G (some .boolean) (rp (some (.int (res))) (X, Y, o, dd, td)) xp0) (hT : wNoTab G) {k2 : Int32 → Int32 → Option (Int32)} (hk2 : ∀ (l1 : Int32) (l2 : Int32), k2 l1 l2 = some res → J G 3 0 0 2 [(0, .ref (wad (gB G) 13)), (1, .int (l1)), (2, .int (l2))] [] (X, Y, o, dd, td)) {l1 : Int32} {l2 : Int32} (h : f_X6_repeatsEarlier_13_2b k2 X l1 l2 = some res) : J G 3 0 0 2 [(0, .ref (wad (gB G) 13)), (1, .int (l1)), (2, .int (l2))] [] (X, Y, o, dd, td) := by
  unfold f_X6_repeatsEarlier_13_2b at h
  refine j_iload_n hG 2 (dt dtX6_repeatsEarlier_0 2 rfl) rfl rfl ?_
  refine j_iload_n hG 1 (dt dtX6_repeatsEarlier_0 3 rfl) rfl rfl ?_
  refine j_icmp_ge hG (tgt := 37) (dt dtX6_repeatsEarlier_0 4 rfl) (by decide) h (fun h => ?_) (fun h => ?_)
  · refine j_aload_n hG 0 (dt dtX6_repeatsEarlier_0 5 rfl) rfl rfl ?_
    refine j_iload_n hG 2 (dt dtX6_repeatsEarlier_0 6 rfl) rfl rfl ?_
    refine j_callVp hG h (V := fun y9 => (some (.int (y9)))) (S := fun y9 => (X, Y, o, dd, td)) (kc := 0) (ks := 0) (fun z hz => ct_X6_isCounted_13 hG.2.2.1 (gB G) _ _ _ _ _ hz) mf_X6_isCounted ml_X6_53 13 (cv_13 _ _ _ _) rfl rfl (rest := []) rfl (Nat.le_of_ble_eq_true rfl) (dt dtX6_repeatsEarlier_0 7 rfl) (by decide) (by decide) (fun y9 h => ?_)
    refine j_if_eq hG (tgt := 31) (dt dtX6_repeatsEarlier_0 8 rfl) (by decide) h (fun h => ?_) (fun h => ?_)
    · exact g_f_X6_repeatsEarlier_13_31 hG hE hT hk2 h
    · refine j_aload_n hG 0 (dt dtX6_repeatsEarlier_0 9 rfl) rfl rfl ?_
      refine j_get hG cl_X6 13 1 (cv_13 _ _ _ _) (by decide) fl_X6_30 rfl rfl (dt dtX6_repeatsEarlier_0 10 rfl) ?_
      refine j_iload_n hG 2 (dt dtX6_repeatsEarlier_0 11 rfl) rfl rfl ?_
      refine j_iload_n hG 1 (dt dtX6_repeatsEarlier_0 12 rfl) rfl rfl ?_
      refine j_callVp hG h (V := fun y21 => (some (.int (y21)))) (S := fun y21 => (X, Y, o, dd, td)) (kc := 0) (ks := 0) (fun z hz => ct_X1_kindOf hG.2.2.1 (gB G) _ _ _ _ _ hz) mf_X1_kindOf ml_X6_56 8 (cv_8 _ _ _ _) rfl rfl (rest := []) rfl (Nat.le_of_ble_eq_true rfl) (dt dtX6_repeatsEarlier_0 13 rfl) (by decide) (by decide) (fun y21 h => ?_)
      refine j_bipush hG (v := 121) (dt dtX6_repeatsEarlier_0 14 rfl) (by decide) ?_
      refine j_icmp_ne hG (tgt := 31) (dt dtX6_repeatsEarlier_0 15 rfl) (by decide) h (fun h => ?_) (fun h => ?_)
      · refine j_iconst hG (v := 1) (dt dtX6_repeatsEarlier_0 16 rfl) (by decide) ?_
        obtain rfl := Option.some.inj h
        exact j_zret hG hE (by decide) ⟨rfl, rfl⟩ (dt dtX6_repeatsEarlier_0 17 rfl)
      · exact g_f_X6_repeatsEarlier_13_31 hG hE hT hk2 h
  · refine j_iconst hG (v := 0) (dt dtX6_repeatsEarlier_0 20 rfl) (by decide) ?_
    obtain rfl := Option.some.inj h
    exact j_zret hG hE (by decide) ⟨rfl, rfl⟩ (dt dtX6_repeatsEarlier_0 21 rfl)
set_option maxRecDepth 4000 in
theorem g_f_X6_repeatsEarlier_13_2 {G : wG} (hG : wOk G RX6 cX6_repeatsEarlier 3 3 70) {X : wM} {Y : wM} {o : Int64} {dd : UInt64} {td : wX} {res : (Int32)} (hE : wEnd G (some .boolean) (rp (some (.int (res))) (X, Y, o, dd, td)) xp0) (hT : wNoTab G) (n : Nat) : ∀ (l1 : Int32) (l2 : Int32), f_X6_repeatsEarlier_13_2 X n l1 l2 = some res → J G 3 0 0 2 [(0, .ref (wad (gB G) 13)), (1, .int (l1)), (2, .int (l2))] [] (X, Y, o, dd, td) := by
  induction n with
  | zero => intro l1 l2 h; cases h
  | succ n ih =>
    intro l1 l2 h
    exact g_f_X6_repeatsEarlier_13_2b hG hE hT ih h
set_option maxRecDepth 4000 in
theorem g_f_X6_repeatsEarlier_13 {G : wG} (hG : wOk G RX6 cX6_repeatsEarlier 3 3 70) {X Y : wM} {o : Int64} {dd : UInt64} {td : wX} {res : (Int32)} (hE : wEnd G (some .boolean) (rp (some (.int (res))) (X, Y, o, dd, td)) xp0) (hT : wNoTab G) {a1 : Int32} (h : f_X6_repeatsEarlier_13 X a1 = some res) : J G 3 0 0 0 [(0, .ref (wad (gB G) 13)), (1, .int (a1))] [] (X, Y, o, dd, td) := by
  unfold f_X6_repeatsEarlier_13 at h
  refine j_iconst hG (v := 0) (dt dtX6_repeatsEarlier_0 0 rfl) (by decide) ?_
  refine j_istore_n hG (lv' := [(2, .int (0)), (0, .ref (wad (gB G) 13)), (1, .int (a1))]) (dt dtX6_repeatsEarlier_0 1 rfl) rfl (by decide) rfl ?_
  refine j_lv (lv' := [(0, .ref (wad (gB G) 13)), (1, .int (a1)), (2, .int (0))]) [1, 2, 0] rfl ?_
  exact g_f_X6_repeatsEarlier_13_2 hG hE hT 1000 a1 (0 : Int32) h
theorem ct_X6_repeatsEarlier_13 {l : Launch} (hl : l.stackTraces = false) (B : wB) (X Y : wM) (o : Int64) (dd : UInt64) (td : wX) {a1 : Int32} {res : (Int32)} (h : f_X6_repeatsEarlier_13 X a1 = some res) : wMet l B yX6_repeatsEarlier cX6_repeatsEarlier 3 (some .boolean) 3 70 0 0 [.ref (wad B 13), .int (a1)] (X, Y, o, dd, td) (rp (some (.int (res))) (X, Y, o, dd, td)) xp0 :=
  wMet.of hl (by decide +kernel) (Nat.le_of_ble_eq_true rfl) (fun G hB hL hG hE hT => by subst hB; exact g_f_X6_repeatsEarlier_13 hG hE hT h)
def f_X6_renew_13_147 (k33 : wM → Int32 → Option (wM)) (X : wM) (l1 : Int32) : Option (wM) :=
  wbd (l1 + 1) fun v147 =>
  k33 X v147
def f_X6_renew_13_74 (k33 : wM → Int32 → Option (wM)) (X : wM) (l1 : Int32) (s0 : Int32) (s1 : Int32) : Option (wM) :=
  wput X 14 40 s1 (vp_nar .boolean s0) fun X =>
  wget 40 (X 14) l1 fun v80 =>
  (if v80 = 0 then wget 40 (X 4) l1 fun v105 =>
  (if v105 = 0 then f_X6_renew_13_147 k33 X l1
  else wfld X 13 4 ((X 13 4) + 1) fun X =>
  (f_X3_blockAt X l1).bind fun y128 =>
  (f_X3_groupAt X l1).bind fun y138 =>
  wget 24 (X 15) ((y128 * 4) + y138) fun v143 =>
  wput X 15 24 ((y128 * 4) + y138) (v143 + 1) fun X =>
  f_X6_renew_13_147 k33 X l1)
  else wfld X 13 5 ((X 13 5) + 1) fun X =>
  f_X6_renew_13_147 k33 X l1)
def f_X6_renew_13_73 (k33 : wM → Int32 → Option (wM)) (X : wM) (l1 : Int32) (s0 : Int32) : Option (wM) :=
  f_X6_renew_13_74 k33 X l1 (0 : Int32) s0
def f_X6_renew_13_33b (k33 : wM → Int32 → Option (wM)) (X : wM) (l1 : Int32) : Option (wM) :=
  (if l1 < (X 3 5) then wget 40 (X 4) l1 fun v57 =>
  (if v57 = 0 then f_X6_renew_13_73 k33 X l1 l1
  else (f_X6_repeatsEarlier_13 X l1).bind fun y63 =>
  (if y63 = 0 then f_X6_renew_13_73 k33 X l1 l1
  else f_X6_renew_13_74 k33 X l1 (1 : Int32) l1))
  else some X)
def f_X6_renew_13_33 : Nat → wM → Int32 → Option (wM)
  | 0 => fun _ _ => none
  | n + 1 => fun X l1 => f_X6_renew_13_33b (f_X6_renew_13_33 n) X l1
def f_X6_renew_13_2b (k2 : wM → Int32 → Option (wM)) (X : wM) (l1 : Int32) : Option (wM) :=
  (if l1 < 24 then wput X 15 24 l1 0 fun X =>
  wbd (l1 + 1) fun v15 =>
  k2 X v15
  else wfld X 13 4 0 fun X =>
  wfld X 13 5 0 fun X =>
  f_X6_renew_13_33 1000 X (0 : Int32))
def f_X6_renew_13_2 : Nat → wM → Int32 → Option (wM)
  | 0 => fun _ _ => none
  | n + 1 => fun X l1 => f_X6_renew_13_2b (f_X6_renew_13_2 n) X l1
def f_X6_renew_13 (X : wM) : Option (wM) :=
  f_X6_renew_13_2 1000 X (0 : Int32)
set_option maxRecDepth 4000 in
theorem g_f_X6_renew_13_147 {G : wG} (hG : wOk G RX6 cX6_renew 2 4 92) {X Y : wM} {o : Int64} {dd : UInt64} {td : wX} {res : (wM)} (hE : wEnd G none (rp none (res, Y, o, dd, td)) xp0) (hT : wNoTab G) {k33 : wM → Int32 → Option (wM)} (hk33 : ∀ (X : wM) (l1 : Int32), k33 X l1 = some res → J G 2 0 0 33 [(0, .ref (wad (gB G) 13)), (1, .int (l1))] [] (X, Y, o, dd, td)) {l1 : Int32} (h : f_X6_renew_13_147 k33 X l1 = some res) : J G 2 0 0 147 [(0, .ref (wad (gB G) 13)), (1, .int (l1))] [] (X, Y, o, dd, td) := by
  unfold f_X6_renew_13_147 at h
  refine j_iincB hG 1 (fun v147 => [(1, .int (v147)), (0, .ref (wad (gB G) 13))]) (dt dtX6_renew_1 24 rfl) rfl rfl (by decide) (fun _ => rfl) h (fun v147 h => ?_)
  refine j_goto hG (tgt := 33) (dt dtX6_renew_1 25 rfl) (by decide) ?_
  refine j_lv (lv' := [(0, .ref (wad (gB G) 13)), (1, .int (v147))]) [1, 0] rfl ?_
  exact hk33 X v147 h
set_option maxRecDepth 4000 in
theorem g_f_X6_renew_13_74 {G : wG} (hG : wOk G RX6 cX6_renew 2 4 92) {X Y : wM} {o : Int64} {dd : UInt64} {td : wX} {res : (wM)} (hE : wEnd G none (rp none (res, Y, o, dd, td)) xp0) (hT : wNoTab G) {k33 : wM → Int32 → Option (wM)} (hk33 : ∀ (X : wM) (l1 : Int32), k33 X l1 = some res → J G 2 0 0 33 [(0, .ref (wad (gB G) 13)), (1, .int (l1))] [] (X, Y, o, dd, td)) {l1 : Int32} {s0 : Int32} {s1 : Int32} (h : f_X6_renew_13_74 k33 X l1 s0 s1 = some res) : J G 2 0 0 74 [(0, .ref (wad (gB G) 13)), (1, .int (l1))] [.int (s0), .int (s1), .ref (wad (gB G) 14)] (X, Y, o, dd, td) := by
  unfold f_X6_renew_13_74 at h
  refine j_zast hG 14 (X := X) (k := 14) (fun X => (X, Y, o, dd, td)) (cv_14 _ _ _ _) (fun g => cs_14 _ _ _ _ g) h (dt dtX6_renew_0 41 rfl) (fun X h => ?_)
  refine j_aload_n hG 0 (dt dtX6_renew_0 42 rfl) rfl rfl ?_
  refine j_get hG cl_X6 13 2 (cv_13 _ _ _ _) (by decide) fl_X6_9 rfl rfl (dt dtX6_renew_0 43 rfl) ?_
  refine j_iload_n hG 1 (dt dtX6_renew_0 44 rfl) rfl rfl ?_
  refine j_zald hG 14 (cv_14 _ _ _ _) h (dt dtX6_renew_0 45 rfl) (fun v80 h => ?_)
  refine j_if_eq hG (tgt := 97) (dt dtX6_renew_0 46 rfl) (by decide) h (fun h => ?_) (fun h => ?_)
  · refine j_aload_n hG 0 (dt dtX6_renew_0 54 rfl) rfl rfl ?_
    refine j_get hG cl_X6 13 0 (cv_13 _ _ _ _) (by decide) fl_X6_26 rfl rfl (dt dtX6_renew_0 55 rfl) ?_
    refine j_get hG cl_X3 3 1 (cv_3 _ _ _ _) (by decide) fl_X6_39 rfl rfl (dt dtX6_renew_0 56 rfl) ?_
    refine j_iload_n hG 1 (dt dtX6_renew_0 57 rfl) rfl rfl ?_
    refine j_zald hG 4 (cv_4 _ _ _ _) h (dt dtX6_renew_0 58 rfl) (fun v105 h => ?_)
    refine j_if_eq hG (tgt := 147) (dt dtX6_renew_0 59 rfl) (by decide) h (fun h => ?_) (fun h => ?_)
    · exact g_f_X6_renew_13_147 hG hE hT hk33 h
    · refine j_aload_n hG 0 (dt dtX6_renew_1 0 rfl) rfl rfl ?_
      refine j_dup hG (dt dtX6_renew_1 1 rfl) rfl ?_
      refine j_get hG cl_X6 13 4 (cv_13 _ _ _ _) (by decide) fl_X6_19 rfl rfl (dt dtX6_renew_1 2 rfl) ?_
      refine j_iconst hG (v := 1) (dt dtX6_renew_1 3 rfl) (by decide) ?_
      refine j_iadd hG (dt dtX6_renew_1 4 rfl) ?_
      refine j_put hG cl_X6 13 4 (X := X) (k := 13) (fun X => (X, Y, o, dd, td)) (cv_13 _ _ _ _) (by decide) fl_X6_19 rfl rfl rfl rfl rfl (Nat.le_of_ble_eq_true rfl) (cs_13 _ _ _ _ (upd (X 13) 4 ((X 13 4) + 1))) h (dt dtX6_renew_1 5 rfl) (fun X h => ?_)
      refine j_aload_n hG 0 (dt dtX6_renew_1 6 rfl) rfl rfl ?_
      refine j_get hG cl_X6 13 3 (cv_13 _ _ _ _) (by decide) fl_X6_15 rfl rfl (dt dtX6_renew_1 7 rfl) ?_
      refine j_aload_n hG 0 (dt dtX6_renew_1 8 rfl) rfl rfl ?_
      refine j_get hG cl_X6 13 0 (cv_13 _ _ _ _) (by decide) fl_X6_26 rfl rfl (dt dtX6_renew_1 9 rfl) ?_
      refine j_iload_n hG 1 (dt dtX6_renew_1 10 rfl) rfl rfl ?_
      refine j_callVp hG h (V := fun y128 => (some (.int (y128)))) (S := fun y128 => (X, Y, o, dd, td)) (kc := 0) (ks := 0) (fun z hz => ct_X3_blockAt hG.2.2.1 (gB G) _ _ _ _ _ hz) mf_X3_blockAt ml_X6_46 3 (cv_3 _ _ _ _) rfl rfl (rest := [.ref (wad (gB G) 15)]) rfl (Nat.le_of_ble_eq_true rfl) (dt dtX6_renew_1 11 rfl) (by decide) (by decide) (fun y128 h => ?_)
      refine j_iconst hG (v := 4) (dt dtX6_renew_1 12 rfl) (by decide) ?_
      refine j_imul hG (dt dtX6_renew_1 13 rfl) ?_
      refine j_aload_n hG 0 (dt dtX6_renew_1 14 rfl) rfl rfl ?_
      refine j_get hG cl_X6 13 0 (cv_13 _ _ _ _) (by decide) fl_X6_26 rfl rfl (dt dtX6_renew_1 15 rfl) ?_
      refine j_iload_n hG 1 (dt dtX6_renew_1 16 rfl) rfl rfl ?_
      refine j_callVp hG h (V := fun y138 => (some (.int (y138)))) (S := fun y138 => (X, Y, o, dd, td)) (kc := 0) (ks := 0) (fun z hz => ct_X3_groupAt hG.2.2.1 (gB G) _ _ _ _ _ hz) mf_X3_groupAt ml_X6_50 3 (cv_3 _ _ _ _) rfl rfl (rest := [.int ((y128 * 4)), .ref (wad (gB G) 15)]) rfl (Nat.le_of_ble_eq_true rfl) (dt dtX6_renew_1 17 rfl) (by decide) (by decide) (fun y138 h => ?_)
      refine j_iadd hG (dt dtX6_renew_1 18 rfl) ?_
      refine j_dup2 hG (dt dtX6_renew_1 19 rfl) rfl rfl ?_
      refine j_iald hG 15 (cv_15 _ _ _ _) h (dt dtX6_renew_1 20 rfl) (fun v143 h => ?_)
      refine j_iconst hG (v := 1) (dt dtX6_renew_1 21 rfl) (by decide) ?_
      refine j_iadd hG (dt dtX6_renew_1 22 rfl) ?_
      refine j_iast hG 15 (X := X) (k := 15) (fun X => (X, Y, o, dd, td)) (cv_15 _ _ _ _) (fun g => cs_15 _ _ _ _ g) h (dt dtX6_renew_1 23 rfl) (fun X h => ?_)
      exact g_f_X6_renew_13_147 hG hE hT hk33 h
  · refine j_aload_n hG 0 (dt dtX6_renew_0 47 rfl) rfl rfl ?_
    refine j_dup hG (dt dtX6_renew_0 48 rfl) rfl ?_
    refine j_get hG cl_X6 13 5 (cv_13 _ _ _ _) (by decide) fl_X6_23 rfl rfl (dt dtX6_renew_0 49 rfl) ?_
    refine j_iconst hG (v := 1) (dt dtX6_renew_0 50 rfl) (by decide) ?_
    refine j_iadd hG (dt dtX6_renew_0 51 rfl) ?_
    refine j_put hG cl_X6 13 5 (X := X) (k := 13) (fun X => (X, Y, o, dd, td)) (cv_13 _ _ _ _) (by decide) fl_X6_23 rfl rfl rfl rfl rfl (Nat.le_of_ble_eq_true rfl) (cs_13 _ _ _ _ (upd (X 13) 5 ((X 13 5) + 1))) h (dt dtX6_renew_0 52 rfl) (fun X h => ?_)
    refine j_goto hG (tgt := 147) (dt dtX6_renew_0 53 rfl) (by decide) ?_
    exact g_f_X6_renew_13_147 hG hE hT hk33 h
set_option maxRecDepth 4000 in
theorem g_f_X6_renew_13_73 {G : wG} (hG : wOk G RX6 cX6_renew 2 4 92) {X Y : wM} {o : Int64} {dd : UInt64} {td : wX} {res : (wM)} (hE : wEnd G none (rp none (res, Y, o, dd, td)) xp0) (hT : wNoTab G) {k33 : wM → Int32 → Option (wM)} (hk33 : ∀ (X : wM) (l1 : Int32), k33 X l1 = some res → J G 2 0 0 33 [(0, .ref (wad (gB G) 13)), (1, .int (l1))] [] (X, Y, o, dd, td)) {l1 : Int32} {s0 : Int32} (h : f_X6_renew_13_73 k33 X l1 s0 = some res) : J G 2 0 0 73 [(0, .ref (wad (gB G) 13)), (1, .int (l1))] [.int (s0), .ref (wad (gB G) 14)] (X, Y, o, dd, td) := by
  unfold f_X6_renew_13_73 at h
  refine j_iconst hG (v := 0) (dt dtX6_renew_0 40 rfl) (by decide) ?_
  exact g_f_X6_renew_13_74 hG hE hT hk33 h
set_option maxRecDepth 4000 in
theorem g_f_X6_renew_13_33b {G : wG} (hG : wOk G RX6 cX6_renew 2 4 92) {X Y : wM} {o : Int64} {dd : UInt64} {td : wX} {res : (wM)} (hE : wEnd G none (rp none (res, Y, o, dd, td)) xp0) (hT : wNoTab G) {k33 : wM → Int32 → Option (wM)} (hk33 : ∀ (X : wM) (l1 : Int32), k33 X l1 = some res → J G 2 0 0 33 [(0, .ref (wad (gB G) 13)), (1, .int (l1))] [] (X, Y, o, dd, td)) {l1 : Int32} (h : f_X6_renew_13_33b k33 X l1 = some res) : J G 2 0 0 33 [(0, .ref (wad (gB G) 13)), (1, .int (l1))] [] (X, Y, o, dd, td) := by
  unfold f_X6_renew_13_33b at h
  refine j_iload_n hG 1 (dt dtX6_renew_0 20 rfl) rfl rfl ?_
  refine j_aload_n hG 0 (dt dtX6_renew_0 21 rfl) rfl rfl ?_
  refine j_get hG cl_X6 13 0 (cv_13 _ _ _ _) (by decide) fl_X6_26 rfl rfl (dt dtX6_renew_0 22 rfl) ?_
  refine j_get hG cl_X3 3 5 (cv_3 _ _ _ _) (by decide) fl_X6_34 rfl rfl (dt dtX6_renew_0 23 rfl) ?_
  refine j_icmp_ge hG (tgt := 153) (dt dtX6_renew_0 24 rfl) (by decide) h (fun h => ?_) (fun h => ?_)
  · refine j_aload_n hG 0 (dt dtX6_renew_0 25 rfl) rfl rfl ?_
    refine j_get hG cl_X6 13 2 (cv_13 _ _ _ _) (by decide) fl_X6_9 rfl rfl (dt dtX6_renew_0 26 rfl) ?_
    refine j_iload_n hG 1 (dt dtX6_renew_0 27 rfl) rfl rfl ?_
    refine j_aload_n hG 0 (dt dtX6_renew_0 28 rfl) rfl rfl ?_
    refine j_get hG cl_X6 13 0 (cv_13 _ _ _ _) (by decide) fl_X6_26 rfl rfl (dt dtX6_renew_0 29 rfl) ?_
    refine j_get hG cl_X3 3 1 (cv_3 _ _ _ _) (by decide) fl_X6_39 rfl rfl (dt dtX6_renew_0 30 rfl) ?_
    refine j_iload_n hG 1 (dt dtX6_renew_0 31 rfl) rfl rfl ?_
    refine j_zald hG 4 (cv_4 _ _ _ _) h (dt dtX6_renew_0 32 rfl) (fun v57 h => ?_)
    refine j_if_eq hG (tgt := 73) (dt dtX6_renew_0 33 rfl) (by decide) h (fun h => ?_) (fun h => ?_)
    · exact g_f_X6_renew_13_73 hG hE hT hk33 h
    · refine j_aload_n hG 0 (dt dtX6_renew_0 34 rfl) rfl rfl ?_
      refine j_iload_n hG 1 (dt dtX6_renew_0 35 rfl) rfl rfl ?_
      refine j_callVp hG h (V := fun y63 => (some (.int (y63)))) (S := fun y63 => (X, Y, o, dd, td)) (kc := 0) (ks := 0) (fun z hz => ct_X6_repeatsEarlier_13 hG.2.2.1 (gB G) _ _ _ _ _ hz) mf_X6_repeatsEarlier ml_X6_42 13 (cv_13 _ _ _ _) rfl rfl (rest := [.int (l1), .ref (wad (gB G) 14)]) rfl (Nat.le_of_ble_eq_true rfl) (dt dtX6_renew_0 36 rfl) (by decide) (by decide) (fun y63 h => ?_)
      refine j_if_eq hG (tgt := 73) (dt dtX6_renew_0 37 rfl) (by decide) h (fun h => ?_) (fun h => ?_)
      · exact g_f_X6_renew_13_73 hG hE hT hk33 h
      · refine j_iconst hG (v := 1) (dt dtX6_renew_0 38 rfl) (by decide) ?_
        refine j_goto hG (tgt := 74) (dt dtX6_renew_0 39 rfl) (by decide) ?_
        exact g_f_X6_renew_13_74 hG hE hT hk33 h
  · obtain rfl := Option.some.inj h
    exact j_vret hG hE ⟨rfl, rfl⟩ (dt dtX6_renew_1 26 rfl)
set_option maxRecDepth 4000 in
theorem g_f_X6_renew_13_33 {G : wG} (hG : wOk G RX6 cX6_renew 2 4 92) {Y : wM} {o : Int64} {dd : UInt64} {td : wX} {res : (wM)} (hE : wEnd G none (rp none (res, Y, o, dd, td)) xp0) (hT : wNoTab G) (n : Nat) : ∀ (X : wM) (l1 : Int32), f_X6_renew_13_33 n X l1 = some res → J G 2 0 0 33 [(0, .ref (wad (gB G) 13)), (1, .int (l1))] [] (X, Y, o, dd, td) := by
  induction n with
  | zero => intro X l1 h; cases h
  | succ n ih =>
    intro X l1 h
    exact g_f_X6_renew_13_33b hG hE hT ih h
set_option maxRecDepth 4000 in
theorem g_f_X6_renew_13_2b {G : wG} (hG : wOk G RX6 cX6_renew 2 4 92) {X Y : wM} {o : Int64} {dd : UInt64} {td : wX} {res : (wM)} (hE : wEnd G none (rp none (res, Y, o, dd, td)) xp0) (hT : wNoTab G) {k2 : wM → Int32 → Option (wM)} (hk2 : ∀ (X : wM) (l1 : Int32), k2 X l1 = some res → J G 2 0 0 2 [(0, .ref (wad (gB G) 13)), (1, .int (l1))] [] (X, Y, o, dd, td)) {l1 : Int32} (h : f_X6_renew_13_2b k2 X l1 = some res) : J G 2 0 0 2 [(0, .ref (wad (gB G) 13)), (1, .int (l1))] [] (X, Y, o, dd, td) := by
  unfold f_X6_renew_13_2b at h
  refine j_iload_n hG 1 (dt dtX6_renew_0 2 rfl) rfl rfl ?_
  refine j_bipush hG (v := 24) (dt dtX6_renew_0 3 rfl) (by decide) ?_
  refine j_icmp_ge hG (tgt := 21) (dt dtX6_renew_0 4 rfl) (by decide) h (fun h => ?_) (fun h => ?_)
  · refine j_aload_n hG 0 (dt dtX6_renew_0 5 rfl) rfl rfl ?_
    refine j_get hG cl_X6 13 3 (cv_13 _ _ _ _) (by decide) fl_X6_15 rfl rfl (dt dtX6_renew_0 6 rfl) ?_
    refine j_iload_n hG 1 (dt dtX6_renew_0 7 rfl) rfl rfl ?_
    refine j_iconst hG (v := 0) (dt dtX6_renew_0 8 rfl) (by decide) ?_
    refine j_iast hG 15 (X := X) (k := 15) (fun X => (X, Y, o, dd, td)) (cv_15 _ _ _ _) (fun g => cs_15 _ _ _ _ g) h (dt dtX6_renew_0 9 rfl) (fun X h => ?_)
    refine j_iincB hG 1 (fun v15 => [(1, .int (v15)), (0, .ref (wad (gB G) 13))]) (dt dtX6_renew_0 10 rfl) rfl rfl (by decide) (fun _ => rfl) h (fun v15 h => ?_)
    refine j_goto hG (tgt := 2) (dt dtX6_renew_0 11 rfl) (by decide) ?_
    refine j_lv (lv' := [(0, .ref (wad (gB G) 13)), (1, .int (v15))]) [1, 0] rfl ?_
    exact hk2 X v15 h
  · refine j_aload_n hG 0 (dt dtX6_renew_0 12 rfl) rfl rfl ?_
    refine j_iconst hG (v := 0) (dt dtX6_renew_0 13 rfl) (by decide) ?_
    refine j_put hG cl_X6 13 4 (X := X) (k := 13) (fun X => (X, Y, o, dd, td)) (cv_13 _ _ _ _) (by decide) fl_X6_19 rfl rfl rfl rfl rfl (Nat.le_of_ble_eq_true rfl) (cs_13 _ _ _ _ (upd (X 13) 4 0)) h (dt dtX6_renew_0 14 rfl) (fun X h => ?_)
    refine j_aload_n hG 0 (dt dtX6_renew_0 15 rfl) rfl rfl ?_
    refine j_iconst hG (v := 0) (dt dtX6_renew_0 16 rfl) (by decide) ?_
    refine j_put hG cl_X6 13 5 (X := X) (k := 13) (fun X => (X, Y, o, dd, td)) (cv_13 _ _ _ _) (by decide) fl_X6_23 rfl rfl rfl rfl rfl (Nat.le_of_ble_eq_true rfl) (cs_13 _ _ _ _ (upd (X 13) 5 0)) h (dt dtX6_renew_0 17 rfl) (fun X h => ?_)
    refine j_iconst hG (v := 0) (dt dtX6_renew_0 18 rfl) (by decide) ?_
    refine j_istore_n hG (lv' := [(1, .int (0)), (0, .ref (wad (gB G) 13))]) (dt dtX6_renew_0 19 rfl) rfl (by decide) rfl ?_
    refine j_lv (lv' := [(0, .ref (wad (gB G) 13)), (1, .int (0))]) [1, 0] rfl ?_
    exact g_f_X6_renew_13_33 hG hE hT 1000 X (0 : Int32) h
set_option maxRecDepth 4000 in
theorem g_f_X6_renew_13_2 {G : wG} (hG : wOk G RX6 cX6_renew 2 4 92) {Y : wM} {o : Int64} {dd : UInt64} {td : wX} {res : (wM)} (hE : wEnd G none (rp none (res, Y, o, dd, td)) xp0) (hT : wNoTab G) (n : Nat) : ∀ (X : wM) (l1 : Int32), f_X6_renew_13_2 n X l1 = some res → J G 2 0 0 2 [(0, .ref (wad (gB G) 13)), (1, .int (l1))] [] (X, Y, o, dd, td) := by
  induction n with
  | zero => intro X l1 h; cases h
  | succ n ih =>
    intro X l1 h
    exact g_f_X6_renew_13_2b hG hE hT ih h
set_option maxRecDepth 4000 in
theorem g_f_X6_renew_13 {G : wG} (hG : wOk G RX6 cX6_renew 2 4 92) {X Y : wM} {o : Int64} {dd : UInt64} {td : wX} {res : (wM)} (hE : wEnd G none (rp none (res, Y, o, dd, td)) xp0) (hT : wNoTab G) (h : f_X6_renew_13 X = some res) : J G 2 0 0 0 [(0, .ref (wad (gB G) 13))] [] (X, Y, o, dd, td) := by
  unfold f_X6_renew_13 at h
  refine j_iconst hG (v := 0) (dt dtX6_renew_0 0 rfl) (by decide) ?_
  refine j_istore_n hG (lv' := [(1, .int (0)), (0, .ref (wad (gB G) 13))]) (dt dtX6_renew_0 1 rfl) rfl (by decide) rfl ?_
  refine j_lv (lv' := [(0, .ref (wad (gB G) 13)), (1, .int (0))]) [1, 0] rfl ?_
  exact g_f_X6_renew_13_2 hG hE hT 1000 X (0 : Int32) h
theorem ct_X6_renew_13 {l : Launch} (hl : l.stackTraces = false) (B : wB) (X Y : wM) (o : Int64) (dd : UInt64) (td : wX) {res : (wM)} (h : f_X6_renew_13 X = some res) : wMet l B yX6_renew cX6_renew 2 none 4 92 0 0 [.ref (wad B 13)] (X, Y, o, dd, td) (rp none (res, Y, o, dd, td)) xp0 :=
  wMet.of hl (by decide +kernel) (Nat.le_of_ble_eq_true rfl) (fun G hB hL hG hE hT => by subst hB; exact g_f_X6_renew_13 hG hE hT h)
def f_X6_hasCounts_13_2b (k2 : Int32 → Option (Int32)) (X : wM) (p1 : Nat → Int32) (l2 : Int32) : Option (Int32) :=
  (if l2 < 24 then wget 24 (X 15) l2 fun v13 =>
  wget 24 p1 l2 fun v16 =>
  (if v13 = v16 then wbd (l2 + 1) fun v22 =>
  k2 v22
  else some 0)
  else some 1)
def f_X6_hasCounts_13_2 (X : wM) (p1 : Nat → Int32) : Nat → Int32 → Option (Int32)
  | 0 => fun _ => none
  | n + 1 => fun l2 => f_X6_hasCounts_13_2b (f_X6_hasCounts_13_2 X p1 n) X p1 l2
def f_X6_hasCounts_13 (X : wM) (p1 : Nat → Int32) : Option (Int32) :=
  f_X6_hasCounts_13_2 X p1 1000 (0 : Int32)
set_option maxRecDepth 4000 in
theorem g_f_X6_hasCounts_13_2b {G : wG} (hG : wOk G RX6 cX6_hasCounts 3 0 0) {X Y : wM} {o : Int64} {dd : UInt64} {td : wX} {p1k p1a : Nat} {p1 : Nat → Int32} (hp1 : (wl (gB G) (X, Y, o, dd, td))[p1k]? = some (p1a, .inl (wdA (gB G) 0, 24, .inl p1))) {res : (Int32)} (hE : wEnd G (some .boolean) (rp (some (.int (res))) (X, Y, o, dd, td)) xp0) (hT : wNoTab G) {k2 : Int32 → Option (Int32)} (hk2 : ∀ (l2 : Int32), k2 l2 = some res → J G 3 0 0 2 [(0, .ref (wad (gB G) 13)), (1, .ref p1a), (2, .int (l2))] [] (X, Y, o, dd, td)) {l2 : Int32} (h : f_X6_hasCounts_13_2b k2 X p1 l2 = some res) : J G 3 0 0 2 [(0, .ref (wad (gB G) 13)), (1, .ref p1a), (2, .int (l2))] [] (X, Y, o, dd, td) := by
  unfold f_X6_hasCounts_13_2b at h
  refine j_iload_n hG 2 (dt dtX6_hasCounts_0 2 rfl) rfl rfl ?_
  refine j_bipush hG (v := 24) (dt dtX6_hasCounts_0 3 rfl) (by decide) ?_
  refine j_icmp_ge hG (tgt := 28) (dt dtX6_hasCounts_0 4 rfl) (by decide) h (fun h => ?_) (fun h => ?_)
  · refine j_aload_n hG 0 (dt dtX6_hasCounts_0 5 rfl) rfl rfl ?_
    refine j_get hG cl_X6 13 3 (cv_13 _ _ _ _) (by decide) fl_X6_15 rfl rfl (dt dtX6_hasCounts_0 6 rfl) ?_
    refine j_iload_n hG 2 (dt dtX6_hasCounts_0 7 rfl) rfl rfl ?_
    refine j_iald hG 15 (cv_15 _ _ _ _) h (dt dtX6_hasCounts_0 8 rfl) (fun v13 h => ?_)
    refine j_aload_n hG 1 (dt dtX6_hasCounts_0 9 rfl) rfl rfl ?_
    refine j_iload_n hG 2 (dt dtX6_hasCounts_0 10 rfl) rfl rfl ?_
    refine j_iald hG _ hp1 h (dt dtX6_hasCounts_0 11 rfl) (fun v16 h => ?_)
    refine j_icmp_eq hG (tgt := 22) (dt dtX6_hasCounts_0 12 rfl) (by decide) h (fun h => ?_) (fun h => ?_)
    · refine j_iincB hG 2 (fun v22 => [(2, .int (v22)), (0, .ref (wad (gB G) 13)), (1, .ref p1a)]) (dt dtX6_hasCounts_0 15 rfl) rfl rfl (by decide) (fun _ => rfl) h (fun v22 h => ?_)
      refine j_goto hG (tgt := 2) (dt dtX6_hasCounts_0 16 rfl) (by decide) ?_
      refine j_lv (lv' := [(0, .ref (wad (gB G) 13)), (1, .ref p1a), (2, .int (v22))]) [1, 2, 0] rfl ?_
      exact hk2 v22 h
    · refine j_iconst hG (v := 0) (dt dtX6_hasCounts_0 13 rfl) (by decide) ?_
      obtain rfl := Option.some.inj h
      exact j_zret hG hE (by decide) ⟨rfl, rfl⟩ (dt dtX6_hasCounts_0 14 rfl)
  · refine j_iconst hG (v := 1) (dt dtX6_hasCounts_0 17 rfl) (by decide) ?_
    obtain rfl := Option.some.inj h
    exact j_zret hG hE (by decide) ⟨rfl, rfl⟩ (dt dtX6_hasCounts_0 18 rfl)
set_option maxRecDepth 4000 in
theorem g_f_X6_hasCounts_13_2 {G : wG} (hG : wOk G RX6 cX6_hasCounts 3 0 0) {X : wM} {Y : wM} {o : Int64} {dd : UInt64} {td : wX} {p1k p1a : Nat} {p1 : Nat → Int32} (hp1 : (wl (gB G) (X, Y, o, dd, td))[p1k]? = some (p1a, .inl (wdA (gB G) 0, 24, .inl p1))) {res : (Int32)} (hE : wEnd G (some .boolean) (rp (some (.int (res))) (X, Y, o, dd, td)) xp0) (hT : wNoTab G) (n : Nat) : ∀ (l2 : Int32), f_X6_hasCounts_13_2 X p1 n l2 = some res → J G 3 0 0 2 [(0, .ref (wad (gB G) 13)), (1, .ref p1a), (2, .int (l2))] [] (X, Y, o, dd, td) := by
  induction n with
  | zero => intro l2 h; cases h
  | succ n ih =>
    intro l2 h
    exact g_f_X6_hasCounts_13_2b hG hp1 hE hT ih h
set_option maxRecDepth 4000 in
theorem g_f_X6_hasCounts_13 {G : wG} (hG : wOk G RX6 cX6_hasCounts 3 0 0) {X Y : wM} {o : Int64} {dd : UInt64} {td : wX} {p1k p1a : Nat} {p1 : Nat → Int32} (hp1 : (wl (gB G) (X, Y, o, dd, td))[p1k]? = some (p1a, .inl (wdA (gB G) 0, 24, .inl p1))) {res : (Int32)} (hE : wEnd G (some .boolean) (rp (some (.int (res))) (X, Y, o, dd, td)) xp0) (hT : wNoTab G) (h : f_X6_hasCounts_13 X p1 = some res) : J G 3 0 0 0 [(0, .ref (wad (gB G) 13)), (1, .ref p1a)] [] (X, Y, o, dd, td) := by
  unfold f_X6_hasCounts_13 at h
  refine j_iconst hG (v := 0) (dt dtX6_hasCounts_0 0 rfl) (by decide) ?_
  refine j_istore_n hG (lv' := [(2, .int (0)), (0, .ref (wad (gB G) 13)), (1, .ref p1a)]) (dt dtX6_hasCounts_0 1 rfl) rfl (by decide) rfl ?_
  refine j_lv (lv' := [(0, .ref (wad (gB G) 13)), (1, .ref p1a), (2, .int (0))]) [1, 2, 0] rfl ?_
  exact g_f_X6_hasCounts_13_2 hG hp1 hE hT 1000 (0 : Int32) h
theorem ct_X6_hasCounts_13 {l : Launch} (hl : l.stackTraces = false) (B : wB) (X Y : wM) (o : Int64) (dd : UInt64) (td : wX) {p1k p1a : Nat} {p1 : Nat → Int32} (hp1 : (wl B (X, Y, o, dd, td))[p1k]? = some (p1a, .inl (wdA B 0, 24, .inl p1))) {res : (Int32)} (h : f_X6_hasCounts_13 X p1 = some res) : wMet l B yX6_hasCounts cX6_hasCounts 3 (some .boolean) 0 0 0 0 [.ref (wad B 13), .ref p1a] (X, Y, o, dd, td) (rp (some (.int (res))) (X, Y, o, dd, td)) xp0 :=
  wMet.of hl (by decide +kernel) (Nat.le_of_ble_eq_true rfl) (fun G hB hL hG hE hT => by subst hB; exact g_f_X6_hasCounts_13 hG hp1 hE hT h)
