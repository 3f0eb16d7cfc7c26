def f_X0_smallCells_29 (k4 : Int32 → Int32 → Option (Int32)) (p0 : Nat → Int32) (l1 : Int32) (l2 : Int32) : Option (Int32) :=
  wbd (l2 + 1) fun v29 =>
  k4 l1 v29
def f_X0_smallCells_4b (k4 : Int32 → Int32 → Option (Int32)) (p0 : Nat → Int32) (l1 : Int32) (l2 : Int32) : Option (Int32) :=
  (if l2 < 24 then wget 24 p0 l2 fun v12 =>
  (if 0 < v12 then wget 24 p0 l2 fun v18 =>
  (if 2 < v18 then f_X0_smallCells_29 k4 p0 l1 l2
  else wbd (l1 ||| (1 <<< (l2 &&& 31))) fun v28 =>
  f_X0_smallCells_29 k4 p0 v28 l2)
  else f_X0_smallCells_29 k4 p0 l1 l2)
  else some l1)
def f_X0_smallCells_4 (p0 : Nat → Int32) : Nat → Int32 → Int32 → Option (Int32)
  | 0 => fun _ _ => none
  | n + 1 => fun l1 l2 => f_X0_smallCells_4b (f_X0_smallCells_4 p0 n) p0 l1 l2
def f_X0_smallCells (p0 : Nat → Int32) : Option (Int32) :=
  f_X0_smallCells_4 p0 1000 (0 : Int32) (0 : Int32)
set_option maxRecDepth 4000 in
theorem g_f_X0_smallCells_29 {G : wG} (hG : wOk G RX0 cX0_smallCells 3 0 0) {X Y : wM} {o : Int64} {dd : UInt64} {td : wX} {p0k p0a : Nat} {p0 : Nat → Int32} (hp0 : (wl (gB G) (X, Y, o, dd, td))[p0k]? = some (p0a, .inl (wdA (gB G) 0, 24, .inl p0))) {res : (Int32)} (hE : wEnd G (some .int) (rp (some (.int (res))) (X, Y, o, dd, td)) xp0) (hT : wNoTab G) {k4 : Int32 → Int32 → Option (Int32)} (hk4 : ∀ (l1 : Int32) (l2 : Int32), k4 l1 l2 = some res → J G 3 0 0 4 [(0, .ref p0a), (1, .int (l1)), (2, .int (l2))] [] (X, Y, o, dd, td)) {l1 : Int32} {l2 : Int32} (h : f_X0_smallCells_29 k4 p0 l1 l2 = some res) : J G 3 0 0 29 [(0, .ref p0a), (1, .int (l1)), (2, .int (l2))] [] (X, Y, o, dd, td) := by
  unfold f_X0_smallCells_29 at h
  refine j_iincB hG 2 (fun v29 => [(2, .int (v29)), (0, .ref p0a), (1, .int (l1))]) (dt dtX0_smallCells_0 22 rfl) rfl rfl (by decide) (fun _ => rfl) h (fun v29 h => ?_)
  refine j_goto hG (tgt := 4) (dt dtX0_smallCells_0 23 rfl) (by decide) ?_
  refine j_lv (lv' := [(0, .ref p0a), (1, .int (l1)), (2, .int (v29))]) [1, 2, 0] rfl ?_
  exact hk4 l1 v29 h
set_option maxRecDepth 4000 in
theorem g_f_X0_smallCells_4b {G : wG} (hG : wOk G RX0 cX0_smallCells 3 0 0) {X Y : wM} {o : Int64} {dd : UInt64} {td : wX} {p0k p0a : Nat} {p0 : Nat → Int32} (hp0 : (wl (gB G) (X, Y, o, dd, td))[p0k]? = some (p0a, .inl (wdA (gB G) 0, 24, .inl p0))) {res : (Int32)} (hE : wEnd G (some .int) (rp (some (.int (res))) (X, Y, o, dd, td)) xp0) (hT : wNoTab G) {k4 : Int32 → Int32 → Option (Int32)} (hk4 : ∀ (l1 : Int32) (l2 : Int32), k4 l1 l2 = some res → J G 3 0 0 4 [(0, .ref p0a), (1, .int (l1)), (2, .int (l2))] [] (X, Y, o, dd, td)) {l1 : Int32} {l2 : Int32} (h : f_X0_smallCells_4b k4 p0 l1 l2 = some res) : J G 3 0 0 4 [(0, .ref p0a), (1, .int (l1)), (2, .int (l2))] [] (X, Y, o, dd, td) := by
  unfold f_X0_smallCells_4b at h
  refine j_iload_n hG 2 (dt dtX0_smallCells_0 4 rfl) rfl rfl ?_
  refine j_bipush hG (v := 24) (dt dtX0_smallCells_0 5 rfl) (by decide) ?_
  refine j_icmp_ge hG (tgt := 35) (dt dtX0_smallCells_0 6 rfl) (by decide) h (fun h => ?_) (fun h => ?_)
  · refine j_aload_n hG 0 (dt dtX0_smallCells_0 7 rfl) rfl rfl ?_
    refine j_iload_n hG 2 (dt dtX0_smallCells_0 8 rfl) rfl rfl ?_
    refine j_iald hG _ hp0 h (dt dtX0_smallCells_0 9 rfl) (fun v12 h => ?_)
    refine j_if_le hG (tgt := 29) (dt dtX0_smallCells_0 10 rfl) (by decide) h (fun h => ?_) (fun h => ?_)
    · refine j_aload_n hG 0 (dt dtX0_smallCells_0 11 rfl) rfl rfl ?_
      refine j_iload_n hG 2 (dt dtX0_smallCells_0 12 rfl) rfl rfl ?_
      refine j_iald hG _ hp0 h (dt dtX0_smallCells_0 13 rfl) (fun v18 h => ?_)
      refine j_iconst hG (v := 2) (dt dtX0_smallCells_0 14 rfl) (by decide) ?_
      refine j_icmp_gt hG (tgt := 29) (dt dtX0_smallCells_0 15 rfl) (by decide) h (fun h => ?_) (fun h => ?_)
      · exact g_f_X0_smallCells_29 hG hp0 hE hT hk4 h
      · refine j_iload_n hG 1 (dt dtX0_smallCells_0 16 rfl) rfl rfl ?_
        refine j_iconst hG (v := 1) (dt dtX0_smallCells_0 17 rfl) (by decide) ?_
        refine j_iload_n hG 2 (dt dtX0_smallCells_0 18 rfl) rfl rfl ?_
        refine j_ishl hG (dt dtX0_smallCells_0 19 rfl) ?_
        refine j_ior hG (dt dtX0_smallCells_0 20 rfl) ?_
        refine j_istoreB_n hG (fun v28 => [(1, .int (v28)), (0, .ref p0a), (2, .int (l2))]) (dt dtX0_smallCells_0 21 rfl) rfl (by decide) (fun _ => rfl) h (fun v28 h => ?_)
        refine j_lv (lv' := [(0, .ref p0a), (1, .int (v28)), (2, .int (l2))]) [1, 0, 2] rfl ?_
        exact g_f_X0_smallCells_29 hG hp0 hE hT hk4 h
    · exact g_f_X0_smallCells_29 hG hp0 hE hT hk4 h
  · refine j_iload_n hG 1 (dt dtX0_smallCells_0 24 rfl) rfl rfl ?_
    obtain rfl := Option.some.inj h
    exact j_iret hG hE ⟨rfl, rfl⟩ (dt dtX0_smallCells_0 25 rfl)
set_option maxRecDepth 4000 in
theorem g_f_X0_smallCells_4 {G : wG} (hG : wOk G RX0 cX0_smallCells 3 0 0) {X : wM} {Y : wM} {o : Int64} {dd : UInt64} {td : wX} {p0k p0a : Nat} {p0 : Nat → Int32} (hp0 : (wl (gB G) (X, Y, o, dd, td))[p0k]? = some (p0a, .inl (wdA (gB G) 0, 24, .inl p0))) {res : (Int32)} (hE : wEnd G (some .int) (rp (some (.int (res))) (X, Y, o, dd, td)) xp0) (hT : wNoTab G) (n : Nat) : ∀ (l1 : Int32) (l2 : Int32), f_X0_smallCells_4 p0 n l1 l2 = some res → J G 3 0 0 4 [(0, .ref p0a), (1, .int (l1)), (2, .int (l2))] [] (X, Y, o, dd, td) := by
  induction n with
  | zero => intro l1 l2 h; cases h
  | succ n ih =>
    intro l1 l2 h
    exact g_f_X0_smallCells_4b hG hp0 hE hT ih h
set_option maxRecDepth 4000 in
theorem g_f_X0_smallCells {G : wG} (hG : wOk G RX0 cX0_smallCells 3 0 0) {X Y : wM} {o : Int64} {dd : UInt64} {td : wX} {p0k p0a : Nat} {p0 : Nat → Int32} (hp0 : (wl (gB G) (X, Y, o, dd, td))[p0k]? = some (p0a, .inl (wdA (gB G) 0, 24, .inl p0))) {res : (Int32)} (hE : wEnd G (some .int) (rp (some (.int (res))) (X, Y, o, dd, td)) xp0) (hT : wNoTab G) (h : f_X0_smallCells p0 = some res) : J G 3 0 0 0 [(0, .ref p0a)] [] (X, Y, o, dd, td) := by
  unfold f_X0_smallCells at h
  refine j_iconst hG (v := 0) (dt dtX0_smallCells_0 0 rfl) (by decide) ?_
  refine j_istore_n hG (lv' := [(1, .int (0)), (0, .ref p0a)]) (dt dtX0_smallCells_0 1 rfl) rfl (by decide) rfl ?_
  refine j_iconst hG (v := 0) (dt dtX0_smallCells_0 2 rfl) (by decide) ?_
  refine j_istore_n hG (lv' := [(2, .int (0)), (1, .int (0)), (0, .ref p0a)]) (dt dtX0_smallCells_0 3 rfl) rfl (by decide) rfl ?_
  refine j_lv (lv' := [(0, .ref p0a), (1, .int (0)), (2, .int (0))]) [2, 1, 0] rfl ?_
  exact g_f_X0_smallCells_4 hG hp0 hE hT 1000 (0 : Int32) (0 : Int32) h
theorem ct_X0_smallCells {l : Launch} (hl : l.stackTraces = false) (B : wB) (X Y : wM) (o : Int64) (dd : UInt64) (td : wX) {p0k p0a : Nat} {p0 : Nat → Int32} (hp0 : (wl B (X, Y, o, dd, td))[p0k]? = some (p0a, .inl (wdA B 0, 24, .inl p0))) {res : (Int32)} (h : f_X0_smallCells p0 = some res) : wMet l B yX0_smallCells cX0_smallCells 3 (some .int) 0 0 0 0 [.ref p0a] (X, Y, o, dd, td) (rp (some (.int (res))) (X, Y, o, dd, td)) xp0 :=
  wMet.of hl (by decide +kernel) (Nat.le_of_ble_eq_true rfl) (fun G hB hL hG hE hT => by subst hB; exact g_f_X0_smallCells hG hp0 hE hT h)
def f_X0_has_13 (s0 : Int32) : Option (Int32) :=
  wgd (wokN .boolean s0) (some s0)
def f_X0_has (a0 : Int32) (a1 : Int32) : Option (Int32) :=
  (if (a0 &&& (1 <<< (a1 &&& 31))) = 0 then f_X0_has_13 (0 : Int32)
  else f_X0_has_13 (1 : Int32))
set_option maxRecDepth 4000 in
theorem g_f_X0_has_13 {G : wG} (hG : wOk G RX0 cX0_has 2 0 0) {X Y : wM} {o : Int64} {dd : UInt64} {td : wX} {res : (Int32)} (hE : wEnd G (some .boolean) (rp (some (.int (res))) (X, Y, o, dd, td)) xp0) (hT : wNoTab G) {s0 : Int32} (h : f_X0_has_13 s0 = some res) : J G 2 0 0 13 [] [.int (s0)] (X, Y, o, dd, td) := by
  unfold f_X0_has_13 at h
  obtain ⟨c13, h⟩ := wgd_ok h
  obtain rfl := Option.some.inj h
  exact j_zret hG hE (wokN_ok c13) ⟨rfl, rfl⟩ (dt dtX0_has_0 9 rfl)
set_option maxRecDepth 4000 in
theorem g_f_X0_has {G : wG} (hG : wOk G RX0 cX0_has 2 0 0) {X Y : wM} {o : Int64} {dd : UInt64} {td : wX} {res : (Int32)} (hE : wEnd G (some .boolean) (rp (some (.int (res))) (X, Y, o, dd, td)) xp0) (hT : wNoTab G) {a0 : Int32} {a1 : Int32} (h : f_X0_has a0 a1 = some res) : J G 2 0 0 0 [(0, .int (a0)), (1, .int (a1))] [] (X, Y, o, dd, td) := by
  unfold f_X0_has at h
  refine j_iload_n hG 0 (dt dtX0_has_0 0 rfl) rfl rfl ?_
  refine j_iconst hG (v := 1) (dt dtX0_has_0 1 rfl) (by decide) ?_
  refine j_iload_n hG 1 (dt dtX0_has_0 2 rfl) rfl rfl ?_
  refine j_ishl hG (dt dtX0_has_0 3 rfl) ?_
  refine j_iand hG (dt dtX0_has_0 4 rfl) ?_
  refine j_if_eq hG (tgt := 12) (dt dtX0_has_0 5 rfl) (by decide) h (fun h => ?_) (fun h => ?_)
  · refine j_iconst hG (v := 0) (dt dtX0_has_0 8 rfl) (by decide) ?_
    refine j_lv (lv' := []) [] rfl ?_
    exact g_f_X0_has_13 hG hE hT h
  · refine j_iconst hG (v := 1) (dt dtX0_has_0 6 rfl) (by decide) ?_
    refine j_goto hG (tgt := 13) (dt dtX0_has_0 7 rfl) (by decide) ?_
    refine j_lv (lv' := []) [] rfl ?_
    exact g_f_X0_has_13 hG hE hT h
theorem ct_X0_has {l : Launch} (hl : l.stackTraces = false) (B : wB) (X Y : wM) (o : Int64) (dd : UInt64) (td : wX) {a0 : Int32} {a1 : Int32} {res : (Int32)} (h : f_X0_has a0 a1 = some res) : wMet l B yX0_has cX0_has 2 (some .boolean) 0 0 0 0 [.int (a0), .int (a1)] (X, Y, o, dd, td) (rp (some (.int (res))) (X, Y, o, dd, td)) xp0 :=
  wMet.of hl (by decide +kernel) (Nat.le_of_ble_eq_true rfl) (fun G hB hL hG hE hT => by subst hB; exact g_f_X0_has hG hE hT h)
def f_X0_blockEnd (a0 : Int32) : Option (Int32) :=
  some (1 <<< ((a0 / 4) &&& 31))
set_option maxRecDepth 4000 in
theorem g_f_X0_blockEnd {G : wG} (hG : wOk G RX0 cX0_blockEnd 1 0 0) {X Y : wM} {o : Int64} {dd : UInt64} {td : wX} {res : (Int32)} (hE : wEnd G (some .int) (rp (some (.int (res))) (X, Y, o, dd, td)) xp0) (hT : wNoTab G) {a0 : Int32} (h : f_X0_blockEnd a0 = some res) : J G 1 0 0 0 [(0, .int (a0))] [] (X, Y, o, dd, td) := by
  unfold f_X0_blockEnd at h
  refine j_iconst hG (v := 1) (dt dtX0_blockEnd_0 0 rfl) (by decide) ?_
  refine j_iload_n hG 0 (dt dtX0_blockEnd_0 1 rfl) rfl rfl ?_
  refine j_iconst hG (v := 4) (dt dtX0_blockEnd_0 2 rfl) (by decide) ?_
  refine j_idiv hG (dt dtX0_blockEnd_0 3 rfl) (by decide) ?_
  refine j_ishl hG (dt dtX0_blockEnd_0 4 rfl) ?_
  obtain rfl := Option.some.inj h
  exact j_iret hG hE ⟨rfl, rfl⟩ (dt dtX0_blockEnd_0 5 rfl)
theorem ct_X0_blockEnd {l : Launch} (hl : l.stackTraces = false) (B : wB) (X Y : wM) (o : Int64) (dd : UInt64) (td : wX) {a0 : Int32} {res : (Int32)} (h : f_X0_blockEnd a0 = some res) : wMet l B yX0_blockEnd cX0_blockEnd 1 (some .int) 0 0 0 0 [.int (a0)] (X, Y, o, dd, td) (rp (some (.int (res))) (X, Y, o, dd, td)) xp0 :=
  wMet.of hl (by decide +kernel) (Nat.le_of_ble_eq_true rfl) (fun G hB hL hG hE hT => by subst hB; exact g_f_X0_blockEnd hG hE hT h)
def f_X0_endsInBlock (a0 : Int32) (a1 : Int32) : Option (Int32) :=
  wbd ((a0 >>> ((a1 * 4) &&& 31)) &&& 15) fun v8 =>
  some ((v8 <<< (6 &&& 31)) ||| (1 <<< (a1 &&& 31)))
set_option maxRecDepth 4000 in
theorem g_f_X0_endsInBlock {G : wG} (hG : wOk G RX0 cX0_endsInBlock 3 0 0) {X Y : wM} {o : Int64} {dd : UInt64} {td : wX} {res : (Int32)} (hE : wEnd G (some .int) (rp (some (.int (res))) (X, Y, o, dd, td)) xp0) (hT : wNoTab G) {a0 : Int32} {a1 : Int32} (h : f_X0_endsInBlock a0 a1 = some res) : J G 3 0 0 0 [(0, .int (a0)), (1, .int (a1))] [] (X, Y, o, dd, td) := by
  unfold f_X0_endsInBlock at h
  refine j_iload_n hG 0 (dt dtX0_endsInBlock_0 0 rfl) rfl rfl ?_
  refine j_iload_n hG 1 (dt dtX0_endsInBlock_0 1 rfl) rfl rfl ?_
  refine j_iconst hG (v := 4) (dt dtX0_endsInBlock_0 2 rfl) (by decide) ?_
  refine j_imul hG (dt dtX0_endsInBlock_0 3 rfl) ?_
  refine j_ishr hG (dt dtX0_endsInBlock_0 4 rfl) ?_
  refine j_bipush hG (v := 15) (dt dtX0_endsInBlock_0 5 rfl) (by decide) ?_
  refine j_iand hG (dt dtX0_endsInBlock_0 6 rfl) ?_
  refine j_istoreB_n hG (fun v8 => [(2, .int (v8)), (0, .int (a0)), (1, .int (a1))]) (dt dtX0_endsInBlock_0 7 rfl) rfl (by decide) (fun _ => rfl) h (fun v8 h => ?_)
  refine j_iload_n hG 0 (dt dtX0_endsInBlock_0 8 rfl) rfl rfl ?_
  refine j_bipush hG (v := 6) (dt dtX0_endsInBlock_0 9 rfl) (by decide) ?_
  refine j_ishl hG (dt dtX0_endsInBlock_0 10 rfl) ?_
  refine j_iconst hG (v := 1) (dt dtX0_endsInBlock_0 11 rfl) (by decide) ?_
  refine j_iload_n hG 2 (dt dtX0_endsInBlock_0 12 rfl) rfl rfl ?_
  refine j_ishl hG (dt dtX0_endsInBlock_0 13 rfl) ?_
  refine j_ior hG (dt dtX0_endsInBlock_0 14 rfl) ?_
  obtain rfl := Option.some.inj h
  exact j_iret hG hE ⟨rfl, rfl⟩ (dt dtX0_endsInBlock_0 15 rfl)
theorem ct_X0_endsInBlock {l : Launch} (hl : l.stackTraces = false) (B : wB) (X Y : wM) (o : Int64) (dd : UInt64) (td : wX) {a0 : Int32} {a1 : Int32} {res : (Int32)} (h : f_X0_endsInBlock a0 a1 = some res) : wMet l B yX0_endsInBlock cX0_endsInBlock 3 (some .int) 0 0 0 0 [.int (a0), .int (a1)] (X, Y, o, dd, td) (rp (some (.int (res))) (X, Y, o, dd, td)) xp0 :=
  wMet.of hl (by decide +kernel) (Nat.le_of_ble_eq_true rfl) (fun G hB hL hG hE hT => by subst hB; exact g_f_X0_endsInBlock hG hE hT h)
def f_X0_tiedTo_43 (k4 : Int32 → Int32 → Int32 → Option (Int32)) (k16 : Int32 → Int32 → Int32 → Int32 → Int32 → Option (Int32)) (l1 : Int32) (l2 : Int32) (l3 : Int32) (l4 : Int32) (l5 : Int32) : Option (Int32) :=
  wbd (l5 + 1) fun v43 =>
  k16 l1 l2 l3 l4 v43
def f_X0_tiedTo_16b (k4 : Int32 → Int32 → Int32 → Option (Int32)) (k16 : Int32 → Int32 → Int32 → Int32 → Int32 → Option (Int32)) (l1 : Int32) (l2 : Int32) (l3 : Int32) (l4 : Int32) (l5 : Int32) : Option (Int32) :=
  (if l5 < 6 then (f_X0_endsInBlock l1 l5).bind fun y26 =>
  (if (y26 &&& l2) = 0 then f_X0_tiedTo_43 k4 k16 l1 l2 l3 l4 l5
  else wbd (l2 ||| y26) fun v42 =>
  f_X0_tiedTo_43 k4 k16 l1 v42 l3 l4 l5)
  else (if l2 = l4 then some l2
  else wbd (l3 + 1) fun v57 =>
  k4 l1 l2 v57))
def f_X0_tiedTo_16 (k4 : Int32 → Int32 → Int32 → Option (Int32)) : Nat → Int32 → Int32 → Int32 → Int32 → Int32 → Option (Int32)
  | 0 => fun _ _ _ _ _ => none
  | n + 1 => fun l1 l2 l3 l4 l5 => f_X0_tiedTo_16b k4 (f_X0_tiedTo_16 k4 n) l1 l2 l3 l4 l5
def f_X0_tiedTo_4b (k4 : Int32 → Int32 → Int32 → Option (Int32)) (l1 : Int32) (l2 : Int32) (l3 : Int32) : Option (Int32) :=
  (if l3 < 10 then f_X0_tiedTo_16 k4 1000 l1 l2 l3 l2 (0 : Int32)
  else some l2)
def f_X0_tiedTo_4 : Nat → Int32 → Int32 → Int32 → Option (Int32)
  | 0 => fun _ _ _ => none
  | n + 1 => fun l1 l2 l3 => f_X0_tiedTo_4b (f_X0_tiedTo_4 n) l1 l2 l3
def f_X0_tiedTo (a0 : Int32) (a1 : Int32) : Option (Int32) :=
  f_X0_tiedTo_4 1000 a1 a0 (0 : Int32)
set_option maxRecDepth 4000 in
theorem g_f_X0_tiedTo_43 {G : wG} (hG : wOk G RX0 cX0_tiedTo 7 1 22) {X Y : wM} {o : Int64} {dd : UInt64} {td : wX} {res : (Int32)} (hE : wEnd G (some .int) (rp (some (.int (res))) (X, Y, o, dd, td)) xp0) (hT : wNoTab G) {k4 : Int32 → Int32 → Int32 → Option (Int32)} (hk4 : ∀ (l1 : Int32) (l2 : Int32) (l3 : Int32), k4 l1 l2 l3 = some res → J G 7 0 0 4 [(1, .int (l1)), (2, .int (l2)), (3, .int (l3))] [] (X, Y, o, dd, td)) {k16 : Int32 → Int32 → Int32 → Int32 → Int32 → Option (Int32)} (hk16 : ∀ (l1 : Int32) (l2 : Int32) (l3 : Int32) (l4 : Int32) (l5 : Int32), k16 l1 l2 l3 l4 l5 = some res → J G 7 0 0 16 [(1, .int (l1)), (2, .int (l2)), (3, .int (l3)), (4, .int (l4)), (5, .int (l5))] [] (X, Y, o, dd, td)) {l1 : Int32} {l2 : Int32} {l3 : Int32} {l4 : Int32} {l5 : Int32} (h : f_X0_tiedTo_43 k4 k16 l1 l2 l3 l4 l5 = some res) : J G 7 0 0 43 [(1, .int (l1)), (2, .int (l2)), (3, .int (l3)), (4, .int (l4)), (5, .int (l5))] [] (X, Y, o, dd, td) := by
  unfold f_X0_tiedTo_43 at h
  refine j_iincB hG 4 (fun v43 => [(5, .int (v43)), (1, .int (l1)), (2, .int (l2)), (3, .int (l3)), (4, .int (l4))]) (dt dtX0_tiedTo_0 26 rfl) rfl rfl (by decide) (fun _ => rfl) h (fun v43 h => ?_)
  refine j_goto hG (tgt := 16) (dt dtX0_tiedTo_0 27 rfl) (by decide) ?_
  refine j_lv (lv' := [(1, .int (l1)), (2, .int (l2)), (3, .int (l3)), (4, .int (l4)), (5, .int (v43))]) [1, 2, 3, 4, 0] rfl ?_
  exact hk16 l1 l2 l3 l4 v43 h
set_option maxRecDepth 4000 in
theorem g_f_X0_tiedTo_16b {G : wG} (hG : wOk G RX0 cX0_tiedTo 7 1 22) {X Y : wM} {o : Int64} {dd : UInt64} {td : wX} {res : (Int32)} (hE : wEnd G (some .int) (rp (some (.int (res))) (X, Y, o, dd, td)) xp0) (hT : wNoTab G) {k4 : Int32 → Int32 → Int32 → Option (Int32)} (hk4 : ∀ (l1 : Int32) (l2 : Int32) (l3 : Int32), k4 l1 l2 l3 = some res → J G 7 0 0 4 [(1, .int (l1)), (2, .int (l2)), (3, .int (l3))] [] (X, Y, o, dd, td)) {k16 : Int32 → Int32 → Int32 → Int32 → Int32 → Option (Int32)} (hk16 : ∀ (l1 : Int32) (l2 : Int32) (l3 : Int32) (l4 : Int32) (l5 : Int32), k16 l1 l2 l3 l4 l5 = some res → J G 7 0 0 16 [(1, .int (l1)), (2, .int (l2)), (3, .int (l3)), (4, .int (l4)), (5, .int (l5))] [] (X, Y, o, dd, td)) {l1 : Int32} {l2 : Int32} {l3 : Int32} {l4 : Int32} {l5 : Int32} (h : f_X0_tiedTo_16b k4 k16 l1 l2 l3 l4 l5 = some res) : J G 7 0 0 16 [(1, .int (l1)), (2, .int (l2)), (3, .int (l3)), (4, .int (l4)), (5, .int (l5))] [] (X, Y, o, dd, td) := by
  unfold f_X0_tiedTo_16b at h
  refine j_iload hG 4 (dt dtX0_tiedTo_0 11 rfl) rfl ?_
  refine j_bipush hG (v := 6) (dt dtX0_tiedTo_0 12 rfl) (by decide) ?_
  refine j_icmp_ge hG (tgt := 49) (dt dtX0_tiedTo_0 13 rfl) (by decide) h (fun h => ?_) (fun h => ?_)
  · refine j_iload_n hG 0 (dt dtX0_tiedTo_0 14 rfl) rfl rfl ?_
    refine j_iload hG 4 (dt dtX0_tiedTo_0 15 rfl) rfl ?_
    refine j_callSp hG h (V := fun y26 => (some (.int (y26)))) (S := fun y26 => (X, Y, o, dd, td)) (kc := 0) (ks := 0) (fun z hz => ct_X0_endsInBlock hG.2.2.1 (gB G) _ _ _ _ _ hz) mf_X0_endsInBlock ml_X0_47 rfl (rest := []) rfl (Nat.le_of_ble_eq_true rfl) (dt dtX0_tiedTo_0 16 rfl) (by decide) (by decide) (fun y26 h => ?_)
    refine j_istore hG (lv' := [(6, .int (y26)), (1, .int (l1)), (2, .int (l2)), (3, .int (l3)), (4, .int (l4)), (5, .int (l5))]) (dt dtX0_tiedTo_0 17 rfl) (by decide) rfl ?_
    refine j_iload hG 0 (dt dtX0_tiedTo_0 18 rfl) rfl ?_
    refine j_iload_n hG 2 (dt dtX0_tiedTo_0 19 rfl) rfl rfl ?_
    refine j_iand hG (dt dtX0_tiedTo_0 20 rfl) ?_
    refine j_if_eq hG (tgt := 43) (dt dtX0_tiedTo_0 21 rfl) (by decide) h (fun h => ?_) (fun h => ?_)
    · refine j_lv (lv' := [(1, .int (l1)), (2, .int (l2)), (3, .int (l3)), (4, .int (l4)), (5, .int (l5))]) [1, 2, 3, 4, 5] rfl ?_
      exact g_f_X0_tiedTo_43 hG hE hT hk4 hk16 h
    · refine j_iload_n hG 2 (dt dtX0_tiedTo_0 22 rfl) rfl rfl ?_
      refine j_iload hG 0 (dt dtX0_tiedTo_0 23 rfl) rfl ?_
      refine j_ior hG (dt dtX0_tiedTo_0 24 rfl) ?_
      refine j_istoreB_n hG (fun v42 => [(2, .int (v42)), (6, .int (y26)), (1, .int (l1)), (3, .int (l3)), (4, .int (l4)), (5, .int (l5))]) (dt dtX0_tiedTo_0 25 rfl) rfl (by decide) (fun _ => rfl) h (fun v42 h => ?_)
      refine j_lv (lv' := [(1, .int (l1)), (2, .int (v42)), (3, .int (l3)), (4, .int (l4)), (5, .int (l5))]) [2, 0, 3, 4, 5] rfl ?_
      exact g_f_X0_tiedTo_43 hG hE hT hk4 hk16 h
  · refine j_iload_n hG 1 (dt dtX0_tiedTo_0 28 rfl) rfl rfl ?_
    refine j_iload hG 3 (dt dtX0_tiedTo_0 29 rfl) rfl ?_
    refine j_icmp_ne hG (tgt := 57) (dt dtX0_tiedTo_0 30 rfl) (by decide) h (fun h => ?_) (fun h => ?_)
    · refine j_iload_n hG 1 (dt dtX0_tiedTo_0 31 rfl) rfl rfl ?_
      obtain rfl := Option.some.inj h
      exact j_iret hG hE ⟨rfl, rfl⟩ (dt dtX0_tiedTo_0 32 rfl)
    · refine j_iincB hG 2 (fun v57 => [(3, .int (v57)), (1, .int (l1)), (2, .int (l2)), (4, .int (l4)), (5, .int (l5))]) (dt dtX0_tiedTo_0 33 rfl) rfl rfl (by decide) (fun _ => rfl) h (fun v57 h => ?_)
      refine j_goto hG (tgt := 4) (dt dtX0_tiedTo_0 34 rfl) (by decide) ?_
      refine j_lv (lv' := [(1, .int (l1)), (2, .int (l2)), (3, .int (v57))]) [1, 2, 0] rfl ?_
      exact hk4 l1 l2 v57 h
set_option maxRecDepth 4000 in
theorem g_f_X0_tiedTo_16 {G : wG} (hG : wOk G RX0 cX0_tiedTo 7 1 22) {X : wM} {Y : wM} {o : Int64} {dd : UInt64} {td : wX} {res : (Int32)} (hE : wEnd G (some .int) (rp (some (.int (res))) (X, Y, o, dd, td)) xp0) (hT : wNoTab G) {k4 : Int32 → Int32 → Int32 → Option (Int32)} (hk4 : ∀ (l1 : Int32) (l2 : Int32) (l3 : Int32), k4 l1 l2 l3 = some res → J G 7 0 0 4 [(1, .int (l1)), (2, .int (l2)), (3, .int (l3))] [] (X, Y, o, dd, td)) (n : Nat) : ∀ (l1 : Int32) (l2 : Int32) (l3 : Int32) (l4 : Int32) (l5 : Int32), f_X0_tiedTo_16 k4 n l1 l2 l3 l4 l5 = some res → J G 7 0 0 16 [(1, .int (l1)), (2, .int (l2)), (3, .int (l3)), (4, .int (l4)), (5, .int (l5))] [] (X, Y, o, dd, td) := by
  induction n with
  | zero => intro l1 l2 l3 l4 l5 h; cases h
  | succ n ih =>
    intro l1 l2 l3 l4 l5 h
    exact g_f_X0_tiedTo_16b hG hE hT hk4 ih h
set_option maxRecDepth 4000 in
theorem g_f_X0_tiedTo_4b {G : wG} (hG : wOk G RX0 cX0_tiedTo 7 1 22) {X Y : wM} {o : Int64} {dd : UInt64} {td : wX} {res : (Int32)} (hE : wEnd G (some .int) (rp (some (.int (res))) (X, Y, o, dd, td)) xp0) (hT : wNoTab G) {k4 : Int32 → Int32 → Int32 → Option (Int32)} (hk4 : ∀ (l1 : Int32) (l2 : Int32) (l3 : Int32), k4 l1 l2 l3 = some res → J G 7 0 0 4 [(1, .int (l1)), (2, .int (l2)), (3, .int (l3))] [] (X, Y, o, dd, td)) {l1 : Int32} {l2 : Int32} {l3 : Int32} (h : f_X0_tiedTo_4b k4 l1 l2 l3 = some res) : J G 7 0 0 4 [(1, .int (l1)), (2, .int (l2)), (3, .int (l3))] [] (X, Y, o, dd, td) := by
  unfold f_X0_tiedTo_4b at h
  refine j_iload_n hG 2 (dt dtX0_tiedTo_0 4 rfl) rfl rfl ?_
  refine j_bipush hG (v := 10) (dt dtX0_tiedTo_0 5 rfl) (by decide) ?_
  refine j_icmp_ge hG (tgt := 63) (dt dtX0_tiedTo_0 6 rfl) (by decide) h (fun h => ?_) (fun h => ?_)
  · refine j_iload_n hG 1 (dt dtX0_tiedTo_0 7 rfl) rfl rfl ?_
    refine j_istore hG (lv' := [(4, .int (l2)), (1, .int (l1)), (2, .int (l2)), (3, .int (l3))]) (dt dtX0_tiedTo_0 8 rfl) (by decide) rfl ?_
    refine j_iconst hG (v := 0) (dt dtX0_tiedTo_0 9 rfl) (by decide) ?_
    refine j_istore hG (lv' := [(5, .int (0)), (4, .int (l2)), (1, .int (l1)), (2, .int (l2)), (3, .int (l3))]) (dt dtX0_tiedTo_0 10 rfl) (by decide) rfl ?_
    refine j_lv (lv' := [(1, .int (l1)), (2, .int (l2)), (3, .int (l3)), (4, .int (l2)), (5, .int (0))]) [2, 3, 4, 1, 0] rfl ?_
    exact g_f_X0_tiedTo_16 hG hE hT hk4 1000 l1 l2 l3 l2 (0 : Int32) h
  · refine j_iload_n hG 1 (dt dtX0_tiedTo_0 35 rfl) rfl rfl ?_
    obtain rfl := Option.some.inj h
    exact j_iret hG hE ⟨rfl, rfl⟩ (dt dtX0_tiedTo_0 36 rfl)
set_option maxRecDepth 4000 in
theorem g_f_X0_tiedTo_4 {G : wG} (hG : wOk G RX0 cX0_tiedTo 7 1 22) {X : wM} {Y : wM} {o : Int64} {dd : UInt64} {td : wX} {res : (Int32)} (hE : wEnd G (some .int) (rp (some (.int (res))) (X, Y, o, dd, td)) xp0) (hT : wNoTab G) (n : Nat) : ∀ (l1 : Int32) (l2 : Int32) (l3 : Int32), f_X0_tiedTo_4 n l1 l2 l3 = some res → J G 7 0 0 4 [(1, .int (l1)), (2, .int (l2)), (3, .int (l3))] [] (X, Y, o, dd, td) := by
  induction n with
  | zero => intro l1 l2 l3 h; cases h
  | succ n ih =>
    intro l1 l2 l3 h
    exact g_f_X0_tiedTo_4b hG hE hT ih h
set_option maxRecDepth 4000 in
theorem g_f_X0_tiedTo {G : wG} (hG : wOk G RX0 cX0_tiedTo 7 1 22) {X Y : wM} {o : Int64} {dd : UInt64} {td : wX} {res : (Int32)} (hE : wEnd G (some .int) (rp (some (.int (res))) (X, Y, o, dd, td)) xp0) (hT : wNoTab G) {a0 : Int32} {a1 : Int32} (h : f_X0_tiedTo a0 a1 = some res) : J G 7 0 0 0 [(0, .int (a0)), (1, .int (a1))] [] (X, Y, o, dd, td) := by
  unfold f_X0_tiedTo at h
  refine j_iload_n hG 0 (dt dtX0_tiedTo_0 0 rfl) rfl rfl ?_
  refine j_istore_n hG (lv' := [(2, .int (a0)), (0, .int (a0)), (1, .int (a1))]) (dt dtX0_tiedTo_0 1 rfl) rfl (by decide) rfl ?_
  refine j_iconst hG (v := 0) (dt dtX0_tiedTo_0 2 rfl) (by decide) ?_
  refine j_istore_n hG (lv' := [(3, .int (0)), (2, .int (a0)), (0, .int (a0)), (1, .int (a1))]) (dt dtX0_tiedTo_0 3 rfl) rfl (by decide) rfl ?_
  refine j_lv (lv' := [(1, .int (a1)), (2, .int (a0)), (3, .int (0))]) [3, 1, 0] rfl ?_
  exact g_f_X0_tiedTo_4 hG hE hT 1000 a1 a0 (0 : Int32) h
theorem ct_X0_tiedTo {l : Launch} (hl : l.stackTraces = false) (B : wB) (X Y : wM) (o : Int64) (dd : UInt64) (td : wX) {a0 : Int32} {a1 : Int32} {res : (Int32)} (h : f_X0_tiedTo a0 a1 = some res) : wMet l B yX0_tiedTo cX0_tiedTo 7 (some .int) 1 22 0 0 [.int (a0), .int (a1)] (X, Y, o, dd, td) (rp (some (.int (res))) (X, Y, o, dd, td)) xp0 :=
  wMet.of hl (by decide +kernel) (Nat.le_of_ble_eq_true rfl) (fun G hB hL hG hE hT => by subst hB; exact g_f_X0_tiedTo hG hE hT h)
def f_X0_groupEnd (a0 : Int32) : Option (Int32) :=
  some (1 <<< ((6 + (a0 - a0 / 4 * 4)) &&& 31))
set_option maxRecDepth 4000 in
theorem g_f_X0_groupEnd {G : wG} (hG : wOk G RX0 cX0_groupEnd 1 0 0) {X Y : wM} {o : Int64} {dd : UInt64} {td : wX} {res : (Int32)} (hE : wEnd G (some .int) (rp (some (.int (res))) (X, Y, o, dd, td)) xp0) (hT : wNoTab G) {a0 : Int32} (h : f_X0_groupEnd a0 = some res) : J G 1 0 0 0 [(0, .int (a0))] [] (X, Y, o, dd, td) := by
  unfold f_X0_groupEnd at h
  refine j_iconst hG (v := 1) (dt dtX0_groupEnd_0 0 rfl) (by decide) ?_
  refine j_bipush hG (v := 6) (dt dtX0_groupEnd_0 1 rfl) (by decide) ?_
  refine j_iload_n hG 0 (dt dtX0_groupEnd_0 2 rfl) rfl rfl ?_
  refine j_iconst hG (v := 4) (dt dtX0_groupEnd_0 3 rfl) (by decide) ?_
  refine j_irem hG (dt dtX0_groupEnd_0 4 rfl) (by decide) ?_
  refine j_iadd hG (dt dtX0_groupEnd_0 5 rfl) ?_
  refine j_ishl hG (dt dtX0_groupEnd_0 6 rfl) ?_
  obtain rfl := Option.some.inj h
  exact j_iret hG hE ⟨rfl, rfl⟩ (dt dtX0_groupEnd_0 7 rfl)
theorem ct_X0_groupEnd {l : Launch} (hl : l.stackTraces = false) (B : wB) (X Y : wM) (o : Int64) (dd : UInt64) (td : wX) {a0 : Int32} {res : (Int32)} (h : f_X0_groupEnd a0 = some res) : wMet l B yX0_groupEnd cX0_groupEnd 1 (some .int) 0 0 0 0 [.int (a0)] (X, Y, o, dd, td) (rp (some (.int (res))) (X, Y, o, dd, td)) xp0 :=
  wMet.of hl (by decide +kernel) (Nat.le_of_ble_eq_true rfl) (fun G hB hL hG hE hT => by subst hB; exact g_f_X0_groupEnd hG hE hT h)
def f_X0_isFound_29 (s0 : Int32) : Option (Int32) :=
  wgd (wokN .boolean s0) (some s0)
def f_X0_isFound (a0 : Int32) (a1 : Int32) : Option (Int32) :=
  (f_X0_blockEnd a1).bind fun y1 =>
  (f_X0_tiedTo y1 (a0 &&& ((1 <<< (a1 &&& 31)) ^^^ (-1)))).bind fun y11 =>
  (f_X0_groupEnd a1).bind fun y17 =>
  (if (y11 &&& y17) = 0 then f_X0_isFound_29 (1 : Int32)
  else f_X0_isFound_29 (0 : Int32))
set_option maxRecDepth 4000 in
theorem g_f_X0_isFound_29 {G : wG} (hG : wOk G RX0 cX0_isFound 3 2 48) {X Y : wM} {o : Int64} {dd : UInt64} {td : wX} {res : (Int32)} (hE : wEnd G (some .boolean) (rp (some (.int (res))) (X, Y, o, dd, td)) xp0) (hT : wNoTab G) {s0 : Int32} (h : f_X0_isFound_29 s0 = some res) : J G 3 0 0 29 [] [.int (s0)] (X, Y, o, dd, td) := by
  unfold f_X0_isFound_29 at h
  obtain ⟨c29, h⟩ := wgd_ok h
  obtain rfl := Option.some.inj h
  exact j_zret hG hE (wokN_ok c29) ⟨rfl, rfl⟩ (dt dtX0_isFound_0 19 rfl)
set_option maxRecDepth 4000 in
theorem g_f_X0_isFound {G : wG} (hG : wOk G RX0 cX0_isFound 3 2 48) {X Y : wM} {o : Int64} {dd : UInt64} {td : wX} {res : (Int32)} (hE : wEnd G (some .boolean) (rp (some (.int (res))) (X, Y, o, dd, td)) xp0) (hT : wNoTab G) {a0 : Int32} {a1 : Int32} (h : f_X0_isFound a0 a1 = some res) : J G 3 0 0 0 [(0, .int (a0)), (1, .int (a1))] [] (X, Y, o, dd, td) := by
  unfold f_X0_isFound at h
  refine j_iload_n hG 1 (dt dtX0_isFound_0 0 rfl) rfl rfl ?_
  refine j_callSp hG h (V := fun y1 => (some (.int (y1)))) (S := fun y1 => (X, Y, o, dd, td)) (kc := 0) (ks := 0) (fun z hz => ct_X0_blockEnd hG.2.2.1 (gB G) _ _ _ _ _ hz) mf_X0_blockEnd ml_X0_9 rfl (rest := []) rfl (Nat.le_of_ble_eq_true rfl) (dt dtX0_isFound_0 1 rfl) (by decide) (by decide) (fun y1 h => ?_)
  refine j_iload_n hG 0 (dt dtX0_isFound_0 2 rfl) rfl rfl ?_
  refine j_iconst hG (v := 1) (dt dtX0_isFound_0 3 rfl) (by decide) ?_
  refine j_iload_n hG 1 (dt dtX0_isFound_0 4 rfl) rfl rfl ?_
  refine j_ishl hG (dt dtX0_isFound_0 5 rfl) ?_
  refine j_iconst hG (v := (-1)) (dt dtX0_isFound_0 6 rfl) (by decide) ?_
  refine j_ixor hG (dt dtX0_isFound_0 7 rfl) ?_
  refine j_iand hG (dt dtX0_isFound_0 8 rfl) ?_
  refine j_callSp hG h (V := fun y11 => (some (.int (y11)))) (S := fun y11 => (X, Y, o, dd, td)) (kc := 0) (ks := 0) (fun z hz => ct_X0_tiedTo hG.2.2.1 (gB G) _ _ _ _ _ hz) mf_X0_tiedTo ml_X0_36 rfl (rest := []) rfl (Nat.le_of_ble_eq_true rfl) (dt dtX0_isFound_0 9 rfl) (by decide) (by decide) (fun y11 h => ?_)
  refine j_istore_n hG (lv' := [(2, .int (y11)), (0, .int (a0)), (1, .int (a1))]) (dt dtX0_isFound_0 10 rfl) rfl (by decide) rfl ?_
  refine j_iload_n hG 0 (dt dtX0_isFound_0 11 rfl) rfl rfl ?_
  refine j_iload_n hG 2 (dt dtX0_isFound_0 12 rfl) rfl rfl ?_
  refine j_callSp hG h (V := fun y17 => (some (.int (y17)))) (S := fun y17 => (X, Y, o, dd, td)) (kc := 0) (ks := 0) (fun z hz => ct_X0_groupEnd hG.2.2.1 (gB G) _ _ _ _ _ hz) mf_X0_groupEnd ml_X0_15 rfl (rest := [.int (y11)]) rfl (Nat.le_of_ble_eq_true rfl) (dt dtX0_isFound_0 13 rfl) (by decide) (by decide) (fun y17 h => ?_)
  refine j_iand hG (dt dtX0_isFound_0 14 rfl) ?_
  refine j_if_ne hG (tgt := 28) (dt dtX0_isFound_0 15 rfl) (by decide) h (fun h => ?_) (fun h => ?_)
  · refine j_iconst hG (v := 1) (dt dtX0_isFound_0 16 rfl) (by decide) ?_
    refine j_goto hG (tgt := 29) (dt dtX0_isFound_0 17 rfl) (by decide) ?_
    refine j_lv (lv' := []) [] rfl ?_
    exact g_f_X0_isFound_29 hG hE hT h
  · refine j_iconst hG (v := 0) (dt dtX0_isFound_0 18 rfl) (by decide) ?_
    refine j_lv (lv' := []) [] rfl ?_
    exact g_f_X0_isFound_29 hG hE hT h
theorem ct_X0_isFound {l : Launch} (hl : l.stackTraces = false) (B : wB) (X Y : wM) (o : Int64) (dd : UInt64) (td : wX) {a0 : Int32} {a1 : Int32} {res : (Int32)} (h : f_X0_isFound a0 a1 = some res) : wMet l B yX0_isFound cX0_isFound 3 (some .boolean) 2 48 0 0 [.int (a0), .int (a1)] (X, Y, o, dd, td) (rp (some (.int (res))) (X, Y, o, dd, td)) xp0 :=
  wMet.of hl (by decide +kernel) (Nat.le_of_ble_eq_true rfl) (fun G hB hL hG hE hT => by subst hB; exact g_f_X0_isFound hG hE hT h)
def f_X0_firstFound_26 (k2 : Int32 → Int32 → Option (Int32)) (l0 : Int32) (l1 : Int32) : Option (Int32) :=
  wbd (l1 + 1) fun v26 =>
  k2 l0 v26
def f_X0_firstFound_2b (k2 : Int32 → Int32 → Option (Int32)) (l0 : Int32) (l1 : Int32) : Option (Int32) :=
  (if l1 < 24 then (f_X0_has l0 l1).bind fun y10 =>
  (if y10 = 0 then f_X0_firstFound_26 k2 l0 l1
  else (f_X0_isFound l0 l1).bind fun y18 =>
  (if y18 = 0 then f_X0_firstFound_26 k2 l0 l1
  else some l1))
  else some (-1))
def f_X0_firstFound_2 : Nat → Int32 → Int32 → Option (Int32)
  | 0 => fun _ _ => none
  | n + 1 => fun l0 l1 => f_X0_firstFound_2b (f_X0_firstFound_2 n) l0 l1
def f_X0_firstFound (a0 : Int32) : Option (Int32) :=
  f_X0_firstFound_2 1000 a0 (0 : Int32)
set_option maxRecDepth 4000 in
theorem g_f_X0_firstFound_26 {G : wG} (hG : wOk G RX0 cX0_firstFound 2 3 70) {X Y : wM} {o : Int64} {dd : UInt64} {td : wX} {res : (Int32)} (hE : wEnd G (some .int) (rp (some (.int (res))) (X, Y, o, dd, td)) xp0) (hT : wNoTab G) {k2 : Int32 → Int32 → Option (Int32)} (hk2 : ∀ (l0 : Int32) (l1 : Int32), k2 l0 l1 = some res → J G 2 0 0 2 [(0, .int (l0)), (1, .int (l1))] [] (X, Y, o, dd, td)) {l0 : Int32} {l1 : Int32} (h : f_X0_firstFound_26 k2 l0 l1 = some res) : J G 2 0 0 26 [(0, .int (l0)), (1, .int (l1))] [] (X, Y, o, dd, td) := by
  unfold f_X0_firstFound_26 at h
  refine j_iincB hG 1 (fun v26 => [(1, .int (v26)), (0, .int (l0))]) (dt dtX0_firstFound_0 15 rfl) rfl rfl (by decide) (fun _ => rfl) h (fun v26 h => ?_)
  refine j_goto hG (tgt := 2) (dt dtX0_firstFound_0 16 rfl) (by decide) ?_
  refine j_lv (lv' := [(0, .int (l0)), (1, .int (v26))]) [1, 0] rfl ?_
  exact hk2 l0 v26 h
set_option maxRecDepth 4000 in
theorem g_f_X0_firstFound_2b {G : wG} (hG : wOk G RX0 cX0_firstFound 2 3 70) {X Y : wM} {o : Int64} {dd : UInt64} {td : wX} {res : (Int32)} (hE : wEnd G (some .int) (rp (some (.int (res))) (X, Y, o, dd, td)) xp0) (hT : wNoTab G) {k2 : Int32 → Int32 → Option (Int32)} (hk2 : ∀ (l0 : Int32) (l1 : Int32), k2 l0 l1 = some res → J G 2 0 0 2 [(0, .int (l0)), (1, .int (l1))] [] (X, Y, o, dd, td)) {l0 : Int32} {l1 : Int32} (h : f_X0_firstFound_2b k2 l0 l1 = some res) : J G 2 0 0 2 [(0, .int (l0)), (1, .int (l1))] [] (X, Y, o, dd, td) := by
  unfold f_X0_firstFound_2b at h
  refine j_iload_n hG 1 (dt dtX0_firstFound_0 2 rfl) rfl rfl ?_
  refine j_bipush hG (v := 24) (dt dtX0_firstFound_0 3 rfl) (by decide) ?_
  refine j_icmp_ge hG (tgt := 32) (dt dtX0_firstFound_0 4 rfl) (by decide) h (fun h => ?_) (fun h => ?_)
  · refine j_iload_n hG 0 (dt dtX0_firstFound_0 5 rfl) rfl rfl ?_
    refine j_iload_n hG 1 (dt dtX0_firstFound_0 6 rfl) rfl rfl ?_
    refine j_callSp hG h (V := fun y10 => (some (.int (y10)))) (S := fun y10 => (X, Y, o, dd, td)) (kc := 0) (ks := 0) (fun z hz => ct_X0_has hG.2.2.1 (gB G) _ _ _ _ _ hz) mf_X0_has ml_X0_29 rfl (rest := []) rfl (Nat.le_of_ble_eq_true rfl) (dt dtX0_firstFound_0 7 rfl) (by decide) (by decide) (fun y10 h => ?_)
    refine j_if_eq hG (tgt := 26) (dt dtX0_firstFound_0 8 rfl) (by decide) h (fun h => ?_) (fun h => ?_)
    · exact g_f_X0_firstFound_26 hG hE hT hk2 h
    · refine j_iload_n hG 0 (dt dtX0_firstFound_0 9 rfl) rfl rfl ?_
      refine j_iload_n hG 1 (dt dtX0_firstFound_0 10 rfl) rfl rfl ?_
      refine j_callSp hG h (V := fun y18 => (some (.int (y18)))) (S := fun y18 => (X, Y, o, dd, td)) (kc := 0) (ks := 0) (fun z hz => ct_X0_isFound hG.2.2.1 (gB G) _ _ _ _ _ hz) mf_X0_isFound ml_X0_33 rfl (rest := []) rfl (Nat.le_of_ble_eq_true rfl) (dt dtX0_firstFound_0 11 rfl) (by decide) (by decide) (fun y18 h => ?_)
      refine j_if_eq hG (tgt := 26) (dt dtX0_firstFound_0 12 rfl) (by decide) h (fun h => ?_) (fun h => ?_)
      · exact g_f_X0_firstFound_26 hG hE hT hk2 h
      · refine j_iload_n hG 1 (dt dtX0_firstFound_0 13 rfl) rfl rfl ?_
        obtain rfl := Option.some.inj h
        exact j_iret hG hE ⟨rfl, rfl⟩ (dt dtX0_firstFound_0 14 rfl)
  · refine j_iconst hG (v := (-1)) (dt dtX0_firstFound_0 17 rfl) (by decide) ?_
    obtain rfl := Option.some.inj h
    exact j_iret hG hE ⟨rfl, rfl⟩ (dt dtX0_firstFound_0 18 rfl)
set_option maxRecDepth 4000 in
theorem g_f_X0_firstFound_2 {G : wG} (hG : wOk G RX0 cX0_firstFound 2 3 70) {X : wM} {Y : wM} {o : Int64} {dd : UInt64} {td : wX} {res : (Int32)} (hE : wEnd G (some .int) (rp (some (.int (res))) (X, Y, o, dd, td)) xp0) (hT : wNoTab G) (n : Nat) : ∀ (l0 : Int32) (l1 : Int32), f_X0_firstFound_2 n l0 l1 = some res → J G 2 0 0 2 [(0, .int (l0)), (1, .int (l1))] [] (X, Y, o, dd, td) := by
  induction n with
  | zero => intro l0 l1 h; cases h
  | succ n ih =>
    intro l0 l1 h
    exact g_f_X0_firstFound_2b hG hE hT ih h
set_option maxRecDepth 4000 in
theorem g_f_X0_firstFound {G : wG} (hG : wOk G RX0 cX0_firstFound 2 3 70) {X Y : wM} {o : Int64} {dd : UInt64} {td : wX} {res : (Int32)} (hE : wEnd G (some .int) (rp (some (.int (res))) (X, Y, o, dd, td)) xp0) (hT : wNoTab G) {a0 : Int32} (h : f_X0_firstFound a0 = some res) : J G 2 0 0 0 [(0, .int (a0))] [] (X, Y, o, dd, td) := by
  unfold f_X0_firstFound at h
  refine j_iconst hG (v := 0) (dt dtX0_firstFound_0 0 rfl) (by decide) ?_
  refine j_istore_n hG (lv' := [(1, .int (0)), (0, .int (a0))]) (dt dtX0_firstFound_0 1 rfl) rfl (by decide) rfl ?_
  refine j_lv (lv' := [(0, .int (a0)), (1, .int (0))]) [1, 0] rfl ?_
  exact g_f_X0_firstFound_2 hG hE hT 1000 a0 (0 : Int32) h
theorem ct_X0_firstFound {l : Launch} (hl : l.stackTraces = false) (B : wB) (X Y : wM) (o : Int64) (dd : UInt64) (td : wX) {a0 : Int32} {res : (Int32)} (h : f_X0_firstFound a0 = some res) : wMet l B yX0_firstFound cX0_firstFound 2 (some .int) 3 70 0 0 [.int (a0)] (X, Y, o, dd, td) (rp (some (.int (res))) (X, Y, o, dd, td)) xp0 :=
  wMet.of hl (by decide +kernel) (Nat.le_of_ble_eq_true rfl) (fun G hB hL hG hE hT => by subst hB; exact g_f_X0_firstFound hG hE hT h)
def f_X0_endsOf (a0 : Int32) : Option (Int32) :=
  (f_X0_blockEnd a0).bind fun y1 =>
  (f_X0_groupEnd a0).bind fun y5 =>
  some (y1 ||| y5)
set_option maxRecDepth 4000 in
theorem g_f_X0_endsOf {G : wG} (hG : wOk G RX0 cX0_endsOf 1 1 20) {X Y : wM} {o : Int64} {dd : UInt64} {td : wX} {res : (Int32)} (hE : wEnd G (some .int) (rp (some (.int (res))) (X, Y, o, dd, td)) xp0) (hT : wNoTab G) {a0 : Int32} (h : f_X0_endsOf a0 = some res) : J G 1 0 0 0 [(0, .int (a0))] [] (X, Y, o, dd, td) := by
  unfold f_X0_endsOf at h
  refine j_iload_n hG 0 (dt dtX0_endsOf_0 0 rfl) rfl rfl ?_
  refine j_callSp hG h (V := fun y1 => (some (.int (y1)))) (S := fun y1 => (X, Y, o, dd, td)) (kc := 0) (ks := 0) (fun z hz => ct_X0_blockEnd hG.2.2.1 (gB G) _ _ _ _ _ hz) mf_X0_blockEnd ml_X0_9 rfl (rest := []) rfl (Nat.le_of_ble_eq_true rfl) (dt dtX0_endsOf_0 1 rfl) (by decide) (by decide) (fun y1 h => ?_)
  refine j_iload_n hG 0 (dt dtX0_endsOf_0 2 rfl) rfl rfl ?_
  refine j_callSp hG h (V := fun y5 => (some (.int (y5)))) (S := fun y5 => (X, Y, o, dd, td)) (kc := 0) (ks := 0) (fun z hz => ct_X0_groupEnd hG.2.2.1 (gB G) _ _ _ _ _ hz) mf_X0_groupEnd ml_X0_15 rfl (rest := [.int (y1)]) rfl (Nat.le_of_ble_eq_true rfl) (dt dtX0_endsOf_0 3 rfl) (by decide) (by decide) (fun y5 h => ?_)
  refine j_ior hG (dt dtX0_endsOf_0 4 rfl) ?_
  obtain rfl := Option.some.inj h
  exact j_iret hG hE ⟨rfl, rfl⟩ (dt dtX0_endsOf_0 5 rfl)
theorem ct_X0_endsOf {l : Launch} (hl : l.stackTraces = false) (B : wB) (X Y : wM) (o : Int64) (dd : UInt64) (td : wX) {a0 : Int32} {res : (Int32)} (h : f_X0_endsOf a0 = some res) : wMet l B yX0_endsOf cX0_endsOf 1 (some .int) 1 20 0 0 [.int (a0)] (X, Y, o, dd, td) (rp (some (.int (res))) (X, Y, o, dd, td)) xp0 :=
  wMet.of hl (by decide +kernel) (Nat.le_of_ble_eq_true rfl) (fun G hB hL hG hE hT => by subst hB; exact g_f_X0_endsOf hG hE hT h)
def f_X0_leastOf_34 (k4 : Int32 → Int32 → Int32 → Option (Int32)) (p0 : Nat → Int32) (l1 : Int32) (l2 : Int32) (l3 : Int32) : Option (Int32) :=
  wbd (l3 + 1) fun v34 =>
  k4 l1 l2 v34
def f_X0_leastOf_32 (k4 : Int32 → Int32 → Int32 → Option (Int32)) (p0 : Nat → Int32) (l1 : Int32) (l3 : Int32) : Option (Int32) :=
  f_X0_leastOf_34 k4 p0 l1 l3 l3
def f_X0_leastOf_4b (k4 : Int32 → Int32 → Int32 → Option (Int32)) (p0 : Nat → Int32) (l1 : Int32) (l2 : Int32) (l3 : Int32) : Option (Int32) :=
  (if l3 < 24 then (f_X0_has l1 l3).bind fun y12 =>
  (if y12 = 0 then f_X0_leastOf_34 k4 p0 l1 l2 l3
  else (if l2 = (-1) then f_X0_leastOf_32 k4 p0 l1 l3
  else wget 24 p0 l3 fun v25 =>
  wget 24 p0 l2 fun v28 =>
  (if v25 < v28 then f_X0_leastOf_32 k4 p0 l1 l3
  else f_X0_leastOf_34 k4 p0 l1 l2 l3)))
  else some l2)
def f_X0_leastOf_4 (p0 : Nat → Int32) : Nat → Int32 → Int32 → Int32 → Option (Int32)
  | 0 => fun _ _ _ => none
  | n + 1 => fun l1 l2 l3 => f_X0_leastOf_4b (f_X0_leastOf_4 p0 n) p0 l1 l2 l3
def f_X0_leastOf (p0 : Nat → Int32) (a1 : Int32) : Option (Int32) :=
  f_X0_leastOf_4 p0 1000 a1 ((-1) : Int32) (0 : Int32)
set_option maxRecDepth 4000 in
theorem g_f_X0_leastOf_34 {G : wG} (hG : wOk G RX0 cX0_leastOf 4 1 21) {X Y : wM} {o : Int64} {dd : UInt64} {td : wX} {p0k p0a : Nat} {p0 : Nat → Int32} (hp0 : (wl (gB G) (X, Y, o, dd, td))[p0k]? = some (p0a, .inl (wdA (gB G) 0, 24, .inl p0))) {res : (Int32)} (hE : wEnd G (some .int) (rp (some (.int (res))) (X, Y, o, dd, td)) xp0) (hT : wNoTab G) {k4 : Int32 → Int32 → Int32 → Option (Int32)} (hk4 : ∀ (l1 : Int32) (l2 : Int32) (l3 : Int32), k4 l1 l2 l3 = some res → J G 4 0 0 4 [(0, .ref p0a), (1, .int (l1)), (2, .int (l2)), (3, .int (l3))] [] (X, Y, o, dd, td)) {l1 : Int32} {l2 : Int32} {l3 : Int32} (h : f_X0_leastOf_34 k4 p0 l1 l2 l3 = some res) : J G 4 0 0 34 [(0, .ref p0a), (1, .int (l1)), (2, .int (l2)), (3, .int (l3))] [] (X, Y, o, dd, td) := by
  unfold f_X0_leastOf_34 at h
  refine j_iincB hG 3 (fun v34 => [(3, .int (v34)), (0, .ref p0a), (1, .int (l1)), (2, .int (l2))]) (dt dtX0_leastOf_0 23 rfl) rfl rfl (by decide) (fun _ => rfl) h (fun v34 h => ?_)
  refine j_goto hG (tgt := 4) (dt dtX0_leastOf_0 24 rfl) (by decide) ?_
  refine j_lv (lv' := [(0, .ref p0a), (1, .int (l1)), (2, .int (l2)), (3, .int (v34))]) [1, 2, 3, 0] rfl ?_
  exact hk4 l1 l2 v34 h
set_option maxRecDepth 4000 in
theorem g_f_X0_leastOf_32 {G : wG} (hG : wOk G RX0 cX0_leastOf 4 1 21) {X Y : wM} {o : Int64} {dd : UInt64} {td : wX} {p0k p0a : Nat} {p0 : Nat → Int32} (hp0 : (wl (gB G) (X, Y, o, dd, td))[p0k]? = some (p0a, .inl (wdA (gB G) 0, 24, .inl p0))) {res : (Int32)} (hE : wEnd G (some .int) (rp (some (.int (res))) (X, Y, o, dd, td)) xp0) (hT : wNoTab G) {k4 : Int32 → Int32 → Int32 → Option (Int32)} (hk4 : ∀ (l1 : Int32) (l2 : Int32) (l3 : Int32), k4 l1 l2 l3 = some res → J G 4 0 0 4 [(0, .ref p0a), (1, .int (l1)), (2, .int (l2)), (3, .int (l3))] [] (X, Y, o, dd, td)) {l1 : Int32} {l3 : Int32} (h : f_X0_leastOf_32 k4 p0 l1 l3 = some res) : J G 4 0 0 32 [(0, .ref p0a), (1, .int (l1)), (3, .int (l3))] [] (X, Y, o, dd, td) := by
  unfold f_X0_leastOf_32 at h
  refine j_iload_n hG 2 (dt dtX0_leastOf_0 21 rfl) rfl rfl ?_
  refine j_istore_n hG (lv' := [(2, .int (l3)), (0, .ref p0a), (1, .int (l1)), (3, .int (l3))]) (dt dtX0_leastOf_0 22 rfl) rfl (by decide) rfl ?_
  refine j_lv (lv' := [(0, .ref p0a), (1, .int (l1)), (2, .int (l3)), (3, .int (l3))]) [1, 2, 0, 3] rfl ?_
  exact g_f_X0_leastOf_34 hG hp0 hE hT hk4 h
set_option maxRecDepth 4000 in
theorem g_f_X0_leastOf_4b {G : wG} (hG : wOk G RX0 cX0_leastOf 4 1 21) {X Y : wM} {o : Int64} {dd : UInt64} {td : wX} {p0k p0a : Nat} {p0 : Nat → Int32} (hp0 : (wl (gB G) (X, Y, o, dd, td))[p0k]? = some (p0a, .inl (wdA (gB G) 0, 24, .inl p0))) {res : (Int32)} (hE : wEnd G (some .int) (rp (some (.int (res))) (X, Y, o, dd, td)) xp0) (hT : wNoTab G) {k4 : Int32 → Int32 → Int32 → Option (Int32)} (hk4 : ∀ (l1 : Int32) (l2 : Int32) (l3 : Int32), k4 l1 l2 l3 = some res → J G 4 0 0 4 [(0, .ref p0a), (1, .int (l1)), (2, .int (l2)), (3, .int (l3))] [] (X, Y, o, dd, td)) {l1 : Int32} {l2 : Int32} {l3 : Int32} (h : f_X0_leastOf_4b k4 p0 l1 l2 l3 = some res) : J G 4 0 0 4 [(0, .ref p0a), (1, .int (l1)), (2, .int (l2)), (3, .int (l3))] [] (X, Y, o, dd, td) := by
  unfold f_X0_leastOf_4b at h
  refine j_iload_n hG 3 (dt dtX0_leastOf_0 4 rfl) rfl rfl ?_
  refine j_bipush hG (v := 24) (dt dtX0_leastOf_0 5 rfl) (by decide) ?_
  refine j_icmp_ge hG (tgt := 40) (dt dtX0_leastOf_0 6 rfl) (by decide) h (fun h => ?_) (fun h => ?_)
  · refine j_iload_n hG 1 (dt dtX0_leastOf_0 7 rfl) rfl rfl ?_
    refine j_iload_n hG 3 (dt dtX0_leastOf_0 8 rfl) rfl rfl ?_
    refine j_callSp hG h (V := fun y12 => (some (.int (y12)))) (S := fun y12 => (X, Y, o, dd, td)) (kc := 0) (ks := 0) (fun z hz => ct_X0_has hG.2.2.1 (gB G) _ _ _ _ _ hz) mf_X0_has ml_X0_29 rfl (rest := []) rfl (Nat.le_of_ble_eq_true rfl) (dt dtX0_leastOf_0 9 rfl) (by decide) (by decide) (fun y12 h => ?_)
    refine j_if_eq hG (tgt := 34) (dt dtX0_leastOf_0 10 rfl) (by decide) h (fun h => ?_) (fun h => ?_)
    · exact g_f_X0_leastOf_34 hG hp0 hE hT hk4 h
    · refine j_iload_n hG 2 (dt dtX0_leastOf_0 11 rfl) rfl rfl ?_
      refine j_iconst hG (v := (-1)) (dt dtX0_leastOf_0 12 rfl) (by decide) ?_
      refine j_icmp_eq hG (tgt := 32) (dt dtX0_leastOf_0 13 rfl) (by decide) h (fun h => ?_) (fun h => ?_)
      · refine j_lv (lv' := [(0, .ref p0a), (1, .int (l1)), (3, .int (l3))]) [0, 1, 3] rfl ?_
        exact g_f_X0_leastOf_32 hG hp0 hE hT hk4 h
      · refine j_aload_n hG 0 (dt dtX0_leastOf_0 14 rfl) rfl rfl ?_
        refine j_iload_n hG 3 (dt dtX0_leastOf_0 15 rfl) rfl rfl ?_
        refine j_iald hG _ hp0 h (dt dtX0_leastOf_0 16 rfl) (fun v25 h => ?_)
        refine j_aload_n hG 0 (dt dtX0_leastOf_0 17 rfl) rfl rfl ?_
        refine j_iload_n hG 2 (dt dtX0_leastOf_0 18 rfl) rfl rfl ?_
        refine j_iald hG _ hp0 h (dt dtX0_leastOf_0 19 rfl) (fun v28 h => ?_)
        refine j_icmp_ge hG (tgt := 34) (dt dtX0_leastOf_0 20 rfl) (by decide) h (fun h => ?_) (fun h => ?_)
        · refine j_lv (lv' := [(0, .ref p0a), (1, .int (l1)), (3, .int (l3))]) [0, 1, 3] rfl ?_
          exact g_f_X0_leastOf_32 hG hp0 hE hT hk4 h
        · exact g_f_X0_leastOf_34 hG hp0 hE hT hk4 h
  · refine j_iload_n hG 2 (dt dtX0_leastOf_0 25 rfl) rfl rfl ?_
    obtain rfl := Option.some.inj h
    exact j_iret hG hE ⟨rfl, rfl⟩ (dt dtX0_leastOf_0 26 rfl)
set_option maxRecDepth 4000 in
theorem g_f_X0_leastOf_4 {G : wG} (hG : wOk G RX0 cX0_leastOf 4 1 21) {X : wM} {Y : wM} {o : Int64} {dd : UInt64} {td : wX} {p0k p0a : Nat} {p0 : Nat → Int32} (hp0 : (wl (gB G) (X, Y, o, dd, td))[p0k]? = some (p0a, .inl (wdA (gB G) 0, 24, .inl p0))) {res : (Int32)} (hE : wEnd G (some .int) (rp (some (.int (res))) (X, Y, o, dd, td)) xp0) (hT : wNoTab G) (n : Nat) : ∀ (l1 : Int32) (l2 : Int32) (l3 : Int32), f_X0_leastOf_4 p0 n l1 l2 l3 = some res → J G 4 0 0 4 [(0, .ref p0a), (1, .int (l1)), (2, .int (l2)), (3, .int (l3))] [] (X, Y, o, dd, td) := by
  induction n with
  | zero => intro l1 l2 l3 h; cases h
  | succ n ih =>
    intro l1 l2 l3 h
    exact g_f_X0_leastOf_4b hG hp0 hE hT ih h
set_option maxRecDepth 4000 in
theorem g_f_X0_leastOf {G : wG} (hG : wOk G RX0 cX0_leastOf 4 1 21) {X Y : wM} {o : Int64} {dd : UInt64} {td : wX} {p0k p0a : Nat} {p0 : Nat → Int32} (hp0 : (wl (gB G) (X, Y, o, dd, td))[p0k]? = some (p0a, .inl (wdA (gB G) 0, 24, .inl p0))) {res : (Int32)} (hE : wEnd G (some .int) (rp (some (.int (res))) (X, Y, o, dd, td)) xp0) (hT : wNoTab G) {a1 : Int32} (h : f_X0_leastOf p0 a1 = some res) : J G 4 0 0 0 [(0, .ref p0a), (1, .int (a1))] [] (X, Y, o, dd, td) := by
  unfold f_X0_leastOf at h
  refine j_iconst hG (v := (-1)) (dt dtX0_leastOf_0 0 rfl) (by decide) ?_
  refine j_istore_n hG (lv' := [(2, .int ((-1))), (0, .ref p0a), (1, .int (a1))]) (dt dtX0_leastOf_0 1 rfl) rfl (by decide) rfl ?_
  refine j_iconst hG (v := 0) (dt dtX0_leastOf_0 2 rfl) (by decide) ?_
  refine j_istore_n hG (lv' := [(3, .int (0)), (2, .int ((-1))), (0, .ref p0a), (1, .int (a1))]) (dt dtX0_leastOf_0 3 rfl) rfl (by decide) rfl ?_
  refine j_lv (lv' := [(0, .ref p0a), (1, .int (a1)), (2, .int ((-1))), (3, .int (0))]) [2, 3, 1, 0] rfl ?_
  exact g_f_X0_leastOf_4 hG hp0 hE hT 1000 a1 ((-1) : Int32) (0 : Int32) h
theorem ct_X0_leastOf {l : Launch} (hl : l.stackTraces = false) (B : wB) (X Y : wM) (o : Int64) (dd : UInt64) (td : wX) {a1 : Int32} {p0k p0a : Nat} {p0 : Nat → Int32} (hp0 : (wl B (X, Y, o, dd, td))[p0k]? = some (p0a, .inl (wdA B 0, 24, .inl p0))) {res : (Int32)} (h : f_X0_leastOf p0 a1 = some res) : wMet l B yX0_leastOf cX0_leastOf 4 (some .int) 1 21 0 0 [.ref p0a, .int (a1)] (X, Y, o, dd, td) (rp (some (.int (res))) (X, Y, o, dd, td)) xp0 :=
  wMet.of hl (by decide +kernel) (Nat.le_of_ble_eq_true rfl) (fun G hB hL hG hE hT => by subst hB; exact g_f_X0_leastOf hG hp0 hE hT h)
def f_X0_nextToHide_100 (k37 : Int32 → Int32 → Int32 → Int32 → Int32 → Int32 → Option (Int32)) (p0 : Nat → Int32) (l1 : Int32) (l4 : Int32) (l5 : Int32) (l6 : Int32) (l7 : Int32) (l8 : Int32) : Option (Int32) :=
  wbd (l8 + 1) fun v100 =>
  k37 l1 l4 l5 l6 l7 v100
def f_X0_nextToHide_119 (p0 : Nat → Int32) (s0 : Int32) : Option (Int32) :=
  (f_X0_leastOf p0 s0).bind fun y119 =>
  some y119
def f_X0_nextToHide_37b (k37 : Int32 → Int32 → Int32 → Int32 → Int32 → Int32 → Option (Int32)) (p0 : Nat → Int32) (l1 : Int32) (l4 : Int32) (l5 : Int32) (l6 : Int32) (l7 : Int32) (l8 : Int32) : Option (Int32) :=
  (if l8 < 24 then wget 24 p0 l8 fun v47 =>
  (if 0 < v47 then (f_X0_has l1 l8).bind fun y54 =>
  (if y54 = 0 then wbd (l6 ||| (1 <<< (l8 &&& 31))) fun v67 =>
  (f_X0_endsOf l8).bind fun y71 =>
  (if (y71 &&& l4) = 0 then f_X0_nextToHide_100 k37 p0 l1 l4 l5 v67 l7 l8
  else (f_X0_endsOf l8).bind fun y82 =>
  (if (y82 &&& l5) = 0 then f_X0_nextToHide_100 k37 p0 l1 l4 l5 v67 l7 l8
  else wbd (l7 ||| (1 <<< (l8 &&& 31))) fun v98 =>
  f_X0_nextToHide_100 k37 p0 l1 l4 l5 v67 v98 l8))
  else f_X0_nextToHide_100 k37 p0 l1 l4 l5 l6 l7 l8)
  else f_X0_nextToHide_100 k37 p0 l1 l4 l5 l6 l7 l8)
  else (if l7 = 0 then f_X0_nextToHide_119 p0 l6
  else f_X0_nextToHide_119 p0 l7))
def f_X0_nextToHide_37 (p0 : Nat → Int32) : Nat → Int32 → Int32 → Int32 → Int32 → Int32 → Int32 → Option (Int32)
  | 0 => fun _ _ _ _ _ _ => none
  | n + 1 => fun l1 l4 l5 l6 l7 l8 => f_X0_nextToHide_37b (f_X0_nextToHide_37 p0 n) p0 l1 l4 l5 l6 l7 l8
def f_X0_nextToHide (p0 : Nat → Int32) (a1 : Int32) (a2 : Int32) : Option (Int32) :=
  wbd (a1 &&& ((1 <<< (a2 &&& 31)) ^^^ (-1))) fun v7 =>
  (f_X0_blockEnd a2).bind fun y9 =>
  (f_X0_tiedTo y9 v7).bind fun y13 =>
  (f_X0_groupEnd a2).bind fun y19 =>
  (f_X0_tiedTo y19 v7).bind fun y23 =>
  f_X0_nextToHide_37 p0 1000 a1 y13 y23 (0 : Int32) (0 : Int32) (0 : Int32)
set_option maxRecDepth 4000 in
theorem g_f_X0_nextToHide_100 {G : wG} (hG : wOk G RX0 cX0_nextToHide 9 2 48) {X Y : wM} {o : Int64} {dd : UInt64} {td : wX} {p0k p0a : Nat} {p0 : Nat → Int32} (hp0 : (wl (gB G) (X, Y, o, dd, td))[p0k]? = some (p0a, .inl (wdA (gB G) 0, 24, .inl p0))) {res : (Int32)} (hE : wEnd G (some .int) (rp (some (.int (res))) (X, Y, o, dd, td)) xp0) (hT : wNoTab G) {k37 : Int32 → Int32 → Int32 → Int32 → Int32 → Int32 → Option (Int32)} (hk37 : ∀ (l1 : Int32) (l4 : Int32) (l5 : Int32) (l6 : Int32) (l7 : Int32) (l8 : Int32), k37 l1 l4 l5 l6 l7 l8 = some res → J G 9 0 0 37 [(0, .ref p0a), (1, .int (l1)), (4, .int (l4)), (5, .int (l5)), (6, .int (l6)), (7, .int (l7)), (8, .int (l8))] [] (X, Y, o, dd, td)) {l1 : Int32} {l4 : Int32} {l5 : Int32} {l6 : Int32} {l7 : Int32} {l8 : Int32} (h : f_X0_nextToHide_100 k37 p0 l1 l4 l5 l6 l7 l8 = some res) : J G 9 0 0 100 [(0, .ref p0a), (1, .int (l1)), (4, .int (l4)), (5, .int (l5)), (6, .int (l6)), (7, .int (l7)), (8, .int (l8))] [] (X, Y, o, dd, td) := by
  unfold f_X0_nextToHide_100 at h
  refine j_iincB hG 6 (fun v100 => [(8, .int (v100)), (0, .ref p0a), (1, .int (l1)), (4, .int (l4)), (5, .int (l5)), (6, .int (l6)), (7, .int (l7))]) (dt dtX0_nextToHide_0 57 rfl) rfl rfl (by decide) (fun _ => rfl) h (fun v100 h => ?_)
  refine j_goto hG (tgt := 37) (dt dtX0_nextToHide_0 58 rfl) (by decide) ?_
  refine j_lv (lv' := [(0, .ref p0a), (1, .int (l1)), (4, .int (l4)), (5, .int (l5)), (6, .int (l6)), (7, .int (l7)), (8, .int (v100))]) [1, 2, 3, 4, 5, 6, 0] rfl ?_
  exact hk37 l1 l4 l5 l6 l7 v100 h
set_option maxRecDepth 4000 in
theorem g_f_X0_nextToHide_119 {G : wG} (hG : wOk G RX0 cX0_nextToHide 9 2 48) {X Y : wM} {o : Int64} {dd : UInt64} {td : wX} {p0k p0a : Nat} {p0 : Nat → Int32} (hp0 : (wl (gB G) (X, Y, o, dd, td))[p0k]? = some (p0a, .inl (wdA (gB G) 0, 24, .inl p0))) {res : (Int32)} (hE : wEnd G (some .int) (rp (some (.int (res))) (X, Y, o, dd, td)) xp0) (hT : wNoTab G) {s0 : Int32} (h : f_X0_nextToHide_119 p0 s0 = some res) : J G 9 0 0 119 [] [.int (s0), .ref p0a] (X, Y, o, dd, td) := by
  unfold f_X0_nextToHide_119 at h
  refine j_callSp hG h (V := fun y119 => (some (.int (y119)))) (S := fun y119 => (X, Y, o, dd, td)) (kc := 0) (ks := 0) (fun z hz => ct_X0_leastOf hG.2.2.1 (gB G) _ _ _ _ _ hp0 hz) mf_X0_leastOf ml_X0_43 rfl (rest := []) rfl (Nat.le_of_ble_eq_true rfl) (dt dtX0_nextToHide_1 5 rfl) (by decide) (by decide) (fun y119 h => ?_)
  obtain rfl := Option.some.inj h
  exact j_iret hG hE ⟨rfl, rfl⟩ (dt dtX0_nextToHide_1 6 rfl)
set_option maxRecDepth 4000 in
theorem g_f_X0_nextToHide_37b {G : wG} (hG : wOk G RX0 cX0_nextToHide 9 2 48) {X Y : wM} {o : Int64} {dd : UInt64} {td : wX} {p0k p0a : Nat} {p0 : Nat → Int32} (hp0 : (wl (gB G) (X, Y, o, dd, td))[p0k]? = some (p0a, .inl (wdA (gB G) 0, 24, .inl p0))) {res : (Int32)} (hE : wEnd G (some .int) (rp (some (.int (res))) (X, Y, o, dd, td)) xp0) (hT : wNoTab G) {k37 : Int32 → Int32 → Int32 → Int32 → Int32 → Int32 → Option (Int32)} (hk37 : ∀ (l1 : Int32) (l4 : Int32) (l5 : Int32) (l6 : Int32) (l7 : Int32) (l8 : Int32), k37 l1 l4 l5 l6 l7 l8 = some res → J G 9 0 0 37 [(0, .ref p0a), (1, .int (l1)), (4, .int (l4)), (5, .int (l5)), (6, .int (l6)), (7, .int (l7)), (8, .int (l8))] [] (X, Y, o, dd, td)) {l1 : Int32} {l4 : Int32} {l5 : Int32} {l6 : Int32} {l7 : Int32} {l8 : Int32} (h : f_X0_nextToHide_37b k37 p0 l1 l4 l5 l6 l7 l8 = some res) : J G 9 0 0 37 [(0, .ref p0a), (1, .int (l1)), (4, .int (l4)), (5, .int (l5)), (6, .int (l6)), (7, .int (l7)), (8, .int (l8))] [] (X, Y, o, dd, td) := by
  unfold f_X0_nextToHide_37b at h
  refine j_iload hG 6 (dt dtX0_nextToHide_0 24 rfl) rfl ?_
  refine j_bipush hG (v := 24) (dt dtX0_nextToHide_0 25 rfl) (by decide) ?_
  refine j_icmp_ge hG (tgt := 106) (dt dtX0_nextToHide_0 26 rfl) (by decide) h (fun h => ?_) (fun h => ?_)
  · refine j_aload_n hG 0 (dt dtX0_nextToHide_0 27 rfl) rfl rfl ?_
    refine j_iload hG 6 (dt dtX0_nextToHide_0 28 rfl) rfl ?_
    refine j_iald hG _ hp0 h (dt dtX0_nextToHide_0 29 rfl) (fun v47 h => ?_)
    refine j_if_le hG (tgt := 100) (dt dtX0_nextToHide_0 30 rfl) (by decide) h (fun h => ?_) (fun h => ?_)
    · refine j_iload_n hG 1 (dt dtX0_nextToHide_0 31 rfl) rfl rfl ?_
      refine j_iload hG 6 (dt dtX0_nextToHide_0 32 rfl) rfl ?_
      refine j_callSp hG h (V := fun y54 => (some (.int (y54)))) (S := fun y54 => (X, Y, o, dd, td)) (kc := 0) (ks := 0) (fun z hz => ct_X0_has hG.2.2.1 (gB G) _ _ _ _ _ hz) mf_X0_has ml_X0_29 rfl (rest := []) rfl (Nat.le_of_ble_eq_true rfl) (dt dtX0_nextToHide_0 33 rfl) (by decide) (by decide) (fun y54 h => ?_)
      refine j_if_ne hG (tgt := 100) (dt dtX0_nextToHide_0 34 rfl) (by decide) h (fun h => ?_) (fun h => ?_)
      · refine j_iload hG 4 (dt dtX0_nextToHide_0 35 rfl) rfl ?_
        refine j_iconst hG (v := 1) (dt dtX0_nextToHide_0 36 rfl) (by decide) ?_
        refine j_iload hG 6 (dt dtX0_nextToHide_0 37 rfl) rfl ?_
        refine j_ishl hG (dt dtX0_nextToHide_0 38 rfl) ?_
        refine j_ior hG (dt dtX0_nextToHide_0 39 rfl) ?_
        refine j_istoreB hG (fun v67 => [(6, .int (v67)), (0, .ref p0a), (1, .int (l1)), (4, .int (l4)), (5, .int (l5)), (7, .int (l7)), (8, .int (l8))]) (dt dtX0_nextToHide_0 40 rfl) (by decide) (fun _ => rfl) h (fun v67 h => ?_)
        refine j_iload hG 6 (dt dtX0_nextToHide_0 41 rfl) rfl ?_
        refine j_callSp hG h (V := fun y71 => (some (.int (y71)))) (S := fun y71 => (X, Y, o, dd, td)) (kc := 0) (ks := 0) (fun z hz => ct_X0_endsOf hG.2.2.1 (gB G) _ _ _ _ _ hz) mf_X0_endsOf ml_X0_40 rfl (rest := []) rfl (Nat.le_of_ble_eq_true rfl) (dt dtX0_nextToHide_0 42 rfl) (by decide) (by decide) (fun y71 h => ?_)
        refine j_iload hG 3 (dt dtX0_nextToHide_0 43 rfl) rfl ?_
        refine j_iand hG (dt dtX0_nextToHide_0 44 rfl) ?_
        refine j_if_eq hG (tgt := 100) (dt dtX0_nextToHide_0 45 rfl) (by decide) h (fun h => ?_) (fun h => ?_)
        · refine j_lv (lv' := [(0, .ref p0a), (1, .int (l1)), (4, .int (l4)), (5, .int (l5)), (6, .int (v67)), (7, .int (l7)), (8, .int (l8))]) [1, 2, 3, 4, 0, 5, 6] rfl ?_
          exact g_f_X0_nextToHide_100 hG hp0 hE hT hk37 h
        · refine j_iload hG 6 (dt dtX0_nextToHide_0 46 rfl) rfl ?_
          refine j_callSp hG h (V := fun y82 => (some (.int (y82)))) (S := fun y82 => (X, Y, o, dd, td)) (kc := 0) (ks := 0) (fun z hz => ct_X0_endsOf hG.2.2.1 (gB G) _ _ _ _ _ hz) mf_X0_endsOf ml_X0_40 rfl (rest := []) rfl (Nat.le_of_ble_eq_true rfl) (dt dtX0_nextToHide_0 47 rfl) (by decide) (by decide) (fun y82 h => ?_)
          refine j_iload hG 4 (dt dtX0_nextToHide_0 48 rfl) rfl ?_
          refine j_iand hG (dt dtX0_nextToHide_0 49 rfl) ?_
          refine j_if_eq hG (tgt := 100) (dt dtX0_nextToHide_0 50 rfl) (by decide) h (fun h => ?_) (fun h => ?_)
          · refine j_lv (lv' := [(0, .ref p0a), (1, .int (l1)), (4, .int (l4)), (5, .int (l5)), (6, .int (v67)), (7, .int (l7)), (8, .int (l8))]) [1, 2, 3, 4, 0, 5, 6] rfl ?_
            exact g_f_X0_nextToHide_100 hG hp0 hE hT hk37 h
          · refine j_iload hG 5 (dt dtX0_nextToHide_0 51 rfl) rfl ?_
            refine j_iconst hG (v := 1) (dt dtX0_nextToHide_0 52 rfl) (by decide) ?_
            refine j_iload hG 6 (dt dtX0_nextToHide_0 53 rfl) rfl ?_
            refine j_ishl hG (dt dtX0_nextToHide_0 54 rfl) ?_
            refine j_ior hG (dt dtX0_nextToHide_0 55 rfl) ?_
            refine j_istoreB hG (fun v98 => [(7, .int (v98)), (6, .int (v67)), (0, .ref p0a), (1, .int (l1)), (4, .int (l4)), (5, .int (l5)), (8, .int (l8))]) (dt dtX0_nextToHide_0 56 rfl) (by decide) (fun _ => rfl) h (fun v98 h => ?_)
            refine j_lv (lv' := [(0, .ref p0a), (1, .int (l1)), (4, .int (l4)), (5, .int (l5)), (6, .int (v67)), (7, .int (v98)), (8, .int (l8))]) [2, 3, 4, 5, 1, 0, 6] rfl ?_
            exact g_f_X0_nextToHide_100 hG hp0 hE hT hk37 h
      · exact g_f_X0_nextToHide_100 hG hp0 hE hT hk37 h
    · exact g_f_X0_nextToHide_100 hG hp0 hE hT hk37 h
  · refine j_aload_n hG 0 (dt dtX0_nextToHide_0 59 rfl) rfl rfl ?_
    refine j_iload hG 5 (dt dtX0_nextToHide_1 0 rfl) rfl ?_
    refine j_if_eq hG (tgt := 117) (dt dtX0_nextToHide_1 1 rfl) (by decide) h (fun h => ?_) (fun h => ?_)
    · refine j_iload hG 4 (dt dtX0_nextToHide_1 4 rfl) rfl ?_
      refine j_lv (lv' := []) [] rfl ?_
      exact g_f_X0_nextToHide_119 hG hp0 hE hT h
    · refine j_iload hG 5 (dt dtX0_nextToHide_1 2 rfl) rfl ?_
      refine j_goto hG (tgt := 119) (dt dtX0_nextToHide_1 3 rfl) (by decide) ?_
      refine j_lv (lv' := []) [] rfl ?_
      exact g_f_X0_nextToHide_119 hG hp0 hE hT h
set_option maxRecDepth 4000 in
theorem g_f_X0_nextToHide_37 {G : wG} (hG : wOk G RX0 cX0_nextToHide 9 2 48) {X : wM} {Y : wM} {o : Int64} {dd : UInt64} {td : wX} {p0k p0a : Nat} {p0 : Nat → Int32} (hp0 : (wl (gB G) (X, Y, o, dd, td))[p0k]? = some (p0a, .inl (wdA (gB G) 0, 24, .inl p0))) {res : (Int32)} (hE : wEnd G (some .int) (rp (some (.int (res))) (X, Y, o, dd, td)) xp0) (hT : wNoTab G) (n : Nat) : ∀ (l1 : Int32) (l4 : Int32) (l5 : Int32) (l6 : Int32) (l7 : Int32) (l8 : Int32), f_X0_nextToHide_37 p0 n l1 l4 l5 l6 l7 l8 = some res → J G 9 0 0 37 [(0, .ref p0a), (1, .int (l1)), (4, .int (l4)), (5, .int (l5)), (6, .int (l6)), (7, .int (l7)), (8, .int (l8))] [] (X, Y, o, dd, td) := by
  induction n with
  | zero => intro l1 l4 l5 l6 l7 l8 h; cases h
  | succ n ih =>
    intro l1 l4 l5 l6 l7 l8 h
    exact g_f_X0_nextToHide_37b hG hp0 hE hT ih h
set_option maxRecDepth 4000 in
theorem g_f_X0_nextToHide {G : wG} (hG : wOk G RX0 cX0_nextToHide 9 2 48) {X Y : wM} {o : Int64} {dd : UInt64} {td : wX} {p0k p0a : Nat} {p0 : Nat → Int32} (hp0 : (wl (gB G) (X, Y, o, dd, td))[p0k]? = some (p0a, .inl (wdA (gB G) 0, 24, .inl p0))) {res : (Int32)} (hE : wEnd G (some .int) (rp (some (.int (res))) (X, Y, o, dd, td)) xp0) (hT : wNoTab G) {a1 : Int32} {a2 : Int32} (h : f_X0_nextToHide p0 a1 a2 = some res) : J G 9 0 0 0 [(0, .ref p0a), (1, .int (a1)), (2, .int (a2))] [] (X, Y, o, dd, td) := by
  unfold f_X0_nextToHide at h
  refine j_iload_n hG 1 (dt dtX0_nextToHide_0 0 rfl) rfl rfl ?_
  refine j_iconst hG (v := 1) (dt dtX0_nextToHide_0 1 rfl) (by decide) ?_
  refine j_iload_n hG 2 (dt dtX0_nextToHide_0 2 rfl) rfl rfl ?_
  refine j_ishl hG (dt dtX0_nextToHide_0 3 rfl) ?_
  refine j_iconst hG (v := (-1)) (dt dtX0_nextToHide_0 4 rfl) (by decide) ?_
  refine j_ixor hG (dt dtX0_nextToHide_0 5 rfl) ?_
  refine j_iand hG (dt dtX0_nextToHide_0 6 rfl) ?_
  refine j_istoreB_n hG (fun v7 => [(3, .int (v7)), (0, .ref p0a), (1, .int (a1)), (2, .int (a2))]) (dt dtX0_nextToHide_0 7 rfl) rfl (by decide) (fun _ => rfl) h (fun v7 h => ?_)
  refine j_iload_n hG 3 (dt dtX0_nextToHide_0 8 rfl) rfl rfl ?_
  refine j_callSp hG h (V := fun y9 => (some (.int (y9)))) (S := fun y9 => (X, Y, o, dd, td)) (kc := 0) (ks := 0) (fun z hz => ct_X0_blockEnd hG.2.2.1 (gB G) _ _ _ _ _ hz) mf_X0_blockEnd ml_X0_9 rfl (rest := []) rfl (Nat.le_of_ble_eq_true rfl) (dt dtX0_nextToHide_0 9 rfl) (by decide) (by decide) (fun y9 h => ?_)
  refine j_iload_n hG 0 (dt dtX0_nextToHide_0 10 rfl) rfl rfl ?_
  refine j_callSp hG h (V := fun y13 => (some (.int (y13)))) (S := fun y13 => (X, Y, o, dd, td)) (kc := 0) (ks := 0) (fun z hz => ct_X0_tiedTo hG.2.2.1 (gB G) _ _ _ _ _ hz) mf_X0_tiedTo ml_X0_36 rfl (rest := []) rfl (Nat.le_of_ble_eq_true rfl) (dt dtX0_nextToHide_0 11 rfl) (by decide) (by decide) (fun y13 h => ?_)
  refine j_istore hG (lv' := [(4, .int (y13)), (3, .int (v7)), (0, .ref p0a), (1, .int (a1)), (2, .int (a2))]) (dt dtX0_nextToHide_0 12 rfl) (by decide) rfl ?_
  refine j_iload_n hG 4 (dt dtX0_nextToHide_0 13 rfl) rfl rfl ?_
  refine j_callSp hG h (V := fun y19 => (some (.int (y19)))) (S := fun y19 => (X, Y, o, dd, td)) (kc := 0) (ks := 0) (fun z hz => ct_X0_groupEnd hG.2.2.1 (gB G) _ _ _ _ _ hz) mf_X0_groupEnd ml_X0_15 rfl (rest := []) rfl (Nat.le_of_ble_eq_true rfl) (dt dtX0_nextToHide_0 14 rfl) (by decide) (by decide) (fun y19 h => ?_)
  refine j_iload_n hG 1 (dt dtX0_nextToHide_0 15 rfl) rfl rfl ?_
  refine j_callSp hG h (V := fun y23 => (some (.int (y23)))) (S := fun y23 => (X, Y, o, dd, td)) (kc := 0) (ks := 0) (fun z hz => ct_X0_tiedTo hG.2.2.1 (gB G) _ _ _ _ _ hz) mf_X0_tiedTo ml_X0_36 rfl (rest := []) rfl (Nat.le_of_ble_eq_true rfl) (dt dtX0_nextToHide_0 16 rfl) (by decide) (by decide) (fun y23 h => ?_)
  refine j_istore hG (lv' := [(5, .int (y23)), (4, .int (y13)), (3, .int (v7)), (0, .ref p0a), (1, .int (a1)), (2, .int (a2))]) (dt dtX0_nextToHide_0 17 rfl) (by decide) rfl ?_
  refine j_iconst hG (v := 0) (dt dtX0_nextToHide_0 18 rfl) (by decide) ?_
  refine j_istore hG (lv' := [(6, .int (0)), (5, .int (y23)), (4, .int (y13)), (3, .int (v7)), (0, .ref p0a), (1, .int (a1)), (2, .int (a2))]) (dt dtX0_nextToHide_0 19 rfl) (by decide) rfl ?_
  refine j_iconst hG (v := 0) (dt dtX0_nextToHide_0 20 rfl) (by decide) ?_
  refine j_istore hG (lv' := [(7, .int (0)), (6, .int (0)), (5, .int (y23)), (4, .int (y13)), (3, .int (v7)), (0, .ref p0a), (1, .int (a1)), (2, .int (a2))]) (dt dtX0_nextToHide_0 21 rfl) (by decide) rfl ?_
  refine j_iconst hG (v := 0) (dt dtX0_nextToHide_0 22 rfl) (by decide) ?_
  refine j_istore hG (lv' := [(8, .int (0)), (7, .int (0)), (6, .int (0)), (5, .int (y23)), (4, .int (y13)), (3, .int (v7)), (0, .ref p0a), (1, .int (a1)), (2, .int (a2))]) (dt dtX0_nextToHide_0 23 rfl) (by decide) rfl ?_
  refine j_lv (lv' := [(0, .ref p0a), (1, .int (a1)), (4, .int (y13)), (5, .int (y23)), (6, .int (0)), (7, .int (0)), (8, .int (0))]) [6, 7, 4, 3, 2, 1, 0] rfl ?_
  exact g_f_X0_nextToHide_37 hG hp0 hE hT 1000 a1 y13 y23 (0 : Int32) (0 : Int32) (0 : Int32) h
theorem ct_X0_nextToHide {l : Launch} (hl : l.stackTraces = false) (B : wB) (X Y : wM) (o : Int64) (dd : UInt64) (td : wX) {a1 : Int32} {a2 : Int32} {p0k p0a : Nat} {p0 : Nat → Int32} (hp0 : (wl B (X, Y, o, dd, td))[p0k]? = some (p0a, .inl (wdA B 0, 24, .inl p0))) {res : (Int32)} (h : f_X0_nextToHide p0 a1 a2 = some res) : wMet l B yX0_nextToHide cX0_nextToHide 9 (some .int) 2 48 0 0 [.ref p0a, .int (a1), .int (a2)] (X, Y, o, dd, td) (rp (some (.int (res))) (X, Y, o, dd, td)) xp0 :=
  wMet.of hl (by decide +kernel) (Nat.le_of_ble_eq_true rfl) (fun G hB hL hG hE hT => by subst hB; exact g_f_X0_nextToHide hG hp0 hE hT h)
def f_X0_choose_7b (k7 : Int32 → Int32 → Option (Int32)) (p0 : Nat → Int32) (l1 : Int32) (l2 : Int32) : Option (Int32) :=
  (if 24 < l2 then some (-1)
  else (f_X0_firstFound l1).bind fun y14 =>
  (if y14 = (-1) then some l1
  else (f_X0_nextToHide p0 l1 y14).bind fun y28 =>
  (if y28 = (-1) then some (-1)
  else wbd (l1 ||| (1 <<< (y28 &&& 31))) fun v47 =>
  wbd (l2 + 1) fun v48 =>
  k7 v47 v48)))
def f_X0_choose_7 (p0 : Nat → Int32) : Nat → Int32 → Int32 → Option (Int32)
  | 0 => fun _ _ => none
  | n + 1 => fun l1 l2 => f_X0_choose_7b (f_X0_choose_7 p0 n) p0 l1 l2
def f_X0_choose (p0 : Nat → Int32) : Option (Int32) :=
  (f_X0_smallCells p0).bind fun y1 =>
  f_X0_choose_7 p0 1000 y1 (0 : Int32)
set_option maxRecDepth 4000 in
theorem g_f_X0_choose_7b {G : wG} (hG : wOk G RX0 cX0_choose 5 4 91) {X Y : wM} {o : Int64} {dd : UInt64} {td : wX} {p0k p0a : Nat} {p0 : Nat → Int32} (hp0 : (wl (gB G) (X, Y, o, dd, td))[p0k]? = some (p0a, .inl (wdA (gB G) 0, 24, .inl p0))) {res : (Int32)} (hE : wEnd G (some .int) (rp (some (.int (res))) (X, Y, o, dd, td)) xp0) (hT : wNoTab G) {k7 : Int32 → Int32 → Option (Int32)} (hk7 : ∀ (l1 : Int32) (l2 : Int32), k7 l1 l2 = some res → J G 5 0 0 7 [(0, .ref p0a), (1, .int (l1)), (2, .int (l2))] [] (X, Y, o, dd, td)) {l1 : Int32} {l2 : Int32} (h : f_X0_choose_7b k7 p0 l1 l2 = some res) : J G 5 0 0 7 [(0, .ref p0a), (1, .int (l1)), (2, .int (l2))] [] (X, Y, o, dd, td) := by
  unfold f_X0_choose_7b at h
  refine j_iload_n hG 2 (dt dtX0_choose_0 5 rfl) rfl rfl ?_
  refine j_bipush hG (v := 24) (dt dtX0_choose_0 6 rfl) (by decide) ?_
  refine j_icmp_gt hG (tgt := 54) (dt dtX0_choose_0 7 rfl) (by decide) h (fun h => ?_) (fun h => ?_)
  · refine j_iconst hG (v := (-1)) (dt dtX0_choose_0 34 rfl) (by decide) ?_
    obtain rfl := Option.some.inj h
    exact j_iret hG hE ⟨rfl, rfl⟩ (dt dtX0_choose_0 35 rfl)
  · refine j_iload_n hG 1 (dt dtX0_choose_0 8 rfl) rfl rfl ?_
    refine j_callSp hG h (V := fun y14 => (some (.int (y14)))) (S := fun y14 => (X, Y, o, dd, td)) (kc := 0) (ks := 0) (fun z hz => ct_X0_firstFound hG.2.2.1 (gB G) _ _ _ _ _ hz) mf_X0_firstFound ml_X0_22 rfl (rest := []) rfl (Nat.le_of_ble_eq_true rfl) (dt dtX0_choose_0 9 rfl) (by decide) (by decide) (fun y14 h => ?_)
    refine j_istore_n hG (lv' := [(3, .int (y14)), (0, .ref p0a), (1, .int (l1)), (2, .int (l2))]) (dt dtX0_choose_0 10 rfl) rfl (by decide) rfl ?_
    refine j_iload_n hG 0 (dt dtX0_choose_0 11 rfl) rfl rfl ?_
    refine j_iconst hG (v := (-1)) (dt dtX0_choose_0 12 rfl) (by decide) ?_
    refine j_icmp_ne hG (tgt := 25) (dt dtX0_choose_0 13 rfl) (by decide) h (fun h => ?_) (fun h => ?_)
    · refine j_iload_n hG 2 (dt dtX0_choose_0 14 rfl) rfl rfl ?_
      obtain rfl := Option.some.inj h
      exact j_iret hG hE ⟨rfl, rfl⟩ (dt dtX0_choose_0 15 rfl)
    · refine j_aload_n hG 1 (dt dtX0_choose_0 16 rfl) rfl rfl ?_
      refine j_iload_n hG 2 (dt dtX0_choose_0 17 rfl) rfl rfl ?_
      refine j_iload_n hG 0 (dt dtX0_choose_0 18 rfl) rfl rfl ?_
      refine j_callSp hG h (V := fun y28 => (some (.int (y28)))) (S := fun y28 => (X, Y, o, dd, td)) (kc := 0) (ks := 0) (fun z hz => ct_X0_nextToHide hG.2.2.1 (gB G) _ _ _ _ _ hp0 hz) mf_X0_nextToHide ml_X0_25 rfl (rest := []) rfl (Nat.le_of_ble_eq_true rfl) (dt dtX0_choose_0 19 rfl) (by decide) (by decide) (fun y28 h => ?_)
      refine j_istore hG (lv' := [(4, .int (y28)), (3, .int (y14)), (0, .ref p0a), (1, .int (l1)), (2, .int (l2))]) (dt dtX0_choose_0 20 rfl) (by decide) rfl ?_
      refine j_iload hG 0 (dt dtX0_choose_0 21 rfl) rfl ?_
      refine j_iconst hG (v := (-1)) (dt dtX0_choose_0 22 rfl) (by decide) ?_
      refine j_icmp_ne hG (tgt := 41) (dt dtX0_choose_0 23 rfl) (by decide) h (fun h => ?_) (fun h => ?_)
      · refine j_iconst hG (v := (-1)) (dt dtX0_choose_0 24 rfl) (by decide) ?_
        obtain rfl := Option.some.inj h
        exact j_iret hG hE ⟨rfl, rfl⟩ (dt dtX0_choose_0 25 rfl)
      · refine j_iload_n hG 3 (dt dtX0_choose_0 26 rfl) rfl rfl ?_
        refine j_iconst hG (v := 1) (dt dtX0_choose_0 27 rfl) (by decide) ?_
        refine j_iload hG 0 (dt dtX0_choose_0 28 rfl) rfl ?_
        refine j_ishl hG (dt dtX0_choose_0 29 rfl) ?_
        refine j_ior hG (dt dtX0_choose_0 30 rfl) ?_
        refine j_istoreB_n hG (fun v47 => [(1, .int (v47)), (4, .int (y28)), (3, .int (y14)), (0, .ref p0a), (2, .int (l2))]) (dt dtX0_choose_0 31 rfl) rfl (by decide) (fun _ => rfl) h (fun v47 h => ?_)
        refine j_iincB hG 4 (fun v48 => [(2, .int (v48)), (1, .int (v47)), (4, .int (y28)), (3, .int (y14)), (0, .ref p0a)]) (dt dtX0_choose_0 32 rfl) rfl rfl (by decide) (fun _ => rfl) h (fun v48 h => ?_)
        refine j_goto hG (tgt := 7) (dt dtX0_choose_0 33 rfl) (by decide) ?_
        refine j_lv (lv' := [(0, .ref p0a), (1, .int (v47)), (2, .int (v48))]) [4, 1, 0] rfl ?_
        exact hk7 v47 v48 h
set_option maxRecDepth 4000 in
theorem g_f_X0_choose_7 {G : wG} (hG : wOk G RX0 cX0_choose 5 4 91) {X : wM} {Y : wM} {o : Int64} {dd : UInt64} {td : wX} {p0k p0a : Nat} {p0 : Nat → Int32} (hp0 : (wl (gB G) (X, Y, o, dd, td))[p0k]? = some (p0a, .inl (wdA (gB G) 0, 24, .inl p0))) {res : (Int32)} (hE : wEnd G (some .int) (rp (some (.int (res))) (X, Y, o, dd, td)) xp0) (hT : wNoTab G) (n : Nat) : ∀ (l1 : Int32) (l2 : Int32), f_X0_choose_7 p0 n l1 l2 = some res → J G 5 0 0 7 [(0, .ref p0a), (1, .int (l1)), (2, .int (l2))] [] (X, Y, o, dd, td) := by
  induction n with
  | zero => intro l1 l2 h; cases h
  | succ n ih =>
    intro l1 l2 h
    exact g_f_X0_choose_7b hG hp0 hE hT ih h
set_option maxRecDepth 4000 in
theorem g_f_X0_choose {G : wG} (hG : wOk G RX0 cX0_choose 5 4 91) {X Y : wM} {o : Int64} {dd : UInt64} {td : wX} {p0k p0a : Nat} {p0 : Nat → Int32} (hp0 : (wl (gB G) (X, Y, o, dd, td))[p0k]? = some (p0a, .inl (wdA (gB G) 0, 24, .inl p0))) {res : (Int32)} (hE : wEnd G (some .int) (rp (some (.int (res))) (X, Y, o, dd, td)) xp0) (hT : wNoTab G) (h : f_X0_choose p0 = some res) : J G 5 0 0 0 [(0, .ref p0a)] [] (X, Y, o, dd, td) := by
  unfold f_X0_choose at h
  refine j_aload_n hG 0 (dt dtX0_choose_0 0 rfl) rfl rfl ?_
  refine j_callSp hG h (V := fun y1 => (some (.int (y1)))) (S := fun y1 => (X, Y, o, dd, td)) (kc := 0) (ks := 0) (fun z hz => ct_X0_smallCells hG.2.2.1 (gB G) _ _ _ _ _ hp0 hz) mf_X0_smallCells ml_X0_18 rfl (rest := []) rfl (Nat.le_of_ble_eq_true rfl) (dt dtX0_choose_0 1 rfl) (by decide) (by decide) (fun y1 h => ?_)
  refine j_istore_n hG (lv' := [(1, .int (y1)), (0, .ref p0a)]) (dt dtX0_choose_0 2 rfl) rfl (by decide) rfl ?_
  refine j_iconst hG (v := 0) (dt dtX0_choose_0 3 rfl) (by decide) ?_
  refine j_istore_n hG (lv' := [(2, .int (0)), (1, .int (y1)), (0, .ref p0a)]) (dt dtX0_choose_0 4 rfl) rfl (by decide) rfl ?_
  refine j_lv (lv' := [(0, .ref p0a), (1, .int (y1)), (2, .int (0))]) [2, 1, 0] rfl ?_
  exact g_f_X0_choose_7 hG hp0 hE hT 1000 y1 (0 : Int32) h
theorem ct_X0_choose {l : Launch} (hl : l.stackTraces = false) (B : wB) (X Y : wM) (o : Int64) (dd : UInt64) (td : wX) {p0k p0a : Nat} {p0 : Nat → Int32} (hp0 : (wl B (X, Y, o, dd, td))[p0k]? = some (p0a, .inl (wdA B 0, 24, .inl p0))) {res : (Int32)} (h : f_X0_choose p0 = some res) : wMet l B yX0_choose cX0_choose 5 (some .int) 4 91 0 0 [.ref p0a] (X, Y, o, dd, td) (rp (some (.int (res))) (X, Y, o, dd, td)) xp0 :=
  wMet.of hl (by decide +kernel) (Nat.le_of_ble_eq_true rfl) (fun G hB hL hG hE hT => by subst hB; exact g_f_X0_choose hG hp0 hE hT h)
def f_X0_numberFound_29 (k4 : Int32 → Int32 → Int32 → Option (Int32)) (l0 : Int32) (l1 : Int32) (l2 : Int32) : Option (Int32) :=
  wbd (l2 + 1) fun v29 =>
  k4 l0 l1 v29
def f_X0_numberFound_4b (k4 : Int32 → Int32 → Int32 → Option (Int32)) (l0 : Int32) (l1 : Int32) (l2 : Int32) : Option (Int32) :=
  (if l2 < 24 then (f_X0_has l0 l2).bind fun y12 =>
  (if y12 = 0 then f_X0_numberFound_29 k4 l0 l1 l2
  else (f_X0_isFound l0 l2).bind fun y20 =>
  (if y20 = 0 then f_X0_numberFound_29 k4 l0 l1 l2
  else wbd (l1 + 1) fun v26 =>
  f_X0_numberFound_29 k4 l0 v26 l2))
  else some l1)
def f_X0_numberFound_4 : Nat → Int32 → Int32 → Int32 → Option (Int32)
  | 0 => fun _ _ _ => none
  | n + 1 => fun l0 l1 l2 => f_X0_numberFound_4b (f_X0_numberFound_4 n) l0 l1 l2
def f_X0_numberFound (a0 : Int32) : Option (Int32) :=
  f_X0_numberFound_4 1000 a0 (0 : Int32) (0 : Int32)
set_option maxRecDepth 4000 in
theorem g_f_X0_numberFound_29 {G : wG} (hG : wOk G RX0 cX0_numberFound 3 3 70) {X Y : wM} {o : Int64} {dd : UInt64} {td : wX} {res : (Int32)} (hE : wEnd G (some .int) (rp (some (.int (res))) (X, Y, o, dd, td)) xp0) (hT : wNoTab G) {k4 : Int32 → Int32 → Int32 → Option (Int32)} (hk4 : ∀ (l0 : Int32) (l1 : Int32) (l2 : Int32), k4 l0 l1 l2 = some res → J G 3 0 0 4 [(0, .int (l0)), (1, .int (l1)), (2, .int (l2))] [] (X, Y, o, dd, td)) {l0 : Int32} {l1 : Int32} {l2 : Int32} (h : f_X0_numberFound_29 k4 l0 l1 l2 = some res) : J G 3 0 0 29 [(0, .int (l0)), (1, .int (l1)), (2, .int (l2))] [] (X, Y, o, dd, td) := by
  unfold f_X0_numberFound_29 at h
  refine j_iincB hG 2 (fun v29 => [(2, .int (v29)), (0, .int (l0)), (1, .int (l1))]) (dt dtX0_numberFound_0 16 rfl) rfl rfl (by decide) (fun _ => rfl) h (fun v29 h => ?_)
  refine j_goto hG (tgt := 4) (dt dtX0_numberFound_0 17 rfl) (by decide) ?_
  refine j_lv (lv' := [(0, .int (l0)), (1, .int (l1)), (2, .int (v29))]) [1, 2, 0] rfl ?_
  exact hk4 l0 l1 v29 h
set_option maxRecDepth 4000 in
theorem g_f_X0_numberFound_4b {G : wG} (hG : wOk G RX0 cX0_numberFound 3 3 70) {X Y : wM} {o : Int64} {dd : UInt64} {td : wX} {res : (Int32)} (hE : wEnd G (some .int) (rp (some (.int (res))) (X, Y, o, dd, td)) xp0) (hT : wNoTab G) {k4 : Int32 → Int32 → Int32 → Option (Int32)} (hk4 : ∀ (l0 : Int32) (l1 : Int32) (l2 : Int32), k4 l0 l1 l2 = some res → J G 3 0 0 4 [(0, .int (l0)), (1, .int (l1)), (2, .int (l2))] [] (X, Y, o, dd, td)) {l0 : Int32} {l1 : Int32} {l2 : Int32} (h : f_X0_numberFound_4b k4 l0 l1 l2 = some res) : J G 3 0 0 4 [(0, .int (l0)), (1, .int (l1)), (2, .int (l2))] [] (X, Y, o, dd, td) := by
  unfold f_X0_numberFound_4b at h
  refine j_iload_n hG 2 (dt dtX0_numberFound_0 4 rfl) rfl rfl ?_
  refine j_bipush hG (v := 24) (dt dtX0_numberFound_0 5 rfl) (by decide) ?_
  refine j_icmp_ge hG (tgt := 35) (dt dtX0_numberFound_0 6 rfl) (by decide) h (fun h => ?_) (fun h => ?_)
  · refine j_iload_n hG 0 (dt dtX0_numberFound_0 7 rfl) rfl rfl ?_
    refine j_iload_n hG 2 (dt dtX0_numberFound_0 8 rfl) rfl rfl ?_
    refine j_callSp hG h (V := fun y12 => (some (.int (y12)))) (S := fun y12 => (X, Y, o, dd, td)) (kc := 0) (ks := 0) (fun z hz => ct_X0_has hG.2.2.1 (gB G) _ _ _ _ _ hz) mf_X0_has ml_X0_29 rfl (rest := []) rfl (Nat.le_of_ble_eq_true rfl) (dt dtX0_numberFound_0 9 rfl) (by decide) (by decide) (fun y12 h => ?_)
    refine j_if_eq hG (tgt := 29) (dt dtX0_numberFound_0 10 rfl) (by decide) h (fun h => ?_) (fun h => ?_)
    · exact g_f_X0_numberFound_29 hG hE hT hk4 h
    · refine j_iload_n hG 0 (dt dtX0_numberFound_0 11 rfl) rfl rfl ?_
      refine j_iload_n hG 2 (dt dtX0_numberFound_0 12 rfl) rfl rfl ?_
      refine j_callSp hG h (V := fun y20 => (some (.int (y20)))) (S := fun y20 => (X, Y, o, dd, td)) (kc := 0) (ks := 0) (fun z hz => ct_X0_isFound hG.2.2.1 (gB G) _ _ _ _ _ hz) mf_X0_isFound ml_X0_33 rfl (rest := []) rfl (Nat.le_of_ble_eq_true rfl) (dt dtX0_numberFound_0 13 rfl) (by decide) (by decide) (fun y20 h => ?_)
      refine j_if_eq hG (tgt := 29) (dt dtX0_numberFound_0 14 rfl) (by decide) h (fun h => ?_) (fun h => ?_)
      · exact g_f_X0_numberFound_29 hG hE hT hk4 h
      · refine j_iincB hG 1 (fun v26 => [(1, .int (v26)), (0, .int (l0)), (2, .int (l2))]) (dt dtX0_numberFound_0 15 rfl) rfl rfl (by decide) (fun _ => rfl) h (fun v26 h => ?_)
        refine j_lv (lv' := [(0, .int (l0)), (1, .int (v26)), (2, .int (l2))]) [1, 0, 2] rfl ?_
        exact g_f_X0_numberFound_29 hG hE hT hk4 h
  · refine j_iload_n hG 1 (dt dtX0_numberFound_0 18 rfl) rfl rfl ?_
    obtain rfl := Option.some.inj h
    exact j_iret hG hE ⟨rfl, rfl⟩ (dt dtX0_numberFound_0 19 rfl)
set_option maxRecDepth 4000 in
theorem g_f_X0_numberFound_4 {G : wG} (hG : wOk G RX0 cX0_numberFound 3 3 70) {X : wM} {Y : wM} {o : Int64} {dd : UInt64} {td : wX} {res : (Int32)} (hE : wEnd G (some .int) (rp (some (.int (res))) (X, Y, o, dd, td)) xp0) (hT : wNoTab G) (n : Nat) : ∀ (l0 : Int32) (l1 : Int32) (l2 : Int32), f_X0_numberFound_4 n l0 l1 l2 = some res → J G 3 0 0 4 [(0, .int (l0)), (1, .int (l1)), (2, .int (l2))] [] (X, Y, o, dd, td) := by
  induction n with
  | zero => intro l0 l1 l2 h; cases h
  | succ n ih =>
    intro l0 l1 l2 h
    exact g_f_X0_numberFound_4b hG hE hT ih h
set_option maxRecDepth 4000 in
theorem g_f_X0_numberFound {G : wG} (hG : wOk G RX0 cX0_numberFound 3 3 70) {X Y : wM} {o : Int64} {dd : UInt64} {td : wX} {res : (Int32)} (hE : wEnd G (some .int) (rp (some (.int (res))) (X, Y, o, dd, td)) xp0) (hT : wNoTab G) {a0 : Int32} (h : f_X0_numberFound a0 = some res) : J G 3 0 0 0 [(0, .int (a0))] [] (X, Y, o, dd, td) := by
  unfold f_X0_numberFound at h
  refine j_iconst hG (v := 0) (dt dtX0_numberFound_0 0 rfl) (by decide) ?_
  refine j_istore_n hG (lv' := [(1, .int (0)), (0, .int (a0))]) (dt dtX0_numberFound_0 1 rfl) rfl (by decide) rfl ?_
  refine j_iconst hG (v := 0) (dt dtX0_numberFound_0 2 rfl) (by decide) ?_
  refine j_istore_n hG (lv' := [(2, .int (0)), (1, .int (0)), (0, .int (a0))]) (dt dtX0_numberFound_0 3 rfl) rfl (by decide) rfl ?_
  refine j_lv (lv' := [(0, .int (a0)), (1, .int (0)), (2, .int (0))]) [2, 1, 0] rfl ?_
  exact g_f_X0_numberFound_4 hG hE hT 1000 a0 (0 : Int32) (0 : Int32) h
theorem ct_X0_numberFound {l : Launch} (hl : l.stackTraces = false) (B : wB) (X Y : wM) (o : Int64) (dd : UInt64) (td : wX) {a0 : Int32} {res : (Int32)} (h : f_X0_numberFound a0 = some res) : wMet l B yX0_numberFound cX0_numberFound 3 (some .int) 3 70 0 0 [.int (a0)] (X, Y, o, dd, td) (rp (some (.int (res))) (X, Y, o, dd, td)) xp0 :=
  wMet.of hl (by decide +kernel) (Nat.le_of_ble_eq_true rfl) (fun G hB hL hG hE hT => by subst hB; exact g_f_X0_numberFound hG hE hT h)
def f_X0_cellsOfBlock (a0 : Int32) : Option (Int32) :=
  some (15 <<< ((a0 - (a0 - a0 / 4 * 4)) &&& 31))
set_option maxRecDepth 4000 in
theorem g_f_X0_cellsOfBlock {G : wG} (hG : wOk G RX0 cX0_cellsOfBlock 1 0 0) {X Y : wM} {o : Int64} {dd : UInt64} {td : wX} {res : (Int32)} (hE : wEnd G (some .int) (rp (some (.int (res))) (X, Y, o, dd, td)) xp0) (hT : wNoTab G) {a0 : Int32} (h : f_X0_cellsOfBlock a0 = some res) : J G 1 0 0 0 [(0, .int (a0))] [] (X, Y, o, dd, td) := by
  unfold f_X0_cellsOfBlock at h
  refine j_bipush hG (v := 15) (dt dtX0_cellsOfBlock_0 0 rfl) (by decide) ?_
  refine j_iload_n hG 0 (dt dtX0_cellsOfBlock_0 1 rfl) rfl rfl ?_
  refine j_iload_n hG 0 (dt dtX0_cellsOfBlock_0 2 rfl) rfl rfl ?_
  refine j_iconst hG (v := 4) (dt dtX0_cellsOfBlock_0 3 rfl) (by decide) ?_
  refine j_irem hG (dt dtX0_cellsOfBlock_0 4 rfl) (by decide) ?_
  refine j_isub hG (dt dtX0_cellsOfBlock_0 5 rfl) ?_
  refine j_ishl hG (dt dtX0_cellsOfBlock_0 6 rfl) ?_
  obtain rfl := Option.some.inj h
  exact j_iret hG hE ⟨rfl, rfl⟩ (dt dtX0_cellsOfBlock_0 7 rfl)
theorem ct_X0_cellsOfBlock {l : Launch} (hl : l.stackTraces = false) (B : wB) (X Y : wM) (o : Int64) (dd : UInt64) (td : wX) {a0 : Int32} {res : (Int32)} (h : f_X0_cellsOfBlock a0 = some res) : wMet l B yX0_cellsOfBlock cX0_cellsOfBlock 1 (some .int) 0 0 0 0 [.int (a0)] (X, Y, o, dd, td) (rp (some (.int (res))) (X, Y, o, dd, td)) xp0 :=
  wMet.of hl (by decide +kernel) (Nat.le_of_ble_eq_true rfl) (fun G hB hL hG hE hT => by subst hB; exact g_f_X0_cellsOfBlock hG hE hT h)
def f_X0_cellsOfGroup (a0 : Int32) : Option (Int32) :=
  some (1118481 <<< ((a0 - a0 / 4 * 4) &&& 31))
set_option maxRecDepth 4000 in
theorem g_f_X0_cellsOfGroup {G : wG} (hG : wOk G RX0 cX0_cellsOfGroup 1 0 0) {X Y : wM} {o : Int64} {dd : UInt64} {td : wX} {res : (Int32)} (hE : wEnd G (some .int) (rp (some (.int (res))) (X, Y, o, dd, td)) xp0) (hT : wNoTab G) {a0 : Int32} (h : f_X0_cellsOfGroup a0 = some res) : J G 1 0 0 0 [(0, .int (a0))] [] (X, Y, o, dd, td) := by
  unfold f_X0_cellsOfGroup at h
  refine j_ldc hG (v := 1118481) ck_X0_63 (dt dtX0_cellsOfGroup_0 0 rfl) ?_
  refine j_iload_n hG 0 (dt dtX0_cellsOfGroup_0 1 rfl) rfl rfl ?_
  refine j_iconst hG (v := 4) (dt dtX0_cellsOfGroup_0 2 rfl) (by decide) ?_
  refine j_irem hG (dt dtX0_cellsOfGroup_0 3 rfl) (by decide) ?_
  refine j_ishl hG (dt dtX0_cellsOfGroup_0 4 rfl) ?_
  obtain rfl := Option.some.inj h
  exact j_iret hG hE ⟨rfl, rfl⟩ (dt dtX0_cellsOfGroup_0 5 rfl)
theorem ct_X0_cellsOfGroup {l : Launch} (hl : l.stackTraces = false) (B : wB) (X Y : wM) (o : Int64) (dd : UInt64) (td : wX) {a0 : Int32} {res : (Int32)} (h : f_X0_cellsOfGroup a0 = some res) : wMet l B yX0_cellsOfGroup cX0_cellsOfGroup 1 (some .int) 0 0 0 0 [.int (a0)] (X, Y, o, dd, td) (rp (some (.int (res))) (X, Y, o, dd, td)) xp0 :=
  wMet.of hl (by decide +kernel) (Nat.le_of_ble_eq_true rfl) (fun G hB hL hG hE hT => by subst hB; exact g_f_X0_cellsOfGroup hG hE hT h)
def f_X0_besides_36 (k4 : Int32 → Int32 → Int32 → Int32 → Option (Int32)) (l0 : Int32) (l1 : Int32) (l2 : Int32) (l3 : Int32) : Option (Int32) :=
  wbd (l3 + 1) fun v36 =>
  k4 l0 l1 l2 v36
def f_X0_besides_34 (k4 : Int32 → Int32 → Int32 → Int32 → Option (Int32)) (l0 : Int32) (l1 : Int32) (l3 : Int32) (s0 : Int32) (s1 : Int32) : Option (Int32) :=
  wbd (s1 ||| s0) fun v35 =>
  f_X0_besides_36 k4 l0 l1 v35 l3
def f_X0_besides_4b (k4 : Int32 → Int32 → Int32 → Int32 → Option (Int32)) (l0 : Int32) (l1 : Int32) (l2 : Int32) (l3 : Int32) : Option (Int32) :=
  (if l3 < 24 then (f_X0_has l0 l3).bind fun y12 =>
  (if y12 = 0 then f_X0_besides_36 k4 l0 l1 l2 l3
  else (if l1 = 0 then (f_X0_cellsOfGroup l3).bind fun y31 =>
  f_X0_besides_34 k4 l0 l1 l3 y31 l2
  else (f_X0_cellsOfBlock l3).bind fun y24 =>
  f_X0_besides_34 k4 l0 l1 l3 y24 l2))
  else some l2)
def f_X0_besides_4 : Nat → Int32 → Int32 → Int32 → Int32 → Option (Int32)
  | 0 => fun _ _ _ _ => none
  | n + 1 => fun l0 l1 l2 l3 => f_X0_besides_4b (f_X0_besides_4 n) l0 l1 l2 l3
def f_X0_besides (a0 : Int32) (a1 : Int32) : Option (Int32) :=
  f_X0_besides_4 1000 a0 a1 (0 : Int32) (0 : Int32)
set_option maxRecDepth 4000 in
theorem g_f_X0_besides_36 {G : wG} (hG : wOk G RX0 cX0_besides 4 1 21) {X Y : wM} {o : Int64} {dd : UInt64} {td : wX} {res : (Int32)} (hE : wEnd G (some .int) (rp (some (.int (res))) (X, Y, o, dd, td)) xp0) (hT : wNoTab G) {k4 : Int32 → Int32 → Int32 → Int32 → Option (Int32)} (hk4 : ∀ (l0 : Int32) (l1 : Int32) (l2 : Int32) (l3 : Int32), k4 l0 l1 l2 l3 = some res → J G 4 0 0 4 [(0, .int (l0)), (1, .int (l1)), (2, .int (l2)), (3, .int (l3))] [] (X, Y, o, dd, td)) {l0 : Int32} {l1 : Int32} {l2 : Int32} {l3 : Int32} (h : f_X0_besides_36 k4 l0 l1 l2 l3 = some res) : J G 4 0 0 36 [(0, .int (l0)), (1, .int (l1)), (2, .int (l2)), (3, .int (l3))] [] (X, Y, o, dd, td) := by
  unfold f_X0_besides_36 at h
  refine j_iincB hG 3 (fun v36 => [(3, .int (v36)), (0, .int (l0)), (1, .int (l1)), (2, .int (l2))]) (dt dtX0_besides_0 21 rfl) rfl rfl (by decide) (fun _ => rfl) h (fun v36 h => ?_)
  refine j_goto hG (tgt := 4) (dt dtX0_besides_0 22 rfl) (by decide) ?_
  refine j_lv (lv' := [(0, .int (l0)), (1, .int (l1)), (2, .int (l2)), (3, .int (v36))]) [1, 2, 3, 0] rfl ?_
  exact hk4 l0 l1 l2 v36 h
set_option maxRecDepth 4000 in
theorem g_f_X0_besides_34 {G : wG} (hG : wOk G RX0 cX0_besides 4 1 21) {X Y : wM} {o : Int64} {dd : UInt64} {td : wX} {res : (Int32)} (hE : wEnd G (some .int) (rp (some (.int (res))) (X, Y, o, dd, td)) xp0) (hT : wNoTab G) {k4 : Int32 → Int32 → Int32 → Int32 → Option (Int32)} (hk4 : ∀ (l0 : Int32) (l1 : Int32) (l2 : Int32) (l3 : Int32), k4 l0 l1 l2 l3 = some res → J G 4 0 0 4 [(0, .int (l0)), (1, .int (l1)), (2, .int (l2)), (3, .int (l3))] [] (X, Y, o, dd, td)) {l0 : Int32} {l1 : Int32} {l3 : Int32} {s0 : Int32} {s1 : Int32} (h : f_X0_besides_34 k4 l0 l1 l3 s0 s1 = some res) : J G 4 0 0 34 [(0, .int (l0)), (1, .int (l1)), (3, .int (l3))] [.int (s0), .int (s1)] (X, Y, o, dd, td) := by
  unfold f_X0_besides_34 at h
  refine j_ior hG (dt dtX0_besides_0 19 rfl) ?_
  refine j_istoreB_n hG (fun v35 => [(2, .int (v35)), (0, .int (l0)), (1, .int (l1)), (3, .int (l3))]) (dt dtX0_besides_0 20 rfl) rfl (by decide) (fun _ => rfl) h (fun v35 h => ?_)
  refine j_lv (lv' := [(0, .int (l0)), (1, .int (l1)), (2, .int (v35)), (3, .int (l3))]) [1, 2, 0, 3] rfl ?_
  exact g_f_X0_besides_36 hG hE hT hk4 h
set_option maxRecDepth 4000 in
theorem g_f_X0_besides_4b {G : wG} (hG : wOk G RX0 cX0_besides 4 1 21) {X Y : wM} {o : Int64} {dd : UInt64} {td : wX} {res : (Int32)} (hE : wEnd G (some .int) (rp (some (.int (res))) (X, Y, o, dd, td)) xp0) (hT : wNoTab G) {k4 : Int32 → Int32 → Int32 → Int32 → Option (Int32)} (hk4 : ∀ (l0 : Int32) (l1 : Int32) (l2 : Int32) (l3 : Int32), k4 l0 l1 l2 l3 = some res → J G 4 0 0 4 [(0, .int (l0)), (1, .int (l1)), (2, .int (l2)), (3, .int (l3))] [] (X, Y, o, dd, td)) {l0 : Int32} {l1 : Int32} {l2 : Int32} {l3 : Int32} (h : f_X0_besides_4b k4 l0 l1 l2 l3 = some res) : J G 4 0 0 4 [(0, .int (l0)), (1, .int (l1)), (2, .int (l2)), (3, .int (l3))] [] (X, Y, o, dd, td) := by
  unfold f_X0_besides_4b at h
  refine j_iload_n hG 3 (dt dtX0_besides_0 4 rfl) rfl rfl ?_
  refine j_bipush hG (v := 24) (dt dtX0_besides_0 5 rfl) (by decide) ?_
  refine j_icmp_ge hG (tgt := 42) (dt dtX0_besides_0 6 rfl) (by decide) h (fun h => ?_) (fun h => ?_)
  · refine j_iload_n hG 0 (dt dtX0_besides_0 7 rfl) rfl rfl ?_
    refine j_iload_n hG 3 (dt dtX0_besides_0 8 rfl) rfl rfl ?_
    refine j_callSp hG h (V := fun y12 => (some (.int (y12)))) (S := fun y12 => (X, Y, o, dd, td)) (kc := 0) (ks := 0) (fun z hz => ct_X0_has hG.2.2.1 (gB G) _ _ _ _ _ hz) mf_X0_has ml_X0_29 rfl (rest := []) rfl (Nat.le_of_ble_eq_true rfl) (dt dtX0_besides_0 9 rfl) (by decide) (by decide) (fun y12 h => ?_)
    refine j_if_eq hG (tgt := 36) (dt dtX0_besides_0 10 rfl) (by decide) h (fun h => ?_) (fun h => ?_)
    · exact g_f_X0_besides_36 hG hE hT hk4 h
    · refine j_iload_n hG 2 (dt dtX0_besides_0 11 rfl) rfl rfl ?_
      refine j_iload_n hG 1 (dt dtX0_besides_0 12 rfl) rfl rfl ?_
      refine j_if_eq hG (tgt := 30) (dt dtX0_besides_0 13 rfl) (by decide) h (fun h => ?_) (fun h => ?_)
      · refine j_iload_n hG 3 (dt dtX0_besides_0 17 rfl) rfl rfl ?_
        refine j_callSp hG h (V := fun y31 => (some (.int (y31)))) (S := fun y31 => (X, Y, o, dd, td)) (kc := 0) (ks := 0) (fun z hz => ct_X0_cellsOfGroup hG.2.2.1 (gB G) _ _ _ _ _ hz) mf_X0_cellsOfGroup ml_X0_57 rfl (rest := [.int (l2)]) rfl (Nat.le_of_ble_eq_true rfl) (dt dtX0_besides_0 18 rfl) (by decide) (by decide) (fun y31 h => ?_)
        refine j_lv (lv' := [(0, .int (l0)), (1, .int (l1)), (3, .int (l3))]) [0, 1, 3] rfl ?_
        exact g_f_X0_besides_34 hG hE hT hk4 h
      · refine j_iload_n hG 3 (dt dtX0_besides_0 14 rfl) rfl rfl ?_
        refine j_callSp hG h (V := fun y24 => (some (.int (y24)))) (S := fun y24 => (X, Y, o, dd, td)) (kc := 0) (ks := 0) (fun z hz => ct_X0_cellsOfBlock hG.2.2.1 (gB G) _ _ _ _ _ hz) mf_X0_cellsOfBlock ml_X0_60 rfl (rest := [.int (l2)]) rfl (Nat.le_of_ble_eq_true rfl) (dt dtX0_besides_0 15 rfl) (by decide) (by decide) (fun y24 h => ?_)
        refine j_goto hG (tgt := 34) (dt dtX0_besides_0 16 rfl) (by decide) ?_
        refine j_lv (lv' := [(0, .int (l0)), (1, .int (l1)), (3, .int (l3))]) [0, 1, 3] rfl ?_
        exact g_f_X0_besides_34 hG hE hT hk4 h
  · refine j_iload_n hG 2 (dt dtX0_besides_0 23 rfl) rfl rfl ?_
    obtain rfl := Option.some.inj h
    exact j_iret hG hE ⟨rfl, rfl⟩ (dt dtX0_besides_0 24 rfl)
set_option maxRecDepth 4000 in
theorem g_f_X0_besides_4 {G : wG} (hG : wOk G RX0 cX0_besides 4 1 21) {X : wM} {Y : wM} {o : Int64} {dd : UInt64} {td : wX} {res : (Int32)} (hE : wEnd G (some .int) (rp (some (.int (res))) (X, Y, o, dd, td)) xp0) (hT : wNoTab G) (n : Nat) : ∀ (l0 : Int32) (l1 : Int32) (l2 : Int32) (l3 : Int32), f_X0_besides_4 n l0 l1 l2 l3 = some res → J G 4 0 0 4 [(0, .int (l0)), (1, .int (l1)), (2, .int (l2)), (3, .int (l3))] [] (X, Y, o, dd, td) := by
  induction n with
  | zero => intro l0 l1 l2 l3 h; cases h
  | succ n ih =>
    intro l0 l1 l2 l3 h
    exact g_f_X0_besides_4b hG hE hT ih h
set_option maxRecDepth 4000 in
theorem g_f_X0_besides {G : wG} (hG : wOk G RX0 cX0_besides 4 1 21) {X Y : wM} {o : Int64} {dd : UInt64} {td : wX} {res : (Int32)} (hE : wEnd G (some .int) (rp (some (.int (res))) (X, Y, o, dd, td)) xp0) (hT : wNoTab G) {a0 : Int32} {a1 : Int32} (h : f_X0_besides a0 a1 = some res) : J G 4 0 0 0 [(0, .int (a0)), (1, .int (a1))] [] (X, Y, o, dd, td) := by
  unfold f_X0_besides at h
  refine j_iconst hG (v := 0) (dt dtX0_besides_0 0 rfl) (by decide) ?_
  refine j_istore_n hG (lv' := [(2, .int (0)), (0, .int (a0)), (1, .int (a1))]) (dt dtX0_besides_0 1 rfl) rfl (by decide) rfl ?_
  refine j_iconst hG (v := 0) (dt dtX0_besides_0 2 rfl) (by decide) ?_
  refine j_istore_n hG (lv' := [(3, .int (0)), (2, .int (0)), (0, .int (a0)), (1, .int (a1))]) (dt dtX0_besides_0 3 rfl) rfl (by decide) rfl ?_
  refine j_lv (lv' := [(0, .int (a0)), (1, .int (a1)), (2, .int (0)), (3, .int (0))]) [2, 3, 1, 0] rfl ?_
  exact g_f_X0_besides_4 hG hE hT 1000 a0 a1 (0 : Int32) (0 : Int32) h
theorem ct_X0_besides {l : Launch} (hl : l.stackTraces = false) (B : wB) (X Y : wM) (o : Int64) (dd : UInt64) (td : wX) {a0 : Int32} {a1 : Int32} {res : (Int32)} (h : f_X0_besides a0 a1 = some res) : wMet l B yX0_besides cX0_besides 4 (some .int) 1 21 0 0 [.int (a0), .int (a1)] (X, Y, o, dd, td) (rp (some (.int (res))) (X, Y, o, dd, td)) xp0 :=
  wMet.of hl (by decide +kernel) (Nat.le_of_ble_eq_true rfl) (fun G hB hL hG hE hT => by subst hB; exact g_f_X0_besides hG hE hT h)
def f_X0_hasClosedWay_77 : Option (Int32) :=
  some 0
def f_X0_hasClosedWay_71 (k15 : Int32 → Int32 → Int32 → Int32 → Option (Int32)) (l1 : Int32) (l2 : Int32) (l3 : Int32) (l4 : Int32) : Option (Int32) :=
  wbd (l4 + 1) fun v71 =>
  k15 l1 l2 l3 v71
def f_X0_hasClosedWay_38 (k15 : Int32 → Int32 → Int32 → Int32 → Option (Int32)) (l1 : Int32) (l2 : Int32) (l3 : Int32) (l4 : Int32) (s0 : Int32) : Option (Int32) :=
  (f_X0_besides l3 s0).bind fun y43 =>
  wbd (y43 &&& l2) fun v48 =>
  wbd (l2 &&& (v48 ^^^ (-1))) fun v54 =>
  (if s0 = 0 then f_X0_hasClosedWay_71 k15 l1 v54 v48 l4
  else (f_X0_cellsOfGroup l1).bind fun y62 =>
  (if (v48 &&& y62) = 0 then f_X0_hasClosedWay_71 k15 l1 v54 v48 l4
  else some 1))
def f_X0_hasClosedWay_15b (k15 : Int32 → Int32 → Int32 → Int32 → Option (Int32)) (l1 : Int32) (l2 : Int32) (l3 : Int32) (l4 : Int32) : Option (Int32) :=
  (if l4 < 24 then (if l3 = 0 then f_X0_hasClosedWay_77
  else (if (l4 - l4 / 2 * 2) = 0 then f_X0_hasClosedWay_38 k15 l1 l2 l3 l4 (1 : Int32)
  else f_X0_hasClosedWay_38 k15 l1 l2 l3 l4 (0 : Int32)))
  else f_X0_hasClosedWay_77)
def f_X0_hasClosedWay_15 : Nat → Int32 → Int32 → Int32 → Int32 → Option (Int32)
  | 0 => fun _ _ _ _ => none
  | n + 1 => fun l1 l2 l3 l4 => f_X0_hasClosedWay_15b (f_X0_hasClosedWay_15 n) l1 l2 l3 l4
def f_X0_hasClosedWay (a0 : Int32) (a1 : Int32) : Option (Int32) :=
  wbd (a0 &&& ((1 <<< (a1 &&& 31)) ^^^ (-1))) fun v7 =>
  wbd (1 <<< (a1 &&& 31)) fun v11 =>
  f_X0_hasClosedWay_15 1000 a1 v7 v11 (0 : Int32)
set_option maxRecDepth 4000 in
theorem g_f_X0_hasClosedWay_77 {G : wG} (hG : wOk G RX0 cX0_hasClosedWay 6 2 44) {X Y : wM} {o : Int64} {dd : UInt64} {td : wX} {res : (Int32)} (hE : wEnd G (some .boolean) (rp (some (.int (res))) (X, Y, o, dd, td)) xp0) (hT : wNoTab G) (h : f_X0_hasClosedWay_77 = some res) : J G 6 0 0 77 [] [] (X, Y, o, dd, td) := by
  unfold f_X0_hasClosedWay_77 at h
  refine j_iconst hG (v := 0) (dt dtX0_hasClosedWay_0 50 rfl) (by decide) ?_
  obtain rfl := Option.some.inj h
  exact j_zret hG hE (by decide) ⟨rfl, rfl⟩ (dt dtX0_hasClosedWay_0 51 rfl)
set_option maxRecDepth 4000 in
theorem g_f_X0_hasClosedWay_71 {G : wG} (hG : wOk G RX0 cX0_hasClosedWay 6 2 44) {X Y : wM} {o : Int64} {dd : UInt64} {td : wX} {res : (Int32)} (hE : wEnd G (some .boolean) (rp (some (.int (res))) (X, Y, o, dd, td)) xp0) (hT : wNoTab G) {k15 : Int32 → Int32 → Int32 → Int32 → Option (Int32)} (hk15 : ∀ (l1 : Int32) (l2 : Int32) (l3 : Int32) (l4 : Int32), k15 l1 l2 l3 l4 = some res → J G 6 0 0 15 [(1, .int (l1)), (2, .int (l2)), (3, .int (l3)), (4, .int (l4))] [] (X, Y, o, dd, td)) {l1 : Int32} {l2 : Int32} {l3 : Int32} {l4 : Int32} (h : f_X0_hasClosedWay_71 k15 l1 l2 l3 l4 = some res) : J G 6 0 0 71 [(1, .int (l1)), (2, .int (l2)), (3, .int (l3)), (4, .int (l4))] [] (X, Y, o, dd, td) := by
  unfold f_X0_hasClosedWay_71 at h
  refine j_iincB hG 3 (fun v71 => [(4, .int (v71)), (1, .int (l1)), (2, .int (l2)), (3, .int (l3))]) (dt dtX0_hasClosedWay_0 48 rfl) rfl rfl (by decide) (fun _ => rfl) h (fun v71 h => ?_)
  refine j_goto hG (tgt := 15) (dt dtX0_hasClosedWay_0 49 rfl) (by decide) ?_
  refine j_lv (lv' := [(1, .int (l1)), (2, .int (l2)), (3, .int (l3)), (4, .int (v71))]) [1, 2, 3, 0] rfl ?_
  exact hk15 l1 l2 l3 v71 h
set_option maxRecDepth 4000 in
theorem g_f_X0_hasClosedWay_38 {G : wG} (hG : wOk G RX0 cX0_hasClosedWay 6 2 44) {X Y : wM} {o : Int64} {dd : UInt64} {td : wX} {res : (Int32)} (hE : wEnd G (some .boolean) (rp (some (.int (res))) (X, Y, o, dd, td)) xp0) (hT : wNoTab G) {k15 : Int32 → Int32 → Int32 → Int32 → Option (Int32)} (hk15 : ∀ (l1 : Int32) (l2 : Int32) (l3 : Int32) (l4 : Int32), k15 l1 l2 l3 l4 = some res → J G 6 0 0 15 [(1, .int (l1)), (2, .int (l2)), (3, .int (l3)), (4, .int (l4))] [] (X, Y, o, dd, td)) {l1 : Int32} {l2 : Int32} {l3 : Int32} {l4 : Int32} {s0 : Int32} (h : f_X0_hasClosedWay_38 k15 l1 l2 l3 l4 s0 = some res) : J G 6 0 0 38 [(1, .int (l1)), (2, .int (l2)), (3, .int (l3)), (4, .int (l4))] [.int (s0)] (X, Y, o, dd, td) := by
  unfold f_X0_hasClosedWay_38 at h
  refine j_istore hG (lv' := [(5, .int (s0)), (1, .int (l1)), (2, .int (l2)), (3, .int (l3)), (4, .int (l4))]) (dt dtX0_hasClosedWay_0 26 rfl) (by decide) rfl ?_
  refine j_iload_n hG 3 (dt dtX0_hasClosedWay_0 27 rfl) rfl rfl ?_
  refine j_iload hG 0 (dt dtX0_hasClosedWay_0 28 rfl) rfl ?_
  refine j_callSp hG h (V := fun y43 => (some (.int (y43)))) (S := fun y43 => (X, Y, o, dd, td)) (kc := 0) (ks := 0) (fun z hz => ct_X0_besides hG.2.2.1 (gB G) _ _ _ _ _ hz) mf_X0_besides ml_X0_53 rfl (rest := []) rfl (Nat.le_of_ble_eq_true rfl) (dt dtX0_hasClosedWay_0 29 rfl) (by decide) (by decide) (fun y43 h => ?_)
  refine j_iload_n hG 2 (dt dtX0_hasClosedWay_0 30 rfl) rfl rfl ?_
  refine j_iand hG (dt dtX0_hasClosedWay_0 31 rfl) ?_
  refine j_istoreB_n hG (fun v48 => [(3, .int (v48)), (5, .int (s0)), (1, .int (l1)), (2, .int (l2)), (4, .int (l4))]) (dt dtX0_hasClosedWay_0 32 rfl) rfl (by decide) (fun _ => rfl) h (fun v48 h => ?_)
  refine j_iload_n hG 3 (dt dtX0_hasClosedWay_0 33 rfl) rfl rfl ?_
  refine j_iload_n hG 0 (dt dtX0_hasClosedWay_0 34 rfl) rfl rfl ?_
  refine j_iconst hG (v := (-1)) (dt dtX0_hasClosedWay_0 35 rfl) (by decide) ?_
  refine j_ixor hG (dt dtX0_hasClosedWay_0 36 rfl) ?_
  refine j_iand hG (dt dtX0_hasClosedWay_0 37 rfl) ?_
  refine j_istoreB_n hG (fun v54 => [(2, .int (v54)), (3, .int (v48)), (5, .int (s0)), (1, .int (l1)), (4, .int (l4))]) (dt dtX0_hasClosedWay_0 38 rfl) rfl (by decide) (fun _ => rfl) h (fun v54 h => ?_)
  refine j_iload hG 2 (dt dtX0_hasClosedWay_0 39 rfl) rfl ?_
  refine j_if_eq hG (tgt := 71) (dt dtX0_hasClosedWay_0 40 rfl) (by decide) h (fun h => ?_) (fun h => ?_)
  · refine j_lv (lv' := [(1, .int (l1)), (2, .int (v54)), (3, .int (v48)), (4, .int (l4))]) [3, 0, 1, 4] rfl ?_
    exact g_f_X0_hasClosedWay_71 hG hE hT hk15 h
  · refine j_iload_n hG 1 (dt dtX0_hasClosedWay_0 41 rfl) rfl rfl ?_
    refine j_iload_n hG 3 (dt dtX0_hasClosedWay_0 42 rfl) rfl rfl ?_
    refine j_callSp hG h (V := fun y62 => (some (.int (y62)))) (S := fun y62 => (X, Y, o, dd, td)) (kc := 0) (ks := 0) (fun z hz => ct_X0_cellsOfGroup hG.2.2.1 (gB G) _ _ _ _ _ hz) mf_X0_cellsOfGroup ml_X0_57 rfl (rest := [.int (v48)]) rfl (Nat.le_of_ble_eq_true rfl) (dt dtX0_hasClosedWay_0 43 rfl) (by decide) (by decide) (fun y62 h => ?_)
    refine j_iand hG (dt dtX0_hasClosedWay_0 44 rfl) ?_
    refine j_if_eq hG (tgt := 71) (dt dtX0_hasClosedWay_0 45 rfl) (by decide) h (fun h => ?_) (fun h => ?_)
    · refine j_lv (lv' := [(1, .int (l1)), (2, .int (v54)), (3, .int (v48)), (4, .int (l4))]) [3, 0, 1, 4] rfl ?_
      exact g_f_X0_hasClosedWay_71 hG hE hT hk15 h
    · refine j_iconst hG (v := 1) (dt dtX0_hasClosedWay_0 46 rfl) (by decide) ?_
      obtain rfl := Option.some.inj h
      exact j_zret hG hE (by decide) ⟨rfl, rfl⟩ (dt dtX0_hasClosedWay_0 47 rfl)
set_option maxRecDepth 4000 in
theorem g_f_X0_hasClosedWay_15b {G : wG} (hG : wOk G RX0 cX0_hasClosedWay 6 2 44) {X Y : wM} {o : Int64} {dd : UInt64} {td : wX} {res : (Int32)} (hE : wEnd G (some .boolean) (rp (some (.int (res))) (X, Y, o, dd, td)) xp0) (hT : wNoTab G) {k15 : Int32 → Int32 → Int32 → Int32 → Option (Int32)} (hk15 : ∀ (l1 : Int32) (l2 : Int32) (l3 : Int32) (l4 : Int32), k15 l1 l2 l3 l4 = some res → J G 6 0 0 15 [(1, .int (l1)), (2, .int (l2)), (3, .int (l3)), (4, .int (l4))] [] (X, Y, o, dd, td)) {l1 : Int32} {l2 : Int32} {l3 : Int32} {l4 : Int32} (h : f_X0_hasClosedWay_15b k15 l1 l2 l3 l4 = some res) : J G 6 0 0 15 [(1, .int (l1)), (2, .int (l2)), (3, .int (l3)), (4, .int (l4))] [] (X, Y, o, dd, td) := by
  unfold f_X0_hasClosedWay_15b at h
  refine j_iload hG 3 (dt dtX0_hasClosedWay_0 14 rfl) rfl ?_
  refine j_bipush hG (v := 24) (dt dtX0_hasClosedWay_0 15 rfl) (by decide) ?_
  refine j_icmp_ge hG (tgt := 77) (dt dtX0_hasClosedWay_0 16 rfl) (by decide) h (fun h => ?_) (fun h => ?_)
  · refine j_iload_n hG 2 (dt dtX0_hasClosedWay_0 17 rfl) rfl rfl ?_
    refine j_if_eq hG (tgt := 77) (dt dtX0_hasClosedWay_0 18 rfl) (by decide) h (fun h => ?_) (fun h => ?_)
    · refine j_lv (lv' := []) [] rfl ?_
      exact g_f_X0_hasClosedWay_77 hG hE hT h
    · refine j_iload hG 3 (dt dtX0_hasClosedWay_0 19 rfl) rfl ?_
      refine j_iconst hG (v := 2) (dt dtX0_hasClosedWay_0 20 rfl) (by decide) ?_
      refine j_irem hG (dt dtX0_hasClosedWay_0 21 rfl) (by decide) ?_
      refine j_if_ne hG (tgt := 37) (dt dtX0_hasClosedWay_0 22 rfl) (by decide) h (fun h => ?_) (fun h => ?_)
      · refine j_iconst hG (v := 1) (dt dtX0_hasClosedWay_0 23 rfl) (by decide) ?_
        refine j_goto hG (tgt := 38) (dt dtX0_hasClosedWay_0 24 rfl) (by decide) ?_
        exact g_f_X0_hasClosedWay_38 hG hE hT hk15 h
      · refine j_iconst hG (v := 0) (dt dtX0_hasClosedWay_0 25 rfl) (by decide) ?_
        exact g_f_X0_hasClosedWay_38 hG hE hT hk15 h
  · refine j_lv (lv' := []) [] rfl ?_
    exact g_f_X0_hasClosedWay_77 hG hE hT h
set_option maxRecDepth 4000 in
theorem g_f_X0_hasClosedWay_15 {G : wG} (hG : wOk G RX0 cX0_hasClosedWay 6 2 44) {X : wM} {Y : wM} {o : Int64} {dd : UInt64} {td : wX} {res : (Int32)} (hE : wEnd G (some .boolean) (rp (some (.int (res))) (X, Y, o, dd, td)) xp0) (hT : wNoTab G) (n : Nat) : ∀ (l1 : Int32) (l2 : Int32) (l3 : Int32) (l4 : Int32), f_X0_hasClosedWay_15 n l1 l2 l3 l4 = some res → J G 6 0 0 15 [(1, .int (l1)), (2, .int (l2)), (3, .int (l3)), (4, .int (l4))] [] (X, Y, o, dd, td) := by
  induction n with
  | zero => intro l1 l2 l3 l4 h; cases h
  | succ n ih =>
    intro l1 l2 l3 l4 h
    exact g_f_X0_hasClosedWay_15b hG hE hT ih h
set_option maxRecDepth 4000 in
theorem g_f_X0_hasClosedWay {G : wG} (hG : wOk G RX0 cX0_hasClosedWay 6 2 44) {X Y : wM} {o : Int64} {dd : UInt64} {td : wX} {res : (Int32)} (hE : wEnd G (some .boolean) (rp (some (.int (res))) (X, Y, o, dd, td)) xp0) (hT : wNoTab G) {a0 : Int32} {a1 : Int32} (h : f_X0_hasClosedWay a0 a1 = some res) : J G 6 0 0 0 [(0, .int (a0)), (1, .int (a1))] [] (X, Y, o, dd, td) := by
  unfold f_X0_hasClosedWay at h
  refine j_iload_n hG 0 (dt dtX0_hasClosedWay_0 0 rfl) rfl rfl ?_
  refine j_iconst hG (v := 1) (dt dtX0_hasClosedWay_0 1 rfl) (by decide) ?_
  refine j_iload_n hG 1 (dt dtX0_hasClosedWay_0 2 rfl) rfl rfl ?_
  refine j_ishl hG (dt dtX0_hasClosedWay_0 3 rfl) ?_
  refine j_iconst hG (v := (-1)) (dt dtX0_hasClosedWay_0 4 rfl) (by decide) ?_
  refine j_ixor hG (dt dtX0_hasClosedWay_0 5 rfl) ?_
  refine j_iand hG (dt dtX0_hasClosedWay_0 6 rfl) ?_
  refine j_istoreB_n hG (fun v7 => [(2, .int (v7)), (0, .int (a0)), (1, .int (a1))]) (dt dtX0_hasClosedWay_0 7 rfl) rfl (by decide) (fun _ => rfl) h (fun v7 h => ?_)
  refine j_iconst hG (v := 1) (dt dtX0_hasClosedWay_0 8 rfl) (by decide) ?_
  refine j_iload_n hG 2 (dt dtX0_hasClosedWay_0 9 rfl) rfl rfl ?_
  refine j_ishl hG (dt dtX0_hasClosedWay_0 10 rfl) ?_
  refine j_istoreB_n hG (fun v11 => [(3, .int (v11)), (2, .int (v7)), (0, .int (a0)), (1, .int (a1))]) (dt dtX0_hasClosedWay_0 11 rfl) rfl (by decide) (fun _ => rfl) h (fun v11 h => ?_)
  refine j_iconst hG (v := 0) (dt dtX0_hasClosedWay_0 12 rfl) (by decide) ?_
  refine j_istore hG (lv' := [(4, .int (0)), (3, .int (v11)), (2, .int (v7)), (0, .int (a0)), (1, .int (a1))]) (dt dtX0_hasClosedWay_0 13 rfl) (by decide) rfl ?_
  refine j_lv (lv' := [(1, .int (a1)), (2, .int (v7)), (3, .int (v11)), (4, .int (0))]) [4, 2, 1, 0] rfl ?_
  exact g_f_X0_hasClosedWay_15 hG hE hT 1000 a1 v7 v11 (0 : Int32) h
theorem ct_X0_hasClosedWay {l : Launch} (hl : l.stackTraces = false) (B : wB) (X Y : wM) (o : Int64) (dd : UInt64) (td : wX) {a0 : Int32} {a1 : Int32} {res : (Int32)} (h : f_X0_hasClosedWay a0 a1 = some res) : wMet l B yX0_hasClosedWay cX0_hasClosedWay 6 (some .boolean) 2 44 0 0 [.int (a0), .int (a1)] (X, Y, o, dd, td) (rp (some (.int (res))) (X, Y, o, dd, td)) xp0 :=
  wMet.of hl (by decide +kernel) (Nat.le_of_ble_eq_true rfl) (fun G hB hL hG hE hT => by subst hB; exact g_f_X0_hasClosedWay hG hE hT h)
def f_X0_numberWithoutWay_29 (k4 : Int32 → Int32 → Int32 → Option (Int32)) (l0 : Int32) (l1 : Int32) (l2 : Int32) : Option (Int32) :=
  wbd (l2 + 1) fun v29 =>
  k4 l0 l1 v29
def f_X0_numberWithoutWay_4b (k4 : Int32 → Int32 → Int32 → Option (Int32)) (l0 : Int32) (l1 : Int32) (l2 : Int32) : Option (Int32) :=
  (if l2 < 24 then (f_X0_has l0 l2).bind fun y12 =>
  (if y12 = 0 then f_X0_numberWithoutWay_29 k4 l0 l1 l2
  else (f_X0_hasClosedWay l0 l2).bind fun y20 =>
  (if y20 = 0 then wbd (l1 + 1) fun v26 =>
  f_X0_numberWithoutWay_29 k4 l0 v26 l2
  else f_X0_numberWithoutWay_29 k4 l0 l1 l2))
  else some l1)
def f_X0_numberWithoutWay_4 : Nat → Int32 → Int32 → Int32 → Option (Int32)
  | 0 => fun _ _ _ => none
  | n + 1 => fun l0 l1 l2 => f_X0_numberWithoutWay_4b (f_X0_numberWithoutWay_4 n) l0 l1 l2
def f_X0_numberWithoutWay (a0 : Int32) : Option (Int32) :=
  f_X0_numberWithoutWay_4 1000 a0 (0 : Int32) (0 : Int32)
set_option maxRecDepth 4000 in
theorem g_f_X0_numberWithoutWay_29 {G : wG} (hG : wOk G RX0 cX0_numberWithoutWay 3 3 69) {X Y : wM} {o : Int64} {dd : UInt64} {td : wX} {res : (Int32)} (hE : wEnd G (some .int) (rp (some (.int (res))) (X, Y, o, dd, td)) xp0) (hT : wNoTab G) {k4 : Int32 → Int32 → Int32 → Option (Int32)} (hk4 : ∀ (l0 : Int32) (l1 : Int32) (l2 : Int32), k4 l0 l1 l2 = some res → J G 3 0 0 4 [(0, .int (l0)), (1, .int (l1)), (2, .int (l2))] [] (X, Y, o, dd, td)) {l0 : Int32} {l1 : Int32} {l2 : Int32} (h : f_X0_numberWithoutWay_29 k4 l0 l1 l2 = some res) : J G 3 0 0 29 [(0, .int (l0)), (1, .int (l1)), (2, .int (l2))] [] (X, Y, o, dd, td) := by
  unfold f_X0_numberWithoutWay_29 at h
  refine j_iincB hG 2 (fun v29 => [(2, .int (v29)), (0, .int (l0)), (1, .int (l1))]) (dt dtX0_numberWithoutWay_0 16 rfl) rfl rfl (by decide) (fun _ => rfl) h (fun v29 h => ?_)
  refine j_goto hG (tgt := 4) (dt dtX0_numberWithoutWay_0 17 rfl) (by decide) ?_
  refine j_lv (lv' := [(0, .int (l0)), (1, .int (l1)), (2, .int (v29))]) [1, 2, 0] rfl ?_
  exact hk4 l0 l1 v29 h
set_option maxRecDepth 4000 in
theorem g_f_X0_numberWithoutWay_4b {G : wG} (hG : wOk G RX0 cX0_numberWithoutWay 3 3 69) {X Y : wM} {o : Int64} {dd : UInt64} {td : wX} {res : (Int32)} (hE : wEnd G (some .int) (rp (some (.int (res))) (X, Y, o, dd, td)) xp0) (hT : wNoTab G) {k4 : Int32 → Int32 → Int32 → Option (Int32)} (hk4 : ∀ (l0 : Int32) (l1 : Int32) (l2 : Int32), k4 l0 l1 l2 = some res → J G 3 0 0 4 [(0, .int (l0)), (1, .int (l1)), (2, .int (l2))] [] (X, Y, o, dd, td)) {l0 : Int32} {l1 : Int32} {l2 : Int32} (h : f_X0_numberWithoutWay_4b k4 l0 l1 l2 = some res) : J G 3 0 0 4 [(0, .int (l0)), (1, .int (l1)), (2, .int (l2))] [] (X, Y, o, dd, td) := by
  unfold f_X0_numberWithoutWay_4b at h
  refine j_iload_n hG 2 (dt dtX0_numberWithoutWay_0 4 rfl) rfl rfl ?_
  refine j_bipush hG (v := 24) (dt dtX0_numberWithoutWay_0 5 rfl) (by decide) ?_
  refine j_icmp_ge hG (tgt := 35) (dt dtX0_numberWithoutWay_0 6 rfl) (by decide) h (fun h => ?_) (fun h => ?_)
  · refine j_iload_n hG 0 (dt dtX0_numberWithoutWay_0 7 rfl) rfl rfl ?_
    refine j_iload_n hG 2 (dt dtX0_numberWithoutWay_0 8 rfl) rfl rfl ?_
    refine j_callSp hG h (V := fun y12 => (some (.int (y12)))) (S := fun y12 => (X, Y, o, dd, td)) (kc := 0) (ks := 0) (fun z hz => ct_X0_has hG.2.2.1 (gB G) _ _ _ _ _ hz) mf_X0_has ml_X0_29 rfl (rest := []) rfl (Nat.le_of_ble_eq_true rfl) (dt dtX0_numberWithoutWay_0 9 rfl) (by decide) (by decide) (fun y12 h => ?_)
    refine j_if_eq hG (tgt := 29) (dt dtX0_numberWithoutWay_0 10 rfl) (by decide) h (fun h => ?_) (fun h => ?_)
    · exact g_f_X0_numberWithoutWay_29 hG hE hT hk4 h
    · refine j_iload_n hG 0 (dt dtX0_numberWithoutWay_0 11 rfl) rfl rfl ?_
      refine j_iload_n hG 2 (dt dtX0_numberWithoutWay_0 12 rfl) rfl rfl ?_
      refine j_callSp hG h (V := fun y20 => (some (.int (y20)))) (S := fun y20 => (X, Y, o, dd, td)) (kc := 0) (ks := 0) (fun z hz => ct_X0_hasClosedWay hG.2.2.1 (gB G) _ _ _ _ _ hz) mf_X0_hasClosedWay ml_X0_50 rfl (rest := []) rfl (Nat.le_of_ble_eq_true rfl) (dt dtX0_numberWithoutWay_0 13 rfl) (by decide) (by decide) (fun y20 h => ?_)
      refine j_if_ne hG (tgt := 29) (dt dtX0_numberWithoutWay_0 14 rfl) (by decide) h (fun h => ?_) (fun h => ?_)
      · refine j_iincB hG 1 (fun v26 => [(1, .int (v26)), (0, .int (l0)), (2, .int (l2))]) (dt dtX0_numberWithoutWay_0 15 rfl) rfl rfl (by decide) (fun _ => rfl) h (fun v26 h => ?_)
        refine j_lv (lv' := [(0, .int (l0)), (1, .int (v26)), (2, .int (l2))]) [1, 0, 2] rfl ?_
        exact g_f_X0_numberWithoutWay_29 hG hE hT hk4 h
      · exact g_f_X0_numberWithoutWay_29 hG hE hT hk4 h
  · refine j_iload_n hG 1 (dt dtX0_numberWithoutWay_0 18 rfl) rfl rfl ?_
    obtain rfl := Option.some.inj h
    exact j_iret hG hE ⟨rfl, rfl⟩ (dt dtX0_numberWithoutWay_0 19 rfl)
set_option maxRecDepth 4000 in
theorem g_f_X0_numberWithoutWay_4 {G : wG} (hG : wOk G RX0 cX0_numberWithoutWay 3 3 69) {X : wM} {Y : wM} {o : Int64} {dd : UInt64} {td : wX} {res : (Int32)} (hE : wEnd G (some .int) (rp (some (.int (res))) (X, Y, o, dd, td)) xp0) (hT : wNoTab G) (n : Nat) : ∀ (l0 : Int32) (l1 : Int32) (l2 : Int32), f_X0_numberWithoutWay_4 n l0 l1 l2 = some res → J G 3 0 0 4 [(0, .int (l0)), (1, .int (l1)), (2, .int (l2))] [] (X, Y, o, dd, td) := by
  induction n with
  | zero => intro l0 l1 l2 h; cases h
  | succ n ih =>
    intro l0 l1 l2 h
    exact g_f_X0_numberWithoutWay_4b hG hE hT ih h
set_option maxRecDepth 4000 in
theorem g_f_X0_numberWithoutWay {G : wG} (hG : wOk G RX0 cX0_numberWithoutWay 3 3 69) {X Y : wM} {o : Int64} {dd : UInt64} {td : wX} {res : (Int32)} (hE : wEnd G (some .int) (rp (some (.int (res))) (X, Y, o, dd, td)) xp0) (hT : wNoTab G) {a0 : Int32} (h : f_X0_numberWithoutWay a0 = some res) : J G 3 0 0 0 [(0, .int (a0))] [] (X, Y, o, dd, td) := by
  unfold f_X0_numberWithoutWay at h
  refine j_iconst hG (v := 0) (dt dtX0_numberWithoutWay_0 0 rfl) (by decide) ?_
  refine j_istore_n hG (lv' := [(1, .int (0)), (0, .int (a0))]) (dt dtX0_numberWithoutWay_0 1 rfl) rfl (by decide) rfl ?_
  refine j_iconst hG (v := 0) (dt dtX0_numberWithoutWay_0 2 rfl) (by decide) ?_
  refine j_istore_n hG (lv' := [(2, .int (0)), (1, .int (0)), (0, .int (a0))]) (dt dtX0_numberWithoutWay_0 3 rfl) rfl (by decide) rfl ?_
  refine j_lv (lv' := [(0, .int (a0)), (1, .int (0)), (2, .int (0))]) [2, 1, 0] rfl ?_
  exact g_f_X0_numberWithoutWay_4 hG hE hT 1000 a0 (0 : Int32) (0 : Int32) h
theorem ct_X0_numberWithoutWay {l : Launch} (hl : l.stackTraces = false) (B : wB) (X Y : wM) (o : Int64) (dd : UInt64) (td : wX) {a0 : Int32} {res : (Int32)} (h : f_X0_numberWithoutWay a0 = some res) : wMet l B yX0_numberWithoutWay cX0_numberWithoutWay 3 (some .int) 3 69 0 0 [.int (a0)] (X, Y, o, dd, td) (rp (some (.int (res))) (X, Y, o, dd, td)) xp0 :=
  wMet.of hl (by decide +kernel) (Nat.le_of_ble_eq_true rfl) (fun G hB hL hG hE hT => by subst hB; exact g_f_X0_numberWithoutWay hG hE hT h)
