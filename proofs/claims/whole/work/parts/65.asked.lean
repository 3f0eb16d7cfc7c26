/-! lines asked -/
theorem x_len_ok {X : wM} {i : Nat} {K : Int32 → Option (Nat ⊕ Int32)} {res : Nat ⊕ Int32} (h : x_len X i K = some res) : i < wT X ∧ X (39 + (4 * i + 2)) 1 = 0 ∧ ∃ n, n < 2147483648 ∧ X (39 + (4 * i + 3)) 1000 = nI n ∧ K (nI n) = some res := by
  unfold x_len at h
  obtain ⟨c1, h⟩ := wgd_ok h
  obtain ⟨c2, h⟩ := wgd_ok h
  obtain ⟨c3, h⟩ := wgd_ok h
  obtain ⟨n, hn, e⟩ := nI_of (of_decide_eq_true c3)
  rw [e] at h
  exact ⟨of_decide_eq_true c1, of_decide_eq_true c2, n, hn, e, h⟩
set_option maxRecDepth 4000 in
theorem g_f_X7_lineLength {G : wG} (hG : wOk G RX7 cX7_lineLength 2 7 112) {X Y : wM} {o : Int64} {dd : UInt64} {td : wX} {res : Nat ⊕ Int32} {a1 : Int32} (hE : wEnd G (some .int) (rpS res (fun z => rp (some (.int z)) (X, Y, o, dd, td))) (xpS res (fun e E σ1 => E = exn e ∧ σ1 = (X, Y, o, dd, td)))) (hT : wNoTab G) (h : f_X7_lineLength X a1 = some res) : J G 2 1 6 0 [(0, .ref (wad (gB G) 0)), (1, .int a1)] [] (X, Y, o, dd, td) := by
  unfold f_X7_lineLength at h
  refine j_aload_n hG 0 (dt dtX7_lineLength_0 0 rfl) rfl rfl ?_
  refine j_iload_n hG 1 (dt dtX7_lineLength_0 1 rfl) rfl rfl ?_
  refine j_callVt hG h (V := fun y2 => (some (.ref (td.1 (4 * y2))))) (S := fun y2 => (X, Y, o, dd, td)) (E0 := fun e => exn e) (S0 := fun e => (X, Y, o, dd, td)) (kc := 0) (ks := 0) (fun z hz => ct_X7_toldTable hG.2.2.1 (gB G) _ _ _ _ _ hz) mf_X7_toldTable ml_X7_232 0 (cv_0 _ _ _ _) rfl rfl (rest := []) rfl (Nat.le_of_ble_eq_true rfl) (dt dtX7_lineLength_0 2 rfl) (by decide) (by decide) (fun y2 h => ?_) (fun e h => ?_)
  · obtain ⟨c1, c2, n, hn, c3, h⟩ := x_len_ok h
    have he := ct_2 (gB G) X Y o dd td c1
    rw [c2] at he
    have ha := ct_3 (gB G) X Y o dd td c1
    rw [c3, nI_clamp hn] at ha
    refine j_get hG cl_X5 (39 + 4 * y2) 3 (ct_0 _ _ _ _ _ _ c1) (by decide) fl_X7_282 rfl rfl (dt dtX7_lineLength_0 3 rfl) ?_
    refine J_of ?_
    refine jl_callV hG (kc := 0) (ks := 0) (mc := 0) (ms := 0) (c_strLen hG.2.2.1 he ha) ⟨mf_J0_length_8abf5.1, mf_J0_length_8abf5.2.1⟩ ml_X7_286 _ he rfl (hG.word mf_J0_length_8abf5.2.2) rfl (rest := []) rfl (Nat.le_of_ble_eq_true rfl) (dt dtX7_lineLength_0 4 rfl) (by decide) (by decide) (fun v w h2 => ?_)
    obtain ⟨rfl, rfl⟩ := h2
    refine J_to ?_
    obtain rfl := Option.some.inj h
    exact j_iret hG hE ⟨_, rfl, rfl, rfl⟩ (dt dtX7_lineLength_0 5 rfl)
  · obtain rfl := Option.some.inj h
    exact jx_out hG hE hT ⟨_, rfl, rfl, rfl⟩
theorem ct_X7_lineLength {l : Launch} (hl : l.stackTraces = false) (B : wB) {X Y : wM} {o : Int64} {dd : UInt64} {td : wX} {res : Nat ⊕ Int32} {a1 : Int32} (h : f_X7_lineLength X a1 = some res) : wMet l B yX7_lineLength cX7_lineLength 2 (some .int) 7 112 1 6 [.ref (wad B 0), .int a1] (X, Y, o, dd, td) (rpS res (fun z => rp (some (.int z)) (X, Y, o, dd, td))) (xpS res (fun e E σ1 => E = exn e ∧ σ1 = (X, Y, o, dd, td))) :=
  wMet.of hl (by decide +kernel) (Nat.le_of_ble_eq_true rfl) (fun G hB hL hG hE hT => by subst hB; exact g_f_X7_lineLength hG hE hT h)
set_option maxRecDepth 4000 in
theorem g_f_X7_lineAt {G : wG} (hG : wOk G RX7 cX7_lineAt 4 7 112) {X Y : wM} {o : Int64} {dd : UInt64} {td : wX} {res : Nat ⊕ Int32} {a1 k : Int32} (hE : wEnd G (some .char) (rpS res (fun z => rp (some (.int z)) (X, Y, o, dd, td))) (xpS res (fun e E σ1 => E = exn e ∧ σ1 = (X, Y, o, dd, td)))) (hT : wNoTab G) (h : f_X7_lineAt X a1 k = some res) : J G 4 2 12 0 [(0, .ref (wad (gB G) 0)), (1, .int a1), (2, .int k)] [] (X, Y, o, dd, td) := by
  unfold f_X7_lineAt at h
  refine j_aload_n hG 0 (dt dtX7_lineAt_0 0 rfl) rfl rfl ?_
  refine j_iload_n hG 1 (dt dtX7_lineAt_0 1 rfl) rfl rfl ?_
  refine j_callVt hG h (V := fun y2 => (some (.ref (td.1 (4 * y2))))) (S := fun y2 => (X, Y, o, dd, td)) (E0 := fun e => exn e) (S0 := fun e => (X, Y, o, dd, td)) (kc := 1) (ks := 6) (fun z hz => ct_X7_toldTable hG.2.2.1 (gB G) _ _ _ _ _ hz) mf_X7_toldTable ml_X7_232 0 (cv_0 _ _ _ _) rfl rfl (rest := []) rfl (Nat.le_of_ble_eq_true rfl) (dt dtX7_lineAt_0 2 rfl) (by decide) (by decide) (fun y2 h => ?_) (fun e h => ?_)
  · obtain ⟨c1, c2, n, hn, c3, h⟩ := x_len_ok h
    have he := ct_2 (gB G) X Y o dd td c1
    rw [c2] at he
    have ha := ct_3 (gB G) X Y o dd td c1
    rw [c3, nI_clamp hn] at ha
    refine j_get hG cl_X5 (39 + 4 * y2) 3 (ct_0 _ _ _ _ _ _ c1) (by decide) fl_X7_282 rfl rfl (dt dtX7_lineAt_0 3 rfl) ?_
    refine j_astore_n hG (lv' := [(3, .ref (td.1 (4 * y2 + 2))), (0, .ref (wad (gB G) 0)), (1, .int a1), (2, .int k)]) (dt dtX7_lineAt_0 4 rfl) rfl (by decide) rfl ?_
    refine j_iload_n hG 3 (dt dtX7_lineAt_0 5 rfl) rfl rfl ?_
    refine J_of ?_
    refine jl_if_lt hG (tgt := 21) (dt dtX7_lineAt_0 6 rfl) (by decide) (fun q => ?_) (fun q => ?_)
    · rw [if_pos q] at h
      obtain rfl := Option.some.inj h
      refine J_to ?_
      refine J.weak (kc := 0 + 1) (ks := 0 + 6) (by decide) (by decide) ?_
      exact j_throwSW hG hE hT tf_X7_291_293_295 (dt dtX7_lineAt_0 11 rfl) (dt dtX7_lineAt_0 12 rfl) (dt dtX7_lineAt_0 13 rfl) (dt dtX7_lineAt_0 14 rfl) (dt dtX7_lineAt_0 15 rfl) (by decide) (by decide) ⟨_, rfl, rfl, rfl⟩
    · rw [if_neg q] at h
      obtain ⟨j, hj0, rfl⟩ := nI_of q
      refine jl_iload_n hG 3 (dt dtX7_lineAt_0 7 rfl) rfl rfl ?_
      refine jl_aload_n hG 0 (dt dtX7_lineAt_0 8 rfl) rfl rfl ?_
      refine jl_callV hG (kc := 1) (ks := 6) (mc := 0) (ms := 0) (c_strLen hG.2.2.1 he ha) ⟨mf_J0_length_8abf5.1, mf_J0_length_8abf5.2.1⟩ ml_X7_286 _ he rfl (hG.word mf_J0_length_8abf5.2.2) rfl (rest := [.int (nI j)]) rfl (Nat.le_of_ble_eq_true rfl) (dt dtX7_lineAt_0 9 rfl) (by decide) (by decide) (fun v w h2 => ?_)
      obtain ⟨rfl, rfl⟩ := h2
      refine jl_icmp_lt hG (tgt := 32) (dt dtX7_lineAt_0 10 rfl) (by decide) (fun q2 => ?_) (fun q2 => ?_)
      · rw [if_pos q2] at h
        have hj := (nI_ltI hj0 hn).mp q2
        rw [nI_clamp hj0] at h
        obtain ⟨c4, h⟩ := wgd_ok h
        obtain ⟨x, hx, ex⟩ := inb_ex c4
        rw [ex] at h
        obtain rfl := Option.some.inj h
        refine jl_aload_n hG 0 (dt dtX7_lineAt_0 16 rfl) rfl rfl ?_
        refine jl_iload_n hG 3 (dt dtX7_lineAt_0 17 rfl) rfl rfl ?_
        refine jl_callV hG (kc := 1) (ks := 6) (mc := 0) (ms := 0) (c_charAt hG.2.2.1 he ha hj hn hx ex) ⟨mf_J0_charAt_5068e.1, mf_J0_charAt_5068e.2.1⟩ ml_X7_296 _ he rfl (hG.word mf_J0_charAt_5068e.2.2) rfl (rest := []) rfl (Nat.le_of_ble_eq_true rfl) (dt dtX7_lineAt_0 18 rfl) (by decide) (by decide) (fun v w h2 => ?_)
        obtain ⟨rfl, rfl⟩ := h2
        refine J_to ?_
        exact j_zret hG hE (pk_charN (q := x) (by omega)).1 ⟨_, rfl, rfl, rfl⟩ (dt dtX7_lineAt_0 19 rfl)
      · rw [if_neg q2] at h
        obtain rfl := Option.some.inj h
        refine J_to ?_
        refine J.weak (kc := 0 + 1) (ks := 0 + 6) (by decide) (by decide) ?_
        exact j_throwSW hG hE hT tf_X7_291_293_295 (dt dtX7_lineAt_0 11 rfl) (dt dtX7_lineAt_0 12 rfl) (dt dtX7_lineAt_0 13 rfl) (dt dtX7_lineAt_0 14 rfl) (dt dtX7_lineAt_0 15 rfl) (by decide) (by decide) ⟨_, rfl, rfl, rfl⟩
  · obtain rfl := Option.some.inj h
    exact jx_out hG hE hT ⟨_, rfl, rfl, rfl⟩
theorem ct_X7_lineAt {l : Launch} (hl : l.stackTraces = false) (B : wB) {X Y : wM} {o : Int64} {dd : UInt64} {td : wX} {res : Nat ⊕ Int32} {a1 k : Int32} (h : f_X7_lineAt X a1 k = some res) : wMet l B yX7_lineAt cX7_lineAt 4 (some .char) 7 112 2 12 [.ref (wad B 0), .int a1, .int k] (X, Y, o, dd, td) (rpS res (fun z => rp (some (.int z)) (X, Y, o, dd, td))) (xpS res (fun e E σ1 => E = exn e ∧ σ1 = (X, Y, o, dd, td))) :=
  wMet.of hl (by decide +kernel) (Nat.le_of_ble_eq_true rfl) (fun G hB hL hG hE hT => by subst hB; exact g_f_X7_lineAt hG hE hT h)
set_option maxRecDepth 4000 in
theorem g_f_X8_lineLength {G : wG} (hG : wOk G RX8 cX8_lineLength 2 7 194) {X Y : wM} {o : Int64} {dd : UInt64} {td : wX} {res : Int32 × wM} {a1 : Int32} (hE : wEnd G (some .int) (rp (some (.int res.1)) (X, res.2, o, dd, td)) xp0) (hT : wNoTab G) (h : f_X8_lineLength Y a1 = some res) : J G 2 10 3430 0 [(0, .ref (wad (gB G) 22)), (1, .int a1)] [] (X, Y, o, dd, td) := by
  unfold f_X8_lineLength at h
  refine j_aload_n hG 0 (dt dtX8_lineLength_0 0 rfl) rfl rfl ?_
  refine j_aload_n hG 0 (dt dtX8_lineLength_0 1 rfl) rfl rfl ?_
  refine j_iload_n hG 1 (dt dtX8_lineLength_0 2 rfl) rfl rfl ?_
  refine j_callVp hG h (V := fun y3 => (some (.int (y3)))) (S := fun y3 => (X, Y, o, dd, td)) (kc := 10) (ks := 3430) (fun z hz => ct_X8_isTable hG.2.2.1 (gB G) _ _ _ _ _ hz) mf_X8_isTable ml_X8_178 22 (cv_22 _ _ _ _) rfl rfl (rest := [.ref (wad (gB G) 22)]) rfl (Nat.le_of_ble_eq_true rfl) (dt dtX8_lineLength_0 3 rfl) (by decide) (by decide) (fun y3 h => ?_)
  refine j_callVp hG h (V := fun y6 => (some (.int (y6.1)))) (S := fun y6 => (X, y6.2, o, dd, td)) (kc := 10) (ks := 3430) (fun z hz => ct_X8_checked hG.2.2.1 (gB G) _ _ _ _ _ hz) mf_X8_checked ml_X8_120 22 (cv_22 _ _ _ _) rfl rfl (rest := []) rfl (Nat.le_of_ble_eq_true rfl) (dt dtX8_lineLength_0 4 rfl) (by decide) (by decide) (fun y6 h => ?_)
  refine j_if_le hG (tgt := 16) (dt dtX8_lineLength_0 5 rfl) (by decide) h (fun h => ?_) (fun h => ?_)
  · refine j_iconst hG (v := 0) (dt dtX8_lineLength_0 6 rfl) (by decide) ?_
    refine j_goto hG (tgt := 24) (dt dtX8_lineLength_0 7 rfl) (by decide) ?_
    obtain rfl := Option.some.inj h
    exact j_iret hG hE ⟨rfl, rfl⟩ (dt dtX8_lineLength_0 12 rfl)
  · obtain ⟨L, hL, h⟩ := ob h
    obtain rfl := Option.some.inj h
    refine j_aload_n hG 0 (dt dtX8_lineLength_0 8 rfl) rfl rfl ?_
    refine j_iload_n hG 1 (dt dtX8_lineLength_0 9 rfl) rfl rfl ?_
    refine J_of ?_
    refine jl_callV hG (kc := 0) (ks := 0) (mc := 10) (ms := 3430) (ct_line8 hG.2.2.1 (t1 := td.1) (ex := td.2) hL) ⟨mf_X8_line.1, mf_X8_line.2.1⟩ ml_X8_205 22 (cv_22 _ _ _ _) rfl (hG.word mf_X8_line.2.2) rfl (rest := []) rfl (Nat.le_of_ble_eq_true rfl) (dt dtX8_lineLength_0 10 rfl) (by decide) (by decide) (fun v w h2 => ?_)
    obtain ⟨st, b, g, rfl, rfl, hg⟩ := h2
    refine jl_callV hG (kc := 0) (ks := 0) (mc := 0) (ms := 0) (c_strLen hG.2.2.1 ((app_get _ _ rfl 0).trans rfl) ((app_get _ _ rfl 1).trans rfl)) ⟨mf_J0_length_8abf5.1, mf_J0_length_8abf5.2.1⟩ ml_X8_209 (_ + 0) ((app_get _ _ rfl 0).trans rfl) rfl (hG.word mf_J0_length_8abf5.2.2) rfl (rest := []) rfl (Nat.le_of_ble_eq_true rfl) (dt dtX8_lineLength_0 11 rfl) (by decide) (by decide) (fun v w h2 => ?_)
    obtain ⟨rfl, rfl⟩ := h2
    refine JL.take1 ?_
    refine J_to ?_
    exact j_iret hG hE ⟨rfl, rfl⟩ (dt dtX8_lineLength_0 12 rfl)
theorem ct_X8_lineLength {l : Launch} (hl : l.stackTraces = false) (B : wB) {X Y : wM} {o : Int64} {dd : UInt64} {td : wX} {res : Int32 × wM} {a1 : Int32} (h : f_X8_lineLength Y a1 = some res) : wMet l B yX8_lineLength cX8_lineLength 2 (some .int) 7 194 10 3430 [.ref (wad B 22), .int a1] (X, Y, o, dd, td) (rp (some (.int res.1)) (X, res.2, o, dd, td)) xp0 :=
  wMet.of hl (by decide +kernel) (Nat.le_of_ble_eq_true rfl) (fun G hB hL hG hE hT => by subst hB; exact g_f_X8_lineLength hG hE hT h)
theorem y_lineL_len {Y : wM} {t : Int32} : ∀ (n : Nat) (k : Int32) (A L : List Int32), y_lineL Y t n k A = some L → L.length ≤ A.length + 4 * n
  | 0, k, A, L, h => by cases h
  | n + 1, k, A, L, h => by
    rw [y_lineL] at h
    obtain ⟨-, h⟩ := wget_ok h
    by_cases q : k < 4 * Y 36 t.toNatClampNeg
    · rw [if_pos q] at h
      obtain ⟨-, h⟩ := wget_ok h
      have l1 : (if 0 < k - k / 4 * 4 then [(44 : Int32)] else []).length ≤ 1 := by split <;> simp
      have l2 : (if k - k / 4 * 4 = 3 then [(59 : Int32)] else []).length ≤ 1 := by split <;> simp
      split at h
      · obtain ⟨-, h⟩ := wget_ok h
        obtain ⟨Dg, hD, h⟩ := ob h
        obtain ⟨x, hx, -, rfl⟩ := l_dig_ex hD
        have hd : (l_dec x).length ≤ 2 := by rw [l_dec_len]; unfold dgn; split <;> omega
        have := y_lineL_len n _ _ _ h
        simp only [List.length_append] at this
        omega
      · have := y_lineL_len n _ _ _ h
        simp only [List.length_append, List.length_singleton] at this
        omega
    · rw [if_neg q] at h
      obtain rfl := Option.some.inj h
      omega
theorem y_line_len {Y : wM} {t : Int32} {L : List Int32} (h : y_line Y t = some L) : L.length ≤ 4000 := by
  have := y_lineL_len 1000 _ _ _ h
  simpa using this
set_option maxRecDepth 4000 in
theorem g_f_X8_lineAt_60 {G : wG} (hG : wOk G RX8 cX8_lineAt 3 7 194) {X Y : wM} {o : Int64} {dd : UInt64} {td : wX} {res : Int32 × wM} {a1 k s0 : Int32} (hE : wEnd G (some .char) (rp (some (.int res.1)) (X, res.2, o, dd, td)) xp0) (hT : wNoTab G) (h : f_X8_lineAt_60 Y a1 k s0 = some res) : J G 3 10 3430 36 [(0, .ref (wad (gB G) 22)), (1, .int a1), (2, .int k)] [.int s0, .ref (wad (gB G) 22)] (X, Y, o, dd, td) := by
  unfold f_X8_lineAt_60 at h
  refine j_put hG cl_X8 22 14 (X := Y) (k := 22) (fun Y => (X, Y, o, dd, td)) (cv_22 _ _ _ _) (by decide) fl_X8_54 rfl rfl rfl rfl rfl (Nat.le_of_ble_eq_true rfl) (cs_22 _ _ _ _ (upd (Y 22) 14 s0)) h (dt dtX8_lineAt_0 20 rfl) (fun Y h => ?_)
  refine j_aload_n hG 0 (dt dtX8_lineAt_0 21 rfl) rfl rfl ?_
  refine j_get hG cl_X8 22 14 (cv_22 _ _ _ _) (by decide) fl_X8_54 rfl rfl (dt dtX8_lineAt_0 22 rfl) ?_
  refine j_if_le hG (tgt := 51) (dt dtX8_lineAt_0 23 rfl) (by decide) h (fun h => ?_) (fun h => ?_)
  · refine j_bipush hG (v := 32) (dt dtX8_lineAt_0 24 rfl) (by decide) ?_
    refine j_goto hG (tgt := 60) (dt dtX8_lineAt_0 25 rfl) (by decide) ?_
    obtain rfl := Option.some.inj h
    exact j_zret hG hE (by decide) ⟨rfl, rfl⟩ (dt dtX8_lineAt_0 31 rfl)
  · obtain ⟨L, hL, h⟩ := ob h
    obtain ⟨c1, h⟩ := wgd_ok h
    obtain ⟨j, hj, rfl⟩ := inb_ex c1
    have hjL : L.length < 2147483648 := Nat.lt_of_not_le (fun z => by have := y_line_len hL; omega)
    rw [nI_clamp (by omega)] at h
    obtain ⟨c2, h⟩ := wgd_ok h
    obtain ⟨x, hx, ex⟩ := inb_ex c2
    rw [ex] at h
    obtain rfl := Option.some.inj h
    refine j_aload_n hG 0 (dt dtX8_lineAt_0 26 rfl) rfl rfl ?_
    refine j_iload_n hG 1 (dt dtX8_lineAt_0 27 rfl) rfl rfl ?_
    refine J_of ?_
    refine jl_callV hG (kc := 0) (ks := 0) (mc := 10) (ms := 3430) (ct_line8 hG.2.2.1 (t1 := td.1) (ex := td.2) hL) ⟨mf_X8_line.1, mf_X8_line.2.1⟩ ml_X8_205 22 (cv_22 _ _ _ _) rfl (hG.word mf_X8_line.2.2) rfl (rest := []) rfl (Nat.le_of_ble_eq_true rfl) (dt dtX8_lineAt_0 28 rfl) (by decide) (by decide) (fun v w h2 => ?_)
    obtain ⟨st, b, g, rfl, rfl, hg⟩ := h2
    refine jl_iload_n hG 2 (dt dtX8_lineAt_0 29 rfl) rfl rfl ?_
    refine jl_callV hG (kc := 0) (ks := 0) (mc := 0) (ms := 0) (c_charAt hG.2.2.1 ((app_get _ _ rfl 0).trans rfl) ((app_get _ _ rfl 1).trans rfl) hj hjL hx ((hg j hj).trans ex)) ⟨mf_J0_charAt_5068e.1, mf_J0_charAt_5068e.2.1⟩ ml_X8_214 (_ + 0) ((app_get _ _ rfl 0).trans rfl) rfl (hG.word mf_J0_charAt_5068e.2.2) rfl (rest := []) rfl (Nat.le_of_ble_eq_true rfl) (dt dtX8_lineAt_0 30 rfl) (by decide) (by decide) (fun v w h2 => ?_)
    obtain ⟨rfl, rfl⟩ := h2
    refine JL.take1 ?_
    refine J_to ?_
    exact j_zret hG hE (pk_charN (q := x) (by omega)).1 ⟨rfl, rfl⟩ (dt dtX8_lineAt_0 31 rfl)
set_option maxRecDepth 4000 in
theorem g_f_X8_lineAt {G : wG} (hG : wOk G RX8 cX8_lineAt 3 7 194) {X Y : wM} {o : Int64} {dd : UInt64} {td : wX} {res : Int32 × wM} {a1 k : Int32} (hE : wEnd G (some .char) (rp (some (.int res.1)) (X, res.2, o, dd, td)) xp0) (hT : wNoTab G) (h : f_X8_lineAt Y a1 k = some res) : J G 3 20 6860 0 [(0, .ref (wad (gB G) 22)), (1, .int a1), (2, .int k)] [] (X, Y, o, dd, td) := by
  unfold f_X8_lineAt at h
  refine j_aload_n hG 0 (dt dtX8_lineAt_0 0 rfl) rfl rfl ?_
  refine j_aload_n hG 0 (dt dtX8_lineAt_0 1 rfl) rfl rfl ?_
  refine j_iload_n hG 1 (dt dtX8_lineAt_0 2 rfl) rfl rfl ?_
  refine j_callVp hG h (V := fun y3 => (some (.int (y3)))) (S := fun y3 => (X, Y, o, dd, td)) (kc := 20) (ks := 6860) (fun z hz => ct_X8_isTable hG.2.2.1 (gB G) _ _ _ _ _ hz) mf_X8_isTable ml_X8_178 22 (cv_22 _ _ _ _) rfl rfl (rest := [.ref (wad (gB G) 22)]) rfl (Nat.le_of_ble_eq_true rfl) (dt dtX8_lineAt_0 3 rfl) (by decide) (by decide) (fun y3 h => ?_)
  refine j_if_ne hG (tgt := 13) (dt dtX8_lineAt_0 4 rfl) (by decide) h (fun h => ?_) (fun h => ?_)
  · refine j_iconst hG (v := 1) (dt dtX8_lineAt_0 5 rfl) (by decide) ?_
    refine j_goto hG (tgt := 36) (dt dtX8_lineAt_0 6 rfl) (by decide) ?_
    exact J.weak (by decide) (by decide) (g_f_X8_lineAt_60 hG hE hT h)
  · obtain ⟨L, hL, h⟩ := ob h
    refine j_iload_n hG 2 (dt dtX8_lineAt_0 7 rfl) rfl rfl ?_
    refine j_iconst hG (v := 0) (dt dtX8_lineAt_0 8 rfl) (by decide) ?_
    refine j_aload_n hG 0 (dt dtX8_lineAt_0 9 rfl) rfl rfl ?_
    refine j_iload_n hG 1 (dt dtX8_lineAt_0 10 rfl) rfl rfl ?_
    refine J_of ?_
    refine jl_callV hG (kc := 10) (ks := 3430) (mc := 10) (ms := 3430) (ct_line8 hG.2.2.1 (t1 := td.1) (ex := td.2) hL) ⟨mf_X8_line.1, mf_X8_line.2.1⟩ ml_X8_205 22 (cv_22 _ _ _ _) rfl (hG.word mf_X8_line.2.2) rfl (rest := [.int 0, .int k, .ref (wad (gB G) 22)]) rfl (Nat.le_of_ble_eq_true rfl) (dt dtX8_lineAt_0 11 rfl) (by decide) (by decide) (fun v w h2 => ?_)
    obtain ⟨st, b, g, rfl, rfl, hg⟩ := h2
    refine jl_callV hG (kc := 10) (ks := 3430) (mc := 0) (ms := 0) (c_strLen hG.2.2.1 ((app_get _ _ rfl 0).trans rfl) ((app_get _ _ rfl 1).trans rfl)) ⟨mf_J0_length_8abf5.1, mf_J0_length_8abf5.2.1⟩ ml_X8_209 (_ + 0) ((app_get _ _ rfl 0).trans rfl) rfl (hG.word mf_J0_length_8abf5.2.2) rfl (rest := [.int 0, .int k, .ref (wad (gB G) 22)]) rfl (Nat.le_of_ble_eq_true rfl) (dt dtX8_lineAt_0 12 rfl) (by decide) (by decide) (fun v w h2 => ?_)
    obtain ⟨rfl, rfl⟩ := h2
    refine JL.take1 ?_
    refine J_to ?_
    refine j_iconst hG (v := 1) (dt dtX8_lineAt_0 13 rfl) (by decide) ?_
    refine j_isub hG (dt dtX8_lineAt_0 14 rfl) ?_
    refine j_callSp hG h (V := fun y => (some (.int (y)))) (S := fun y => (X, Y, o, dd, td)) (kc := 10) (ks := 3430) (fun z hz => ct_X8_in hG.2.2.1 (gB G) _ _ _ _ _ hz) mf_X8_in ml_X8_91 rfl (rest := [.ref (wad (gB G) 22)]) rfl (Nat.le_of_ble_eq_true rfl) (dt dtX8_lineAt_0 15 rfl) (by decide) (by decide) (fun y h => ?_)
    refine j_if_ne hG (tgt := 35) (dt dtX8_lineAt_0 16 rfl) (by decide) h (fun h => ?_) (fun h => ?_)
    · refine j_iconst hG (v := 2) (dt dtX8_lineAt_0 17 rfl) (by decide) ?_
      refine j_goto hG (tgt := 36) (dt dtX8_lineAt_0 18 rfl) (by decide) ?_
      exact g_f_X8_lineAt_60 hG hE hT h
    · refine j_iconst hG (v := 0) (dt dtX8_lineAt_0 19 rfl) (by decide) ?_
      exact g_f_X8_lineAt_60 hG hE hT h
theorem ct_X8_lineAt {l : Launch} (hl : l.stackTraces = false) (B : wB) {X Y : wM} {o : Int64} {dd : UInt64} {td : wX} {res : Int32 × wM} {a1 k : Int32} (h : f_X8_lineAt Y a1 k = some res) : wMet l B yX8_lineAt cX8_lineAt 3 (some .char) 7 194 20 6860 [.ref (wad B 22), .int a1, .int k] (X, Y, o, dd, td) (rp (some (.int res.1)) (X, res.2, o, dd, td)) xp0 :=
  wMet.of hl (by decide +kernel) (Nat.le_of_ble_eq_true rfl) (fun G hB hL hG hE hT => by subst hB; exact g_f_X8_lineAt hG hE hT h)
