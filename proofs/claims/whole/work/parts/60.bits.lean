section JR3
variable {G : wG} {own : String} {cc : ByteArray} {nL fr lo kc ks pc : Nat} {lv : List (Nat × Value)} {st : List Value} {σ : wS}
theorem j_iushr (hG : wOk G own cc nL fr lo) {x y : Int32} (d : decode cc pc = .ok (.iushr, 1)) (kk : J G nL kc ks (pc + 1) lv (.int (ush x y) :: st) σ) : J G nL kc ks pc lv (.int y :: .int x :: st) σ :=
  fun ls H locs cells slots h1 h2 h3 h4 h5 h6 => lv_iushr hG.1.1 hG.1.2.1 d rfl (kk ls H locs cells slots h1 h2 h3 h4 h5 h6)
theorem j_ldcw (hG : wOk G own cc nL fr lo) {index : Nat} {v : Int32} (hc : Cond.constant own index v ∈ wTs) (d : decode cc pc = .ok (.ldc_w index, 3)) (kk : J G nL kc ks (pc + 3) lv (.int v :: st) σ) : J G nL kc ks pc lv st σ :=
  fun ls H locs cells slots h1 h2 h3 h4 h5 h6 => lv_ldcw hG.1.1 hG.1.2.1 hG.1.2.2.2.1 (hG.word hc) d (kk ls H locs cells slots h1 h2 h3 h4 h5 h6)
end JR3
def dlJ6_bitCount : List (Nat × Instr × Nat) := [(0, .iload_n 0, 1), (1, .iload_n 0, 1), (2, .iconst 1, 1), (3, .iushr, 1), (4, .ldc_w 265, 3), (7, .iand, 1), (8, .isub, 1), (9, .istore_n 0, 1), (10, .iload_n 0, 1), (11, .ldc_w 266, 3), (14, .iand, 1), (15, .iload_n 0, 1), (16, .iconst 2, 1), (17, .iushr, 1), (18, .ldc_w 266, 3), (21, .iand, 1), (22, .iadd, 1), (23, .istore_n 0, 1), (24, .iload_n 0, 1), (25, .iload_n 0, 1), (26, .iconst 4, 1), (27, .iushr, 1), (28, .iadd, 1), (29, .ldc_w 267, 3), (32, .iand, 1), (33, .istore_n 0, 1), (34, .iload_n 0, 1), (35, .iload_n 0, 1), (36, .bipush 8, 2), (38, .iushr, 1), (39, .iadd, 1), (40, .istore_n 0, 1), (41, .iload_n 0, 1), (42, .iload_n 0, 1), (43, .bipush 16, 2), (45, .iushr, 1), (46, .iadd, 1), (47, .istore_n 0, 1), (48, .iload_n 0, 1), (49, .bipush 63, 2), (51, .iand, 1), (52, .ireturn, 1)]
theorem dtJ6_bitCount : ∀ q ∈ dlJ6_bitCount, decode cJ6_bitCount_0f7a4 q.1 = .ok q.2 := by decide +kernel
set_option maxRecDepth 4000 in
theorem g_J6_bitCount {G : wG} (hG : wOk G RJ6 cJ6_bitCount_0f7a4 1 0 0) {X Y : wM} {o : Int64} {dd : UInt64} {td : wX} {res : Int32} (hE : wEnd G (some .int) (rp (some (.int res)) (X, Y, o, dd, td)) xp0) {x : Int32} (h : f_bits x = res) : J G 1 0 0 0 [(0, .int x)] [] (X, Y, o, dd, td) := by
  refine j_iload_n hG 0 (dt dtJ6_bitCount 0 rfl) rfl rfl ?_
  refine j_iload_n hG 0 (dt dtJ6_bitCount 1 rfl) rfl rfl ?_
  refine j_iconst hG (v := 1) (dt dtJ6_bitCount 2 rfl) (by decide) ?_
  refine j_iushr hG (dt dtJ6_bitCount 3 rfl) ?_
  refine j_ldcw hG (v := 1431655765) ck_J6_265 (dt dtJ6_bitCount 4 rfl) ?_
  refine j_iand hG (dt dtJ6_bitCount 5 rfl) ?_
  refine j_isub hG (dt dtJ6_bitCount 6 rfl) ?_
  refine j_istore_n hG (lv' := [(0, .int _)]) (dt dtJ6_bitCount 7 rfl) rfl (by decide) rfl ?_
  refine j_iload_n hG 0 (dt dtJ6_bitCount 8 rfl) rfl rfl ?_
  refine j_ldcw hG (v := 858993459) ck_J6_266 (dt dtJ6_bitCount 9 rfl) ?_
  refine j_iand hG (dt dtJ6_bitCount 10 rfl) ?_
  refine j_iload_n hG 0 (dt dtJ6_bitCount 11 rfl) rfl rfl ?_
  refine j_iconst hG (v := 2) (dt dtJ6_bitCount 12 rfl) (by decide) ?_
  refine j_iushr hG (dt dtJ6_bitCount 13 rfl) ?_
  refine j_ldcw hG (v := 858993459) ck_J6_266 (dt dtJ6_bitCount 14 rfl) ?_
  refine j_iand hG (dt dtJ6_bitCount 15 rfl) ?_
  refine j_iadd hG (dt dtJ6_bitCount 16 rfl) ?_
  refine j_istore_n hG (lv' := [(0, .int _)]) (dt dtJ6_bitCount 17 rfl) rfl (by decide) rfl ?_
  refine j_iload_n hG 0 (dt dtJ6_bitCount 18 rfl) rfl rfl ?_
  refine j_iload_n hG 0 (dt dtJ6_bitCount 19 rfl) rfl rfl ?_
  refine j_iconst hG (v := 4) (dt dtJ6_bitCount 20 rfl) (by decide) ?_
  refine j_iushr hG (dt dtJ6_bitCount 21 rfl) ?_
  refine j_iadd hG (dt dtJ6_bitCount 22 rfl) ?_
  refine j_ldcw hG (v := 252645135) ck_J6_267 (dt dtJ6_bitCount 23 rfl) ?_
  refine j_iand hG (dt dtJ6_bitCount 24 rfl) ?_
  refine j_istore_n hG (lv' := [(0, .int _)]) (dt dtJ6_bitCount 25 rfl) rfl (by decide) rfl ?_
  refine j_iload_n hG 0 (dt dtJ6_bitCount 26 rfl) rfl rfl ?_
  refine j_iload_n hG 0 (dt dtJ6_bitCount 27 rfl) rfl rfl ?_
  refine j_bipush hG (v := 8) (dt dtJ6_bitCount 28 rfl) (by decide) ?_
  refine j_iushr hG (dt dtJ6_bitCount 29 rfl) ?_
  refine j_iadd hG (dt dtJ6_bitCount 30 rfl) ?_
  refine j_istore_n hG (lv' := [(0, .int _)]) (dt dtJ6_bitCount 31 rfl) rfl (by decide) rfl ?_
  refine j_iload_n hG 0 (dt dtJ6_bitCount 32 rfl) rfl rfl ?_
  refine j_iload_n hG 0 (dt dtJ6_bitCount 33 rfl) rfl rfl ?_
  refine j_bipush hG (v := 16) (dt dtJ6_bitCount 34 rfl) (by decide) ?_
  refine j_iushr hG (dt dtJ6_bitCount 35 rfl) ?_
  refine j_iadd hG (dt dtJ6_bitCount 36 rfl) ?_
  refine j_istore_n hG (lv' := [(0, .int _)]) (dt dtJ6_bitCount 37 rfl) rfl (by decide) rfl ?_
  refine j_iload_n hG 0 (dt dtJ6_bitCount 38 rfl) rfl rfl ?_
  refine j_bipush hG (v := 63) (dt dtJ6_bitCount 39 rfl) (by decide) ?_
  refine j_iand hG (dt dtJ6_bitCount 40 rfl) ?_
  subst h
  exact j_iret hG hE ⟨rfl, rfl⟩ (dt dtJ6_bitCount 41 rfl)
theorem ct_J6_bitCount {l : Launch} (hl : l.stackTraces = false) (B : wB) (X Y : wM) (o : Int64) (dd : UInt64) (td : wX) {x : Int32} {res : Int32} (h : some (f_bits x) = some res) : wMet l B yJ6_bitCount_0f7a4 cJ6_bitCount_0f7a4 1 (some .int) 0 0 0 0 [.int x] (X, Y, o, dd, td) (rp (some (.int res)) (X, Y, o, dd, td)) xp0 :=
  wMet.of hl (by decide +kernel) (Nat.le_of_ble_eq_true rfl) (fun G hB hL hG hE hT => by subst hB; exact g_J6_bitCount hG hE (Option.some.inj h))
set_option maxRecDepth 4000 in
theorem g_f_X7_holes {G : wG} (hG : wOk G RX7 cX7_holes 2 7 112) {X Y : wM} {o : Int64} {dd : UInt64} {td : wX} {res : ((Nat) ⊕ (Int32))} (hE : wEnd G (some .int) (rpS res (fun z => rp (some (.int (z))) (X, Y, o, dd, td))) (xpS res (fun e E σ1 => E = exn e ∧ σ1 = (X, Y, o, dd, td)))) (hT : wNoTab G) {a1 : Int32} (h : f_X7_holes X a1 = some res) : J G 2 1 6 0 [(0, .ref (wad (gB G) 0)), (1, .int (a1))] [] (X, Y, o, dd, td) := by
  unfold f_X7_holes at h
  refine j_aload_n hG 0 (dt dtX7_holes_0 0 rfl) rfl rfl ?_
  refine j_iload_n hG 1 (dt dtX7_holes_0 1 rfl) rfl rfl ?_
  refine j_callVt hG h (V := fun y2 => (some (.ref (td.1 (4 * y2))))) (S := fun y2 => (X, Y, o, dd, td)) (E0 := fun e => exn e) (S0 := fun e => (X, Y, o, dd, td)) (kc := 0) (ks := 0) (fun z hz => ct_X7_toldTable hG.2.2.1 (gB G) _ _ _ _ _ hz) mf_X7_toldTable ml_X7_232 0 (cv_0 _ _ _ _) rfl rfl (rest := []) rfl (Nat.le_of_ble_eq_true rfl) (dt dtX7_holes_0 2 rfl) (by decide) (by decide) (fun y2 h => ?_) (fun e h => ?_)
  · obtain ⟨c5, h⟩ := wgd_ok h
    refine j_get hG cl_X5 (39 + 4 * y2) 2 (ct_0 _ _ _ _ _ _ (of_decide_eq_true c5)) (by decide) fl_X7_244 rfl rfl (dt dtX7_holes_0 3 rfl) ?_
    have h : (some (f_bits (X (39 + 4 * y2) 2))).bind (fun y => some (Sum.inr (α := Nat) y)) = some res := h
    refine j_callSp hG h (V := fun y8 => (some (.int (y8)))) (S := fun y8 => (X, Y, o, dd, td)) (kc := 0) (ks := 0) (fun z hz => ct_J6_bitCount hG.2.2.1 (gB G) _ _ _ _ _ hz) mf_J6_bitCount_0f7a4 ml_X7_263 rfl (rest := []) rfl (Nat.le_of_ble_eq_true rfl) (dt dtX7_holes_0 4 rfl) (by decide) (by decide) (fun y8 h => ?_)
    obtain rfl := Option.some.inj h
    exact j_iret hG hE ⟨_, rfl, rfl, rfl⟩ (dt dtX7_holes_0 5 rfl)
  · obtain rfl := Option.some.inj h
    exact jx_out hG hE hT ⟨_, rfl, rfl, rfl⟩
theorem ct_X7_holes {l : Launch} (hl : l.stackTraces = false) (B : wB) (X Y : wM) (o : Int64) (dd : UInt64) (td : wX) {a1 : Int32} {res : ((Nat) ⊕ (Int32))} (h : f_X7_holes X a1 = some res) : wMet l B yX7_holes cX7_holes 2 (some .int) 7 112 1 6 [.ref (wad B 0), .int (a1)] (X, Y, o, dd, td) (rpS res (fun z => rp (some (.int (z))) (X, Y, o, dd, td))) (xpS res (fun e E σ1 => E = exn e ∧ σ1 = (X, Y, o, dd, td))) :=
  wMet.of hl (by decide +kernel) (Nat.le_of_ble_eq_true rfl) (fun G hB hL hG hE hT => by subst hB; exact g_f_X7_holes hG hE hT h)
