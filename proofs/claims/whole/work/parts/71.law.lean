/-! a call of the law, case by case -/
def lvM (B : wB) (b : Nat) (i : Int32) : List (Nat × Value) := [(5, .int i), (0, .ref b), (1, .ref (wad B 0)), (2, .ref (wad B 22)), (3, .ref (wad B 37)), (4, .ref (wad B 38))]
def SI (σ : wS) : Prop := ∃ (d : mD) (T : mT) (X Y : wM) (o : Int64) (dd : UInt64) (t1 : Nat → Nat), σ = (X, Y, o, dd, (t1, [])) ∧ INV d T X Y
def LWS (G : wG) (b L : Nat) (xs : Nat → Int32) : Prop := va_X b L xs (gs G) (gs G).heap ∧ b < (gs G).heap.size ∧ ¬ wA (gB G) b
theorem cmp_self (x : Int64) : lg_cmp x x = 0 := by
  unfold lg_cmp
  rw [if_neg (by simp), if_pos rfl]
theorem nI_0' {n : Nat} (h : n < 10) (e : nI n = 0) : n = 0 := (nI_eq (a := n) (b := 0) (by omega) (by omega)).mp e
theorem om_out {cd : Nat → Nat} {fx : Option ((Nat × wM) ⊕ (Int32 × wM))} {fy : Option (Int32 × wM)} (h : OM cd fx fy) : ∃ (d2 : mD) (T2 : mT) (X2 Y2 : wM) (res : (Nat × wM) ⊕ (Int32 × wM)) (v k : Int32), INV d2 T2 X2 Y2 ∧ fx = some res ∧ fy = some (v, Y2) ∧ Y2 22 14 = k ∧ (∀ e X9, res = .inl (e, X9) → 0 < cd e) ∧ ∀ (Y : wM) (o : Int64) (dd : UInt64) (w : Option Value) (σ : wS), rpM cd res Y o dd w σ → w = some (.int k) ∧ ∃ (o2 : Int64) (t2 : Nat → Nat), σ = (X2, Y, o2, dd, (t2, [])) ∧ (k = 0 → o2 = v.toInt64) := by
  obtain ⟨d2, T2, X2, Y2, hI, ⟨v, h1, h2, h3⟩ | ⟨e, v, h1, h2, h3, h4, h5⟩⟩ := h
  · refine ⟨d2, T2, X2, Y2, _, v, 0, hI, h1, h2, h3, fun e X9 q => (by cases q), fun Y o dd w σ q => ?_⟩
    obtain ⟨t2, ⟨e, X9, q, -⟩ | ⟨z, X9, q, rfl, rfl⟩⟩ := q
    · cases q
    · cases q
      exact ⟨rfl, _, t2, rfl, fun _ => rfl⟩
  · refine ⟨d2, T2, X2, Y2, _, v, nI (cd e), hI, h1, h2, h5, fun e9 X9 q => (by cases q; exact h3), fun Y o dd w σ q => ?_⟩
    obtain ⟨t2, ⟨e9, X9, q, rfl, rfl⟩ | ⟨z, X9, q, -⟩⟩ := q
    · cases q
      exact ⟨rfl, _, t2, rfl, fun q => absurd (nI_0' h4 q) (by omega)⟩
    · cases q
theorem oq_out {α β : Type} {cd : Nat → Nat} {R : α → β → Prop} {d : mD} {T : mT} {X : wM} {fx : Option (Nat ⊕ α)} {fy : Option (β × wM)} (h : OQ cd R d T X fx fy) : ∃ (Y2 : wM) (res : Nat ⊕ α) (v : β) (k : Int32), INV d T X Y2 ∧ fx = some res ∧ fy = some (v, Y2) ∧ Y2 22 14 = k ∧ (∀ e, res = .inl e → 0 < cd e) ∧ (∀ z, res = .inr z → R z v) ∧ ∀ (σ0 : wS) (S : α → wS) (w : Option Value) (σ : wS), rpG cd res σ0 S w σ → w = some (.int k) ∧ ((¬ k = 0 ∧ σ = σ0) ∨ (k = 0 ∧ ∃ z, R z v ∧ σ = S z)) := by
  obtain ⟨v, Y2, h1, hI, ⟨u, h2, h3, h4⟩ | ⟨e, h2, h3, h4, h5⟩⟩ := h
  · refine ⟨Y2, _, v, 0, hI, h2, h1, h4, fun e q => (by cases q), fun z q => (by cases q; exact h3), fun σ0 S w σ q => ?_⟩
    rcases q with ⟨e, q, -⟩ | ⟨z, q, rfl, rfl⟩
    · cases q
    · cases q
      exact ⟨rfl, Or.inr ⟨rfl, u, h3, rfl⟩⟩
  · refine ⟨Y2, _, v, nI (cd e), hI, h2, h1, h5, fun e9 q => (by cases q; exact h3), fun z q => by (cases q), fun σ0 S w σ q => ?_⟩
    rcases q with ⟨e9, q, rfl, rfl⟩ | ⟨z, q, -⟩
    · cases q
      exact ⟨rfl, Or.inl ⟨fun q => absurd (nI_0' h4 q) (by omega), rfl⟩⟩
    · cases q
section JRM
variable {G : wG} {own : String} {cc : ByteArray} {nL fr lo kc ks pc : Nat} {lv : List (Nat × Value)} {st : List Value} {σ : wS}
theorem j_sld (hG : wOk G own cc nL fr lo) {b L : Nat} {xs : Nat → Int32} (hS : LWS G b L xs) {i : Int32} (j : Nat) (e : i = nI j) (hj : j < L) (hL : L ≤ 2560) (d : decode cc pc = .ok (.iaload, 1)) (kk : J G nL kc ks (pc + 1) lv (.int (xs j) :: st) σ) : J G nL kc ks pc lv (.int i :: .ref b :: st) σ := by
  subst e
  intro ls H locs cells slots h1 h2 h3 h4 h5 h6
  have h9 := kk ls H locs cells slots h1 h2 h3 h4 h5 h6
  refine va_sld hG.1.1 hG.1.2.1 hS.1 hS.2.1 hS.2.2 h4 (vp_in_nI hj (by omega)) d ?_
  rw [nI_clamp (by omega)]
  exact h9
theorem j_slen (hG : wOk G own cc nL fr lo) {b L : Nat} {xs : Nat → Int32} (hS : LWS G b L xs) (d : decode cc pc = .ok (.arraylength, 1)) (kk : J G nL kc ks (pc + 1) lv (.int (nI L) :: st) σ) : J G nL kc ks pc lv (.ref b :: st) σ :=
  fun ls H locs cells slots h1 h2 h3 h4 h5 h6 => va_slen hG.1.1 hG.1.2.1 hS.1 hS.2.1 hS.2.2 h4 d (kk ls H locs cells slots h1 h2 h3 h4 h5 h6)
theorem j_tabIn (hG : wOk G own cc nL fr lo) {dflt lo2 hi : Int} {offs : Array Int} {len : Nat} {x : Int32} {off : Int} {tgt : Nat} (d : decode cc pc = .ok (.tableswitch dflt lo2 hi offs, len)) (h1 : ¬ x.toInt < lo2) (h2 : ¬ hi < x.toInt) (ho : offs[(x.toInt - lo2).toNat]? = some off) (ht : (pc : Int) + off = (tgt : Int)) (kk : J G nL kc ks tgt lv st σ) : J G nL kc ks pc lv (.int x :: st) σ :=
  fun ls H locs cells slots g1 g2 g3 g4 g5 g6 => lv_tableIn hG.1.1 hG.1.2.1 d h1 h2 ho ht (kk ls H locs cells slots g1 g2 g3 g4 g5 g6)
theorem j_tabOut (hG : wOk G own cc nL fr lo) {dflt lo2 hi : Int} {offs : Array Int} {len : Nat} {x : Int32} {tgt : Nat} (d : decode cc pc = .ok (.tableswitch dflt lo2 hi offs, len)) (h : x.toInt < lo2 ∨ hi < x.toInt) (ht : (pc : Int) + dflt = (tgt : Int)) (kk : J G nL kc ks tgt lv st σ) : J G nL kc ks pc lv (.int x :: st) σ :=
  fun ls H locs cells slots g1 g2 g3 g4 g5 g6 => lv_tableOut hG.1.1 hG.1.2.1 d h ht (kk ls H locs cells slots g1 g2 g3 g4 g5 g6)
end JRM
set_option maxRecDepth 4000 in
theorem g_law_0 {G : wG} (hG : wOk G RL cL_law 9 10 282) {b L : Nat} {xs : Nat → Int32} (hS : LWS G b L xs) (hL : L ≤ 2560) {c : Nat} (hc : c + 4 < L) {d : mD} {T : mT} {X Y : wM} {o : Int64} {dd : UInt64} {t1 : Nat → Nat} (hI : INV d T X Y) {K S : Nat} (hk : ∀ σ, SI σ → J G 9 K S 2270 (lvM (gB G) b (nI c)) [] σ) : J G 9 (K + 32) (S + 7000) 196 (lvM (gB G) b (nI c)) [] (X, Y, o, dd, (t1, [])) := by
  show J G 9 (K + 32) (S + 7000) 196 [(5, .int (nI c)), (0, .ref b), (1, .ref (wad (gB G) 0)), (2, .ref (wad (gB G) 22)), (3, .ref (wad (gB G) 37)), (4, .ref (wad (gB G) 38))] [] _
  obtain ⟨d2, T2, X2, Y2, res, v, k, hI2, hx, hy, hk2, hcd, ho⟩ := om_out (op_addBlock hI)
  refine J.weak (kc := K + 1) (ks := S + 6) (by omega) (by omega) ?_
  refine j_aload_n hG 2 (dt dtL_law_0 28 rfl) rfl rfl ?_
  refine j_aload_n hG 4 (dt dtL_law_0 29 rfl) rfl rfl ?_
  refine j_callSH hG (kc := K + 0) (ks := S + 0) (ct_L_addBlock hG.2.2.1 (gB G) hx hcd) mh_L_addBlock ml_L_132 rfl (rest := []) rfl (Nat.le_of_ble_eq_true rfl) (dt dtL_law_0 30 rfl) (by decide) (by decide) (fun v9 σ2 q => ?_)
  obtain ⟨rfl, o2, t2, rfl, he⟩ := ho _ _ _ _ _ q
  refine j_istore hG (lv' := [(6, .int k), (5, .int (nI c)), (0, .ref b), (1, .ref (wad (gB G) 0)), (2, .ref (wad (gB G) 22)), (3, .ref (wad (gB G) 37)), (4, .ref (wad (gB G) 38))]) (dt dtL_law_0 31 rfl) (by decide) rfl ?_
  refine j_aload_n hG 4 (dt dtL_law_0 32 rfl) rfl rfl ?_
  refine j_callV hG (kc := K) (ks := S) (ct_X8_addBlock hG.2.2.1 (gB G) _ _ _ _ _ hy) mf_X8_addBlock ml_L_137 22 (cv_22 _ _ _ _) rfl rfl (rest := []) rfl (Nat.le_of_ble_eq_true rfl) (dt dtL_law_0 33 rfl) (by decide) (by decide) (fun v9 σ2 q => ?_) (fun E σ2 q => q.elim)
  obtain ⟨rfl, rfl⟩ := q
  show J G 9 K S 207 [(6, .int k), (5, .int (nI c)), (0, .ref b), (1, .ref (wad (gB G) 0)), (2, .ref (wad (gB G) 22)), (3, .ref (wad (gB G) 37)), (4, .ref (wad (gB G) 38))] [.int v] (X2, Y2, o2, dd, (t2, []))
  refine j_istore hG (lv' := [(7, .int v), (6, .int k), (5, .int (nI c)), (0, .ref b), (1, .ref (wad (gB G) 0)), (2, .ref (wad (gB G) 22)), (3, .ref (wad (gB G) 37)), (4, .ref (wad (gB G) 38))]) (dt dtL_law_0 34 rfl) (by decide) rfl ?_
  refine j_aload_n hG 5 (dt dtL_law_0 35 rfl) rfl rfl ?_
  refine j_callV hG (kc := K) (ks := S) (ct_X8_thrown hG.2.2.1 (gB G) _ _ _ _ _ (show f_X8_thrown Y2 = some k from by rw [← hk2]; rfl)) mf_X8_thrown ml_L_138 22 (cv_22 _ _ _ _) rfl rfl (rest := []) rfl (Nat.le_of_ble_eq_true rfl) (dt dtL_law_0 36 rfl) (by decide) (by decide) (fun v9 σ2 q => ?_) (fun E σ2 q => q.elim)
  obtain ⟨rfl, rfl⟩ := q
  refine j_iload hG 1 (dt dtL_law_0 37 rfl) rfl ?_
  refine J_of (jl_icmp_eq hG (tgt := 220) (dt dtL_law_0 38 rfl) (by decide) (fun _ => J_to ?_) (fun q => absurd rfl q))
  refine j_iload hG 1 (dt dtL_law_0 41 rfl) rfl ?_
  refine J_of (jl_if_ne hG (tgt := 237) (dt dtL_law_0 42 rfl) (by decide) (fun q => J_to ?_) (fun q => J_to ?_))
  · refine j_goto hG (tgt := 2270) (dt dtL_law_0 52 rfl) (by decide) ?_
    refine j_lv (lv' := lvM (gB G) b (nI c)) [2, 3, 4, 5, 6, 7] rfl ?_
    exact hk _ ⟨_, _, _, _, _, _, _, rfl, hI2⟩
  · refine j_aload_n hG 6 (dt dtL_law_0 43 rfl) rfl rfl ?_
    refine j_iconst hG (v := 0) (dt dtL_law_0 44 rfl) (by decide) ?_
    refine j_lald hG (dt dtL_law_0 45 rfl) ?_
    refine j_iload hG 0 (dt dtL_law_0 46 rfl) rfl ?_
    refine j_i2l hG (dt dtL_law_0 47 rfl) ?_
    rw [he q]
    refine j_lcmp hG (dt dtL_law_0 48 rfl) ?_
    rw [cmp_self]
    refine J_of (jl_if_eq hG (tgt := 237) (dt dtL_law_0 49 rfl) (by decide) (fun _ => J_to ?_) (fun q => absurd rfl q))
    refine j_goto hG (tgt := 2270) (dt dtL_law_0 52 rfl) (by decide) ?_
    refine j_lv (lv' := lvM (gB G) b (nI c)) [2, 3, 4, 5, 6, 7] rfl ?_
    exact hk _ ⟨_, _, _, _, _, _, _, rfl, hI2⟩
set_option maxRecDepth 4000 in
theorem g_law_1 {G : wG} (hG : wOk G RL cL_law 9 10 282) {b L : Nat} {xs : Nat → Int32} (hS : LWS G b L xs) (hL : L ≤ 2560) {c : Nat} (hc : c + 4 < L) {d : mD} {T : mT} {X Y : wM} {o : Int64} {dd : UInt64} {t1 : Nat → Nat} (hI : INV d T X Y) {K S : Nat} (hk : ∀ σ, SI σ → J G 9 K S 2270 (lvM (gB G) b (nI c)) [] σ) : J G 9 (K + 32) (S + 7000) 240 (lvM (gB G) b (nI c)) [] (X, Y, o, dd, (t1, [])) := by
  show J G 9 (K + 32) (S + 7000) 240 [(5, .int (nI c)), (0, .ref b), (1, .ref (wad (gB G) 0)), (2, .ref (wad (gB G) 22)), (3, .ref (wad (gB G) 37)), (4, .ref (wad (gB G) 38))] [] _
  obtain ⟨d2, T2, X2, Y2, res, v, k, hI2, hx, hy, hk2, hcd, ho⟩ := om_out (op_addAddress hI (xs (c + 1)))
  refine J.weak (kc := K + 2) (ks := S + 12) (by omega) (by omega) ?_
  refine j_aload_n hG 2 (dt dtL_law_0 53 rfl) rfl rfl ?_
  refine j_aload_n hG 1 (dt dtL_law_0 54 rfl) rfl rfl ?_
  refine j_iload hG 0 (dt dtL_law_0 55 rfl) rfl ?_
  refine j_iconst hG (v := 1) (dt dtL_law_0 56 rfl) (by decide) ?_
  refine j_iadd hG (dt dtL_law_0 57 rfl) ?_
  refine j_sld hG hS (c + 1) (nI_add c 1) (by omega) hL (dt dtL_law_0 58 rfl) ?_
  refine j_aload_n hG 4 (dt dtL_law_0 59 rfl) rfl rfl ?_
  refine j_callSH hG (kc := K + 0) (ks := S + 0) (ct_L_addAddress hG.2.2.1 (gB G) hx hcd) mh_L_addAddress ml_L_141 rfl (rest := []) rfl (Nat.le_of_ble_eq_true rfl) (dt dtL_law_1 0 rfl) (by decide) (by decide) (fun v9 σ2 q => ?_)
  obtain ⟨rfl, o2, t2, rfl, he⟩ := ho _ _ _ _ _ q
  refine j_istore hG (lv' := [(6, .int k), (5, .int (nI c)), (0, .ref b), (1, .ref (wad (gB G) 0)), (2, .ref (wad (gB G) 22)), (3, .ref (wad (gB G) 37)), (4, .ref (wad (gB G) 38))]) (dt dtL_law_1 1 rfl) (by decide) rfl ?_
  refine j_aload_n hG 4 (dt dtL_law_1 2 rfl) rfl rfl ?_
  refine j_aload_n hG 2 (dt dtL_law_1 3 rfl) rfl rfl ?_
  refine j_iload hG 1 (dt dtL_law_1 4 rfl) rfl ?_
  refine j_iconst hG (v := 1) (dt dtL_law_1 5 rfl) (by decide) ?_
  refine j_iadd hG (dt dtL_law_1 6 rfl) ?_
  refine j_sld hG hS (c + 1) (nI_add c 1) (by omega) hL (dt dtL_law_1 7 rfl) ?_
  refine j_callV hG (kc := K) (ks := S) (ct_X8_addAddress hG.2.2.1 (gB G) _ _ _ _ _ hy) mf_X8_addAddress ml_L_144 22 (cv_22 _ _ _ _) rfl rfl (rest := []) rfl (Nat.le_of_ble_eq_true rfl) (dt dtL_law_1 8 rfl) (by decide) (by decide) (fun v9 σ2 q => ?_) (fun E σ2 q => q.elim)
  obtain ⟨rfl, rfl⟩ := q
  show J G 9 K S 263 [(6, .int k), (5, .int (nI c)), (0, .ref b), (1, .ref (wad (gB G) 0)), (2, .ref (wad (gB G) 22)), (3, .ref (wad (gB G) 37)), (4, .ref (wad (gB G) 38))] [.int v] (X2, Y2, o2, dd, (t2, []))
  refine j_istore hG (lv' := [(7, .int v), (6, .int k), (5, .int (nI c)), (0, .ref b), (1, .ref (wad (gB G) 0)), (2, .ref (wad (gB G) 22)), (3, .ref (wad (gB G) 37)), (4, .ref (wad (gB G) 38))]) (dt dtL_law_1 9 rfl) (by decide) rfl ?_
  refine j_aload_n hG 5 (dt dtL_law_1 10 rfl) rfl rfl ?_
  refine j_callV hG (kc := K) (ks := S) (ct_X8_thrown hG.2.2.1 (gB G) _ _ _ _ _ (show f_X8_thrown Y2 = some k from by rw [← hk2]; rfl)) mf_X8_thrown ml_L_138 22 (cv_22 _ _ _ _) rfl rfl (rest := []) rfl (Nat.le_of_ble_eq_true rfl) (dt dtL_law_1 11 rfl) (by decide) (by decide) (fun v9 σ2 q => ?_) (fun E σ2 q => q.elim)
  obtain ⟨rfl, rfl⟩ := q
  refine j_iload hG 1 (dt dtL_law_1 12 rfl) rfl ?_
  refine J_of (jl_icmp_eq hG (tgt := 276) (dt dtL_law_1 13 rfl) (by decide) (fun _ => J_to ?_) (fun q => absurd rfl q))
  refine j_iload hG 1 (dt dtL_law_1 16 rfl) rfl ?_
  refine J_of (jl_if_ne hG (tgt := 293) (dt dtL_law_1 17 rfl) (by decide) (fun q => J_to ?_) (fun q => J_to ?_))
  · refine j_goto hG (tgt := 2270) (dt dtL_law_1 27 rfl) (by decide) ?_
    refine j_lv (lv' := lvM (gB G) b (nI c)) [2, 3, 4, 5, 6, 7] rfl ?_
    exact hk _ ⟨_, _, _, _, _, _, _, rfl, hI2⟩
  · refine j_aload_n hG 6 (dt dtL_law_1 18 rfl) rfl rfl ?_
    refine j_iconst hG (v := 0) (dt dtL_law_1 19 rfl) (by decide) ?_
    refine j_lald hG (dt dtL_law_1 20 rfl) ?_
    refine j_iload hG 0 (dt dtL_law_1 21 rfl) rfl ?_
    refine j_i2l hG (dt dtL_law_1 22 rfl) ?_
    rw [he q]
    refine j_lcmp hG (dt dtL_law_1 23 rfl) ?_
    rw [cmp_self]
    refine J_of (jl_if_eq hG (tgt := 293) (dt dtL_law_1 24 rfl) (by decide) (fun _ => J_to ?_) (fun q => absurd rfl q))
    refine j_goto hG (tgt := 2270) (dt dtL_law_1 27 rfl) (by decide) ?_
    refine j_lv (lv' := lvM (gB G) b (nI c)) [2, 3, 4, 5, 6, 7] rfl ?_
    exact hk _ ⟨_, _, _, _, _, _, _, rfl, hI2⟩
set_option maxRecDepth 4000 in
theorem g_law_2 {G : wG} (hG : wOk G RL cL_law 9 10 282) {b L : Nat} {xs : Nat → Int32} (hS : LWS G b L xs) (hL : L ≤ 2560) {c : Nat} (hc : c + 4 < L) {d : mD} {T : mT} {X Y : wM} {o : Int64} {dd : UInt64} {t1 : Nat → Nat} (hI : INV d T X Y) {K S : Nat} (hk : ∀ σ, SI σ → J G 9 K S 2270 (lvM (gB G) b (nI c)) [] σ) : J G 9 (K + 32) (S + 7000) 296 (lvM (gB G) b (nI c)) [] (X, Y, o, dd, (t1, [])) := by
  show J G 9 (K + 32) (S + 7000) 296 [(5, .int (nI c)), (0, .ref b), (1, .ref (wad (gB G) 0)), (2, .ref (wad (gB G) 22)), (3, .ref (wad (gB G) 37)), (4, .ref (wad (gB G) 38))] [] _
  obtain ⟨d2, T2, X2, Y2, res, v, k, hI2, hx, hy, hk2, hcd, ho⟩ := om_out (op_split hI (xs (c + 1)) (xs (c + 2)))
  refine J.weak (kc := K + 2) (ks := S + 12) (by omega) (by omega) ?_
  refine j_aload_n hG 2 (dt dtL_law_1 28 rfl) rfl rfl ?_
  refine j_aload_n hG 1 (dt dtL_law_1 29 rfl) rfl rfl ?_
  refine j_iload hG 0 (dt dtL_law_1 30 rfl) rfl ?_
  refine j_iconst hG (v := 1) (dt dtL_law_1 31 rfl) (by decide) ?_
  refine j_iadd hG (dt dtL_law_1 32 rfl) ?_
  refine j_sld hG hS (c + 1) (nI_add c 1) (by omega) hL (dt dtL_law_1 33 rfl) ?_
  refine j_aload_n hG 1 (dt dtL_law_1 34 rfl) rfl rfl ?_
  refine j_iload hG 0 (dt dtL_law_1 35 rfl) rfl ?_
  refine j_iconst hG (v := 2) (dt dtL_law_1 36 rfl) (by decide) ?_
  refine j_iadd hG (dt dtL_law_1 37 rfl) ?_
  refine j_sld hG hS (c + 2) (nI_add c 2) (by omega) hL (dt dtL_law_1 38 rfl) ?_
  refine j_aload_n hG 4 (dt dtL_law_1 39 rfl) rfl rfl ?_
  refine j_callSH hG (kc := K + 0) (ks := S + 0) (ct_L_split hG.2.2.1 (gB G) hx hcd) mh_L_split ml_L_145 rfl (rest := []) rfl (Nat.le_of_ble_eq_true rfl) (dt dtL_law_1 40 rfl) (by decide) (by decide) (fun v9 σ2 q => ?_)
  obtain ⟨rfl, o2, t2, rfl, he⟩ := ho _ _ _ _ _ q
  refine j_istore hG (lv' := [(6, .int k), (5, .int (nI c)), (0, .ref b), (1, .ref (wad (gB G) 0)), (2, .ref (wad (gB G) 22)), (3, .ref (wad (gB G) 37)), (4, .ref (wad (gB G) 38))]) (dt dtL_law_1 41 rfl) (by decide) rfl ?_
  refine j_aload_n hG 4 (dt dtL_law_1 42 rfl) rfl rfl ?_
  refine j_aload_n hG 2 (dt dtL_law_1 43 rfl) rfl rfl ?_
  refine j_iload hG 1 (dt dtL_law_1 44 rfl) rfl ?_
  refine j_iconst hG (v := 1) (dt dtL_law_1 45 rfl) (by decide) ?_
  refine j_iadd hG (dt dtL_law_1 46 rfl) ?_
  refine j_sld hG hS (c + 1) (nI_add c 1) (by omega) hL (dt dtL_law_1 47 rfl) ?_
  refine j_aload_n hG 2 (dt dtL_law_1 48 rfl) rfl rfl ?_
  refine j_iload hG 1 (dt dtL_law_1 49 rfl) rfl ?_
  refine j_iconst hG (v := 2) (dt dtL_law_1 50 rfl) (by decide) ?_
  refine j_iadd hG (dt dtL_law_1 51 rfl) ?_
  refine j_sld hG hS (c + 2) (nI_add c 2) (by omega) hL (dt dtL_law_1 52 rfl) ?_
  refine j_callV hG (kc := K) (ks := S) (ct_X8_split hG.2.2.1 (gB G) _ _ _ _ _ hy) mf_X8_split ml_L_148 22 (cv_22 _ _ _ _) rfl rfl (rest := []) rfl (Nat.le_of_ble_eq_true rfl) (dt dtL_law_1 53 rfl) (by decide) (by decide) (fun v9 σ2 q => ?_) (fun E σ2 q => q.elim)
  obtain ⟨rfl, rfl⟩ := q
  show J G 9 K S 331 [(6, .int k), (5, .int (nI c)), (0, .ref b), (1, .ref (wad (gB G) 0)), (2, .ref (wad (gB G) 22)), (3, .ref (wad (gB G) 37)), (4, .ref (wad (gB G) 38))] [.int v] (X2, Y2, o2, dd, (t2, []))
  refine j_istore hG (lv' := [(7, .int v), (6, .int k), (5, .int (nI c)), (0, .ref b), (1, .ref (wad (gB G) 0)), (2, .ref (wad (gB G) 22)), (3, .ref (wad (gB G) 37)), (4, .ref (wad (gB G) 38))]) (dt dtL_law_1 54 rfl) (by decide) rfl ?_
  refine j_aload_n hG 5 (dt dtL_law_1 55 rfl) rfl rfl ?_
  refine j_callV hG (kc := K) (ks := S) (ct_X8_thrown hG.2.2.1 (gB G) _ _ _ _ _ (show f_X8_thrown Y2 = some k from by rw [← hk2]; rfl)) mf_X8_thrown ml_L_138 22 (cv_22 _ _ _ _) rfl rfl (rest := []) rfl (Nat.le_of_ble_eq_true rfl) (dt dtL_law_1 56 rfl) (by decide) (by decide) (fun v9 σ2 q => ?_) (fun E σ2 q => q.elim)
  obtain ⟨rfl, rfl⟩ := q
  refine j_iload hG 1 (dt dtL_law_1 57 rfl) rfl ?_
  refine J_of (jl_icmp_eq hG (tgt := 344) (dt dtL_law_1 58 rfl) (by decide) (fun _ => J_to ?_) (fun q => absurd rfl q))
  refine j_iload hG 1 (dt dtL_law_2 1 rfl) rfl ?_
  refine J_of (jl_if_ne hG (tgt := 361) (dt dtL_law_2 2 rfl) (by decide) (fun q => J_to ?_) (fun q => J_to ?_))
  · refine j_goto hG (tgt := 2270) (dt dtL_law_2 12 rfl) (by decide) ?_
    refine j_lv (lv' := lvM (gB G) b (nI c)) [2, 3, 4, 5, 6, 7] rfl ?_
    exact hk _ ⟨_, _, _, _, _, _, _, rfl, hI2⟩
  · refine j_aload_n hG 6 (dt dtL_law_2 3 rfl) rfl rfl ?_
    refine j_iconst hG (v := 0) (dt dtL_law_2 4 rfl) (by decide) ?_
    refine j_lald hG (dt dtL_law_2 5 rfl) ?_
    refine j_iload hG 0 (dt dtL_law_2 6 rfl) rfl ?_
    refine j_i2l hG (dt dtL_law_2 7 rfl) ?_
    rw [he q]
    refine j_lcmp hG (dt dtL_law_2 8 rfl) ?_
    rw [cmp_self]
    refine J_of (jl_if_eq hG (tgt := 361) (dt dtL_law_2 9 rfl) (by decide) (fun _ => J_to ?_) (fun q => absurd rfl q))
    refine j_goto hG (tgt := 2270) (dt dtL_law_2 12 rfl) (by decide) ?_
    refine j_lv (lv' := lvM (gB G) b (nI c)) [2, 3, 4, 5, 6, 7] rfl ?_
    exact hk _ ⟨_, _, _, _, _, _, _, rfl, hI2⟩
set_option maxRecDepth 4000 in
theorem g_law_3 {G : wG} (hG : wOk G RL cL_law 9 10 282) {b L : Nat} {xs : Nat → Int32} (hS : LWS G b L xs) (hL : L ≤ 2560) {c : Nat} (hc : c + 4 < L) {d : mD} {T : mT} {X Y : wM} {o : Int64} {dd : UInt64} {t1 : Nat → Nat} (hI : INV d T X Y) {K S : Nat} (hk : ∀ σ, SI σ → J G 9 K S 2270 (lvM (gB G) b (nI c)) [] σ) : J G 9 (K + 32) (S + 7000) 364 (lvM (gB G) b (nI c)) [] (X, Y, o, dd, (t1, [])) := by
  show J G 9 (K + 32) (S + 7000) 364 [(5, .int (nI c)), (0, .ref b), (1, .ref (wad (gB G) 0)), (2, .ref (wad (gB G) 22)), (3, .ref (wad (gB G) 37)), (4, .ref (wad (gB G) 38))] [] _
  obtain ⟨d2, T2, X2, Y2, res, v, k, hI2, hx, hy, hk2, hcd, ho⟩ := om_out (op_join hI (xs (c + 1)) (xs (c + 2)))
  refine J.weak (kc := K + 3) (ks := S + 18) (by omega) (by omega) ?_
  refine j_aload_n hG 2 (dt dtL_law_2 13 rfl) rfl rfl ?_
  refine j_aload_n hG 1 (dt dtL_law_2 14 rfl) rfl rfl ?_
  refine j_iload hG 0 (dt dtL_law_2 15 rfl) rfl ?_
  refine j_iconst hG (v := 1) (dt dtL_law_2 16 rfl) (by decide) ?_
  refine j_iadd hG (dt dtL_law_2 17 rfl) ?_
  refine j_sld hG hS (c + 1) (nI_add c 1) (by omega) hL (dt dtL_law_2 18 rfl) ?_
  refine j_aload_n hG 1 (dt dtL_law_2 19 rfl) rfl rfl ?_
  refine j_iload hG 0 (dt dtL_law_2 20 rfl) rfl ?_
  refine j_iconst hG (v := 2) (dt dtL_law_2 21 rfl) (by decide) ?_
  refine j_iadd hG (dt dtL_law_2 22 rfl) ?_
  refine j_sld hG hS (c + 2) (nI_add c 2) (by omega) hL (dt dtL_law_2 23 rfl) ?_
  refine j_aload_n hG 4 (dt dtL_law_2 24 rfl) rfl rfl ?_
  refine j_callSH hG (kc := K + 0) (ks := S + 0) (ct_L_join hG.2.2.1 (gB G) hx hcd) mh_L_join ml_L_149 rfl (rest := []) rfl (Nat.le_of_ble_eq_true rfl) (dt dtL_law_2 25 rfl) (by decide) (by decide) (fun v9 σ2 q => ?_)
  obtain ⟨rfl, o2, t2, rfl, he⟩ := ho _ _ _ _ _ q
  refine j_istore hG (lv' := [(6, .int k), (5, .int (nI c)), (0, .ref b), (1, .ref (wad (gB G) 0)), (2, .ref (wad (gB G) 22)), (3, .ref (wad (gB G) 37)), (4, .ref (wad (gB G) 38))]) (dt dtL_law_2 26 rfl) (by decide) rfl ?_
  refine j_aload_n hG 4 (dt dtL_law_2 27 rfl) rfl rfl ?_
  refine j_aload_n hG 2 (dt dtL_law_2 28 rfl) rfl rfl ?_
  refine j_iload hG 1 (dt dtL_law_2 29 rfl) rfl ?_
  refine j_iconst hG (v := 1) (dt dtL_law_2 30 rfl) (by decide) ?_
  refine j_iadd hG (dt dtL_law_2 31 rfl) ?_
  refine j_sld hG hS (c + 1) (nI_add c 1) (by omega) hL (dt dtL_law_2 32 rfl) ?_
  refine j_aload_n hG 2 (dt dtL_law_2 33 rfl) rfl rfl ?_
  refine j_iload hG 1 (dt dtL_law_2 34 rfl) rfl ?_
  refine j_iconst hG (v := 2) (dt dtL_law_2 35 rfl) (by decide) ?_
  refine j_iadd hG (dt dtL_law_2 36 rfl) ?_
  refine j_sld hG hS (c + 2) (nI_add c 2) (by omega) hL (dt dtL_law_2 37 rfl) ?_
  refine j_callV hG (kc := K) (ks := S) (ct_X8_join hG.2.2.1 (gB G) _ _ _ _ _ hy) mf_X8_join ml_L_151 22 (cv_22 _ _ _ _) rfl rfl (rest := []) rfl (Nat.le_of_ble_eq_true rfl) (dt dtL_law_2 38 rfl) (by decide) (by decide) (fun v9 σ2 q => ?_) (fun E σ2 q => q.elim)
  obtain ⟨rfl, rfl⟩ := q
  show J G 9 K S 399 [(6, .int k), (5, .int (nI c)), (0, .ref b), (1, .ref (wad (gB G) 0)), (2, .ref (wad (gB G) 22)), (3, .ref (wad (gB G) 37)), (4, .ref (wad (gB G) 38))] [.int v] (X2, Y2, o2, dd, (t2, []))
  refine j_istore hG (lv' := [(7, .int v), (6, .int k), (5, .int (nI c)), (0, .ref b), (1, .ref (wad (gB G) 0)), (2, .ref (wad (gB G) 22)), (3, .ref (wad (gB G) 37)), (4, .ref (wad (gB G) 38))]) (dt dtL_law_2 39 rfl) (by decide) rfl ?_
  refine j_aload_n hG 5 (dt dtL_law_2 40 rfl) rfl rfl ?_
  refine j_callV hG (kc := K) (ks := S) (ct_X8_thrown hG.2.2.1 (gB G) _ _ _ _ _ (show f_X8_thrown Y2 = some k from by rw [← hk2]; rfl)) mf_X8_thrown ml_L_138 22 (cv_22 _ _ _ _) rfl rfl (rest := []) rfl (Nat.le_of_ble_eq_true rfl) (dt dtL_law_2 41 rfl) (by decide) (by decide) (fun v9 σ2 q => ?_) (fun E σ2 q => q.elim)
  obtain ⟨rfl, rfl⟩ := q
  refine j_iload hG 1 (dt dtL_law_2 42 rfl) rfl ?_
  refine J_of (jl_icmp_eq hG (tgt := 412) (dt dtL_law_2 43 rfl) (by decide) (fun _ => J_to ?_) (fun q => absurd rfl q))
  refine j_iload hG 1 (dt dtL_law_2 46 rfl) rfl ?_
  refine J_of (jl_if_ne hG (tgt := 429) (dt dtL_law_2 47 rfl) (by decide) (fun q => J_to ?_) (fun q => J_to ?_))
  · refine j_goto hG (tgt := 2270) (dt dtL_law_2 57 rfl) (by decide) ?_
    refine j_lv (lv' := lvM (gB G) b (nI c)) [2, 3, 4, 5, 6, 7] rfl ?_
    exact hk _ ⟨_, _, _, _, _, _, _, rfl, hI2⟩
  · refine j_aload_n hG 6 (dt dtL_law_2 48 rfl) rfl rfl ?_
    refine j_iconst hG (v := 0) (dt dtL_law_2 49 rfl) (by decide) ?_
    refine j_lald hG (dt dtL_law_2 50 rfl) ?_
    refine j_iload hG 0 (dt dtL_law_2 51 rfl) rfl ?_
    refine j_i2l hG (dt dtL_law_2 52 rfl) ?_
    rw [he q]
    refine j_lcmp hG (dt dtL_law_2 53 rfl) ?_
    rw [cmp_self]
    refine J_of (jl_if_eq hG (tgt := 429) (dt dtL_law_2 54 rfl) (by decide) (fun _ => J_to ?_) (fun q => absurd rfl q))
    refine j_goto hG (tgt := 2270) (dt dtL_law_2 57 rfl) (by decide) ?_
    refine j_lv (lv' := lvM (gB G) b (nI c)) [2, 3, 4, 5, 6, 7] rfl ?_
    exact hk _ ⟨_, _, _, _, _, _, _, rfl, hI2⟩
set_option maxRecDepth 4000 in
theorem g_law_4 {G : wG} (hG : wOk G RL cL_law 9 10 282) {b L : Nat} {xs : Nat → Int32} (hS : LWS G b L xs) (hL : L ≤ 2560) {c : Nat} (hc : c + 4 < L) {d : mD} {T : mT} {X Y : wM} {o : Int64} {dd : UInt64} {t1 : Nat → Nat} (hI : INV d T X Y) {K S : Nat} (hk : ∀ σ, SI σ → J G 9 K S 2270 (lvM (gB G) b (nI c)) [] σ) : J G 9 (K + 32) (S + 7000) 432 (lvM (gB G) b (nI c)) [] (X, Y, o, dd, (t1, [])) := by
  show J G 9 (K + 32) (S + 7000) 432 [(5, .int (nI c)), (0, .ref b), (1, .ref (wad (gB G) 0)), (2, .ref (wad (gB G) 22)), (3, .ref (wad (gB G) 37)), (4, .ref (wad (gB G) 38))] [] _
  obtain ⟨d2, T2, X2, Y2, res, v, k, hI2, hx, hy, hk2, hcd, ho⟩ := om_out (op_addRecord hI ((xs (c + 1)).toUInt32 % 65536).toInt32 (xs (c + 2)) (xs (c + 3)) (xs (c + 4)))
  refine J.weak (kc := K + 2) (ks := S + 12) (by omega) (by omega) ?_
  refine j_aload_n hG 2 (dt dtL_law_2 58 rfl) rfl rfl ?_
  refine j_aload_n hG 1 (dt dtL_law_2 59 rfl) rfl rfl ?_
  refine j_iload hG 0 (dt dtL_law_3 0 rfl) rfl ?_
  refine j_iconst hG (v := 1) (dt dtL_law_3 1 rfl) (by decide) ?_
  refine j_iadd hG (dt dtL_law_3 2 rfl) ?_
  refine j_sld hG hS (c + 1) (nI_add c 1) (by omega) hL (dt dtL_law_3 3 rfl) ?_
  refine j_i2c hG (dt dtL_law_3 4 rfl) ?_
  refine j_aload_n hG 1 (dt dtL_law_3 5 rfl) rfl rfl ?_
  refine j_iload hG 0 (dt dtL_law_3 6 rfl) rfl ?_
  refine j_iconst hG (v := 2) (dt dtL_law_3 7 rfl) (by decide) ?_
  refine j_iadd hG (dt dtL_law_3 8 rfl) ?_
  refine j_sld hG hS (c + 2) (nI_add c 2) (by omega) hL (dt dtL_law_3 9 rfl) ?_
  refine j_aload_n hG 1 (dt dtL_law_3 10 rfl) rfl rfl ?_
  refine j_iload hG 0 (dt dtL_law_3 11 rfl) rfl ?_
  refine j_iconst hG (v := 3) (dt dtL_law_3 12 rfl) (by decide) ?_
  refine j_iadd hG (dt dtL_law_3 13 rfl) ?_
  refine j_sld hG hS (c + 3) (nI_add c 3) (by omega) hL (dt dtL_law_3 14 rfl) ?_
  refine j_aload_n hG 1 (dt dtL_law_3 15 rfl) rfl rfl ?_
  refine j_iload hG 0 (dt dtL_law_3 16 rfl) rfl ?_
  refine j_iconst hG (v := 4) (dt dtL_law_3 17 rfl) (by decide) ?_
  refine j_iadd hG (dt dtL_law_3 18 rfl) ?_
  refine j_sld hG hS (c + 4) (nI_add c 4) (by omega) hL (dt dtL_law_3 19 rfl) ?_
  refine j_aload_n hG 4 (dt dtL_law_3 20 rfl) rfl rfl ?_
  refine j_callSH hG (kc := K + 0) (ks := S + 0) (ct_L_addRecord hG.2.2.1 (gB G) hx hcd) mh_L_addRecord ml_L_152 rfl (rest := []) rfl (Nat.le_of_ble_eq_true rfl) (dt dtL_law_3 21 rfl) (by decide) (by decide) (fun v9 σ2 q => ?_)
  obtain ⟨rfl, o2, t2, rfl, he⟩ := ho _ _ _ _ _ q
  refine j_istore hG (lv' := [(6, .int k), (5, .int (nI c)), (0, .ref b), (1, .ref (wad (gB G) 0)), (2, .ref (wad (gB G) 22)), (3, .ref (wad (gB G) 37)), (4, .ref (wad (gB G) 38))]) (dt dtL_law_3 22 rfl) (by decide) rfl ?_
  refine j_aload_n hG 4 (dt dtL_law_3 23 rfl) rfl rfl ?_
  refine j_aload_n hG 2 (dt dtL_law_3 24 rfl) rfl rfl ?_
  refine j_iload hG 1 (dt dtL_law_3 25 rfl) rfl ?_
  refine j_iconst hG (v := 1) (dt dtL_law_3 26 rfl) (by decide) ?_
  refine j_iadd hG (dt dtL_law_3 27 rfl) ?_
  refine j_sld hG hS (c + 1) (nI_add c 1) (by omega) hL (dt dtL_law_3 28 rfl) ?_
  refine j_i2c hG (dt dtL_law_3 29 rfl) ?_
  refine j_aload_n hG 2 (dt dtL_law_3 30 rfl) rfl rfl ?_
  refine j_iload hG 1 (dt dtL_law_3 31 rfl) rfl ?_
  refine j_iconst hG (v := 2) (dt dtL_law_3 32 rfl) (by decide) ?_
  refine j_iadd hG (dt dtL_law_3 33 rfl) ?_
  refine j_sld hG hS (c + 2) (nI_add c 2) (by omega) hL (dt dtL_law_3 34 rfl) ?_
  refine j_aload_n hG 2 (dt dtL_law_3 35 rfl) rfl rfl ?_
  refine j_iload hG 1 (dt dtL_law_3 36 rfl) rfl ?_
  refine j_iconst hG (v := 3) (dt dtL_law_3 37 rfl) (by decide) ?_
  refine j_iadd hG (dt dtL_law_3 38 rfl) ?_
  refine j_sld hG hS (c + 3) (nI_add c 3) (by omega) hL (dt dtL_law_3 39 rfl) ?_
  refine j_aload_n hG 2 (dt dtL_law_3 40 rfl) rfl rfl ?_
  refine j_iload hG 1 (dt dtL_law_3 41 rfl) rfl ?_
  refine j_iconst hG (v := 4) (dt dtL_law_3 42 rfl) (by decide) ?_
  refine j_iadd hG (dt dtL_law_3 43 rfl) ?_
  refine j_sld hG hS (c + 4) (nI_add c 4) (by omega) hL (dt dtL_law_3 44 rfl) ?_
  refine j_callV hG (kc := K) (ks := S) (ct_X8_addRecord hG.2.2.1 (gB G) _ _ _ _ _ hy) mf_X8_addRecord ml_L_155 22 (cv_22 _ _ _ _) rfl rfl (rest := []) rfl (Nat.le_of_ble_eq_true rfl) (dt dtL_law_3 45 rfl) (by decide) (by decide) (fun v9 σ2 q => ?_) (fun E σ2 q => q.elim)
  obtain ⟨rfl, rfl⟩ := q
  show J G 9 K S 493 [(6, .int k), (5, .int (nI c)), (0, .ref b), (1, .ref (wad (gB G) 0)), (2, .ref (wad (gB G) 22)), (3, .ref (wad (gB G) 37)), (4, .ref (wad (gB G) 38))] [.int v] (X2, Y2, o2, dd, (t2, []))
  refine j_istore hG (lv' := [(7, .int v), (6, .int k), (5, .int (nI c)), (0, .ref b), (1, .ref (wad (gB G) 0)), (2, .ref (wad (gB G) 22)), (3, .ref (wad (gB G) 37)), (4, .ref (wad (gB G) 38))]) (dt dtL_law_3 46 rfl) (by decide) rfl ?_
  refine j_aload_n hG 5 (dt dtL_law_3 47 rfl) rfl rfl ?_
  refine j_callV hG (kc := K) (ks := S) (ct_X8_thrown hG.2.2.1 (gB G) _ _ _ _ _ (show f_X8_thrown Y2 = some k from by rw [← hk2]; rfl)) mf_X8_thrown ml_L_138 22 (cv_22 _ _ _ _) rfl rfl (rest := []) rfl (Nat.le_of_ble_eq_true rfl) (dt dtL_law_3 48 rfl) (by decide) (by decide) (fun v9 σ2 q => ?_) (fun E σ2 q => q.elim)
  obtain ⟨rfl, rfl⟩ := q
  refine j_iload hG 1 (dt dtL_law_3 49 rfl) rfl ?_
  refine J_of (jl_icmp_eq hG (tgt := 506) (dt dtL_law_3 50 rfl) (by decide) (fun _ => J_to ?_) (fun q => absurd rfl q))
  refine j_iload hG 1 (dt dtL_law_3 53 rfl) rfl ?_
  refine J_of (jl_if_ne hG (tgt := 523) (dt dtL_law_3 54 rfl) (by decide) (fun q => J_to ?_) (fun q => J_to ?_))
  · refine j_goto hG (tgt := 2270) (dt dtL_law_4 4 rfl) (by decide) ?_
    refine j_lv (lv' := lvM (gB G) b (nI c)) [2, 3, 4, 5, 6, 7] rfl ?_
    exact hk _ ⟨_, _, _, _, _, _, _, rfl, hI2⟩
  · refine j_aload_n hG 6 (dt dtL_law_3 55 rfl) rfl rfl ?_
    refine j_iconst hG (v := 0) (dt dtL_law_3 56 rfl) (by decide) ?_
    refine j_lald hG (dt dtL_law_3 57 rfl) ?_
    refine j_iload hG 0 (dt dtL_law_3 58 rfl) rfl ?_
    refine j_i2l hG (dt dtL_law_3 59 rfl) ?_
    rw [he q]
    refine j_lcmp hG (dt dtL_law_4 0 rfl) ?_
    rw [cmp_self]
    refine J_of (jl_if_eq hG (tgt := 523) (dt dtL_law_4 1 rfl) (by decide) (fun _ => J_to ?_) (fun q => absurd rfl q))
    refine j_goto hG (tgt := 2270) (dt dtL_law_4 4 rfl) (by decide) ?_
    refine j_lv (lv' := lvM (gB G) b (nI c)) [2, 3, 4, 5, 6, 7] rfl ?_
    exact hk _ ⟨_, _, _, _, _, _, _, rfl, hI2⟩
set_option maxRecDepth 4000 in
theorem g_law_5 {G : wG} (hG : wOk G RL cL_law 9 10 282) {b L : Nat} {xs : Nat → Int32} (hS : LWS G b L xs) (hL : L ≤ 2560) {c : Nat} (hc : c + 4 < L) {d : mD} {T : mT} {X Y : wM} {o : Int64} {dd : UInt64} {t1 : Nat → Nat} (hI : INV d T X Y) {K S : Nat} (hk : ∀ σ, SI σ → J G 9 K S 2270 (lvM (gB G) b (nI c)) [] σ) : J G 9 (K + 32) (S + 7000) 526 (lvM (gB G) b (nI c)) [] (X, Y, o, dd, (t1, [])) := by
  show J G 9 (K + 32) (S + 7000) 526 [(5, .int (nI c)), (0, .ref b), (1, .ref (wad (gB G) 0)), (2, .ref (wad (gB G) 22)), (3, .ref (wad (gB G) 37)), (4, .ref (wad (gB G) 38))] [] _
  obtain ⟨Y2, res, v, k, hI2, hx, hy, hk2, hcd, hR, ho⟩ := oq_out (op_blockOf hI (xs (c + 1)))
  refine J.weak (kc := K + 1) (ks := S + 6) (by omega) (by omega) ?_
  refine j_aload_n hG 2 (dt dtL_law_4 5 rfl) rfl rfl ?_
  refine j_aload_n hG 1 (dt dtL_law_4 6 rfl) rfl rfl ?_
  refine j_iload hG 0 (dt dtL_law_4 7 rfl) rfl ?_
  refine j_iconst hG (v := 1) (dt dtL_law_4 8 rfl) (by decide) ?_
  refine j_iadd hG (dt dtL_law_4 9 rfl) ?_
  refine j_sld hG hS (c + 1) (nI_add c 1) (by omega) hL (dt dtL_law_4 10 rfl) ?_
  refine j_aload_n hG 4 (dt dtL_law_4 11 rfl) rfl rfl ?_
  refine j_callSH hG (kc := K + 0) (ks := S + 0) (ct_L_blockOf hG.2.2.1 (gB G) hx hcd) mh_L_blockOf ml_L_156 rfl (rest := []) rfl (Nat.le_of_ble_eq_true rfl) (dt dtL_law_4 12 rfl) (by decide) (by decide) (fun v9 σ2 q => ?_)
  obtain ⟨rfl, hq⟩ := ho _ _ _ _ q
  have hq2 : ∃ o2 : Int64, σ2 = (X, Y, o2, dd, (t1, [])) ∧ (k = 0 → o2 = v.toInt64) := by
    rcases hq with ⟨h1, rfl⟩ | ⟨h1, z, h2, rfl⟩
    · exact ⟨o, rfl, fun e => absurd e h1⟩
    · exact ⟨_, rfl, fun _ => by rw [h2]⟩
  obtain ⟨o2, rfl, he⟩ := hq2
  refine j_istore hG (lv' := [(6, .int k), (5, .int (nI c)), (0, .ref b), (1, .ref (wad (gB G) 0)), (2, .ref (wad (gB G) 22)), (3, .ref (wad (gB G) 37)), (4, .ref (wad (gB G) 38))]) (dt dtL_law_4 13 rfl) (by decide) rfl ?_
  refine j_aload_n hG 4 (dt dtL_law_4 14 rfl) rfl rfl ?_
  refine j_aload_n hG 2 (dt dtL_law_4 15 rfl) rfl rfl ?_
  refine j_iload hG 1 (dt dtL_law_4 16 rfl) rfl ?_
  refine j_iconst hG (v := 1) (dt dtL_law_4 17 rfl) (by decide) ?_
  refine j_iadd hG (dt dtL_law_4 18 rfl) ?_
  refine j_sld hG hS (c + 1) (nI_add c 1) (by omega) hL (dt dtL_law_4 19 rfl) ?_
  refine j_callV hG (kc := K) (ks := S) (ct_X8_blockOf hG.2.2.1 (gB G) _ _ _ _ _ hy) mf_X8_blockOf ml_L_158 22 (cv_22 _ _ _ _) rfl rfl (rest := []) rfl (Nat.le_of_ble_eq_true rfl) (dt dtL_law_4 20 rfl) (by decide) (by decide) (fun v9 σ2 q => ?_) (fun E σ2 q => q.elim)
  obtain ⟨rfl, rfl⟩ := q
  show J G 9 K S 549 [(6, .int k), (5, .int (nI c)), (0, .ref b), (1, .ref (wad (gB G) 0)), (2, .ref (wad (gB G) 22)), (3, .ref (wad (gB G) 37)), (4, .ref (wad (gB G) 38))] [.int v] (X, Y2, o2, dd, (t1, []))
  refine j_istore hG (lv' := [(7, .int v), (6, .int k), (5, .int (nI c)), (0, .ref b), (1, .ref (wad (gB G) 0)), (2, .ref (wad (gB G) 22)), (3, .ref (wad (gB G) 37)), (4, .ref (wad (gB G) 38))]) (dt dtL_law_4 21 rfl) (by decide) rfl ?_
  refine j_aload_n hG 5 (dt dtL_law_4 22 rfl) rfl rfl ?_
  refine j_callV hG (kc := K) (ks := S) (ct_X8_thrown hG.2.2.1 (gB G) _ _ _ _ _ (show f_X8_thrown Y2 = some k from by rw [← hk2]; rfl)) mf_X8_thrown ml_L_138 22 (cv_22 _ _ _ _) rfl rfl (rest := []) rfl (Nat.le_of_ble_eq_true rfl) (dt dtL_law_4 23 rfl) (by decide) (by decide) (fun v9 σ2 q => ?_) (fun E σ2 q => q.elim)
  obtain ⟨rfl, rfl⟩ := q
  refine j_iload hG 1 (dt dtL_law_4 24 rfl) rfl ?_
  refine J_of (jl_icmp_eq hG (tgt := 562) (dt dtL_law_4 25 rfl) (by decide) (fun _ => J_to ?_) (fun q => absurd rfl q))
  refine j_iload hG 1 (dt dtL_law_4 28 rfl) rfl ?_
  refine J_of (jl_if_ne hG (tgt := 579) (dt dtL_law_4 29 rfl) (by decide) (fun q => J_to ?_) (fun q => J_to ?_))
  · refine j_goto hG (tgt := 2270) (dt dtL_law_4 39 rfl) (by decide) ?_
    refine j_lv (lv' := lvM (gB G) b (nI c)) [2, 3, 4, 5, 6, 7] rfl ?_
    exact hk _ ⟨_, _, _, _, _, _, _, rfl, hI2⟩
  · refine j_aload_n hG 6 (dt dtL_law_4 30 rfl) rfl rfl ?_
    refine j_iconst hG (v := 0) (dt dtL_law_4 31 rfl) (by decide) ?_
    refine j_lald hG (dt dtL_law_4 32 rfl) ?_
    refine j_iload hG 0 (dt dtL_law_4 33 rfl) rfl ?_
    refine j_i2l hG (dt dtL_law_4 34 rfl) ?_
    rw [he q]
    refine j_lcmp hG (dt dtL_law_4 35 rfl) ?_
    rw [cmp_self]
    refine J_of (jl_if_eq hG (tgt := 579) (dt dtL_law_4 36 rfl) (by decide) (fun _ => J_to ?_) (fun q => absurd rfl q))
    refine j_goto hG (tgt := 2270) (dt dtL_law_4 39 rfl) (by decide) ?_
    refine j_lv (lv' := lvM (gB G) b (nI c)) [2, 3, 4, 5, 6, 7] rfl ?_
    exact hk _ ⟨_, _, _, _, _, _, _, rfl, hI2⟩
set_option maxRecDepth 4000 in
theorem g_law_6 {G : wG} (hG : wOk G RL cL_law 9 10 282) {b L : Nat} {xs : Nat → Int32} (hS : LWS G b L xs) (hL : L ≤ 2560) {c : Nat} (hc : c + 4 < L) {d : mD} {T : mT} {X Y : wM} {o : Int64} {dd : UInt64} {t1 : Nat → Nat} (hI : INV d T X Y) {K S : Nat} (hk : ∀ σ, SI σ → J G 9 K S 2270 (lvM (gB G) b (nI c)) [] σ) : J G 9 (K + 32) (S + 7000) 582 (lvM (gB G) b (nI c)) [] (X, Y, o, dd, (t1, [])) := by
  show J G 9 (K + 32) (S + 7000) 582 [(5, .int (nI c)), (0, .ref b), (1, .ref (wad (gB G) 0)), (2, .ref (wad (gB G) 22)), (3, .ref (wad (gB G) 37)), (4, .ref (wad (gB G) 38))] [] _
  obtain ⟨d2, T2, X2, Y2, res, v, k, hI2, hx, hy, hk2, hcd, ho⟩ := om_out (op_setPoints hI ((xs (c + 1)).toUInt32 % 65536).toInt32 (xs (c + 2)))
  refine J.weak (kc := K + 1) (ks := S + 6) (by omega) (by omega) ?_
  refine j_aload_n hG 2 (dt dtL_law_4 40 rfl) rfl rfl ?_
  refine j_aload_n hG 1 (dt dtL_law_4 41 rfl) rfl rfl ?_
  refine j_iload hG 0 (dt dtL_law_4 42 rfl) rfl ?_
  refine j_iconst hG (v := 1) (dt dtL_law_4 43 rfl) (by decide) ?_
  refine j_iadd hG (dt dtL_law_4 44 rfl) ?_
  refine j_sld hG hS (c + 1) (nI_add c 1) (by omega) hL (dt dtL_law_4 45 rfl) ?_
  refine j_i2c hG (dt dtL_law_4 46 rfl) ?_
  refine j_aload_n hG 1 (dt dtL_law_4 47 rfl) rfl rfl ?_
  refine j_iload hG 0 (dt dtL_law_4 48 rfl) rfl ?_
  refine j_iconst hG (v := 2) (dt dtL_law_4 49 rfl) (by decide) ?_
  refine j_iadd hG (dt dtL_law_4 50 rfl) ?_
  refine j_sld hG hS (c + 2) (nI_add c 2) (by omega) hL (dt dtL_law_4 51 rfl) ?_
  refine j_aload_n hG 4 (dt dtL_law_4 52 rfl) rfl rfl ?_
  refine j_callSH hG (kc := K + 0) (ks := S + 0) (ct_L_setPoints hG.2.2.1 (gB G) hx hcd) mh_L_setPoints ml_L_159 rfl (rest := []) rfl (Nat.le_of_ble_eq_true rfl) (dt dtL_law_4 53 rfl) (by decide) (by decide) (fun v9 σ2 q => ?_)
  obtain ⟨rfl, o2, t2, rfl, he⟩ := ho _ _ _ _ _ q
  refine j_istore hG (lv' := [(6, .int k), (5, .int (nI c)), (0, .ref b), (1, .ref (wad (gB G) 0)), (2, .ref (wad (gB G) 22)), (3, .ref (wad (gB G) 37)), (4, .ref (wad (gB G) 38))]) (dt dtL_law_4 54 rfl) (by decide) rfl ?_
  refine j_aload_n hG 4 (dt dtL_law_4 55 rfl) rfl rfl ?_
  refine j_aload_n hG 2 (dt dtL_law_4 56 rfl) rfl rfl ?_
  refine j_iload hG 1 (dt dtL_law_4 57 rfl) rfl ?_
  refine j_iconst hG (v := 1) (dt dtL_law_4 58 rfl) (by decide) ?_
  refine j_iadd hG (dt dtL_law_4 59 rfl) ?_
  refine j_sld hG hS (c + 1) (nI_add c 1) (by omega) hL (dt dtL_law_5 0 rfl) ?_
  refine j_i2c hG (dt dtL_law_5 1 rfl) ?_
  refine j_aload_n hG 2 (dt dtL_law_5 2 rfl) rfl rfl ?_
  refine j_iload hG 1 (dt dtL_law_5 3 rfl) rfl ?_
  refine j_iconst hG (v := 2) (dt dtL_law_5 4 rfl) (by decide) ?_
  refine j_iadd hG (dt dtL_law_5 5 rfl) ?_
  refine j_sld hG hS (c + 2) (nI_add c 2) (by omega) hL (dt dtL_law_5 6 rfl) ?_
  refine j_callV hG (kc := K) (ks := S) (ct_X8_setPoints hG.2.2.1 (gB G) _ _ _ _ _ hy) mf_X8_setPoints ml_L_162 22 (cv_22 _ _ _ _) rfl rfl (rest := []) rfl (Nat.le_of_ble_eq_true rfl) (dt dtL_law_5 7 rfl) (by decide) (by decide) (fun v9 σ2 q => ?_) (fun E σ2 q => q.elim)
  obtain ⟨rfl, rfl⟩ := q
  show J G 9 K S 619 [(6, .int k), (5, .int (nI c)), (0, .ref b), (1, .ref (wad (gB G) 0)), (2, .ref (wad (gB G) 22)), (3, .ref (wad (gB G) 37)), (4, .ref (wad (gB G) 38))] [.int v] (X2, Y2, o2, dd, (t2, []))
  refine j_istore hG (lv' := [(7, .int v), (6, .int k), (5, .int (nI c)), (0, .ref b), (1, .ref (wad (gB G) 0)), (2, .ref (wad (gB G) 22)), (3, .ref (wad (gB G) 37)), (4, .ref (wad (gB G) 38))]) (dt dtL_law_5 8 rfl) (by decide) rfl ?_
  refine j_aload_n hG 5 (dt dtL_law_5 9 rfl) rfl rfl ?_
  refine j_callV hG (kc := K) (ks := S) (ct_X8_thrown hG.2.2.1 (gB G) _ _ _ _ _ (show f_X8_thrown Y2 = some k from by rw [← hk2]; rfl)) mf_X8_thrown ml_L_138 22 (cv_22 _ _ _ _) rfl rfl (rest := []) rfl (Nat.le_of_ble_eq_true rfl) (dt dtL_law_5 10 rfl) (by decide) (by decide) (fun v9 σ2 q => ?_) (fun E σ2 q => q.elim)
  obtain ⟨rfl, rfl⟩ := q
  refine j_iload hG 1 (dt dtL_law_5 11 rfl) rfl ?_
  refine J_of (jl_icmp_eq hG (tgt := 632) (dt dtL_law_5 12 rfl) (by decide) (fun _ => J_to ?_) (fun q => absurd rfl q))
  refine j_iload hG 1 (dt dtL_law_5 15 rfl) rfl ?_
  refine J_of (jl_if_ne hG (tgt := 649) (dt dtL_law_5 16 rfl) (by decide) (fun q => J_to ?_) (fun q => J_to ?_))
  · refine j_goto hG (tgt := 2270) (dt dtL_law_5 26 rfl) (by decide) ?_
    refine j_lv (lv' := lvM (gB G) b (nI c)) [2, 3, 4, 5, 6, 7] rfl ?_
    exact hk _ ⟨_, _, _, _, _, _, _, rfl, hI2⟩
  · refine j_aload_n hG 6 (dt dtL_law_5 17 rfl) rfl rfl ?_
    refine j_iconst hG (v := 0) (dt dtL_law_5 18 rfl) (by decide) ?_
    refine j_lald hG (dt dtL_law_5 19 rfl) ?_
    refine j_iload hG 0 (dt dtL_law_5 20 rfl) rfl ?_
    refine j_i2l hG (dt dtL_law_5 21 rfl) ?_
    rw [he q]
    refine j_lcmp hG (dt dtL_law_5 22 rfl) ?_
    rw [cmp_self]
    refine J_of (jl_if_eq hG (tgt := 649) (dt dtL_law_5 23 rfl) (by decide) (fun _ => J_to ?_) (fun q => absurd rfl q))
    refine j_goto hG (tgt := 2270) (dt dtL_law_5 26 rfl) (by decide) ?_
    refine j_lv (lv' := lvM (gB G) b (nI c)) [2, 3, 4, 5, 6, 7] rfl ?_
    exact hk _ ⟨_, _, _, _, _, _, _, rfl, hI2⟩
set_option maxRecDepth 4000 in
theorem g_law_7 {G : wG} (hG : wOk G RL cL_law 9 10 282) {b L : Nat} {xs : Nat → Int32} (hS : LWS G b L xs) (hL : L ≤ 2560) {c : Nat} (hc : c + 4 < L) {d : mD} {T : mT} {X Y : wM} {o : Int64} {dd : UInt64} {t1 : Nat → Nat} (hI : INV d T X Y) {K S : Nat} (hk : ∀ σ, SI σ → J G 9 K S 2270 (lvM (gB G) b (nI c)) [] σ) : J G 9 (K + 32) (S + 7000) 652 (lvM (gB G) b (nI c)) [] (X, Y, o, dd, (t1, [])) := by
  show J G 9 (K + 32) (S + 7000) 652 [(5, .int (nI c)), (0, .ref b), (1, .ref (wad (gB G) 0)), (2, .ref (wad (gB G) 22)), (3, .ref (wad (gB G) 37)), (4, .ref (wad (gB G) 38))] [] _
  obtain ⟨d2, T2, X2, Y2, res, v, k, hI2, hx, hy, hk2, hcd, ho⟩ := om_out (op_setBounds hI (xs (c + 1)) (xs (c + 2)))
  refine J.weak (kc := K + 1) (ks := S + 6) (by omega) (by omega) ?_
  refine j_aload_n hG 2 (dt dtL_law_5 27 rfl) rfl rfl ?_
  refine j_aload_n hG 1 (dt dtL_law_5 28 rfl) rfl rfl ?_
  refine j_iload hG 0 (dt dtL_law_5 29 rfl) rfl ?_
  refine j_iconst hG (v := 1) (dt dtL_law_5 30 rfl) (by decide) ?_
  refine j_iadd hG (dt dtL_law_5 31 rfl) ?_
  refine j_sld hG hS (c + 1) (nI_add c 1) (by omega) hL (dt dtL_law_5 32 rfl) ?_
  refine j_aload_n hG 1 (dt dtL_law_5 33 rfl) rfl rfl ?_
  refine j_iload hG 0 (dt dtL_law_5 34 rfl) rfl ?_
  refine j_iconst hG (v := 2) (dt dtL_law_5 35 rfl) (by decide) ?_
  refine j_iadd hG (dt dtL_law_5 36 rfl) ?_
  refine j_sld hG hS (c + 2) (nI_add c 2) (by omega) hL (dt dtL_law_5 37 rfl) ?_
  refine j_aload_n hG 4 (dt dtL_law_5 38 rfl) rfl rfl ?_
  refine j_callSH hG (kc := K + 0) (ks := S + 0) (ct_L_setBounds hG.2.2.1 (gB G) hx hcd) mh_L_setBounds ml_L_163 rfl (rest := []) rfl (Nat.le_of_ble_eq_true rfl) (dt dtL_law_5 39 rfl) (by decide) (by decide) (fun v9 σ2 q => ?_)
  obtain ⟨rfl, o2, t2, rfl, he⟩ := ho _ _ _ _ _ q
  refine j_istore hG (lv' := [(6, .int k), (5, .int (nI c)), (0, .ref b), (1, .ref (wad (gB G) 0)), (2, .ref (wad (gB G) 22)), (3, .ref (wad (gB G) 37)), (4, .ref (wad (gB G) 38))]) (dt dtL_law_5 40 rfl) (by decide) rfl ?_
  refine j_aload_n hG 4 (dt dtL_law_5 41 rfl) rfl rfl ?_
  refine j_aload_n hG 2 (dt dtL_law_5 42 rfl) rfl rfl ?_
  refine j_iload hG 1 (dt dtL_law_5 43 rfl) rfl ?_
  refine j_iconst hG (v := 1) (dt dtL_law_5 44 rfl) (by decide) ?_
  refine j_iadd hG (dt dtL_law_5 45 rfl) ?_
  refine j_sld hG hS (c + 1) (nI_add c 1) (by omega) hL (dt dtL_law_5 46 rfl) ?_
  refine j_aload_n hG 2 (dt dtL_law_5 47 rfl) rfl rfl ?_
  refine j_iload hG 1 (dt dtL_law_5 48 rfl) rfl ?_
  refine j_iconst hG (v := 2) (dt dtL_law_5 49 rfl) (by decide) ?_
  refine j_iadd hG (dt dtL_law_5 50 rfl) ?_
  refine j_sld hG hS (c + 2) (nI_add c 2) (by omega) hL (dt dtL_law_5 51 rfl) ?_
  refine j_callV hG (kc := K) (ks := S) (ct_X8_setBounds hG.2.2.1 (gB G) _ _ _ _ _ hy) mf_X8_setBounds ml_L_165 22 (cv_22 _ _ _ _) rfl rfl (rest := []) rfl (Nat.le_of_ble_eq_true rfl) (dt dtL_law_5 52 rfl) (by decide) (by decide) (fun v9 σ2 q => ?_) (fun E σ2 q => q.elim)
  obtain ⟨rfl, rfl⟩ := q
  show J G 9 K S 687 [(6, .int k), (5, .int (nI c)), (0, .ref b), (1, .ref (wad (gB G) 0)), (2, .ref (wad (gB G) 22)), (3, .ref (wad (gB G) 37)), (4, .ref (wad (gB G) 38))] [.int v] (X2, Y2, o2, dd, (t2, []))
  refine j_istore hG (lv' := [(7, .int v), (6, .int k), (5, .int (nI c)), (0, .ref b), (1, .ref (wad (gB G) 0)), (2, .ref (wad (gB G) 22)), (3, .ref (wad (gB G) 37)), (4, .ref (wad (gB G) 38))]) (dt dtL_law_5 53 rfl) (by decide) rfl ?_
  refine j_aload_n hG 5 (dt dtL_law_5 54 rfl) rfl rfl ?_
  refine j_callV hG (kc := K) (ks := S) (ct_X8_thrown hG.2.2.1 (gB G) _ _ _ _ _ (show f_X8_thrown Y2 = some k from by rw [← hk2]; rfl)) mf_X8_thrown ml_L_138 22 (cv_22 _ _ _ _) rfl rfl (rest := []) rfl (Nat.le_of_ble_eq_true rfl) (dt dtL_law_5 55 rfl) (by decide) (by decide) (fun v9 σ2 q => ?_) (fun E σ2 q => q.elim)
  obtain ⟨rfl, rfl⟩ := q
  refine j_iload hG 1 (dt dtL_law_5 56 rfl) rfl ?_
  refine J_of (jl_icmp_eq hG (tgt := 700) (dt dtL_law_5 57 rfl) (by decide) (fun _ => J_to ?_) (fun q => absurd rfl q))
  refine j_iload hG 1 (dt dtL_law_6 0 rfl) rfl ?_
  refine J_of (jl_if_ne hG (tgt := 717) (dt dtL_law_6 1 rfl) (by decide) (fun q => J_to ?_) (fun q => J_to ?_))
  · refine j_goto hG (tgt := 2270) (dt dtL_law_6 11 rfl) (by decide) ?_
    refine j_lv (lv' := lvM (gB G) b (nI c)) [2, 3, 4, 5, 6, 7] rfl ?_
    exact hk _ ⟨_, _, _, _, _, _, _, rfl, hI2⟩
  · refine j_aload_n hG 6 (dt dtL_law_6 2 rfl) rfl rfl ?_
    refine j_iconst hG (v := 0) (dt dtL_law_6 3 rfl) (by decide) ?_
    refine j_lald hG (dt dtL_law_6 4 rfl) ?_
    refine j_iload hG 0 (dt dtL_law_6 5 rfl) rfl ?_
    refine j_i2l hG (dt dtL_law_6 6 rfl) ?_
    rw [he q]
    refine j_lcmp hG (dt dtL_law_6 7 rfl) ?_
    rw [cmp_self]
    refine J_of (jl_if_eq hG (tgt := 717) (dt dtL_law_6 8 rfl) (by decide) (fun _ => J_to ?_) (fun q => absurd rfl q))
    refine j_goto hG (tgt := 2270) (dt dtL_law_6 11 rfl) (by decide) ?_
    refine j_lv (lv' := lvM (gB G) b (nI c)) [2, 3, 4, 5, 6, 7] rfl ?_
    exact hk _ ⟨_, _, _, _, _, _, _, rfl, hI2⟩
set_option maxRecDepth 4000 in
theorem g_law_8 {G : wG} (hG : wOk G RL cL_law 9 10 282) {b L : Nat} {xs : Nat → Int32} (hS : LWS G b L xs) (hL : L ≤ 2560) {c : Nat} (hc : c + 4 < L) {d : mD} {T : mT} {X Y : wM} {o : Int64} {dd : UInt64} {t1 : Nat → Nat} (hI : INV d T X Y) {K S : Nat} (hk : ∀ σ, SI σ → J G 9 K S 2270 (lvM (gB G) b (nI c)) [] σ) : J G 9 (K + 32) (S + 7000) 720 (lvM (gB G) b (nI c)) [] (X, Y, o, dd, (t1, [])) := by
  show J G 9 (K + 32) (S + 7000) 720 [(5, .int (nI c)), (0, .ref b), (1, .ref (wad (gB G) 0)), (2, .ref (wad (gB G) 22)), (3, .ref (wad (gB G) 37)), (4, .ref (wad (gB G) 38))] [] _
  obtain ⟨Y2, res, v, k, hI2, hx, hy, hk2, hcd, hR, ho⟩ := oq_out (op_score hI (xs (c + 1)) (xs (c + 2)))
  refine J.weak (kc := K + 3) (ks := S + 18) (by omega) (by omega) ?_
  refine j_aload_n hG 2 (dt dtL_law_6 12 rfl) rfl rfl ?_
  refine j_aload_n hG 1 (dt dtL_law_6 13 rfl) rfl rfl ?_
  refine j_iload hG 0 (dt dtL_law_6 14 rfl) rfl ?_
  refine j_iconst hG (v := 1) (dt dtL_law_6 15 rfl) (by decide) ?_
  refine j_iadd hG (dt dtL_law_6 16 rfl) ?_
  refine j_sld hG hS (c + 1) (nI_add c 1) (by omega) hL (dt dtL_law_6 17 rfl) ?_
  refine j_aload_n hG 1 (dt dtL_law_6 18 rfl) rfl rfl ?_
  refine j_iload hG 0 (dt dtL_law_6 19 rfl) rfl ?_
  refine j_iconst hG (v := 2) (dt dtL_law_6 20 rfl) (by decide) ?_
  refine j_iadd hG (dt dtL_law_6 21 rfl) ?_
  refine j_sld hG hS (c + 2) (nI_add c 2) (by omega) hL (dt dtL_law_6 22 rfl) ?_
  refine j_aload_n hG 4 (dt dtL_law_6 23 rfl) rfl rfl ?_
  refine j_callSH hG (kc := K + 0) (ks := S + 0) (ct_L_score hG.2.2.1 (gB G) hx hcd) mh_L_score ml_L_166 rfl (rest := []) rfl (Nat.le_of_ble_eq_true rfl) (dt dtL_law_6 24 rfl) (by decide) (by decide) (fun v9 σ2 q => ?_)
  obtain ⟨rfl, hq⟩ := ho _ _ _ _ q
  have hq2 : ∃ o2 : Int64, σ2 = (X, Y, o2, dd, (t1, [])) ∧ (k = 0 → o2 = v.toInt64) := by
    rcases hq with ⟨h1, rfl⟩ | ⟨h1, z, h2, rfl⟩
    · exact ⟨o, rfl, fun e => absurd e h1⟩
    · exact ⟨_, rfl, fun _ => by rw [h2]⟩
  obtain ⟨o2, rfl, he⟩ := hq2
  refine j_istore hG (lv' := [(6, .int k), (5, .int (nI c)), (0, .ref b), (1, .ref (wad (gB G) 0)), (2, .ref (wad (gB G) 22)), (3, .ref (wad (gB G) 37)), (4, .ref (wad (gB G) 38))]) (dt dtL_law_6 25 rfl) (by decide) rfl ?_
  refine j_aload_n hG 4 (dt dtL_law_6 26 rfl) rfl rfl ?_
  refine j_aload_n hG 2 (dt dtL_law_6 27 rfl) rfl rfl ?_
  refine j_iload hG 1 (dt dtL_law_6 28 rfl) rfl ?_
  refine j_iconst hG (v := 1) (dt dtL_law_6 29 rfl) (by decide) ?_
  refine j_iadd hG (dt dtL_law_6 30 rfl) ?_
  refine j_sld hG hS (c + 1) (nI_add c 1) (by omega) hL (dt dtL_law_6 31 rfl) ?_
  refine j_aload_n hG 2 (dt dtL_law_6 32 rfl) rfl rfl ?_
  refine j_iload hG 1 (dt dtL_law_6 33 rfl) rfl ?_
  refine j_iconst hG (v := 2) (dt dtL_law_6 34 rfl) (by decide) ?_
  refine j_iadd hG (dt dtL_law_6 35 rfl) ?_
  refine j_sld hG hS (c + 2) (nI_add c 2) (by omega) hL (dt dtL_law_6 36 rfl) ?_
  refine j_callV hG (kc := K) (ks := S) (ct_X8_score hG.2.2.1 (gB G) _ _ _ _ _ hy) mf_X8_score ml_L_168 22 (cv_22 _ _ _ _) rfl rfl (rest := []) rfl (Nat.le_of_ble_eq_true rfl) (dt dtL_law_6 37 rfl) (by decide) (by decide) (fun v9 σ2 q => ?_) (fun E σ2 q => q.elim)
  obtain ⟨rfl, rfl⟩ := q
  show J G 9 K S 755 [(6, .int k), (5, .int (nI c)), (0, .ref b), (1, .ref (wad (gB G) 0)), (2, .ref (wad (gB G) 22)), (3, .ref (wad (gB G) 37)), (4, .ref (wad (gB G) 38))] [.int v] (X, Y2, o2, dd, (t1, []))
  refine j_istore hG (lv' := [(7, .int v), (6, .int k), (5, .int (nI c)), (0, .ref b), (1, .ref (wad (gB G) 0)), (2, .ref (wad (gB G) 22)), (3, .ref (wad (gB G) 37)), (4, .ref (wad (gB G) 38))]) (dt dtL_law_6 38 rfl) (by decide) rfl ?_
  refine j_aload_n hG 5 (dt dtL_law_6 39 rfl) rfl rfl ?_
  refine j_callV hG (kc := K) (ks := S) (ct_X8_thrown hG.2.2.1 (gB G) _ _ _ _ _ (show f_X8_thrown Y2 = some k from by rw [← hk2]; rfl)) mf_X8_thrown ml_L_138 22 (cv_22 _ _ _ _) rfl rfl (rest := []) rfl (Nat.le_of_ble_eq_true rfl) (dt dtL_law_6 40 rfl) (by decide) (by decide) (fun v9 σ2 q => ?_) (fun E σ2 q => q.elim)
  obtain ⟨rfl, rfl⟩ := q
  refine j_iload hG 1 (dt dtL_law_6 41 rfl) rfl ?_
  refine J_of (jl_icmp_eq hG (tgt := 768) (dt dtL_law_6 42 rfl) (by decide) (fun _ => J_to ?_) (fun q => absurd rfl q))
  refine j_iload hG 1 (dt dtL_law_6 45 rfl) rfl ?_
  refine J_of (jl_if_ne hG (tgt := 785) (dt dtL_law_6 46 rfl) (by decide) (fun q => J_to ?_) (fun q => J_to ?_))
  · refine j_goto hG (tgt := 2270) (dt dtL_law_6 56 rfl) (by decide) ?_
    refine j_lv (lv' := lvM (gB G) b (nI c)) [2, 3, 4, 5, 6, 7] rfl ?_
    exact hk _ ⟨_, _, _, _, _, _, _, rfl, hI2⟩
  · refine j_aload_n hG 6 (dt dtL_law_6 47 rfl) rfl rfl ?_
    refine j_iconst hG (v := 0) (dt dtL_law_6 48 rfl) (by decide) ?_
    refine j_lald hG (dt dtL_law_6 49 rfl) ?_
    refine j_iload hG 0 (dt dtL_law_6 50 rfl) rfl ?_
    refine j_i2l hG (dt dtL_law_6 51 rfl) ?_
    rw [he q]
    refine j_lcmp hG (dt dtL_law_6 52 rfl) ?_
    rw [cmp_self]
    refine J_of (jl_if_eq hG (tgt := 785) (dt dtL_law_6 53 rfl) (by decide) (fun _ => J_to ?_) (fun q => absurd rfl q))
    refine j_goto hG (tgt := 2270) (dt dtL_law_6 56 rfl) (by decide) ?_
    refine j_lv (lv' := lvM (gB G) b (nI c)) [2, 3, 4, 5, 6, 7] rfl ?_
    exact hk _ ⟨_, _, _, _, _, _, _, rfl, hI2⟩
set_option maxRecDepth 4000 in
theorem g_law_9 {G : wG} (hG : wOk G RL cL_law 9 10 282) {b L : Nat} {xs : Nat → Int32} (hS : LWS G b L xs) (hL : L ≤ 2560) {c : Nat} (hc : c + 4 < L) {d : mD} {T : mT} {X Y : wM} {o : Int64} {dd : UInt64} {t1 : Nat → Nat} (hI : INV d T X Y) {K S : Nat} (hk : ∀ σ, SI σ → J G 9 K S 2270 (lvM (gB G) b (nI c)) [] σ) : J G 9 (K + 32) (S + 7000) 788 (lvM (gB G) b (nI c)) [] (X, Y, o, dd, (t1, [])) := by
  show J G 9 (K + 32) (S + 7000) 788 [(5, .int (nI c)), (0, .ref b), (1, .ref (wad (gB G) 0)), (2, .ref (wad (gB G) 22)), (3, .ref (wad (gB G) 37)), (4, .ref (wad (gB G) 38))] [] _
  by_cases qd : xs (c + 3) = 0
  · obtain ⟨d2, T2, X2, Y2, res, v, k, hI2, hx, hy, hk2, hcd, ho⟩ := om_out (op_decide hI (xs (c + 1)) (xs (c + 2)) 0)
    refine J.weak (kc := K + 4) (ks := S + 24) (by omega) (by omega) ?_
    refine j_aload_n hG 2 (dt dtL_law_6 57 rfl) rfl rfl ?_
    refine j_aload_n hG 1 (dt dtL_law_6 58 rfl) rfl rfl ?_
    refine j_iload hG 0 (dt dtL_law_6 59 rfl) rfl ?_
    refine j_iconst hG (v := 1) (dt dtL_law_7 0 rfl) (by decide) ?_
    refine j_iadd hG (dt dtL_law_7 1 rfl) ?_
    refine j_sld hG hS (c + 1) (nI_add c 1) (by omega) hL (dt dtL_law_7 2 rfl) ?_
    refine j_aload_n hG 1 (dt dtL_law_7 3 rfl) rfl rfl ?_
    refine j_iload hG 0 (dt dtL_law_7 4 rfl) rfl ?_
    refine j_iconst hG (v := 2) (dt dtL_law_7 5 rfl) (by decide) ?_
    refine j_iadd hG (dt dtL_law_7 6 rfl) ?_
    refine j_sld hG hS (c + 2) (nI_add c 2) (by omega) hL (dt dtL_law_7 7 rfl) ?_
    refine j_aload_n hG 1 (dt dtL_law_7 8 rfl) rfl rfl ?_
    refine j_iload hG 0 (dt dtL_law_7 9 rfl) rfl ?_
    refine j_iconst hG (v := 3) (dt dtL_law_7 10 rfl) (by decide) ?_
    refine j_iadd hG (dt dtL_law_7 11 rfl) ?_
    refine j_sld hG hS (c + 3) (nI_add c 3) (by omega) hL (dt dtL_law_7 12 rfl) ?_
    refine J_of (jl_if_eq hG (tgt := 814) (dt dtL_law_7 13 rfl) (by decide) (fun _ => J_to ?_) (fun q9 => absurd qd q9))
    refine j_iconst hG (v := 0) (dt dtL_law_7 16 rfl) (by decide) ?_
    refine j_aload_n hG 4 (dt dtL_law_7 17 rfl) rfl rfl ?_
    refine j_callSH hG (kc := K + 0) (ks := S + 0) (ct_L_decide hG.2.2.1 (gB G) hx hcd) mh_L_decide ml_L_169 rfl (rest := []) rfl (Nat.le_of_ble_eq_true rfl) (dt dtL_law_7 18 rfl) (by decide) (by decide) (fun v9 σ2 q => ?_)
    obtain ⟨rfl, o2, t2, rfl, he⟩ := ho _ _ _ _ _ q
    refine j_istore hG (lv' := [(6, .int k), (5, .int (nI c)), (0, .ref b), (1, .ref (wad (gB G) 0)), (2, .ref (wad (gB G) 22)), (3, .ref (wad (gB G) 37)), (4, .ref (wad (gB G) 38))]) (dt dtL_law_7 19 rfl) (by decide) rfl ?_
    refine j_aload_n hG 4 (dt dtL_law_7 20 rfl) rfl rfl ?_
    refine j_aload_n hG 2 (dt dtL_law_7 21 rfl) rfl rfl ?_
    refine j_iload hG 1 (dt dtL_law_7 22 rfl) rfl ?_
    refine j_iconst hG (v := 1) (dt dtL_law_7 23 rfl) (by decide) ?_
    refine j_iadd hG (dt dtL_law_7 24 rfl) ?_
    refine j_sld hG hS (c + 1) (nI_add c 1) (by omega) hL (dt dtL_law_7 25 rfl) ?_
    refine j_aload_n hG 2 (dt dtL_law_7 26 rfl) rfl rfl ?_
    refine j_iload hG 1 (dt dtL_law_7 27 rfl) rfl ?_
    refine j_iconst hG (v := 2) (dt dtL_law_7 28 rfl) (by decide) ?_
    refine j_iadd hG (dt dtL_law_7 29 rfl) ?_
    refine j_sld hG hS (c + 2) (nI_add c 2) (by omega) hL (dt dtL_law_7 30 rfl) ?_
    refine j_aload_n hG 2 (dt dtL_law_7 31 rfl) rfl rfl ?_
    refine j_iload hG 1 (dt dtL_law_7 32 rfl) rfl ?_
    refine j_iconst hG (v := 3) (dt dtL_law_7 33 rfl) (by decide) ?_
    refine j_iadd hG (dt dtL_law_7 34 rfl) ?_
    refine j_sld hG hS (c + 3) (nI_add c 3) (by omega) hL (dt dtL_law_7 35 rfl) ?_
    refine J_of (jl_if_eq hG (tgt := 847) (dt dtL_law_7 36 rfl) (by decide) (fun _ => J_to ?_) (fun q9 => absurd qd q9))
    refine j_iconst hG (v := 0) (dt dtL_law_7 39 rfl) (by decide) ?_
    refine j_callV hG (kc := K) (ks := S) (ct_X8_decide hG.2.2.1 (gB G) _ _ _ _ _ hy) mf_X8_decide ml_L_172 22 (cv_22 _ _ _ _) rfl rfl (rest := []) rfl (Nat.le_of_ble_eq_true rfl) (dt dtL_law_7 40 rfl) (by decide) (by decide) (fun v9 σ2 q => ?_) (fun E σ2 q => q.elim)
    obtain ⟨rfl, rfl⟩ := q
    show J G 9 K S 851 [(6, .int k), (5, .int (nI c)), (0, .ref b), (1, .ref (wad (gB G) 0)), (2, .ref (wad (gB G) 22)), (3, .ref (wad (gB G) 37)), (4, .ref (wad (gB G) 38))] [.int v] (X2, Y2, o2, dd, (t2, []))
    refine j_istore hG (lv' := [(7, .int v), (6, .int k), (5, .int (nI c)), (0, .ref b), (1, .ref (wad (gB G) 0)), (2, .ref (wad (gB G) 22)), (3, .ref (wad (gB G) 37)), (4, .ref (wad (gB G) 38))]) (dt dtL_law_7 41 rfl) (by decide) rfl ?_
    refine j_aload_n hG 5 (dt dtL_law_7 42 rfl) rfl rfl ?_
    refine j_callV hG (kc := K) (ks := S) (ct_X8_thrown hG.2.2.1 (gB G) _ _ _ _ _ (show f_X8_thrown Y2 = some k from by rw [← hk2]; rfl)) mf_X8_thrown ml_L_138 22 (cv_22 _ _ _ _) rfl rfl (rest := []) rfl (Nat.le_of_ble_eq_true rfl) (dt dtL_law_7 43 rfl) (by decide) (by decide) (fun v9 σ2 q => ?_) (fun E σ2 q => q.elim)
    obtain ⟨rfl, rfl⟩ := q
    refine j_iload hG 1 (dt dtL_law_7 44 rfl) rfl ?_
    refine J_of (jl_icmp_eq hG (tgt := 864) (dt dtL_law_7 45 rfl) (by decide) (fun _ => J_to ?_) (fun q => absurd rfl q))
    refine j_iload hG 1 (dt dtL_law_7 48 rfl) rfl ?_
    refine J_of (jl_if_ne hG (tgt := 881) (dt dtL_law_7 49 rfl) (by decide) (fun q => J_to ?_) (fun q => J_to ?_))
    · refine j_goto hG (tgt := 2270) (dt dtL_law_7 59 rfl) (by decide) ?_
      refine j_lv (lv' := lvM (gB G) b (nI c)) [2, 3, 4, 5, 6, 7] rfl ?_
      exact hk _ ⟨_, _, _, _, _, _, _, rfl, hI2⟩
    · refine j_aload_n hG 6 (dt dtL_law_7 50 rfl) rfl rfl ?_
      refine j_iconst hG (v := 0) (dt dtL_law_7 51 rfl) (by decide) ?_
      refine j_lald hG (dt dtL_law_7 52 rfl) ?_
      refine j_iload hG 0 (dt dtL_law_7 53 rfl) rfl ?_
      refine j_i2l hG (dt dtL_law_7 54 rfl) ?_
      rw [he q]
      refine j_lcmp hG (dt dtL_law_7 55 rfl) ?_
      rw [cmp_self]
      refine J_of (jl_if_eq hG (tgt := 881) (dt dtL_law_7 56 rfl) (by decide) (fun _ => J_to ?_) (fun q => absurd rfl q))
      refine j_goto hG (tgt := 2270) (dt dtL_law_7 59 rfl) (by decide) ?_
      refine j_lv (lv' := lvM (gB G) b (nI c)) [2, 3, 4, 5, 6, 7] rfl ?_
      exact hk _ ⟨_, _, _, _, _, _, _, rfl, hI2⟩
  · obtain ⟨d2, T2, X2, Y2, res, v, k, hI2, hx, hy, hk2, hcd, ho⟩ := om_out (op_decide hI (xs (c + 1)) (xs (c + 2)) 1)
    refine J.weak (kc := K + 4) (ks := S + 24) (by omega) (by omega) ?_
    refine j_aload_n hG 2 (dt dtL_law_6 57 rfl) rfl rfl ?_
    refine j_aload_n hG 1 (dt dtL_law_6 58 rfl) rfl rfl ?_
    refine j_iload hG 0 (dt dtL_law_6 59 rfl) rfl ?_
    refine j_iconst hG (v := 1) (dt dtL_law_7 0 rfl) (by decide) ?_
    refine j_iadd hG (dt dtL_law_7 1 rfl) ?_
    refine j_sld hG hS (c + 1) (nI_add c 1) (by omega) hL (dt dtL_law_7 2 rfl) ?_
    refine j_aload_n hG 1 (dt dtL_law_7 3 rfl) rfl rfl ?_
    refine j_iload hG 0 (dt dtL_law_7 4 rfl) rfl ?_
    refine j_iconst hG (v := 2) (dt dtL_law_7 5 rfl) (by decide) ?_
    refine j_iadd hG (dt dtL_law_7 6 rfl) ?_
    refine j_sld hG hS (c + 2) (nI_add c 2) (by omega) hL (dt dtL_law_7 7 rfl) ?_
    refine j_aload_n hG 1 (dt dtL_law_7 8 rfl) rfl rfl ?_
    refine j_iload hG 0 (dt dtL_law_7 9 rfl) rfl ?_
    refine j_iconst hG (v := 3) (dt dtL_law_7 10 rfl) (by decide) ?_
    refine j_iadd hG (dt dtL_law_7 11 rfl) ?_
    refine j_sld hG hS (c + 3) (nI_add c 3) (by omega) hL (dt dtL_law_7 12 rfl) ?_
    refine J_of (jl_if_eq hG (tgt := 814) (dt dtL_law_7 13 rfl) (by decide) (fun q9 => absurd q9 qd) (fun _ => J_to ?_))
    refine j_iconst hG (v := 1) (dt dtL_law_7 14 rfl) (by decide) ?_
    refine j_goto hG (tgt := 815) (dt dtL_law_7 15 rfl) (by decide) ?_
    refine j_aload_n hG 4 (dt dtL_law_7 17 rfl) rfl rfl ?_
    refine j_callSH hG (kc := K + 0) (ks := S + 0) (ct_L_decide hG.2.2.1 (gB G) hx hcd) mh_L_decide ml_L_169 rfl (rest := []) rfl (Nat.le_of_ble_eq_true rfl) (dt dtL_law_7 18 rfl) (by decide) (by decide) (fun v9 σ2 q => ?_)
    obtain ⟨rfl, o2, t2, rfl, he⟩ := ho _ _ _ _ _ q
    refine j_istore hG (lv' := [(6, .int k), (5, .int (nI c)), (0, .ref b), (1, .ref (wad (gB G) 0)), (2, .ref (wad (gB G) 22)), (3, .ref (wad (gB G) 37)), (4, .ref (wad (gB G) 38))]) (dt dtL_law_7 19 rfl) (by decide) rfl ?_
    refine j_aload_n hG 4 (dt dtL_law_7 20 rfl) rfl rfl ?_
    refine j_aload_n hG 2 (dt dtL_law_7 21 rfl) rfl rfl ?_
    refine j_iload hG 1 (dt dtL_law_7 22 rfl) rfl ?_
    refine j_iconst hG (v := 1) (dt dtL_law_7 23 rfl) (by decide) ?_
    refine j_iadd hG (dt dtL_law_7 24 rfl) ?_
    refine j_sld hG hS (c + 1) (nI_add c 1) (by omega) hL (dt dtL_law_7 25 rfl) ?_
    refine j_aload_n hG 2 (dt dtL_law_7 26 rfl) rfl rfl ?_
    refine j_iload hG 1 (dt dtL_law_7 27 rfl) rfl ?_
    refine j_iconst hG (v := 2) (dt dtL_law_7 28 rfl) (by decide) ?_
    refine j_iadd hG (dt dtL_law_7 29 rfl) ?_
    refine j_sld hG hS (c + 2) (nI_add c 2) (by omega) hL (dt dtL_law_7 30 rfl) ?_
    refine j_aload_n hG 2 (dt dtL_law_7 31 rfl) rfl rfl ?_
    refine j_iload hG 1 (dt dtL_law_7 32 rfl) rfl ?_
    refine j_iconst hG (v := 3) (dt dtL_law_7 33 rfl) (by decide) ?_
    refine j_iadd hG (dt dtL_law_7 34 rfl) ?_
    refine j_sld hG hS (c + 3) (nI_add c 3) (by omega) hL (dt dtL_law_7 35 rfl) ?_
    refine J_of (jl_if_eq hG (tgt := 847) (dt dtL_law_7 36 rfl) (by decide) (fun q9 => absurd q9 qd) (fun _ => J_to ?_))
    refine j_iconst hG (v := 1) (dt dtL_law_7 37 rfl) (by decide) ?_
    refine j_goto hG (tgt := 848) (dt dtL_law_7 38 rfl) (by decide) ?_
    refine j_callV hG (kc := K) (ks := S) (ct_X8_decide hG.2.2.1 (gB G) _ _ _ _ _ hy) mf_X8_decide ml_L_172 22 (cv_22 _ _ _ _) rfl rfl (rest := []) rfl (Nat.le_of_ble_eq_true rfl) (dt dtL_law_7 40 rfl) (by decide) (by decide) (fun v9 σ2 q => ?_) (fun E σ2 q => q.elim)
    obtain ⟨rfl, rfl⟩ := q
    show J G 9 K S 851 [(6, .int k), (5, .int (nI c)), (0, .ref b), (1, .ref (wad (gB G) 0)), (2, .ref (wad (gB G) 22)), (3, .ref (wad (gB G) 37)), (4, .ref (wad (gB G) 38))] [.int v] (X2, Y2, o2, dd, (t2, []))
    refine j_istore hG (lv' := [(7, .int v), (6, .int k), (5, .int (nI c)), (0, .ref b), (1, .ref (wad (gB G) 0)), (2, .ref (wad (gB G) 22)), (3, .ref (wad (gB G) 37)), (4, .ref (wad (gB G) 38))]) (dt dtL_law_7 41 rfl) (by decide) rfl ?_
    refine j_aload_n hG 5 (dt dtL_law_7 42 rfl) rfl rfl ?_
    refine j_callV hG (kc := K) (ks := S) (ct_X8_thrown hG.2.2.1 (gB G) _ _ _ _ _ (show f_X8_thrown Y2 = some k from by rw [← hk2]; rfl)) mf_X8_thrown ml_L_138 22 (cv_22 _ _ _ _) rfl rfl (rest := []) rfl (Nat.le_of_ble_eq_true rfl) (dt dtL_law_7 43 rfl) (by decide) (by decide) (fun v9 σ2 q => ?_) (fun E σ2 q => q.elim)
    obtain ⟨rfl, rfl⟩ := q
    refine j_iload hG 1 (dt dtL_law_7 44 rfl) rfl ?_
    refine J_of (jl_icmp_eq hG (tgt := 864) (dt dtL_law_7 45 rfl) (by decide) (fun _ => J_to ?_) (fun q => absurd rfl q))
    refine j_iload hG 1 (dt dtL_law_7 48 rfl) rfl ?_
    refine J_of (jl_if_ne hG (tgt := 881) (dt dtL_law_7 49 rfl) (by decide) (fun q => J_to ?_) (fun q => J_to ?_))
    · refine j_goto hG (tgt := 2270) (dt dtL_law_7 59 rfl) (by decide) ?_
      refine j_lv (lv' := lvM (gB G) b (nI c)) [2, 3, 4, 5, 6, 7] rfl ?_
      exact hk _ ⟨_, _, _, _, _, _, _, rfl, hI2⟩
    · refine j_aload_n hG 6 (dt dtL_law_7 50 rfl) rfl rfl ?_
      refine j_iconst hG (v := 0) (dt dtL_law_7 51 rfl) (by decide) ?_
      refine j_lald hG (dt dtL_law_7 52 rfl) ?_
      refine j_iload hG 0 (dt dtL_law_7 53 rfl) rfl ?_
      refine j_i2l hG (dt dtL_law_7 54 rfl) ?_
      rw [he q]
      refine j_lcmp hG (dt dtL_law_7 55 rfl) ?_
      rw [cmp_self]
      refine J_of (jl_if_eq hG (tgt := 881) (dt dtL_law_7 56 rfl) (by decide) (fun _ => J_to ?_) (fun q => absurd rfl q))
      refine j_goto hG (tgt := 2270) (dt dtL_law_7 59 rfl) (by decide) ?_
      refine j_lv (lv' := lvM (gB G) b (nI c)) [2, 3, 4, 5, 6, 7] rfl ?_
      exact hk _ ⟨_, _, _, _, _, _, _, rfl, hI2⟩
set_option maxRecDepth 4000 in
theorem g_law_10 {G : wG} (hG : wOk G RL cL_law 9 10 282) {b L : Nat} {xs : Nat → Int32} (hS : LWS G b L xs) (hL : L ≤ 2560) {c : Nat} (hc : c + 4 < L) {d : mD} {T : mT} {X Y : wM} {o : Int64} {dd : UInt64} {t1 : Nat → Nat} (hI : INV d T X Y) {K S : Nat} (hk : ∀ σ, SI σ → J G 9 K S 2270 (lvM (gB G) b (nI c)) [] σ) : J G 9 (K + 32) (S + 7000) 884 (lvM (gB G) b (nI c)) [] (X, Y, o, dd, (t1, [])) := by
  show J G 9 (K + 32) (S + 7000) 884 [(5, .int (nI c)), (0, .ref b), (1, .ref (wad (gB G) 0)), (2, .ref (wad (gB G) 22)), (3, .ref (wad (gB G) 37)), (4, .ref (wad (gB G) 38))] [] _
  obtain ⟨d2, T2, X2, Y2, res, v, k, hI2, hx, hy, hk2, hcd, ho⟩ := om_out (op_takeBack hI (xs (c + 1)) (xs (c + 2)))
  refine J.weak (kc := K + 3) (ks := S + 18) (by omega) (by omega) ?_
  refine j_aload_n hG 2 (dt dtL_law_8 0 rfl) rfl rfl ?_
  refine j_aload_n hG 1 (dt dtL_law_8 1 rfl) rfl rfl ?_
  refine j_iload hG 0 (dt dtL_law_8 2 rfl) rfl ?_
  refine j_iconst hG (v := 1) (dt dtL_law_8 3 rfl) (by decide) ?_
  refine j_iadd hG (dt dtL_law_8 4 rfl) ?_
  refine j_sld hG hS (c + 1) (nI_add c 1) (by omega) hL (dt dtL_law_8 5 rfl) ?_
  refine j_aload_n hG 1 (dt dtL_law_8 6 rfl) rfl rfl ?_
  refine j_iload hG 0 (dt dtL_law_8 7 rfl) rfl ?_
  refine j_iconst hG (v := 2) (dt dtL_law_8 8 rfl) (by decide) ?_
  refine j_iadd hG (dt dtL_law_8 9 rfl) ?_
  refine j_sld hG hS (c + 2) (nI_add c 2) (by omega) hL (dt dtL_law_8 10 rfl) ?_
  refine j_aload_n hG 4 (dt dtL_law_8 11 rfl) rfl rfl ?_
  refine j_callSH hG (kc := K + 0) (ks := S + 0) (ct_L_takeBack hG.2.2.1 (gB G) hx hcd) mh_L_takeBack ml_L_173 rfl (rest := []) rfl (Nat.le_of_ble_eq_true rfl) (dt dtL_law_8 12 rfl) (by decide) (by decide) (fun v9 σ2 q => ?_)
  obtain ⟨rfl, o2, t2, rfl, he⟩ := ho _ _ _ _ _ q
  refine j_istore hG (lv' := [(6, .int k), (5, .int (nI c)), (0, .ref b), (1, .ref (wad (gB G) 0)), (2, .ref (wad (gB G) 22)), (3, .ref (wad (gB G) 37)), (4, .ref (wad (gB G) 38))]) (dt dtL_law_8 13 rfl) (by decide) rfl ?_
  refine j_aload_n hG 4 (dt dtL_law_8 14 rfl) rfl rfl ?_
  refine j_aload_n hG 2 (dt dtL_law_8 15 rfl) rfl rfl ?_
  refine j_iload hG 1 (dt dtL_law_8 16 rfl) rfl ?_
  refine j_iconst hG (v := 1) (dt dtL_law_8 17 rfl) (by decide) ?_
  refine j_iadd hG (dt dtL_law_8 18 rfl) ?_
  refine j_sld hG hS (c + 1) (nI_add c 1) (by omega) hL (dt dtL_law_8 19 rfl) ?_
  refine j_aload_n hG 2 (dt dtL_law_8 20 rfl) rfl rfl ?_
  refine j_iload hG 1 (dt dtL_law_8 21 rfl) rfl ?_
  refine j_iconst hG (v := 2) (dt dtL_law_8 22 rfl) (by decide) ?_
  refine j_iadd hG (dt dtL_law_8 23 rfl) ?_
  refine j_sld hG hS (c + 2) (nI_add c 2) (by omega) hL (dt dtL_law_8 24 rfl) ?_
  refine j_callV hG (kc := K) (ks := S) (ct_X8_takeBack hG.2.2.1 (gB G) _ _ _ _ _ hy) mf_X8_takeBack ml_L_175 22 (cv_22 _ _ _ _) rfl rfl (rest := []) rfl (Nat.le_of_ble_eq_true rfl) (dt dtL_law_8 25 rfl) (by decide) (by decide) (fun v9 σ2 q => ?_) (fun E σ2 q => q.elim)
  obtain ⟨rfl, rfl⟩ := q
  show J G 9 K S 919 [(6, .int k), (5, .int (nI c)), (0, .ref b), (1, .ref (wad (gB G) 0)), (2, .ref (wad (gB G) 22)), (3, .ref (wad (gB G) 37)), (4, .ref (wad (gB G) 38))] [.int v] (X2, Y2, o2, dd, (t2, []))
  refine j_istore hG (lv' := [(7, .int v), (6, .int k), (5, .int (nI c)), (0, .ref b), (1, .ref (wad (gB G) 0)), (2, .ref (wad (gB G) 22)), (3, .ref (wad (gB G) 37)), (4, .ref (wad (gB G) 38))]) (dt dtL_law_8 26 rfl) (by decide) rfl ?_
  refine j_aload_n hG 5 (dt dtL_law_8 27 rfl) rfl rfl ?_
  refine j_callV hG (kc := K) (ks := S) (ct_X8_thrown hG.2.2.1 (gB G) _ _ _ _ _ (show f_X8_thrown Y2 = some k from by rw [← hk2]; rfl)) mf_X8_thrown ml_L_138 22 (cv_22 _ _ _ _) rfl rfl (rest := []) rfl (Nat.le_of_ble_eq_true rfl) (dt dtL_law_8 28 rfl) (by decide) (by decide) (fun v9 σ2 q => ?_) (fun E σ2 q => q.elim)
  obtain ⟨rfl, rfl⟩ := q
  refine j_iload hG 1 (dt dtL_law_8 29 rfl) rfl ?_
  refine J_of (jl_icmp_eq hG (tgt := 932) (dt dtL_law_8 30 rfl) (by decide) (fun _ => J_to ?_) (fun q => absurd rfl q))
  refine j_iload hG 1 (dt dtL_law_8 33 rfl) rfl ?_
  refine J_of (jl_if_ne hG (tgt := 949) (dt dtL_law_8 34 rfl) (by decide) (fun q => J_to ?_) (fun q => J_to ?_))
  · refine j_goto hG (tgt := 2270) (dt dtL_law_8 44 rfl) (by decide) ?_
    refine j_lv (lv' := lvM (gB G) b (nI c)) [2, 3, 4, 5, 6, 7] rfl ?_
    exact hk _ ⟨_, _, _, _, _, _, _, rfl, hI2⟩
  · refine j_aload_n hG 6 (dt dtL_law_8 35 rfl) rfl rfl ?_
    refine j_iconst hG (v := 0) (dt dtL_law_8 36 rfl) (by decide) ?_
    refine j_lald hG (dt dtL_law_8 37 rfl) ?_
    refine j_iload hG 0 (dt dtL_law_8 38 rfl) rfl ?_
    refine j_i2l hG (dt dtL_law_8 39 rfl) ?_
    rw [he q]
    refine j_lcmp hG (dt dtL_law_8 40 rfl) ?_
    rw [cmp_self]
    refine J_of (jl_if_eq hG (tgt := 949) (dt dtL_law_8 41 rfl) (by decide) (fun _ => J_to ?_) (fun q => absurd rfl q))
    refine j_goto hG (tgt := 2270) (dt dtL_law_8 44 rfl) (by decide) ?_
    refine j_lv (lv' := lvM (gB G) b (nI c)) [2, 3, 4, 5, 6, 7] rfl ?_
    exact hk _ ⟨_, _, _, _, _, _, _, rfl, hI2⟩
set_option maxRecDepth 4000 in
theorem g_law_11 {G : wG} (hG : wOk G RL cL_law 9 10 282) {b L : Nat} {xs : Nat → Int32} (hS : LWS G b L xs) (hL : L ≤ 2560) {c : Nat} (hc : c + 4 < L) {d : mD} {T : mT} {X Y : wM} {o : Int64} {dd : UInt64} {t1 : Nat → Nat} (hI : INV d T X Y) {K S : Nat} (hk : ∀ σ, SI σ → J G 9 K S 2270 (lvM (gB G) b (nI c)) [] σ) : J G 9 (K + 32) (S + 7000) 952 (lvM (gB G) b (nI c)) [] (X, Y, o, dd, (t1, [])) := by
  show J G 9 (K + 32) (S + 7000) 952 [(5, .int (nI c)), (0, .ref b), (1, .ref (wad (gB G) 0)), (2, .ref (wad (gB G) 22)), (3, .ref (wad (gB G) 37)), (4, .ref (wad (gB G) 38))] [] _
  obtain ⟨Y2, res, v, k, hI2, hx, hy, hk2, hcd, hR, ho⟩ := oq_out (op_link hI (xs (c + 1)) (xs (c + 2)))
  refine J.weak (kc := K + 3) (ks := S + 18) (by omega) (by omega) ?_
  refine j_aload_n hG 2 (dt dtL_law_8 45 rfl) rfl rfl ?_
  refine j_aload_n hG 1 (dt dtL_law_8 46 rfl) rfl rfl ?_
  refine j_iload hG 0 (dt dtL_law_8 47 rfl) rfl ?_
  refine j_iconst hG (v := 1) (dt dtL_law_8 48 rfl) (by decide) ?_
  refine j_iadd hG (dt dtL_law_8 49 rfl) ?_
  refine j_sld hG hS (c + 1) (nI_add c 1) (by omega) hL (dt dtL_law_8 50 rfl) ?_
  refine j_aload_n hG 1 (dt dtL_law_8 51 rfl) rfl rfl ?_
  refine j_iload hG 0 (dt dtL_law_8 52 rfl) rfl ?_
  refine j_iconst hG (v := 2) (dt dtL_law_8 53 rfl) (by decide) ?_
  refine j_iadd hG (dt dtL_law_8 54 rfl) ?_
  refine j_sld hG hS (c + 2) (nI_add c 2) (by omega) hL (dt dtL_law_8 55 rfl) ?_
  refine j_aload_n hG 4 (dt dtL_law_8 56 rfl) rfl rfl ?_
  refine j_callSH hG (kc := K + 0) (ks := S + 0) (ct_L_link hG.2.2.1 (gB G) hx hcd) mh_L_link ml_L_176 rfl (rest := []) rfl (Nat.le_of_ble_eq_true rfl) (dt dtL_law_8 57 rfl) (by decide) (by decide) (fun v9 σ2 q => ?_)
  obtain ⟨rfl, hq⟩ := ho _ _ _ _ q
  have hq2 : ∃ o2 : Int64, σ2 = (X, Y, o2, dd, (t1, [])) ∧ (k = 0 → o2 = v.toInt64) := by
    rcases hq with ⟨h1, rfl⟩ | ⟨h1, z, h2, rfl⟩
    · exact ⟨o, rfl, fun e => absurd e h1⟩
    · exact ⟨_, rfl, fun _ => by rw [h2]⟩
  obtain ⟨o2, rfl, he⟩ := hq2
  refine j_istore hG (lv' := [(6, .int k), (5, .int (nI c)), (0, .ref b), (1, .ref (wad (gB G) 0)), (2, .ref (wad (gB G) 22)), (3, .ref (wad (gB G) 37)), (4, .ref (wad (gB G) 38))]) (dt dtL_law_8 58 rfl) (by decide) rfl ?_
  refine j_aload_n hG 4 (dt dtL_law_8 59 rfl) rfl rfl ?_
  refine j_aload_n hG 2 (dt dtL_law_9 0 rfl) rfl rfl ?_
  refine j_iload hG 1 (dt dtL_law_9 1 rfl) rfl ?_
  refine j_iconst hG (v := 1) (dt dtL_law_9 2 rfl) (by decide) ?_
  refine j_iadd hG (dt dtL_law_9 3 rfl) ?_
  refine j_sld hG hS (c + 1) (nI_add c 1) (by omega) hL (dt dtL_law_9 4 rfl) ?_
  refine j_aload_n hG 2 (dt dtL_law_9 5 rfl) rfl rfl ?_
  refine j_iload hG 1 (dt dtL_law_9 6 rfl) rfl ?_
  refine j_iconst hG (v := 2) (dt dtL_law_9 7 rfl) (by decide) ?_
  refine j_iadd hG (dt dtL_law_9 8 rfl) ?_
  refine j_sld hG hS (c + 2) (nI_add c 2) (by omega) hL (dt dtL_law_9 9 rfl) ?_
  refine j_callV hG (kc := K) (ks := S) (ct_X8_link hG.2.2.1 (gB G) _ _ _ _ _ hy) mf_X8_link ml_L_178 22 (cv_22 _ _ _ _) rfl rfl (rest := []) rfl (Nat.le_of_ble_eq_true rfl) (dt dtL_law_9 10 rfl) (by decide) (by decide) (fun v9 σ2 q => ?_) (fun E σ2 q => q.elim)
  obtain ⟨rfl, rfl⟩ := q
  show J G 9 K S 987 [(6, .int k), (5, .int (nI c)), (0, .ref b), (1, .ref (wad (gB G) 0)), (2, .ref (wad (gB G) 22)), (3, .ref (wad (gB G) 37)), (4, .ref (wad (gB G) 38))] [.int v] (X, Y2, o2, dd, (t1, []))
  refine j_istore hG (lv' := [(7, .int v), (6, .int k), (5, .int (nI c)), (0, .ref b), (1, .ref (wad (gB G) 0)), (2, .ref (wad (gB G) 22)), (3, .ref (wad (gB G) 37)), (4, .ref (wad (gB G) 38))]) (dt dtL_law_9 11 rfl) (by decide) rfl ?_
  refine j_aload_n hG 5 (dt dtL_law_9 12 rfl) rfl rfl ?_
  refine j_callV hG (kc := K) (ks := S) (ct_X8_thrown hG.2.2.1 (gB G) _ _ _ _ _ (show f_X8_thrown Y2 = some k from by rw [← hk2]; rfl)) mf_X8_thrown ml_L_138 22 (cv_22 _ _ _ _) rfl rfl (rest := []) rfl (Nat.le_of_ble_eq_true rfl) (dt dtL_law_9 13 rfl) (by decide) (by decide) (fun v9 σ2 q => ?_) (fun E σ2 q => q.elim)
  obtain ⟨rfl, rfl⟩ := q
  refine j_iload hG 1 (dt dtL_law_9 14 rfl) rfl ?_
  refine J_of (jl_icmp_eq hG (tgt := 1000) (dt dtL_law_9 15 rfl) (by decide) (fun _ => J_to ?_) (fun q => absurd rfl q))
  refine j_iload hG 1 (dt dtL_law_9 18 rfl) rfl ?_
  refine J_of (jl_if_ne hG (tgt := 1017) (dt dtL_law_9 19 rfl) (by decide) (fun q => J_to ?_) (fun q => J_to ?_))
  · refine j_goto hG (tgt := 2270) (dt dtL_law_9 29 rfl) (by decide) ?_
    refine j_lv (lv' := lvM (gB G) b (nI c)) [2, 3, 4, 5, 6, 7] rfl ?_
    exact hk _ ⟨_, _, _, _, _, _, _, rfl, hI2⟩
  · refine j_aload_n hG 6 (dt dtL_law_9 20 rfl) rfl rfl ?_
    refine j_iconst hG (v := 0) (dt dtL_law_9 21 rfl) (by decide) ?_
    refine j_lald hG (dt dtL_law_9 22 rfl) ?_
    refine j_iload hG 0 (dt dtL_law_9 23 rfl) rfl ?_
    refine j_i2l hG (dt dtL_law_9 24 rfl) ?_
    rw [he q]
    refine j_lcmp hG (dt dtL_law_9 25 rfl) ?_
    rw [cmp_self]
    refine J_of (jl_if_eq hG (tgt := 1017) (dt dtL_law_9 26 rfl) (by decide) (fun _ => J_to ?_) (fun q => absurd rfl q))
    refine j_goto hG (tgt := 2270) (dt dtL_law_9 29 rfl) (by decide) ?_
    refine j_lv (lv' := lvM (gB G) b (nI c)) [2, 3, 4, 5, 6, 7] rfl ?_
    exact hk _ ⟨_, _, _, _, _, _, _, rfl, hI2⟩
set_option maxRecDepth 4000 in
theorem g_law_12 {G : wG} (hG : wOk G RL cL_law 9 10 282) {b L : Nat} {xs : Nat → Int32} (hS : LWS G b L xs) (hL : L ≤ 2560) {c : Nat} (hc : c + 4 < L) {d : mD} {T : mT} {X Y : wM} {o : Int64} {dd : UInt64} {t1 : Nat → Nat} (hI : INV d T X Y) {K S : Nat} (hk : ∀ σ, SI σ → J G 9 K S 2270 (lvM (gB G) b (nI c)) [] σ) : J G 9 (K + 32) (S + 7000) 1020 (lvM (gB G) b (nI c)) [] (X, Y, o, dd, (t1, [])) := by
  show J G 9 (K + 32) (S + 7000) 1020 [(5, .int (nI c)), (0, .ref b), (1, .ref (wad (gB G) 0)), (2, .ref (wad (gB G) 22)), (3, .ref (wad (gB G) 37)), (4, .ref (wad (gB G) 38))] [] _
  obtain ⟨v, Y2, hx, hy, hI2⟩ := op_openPairs hI
  refine J.weak (kc := K + 32) (ks := S + 7000) (by omega) (by omega) ?_
  refine J.weak (kc := K) (ks := S) (by omega) (by omega) ?_
  refine j_aload_n hG 2 (dt dtL_law_9 30 rfl) rfl rfl ?_
  refine j_callV hG (kc := K) (ks := S) (ct_X7_openPairs hG.2.2.1 (gB G) _ _ _ _ _ hx) mf_X7_openPairs ml_L_179 0 (cv_0 _ _ _ _) rfl rfl (rest := []) rfl (Nat.le_of_ble_eq_true rfl) (dt dtL_law_9 31 rfl) (by decide) (by decide) (fun v9 σ2 q => ?_) (fun E σ2 q => q.elim)
  obtain ⟨rfl, rfl⟩ := q
  refine j_aload_n hG 3 (dt dtL_law_9 32 rfl) rfl rfl ?_
  refine j_callV hG (kc := K) (ks := S) (ct_X8_openPairs hG.2.2.1 (gB G) _ _ _ _ _ hy) mf_X8_openPairs ml_L_182 22 (cv_22 _ _ _ _) rfl rfl (rest := [.int v]) rfl (Nat.le_of_ble_eq_true rfl) (dt dtL_law_9 33 rfl) (by decide) (by decide) (fun v9 σ2 q => ?_) (fun E σ2 q => q.elim)
  obtain ⟨rfl, rfl⟩ := q
  refine J_of (jl_icmp_eq hG (tgt := 2270) (dt dtL_law_9 34 rfl) (by decide) (fun _ => J_to ?_) (fun q => absurd rfl q))
  exact hk _ ⟨_, _, _, _, _, _, _, rfl, hI2⟩
set_option maxRecDepth 4000 in
theorem g_law_13 {G : wG} (hG : wOk G RL cL_law 9 10 282) {b L : Nat} {xs : Nat → Int32} (hS : LWS G b L xs) (hL : L ≤ 2560) {c : Nat} (hc : c + 4 < L) {d : mD} {T : mT} {X Y : wM} {o : Int64} {dd : UInt64} {t1 : Nat → Nat} (hI : INV d T X Y) {K S : Nat} (hk : ∀ σ, SI σ → J G 9 K S 2270 (lvM (gB G) b (nI c)) [] σ) : J G 9 (K + 32) (S + 7000) 1033 (lvM (gB G) b (nI c)) [] (X, Y, o, dd, (t1, [])) := by
  show J G 9 (K + 32) (S + 7000) 1033 [(5, .int (nI c)), (0, .ref b), (1, .ref (wad (gB G) 0)), (2, .ref (wad (gB G) 22)), (3, .ref (wad (gB G) 37)), (4, .ref (wad (gB G) 38))] [] _
  obtain ⟨Y2, res, v, k, hI2, hx, hy, hk2, hcd, hR, ho⟩ := oq_out (op_isDouble hI (xs (c + 1)))
  refine J.weak (kc := K + 1) (ks := S + 6) (by omega) (by omega) ?_
  refine j_aload_n hG 2 (dt dtL_law_9 37 rfl) rfl rfl ?_
  refine j_aload_n hG 1 (dt dtL_law_9 38 rfl) rfl rfl ?_
  refine j_iload hG 0 (dt dtL_law_9 39 rfl) rfl ?_
  refine j_iconst hG (v := 1) (dt dtL_law_9 40 rfl) (by decide) ?_
  refine j_iadd hG (dt dtL_law_9 41 rfl) ?_
  refine j_sld hG hS (c + 1) (nI_add c 1) (by omega) hL (dt dtL_law_9 42 rfl) ?_
  refine j_aload_n hG 4 (dt dtL_law_9 43 rfl) rfl rfl ?_
  refine j_callSH hG (kc := K + 0) (ks := S + 0) (ct_L_isDouble hG.2.2.1 (gB G) hx hcd) mh_L_isDouble ml_L_183 rfl (rest := []) rfl (Nat.le_of_ble_eq_true rfl) (dt dtL_law_9 44 rfl) (by decide) (by decide) (fun v9 σ2 q => ?_)
  obtain ⟨rfl, hq⟩ := ho _ _ _ _ q
  have hq2 : ∃ o2 : Int64, σ2 = (X, Y, o2, dd, (t1, [])) ∧ (k = 0 → o2 = zL v) := by
    rcases hq with ⟨h1, rfl⟩ | ⟨h1, z, h2, rfl⟩
    · exact ⟨o, rfl, fun e => absurd e h1⟩
    · exact ⟨_, rfl, fun _ => by rw [h2]⟩
  obtain ⟨o2, rfl, he⟩ := hq2
  refine j_istore hG (lv' := [(6, .int k), (5, .int (nI c)), (0, .ref b), (1, .ref (wad (gB G) 0)), (2, .ref (wad (gB G) 22)), (3, .ref (wad (gB G) 37)), (4, .ref (wad (gB G) 38))]) (dt dtL_law_9 45 rfl) (by decide) rfl ?_
  refine j_aload_n hG 4 (dt dtL_law_9 46 rfl) rfl rfl ?_
  refine j_aload_n hG 2 (dt dtL_law_9 47 rfl) rfl rfl ?_
  refine j_iload hG 1 (dt dtL_law_9 48 rfl) rfl ?_
  refine j_iconst hG (v := 1) (dt dtL_law_9 49 rfl) (by decide) ?_
  refine j_iadd hG (dt dtL_law_9 50 rfl) ?_
  refine j_sld hG hS (c + 1) (nI_add c 1) (by omega) hL (dt dtL_law_9 51 rfl) ?_
  refine j_callV hG (kc := K) (ks := S) (ct_X8_isDouble hG.2.2.1 (gB G) _ _ _ _ _ hy) mf_X8_isDouble ml_L_185 22 (cv_22 _ _ _ _) rfl rfl (rest := []) rfl (Nat.le_of_ble_eq_true rfl) (dt dtL_law_9 52 rfl) (by decide) (by decide) (fun v9 σ2 q => ?_) (fun E σ2 q => q.elim)
  obtain ⟨rfl, rfl⟩ := q
  show J G 9 K S 1056 [(6, .int k), (5, .int (nI c)), (0, .ref b), (1, .ref (wad (gB G) 0)), (2, .ref (wad (gB G) 22)), (3, .ref (wad (gB G) 37)), (4, .ref (wad (gB G) 38))] [.int v] (X, Y2, o2, dd, (t1, []))
  refine j_istore hG (lv' := [(7, .int v), (6, .int k), (5, .int (nI c)), (0, .ref b), (1, .ref (wad (gB G) 0)), (2, .ref (wad (gB G) 22)), (3, .ref (wad (gB G) 37)), (4, .ref (wad (gB G) 38))]) (dt dtL_law_9 53 rfl) (by decide) rfl ?_
  refine j_aload_n hG 5 (dt dtL_law_9 54 rfl) rfl rfl ?_
  refine j_callV hG (kc := K) (ks := S) (ct_X8_thrown hG.2.2.1 (gB G) _ _ _ _ _ (show f_X8_thrown Y2 = some k from by rw [← hk2]; rfl)) mf_X8_thrown ml_L_138 22 (cv_22 _ _ _ _) rfl rfl (rest := []) rfl (Nat.le_of_ble_eq_true rfl) (dt dtL_law_9 55 rfl) (by decide) (by decide) (fun v9 σ2 q => ?_) (fun E σ2 q => q.elim)
  obtain ⟨rfl, rfl⟩ := q
  refine j_iload hG 1 (dt dtL_law_9 56 rfl) rfl ?_
  refine J_of (jl_icmp_eq hG (tgt := 1069) (dt dtL_law_9 57 rfl) (by decide) (fun _ => J_to ?_) (fun q => absurd rfl q))
  refine j_iload hG 1 (dt dtL_law_10 0 rfl) rfl ?_
  refine J_of (jl_if_ne hG (tgt := 1093) (dt dtL_law_10 1 rfl) (by decide) (fun q => J_to ?_) (fun q => J_to ?_))
  · refine j_goto hG (tgt := 2270) (dt dtL_law_10 14 rfl) (by decide) ?_
    refine j_lv (lv' := lvM (gB G) b (nI c)) [2, 3, 4, 5, 6, 7] rfl ?_
    exact hk _ ⟨_, _, _, _, _, _, _, rfl, hI2⟩
  · refine j_aload_n hG 6 (dt dtL_law_10 2 rfl) rfl rfl ?_
    refine j_iconst hG (v := 0) (dt dtL_law_10 3 rfl) (by decide) ?_
    refine j_lald hG (dt dtL_law_10 4 rfl) ?_
    refine j_iload hG 0 (dt dtL_law_10 5 rfl) rfl ?_
    rw [he q]
    refine J_of (jl_if_eq hG (tgt := 1086) (dt dtL_law_10 6 rfl) (by decide) (fun q2 => J_to ?_) (fun q2 => J_to ?_))
    · refine j_lconst hG (v := 0) (dt dtL_law_10 9 rfl) (by decide) ?_
      rw [show zL v = 0 from if_pos q2] at he ⊢
      refine j_lcmp hG (dt dtL_law_10 10 rfl) ?_
      rw [cmp_self]
      refine J_of (jl_if_eq hG (tgt := 1093) (dt dtL_law_10 11 rfl) (by decide) (fun _ => J_to ?_) (fun q => absurd rfl q))
      refine j_goto hG (tgt := 2270) (dt dtL_law_10 14 rfl) (by decide) ?_
      refine j_lv (lv' := lvM (gB G) b (nI c)) [2, 3, 4, 5, 6, 7] rfl ?_
      exact hk _ ⟨_, _, _, _, _, _, _, rfl, hI2⟩
    · refine j_lconst hG (v := 1) (dt dtL_law_10 7 rfl) (by decide) ?_
      refine j_goto hG (tgt := 1087) (dt dtL_law_10 8 rfl) (by decide) ?_
      rw [show zL v = 1 from if_neg q2] at he ⊢
      refine j_lcmp hG (dt dtL_law_10 10 rfl) ?_
      rw [cmp_self]
      refine J_of (jl_if_eq hG (tgt := 1093) (dt dtL_law_10 11 rfl) (by decide) (fun _ => J_to ?_) (fun q => absurd rfl q))
      refine j_goto hG (tgt := 2270) (dt dtL_law_10 14 rfl) (by decide) ?_
      refine j_lv (lv' := lvM (gB G) b (nI c)) [2, 3, 4, 5, 6, 7] rfl ?_
      exact hk _ ⟨_, _, _, _, _, _, _, rfl, hI2⟩
set_option maxRecDepth 4000 in
theorem g_law_14 {G : wG} (hG : wOk G RL cL_law 9 10 282) {b L : Nat} {xs : Nat → Int32} (hS : LWS G b L xs) (hL : L ≤ 2560) {c : Nat} (hc : c + 4 < L) {d : mD} {T : mT} {X Y : wM} {o : Int64} {dd : UInt64} {t1 : Nat → Nat} (hI : INV d T X Y) {K S : Nat} (hk : ∀ σ, SI σ → J G 9 K S 2270 (lvM (gB G) b (nI c)) [] σ) : J G 9 (K + 32) (S + 7000) 1096 (lvM (gB G) b (nI c)) [] (X, Y, o, dd, (t1, [])) := by
  show J G 9 (K + 32) (S + 7000) 1096 [(5, .int (nI c)), (0, .ref b), (1, .ref (wad (gB G) 0)), (2, .ref (wad (gB G) 22)), (3, .ref (wad (gB G) 37)), (4, .ref (wad (gB G) 38))] [] _
  obtain ⟨Y2, res, v, k, hI2, hx, hy, hk2, hcd, hR, ho⟩ := oq_out (op_matchOf hI (xs (c + 1)))
  refine J.weak (kc := K + 2) (ks := S + 12) (by omega) (by omega) ?_
  refine j_aload_n hG 2 (dt dtL_law_10 15 rfl) rfl rfl ?_
  refine j_aload_n hG 1 (dt dtL_law_10 16 rfl) rfl rfl ?_
  refine j_iload hG 0 (dt dtL_law_10 17 rfl) rfl ?_
  refine j_iconst hG (v := 1) (dt dtL_law_10 18 rfl) (by decide) ?_
  refine j_iadd hG (dt dtL_law_10 19 rfl) ?_
  refine j_sld hG hS (c + 1) (nI_add c 1) (by omega) hL (dt dtL_law_10 20 rfl) ?_
  refine j_aload_n hG 4 (dt dtL_law_10 21 rfl) rfl rfl ?_
  refine j_callSH hG (kc := K + 0) (ks := S + 0) (ct_L_matchOf hG.2.2.1 (gB G) hx hcd) mh_L_matchOf ml_L_186 rfl (rest := []) rfl (Nat.le_of_ble_eq_true rfl) (dt dtL_law_10 22 rfl) (by decide) (by decide) (fun v9 σ2 q => ?_)
  obtain ⟨rfl, hq⟩ := ho _ _ _ _ q
  have hq2 : ∃ o2 : Int64, σ2 = (X, Y, o2, dd, (t1, [])) ∧ (k = 0 → o2 = v.toInt64) := by
    rcases hq with ⟨h1, rfl⟩ | ⟨h1, z, h2, rfl⟩
    · exact ⟨o, rfl, fun e => absurd e h1⟩
    · exact ⟨_, rfl, fun _ => by rw [h2]⟩
  obtain ⟨o2, rfl, he⟩ := hq2
  refine j_istore hG (lv' := [(6, .int k), (5, .int (nI c)), (0, .ref b), (1, .ref (wad (gB G) 0)), (2, .ref (wad (gB G) 22)), (3, .ref (wad (gB G) 37)), (4, .ref (wad (gB G) 38))]) (dt dtL_law_10 23 rfl) (by decide) rfl ?_
  refine j_aload_n hG 4 (dt dtL_law_10 24 rfl) rfl rfl ?_
  refine j_aload_n hG 2 (dt dtL_law_10 25 rfl) rfl rfl ?_
  refine j_iload hG 1 (dt dtL_law_10 26 rfl) rfl ?_
  refine j_iconst hG (v := 1) (dt dtL_law_10 27 rfl) (by decide) ?_
  refine j_iadd hG (dt dtL_law_10 28 rfl) ?_
  refine j_sld hG hS (c + 1) (nI_add c 1) (by omega) hL (dt dtL_law_10 29 rfl) ?_
  refine j_callV hG (kc := K) (ks := S) (ct_X8_matchOf hG.2.2.1 (gB G) _ _ _ _ _ hy) mf_X8_matchOf ml_L_188 22 (cv_22 _ _ _ _) rfl rfl (rest := []) rfl (Nat.le_of_ble_eq_true rfl) (dt dtL_law_10 30 rfl) (by decide) (by decide) (fun v9 σ2 q => ?_) (fun E σ2 q => q.elim)
  obtain ⟨rfl, rfl⟩ := q
  show J G 9 K S 1119 [(6, .int k), (5, .int (nI c)), (0, .ref b), (1, .ref (wad (gB G) 0)), (2, .ref (wad (gB G) 22)), (3, .ref (wad (gB G) 37)), (4, .ref (wad (gB G) 38))] [.int v] (X, Y2, o2, dd, (t1, []))
  refine j_istore hG (lv' := [(7, .int v), (6, .int k), (5, .int (nI c)), (0, .ref b), (1, .ref (wad (gB G) 0)), (2, .ref (wad (gB G) 22)), (3, .ref (wad (gB G) 37)), (4, .ref (wad (gB G) 38))]) (dt dtL_law_10 31 rfl) (by decide) rfl ?_
  refine j_aload_n hG 5 (dt dtL_law_10 32 rfl) rfl rfl ?_
  refine j_callV hG (kc := K) (ks := S) (ct_X8_thrown hG.2.2.1 (gB G) _ _ _ _ _ (show f_X8_thrown Y2 = some k from by rw [← hk2]; rfl)) mf_X8_thrown ml_L_138 22 (cv_22 _ _ _ _) rfl rfl (rest := []) rfl (Nat.le_of_ble_eq_true rfl) (dt dtL_law_10 33 rfl) (by decide) (by decide) (fun v9 σ2 q => ?_) (fun E σ2 q => q.elim)
  obtain ⟨rfl, rfl⟩ := q
  refine j_iload hG 1 (dt dtL_law_10 34 rfl) rfl ?_
  refine J_of (jl_icmp_eq hG (tgt := 1132) (dt dtL_law_10 35 rfl) (by decide) (fun _ => J_to ?_) (fun q => absurd rfl q))
  refine j_iload hG 1 (dt dtL_law_10 38 rfl) rfl ?_
  refine J_of (jl_if_ne hG (tgt := 1149) (dt dtL_law_10 39 rfl) (by decide) (fun q => J_to ?_) (fun q => J_to ?_))
  · refine j_goto hG (tgt := 2270) (dt dtL_law_10 49 rfl) (by decide) ?_
    refine j_lv (lv' := lvM (gB G) b (nI c)) [2, 3, 4, 5, 6, 7] rfl ?_
    exact hk _ ⟨_, _, _, _, _, _, _, rfl, hI2⟩
  · refine j_aload_n hG 6 (dt dtL_law_10 40 rfl) rfl rfl ?_
    refine j_iconst hG (v := 0) (dt dtL_law_10 41 rfl) (by decide) ?_
    refine j_lald hG (dt dtL_law_10 42 rfl) ?_
    refine j_iload hG 0 (dt dtL_law_10 43 rfl) rfl ?_
    refine j_i2l hG (dt dtL_law_10 44 rfl) ?_
    rw [he q]
    refine j_lcmp hG (dt dtL_law_10 45 rfl) ?_
    rw [cmp_self]
    refine J_of (jl_if_eq hG (tgt := 1149) (dt dtL_law_10 46 rfl) (by decide) (fun _ => J_to ?_) (fun q => absurd rfl q))
    refine j_goto hG (tgt := 2270) (dt dtL_law_10 49 rfl) (by decide) ?_
    refine j_lv (lv' := lvM (gB G) b (nI c)) [2, 3, 4, 5, 6, 7] rfl ?_
    exact hk _ ⟨_, _, _, _, _, _, _, rfl, hI2⟩
set_option maxRecDepth 4000 in
theorem g_law_15 {G : wG} (hG : wOk G RL cL_law 9 10 282) {b L : Nat} {xs : Nat → Int32} (hS : LWS G b L xs) (hL : L ≤ 2560) {c : Nat} (hc : c + 4 < L) {d : mD} {T : mT} {X Y : wM} {o : Int64} {dd : UInt64} {t1 : Nat → Nat} (hI : INV d T X Y) {K S : Nat} (hk : ∀ σ, SI σ → J G 9 K S 2270 (lvM (gB G) b (nI c)) [] σ) : J G 9 (K + 32) (S + 7000) 1152 (lvM (gB G) b (nI c)) [] (X, Y, o, dd, (t1, [])) := by
  show J G 9 (K + 32) (S + 7000) 1152 [(5, .int (nI c)), (0, .ref b), (1, .ref (wad (gB G) 0)), (2, .ref (wad (gB G) 22)), (3, .ref (wad (gB G) 37)), (4, .ref (wad (gB G) 38))] [] _
  obtain ⟨v, Y2, hx, hy, hI2⟩ := op_matches hI
  refine J.weak (kc := K + 32) (ks := S + 7000) (by omega) (by omega) ?_
  refine J.weak (kc := K) (ks := S) (by omega) (by omega) ?_
  refine j_aload_n hG 2 (dt dtL_law_10 50 rfl) rfl rfl ?_
  refine j_callV hG (kc := K) (ks := S) (ct_X7_matches hG.2.2.1 (gB G) _ _ _ _ _ hx) mf_X7_matches ml_L_189 0 (cv_0 _ _ _ _) rfl rfl (rest := []) rfl (Nat.le_of_ble_eq_true rfl) (dt dtL_law_10 51 rfl) (by decide) (by decide) (fun v9 σ2 q => ?_) (fun E σ2 q => q.elim)
  obtain ⟨rfl, rfl⟩ := q
  refine j_aload_n hG 3 (dt dtL_law_10 52 rfl) rfl rfl ?_
  refine j_callV hG (kc := K) (ks := S) (ct_X8_matches hG.2.2.1 (gB G) _ _ _ _ _ hy) mf_X8_matches ml_L_192 22 (cv_22 _ _ _ _) rfl rfl (rest := [.int v]) rfl (Nat.le_of_ble_eq_true rfl) (dt dtL_law_10 53 rfl) (by decide) (by decide) (fun v9 σ2 q => ?_) (fun E σ2 q => q.elim)
  obtain ⟨rfl, rfl⟩ := q
  refine J_of (jl_icmp_eq hG (tgt := 2270) (dt dtL_law_10 54 rfl) (by decide) (fun _ => J_to ?_) (fun q => absurd rfl q))
  exact hk _ ⟨_, _, _, _, _, _, _, rfl, hI2⟩
set_option maxRecDepth 4000 in
theorem g_law_16 {G : wG} (hG : wOk G RL cL_law 9 10 282) {b L : Nat} {xs : Nat → Int32} (hS : LWS G b L xs) (hL : L ≤ 2560) {c : Nat} (hc : c + 4 < L) {d : mD} {T : mT} {X Y : wM} {o : Int64} {dd : UInt64} {t1 : Nat → Nat} (hI : INV d T X Y) {K S : Nat} (hk : ∀ σ, SI σ → J G 9 K S 2270 (lvM (gB G) b (nI c)) [] σ) : J G 9 (K + 32) (S + 7000) 1165 (lvM (gB G) b (nI c)) [] (X, Y, o, dd, (t1, [])) := by
  show J G 9 (K + 32) (S + 7000) 1165 [(5, .int (nI c)), (0, .ref b), (1, .ref (wad (gB G) 0)), (2, .ref (wad (gB G) 22)), (3, .ref (wad (gB G) 37)), (4, .ref (wad (gB G) 38))] [] _
  obtain ⟨Y2, res, v, k, hI2, hx, hy, hk2, hcd, hR, ho⟩ := oq_out (op_count hI (xs (c + 1)) (xs (c + 2)))
  refine J.weak (kc := K + 2) (ks := S + 12) (by omega) (by omega) ?_
  refine j_aload_n hG 2 (dt dtL_law_10 57 rfl) rfl rfl ?_
  refine j_aload_n hG 1 (dt dtL_law_10 58 rfl) rfl rfl ?_
  refine j_iload hG 0 (dt dtL_law_10 59 rfl) rfl ?_
  refine j_iconst hG (v := 1) (dt dtL_law_11 0 rfl) (by decide) ?_
  refine j_iadd hG (dt dtL_law_11 1 rfl) ?_
  refine j_sld hG hS (c + 1) (nI_add c 1) (by omega) hL (dt dtL_law_11 2 rfl) ?_
  refine j_aload_n hG 1 (dt dtL_law_11 3 rfl) rfl rfl ?_
  refine j_iload hG 0 (dt dtL_law_11 4 rfl) rfl ?_
  refine j_iconst hG (v := 2) (dt dtL_law_11 5 rfl) (by decide) ?_
  refine j_iadd hG (dt dtL_law_11 6 rfl) ?_
  refine j_sld hG hS (c + 2) (nI_add c 2) (by omega) hL (dt dtL_law_11 7 rfl) ?_
  refine j_aload_n hG 4 (dt dtL_law_11 8 rfl) rfl rfl ?_
  refine j_callSH hG (kc := K + 0) (ks := S + 0) (ct_L_count hG.2.2.1 (gB G) hx hcd) mh_L_count ml_L_193 rfl (rest := []) rfl (Nat.le_of_ble_eq_true rfl) (dt dtL_law_11 9 rfl) (by decide) (by decide) (fun v9 σ2 q => ?_)
  obtain ⟨rfl, hq⟩ := ho _ _ _ _ q
  have hq2 : ∃ o2 : Int64, σ2 = (X, Y, o2, dd, (t1, [])) ∧ (k = 0 → o2 = v.toInt64) := by
    rcases hq with ⟨h1, rfl⟩ | ⟨h1, z, h2, rfl⟩
    · exact ⟨o, rfl, fun e => absurd e h1⟩
    · exact ⟨_, rfl, fun _ => by rw [h2]⟩
  obtain ⟨o2, rfl, he⟩ := hq2
  refine j_istore hG (lv' := [(6, .int k), (5, .int (nI c)), (0, .ref b), (1, .ref (wad (gB G) 0)), (2, .ref (wad (gB G) 22)), (3, .ref (wad (gB G) 37)), (4, .ref (wad (gB G) 38))]) (dt dtL_law_11 10 rfl) (by decide) rfl ?_
  refine j_aload_n hG 4 (dt dtL_law_11 11 rfl) rfl rfl ?_
  refine j_aload_n hG 2 (dt dtL_law_11 12 rfl) rfl rfl ?_
  refine j_iload hG 1 (dt dtL_law_11 13 rfl) rfl ?_
  refine j_iconst hG (v := 1) (dt dtL_law_11 14 rfl) (by decide) ?_
  refine j_iadd hG (dt dtL_law_11 15 rfl) ?_
  refine j_sld hG hS (c + 1) (nI_add c 1) (by omega) hL (dt dtL_law_11 16 rfl) ?_
  refine j_aload_n hG 2 (dt dtL_law_11 17 rfl) rfl rfl ?_
  refine j_iload hG 1 (dt dtL_law_11 18 rfl) rfl ?_
  refine j_iconst hG (v := 2) (dt dtL_law_11 19 rfl) (by decide) ?_
  refine j_iadd hG (dt dtL_law_11 20 rfl) ?_
  refine j_sld hG hS (c + 2) (nI_add c 2) (by omega) hL (dt dtL_law_11 21 rfl) ?_
  refine j_callV hG (kc := K) (ks := S) (ct_X8_count hG.2.2.1 (gB G) _ _ _ _ _ hy) mf_X8_count ml_L_195 22 (cv_22 _ _ _ _) rfl rfl (rest := []) rfl (Nat.le_of_ble_eq_true rfl) (dt dtL_law_11 22 rfl) (by decide) (by decide) (fun v9 σ2 q => ?_) (fun E σ2 q => q.elim)
  obtain ⟨rfl, rfl⟩ := q
  show J G 9 K S 1200 [(6, .int k), (5, .int (nI c)), (0, .ref b), (1, .ref (wad (gB G) 0)), (2, .ref (wad (gB G) 22)), (3, .ref (wad (gB G) 37)), (4, .ref (wad (gB G) 38))] [.int v] (X, Y2, o2, dd, (t1, []))
  refine j_istore hG (lv' := [(7, .int v), (6, .int k), (5, .int (nI c)), (0, .ref b), (1, .ref (wad (gB G) 0)), (2, .ref (wad (gB G) 22)), (3, .ref (wad (gB G) 37)), (4, .ref (wad (gB G) 38))]) (dt dtL_law_11 23 rfl) (by decide) rfl ?_
  refine j_aload_n hG 5 (dt dtL_law_11 24 rfl) rfl rfl ?_
  refine j_callV hG (kc := K) (ks := S) (ct_X8_thrown hG.2.2.1 (gB G) _ _ _ _ _ (show f_X8_thrown Y2 = some k from by rw [← hk2]; rfl)) mf_X8_thrown ml_L_138 22 (cv_22 _ _ _ _) rfl rfl (rest := []) rfl (Nat.le_of_ble_eq_true rfl) (dt dtL_law_11 25 rfl) (by decide) (by decide) (fun v9 σ2 q => ?_) (fun E σ2 q => q.elim)
  obtain ⟨rfl, rfl⟩ := q
  refine j_iload hG 1 (dt dtL_law_11 26 rfl) rfl ?_
  refine J_of (jl_icmp_eq hG (tgt := 1213) (dt dtL_law_11 27 rfl) (by decide) (fun _ => J_to ?_) (fun q => absurd rfl q))
  refine j_iload hG 1 (dt dtL_law_11 30 rfl) rfl ?_
  refine J_of (jl_if_ne hG (tgt := 1230) (dt dtL_law_11 31 rfl) (by decide) (fun q => J_to ?_) (fun q => J_to ?_))
  · refine j_goto hG (tgt := 2270) (dt dtL_law_11 41 rfl) (by decide) ?_
    refine j_lv (lv' := lvM (gB G) b (nI c)) [2, 3, 4, 5, 6, 7] rfl ?_
    exact hk _ ⟨_, _, _, _, _, _, _, rfl, hI2⟩
  · refine j_aload_n hG 6 (dt dtL_law_11 32 rfl) rfl rfl ?_
    refine j_iconst hG (v := 0) (dt dtL_law_11 33 rfl) (by decide) ?_
    refine j_lald hG (dt dtL_law_11 34 rfl) ?_
    refine j_iload hG 0 (dt dtL_law_11 35 rfl) rfl ?_
    refine j_i2l hG (dt dtL_law_11 36 rfl) ?_
    rw [he q]
    refine j_lcmp hG (dt dtL_law_11 37 rfl) ?_
    rw [cmp_self]
    refine J_of (jl_if_eq hG (tgt := 1230) (dt dtL_law_11 38 rfl) (by decide) (fun _ => J_to ?_) (fun q => absurd rfl q))
    refine j_goto hG (tgt := 2270) (dt dtL_law_11 41 rfl) (by decide) ?_
    refine j_lv (lv' := lvM (gB G) b (nI c)) [2, 3, 4, 5, 6, 7] rfl ?_
    exact hk _ ⟨_, _, _, _, _, _, _, rfl, hI2⟩
set_option maxRecDepth 4000 in
theorem g_law_17 {G : wG} (hG : wOk G RL cL_law 9 10 282) {b L : Nat} {xs : Nat → Int32} (hS : LWS G b L xs) (hL : L ≤ 2560) {c : Nat} (hc : c + 4 < L) {d : mD} {T : mT} {X Y : wM} {o : Int64} {dd : UInt64} {t1 : Nat → Nat} (hI : INV d T X Y) {K S : Nat} (hk : ∀ σ, SI σ → J G 9 K S 2270 (lvM (gB G) b (nI c)) [] σ) : J G 9 (K + 32) (S + 7000) 1233 (lvM (gB G) b (nI c)) [] (X, Y, o, dd, (t1, [])) := by
  show J G 9 (K + 32) (S + 7000) 1233 [(5, .int (nI c)), (0, .ref b), (1, .ref (wad (gB G) 0)), (2, .ref (wad (gB G) 22)), (3, .ref (wad (gB G) 37)), (4, .ref (wad (gB G) 38))] [] _
  obtain ⟨d2, T2, X2, Y2, res, v, k, hI2, hx, hy, hk2, hcd, ho⟩ := om_out (op_countAnew hI (xs (c + 1)) (xs (c + 2)))
  refine J.weak (kc := K + 2) (ks := S + 12) (by omega) (by omega) ?_
  refine j_aload_n hG 2 (dt dtL_law_11 42 rfl) rfl rfl ?_
  refine j_aload_n hG 1 (dt dtL_law_11 43 rfl) rfl rfl ?_
  refine j_iload hG 0 (dt dtL_law_11 44 rfl) rfl ?_
  refine j_iconst hG (v := 1) (dt dtL_law_11 45 rfl) (by decide) ?_
  refine j_iadd hG (dt dtL_law_11 46 rfl) ?_
  refine j_sld hG hS (c + 1) (nI_add c 1) (by omega) hL (dt dtL_law_11 47 rfl) ?_
  refine j_aload_n hG 1 (dt dtL_law_11 48 rfl) rfl rfl ?_
  refine j_iload hG 0 (dt dtL_law_11 49 rfl) rfl ?_
  refine j_iconst hG (v := 2) (dt dtL_law_11 50 rfl) (by decide) ?_
  refine j_iadd hG (dt dtL_law_11 51 rfl) ?_
  refine j_sld hG hS (c + 2) (nI_add c 2) (by omega) hL (dt dtL_law_11 52 rfl) ?_
  refine j_aload_n hG 4 (dt dtL_law_11 53 rfl) rfl rfl ?_
  refine j_callSH hG (kc := K + 0) (ks := S + 0) (ct_L_countAnew hG.2.2.1 (gB G) hx hcd) mh_L_countAnew ml_L_196 rfl (rest := []) rfl (Nat.le_of_ble_eq_true rfl) (dt dtL_law_11 54 rfl) (by decide) (by decide) (fun v9 σ2 q => ?_)
  obtain ⟨rfl, o2, t2, rfl, he⟩ := ho _ _ _ _ _ q
  refine j_istore hG (lv' := [(6, .int k), (5, .int (nI c)), (0, .ref b), (1, .ref (wad (gB G) 0)), (2, .ref (wad (gB G) 22)), (3, .ref (wad (gB G) 37)), (4, .ref (wad (gB G) 38))]) (dt dtL_law_11 55 rfl) (by decide) rfl ?_
  refine j_aload_n hG 4 (dt dtL_law_11 56 rfl) rfl rfl ?_
  refine j_aload_n hG 2 (dt dtL_law_11 57 rfl) rfl rfl ?_
  refine j_iload hG 1 (dt dtL_law_11 58 rfl) rfl ?_
  refine j_iconst hG (v := 1) (dt dtL_law_11 59 rfl) (by decide) ?_
  refine j_iadd hG (dt dtL_law_12 0 rfl) ?_
  refine j_sld hG hS (c + 1) (nI_add c 1) (by omega) hL (dt dtL_law_12 1 rfl) ?_
  refine j_aload_n hG 2 (dt dtL_law_12 2 rfl) rfl rfl ?_
  refine j_iload hG 1 (dt dtL_law_12 3 rfl) rfl ?_
  refine j_iconst hG (v := 2) (dt dtL_law_12 4 rfl) (by decide) ?_
  refine j_iadd hG (dt dtL_law_12 5 rfl) ?_
  refine j_sld hG hS (c + 2) (nI_add c 2) (by omega) hL (dt dtL_law_12 6 rfl) ?_
  refine j_callV hG (kc := K) (ks := S) (ct_X8_countAnew hG.2.2.1 (gB G) _ _ _ _ _ hy) mf_X8_countAnew ml_L_198 22 (cv_22 _ _ _ _) rfl rfl (rest := []) rfl (Nat.le_of_ble_eq_true rfl) (dt dtL_law_12 7 rfl) (by decide) (by decide) (fun v9 σ2 q => ?_) (fun E σ2 q => q.elim)
  obtain ⟨rfl, rfl⟩ := q
  show J G 9 K S 1268 [(6, .int k), (5, .int (nI c)), (0, .ref b), (1, .ref (wad (gB G) 0)), (2, .ref (wad (gB G) 22)), (3, .ref (wad (gB G) 37)), (4, .ref (wad (gB G) 38))] [.int v] (X2, Y2, o2, dd, (t2, []))
  refine j_istore hG (lv' := [(7, .int v), (6, .int k), (5, .int (nI c)), (0, .ref b), (1, .ref (wad (gB G) 0)), (2, .ref (wad (gB G) 22)), (3, .ref (wad (gB G) 37)), (4, .ref (wad (gB G) 38))]) (dt dtL_law_12 8 rfl) (by decide) rfl ?_
  refine j_aload_n hG 5 (dt dtL_law_12 9 rfl) rfl rfl ?_
  refine j_callV hG (kc := K) (ks := S) (ct_X8_thrown hG.2.2.1 (gB G) _ _ _ _ _ (show f_X8_thrown Y2 = some k from by rw [← hk2]; rfl)) mf_X8_thrown ml_L_138 22 (cv_22 _ _ _ _) rfl rfl (rest := []) rfl (Nat.le_of_ble_eq_true rfl) (dt dtL_law_12 10 rfl) (by decide) (by decide) (fun v9 σ2 q => ?_) (fun E σ2 q => q.elim)
  obtain ⟨rfl, rfl⟩ := q
  refine j_iload hG 1 (dt dtL_law_12 11 rfl) rfl ?_
  refine J_of (jl_icmp_eq hG (tgt := 1281) (dt dtL_law_12 12 rfl) (by decide) (fun _ => J_to ?_) (fun q => absurd rfl q))
  refine j_iload hG 1 (dt dtL_law_12 15 rfl) rfl ?_
  refine J_of (jl_if_ne hG (tgt := 1298) (dt dtL_law_12 16 rfl) (by decide) (fun q => J_to ?_) (fun q => J_to ?_))
  · refine j_goto hG (tgt := 2270) (dt dtL_law_12 26 rfl) (by decide) ?_
    refine j_lv (lv' := lvM (gB G) b (nI c)) [2, 3, 4, 5, 6, 7] rfl ?_
    exact hk _ ⟨_, _, _, _, _, _, _, rfl, hI2⟩
  · refine j_aload_n hG 6 (dt dtL_law_12 17 rfl) rfl rfl ?_
    refine j_iconst hG (v := 0) (dt dtL_law_12 18 rfl) (by decide) ?_
    refine j_lald hG (dt dtL_law_12 19 rfl) ?_
    refine j_iload hG 0 (dt dtL_law_12 20 rfl) rfl ?_
    refine j_i2l hG (dt dtL_law_12 21 rfl) ?_
    rw [he q]
    refine j_lcmp hG (dt dtL_law_12 22 rfl) ?_
    rw [cmp_self]
    refine J_of (jl_if_eq hG (tgt := 1298) (dt dtL_law_12 23 rfl) (by decide) (fun _ => J_to ?_) (fun q => absurd rfl q))
    refine j_goto hG (tgt := 2270) (dt dtL_law_12 26 rfl) (by decide) ?_
    refine j_lv (lv' := lvM (gB G) b (nI c)) [2, 3, 4, 5, 6, 7] rfl ?_
    exact hk _ ⟨_, _, _, _, _, _, _, rfl, hI2⟩
set_option maxRecDepth 4000 in
theorem g_law_18 {G : wG} (hG : wOk G RL cL_law 9 10 282) {b L : Nat} {xs : Nat → Int32} (hS : LWS G b L xs) (hL : L ≤ 2560) {c : Nat} (hc : c + 4 < L) {d : mD} {T : mT} {X Y : wM} {o : Int64} {dd : UInt64} {t1 : Nat → Nat} (hI : INV d T X Y) {K S : Nat} (hk : ∀ σ, SI σ → J G 9 K S 2270 (lvM (gB G) b (nI c)) [] σ) : J G 9 (K + 32) (S + 7000) 1301 (lvM (gB G) b (nI c)) [] (X, Y, o, dd, (t1, [])) := by
  show J G 9 (K + 32) (S + 7000) 1301 [(5, .int (nI c)), (0, .ref b), (1, .ref (wad (gB G) 0)), (2, .ref (wad (gB G) 22)), (3, .ref (wad (gB G) 37)), (4, .ref (wad (gB G) 38))] [] _
  obtain ⟨Y2, res, v, k, hI2, hx, hy, hk2, hcd, hR, ho⟩ := oq_out (op_estimate hI)
  refine J.weak (kc := K + 1) (ks := S + 6) (by omega) (by omega) ?_
  refine j_aload_n hG 2 (dt dtL_law_12 27 rfl) rfl rfl ?_
  refine j_aload_n hG 4 (dt dtL_law_12 28 rfl) rfl rfl ?_
  refine j_callSH hG (kc := K + 0) (ks := S + 0) (ct_L_estimate hG.2.2.1 (gB G) hx hcd) mh_L_estimate ml_L_199 rfl (rest := []) rfl (Nat.le_of_ble_eq_true rfl) (dt dtL_law_12 29 rfl) (by decide) (by decide) (fun v9 σ2 q => ?_)
  obtain ⟨rfl, hq⟩ := ho _ _ _ _ q
  have hq2 : ∃ o2 : Int64, σ2 = (X, Y, o2, dd, (t1, [])) ∧ (k = 0 → o2 = v) := by
    rcases hq with ⟨h1, rfl⟩ | ⟨h1, z, h2, rfl⟩
    · exact ⟨o, rfl, fun e => absurd e h1⟩
    · exact ⟨_, rfl, fun _ => by rw [h2]⟩
  obtain ⟨o2, rfl, he⟩ := hq2
  refine j_istore hG (lv' := [(6, .int k), (5, .int (nI c)), (0, .ref b), (1, .ref (wad (gB G) 0)), (2, .ref (wad (gB G) 22)), (3, .ref (wad (gB G) 37)), (4, .ref (wad (gB G) 38))]) (dt dtL_law_12 30 rfl) (by decide) rfl ?_
  refine j_aload_n hG 4 (dt dtL_law_12 31 rfl) rfl rfl ?_
  refine j_callV hG (kc := K) (ks := S) (ct_X8_estimate hG.2.2.1 (gB G) _ _ _ _ _ hy) mf_X8_estimate ml_L_201 22 (cv_22 _ _ _ _) rfl rfl (rest := []) rfl (Nat.le_of_ble_eq_true rfl) (dt dtL_law_12 32 rfl) (by decide) (by decide) (fun v9 σ2 q => ?_) (fun E σ2 q => q.elim)
  obtain ⟨rfl, rfl⟩ := q
  show J G 9 K S 1312 [(6, .int k), (5, .int (nI c)), (0, .ref b), (1, .ref (wad (gB G) 0)), (2, .ref (wad (gB G) 22)), (3, .ref (wad (gB G) 37)), (4, .ref (wad (gB G) 38))] [.long v] (X, Y2, o2, dd, (t1, []))
  refine j_lstore hG (lv' := [(7, .long v), (6, .int k), (5, .int (nI c)), (0, .ref b), (1, .ref (wad (gB G) 0)), (2, .ref (wad (gB G) 22)), (3, .ref (wad (gB G) 37)), (4, .ref (wad (gB G) 38))]) (dt dtL_law_12 33 rfl) (by decide) rfl ?_
  refine j_aload_n hG 5 (dt dtL_law_12 34 rfl) rfl rfl ?_
  refine j_callV hG (kc := K) (ks := S) (ct_X8_thrown hG.2.2.1 (gB G) _ _ _ _ _ (show f_X8_thrown Y2 = some k from by rw [← hk2]; rfl)) mf_X8_thrown ml_L_138 22 (cv_22 _ _ _ _) rfl rfl (rest := []) rfl (Nat.le_of_ble_eq_true rfl) (dt dtL_law_12 35 rfl) (by decide) (by decide) (fun v9 σ2 q => ?_) (fun E σ2 q => q.elim)
  obtain ⟨rfl, rfl⟩ := q
  refine j_iload hG 1 (dt dtL_law_12 36 rfl) rfl ?_
  refine J_of (jl_icmp_eq hG (tgt := 1325) (dt dtL_law_12 37 rfl) (by decide) (fun _ => J_to ?_) (fun q => absurd rfl q))
  refine j_iload hG 1 (dt dtL_law_12 40 rfl) rfl ?_
  refine J_of (jl_if_ne hG (tgt := 1341) (dt dtL_law_12 41 rfl) (by decide) (fun q => J_to ?_) (fun q => J_to ?_))
  · refine j_goto hG (tgt := 2270) (dt dtL_law_12 50 rfl) (by decide) ?_
    refine j_lv (lv' := lvM (gB G) b (nI c)) [2, 3, 4, 5, 6, 7] rfl ?_
    exact hk _ ⟨_, _, _, _, _, _, _, rfl, hI2⟩
  · refine j_aload_n hG 6 (dt dtL_law_12 42 rfl) rfl rfl ?_
    refine j_iconst hG (v := 0) (dt dtL_law_12 43 rfl) (by decide) ?_
    refine j_lald hG (dt dtL_law_12 44 rfl) ?_
    refine j_lload hG 0 (dt dtL_law_12 45 rfl) rfl ?_
    rw [he q]
    refine j_lcmp hG (dt dtL_law_12 46 rfl) ?_
    rw [cmp_self]
    refine J_of (jl_if_eq hG (tgt := 1341) (dt dtL_law_12 47 rfl) (by decide) (fun _ => J_to ?_) (fun q => absurd rfl q))
    refine j_goto hG (tgt := 2270) (dt dtL_law_12 50 rfl) (by decide) ?_
    refine j_lv (lv' := lvM (gB G) b (nI c)) [2, 3, 4, 5, 6, 7] rfl ?_
    exact hk _ ⟨_, _, _, _, _, _, _, rfl, hI2⟩
set_option maxRecDepth 4000 in
theorem g_law_19 {G : wG} (hG : wOk G RL cL_law 9 10 282) {b L : Nat} {xs : Nat → Int32} (hS : LWS G b L xs) (hL : L ≤ 2560) {c : Nat} (hc : c + 4 < L) {d : mD} {T : mT} {X Y : wM} {o : Int64} {dd : UInt64} {t1 : Nat → Nat} (hI : INV d T X Y) {K S : Nat} (hk : ∀ σ, SI σ → J G 9 K S 2270 (lvM (gB G) b (nI c)) [] σ) : J G 9 (K + 32) (S + 7000) 1344 (lvM (gB G) b (nI c)) [] (X, Y, o, dd, (t1, [])) := by
  show J G 9 (K + 32) (S + 7000) 1344 [(5, .int (nI c)), (0, .ref b), (1, .ref (wad (gB G) 0)), (2, .ref (wad (gB G) 22)), (3, .ref (wad (gB G) 37)), (4, .ref (wad (gB G) 38))] [] _
  obtain ⟨Y2, res, v, k, hI2, hx, hy, hk2, hcd, hR, ho⟩ := oq_out (op_doubleShare2 hI)
  refine J.weak (kc := K + 1) (ks := S + 6) (by omega) (by omega) ?_
  refine j_aload_n hG 2 (dt dtL_law_12 51 rfl) rfl rfl ?_
  refine j_aload hG 5 (dt dtL_law_12 52 rfl) rfl ?_
  refine j_callSH hG (kc := K + 0) (ks := S + 0) (ct_L_doubleShare hG.2.2.1 (gB G) hx hcd (fun z hz => (hR z hz).2.1)) mh_L_doubleShare ml_L_202 rfl (rest := []) rfl (Nat.le_of_ble_eq_true rfl) (dt dtL_law_12 53 rfl) (by decide) (by decide) (fun v9 σ2 q => ?_)
  obtain ⟨rfl, hq⟩ := ho _ _ _ _ q
  have hq2 : ∃ o2 : UInt64, σ2 = (X, Y, o, o2, (t1, [])) ∧ (k = 0 → o2 = FP.f2d v ∧ PD (FP.f2d v) ∧ wnn64 (FP.f2d v) = true) := by
    rcases hq with ⟨h1, rfl⟩ | ⟨h1, z, ⟨h2, h3⟩, rfl⟩
    · exact ⟨dd, rfl, fun e => absurd e h1⟩
    · subst h2; exact ⟨_, rfl, fun _ => ⟨rfl, h3.2, h3.1⟩⟩
  obtain ⟨o2, rfl, he⟩ := hq2
  refine j_istore hG (lv' := [(6, .int k), (5, .int (nI c)), (0, .ref b), (1, .ref (wad (gB G) 0)), (2, .ref (wad (gB G) 22)), (3, .ref (wad (gB G) 37)), (4, .ref (wad (gB G) 38))]) (dt dtL_law_12 54 rfl) (by decide) rfl ?_
  refine j_aload_n hG 4 (dt dtL_law_12 55 rfl) rfl rfl ?_
  refine j_callV hG (kc := K) (ks := S) (ct_X8_doubleShare hG.2.2.1 (gB G) _ _ _ _ _ hy) mf_X8_doubleShare ml_L_205 22 (cv_22 _ _ _ _) rfl rfl (rest := []) rfl (Nat.le_of_ble_eq_true rfl) (dt dtL_law_12 56 rfl) (by decide) (by decide) (fun v9 σ2 q => ?_) (fun E σ2 q => q.elim)
  obtain ⟨rfl, rfl⟩ := q
  show J G 9 K S 1356 [(6, .int k), (5, .int (nI c)), (0, .ref b), (1, .ref (wad (gB G) 0)), (2, .ref (wad (gB G) 22)), (3, .ref (wad (gB G) 37)), (4, .ref (wad (gB G) 38))] [.float v] (X, Y2, o, o2, (t1, []))
  refine j_fstore hG (lv' := [(7, .float v), (6, .int k), (5, .int (nI c)), (0, .ref b), (1, .ref (wad (gB G) 0)), (2, .ref (wad (gB G) 22)), (3, .ref (wad (gB G) 37)), (4, .ref (wad (gB G) 38))]) (dt dtL_law_12 57 rfl) (by decide) rfl ?_
  refine j_aload_n hG 5 (dt dtL_law_12 58 rfl) rfl rfl ?_
  refine j_callV hG (kc := K) (ks := S) (ct_X8_thrown hG.2.2.1 (gB G) _ _ _ _ _ (show f_X8_thrown Y2 = some k from by rw [← hk2]; rfl)) mf_X8_thrown ml_L_138 22 (cv_22 _ _ _ _) rfl rfl (rest := []) rfl (Nat.le_of_ble_eq_true rfl) (dt dtL_law_12 59 rfl) (by decide) (by decide) (fun v9 σ2 q => ?_) (fun E σ2 q => q.elim)
  obtain ⟨rfl, rfl⟩ := q
  refine j_iload hG 1 (dt dtL_law_13 0 rfl) rfl ?_
  refine J_of (jl_icmp_eq hG (tgt := 1369) (dt dtL_law_13 1 rfl) (by decide) (fun _ => J_to ?_) (fun q => absurd rfl q))
  refine j_iload hG 1 (dt dtL_law_13 4 rfl) rfl ?_
  refine J_of (jl_if_ne hG (tgt := 1407) (dt dtL_law_13 5 rfl) (by decide) (fun q => J_to ?_) (fun q => J_to ?_))
  · refine j_goto hG (tgt := 2270) (dt dtL_law_13 27 rfl) (by decide) ?_
    refine j_lv (lv' := lvM (gB G) b (nI c)) [2, 3, 4, 5, 6, 7] rfl ?_
    exact hk _ ⟨_, _, _, _, _, _, _, rfl, hI2⟩
  · refine j_aload hG 7 (dt dtL_law_13 6 rfl) rfl ?_
    refine j_iconst hG (v := 0) (dt dtL_law_13 7 rfl) (by decide) ?_
    refine j_dald hG (dt dtL_law_13 8 rfl) ?_
    refine j_fload hG 0 (dt dtL_law_13 9 rfl) rfl ?_
    refine j_f2d hG (dt dtL_law_13 10 rfl) (wnn64_ok (he q).2.2) ?_
    rw [(he q).1]
    refine j_dcmp hG (dt dtL_law_13 11 rfl) ?_
    have hpd := (he q).2.1
    unfold PD at hpd
    rw [hpd]
    refine J_of (jl_if_eq hG (tgt := 1407) (dt dtL_law_13 12 rfl) (by decide) (fun _ => J_to ?_) (fun q => absurd rfl q))
    refine j_goto hG (tgt := 2270) (dt dtL_law_13 27 rfl) (by decide) ?_
    refine j_lv (lv' := lvM (gB G) b (nI c)) [2, 3, 4, 5, 6, 7] rfl ?_
    exact hk _ ⟨_, _, _, _, _, _, _, rfl, hI2⟩
set_option maxRecDepth 4000 in
theorem g_law_20 {G : wG} (hG : wOk G RL cL_law 9 10 282) {b L : Nat} {xs : Nat → Int32} (hS : LWS G b L xs) (hL : L ≤ 2560) {c : Nat} (hc : c + 4 < L) {d : mD} {T : mT} {X Y : wM} {o : Int64} {dd : UInt64} {t1 : Nat → Nat} (hI : INV d T X Y) {K S : Nat} (hk : ∀ σ, SI σ → J G 9 K S 2270 (lvM (gB G) b (nI c)) [] σ) : J G 9 (K + 32) (S + 7000) 1410 (lvM (gB G) b (nI c)) [] (X, Y, o, dd, (t1, [])) := by
  show J G 9 (K + 32) (S + 7000) 1410 [(5, .int (nI c)), (0, .ref b), (1, .ref (wad (gB G) 0)), (2, .ref (wad (gB G) 22)), (3, .ref (wad (gB G) 37)), (4, .ref (wad (gB G) 38))] [] _
  obtain ⟨Y2, res, v, k, hI2, hx, hy, hk2, hcd, hR, ho⟩ := oq_out (op_meanScore2 hI)
  refine J.weak (kc := K + 1) (ks := S + 6) (by omega) (by omega) ?_
  refine j_aload_n hG 2 (dt dtL_law_13 28 rfl) rfl rfl ?_
  refine j_aload hG 5 (dt dtL_law_13 29 rfl) rfl ?_
  refine j_callSH hG (kc := K + 0) (ks := S + 0) (ct_L_meanScore hG.2.2.1 (gB G) hx hcd) mh_L_meanScore ml_L_206 rfl (rest := []) rfl (Nat.le_of_ble_eq_true rfl) (dt dtL_law_13 30 rfl) (by decide) (by decide) (fun v9 σ2 q => ?_)
  obtain ⟨rfl, hq⟩ := ho _ _ _ _ q
  have hq2 : ∃ o2 : UInt64, σ2 = (X, Y, o, o2, (t1, [])) ∧ (k = 0 → o2 = v ∧ PD v) := by
    rcases hq with ⟨h1, rfl⟩ | ⟨h1, z, ⟨h2, h3⟩, rfl⟩
    · exact ⟨dd, rfl, fun e => absurd e h1⟩
    · subst h2; exact ⟨_, rfl, fun _ => ⟨rfl, h3⟩⟩
  obtain ⟨o2, rfl, he⟩ := hq2
  refine j_istore hG (lv' := [(6, .int k), (5, .int (nI c)), (0, .ref b), (1, .ref (wad (gB G) 0)), (2, .ref (wad (gB G) 22)), (3, .ref (wad (gB G) 37)), (4, .ref (wad (gB G) 38))]) (dt dtL_law_13 31 rfl) (by decide) rfl ?_
  refine j_aload_n hG 4 (dt dtL_law_13 32 rfl) rfl rfl ?_
  refine j_callV hG (kc := K) (ks := S) (ct_X8_meanScore hG.2.2.1 (gB G) _ _ _ _ _ hy) mf_X8_meanScore ml_L_208 22 (cv_22 _ _ _ _) rfl rfl (rest := []) rfl (Nat.le_of_ble_eq_true rfl) (dt dtL_law_13 33 rfl) (by decide) (by decide) (fun v9 σ2 q => ?_) (fun E σ2 q => q.elim)
  obtain ⟨rfl, rfl⟩ := q
  show J G 9 K S 1422 [(6, .int k), (5, .int (nI c)), (0, .ref b), (1, .ref (wad (gB G) 0)), (2, .ref (wad (gB G) 22)), (3, .ref (wad (gB G) 37)), (4, .ref (wad (gB G) 38))] [.double v] (X, Y2, o, o2, (t1, []))
  refine j_dstore hG (lv' := [(7, .double v), (6, .int k), (5, .int (nI c)), (0, .ref b), (1, .ref (wad (gB G) 0)), (2, .ref (wad (gB G) 22)), (3, .ref (wad (gB G) 37)), (4, .ref (wad (gB G) 38))]) (dt dtL_law_13 34 rfl) (by decide) rfl ?_
  refine j_aload_n hG 5 (dt dtL_law_13 35 rfl) rfl rfl ?_
  refine j_callV hG (kc := K) (ks := S) (ct_X8_thrown hG.2.2.1 (gB G) _ _ _ _ _ (show f_X8_thrown Y2 = some k from by rw [← hk2]; rfl)) mf_X8_thrown ml_L_138 22 (cv_22 _ _ _ _) rfl rfl (rest := []) rfl (Nat.le_of_ble_eq_true rfl) (dt dtL_law_13 36 rfl) (by decide) (by decide) (fun v9 σ2 q => ?_) (fun E σ2 q => q.elim)
  obtain ⟨rfl, rfl⟩ := q
  refine j_iload hG 1 (dt dtL_law_13 37 rfl) rfl ?_
  refine J_of (jl_icmp_eq hG (tgt := 1435) (dt dtL_law_13 38 rfl) (by decide) (fun _ => J_to ?_) (fun q => absurd rfl q))
  refine j_iload hG 1 (dt dtL_law_13 41 rfl) rfl ?_
  refine J_of (jl_if_ne hG (tgt := 1472) (dt dtL_law_13 42 rfl) (by decide) (fun q => J_to ?_) (fun q => J_to ?_))
  · refine j_goto hG (tgt := 2270) (dt dtL_law_14 3 rfl) (by decide) ?_
    refine j_lv (lv' := lvM (gB G) b (nI c)) [2, 3, 4, 5, 6, 7] rfl ?_
    exact hk _ ⟨_, _, _, _, _, _, _, rfl, hI2⟩
  · refine j_aload hG 7 (dt dtL_law_13 43 rfl) rfl ?_
    refine j_iconst hG (v := 0) (dt dtL_law_13 44 rfl) (by decide) ?_
    refine j_dald hG (dt dtL_law_13 45 rfl) ?_
    refine j_dload hG 0 (dt dtL_law_13 46 rfl) rfl ?_
    rw [(he q).1]
    refine j_dcmp hG (dt dtL_law_13 47 rfl) ?_
    have hpd := (he q).2
    unfold PD at hpd
    rw [hpd]
    refine J_of (jl_if_eq hG (tgt := 1472) (dt dtL_law_13 48 rfl) (by decide) (fun _ => J_to ?_) (fun q => absurd rfl q))
    refine j_goto hG (tgt := 2270) (dt dtL_law_14 3 rfl) (by decide) ?_
    refine j_lv (lv' := lvM (gB G) b (nI c)) [2, 3, 4, 5, 6, 7] rfl ?_
    exact hk _ ⟨_, _, _, _, _, _, _, rfl, hI2⟩
set_option maxRecDepth 4000 in
theorem g_law_21 {G : wG} (hG : wOk G RL cL_law 9 10 282) {b L : Nat} {xs : Nat → Int32} (hS : LWS G b L xs) (hL : L ≤ 2560) {c : Nat} (hc : c + 4 < L) {d : mD} {T : mT} {X Y : wM} {o : Int64} {dd : UInt64} {t1 : Nat → Nat} (hI : INV d T X Y) {K S : Nat} (hk : ∀ σ, SI σ → J G 9 K S 2270 (lvM (gB G) b (nI c)) [] σ) : J G 9 (K + 32) (S + 7000) 1475 (lvM (gB G) b (nI c)) [] (X, Y, o, dd, (t1, [])) := by
  show J G 9 (K + 32) (S + 7000) 1475 [(5, .int (nI c)), (0, .ref b), (1, .ref (wad (gB G) 0)), (2, .ref (wad (gB G) 22)), (3, .ref (wad (gB G) 37)), (4, .ref (wad (gB G) 38))] [] _
  obtain ⟨d2, T2, X2, Y2, res, v, k, hI2, hx, hy, hk2, hcd, ho⟩ := om_out (op_tell hI)
  refine J.weak (kc := K + 12) (ks := S + 3459) (by omega) (by omega) ?_
  refine j_aload_n hG 2 (dt dtL_law_14 4 rfl) rfl rfl ?_
  refine j_aload_n hG 4 (dt dtL_law_14 5 rfl) rfl rfl ?_
  refine j_callSH hG (kc := K + 0) (ks := S + 0) (ct_L_tell hG.2.2.1 (gB G) hx hcd) mh_L_tell ml_L_209 rfl (rest := []) rfl (Nat.le_of_ble_eq_true rfl) (dt dtL_law_14 6 rfl) (by decide) (by decide) (fun v9 σ2 q => ?_)
  obtain ⟨rfl, o2, t2, rfl, he⟩ := ho _ _ _ _ _ q
  refine j_istore hG (lv' := [(6, .int k), (5, .int (nI c)), (0, .ref b), (1, .ref (wad (gB G) 0)), (2, .ref (wad (gB G) 22)), (3, .ref (wad (gB G) 37)), (4, .ref (wad (gB G) 38))]) (dt dtL_law_14 7 rfl) (by decide) rfl ?_
  refine j_aload_n hG 4 (dt dtL_law_14 8 rfl) rfl rfl ?_
  refine j_callV hG (kc := K) (ks := S) (ct_X8_tell hG.2.2.1 (gB G) _ _ _ _ _ hy) mf_X8_tell ml_L_211 22 (cv_22 _ _ _ _) rfl rfl (rest := []) rfl (Nat.le_of_ble_eq_true rfl) (dt dtL_law_14 9 rfl) (by decide) (by decide) (fun v9 σ2 q => ?_) (fun E σ2 q => q.elim)
  obtain ⟨rfl, rfl⟩ := q
  show J G 9 K S 1486 [(6, .int k), (5, .int (nI c)), (0, .ref b), (1, .ref (wad (gB G) 0)), (2, .ref (wad (gB G) 22)), (3, .ref (wad (gB G) 37)), (4, .ref (wad (gB G) 38))] [.int v] (X2, Y2, o2, dd, (t2, []))
  refine j_istore hG (lv' := [(7, .int v), (6, .int k), (5, .int (nI c)), (0, .ref b), (1, .ref (wad (gB G) 0)), (2, .ref (wad (gB G) 22)), (3, .ref (wad (gB G) 37)), (4, .ref (wad (gB G) 38))]) (dt dtL_law_14 10 rfl) (by decide) rfl ?_
  refine j_aload_n hG 5 (dt dtL_law_14 11 rfl) rfl rfl ?_
  refine j_callV hG (kc := K) (ks := S) (ct_X8_thrown hG.2.2.1 (gB G) _ _ _ _ _ (show f_X8_thrown Y2 = some k from by rw [← hk2]; rfl)) mf_X8_thrown ml_L_138 22 (cv_22 _ _ _ _) rfl rfl (rest := []) rfl (Nat.le_of_ble_eq_true rfl) (dt dtL_law_14 12 rfl) (by decide) (by decide) (fun v9 σ2 q => ?_) (fun E σ2 q => q.elim)
  obtain ⟨rfl, rfl⟩ := q
  refine j_iload hG 1 (dt dtL_law_14 13 rfl) rfl ?_
  refine J_of (jl_icmp_eq hG (tgt := 1499) (dt dtL_law_14 14 rfl) (by decide) (fun _ => J_to ?_) (fun q => absurd rfl q))
  refine j_iload hG 1 (dt dtL_law_14 17 rfl) rfl ?_
  refine J_of (jl_if_ne hG (tgt := 1516) (dt dtL_law_14 18 rfl) (by decide) (fun q => J_to ?_) (fun q => J_to ?_))
  · refine j_goto hG (tgt := 2270) (dt dtL_law_14 28 rfl) (by decide) ?_
    refine j_lv (lv' := lvM (gB G) b (nI c)) [2, 3, 4, 5, 6, 7] rfl ?_
    exact hk _ ⟨_, _, _, _, _, _, _, rfl, hI2⟩
  · refine j_aload_n hG 6 (dt dtL_law_14 19 rfl) rfl rfl ?_
    refine j_iconst hG (v := 0) (dt dtL_law_14 20 rfl) (by decide) ?_
    refine j_lald hG (dt dtL_law_14 21 rfl) ?_
    refine j_iload hG 0 (dt dtL_law_14 22 rfl) rfl ?_
    refine j_i2l hG (dt dtL_law_14 23 rfl) ?_
    rw [he q]
    refine j_lcmp hG (dt dtL_law_14 24 rfl) ?_
    rw [cmp_self]
    refine J_of (jl_if_eq hG (tgt := 1516) (dt dtL_law_14 25 rfl) (by decide) (fun _ => J_to ?_) (fun q => absurd rfl q))
    refine j_goto hG (tgt := 2270) (dt dtL_law_14 28 rfl) (by decide) ?_
    refine j_lv (lv' := lvM (gB G) b (nI c)) [2, 3, 4, 5, 6, 7] rfl ?_
    exact hk _ ⟨_, _, _, _, _, _, _, rfl, hI2⟩
set_option maxRecDepth 4000 in
theorem g_law_22 {G : wG} (hG : wOk G RL cL_law 9 10 282) {b L : Nat} {xs : Nat → Int32} (hS : LWS G b L xs) (hL : L ≤ 2560) {c : Nat} (hc : c + 4 < L) {d : mD} {T : mT} {X Y : wM} {o : Int64} {dd : UInt64} {t1 : Nat → Nat} (hI : INV d T X Y) {K S : Nat} (hk : ∀ σ, SI σ → J G 9 K S 2270 (lvM (gB G) b (nI c)) [] σ) : J G 9 (K + 32) (S + 7000) 1519 (lvM (gB G) b (nI c)) [] (X, Y, o, dd, (t1, [])) := by
  show J G 9 (K + 32) (S + 7000) 1519 [(5, .int (nI c)), (0, .ref b), (1, .ref (wad (gB G) 0)), (2, .ref (wad (gB G) 22)), (3, .ref (wad (gB G) 37)), (4, .ref (wad (gB G) 38))] [] _
  obtain ⟨Y2, res, v, k, hI2, hx, hy, hk2, hcd, hR, ho⟩ := oq_out (op_stateOf hI (xs (c + 1)))
  refine J.weak (kc := K + 1) (ks := S + 6) (by omega) (by omega) ?_
  refine j_aload_n hG 2 (dt dtL_law_14 29 rfl) rfl rfl ?_
  refine j_aload_n hG 1 (dt dtL_law_14 30 rfl) rfl rfl ?_
  refine j_iload hG 0 (dt dtL_law_14 31 rfl) rfl ?_
  refine j_iconst hG (v := 1) (dt dtL_law_14 32 rfl) (by decide) ?_
  refine j_iadd hG (dt dtL_law_14 33 rfl) ?_
  refine j_sld hG hS (c + 1) (nI_add c 1) (by omega) hL (dt dtL_law_14 34 rfl) ?_
  refine j_aload_n hG 4 (dt dtL_law_14 35 rfl) rfl rfl ?_
  refine j_callSH hG (kc := K + 0) (ks := S + 0) (ct_L_stateOf hG.2.2.1 (gB G) hx hcd) mh_L_stateOf ml_L_212 rfl (rest := []) rfl (Nat.le_of_ble_eq_true rfl) (dt dtL_law_14 36 rfl) (by decide) (by decide) (fun v9 σ2 q => ?_)
  obtain ⟨rfl, hq⟩ := ho _ _ _ _ q
  have hq2 : ∃ o2 : Int64, σ2 = (X, Y, o2, dd, (t1, [])) ∧ (k = 0 → o2 = v.toInt64) := by
    rcases hq with ⟨h1, rfl⟩ | ⟨h1, z, h2, rfl⟩
    · exact ⟨o, rfl, fun e => absurd e h1⟩
    · exact ⟨_, rfl, fun _ => by rw [h2]⟩
  obtain ⟨o2, rfl, he⟩ := hq2
  refine j_istore hG (lv' := [(6, .int k), (5, .int (nI c)), (0, .ref b), (1, .ref (wad (gB G) 0)), (2, .ref (wad (gB G) 22)), (3, .ref (wad (gB G) 37)), (4, .ref (wad (gB G) 38))]) (dt dtL_law_14 37 rfl) (by decide) rfl ?_
  refine j_aload_n hG 4 (dt dtL_law_14 38 rfl) rfl rfl ?_
  refine j_aload_n hG 2 (dt dtL_law_14 39 rfl) rfl rfl ?_
  refine j_iload hG 1 (dt dtL_law_14 40 rfl) rfl ?_
  refine j_iconst hG (v := 1) (dt dtL_law_14 41 rfl) (by decide) ?_
  refine j_iadd hG (dt dtL_law_14 42 rfl) ?_
  refine j_sld hG hS (c + 1) (nI_add c 1) (by omega) hL (dt dtL_law_14 43 rfl) ?_
  refine j_callV hG (kc := K) (ks := S) (ct_X8_stateOf hG.2.2.1 (gB G) _ _ _ _ _ hy) mf_X8_stateOf ml_L_214 22 (cv_22 _ _ _ _) rfl rfl (rest := []) rfl (Nat.le_of_ble_eq_true rfl) (dt dtL_law_14 44 rfl) (by decide) (by decide) (fun v9 σ2 q => ?_) (fun E σ2 q => q.elim)
  obtain ⟨rfl, rfl⟩ := q
  show J G 9 K S 1542 [(6, .int k), (5, .int (nI c)), (0, .ref b), (1, .ref (wad (gB G) 0)), (2, .ref (wad (gB G) 22)), (3, .ref (wad (gB G) 37)), (4, .ref (wad (gB G) 38))] [.int v] (X, Y2, o2, dd, (t1, []))
  refine j_istore hG (lv' := [(7, .int v), (6, .int k), (5, .int (nI c)), (0, .ref b), (1, .ref (wad (gB G) 0)), (2, .ref (wad (gB G) 22)), (3, .ref (wad (gB G) 37)), (4, .ref (wad (gB G) 38))]) (dt dtL_law_14 45 rfl) (by decide) rfl ?_
  refine j_aload_n hG 5 (dt dtL_law_14 46 rfl) rfl rfl ?_
  refine j_callV hG (kc := K) (ks := S) (ct_X8_thrown hG.2.2.1 (gB G) _ _ _ _ _ (show f_X8_thrown Y2 = some k from by rw [← hk2]; rfl)) mf_X8_thrown ml_L_138 22 (cv_22 _ _ _ _) rfl rfl (rest := []) rfl (Nat.le_of_ble_eq_true rfl) (dt dtL_law_14 47 rfl) (by decide) (by decide) (fun v9 σ2 q => ?_) (fun E σ2 q => q.elim)
  obtain ⟨rfl, rfl⟩ := q
  refine j_iload hG 1 (dt dtL_law_14 48 rfl) rfl ?_
  refine J_of (jl_icmp_eq hG (tgt := 1555) (dt dtL_law_14 49 rfl) (by decide) (fun _ => J_to ?_) (fun q => absurd rfl q))
  refine j_iload hG 1 (dt dtL_law_14 52 rfl) rfl ?_
  refine J_of (jl_if_ne hG (tgt := 1572) (dt dtL_law_14 53 rfl) (by decide) (fun q => J_to ?_) (fun q => J_to ?_))
  · refine j_goto hG (tgt := 2270) (dt dtL_law_15 3 rfl) (by decide) ?_
    refine j_lv (lv' := lvM (gB G) b (nI c)) [2, 3, 4, 5, 6, 7] rfl ?_
    exact hk _ ⟨_, _, _, _, _, _, _, rfl, hI2⟩
  · refine j_aload_n hG 6 (dt dtL_law_14 54 rfl) rfl rfl ?_
    refine j_iconst hG (v := 0) (dt dtL_law_14 55 rfl) (by decide) ?_
    refine j_lald hG (dt dtL_law_14 56 rfl) ?_
    refine j_iload hG 0 (dt dtL_law_14 57 rfl) rfl ?_
    refine j_i2l hG (dt dtL_law_14 58 rfl) ?_
    rw [he q]
    refine j_lcmp hG (dt dtL_law_14 59 rfl) ?_
    rw [cmp_self]
    refine J_of (jl_if_eq hG (tgt := 1572) (dt dtL_law_15 0 rfl) (by decide) (fun _ => J_to ?_) (fun q => absurd rfl q))
    refine j_goto hG (tgt := 2270) (dt dtL_law_15 3 rfl) (by decide) ?_
    refine j_lv (lv' := lvM (gB G) b (nI c)) [2, 3, 4, 5, 6, 7] rfl ?_
    exact hk _ ⟨_, _, _, _, _, _, _, rfl, hI2⟩
set_option maxRecDepth 4000 in
theorem g_law_23 {G : wG} (hG : wOk G RL cL_law 9 10 282) {b L : Nat} {xs : Nat → Int32} (hS : LWS G b L xs) (hL : L ≤ 2560) {c : Nat} (hc : c + 4 < L) {d : mD} {T : mT} {X Y : wM} {o : Int64} {dd : UInt64} {t1 : Nat → Nat} (hI : INV d T X Y) {K S : Nat} (hk : ∀ σ, SI σ → J G 9 K S 2270 (lvM (gB G) b (nI c)) [] σ) : J G 9 (K + 32) (S + 7000) 1575 (lvM (gB G) b (nI c)) [] (X, Y, o, dd, (t1, [])) := by
  show J G 9 (K + 32) (S + 7000) 1575 [(5, .int (nI c)), (0, .ref b), (1, .ref (wad (gB G) 0)), (2, .ref (wad (gB G) 22)), (3, .ref (wad (gB G) 37)), (4, .ref (wad (gB G) 38))] [] _
  obtain ⟨Y2, res, v, k, hI2, hx, hy, hk2, hcd, hR, ho⟩ := oq_out (op_isHidden2 hI (xs (c + 1)) (xs (c + 2)) (xs (c + 3)))
  refine J.weak (kc := K + 3) (ks := S + 18) (by omega) (by omega) ?_
  refine j_aload_n hG 2 (dt dtL_law_15 4 rfl) rfl rfl ?_
  refine j_aload_n hG 1 (dt dtL_law_15 5 rfl) rfl rfl ?_
  refine j_iload hG 0 (dt dtL_law_15 6 rfl) rfl ?_
  refine j_iconst hG (v := 1) (dt dtL_law_15 7 rfl) (by decide) ?_
  refine j_iadd hG (dt dtL_law_15 8 rfl) ?_
  refine j_sld hG hS (c + 1) (nI_add c 1) (by omega) hL (dt dtL_law_15 9 rfl) ?_
  refine j_aload_n hG 1 (dt dtL_law_15 10 rfl) rfl rfl ?_
  refine j_iload hG 0 (dt dtL_law_15 11 rfl) rfl ?_
  refine j_iconst hG (v := 2) (dt dtL_law_15 12 rfl) (by decide) ?_
  refine j_iadd hG (dt dtL_law_15 13 rfl) ?_
  refine j_sld hG hS (c + 2) (nI_add c 2) (by omega) hL (dt dtL_law_15 14 rfl) ?_
  refine j_aload_n hG 1 (dt dtL_law_15 15 rfl) rfl rfl ?_
  refine j_iload hG 0 (dt dtL_law_15 16 rfl) rfl ?_
  refine j_iconst hG (v := 3) (dt dtL_law_15 17 rfl) (by decide) ?_
  refine j_iadd hG (dt dtL_law_15 18 rfl) ?_
  refine j_sld hG hS (c + 3) (nI_add c 3) (by omega) hL (dt dtL_law_15 19 rfl) ?_
  refine j_aload_n hG 4 (dt dtL_law_15 20 rfl) rfl rfl ?_
  refine j_callSH hG (kc := K + 0) (ks := S + 0) (ct_L_isHidden hG.2.2.1 (gB G) hx hcd) mh_L_isHidden ml_L_215 rfl (rest := []) rfl (Nat.le_of_ble_eq_true rfl) (dt dtL_law_15 21 rfl) (by decide) (by decide) (fun v9 σ2 q => ?_)
  obtain ⟨rfl, hq⟩ := ho _ _ _ _ q
  have hq2 : ∃ o2 : Int64, σ2 = (X, Y, o2, dd, (t1, [])) ∧ (k = 0 → o2 = zL v) := by
    rcases hq with ⟨h1, rfl⟩ | ⟨h1, z, h2, rfl⟩
    · exact ⟨o, rfl, fun e => absurd e h1⟩
    · exact ⟨_, rfl, fun _ => by rw [h2]⟩
  obtain ⟨o2, rfl, he⟩ := hq2
  refine j_istore hG (lv' := [(6, .int k), (5, .int (nI c)), (0, .ref b), (1, .ref (wad (gB G) 0)), (2, .ref (wad (gB G) 22)), (3, .ref (wad (gB G) 37)), (4, .ref (wad (gB G) 38))]) (dt dtL_law_15 22 rfl) (by decide) rfl ?_
  refine j_aload_n hG 4 (dt dtL_law_15 23 rfl) rfl rfl ?_
  refine j_aload_n hG 2 (dt dtL_law_15 24 rfl) rfl rfl ?_
  refine j_iload hG 1 (dt dtL_law_15 25 rfl) rfl ?_
  refine j_iconst hG (v := 1) (dt dtL_law_15 26 rfl) (by decide) ?_
  refine j_iadd hG (dt dtL_law_15 27 rfl) ?_
  refine j_sld hG hS (c + 1) (nI_add c 1) (by omega) hL (dt dtL_law_15 28 rfl) ?_
  refine j_aload_n hG 2 (dt dtL_law_15 29 rfl) rfl rfl ?_
  refine j_iload hG 1 (dt dtL_law_15 30 rfl) rfl ?_
  refine j_iconst hG (v := 2) (dt dtL_law_15 31 rfl) (by decide) ?_
  refine j_iadd hG (dt dtL_law_15 32 rfl) ?_
  refine j_sld hG hS (c + 2) (nI_add c 2) (by omega) hL (dt dtL_law_15 33 rfl) ?_
  refine j_aload_n hG 2 (dt dtL_law_15 34 rfl) rfl rfl ?_
  refine j_iload hG 1 (dt dtL_law_15 35 rfl) rfl ?_
  refine j_iconst hG (v := 3) (dt dtL_law_15 36 rfl) (by decide) ?_
  refine j_iadd hG (dt dtL_law_15 37 rfl) ?_
  refine j_sld hG hS (c + 3) (nI_add c 3) (by omega) hL (dt dtL_law_15 38 rfl) ?_
  refine j_callV hG (kc := K) (ks := S) (ct_X8_isHidden hG.2.2.1 (gB G) _ _ _ _ _ hy) mf_X8_isHidden ml_L_218 22 (cv_22 _ _ _ _) rfl rfl (rest := []) rfl (Nat.le_of_ble_eq_true rfl) (dt dtL_law_15 39 rfl) (by decide) (by decide) (fun v9 σ2 q => ?_) (fun E σ2 q => q.elim)
  obtain ⟨rfl, rfl⟩ := q
  show J G 9 K S 1622 [(6, .int k), (5, .int (nI c)), (0, .ref b), (1, .ref (wad (gB G) 0)), (2, .ref (wad (gB G) 22)), (3, .ref (wad (gB G) 37)), (4, .ref (wad (gB G) 38))] [.int v] (X, Y2, o2, dd, (t1, []))
  refine j_istore hG (lv' := [(7, .int v), (6, .int k), (5, .int (nI c)), (0, .ref b), (1, .ref (wad (gB G) 0)), (2, .ref (wad (gB G) 22)), (3, .ref (wad (gB G) 37)), (4, .ref (wad (gB G) 38))]) (dt dtL_law_15 40 rfl) (by decide) rfl ?_
  refine j_aload_n hG 5 (dt dtL_law_15 41 rfl) rfl rfl ?_
  refine j_callV hG (kc := K) (ks := S) (ct_X8_thrown hG.2.2.1 (gB G) _ _ _ _ _ (show f_X8_thrown Y2 = some k from by rw [← hk2]; rfl)) mf_X8_thrown ml_L_138 22 (cv_22 _ _ _ _) rfl rfl (rest := []) rfl (Nat.le_of_ble_eq_true rfl) (dt dtL_law_15 42 rfl) (by decide) (by decide) (fun v9 σ2 q => ?_) (fun E σ2 q => q.elim)
  obtain ⟨rfl, rfl⟩ := q
  refine j_iload hG 1 (dt dtL_law_15 43 rfl) rfl ?_
  refine J_of (jl_icmp_eq hG (tgt := 1635) (dt dtL_law_15 44 rfl) (by decide) (fun _ => J_to ?_) (fun q => absurd rfl q))
  refine j_iload hG 1 (dt dtL_law_15 47 rfl) rfl ?_
  refine J_of (jl_if_ne hG (tgt := 1659) (dt dtL_law_15 48 rfl) (by decide) (fun q => J_to ?_) (fun q => J_to ?_))
  · refine j_goto hG (tgt := 2270) (dt dtL_law_16 1 rfl) (by decide) ?_
    refine j_lv (lv' := lvM (gB G) b (nI c)) [2, 3, 4, 5, 6, 7] rfl ?_
    exact hk _ ⟨_, _, _, _, _, _, _, rfl, hI2⟩
  · refine j_aload_n hG 6 (dt dtL_law_15 49 rfl) rfl rfl ?_
    refine j_iconst hG (v := 0) (dt dtL_law_15 50 rfl) (by decide) ?_
    refine j_lald hG (dt dtL_law_15 51 rfl) ?_
    refine j_iload hG 0 (dt dtL_law_15 52 rfl) rfl ?_
    rw [he q]
    refine J_of (jl_if_eq hG (tgt := 1652) (dt dtL_law_15 53 rfl) (by decide) (fun q2 => J_to ?_) (fun q2 => J_to ?_))
    · refine j_lconst hG (v := 0) (dt dtL_law_15 56 rfl) (by decide) ?_
      rw [show zL v = 0 from if_pos q2] at he ⊢
      refine j_lcmp hG (dt dtL_law_15 57 rfl) ?_
      rw [cmp_self]
      refine J_of (jl_if_eq hG (tgt := 1659) (dt dtL_law_15 58 rfl) (by decide) (fun _ => J_to ?_) (fun q => absurd rfl q))
      refine j_goto hG (tgt := 2270) (dt dtL_law_16 1 rfl) (by decide) ?_
      refine j_lv (lv' := lvM (gB G) b (nI c)) [2, 3, 4, 5, 6, 7] rfl ?_
      exact hk _ ⟨_, _, _, _, _, _, _, rfl, hI2⟩
    · refine j_lconst hG (v := 1) (dt dtL_law_15 54 rfl) (by decide) ?_
      refine j_goto hG (tgt := 1653) (dt dtL_law_15 55 rfl) (by decide) ?_
      rw [show zL v = 1 from if_neg q2] at he ⊢
      refine j_lcmp hG (dt dtL_law_15 57 rfl) ?_
      rw [cmp_self]
      refine J_of (jl_if_eq hG (tgt := 1659) (dt dtL_law_15 58 rfl) (by decide) (fun _ => J_to ?_) (fun q => absurd rfl q))
      refine j_goto hG (tgt := 2270) (dt dtL_law_16 1 rfl) (by decide) ?_
      refine j_lv (lv' := lvM (gB G) b (nI c)) [2, 3, 4, 5, 6, 7] rfl ?_
      exact hk _ ⟨_, _, _, _, _, _, _, rfl, hI2⟩
set_option maxRecDepth 4000 in
theorem g_law_24 {G : wG} (hG : wOk G RL cL_law 9 10 282) {b L : Nat} {xs : Nat → Int32} (hS : LWS G b L xs) (hL : L ≤ 2560) {c : Nat} (hc : c + 4 < L) {d : mD} {T : mT} {X Y : wM} {o : Int64} {dd : UInt64} {t1 : Nat → Nat} (hI : INV d T X Y) {K S : Nat} (hk : ∀ σ, SI σ → J G 9 K S 2270 (lvM (gB G) b (nI c)) [] σ) : J G 9 (K + 32) (S + 7000) 1662 (lvM (gB G) b (nI c)) [] (X, Y, o, dd, (t1, [])) := by
  show J G 9 (K + 32) (S + 7000) 1662 [(5, .int (nI c)), (0, .ref b), (1, .ref (wad (gB G) 0)), (2, .ref (wad (gB G) 22)), (3, .ref (wad (gB G) 37)), (4, .ref (wad (gB G) 38))] [] _
  obtain ⟨Y2, res, v, k, hI2, hx, hy, hk2, hcd, hR, ho⟩ := oq_out (op_cell hI (xs (c + 1)) (xs (c + 2)) (xs (c + 3)))
  refine J.weak (kc := K + 4) (ks := S + 24) (by omega) (by omega) ?_
  refine j_aload_n hG 2 (dt dtL_law_16 2 rfl) rfl rfl ?_
  refine j_aload_n hG 1 (dt dtL_law_16 3 rfl) rfl rfl ?_
  refine j_iload hG 0 (dt dtL_law_16 4 rfl) rfl ?_
  refine j_iconst hG (v := 1) (dt dtL_law_16 5 rfl) (by decide) ?_
  refine j_iadd hG (dt dtL_law_16 6 rfl) ?_
  refine j_sld hG hS (c + 1) (nI_add c 1) (by omega) hL (dt dtL_law_16 7 rfl) ?_
  refine j_aload_n hG 1 (dt dtL_law_16 8 rfl) rfl rfl ?_
  refine j_iload hG 0 (dt dtL_law_16 9 rfl) rfl ?_
  refine j_iconst hG (v := 2) (dt dtL_law_16 10 rfl) (by decide) ?_
  refine j_iadd hG (dt dtL_law_16 11 rfl) ?_
  refine j_sld hG hS (c + 2) (nI_add c 2) (by omega) hL (dt dtL_law_16 12 rfl) ?_
  refine j_aload_n hG 1 (dt dtL_law_16 13 rfl) rfl rfl ?_
  refine j_iload hG 0 (dt dtL_law_16 14 rfl) rfl ?_
  refine j_iconst hG (v := 3) (dt dtL_law_16 15 rfl) (by decide) ?_
  refine j_iadd hG (dt dtL_law_16 16 rfl) ?_
  refine j_sld hG hS (c + 3) (nI_add c 3) (by omega) hL (dt dtL_law_16 17 rfl) ?_
  refine j_aload_n hG 4 (dt dtL_law_16 18 rfl) rfl rfl ?_
  refine j_callSH hG (kc := K + 0) (ks := S + 0) (ct_L_cell hG.2.2.1 (gB G) hx hcd) mh_L_cell ml_L_219 rfl (rest := []) rfl (Nat.le_of_ble_eq_true rfl) (dt dtL_law_16 19 rfl) (by decide) (by decide) (fun v9 σ2 q => ?_)
  obtain ⟨rfl, hq⟩ := ho _ _ _ _ q
  have hq2 : ∃ o2 : Int64, σ2 = (X, Y, o2, dd, (t1, [])) ∧ (k = 0 → o2 = v.toInt64) := by
    rcases hq with ⟨h1, rfl⟩ | ⟨h1, z, h2, rfl⟩
    · exact ⟨o, rfl, fun e => absurd e h1⟩
    · exact ⟨_, rfl, fun _ => by rw [h2]⟩
  obtain ⟨o2, rfl, he⟩ := hq2
  refine j_istore hG (lv' := [(6, .int k), (5, .int (nI c)), (0, .ref b), (1, .ref (wad (gB G) 0)), (2, .ref (wad (gB G) 22)), (3, .ref (wad (gB G) 37)), (4, .ref (wad (gB G) 38))]) (dt dtL_law_16 20 rfl) (by decide) rfl ?_
  refine j_aload_n hG 4 (dt dtL_law_16 21 rfl) rfl rfl ?_
  refine j_aload_n hG 2 (dt dtL_law_16 22 rfl) rfl rfl ?_
  refine j_iload hG 1 (dt dtL_law_16 23 rfl) rfl ?_
  refine j_iconst hG (v := 1) (dt dtL_law_16 24 rfl) (by decide) ?_
  refine j_iadd hG (dt dtL_law_16 25 rfl) ?_
  refine j_sld hG hS (c + 1) (nI_add c 1) (by omega) hL (dt dtL_law_16 26 rfl) ?_
  refine j_aload_n hG 2 (dt dtL_law_16 27 rfl) rfl rfl ?_
  refine j_iload hG 1 (dt dtL_law_16 28 rfl) rfl ?_
  refine j_iconst hG (v := 2) (dt dtL_law_16 29 rfl) (by decide) ?_
  refine j_iadd hG (dt dtL_law_16 30 rfl) ?_
  refine j_sld hG hS (c + 2) (nI_add c 2) (by omega) hL (dt dtL_law_16 31 rfl) ?_
  refine j_aload_n hG 2 (dt dtL_law_16 32 rfl) rfl rfl ?_
  refine j_iload hG 1 (dt dtL_law_16 33 rfl) rfl ?_
  refine j_iconst hG (v := 3) (dt dtL_law_16 34 rfl) (by decide) ?_
  refine j_iadd hG (dt dtL_law_16 35 rfl) ?_
  refine j_sld hG hS (c + 3) (nI_add c 3) (by omega) hL (dt dtL_law_16 36 rfl) ?_
  refine j_callV hG (kc := K) (ks := S) (ct_X8_cell hG.2.2.1 (gB G) _ _ _ _ _ hy) mf_X8_cell ml_L_221 22 (cv_22 _ _ _ _) rfl rfl (rest := []) rfl (Nat.le_of_ble_eq_true rfl) (dt dtL_law_16 37 rfl) (by decide) (by decide) (fun v9 σ2 q => ?_) (fun E σ2 q => q.elim)
  obtain ⟨rfl, rfl⟩ := q
  show J G 9 K S 1709 [(6, .int k), (5, .int (nI c)), (0, .ref b), (1, .ref (wad (gB G) 0)), (2, .ref (wad (gB G) 22)), (3, .ref (wad (gB G) 37)), (4, .ref (wad (gB G) 38))] [.int v] (X, Y2, o2, dd, (t1, []))
  refine j_istore hG (lv' := [(7, .int v), (6, .int k), (5, .int (nI c)), (0, .ref b), (1, .ref (wad (gB G) 0)), (2, .ref (wad (gB G) 22)), (3, .ref (wad (gB G) 37)), (4, .ref (wad (gB G) 38))]) (dt dtL_law_16 38 rfl) (by decide) rfl ?_
  refine j_aload_n hG 5 (dt dtL_law_16 39 rfl) rfl rfl ?_
  refine j_callV hG (kc := K) (ks := S) (ct_X8_thrown hG.2.2.1 (gB G) _ _ _ _ _ (show f_X8_thrown Y2 = some k from by rw [← hk2]; rfl)) mf_X8_thrown ml_L_138 22 (cv_22 _ _ _ _) rfl rfl (rest := []) rfl (Nat.le_of_ble_eq_true rfl) (dt dtL_law_16 40 rfl) (by decide) (by decide) (fun v9 σ2 q => ?_) (fun E σ2 q => q.elim)
  obtain ⟨rfl, rfl⟩ := q
  refine j_iload hG 1 (dt dtL_law_16 41 rfl) rfl ?_
  refine J_of (jl_icmp_eq hG (tgt := 1722) (dt dtL_law_16 42 rfl) (by decide) (fun _ => J_to ?_) (fun q => absurd rfl q))
  refine j_iload hG 1 (dt dtL_law_16 45 rfl) rfl ?_
  refine J_of (jl_if_ne hG (tgt := 1739) (dt dtL_law_16 46 rfl) (by decide) (fun q => J_to ?_) (fun q => J_to ?_))
  · refine j_goto hG (tgt := 2270) (dt dtL_law_16 56 rfl) (by decide) ?_
    refine j_lv (lv' := lvM (gB G) b (nI c)) [2, 3, 4, 5, 6, 7] rfl ?_
    exact hk _ ⟨_, _, _, _, _, _, _, rfl, hI2⟩
  · refine j_aload_n hG 6 (dt dtL_law_16 47 rfl) rfl rfl ?_
    refine j_iconst hG (v := 0) (dt dtL_law_16 48 rfl) (by decide) ?_
    refine j_lald hG (dt dtL_law_16 49 rfl) ?_
    refine j_iload hG 0 (dt dtL_law_16 50 rfl) rfl ?_
    refine j_i2l hG (dt dtL_law_16 51 rfl) ?_
    rw [he q]
    refine j_lcmp hG (dt dtL_law_16 52 rfl) ?_
    rw [cmp_self]
    refine J_of (jl_if_eq hG (tgt := 1739) (dt dtL_law_16 53 rfl) (by decide) (fun _ => J_to ?_) (fun q => absurd rfl q))
    refine j_goto hG (tgt := 2270) (dt dtL_law_16 56 rfl) (by decide) ?_
    refine j_lv (lv' := lvM (gB G) b (nI c)) [2, 3, 4, 5, 6, 7] rfl ?_
    exact hk _ ⟨_, _, _, _, _, _, _, rfl, hI2⟩
set_option maxRecDepth 4000 in
theorem g_law_25 {G : wG} (hG : wOk G RL cL_law 9 10 282) {b L : Nat} {xs : Nat → Int32} (hS : LWS G b L xs) (hL : L ≤ 2560) {c : Nat} (hc : c + 4 < L) {d : mD} {T : mT} {X Y : wM} {o : Int64} {dd : UInt64} {t1 : Nat → Nat} (hI : INV d T X Y) {K S : Nat} (hk : ∀ σ, SI σ → J G 9 K S 2270 (lvM (gB G) b (nI c)) [] σ) : J G 9 (K + 32) (S + 7000) 1742 (lvM (gB G) b (nI c)) [] (X, Y, o, dd, (t1, [])) := by
  show J G 9 (K + 32) (S + 7000) 1742 [(5, .int (nI c)), (0, .ref b), (1, .ref (wad (gB G) 0)), (2, .ref (wad (gB G) 22)), (3, .ref (wad (gB G) 37)), (4, .ref (wad (gB G) 38))] [] _
  obtain ⟨Y2, res, v, k, hI2, hx, hy, hk2, hcd, hR, ho⟩ := oq_out (op_blockSum hI (xs (c + 1)) (xs (c + 2)))
  refine J.weak (kc := K + 2) (ks := S + 12) (by omega) (by omega) ?_
  refine j_aload_n hG 2 (dt dtL_law_16 57 rfl) rfl rfl ?_
  refine j_aload_n hG 1 (dt dtL_law_16 58 rfl) rfl rfl ?_
  refine j_iload hG 0 (dt dtL_law_16 59 rfl) rfl ?_
  refine j_iconst hG (v := 1) (dt dtL_law_17 0 rfl) (by decide) ?_
  refine j_iadd hG (dt dtL_law_17 1 rfl) ?_
  refine j_sld hG hS (c + 1) (nI_add c 1) (by omega) hL (dt dtL_law_17 2 rfl) ?_
  refine j_aload_n hG 1 (dt dtL_law_17 3 rfl) rfl rfl ?_
  refine j_iload hG 0 (dt dtL_law_17 4 rfl) rfl ?_
  refine j_iconst hG (v := 2) (dt dtL_law_17 5 rfl) (by decide) ?_
  refine j_iadd hG (dt dtL_law_17 6 rfl) ?_
  refine j_sld hG hS (c + 2) (nI_add c 2) (by omega) hL (dt dtL_law_17 7 rfl) ?_
  refine j_aload_n hG 4 (dt dtL_law_17 8 rfl) rfl rfl ?_
  refine j_callSH hG (kc := K + 0) (ks := S + 0) (ct_L_blockSum hG.2.2.1 (gB G) hx hcd) mh_L_blockSum ml_L_222 rfl (rest := []) rfl (Nat.le_of_ble_eq_true rfl) (dt dtL_law_17 9 rfl) (by decide) (by decide) (fun v9 σ2 q => ?_)
  obtain ⟨rfl, hq⟩ := ho _ _ _ _ q
  have hq2 : ∃ o2 : Int64, σ2 = (X, Y, o2, dd, (t1, [])) ∧ (k = 0 → o2 = v.toInt64) := by
    rcases hq with ⟨h1, rfl⟩ | ⟨h1, z, h2, rfl⟩
    · exact ⟨o, rfl, fun e => absurd e h1⟩
    · exact ⟨_, rfl, fun _ => by rw [h2]⟩
  obtain ⟨o2, rfl, he⟩ := hq2
  refine j_istore hG (lv' := [(6, .int k), (5, .int (nI c)), (0, .ref b), (1, .ref (wad (gB G) 0)), (2, .ref (wad (gB G) 22)), (3, .ref (wad (gB G) 37)), (4, .ref (wad (gB G) 38))]) (dt dtL_law_17 10 rfl) (by decide) rfl ?_
  refine j_aload_n hG 4 (dt dtL_law_17 11 rfl) rfl rfl ?_
  refine j_aload_n hG 2 (dt dtL_law_17 12 rfl) rfl rfl ?_
  refine j_iload hG 1 (dt dtL_law_17 13 rfl) rfl ?_
  refine j_iconst hG (v := 1) (dt dtL_law_17 14 rfl) (by decide) ?_
  refine j_iadd hG (dt dtL_law_17 15 rfl) ?_
  refine j_sld hG hS (c + 1) (nI_add c 1) (by omega) hL (dt dtL_law_17 16 rfl) ?_
  refine j_aload_n hG 2 (dt dtL_law_17 17 rfl) rfl rfl ?_
  refine j_iload hG 1 (dt dtL_law_17 18 rfl) rfl ?_
  refine j_iconst hG (v := 2) (dt dtL_law_17 19 rfl) (by decide) ?_
  refine j_iadd hG (dt dtL_law_17 20 rfl) ?_
  refine j_sld hG hS (c + 2) (nI_add c 2) (by omega) hL (dt dtL_law_17 21 rfl) ?_
  refine j_callV hG (kc := K) (ks := S) (ct_X8_blockSum hG.2.2.1 (gB G) _ _ _ _ _ hy) mf_X8_blockSum ml_L_224 22 (cv_22 _ _ _ _) rfl rfl (rest := []) rfl (Nat.le_of_ble_eq_true rfl) (dt dtL_law_17 22 rfl) (by decide) (by decide) (fun v9 σ2 q => ?_) (fun E σ2 q => q.elim)
  obtain ⟨rfl, rfl⟩ := q
  show J G 9 K S 1777 [(6, .int k), (5, .int (nI c)), (0, .ref b), (1, .ref (wad (gB G) 0)), (2, .ref (wad (gB G) 22)), (3, .ref (wad (gB G) 37)), (4, .ref (wad (gB G) 38))] [.int v] (X, Y2, o2, dd, (t1, []))
  refine j_istore hG (lv' := [(7, .int v), (6, .int k), (5, .int (nI c)), (0, .ref b), (1, .ref (wad (gB G) 0)), (2, .ref (wad (gB G) 22)), (3, .ref (wad (gB G) 37)), (4, .ref (wad (gB G) 38))]) (dt dtL_law_17 23 rfl) (by decide) rfl ?_
  refine j_aload_n hG 5 (dt dtL_law_17 24 rfl) rfl rfl ?_
  refine j_callV hG (kc := K) (ks := S) (ct_X8_thrown hG.2.2.1 (gB G) _ _ _ _ _ (show f_X8_thrown Y2 = some k from by rw [← hk2]; rfl)) mf_X8_thrown ml_L_138 22 (cv_22 _ _ _ _) rfl rfl (rest := []) rfl (Nat.le_of_ble_eq_true rfl) (dt dtL_law_17 25 rfl) (by decide) (by decide) (fun v9 σ2 q => ?_) (fun E σ2 q => q.elim)
  obtain ⟨rfl, rfl⟩ := q
  refine j_iload hG 1 (dt dtL_law_17 26 rfl) rfl ?_
  refine J_of (jl_icmp_eq hG (tgt := 1790) (dt dtL_law_17 27 rfl) (by decide) (fun _ => J_to ?_) (fun q => absurd rfl q))
  refine j_iload hG 1 (dt dtL_law_17 30 rfl) rfl ?_
  refine J_of (jl_if_ne hG (tgt := 1807) (dt dtL_law_17 31 rfl) (by decide) (fun q => J_to ?_) (fun q => J_to ?_))
  · refine j_goto hG (tgt := 2270) (dt dtL_law_17 41 rfl) (by decide) ?_
    refine j_lv (lv' := lvM (gB G) b (nI c)) [2, 3, 4, 5, 6, 7] rfl ?_
    exact hk _ ⟨_, _, _, _, _, _, _, rfl, hI2⟩
  · refine j_aload_n hG 6 (dt dtL_law_17 32 rfl) rfl rfl ?_
    refine j_iconst hG (v := 0) (dt dtL_law_17 33 rfl) (by decide) ?_
    refine j_lald hG (dt dtL_law_17 34 rfl) ?_
    refine j_iload hG 0 (dt dtL_law_17 35 rfl) rfl ?_
    refine j_i2l hG (dt dtL_law_17 36 rfl) ?_
    rw [he q]
    refine j_lcmp hG (dt dtL_law_17 37 rfl) ?_
    rw [cmp_self]
    refine J_of (jl_if_eq hG (tgt := 1807) (dt dtL_law_17 38 rfl) (by decide) (fun _ => J_to ?_) (fun q => absurd rfl q))
    refine j_goto hG (tgt := 2270) (dt dtL_law_17 41 rfl) (by decide) ?_
    refine j_lv (lv' := lvM (gB G) b (nI c)) [2, 3, 4, 5, 6, 7] rfl ?_
    exact hk _ ⟨_, _, _, _, _, _, _, rfl, hI2⟩
set_option maxRecDepth 4000 in
theorem g_law_26 {G : wG} (hG : wOk G RL cL_law 9 10 282) {b L : Nat} {xs : Nat → Int32} (hS : LWS G b L xs) (hL : L ≤ 2560) {c : Nat} (hc : c + 4 < L) {d : mD} {T : mT} {X Y : wM} {o : Int64} {dd : UInt64} {t1 : Nat → Nat} (hI : INV d T X Y) {K S : Nat} (hk : ∀ σ, SI σ → J G 9 K S 2270 (lvM (gB G) b (nI c)) [] σ) : J G 9 (K + 32) (S + 7000) 1810 (lvM (gB G) b (nI c)) [] (X, Y, o, dd, (t1, [])) := by
  show J G 9 (K + 32) (S + 7000) 1810 [(5, .int (nI c)), (0, .ref b), (1, .ref (wad (gB G) 0)), (2, .ref (wad (gB G) 22)), (3, .ref (wad (gB G) 37)), (4, .ref (wad (gB G) 38))] [] _
  obtain ⟨Y2, res, v, k, hI2, hx, hy, hk2, hcd, hR, ho⟩ := oq_out (op_groupSum hI (xs (c + 1)) (xs (c + 2)))
  refine J.weak (kc := K + 2) (ks := S + 12) (by omega) (by omega) ?_
  refine j_aload_n hG 2 (dt dtL_law_17 42 rfl) rfl rfl ?_
  refine j_aload_n hG 1 (dt dtL_law_17 43 rfl) rfl rfl ?_
  refine j_iload hG 0 (dt dtL_law_17 44 rfl) rfl ?_
  refine j_iconst hG (v := 1) (dt dtL_law_17 45 rfl) (by decide) ?_
  refine j_iadd hG (dt dtL_law_17 46 rfl) ?_
  refine j_sld hG hS (c + 1) (nI_add c 1) (by omega) hL (dt dtL_law_17 47 rfl) ?_
  refine j_aload_n hG 1 (dt dtL_law_17 48 rfl) rfl rfl ?_
  refine j_iload hG 0 (dt dtL_law_17 49 rfl) rfl ?_
  refine j_iconst hG (v := 2) (dt dtL_law_17 50 rfl) (by decide) ?_
  refine j_iadd hG (dt dtL_law_17 51 rfl) ?_
  refine j_sld hG hS (c + 2) (nI_add c 2) (by omega) hL (dt dtL_law_17 52 rfl) ?_
  refine j_aload_n hG 4 (dt dtL_law_17 53 rfl) rfl rfl ?_
  refine j_callSH hG (kc := K + 0) (ks := S + 0) (ct_L_groupSum hG.2.2.1 (gB G) hx hcd) mh_L_groupSum ml_L_225 rfl (rest := []) rfl (Nat.le_of_ble_eq_true rfl) (dt dtL_law_17 54 rfl) (by decide) (by decide) (fun v9 σ2 q => ?_)
  obtain ⟨rfl, hq⟩ := ho _ _ _ _ q
  have hq2 : ∃ o2 : Int64, σ2 = (X, Y, o2, dd, (t1, [])) ∧ (k = 0 → o2 = v.toInt64) := by
    rcases hq with ⟨h1, rfl⟩ | ⟨h1, z, h2, rfl⟩
    · exact ⟨o, rfl, fun e => absurd e h1⟩
    · exact ⟨_, rfl, fun _ => by rw [h2]⟩
  obtain ⟨o2, rfl, he⟩ := hq2
  refine j_istore hG (lv' := [(6, .int k), (5, .int (nI c)), (0, .ref b), (1, .ref (wad (gB G) 0)), (2, .ref (wad (gB G) 22)), (3, .ref (wad (gB G) 37)), (4, .ref (wad (gB G) 38))]) (dt dtL_law_17 55 rfl) (by decide) rfl ?_
  refine j_aload_n hG 4 (dt dtL_law_17 56 rfl) rfl rfl ?_
  refine j_aload_n hG 2 (dt dtL_law_17 57 rfl) rfl rfl ?_
  refine j_iload hG 1 (dt dtL_law_17 58 rfl) rfl ?_
  refine j_iconst hG (v := 1) (dt dtL_law_17 59 rfl) (by decide) ?_
  refine j_iadd hG (dt dtL_law_18 0 rfl) ?_
  refine j_sld hG hS (c + 1) (nI_add c 1) (by omega) hL (dt dtL_law_18 1 rfl) ?_
  refine j_aload_n hG 2 (dt dtL_law_18 2 rfl) rfl rfl ?_
  refine j_iload hG 1 (dt dtL_law_18 3 rfl) rfl ?_
  refine j_iconst hG (v := 2) (dt dtL_law_18 4 rfl) (by decide) ?_
  refine j_iadd hG (dt dtL_law_18 5 rfl) ?_
  refine j_sld hG hS (c + 2) (nI_add c 2) (by omega) hL (dt dtL_law_18 6 rfl) ?_
  refine j_callV hG (kc := K) (ks := S) (ct_X8_groupSum hG.2.2.1 (gB G) _ _ _ _ _ hy) mf_X8_groupSum ml_L_227 22 (cv_22 _ _ _ _) rfl rfl (rest := []) rfl (Nat.le_of_ble_eq_true rfl) (dt dtL_law_18 7 rfl) (by decide) (by decide) (fun v9 σ2 q => ?_) (fun E σ2 q => q.elim)
  obtain ⟨rfl, rfl⟩ := q
  show J G 9 K S 1845 [(6, .int k), (5, .int (nI c)), (0, .ref b), (1, .ref (wad (gB G) 0)), (2, .ref (wad (gB G) 22)), (3, .ref (wad (gB G) 37)), (4, .ref (wad (gB G) 38))] [.int v] (X, Y2, o2, dd, (t1, []))
  refine j_istore hG (lv' := [(7, .int v), (6, .int k), (5, .int (nI c)), (0, .ref b), (1, .ref (wad (gB G) 0)), (2, .ref (wad (gB G) 22)), (3, .ref (wad (gB G) 37)), (4, .ref (wad (gB G) 38))]) (dt dtL_law_18 8 rfl) (by decide) rfl ?_
  refine j_aload_n hG 5 (dt dtL_law_18 9 rfl) rfl rfl ?_
  refine j_callV hG (kc := K) (ks := S) (ct_X8_thrown hG.2.2.1 (gB G) _ _ _ _ _ (show f_X8_thrown Y2 = some k from by rw [← hk2]; rfl)) mf_X8_thrown ml_L_138 22 (cv_22 _ _ _ _) rfl rfl (rest := []) rfl (Nat.le_of_ble_eq_true rfl) (dt dtL_law_18 10 rfl) (by decide) (by decide) (fun v9 σ2 q => ?_) (fun E σ2 q => q.elim)
  obtain ⟨rfl, rfl⟩ := q
  refine j_iload hG 1 (dt dtL_law_18 11 rfl) rfl ?_
  refine J_of (jl_icmp_eq hG (tgt := 1858) (dt dtL_law_18 12 rfl) (by decide) (fun _ => J_to ?_) (fun q => absurd rfl q))
  refine j_iload hG 1 (dt dtL_law_18 15 rfl) rfl ?_
  refine J_of (jl_if_ne hG (tgt := 1875) (dt dtL_law_18 16 rfl) (by decide) (fun q => J_to ?_) (fun q => J_to ?_))
  · refine j_goto hG (tgt := 2270) (dt dtL_law_18 26 rfl) (by decide) ?_
    refine j_lv (lv' := lvM (gB G) b (nI c)) [2, 3, 4, 5, 6, 7] rfl ?_
    exact hk _ ⟨_, _, _, _, _, _, _, rfl, hI2⟩
  · refine j_aload_n hG 6 (dt dtL_law_18 17 rfl) rfl rfl ?_
    refine j_iconst hG (v := 0) (dt dtL_law_18 18 rfl) (by decide) ?_
    refine j_lald hG (dt dtL_law_18 19 rfl) ?_
    refine j_iload hG 0 (dt dtL_law_18 20 rfl) rfl ?_
    refine j_i2l hG (dt dtL_law_18 21 rfl) ?_
    rw [he q]
    refine j_lcmp hG (dt dtL_law_18 22 rfl) ?_
    rw [cmp_self]
    refine J_of (jl_if_eq hG (tgt := 1875) (dt dtL_law_18 23 rfl) (by decide) (fun _ => J_to ?_) (fun q => absurd rfl q))
    refine j_goto hG (tgt := 2270) (dt dtL_law_18 26 rfl) (by decide) ?_
    refine j_lv (lv' := lvM (gB G) b (nI c)) [2, 3, 4, 5, 6, 7] rfl ?_
    exact hk _ ⟨_, _, _, _, _, _, _, rfl, hI2⟩
set_option maxRecDepth 4000 in
theorem g_law_27 {G : wG} (hG : wOk G RL cL_law 9 10 282) {b L : Nat} {xs : Nat → Int32} (hS : LWS G b L xs) (hL : L ≤ 2560) {c : Nat} (hc : c + 4 < L) {d : mD} {T : mT} {X Y : wM} {o : Int64} {dd : UInt64} {t1 : Nat → Nat} (hI : INV d T X Y) {K S : Nat} (hk : ∀ σ, SI σ → J G 9 K S 2270 (lvM (gB G) b (nI c)) [] σ) : J G 9 (K + 32) (S + 7000) 1878 (lvM (gB G) b (nI c)) [] (X, Y, o, dd, (t1, [])) := by
  show J G 9 (K + 32) (S + 7000) 1878 [(5, .int (nI c)), (0, .ref b), (1, .ref (wad (gB G) 0)), (2, .ref (wad (gB G) 22)), (3, .ref (wad (gB G) 37)), (4, .ref (wad (gB G) 38))] [] _
  obtain ⟨Y2, res, v, k, hI2, hx, hy, hk2, hcd, hR, ho⟩ := oq_out (op_holes hI (xs (c + 1)))
  refine J.weak (kc := K + 1) (ks := S + 6) (by omega) (by omega) ?_
  refine j_aload_n hG 2 (dt dtL_law_18 27 rfl) rfl rfl ?_
  refine j_aload_n hG 1 (dt dtL_law_18 28 rfl) rfl rfl ?_
  refine j_iload hG 0 (dt dtL_law_18 29 rfl) rfl ?_
  refine j_iconst hG (v := 1) (dt dtL_law_18 30 rfl) (by decide) ?_
  refine j_iadd hG (dt dtL_law_18 31 rfl) ?_
  refine j_sld hG hS (c + 1) (nI_add c 1) (by omega) hL (dt dtL_law_18 32 rfl) ?_
  refine j_aload_n hG 4 (dt dtL_law_18 33 rfl) rfl rfl ?_
  refine j_callSH hG (kc := K + 0) (ks := S + 0) (ct_L_holes hG.2.2.1 (gB G) hx hcd) mh_L_holes ml_L_228 rfl (rest := []) rfl (Nat.le_of_ble_eq_true rfl) (dt dtL_law_18 34 rfl) (by decide) (by decide) (fun v9 σ2 q => ?_)
  obtain ⟨rfl, hq⟩ := ho _ _ _ _ q
  have hq2 : ∃ o2 : Int64, σ2 = (X, Y, o2, dd, (t1, [])) ∧ (k = 0 → o2 = v.toInt64) := by
    rcases hq with ⟨h1, rfl⟩ | ⟨h1, z, h2, rfl⟩
    · exact ⟨o, rfl, fun e => absurd e h1⟩
    · exact ⟨_, rfl, fun _ => by rw [h2]⟩
  obtain ⟨o2, rfl, he⟩ := hq2
  refine j_istore hG (lv' := [(6, .int k), (5, .int (nI c)), (0, .ref b), (1, .ref (wad (gB G) 0)), (2, .ref (wad (gB G) 22)), (3, .ref (wad (gB G) 37)), (4, .ref (wad (gB G) 38))]) (dt dtL_law_18 35 rfl) (by decide) rfl ?_
  refine j_aload_n hG 4 (dt dtL_law_18 36 rfl) rfl rfl ?_
  refine j_aload_n hG 2 (dt dtL_law_18 37 rfl) rfl rfl ?_
  refine j_iload hG 1 (dt dtL_law_18 38 rfl) rfl ?_
  refine j_iconst hG (v := 1) (dt dtL_law_18 39 rfl) (by decide) ?_
  refine j_iadd hG (dt dtL_law_18 40 rfl) ?_
  refine j_sld hG hS (c + 1) (nI_add c 1) (by omega) hL (dt dtL_law_18 41 rfl) ?_
  refine j_callV hG (kc := K) (ks := S) (ct_X8_holes hG.2.2.1 (gB G) _ _ _ _ _ hy) mf_X8_holes ml_L_230 22 (cv_22 _ _ _ _) rfl rfl (rest := []) rfl (Nat.le_of_ble_eq_true rfl) (dt dtL_law_18 42 rfl) (by decide) (by decide) (fun v9 σ2 q => ?_) (fun E σ2 q => q.elim)
  obtain ⟨rfl, rfl⟩ := q
  show J G 9 K S 1901 [(6, .int k), (5, .int (nI c)), (0, .ref b), (1, .ref (wad (gB G) 0)), (2, .ref (wad (gB G) 22)), (3, .ref (wad (gB G) 37)), (4, .ref (wad (gB G) 38))] [.int v] (X, Y2, o2, dd, (t1, []))
  refine j_istore hG (lv' := [(7, .int v), (6, .int k), (5, .int (nI c)), (0, .ref b), (1, .ref (wad (gB G) 0)), (2, .ref (wad (gB G) 22)), (3, .ref (wad (gB G) 37)), (4, .ref (wad (gB G) 38))]) (dt dtL_law_18 43 rfl) (by decide) rfl ?_
  refine j_aload_n hG 5 (dt dtL_law_18 44 rfl) rfl rfl ?_
  refine j_callV hG (kc := K) (ks := S) (ct_X8_thrown hG.2.2.1 (gB G) _ _ _ _ _ (show f_X8_thrown Y2 = some k from by rw [← hk2]; rfl)) mf_X8_thrown ml_L_138 22 (cv_22 _ _ _ _) rfl rfl (rest := []) rfl (Nat.le_of_ble_eq_true rfl) (dt dtL_law_18 45 rfl) (by decide) (by decide) (fun v9 σ2 q => ?_) (fun E σ2 q => q.elim)
  obtain ⟨rfl, rfl⟩ := q
  refine j_iload hG 1 (dt dtL_law_18 46 rfl) rfl ?_
  refine J_of (jl_icmp_eq hG (tgt := 1914) (dt dtL_law_18 47 rfl) (by decide) (fun _ => J_to ?_) (fun q => absurd rfl q))
  refine j_iload hG 1 (dt dtL_law_18 50 rfl) rfl ?_
  refine J_of (jl_if_ne hG (tgt := 1931) (dt dtL_law_18 51 rfl) (by decide) (fun q => J_to ?_) (fun q => J_to ?_))
  · refine j_goto hG (tgt := 2270) (dt dtL_law_19 1 rfl) (by decide) ?_
    refine j_lv (lv' := lvM (gB G) b (nI c)) [2, 3, 4, 5, 6, 7] rfl ?_
    exact hk _ ⟨_, _, _, _, _, _, _, rfl, hI2⟩
  · refine j_aload_n hG 6 (dt dtL_law_18 52 rfl) rfl rfl ?_
    refine j_iconst hG (v := 0) (dt dtL_law_18 53 rfl) (by decide) ?_
    refine j_lald hG (dt dtL_law_18 54 rfl) ?_
    refine j_iload hG 0 (dt dtL_law_18 55 rfl) rfl ?_
    refine j_i2l hG (dt dtL_law_18 56 rfl) ?_
    rw [he q]
    refine j_lcmp hG (dt dtL_law_18 57 rfl) ?_
    rw [cmp_self]
    refine J_of (jl_if_eq hG (tgt := 1931) (dt dtL_law_18 58 rfl) (by decide) (fun _ => J_to ?_) (fun q => absurd rfl q))
    refine j_goto hG (tgt := 2270) (dt dtL_law_19 1 rfl) (by decide) ?_
    refine j_lv (lv' := lvM (gB G) b (nI c)) [2, 3, 4, 5, 6, 7] rfl ?_
    exact hk _ ⟨_, _, _, _, _, _, _, rfl, hI2⟩
set_option maxRecDepth 4000 in
theorem g_law_28 {G : wG} (hG : wOk G RL cL_law 9 10 282) {b L : Nat} {xs : Nat → Int32} (hS : LWS G b L xs) (hL : L ≤ 2560) {c : Nat} (hc : c + 4 < L) {d : mD} {T : mT} {X Y : wM} {o : Int64} {dd : UInt64} {t1 : Nat → Nat} (hI : INV d T X Y) {K S : Nat} (hk : ∀ σ, SI σ → J G 9 K S 2270 (lvM (gB G) b (nI c)) [] σ) : J G 9 (K + 32) (S + 7000) 1934 (lvM (gB G) b (nI c)) [] (X, Y, o, dd, (t1, [])) := by
  show J G 9 (K + 32) (S + 7000) 1934 [(5, .int (nI c)), (0, .ref b), (1, .ref (wad (gB G) 0)), (2, .ref (wad (gB G) 22)), (3, .ref (wad (gB G) 37)), (4, .ref (wad (gB G) 38))] [] _
  obtain ⟨Y2, res, v, k, hI2, hx, hy, hk2, hcd, hR, ho⟩ := oq_out (op_isAtRisk hI (xs (c + 1)) (xs (c + 2)) (xs (c + 3)))
  refine J.weak (kc := K + 4) (ks := S + 24) (by omega) (by omega) ?_
  refine j_aload_n hG 2 (dt dtL_law_19 2 rfl) rfl rfl ?_
  refine j_aload_n hG 1 (dt dtL_law_19 3 rfl) rfl rfl ?_
  refine j_iload hG 0 (dt dtL_law_19 4 rfl) rfl ?_
  refine j_iconst hG (v := 1) (dt dtL_law_19 5 rfl) (by decide) ?_
  refine j_iadd hG (dt dtL_law_19 6 rfl) ?_
  refine j_sld hG hS (c + 1) (nI_add c 1) (by omega) hL (dt dtL_law_19 7 rfl) ?_
  refine j_aload_n hG 1 (dt dtL_law_19 8 rfl) rfl rfl ?_
  refine j_iload hG 0 (dt dtL_law_19 9 rfl) rfl ?_
  refine j_iconst hG (v := 2) (dt dtL_law_19 10 rfl) (by decide) ?_
  refine j_iadd hG (dt dtL_law_19 11 rfl) ?_
  refine j_sld hG hS (c + 2) (nI_add c 2) (by omega) hL (dt dtL_law_19 12 rfl) ?_
  refine j_aload_n hG 1 (dt dtL_law_19 13 rfl) rfl rfl ?_
  refine j_iload hG 0 (dt dtL_law_19 14 rfl) rfl ?_
  refine j_iconst hG (v := 3) (dt dtL_law_19 15 rfl) (by decide) ?_
  refine j_iadd hG (dt dtL_law_19 16 rfl) ?_
  refine j_sld hG hS (c + 3) (nI_add c 3) (by omega) hL (dt dtL_law_19 17 rfl) ?_
  refine j_aload_n hG 4 (dt dtL_law_19 18 rfl) rfl rfl ?_
  refine j_callSH hG (kc := K + 0) (ks := S + 0) (ct_L_isAtRisk hG.2.2.1 (gB G) hx hcd) mh_L_isAtRisk ml_L_231 rfl (rest := []) rfl (Nat.le_of_ble_eq_true rfl) (dt dtL_law_19 19 rfl) (by decide) (by decide) (fun v9 σ2 q => ?_)
  obtain ⟨rfl, hq⟩ := ho _ _ _ _ q
  have hq2 : ∃ o2 : Int64, σ2 = (X, Y, o2, dd, (t1, [])) ∧ (k = 0 → o2 = zL v) := by
    rcases hq with ⟨h1, rfl⟩ | ⟨h1, z, h2, rfl⟩
    · exact ⟨o, rfl, fun e => absurd e h1⟩
    · exact ⟨_, rfl, fun _ => by rw [h2]⟩
  obtain ⟨o2, rfl, he⟩ := hq2
  refine j_istore hG (lv' := [(6, .int k), (5, .int (nI c)), (0, .ref b), (1, .ref (wad (gB G) 0)), (2, .ref (wad (gB G) 22)), (3, .ref (wad (gB G) 37)), (4, .ref (wad (gB G) 38))]) (dt dtL_law_19 20 rfl) (by decide) rfl ?_
  refine j_aload_n hG 4 (dt dtL_law_19 21 rfl) rfl rfl ?_
  refine j_aload_n hG 2 (dt dtL_law_19 22 rfl) rfl rfl ?_
  refine j_iload hG 1 (dt dtL_law_19 23 rfl) rfl ?_
  refine j_iconst hG (v := 1) (dt dtL_law_19 24 rfl) (by decide) ?_
  refine j_iadd hG (dt dtL_law_19 25 rfl) ?_
  refine j_sld hG hS (c + 1) (nI_add c 1) (by omega) hL (dt dtL_law_19 26 rfl) ?_
  refine j_aload_n hG 2 (dt dtL_law_19 27 rfl) rfl rfl ?_
  refine j_iload hG 1 (dt dtL_law_19 28 rfl) rfl ?_
  refine j_iconst hG (v := 2) (dt dtL_law_19 29 rfl) (by decide) ?_
  refine j_iadd hG (dt dtL_law_19 30 rfl) ?_
  refine j_sld hG hS (c + 2) (nI_add c 2) (by omega) hL (dt dtL_law_19 31 rfl) ?_
  refine j_aload_n hG 2 (dt dtL_law_19 32 rfl) rfl rfl ?_
  refine j_iload hG 1 (dt dtL_law_19 33 rfl) rfl ?_
  refine j_iconst hG (v := 3) (dt dtL_law_19 34 rfl) (by decide) ?_
  refine j_iadd hG (dt dtL_law_19 35 rfl) ?_
  refine j_sld hG hS (c + 3) (nI_add c 3) (by omega) hL (dt dtL_law_19 36 rfl) ?_
  refine j_callV hG (kc := K) (ks := S) (ct_X8_isAtRisk hG.2.2.1 (gB G) _ _ _ _ _ hy) mf_X8_isAtRisk ml_L_233 22 (cv_22 _ _ _ _) rfl rfl (rest := []) rfl (Nat.le_of_ble_eq_true rfl) (dt dtL_law_19 37 rfl) (by decide) (by decide) (fun v9 σ2 q => ?_) (fun E σ2 q => q.elim)
  obtain ⟨rfl, rfl⟩ := q
  show J G 9 K S 1981 [(6, .int k), (5, .int (nI c)), (0, .ref b), (1, .ref (wad (gB G) 0)), (2, .ref (wad (gB G) 22)), (3, .ref (wad (gB G) 37)), (4, .ref (wad (gB G) 38))] [.int v] (X, Y2, o2, dd, (t1, []))
  refine j_istore hG (lv' := [(7, .int v), (6, .int k), (5, .int (nI c)), (0, .ref b), (1, .ref (wad (gB G) 0)), (2, .ref (wad (gB G) 22)), (3, .ref (wad (gB G) 37)), (4, .ref (wad (gB G) 38))]) (dt dtL_law_19 38 rfl) (by decide) rfl ?_
  refine j_aload_n hG 5 (dt dtL_law_19 39 rfl) rfl rfl ?_
  refine j_callV hG (kc := K) (ks := S) (ct_X8_thrown hG.2.2.1 (gB G) _ _ _ _ _ (show f_X8_thrown Y2 = some k from by rw [← hk2]; rfl)) mf_X8_thrown ml_L_138 22 (cv_22 _ _ _ _) rfl rfl (rest := []) rfl (Nat.le_of_ble_eq_true rfl) (dt dtL_law_19 40 rfl) (by decide) (by decide) (fun v9 σ2 q => ?_) (fun E σ2 q => q.elim)
  obtain ⟨rfl, rfl⟩ := q
  refine j_iload hG 1 (dt dtL_law_19 41 rfl) rfl ?_
  refine J_of (jl_icmp_eq hG (tgt := 1994) (dt dtL_law_19 42 rfl) (by decide) (fun _ => J_to ?_) (fun q => absurd rfl q))
  refine j_iload hG 1 (dt dtL_law_19 45 rfl) rfl ?_
  refine J_of (jl_if_ne hG (tgt := 2018) (dt dtL_law_19 46 rfl) (by decide) (fun q => J_to ?_) (fun q => J_to ?_))
  · refine j_goto hG (tgt := 2270) (dt dtL_law_19 59 rfl) (by decide) ?_
    refine j_lv (lv' := lvM (gB G) b (nI c)) [2, 3, 4, 5, 6, 7] rfl ?_
    exact hk _ ⟨_, _, _, _, _, _, _, rfl, hI2⟩
  · refine j_aload_n hG 6 (dt dtL_law_19 47 rfl) rfl rfl ?_
    refine j_iconst hG (v := 0) (dt dtL_law_19 48 rfl) (by decide) ?_
    refine j_lald hG (dt dtL_law_19 49 rfl) ?_
    refine j_iload hG 0 (dt dtL_law_19 50 rfl) rfl ?_
    rw [he q]
    refine J_of (jl_if_eq hG (tgt := 2011) (dt dtL_law_19 51 rfl) (by decide) (fun q2 => J_to ?_) (fun q2 => J_to ?_))
    · refine j_lconst hG (v := 0) (dt dtL_law_19 54 rfl) (by decide) ?_
      rw [show zL v = 0 from if_pos q2] at he ⊢
      refine j_lcmp hG (dt dtL_law_19 55 rfl) ?_
      rw [cmp_self]
      refine J_of (jl_if_eq hG (tgt := 2018) (dt dtL_law_19 56 rfl) (by decide) (fun _ => J_to ?_) (fun q => absurd rfl q))
      refine j_goto hG (tgt := 2270) (dt dtL_law_19 59 rfl) (by decide) ?_
      refine j_lv (lv' := lvM (gB G) b (nI c)) [2, 3, 4, 5, 6, 7] rfl ?_
      exact hk _ ⟨_, _, _, _, _, _, _, rfl, hI2⟩
    · refine j_lconst hG (v := 1) (dt dtL_law_19 52 rfl) (by decide) ?_
      refine j_goto hG (tgt := 2012) (dt dtL_law_19 53 rfl) (by decide) ?_
      rw [show zL v = 1 from if_neg q2] at he ⊢
      refine j_lcmp hG (dt dtL_law_19 55 rfl) ?_
      rw [cmp_self]
      refine J_of (jl_if_eq hG (tgt := 2018) (dt dtL_law_19 56 rfl) (by decide) (fun _ => J_to ?_) (fun q => absurd rfl q))
      refine j_goto hG (tgt := 2270) (dt dtL_law_19 59 rfl) (by decide) ?_
      refine j_lv (lv' := lvM (gB G) b (nI c)) [2, 3, 4, 5, 6, 7] rfl ?_
      exact hk _ ⟨_, _, _, _, _, _, _, rfl, hI2⟩
set_option maxRecDepth 4000 in
theorem g_law_29 {G : wG} (hG : wOk G RL cL_law 9 10 282) {b L : Nat} {xs : Nat → Int32} (hS : LWS G b L xs) (hL : L ≤ 2560) {c : Nat} (hc : c + 4 < L) {d : mD} {T : mT} {X Y : wM} {o : Int64} {dd : UInt64} {t1 : Nat → Nat} (hI : INV d T X Y) {K S : Nat} (hk : ∀ σ, SI σ → J G 9 K S 2270 (lvM (gB G) b (nI c)) [] σ) : J G 9 (K + 32) (S + 7000) 2021 (lvM (gB G) b (nI c)) [] (X, Y, o, dd, (t1, [])) := by
  show J G 9 (K + 32) (S + 7000) 2021 [(5, .int (nI c)), (0, .ref b), (1, .ref (wad (gB G) 0)), (2, .ref (wad (gB G) 22)), (3, .ref (wad (gB G) 37)), (4, .ref (wad (gB G) 38))] [] _
  obtain ⟨Y2, res, v, k, hI2, hx, hy, hk2, hcd, hR, ho⟩ := oq_out (op_found hI (xs (c + 1)))
  refine J.weak (kc := K + 1) (ks := S + 6) (by omega) (by omega) ?_
  refine j_aload_n hG 2 (dt dtL_law_20 0 rfl) rfl rfl ?_
  refine j_aload_n hG 1 (dt dtL_law_20 1 rfl) rfl rfl ?_
  refine j_iload hG 0 (dt dtL_law_20 2 rfl) rfl ?_
  refine j_iconst hG (v := 1) (dt dtL_law_20 3 rfl) (by decide) ?_
  refine j_iadd hG (dt dtL_law_20 4 rfl) ?_
  refine j_sld hG hS (c + 1) (nI_add c 1) (by omega) hL (dt dtL_law_20 5 rfl) ?_
  refine j_aload_n hG 4 (dt dtL_law_20 6 rfl) rfl rfl ?_
  refine j_callSH hG (kc := K + 0) (ks := S + 0) (ct_L_found hG.2.2.1 (gB G) hx hcd) mh_L_found ml_L_234 rfl (rest := []) rfl (Nat.le_of_ble_eq_true rfl) (dt dtL_law_20 7 rfl) (by decide) (by decide) (fun v9 σ2 q => ?_)
  obtain ⟨rfl, hq⟩ := ho _ _ _ _ q
  have hq2 : ∃ o2 : Int64, σ2 = (X, Y, o2, dd, (t1, [])) ∧ (k = 0 → o2 = v.toInt64) := by
    rcases hq with ⟨h1, rfl⟩ | ⟨h1, z, h2, rfl⟩
    · exact ⟨o, rfl, fun e => absurd e h1⟩
    · exact ⟨_, rfl, fun _ => by rw [h2]⟩
  obtain ⟨o2, rfl, he⟩ := hq2
  refine j_istore hG (lv' := [(6, .int k), (5, .int (nI c)), (0, .ref b), (1, .ref (wad (gB G) 0)), (2, .ref (wad (gB G) 22)), (3, .ref (wad (gB G) 37)), (4, .ref (wad (gB G) 38))]) (dt dtL_law_20 8 rfl) (by decide) rfl ?_
  refine j_aload_n hG 4 (dt dtL_law_20 9 rfl) rfl rfl ?_
  refine j_aload_n hG 2 (dt dtL_law_20 10 rfl) rfl rfl ?_
  refine j_iload hG 1 (dt dtL_law_20 11 rfl) rfl ?_
  refine j_iconst hG (v := 1) (dt dtL_law_20 12 rfl) (by decide) ?_
  refine j_iadd hG (dt dtL_law_20 13 rfl) ?_
  refine j_sld hG hS (c + 1) (nI_add c 1) (by omega) hL (dt dtL_law_20 14 rfl) ?_
  refine j_callV hG (kc := K) (ks := S) (ct_X8_found hG.2.2.1 (gB G) _ _ _ _ _ hy) mf_X8_found ml_L_236 22 (cv_22 _ _ _ _) rfl rfl (rest := []) rfl (Nat.le_of_ble_eq_true rfl) (dt dtL_law_20 15 rfl) (by decide) (by decide) (fun v9 σ2 q => ?_) (fun E σ2 q => q.elim)
  obtain ⟨rfl, rfl⟩ := q
  show J G 9 K S 2044 [(6, .int k), (5, .int (nI c)), (0, .ref b), (1, .ref (wad (gB G) 0)), (2, .ref (wad (gB G) 22)), (3, .ref (wad (gB G) 37)), (4, .ref (wad (gB G) 38))] [.int v] (X, Y2, o2, dd, (t1, []))
  refine j_istore hG (lv' := [(7, .int v), (6, .int k), (5, .int (nI c)), (0, .ref b), (1, .ref (wad (gB G) 0)), (2, .ref (wad (gB G) 22)), (3, .ref (wad (gB G) 37)), (4, .ref (wad (gB G) 38))]) (dt dtL_law_20 16 rfl) (by decide) rfl ?_
  refine j_aload_n hG 5 (dt dtL_law_20 17 rfl) rfl rfl ?_
  refine j_callV hG (kc := K) (ks := S) (ct_X8_thrown hG.2.2.1 (gB G) _ _ _ _ _ (show f_X8_thrown Y2 = some k from by rw [← hk2]; rfl)) mf_X8_thrown ml_L_138 22 (cv_22 _ _ _ _) rfl rfl (rest := []) rfl (Nat.le_of_ble_eq_true rfl) (dt dtL_law_20 18 rfl) (by decide) (by decide) (fun v9 σ2 q => ?_) (fun E σ2 q => q.elim)
  obtain ⟨rfl, rfl⟩ := q
  refine j_iload hG 1 (dt dtL_law_20 19 rfl) rfl ?_
  refine J_of (jl_icmp_eq hG (tgt := 2057) (dt dtL_law_20 20 rfl) (by decide) (fun _ => J_to ?_) (fun q => absurd rfl q))
  refine j_iload hG 1 (dt dtL_law_20 23 rfl) rfl ?_
  refine J_of (jl_if_ne hG (tgt := 2074) (dt dtL_law_20 24 rfl) (by decide) (fun q => J_to ?_) (fun q => J_to ?_))
  · refine j_goto hG (tgt := 2270) (dt dtL_law_20 34 rfl) (by decide) ?_
    refine j_lv (lv' := lvM (gB G) b (nI c)) [2, 3, 4, 5, 6, 7] rfl ?_
    exact hk _ ⟨_, _, _, _, _, _, _, rfl, hI2⟩
  · refine j_aload_n hG 6 (dt dtL_law_20 25 rfl) rfl rfl ?_
    refine j_iconst hG (v := 0) (dt dtL_law_20 26 rfl) (by decide) ?_
    refine j_lald hG (dt dtL_law_20 27 rfl) ?_
    refine j_iload hG 0 (dt dtL_law_20 28 rfl) rfl ?_
    refine j_i2l hG (dt dtL_law_20 29 rfl) ?_
    rw [he q]
    refine j_lcmp hG (dt dtL_law_20 30 rfl) ?_
    rw [cmp_self]
    refine J_of (jl_if_eq hG (tgt := 2074) (dt dtL_law_20 31 rfl) (by decide) (fun _ => J_to ?_) (fun q => absurd rfl q))
    refine j_goto hG (tgt := 2270) (dt dtL_law_20 34 rfl) (by decide) ?_
    refine j_lv (lv' := lvM (gB G) b (nI c)) [2, 3, 4, 5, 6, 7] rfl ?_
    exact hk _ ⟨_, _, _, _, _, _, _, rfl, hI2⟩
set_option maxRecDepth 4000 in
theorem g_law_30 {G : wG} (hG : wOk G RL cL_law 9 10 282) {b L : Nat} {xs : Nat → Int32} (hS : LWS G b L xs) (hL : L ≤ 2560) {c : Nat} (hc : c + 4 < L) {d : mD} {T : mT} {X Y : wM} {o : Int64} {dd : UInt64} {t1 : Nat → Nat} (hI : INV d T X Y) {K S : Nat} (hk : ∀ σ, SI σ → J G 9 K S 2270 (lvM (gB G) b (nI c)) [] σ) : J G 9 (K + 32) (S + 7000) 2077 (lvM (gB G) b (nI c)) [] (X, Y, o, dd, (t1, [])) := by
  show J G 9 (K + 32) (S + 7000) 2077 [(5, .int (nI c)), (0, .ref b), (1, .ref (wad (gB G) 0)), (2, .ref (wad (gB G) 22)), (3, .ref (wad (gB G) 37)), (4, .ref (wad (gB G) 38))] [] _
  obtain ⟨Y2, res, v, k, hI2, hx, hy, hk2, hcd, hR, ho⟩ := oq_out (op_foundByWays hI (xs (c + 1)))
  refine J.weak (kc := K + 1) (ks := S + 6) (by omega) (by omega) ?_
  refine j_aload_n hG 2 (dt dtL_law_20 35 rfl) rfl rfl ?_
  refine j_aload_n hG 1 (dt dtL_law_20 36 rfl) rfl rfl ?_
  refine j_iload hG 0 (dt dtL_law_20 37 rfl) rfl ?_
  refine j_iconst hG (v := 1) (dt dtL_law_20 38 rfl) (by decide) ?_
  refine j_iadd hG (dt dtL_law_20 39 rfl) ?_
  refine j_sld hG hS (c + 1) (nI_add c 1) (by omega) hL (dt dtL_law_20 40 rfl) ?_
  refine j_aload_n hG 4 (dt dtL_law_20 41 rfl) rfl rfl ?_
  refine j_callSH hG (kc := K + 0) (ks := S + 0) (ct_L_foundByWays hG.2.2.1 (gB G) hx hcd) mh_L_foundByWays ml_L_237 rfl (rest := []) rfl (Nat.le_of_ble_eq_true rfl) (dt dtL_law_20 42 rfl) (by decide) (by decide) (fun v9 σ2 q => ?_)
  obtain ⟨rfl, hq⟩ := ho _ _ _ _ q
  have hq2 : ∃ o2 : Int64, σ2 = (X, Y, o2, dd, (t1, [])) ∧ (k = 0 → o2 = v.toInt64) := by
    rcases hq with ⟨h1, rfl⟩ | ⟨h1, z, h2, rfl⟩
    · exact ⟨o, rfl, fun e => absurd e h1⟩
    · exact ⟨_, rfl, fun _ => by rw [h2]⟩
  obtain ⟨o2, rfl, he⟩ := hq2
  refine j_istore hG (lv' := [(6, .int k), (5, .int (nI c)), (0, .ref b), (1, .ref (wad (gB G) 0)), (2, .ref (wad (gB G) 22)), (3, .ref (wad (gB G) 37)), (4, .ref (wad (gB G) 38))]) (dt dtL_law_20 43 rfl) (by decide) rfl ?_
  refine j_aload_n hG 4 (dt dtL_law_20 44 rfl) rfl rfl ?_
  refine j_aload_n hG 2 (dt dtL_law_20 45 rfl) rfl rfl ?_
  refine j_iload hG 1 (dt dtL_law_20 46 rfl) rfl ?_
  refine j_iconst hG (v := 1) (dt dtL_law_20 47 rfl) (by decide) ?_
  refine j_iadd hG (dt dtL_law_20 48 rfl) ?_
  refine j_sld hG hS (c + 1) (nI_add c 1) (by omega) hL (dt dtL_law_20 49 rfl) ?_
  refine j_callV hG (kc := K) (ks := S) (ct_X8_foundByWays hG.2.2.1 (gB G) _ _ _ _ _ hy) mf_X8_foundByWays ml_L_239 22 (cv_22 _ _ _ _) rfl rfl (rest := []) rfl (Nat.le_of_ble_eq_true rfl) (dt dtL_law_20 50 rfl) (by decide) (by decide) (fun v9 σ2 q => ?_) (fun E σ2 q => q.elim)
  obtain ⟨rfl, rfl⟩ := q
  show J G 9 K S 2100 [(6, .int k), (5, .int (nI c)), (0, .ref b), (1, .ref (wad (gB G) 0)), (2, .ref (wad (gB G) 22)), (3, .ref (wad (gB G) 37)), (4, .ref (wad (gB G) 38))] [.int v] (X, Y2, o2, dd, (t1, []))
  refine j_istore hG (lv' := [(7, .int v), (6, .int k), (5, .int (nI c)), (0, .ref b), (1, .ref (wad (gB G) 0)), (2, .ref (wad (gB G) 22)), (3, .ref (wad (gB G) 37)), (4, .ref (wad (gB G) 38))]) (dt dtL_law_20 51 rfl) (by decide) rfl ?_
  refine j_aload_n hG 5 (dt dtL_law_20 52 rfl) rfl rfl ?_
  refine j_callV hG (kc := K) (ks := S) (ct_X8_thrown hG.2.2.1 (gB G) _ _ _ _ _ (show f_X8_thrown Y2 = some k from by rw [← hk2]; rfl)) mf_X8_thrown ml_L_138 22 (cv_22 _ _ _ _) rfl rfl (rest := []) rfl (Nat.le_of_ble_eq_true rfl) (dt dtL_law_20 53 rfl) (by decide) (by decide) (fun v9 σ2 q => ?_) (fun E σ2 q => q.elim)
  obtain ⟨rfl, rfl⟩ := q
  refine j_iload hG 1 (dt dtL_law_20 54 rfl) rfl ?_
  refine J_of (jl_icmp_eq hG (tgt := 2113) (dt dtL_law_20 55 rfl) (by decide) (fun _ => J_to ?_) (fun q => absurd rfl q))
  refine j_iload hG 1 (dt dtL_law_20 58 rfl) rfl ?_
  refine J_of (jl_if_ne hG (tgt := 2130) (dt dtL_law_20 59 rfl) (by decide) (fun q => J_to ?_) (fun q => J_to ?_))
  · refine j_goto hG (tgt := 2270) (dt dtL_law_21 9 rfl) (by decide) ?_
    refine j_lv (lv' := lvM (gB G) b (nI c)) [2, 3, 4, 5, 6, 7] rfl ?_
    exact hk _ ⟨_, _, _, _, _, _, _, rfl, hI2⟩
  · refine j_aload_n hG 6 (dt dtL_law_21 0 rfl) rfl rfl ?_
    refine j_iconst hG (v := 0) (dt dtL_law_21 1 rfl) (by decide) ?_
    refine j_lald hG (dt dtL_law_21 2 rfl) ?_
    refine j_iload hG 0 (dt dtL_law_21 3 rfl) rfl ?_
    refine j_i2l hG (dt dtL_law_21 4 rfl) ?_
    rw [he q]
    refine j_lcmp hG (dt dtL_law_21 5 rfl) ?_
    rw [cmp_self]
    refine J_of (jl_if_eq hG (tgt := 2130) (dt dtL_law_21 6 rfl) (by decide) (fun _ => J_to ?_) (fun q => absurd rfl q))
    refine j_goto hG (tgt := 2270) (dt dtL_law_21 9 rfl) (by decide) ?_
    refine j_lv (lv' := lvM (gB G) b (nI c)) [2, 3, 4, 5, 6, 7] rfl ?_
    exact hk _ ⟨_, _, _, _, _, _, _, rfl, hI2⟩
set_option maxRecDepth 4000 in
theorem g_law_31 {G : wG} (hG : wOk G RL cL_law 9 10 282) {b L : Nat} {xs : Nat → Int32} (hS : LWS G b L xs) (hL : L ≤ 2560) {c : Nat} (hc : c + 4 < L) {d : mD} {T : mT} {X Y : wM} {o : Int64} {dd : UInt64} {t1 : Nat → Nat} (hI : INV d T X Y) {K S : Nat} (hk : ∀ σ, SI σ → J G 9 K S 2270 (lvM (gB G) b (nI c)) [] σ) : J G 9 (K + 32) (S + 7000) 2133 (lvM (gB G) b (nI c)) [] (X, Y, o, dd, (t1, [])) := by
  show J G 9 (K + 32) (S + 7000) 2133 [(5, .int (nI c)), (0, .ref b), (1, .ref (wad (gB G) 0)), (2, .ref (wad (gB G) 22)), (3, .ref (wad (gB G) 37)), (4, .ref (wad (gB G) 38))] [] _
  obtain ⟨Y2, res, v, k, hI2, hx, hy, hk2, hcd, hR, ho⟩ := oq_out (op_lineLength hI (xs (c + 1)))
  refine J.weak (kc := K + 11) (ks := S + 3436) (by omega) (by omega) ?_
  refine j_aload_n hG 2 (dt dtL_law_21 10 rfl) rfl rfl ?_
  refine j_aload_n hG 1 (dt dtL_law_21 11 rfl) rfl rfl ?_
  refine j_iload hG 0 (dt dtL_law_21 12 rfl) rfl ?_
  refine j_iconst hG (v := 1) (dt dtL_law_21 13 rfl) (by decide) ?_
  refine j_iadd hG (dt dtL_law_21 14 rfl) ?_
  refine j_sld hG hS (c + 1) (nI_add c 1) (by omega) hL (dt dtL_law_21 15 rfl) ?_
  refine j_aload_n hG 4 (dt dtL_law_21 16 rfl) rfl rfl ?_
  refine j_callSH hG (kc := K + 10) (ks := S + 3430) (ct_L_lineLength hG.2.2.1 (gB G) hx hcd) mh_L_lineLength ml_L_240 rfl (rest := []) rfl (Nat.le_of_ble_eq_true rfl) (dt dtL_law_21 17 rfl) (by decide) (by decide) (fun v9 σ2 q => ?_)
  obtain ⟨rfl, hq⟩ := ho _ _ _ _ q
  have hq2 : ∃ o2 : Int64, σ2 = (X, Y, o2, dd, (t1, [])) ∧ (k = 0 → o2 = v.toInt64) := by
    rcases hq with ⟨h1, rfl⟩ | ⟨h1, z, h2, rfl⟩
    · exact ⟨o, rfl, fun e => absurd e h1⟩
    · exact ⟨_, rfl, fun _ => by rw [h2]⟩
  obtain ⟨o2, rfl, he⟩ := hq2
  refine j_istore hG (lv' := [(6, .int k), (5, .int (nI c)), (0, .ref b), (1, .ref (wad (gB G) 0)), (2, .ref (wad (gB G) 22)), (3, .ref (wad (gB G) 37)), (4, .ref (wad (gB G) 38))]) (dt dtL_law_21 18 rfl) (by decide) rfl ?_
  refine j_aload_n hG 4 (dt dtL_law_21 19 rfl) rfl rfl ?_
  refine j_aload_n hG 2 (dt dtL_law_21 20 rfl) rfl rfl ?_
  refine j_iload hG 1 (dt dtL_law_21 21 rfl) rfl ?_
  refine j_iconst hG (v := 1) (dt dtL_law_21 22 rfl) (by decide) ?_
  refine j_iadd hG (dt dtL_law_21 23 rfl) ?_
  refine j_sld hG hS (c + 1) (nI_add c 1) (by omega) hL (dt dtL_law_21 24 rfl) ?_
  refine j_callV hG (kc := K) (ks := S) (ct_X8_lineLength hG.2.2.1 (gB G) hy) mf_X8_lineLength ml_L_242 22 (cv_22 _ _ _ _) rfl rfl (rest := []) rfl (Nat.le_of_ble_eq_true rfl) (dt dtL_law_21 25 rfl) (by decide) (by decide) (fun v9 σ2 q => ?_) (fun E σ2 q => q.elim)
  obtain ⟨rfl, rfl⟩ := q
  show J G 9 K S 2156 [(6, .int k), (5, .int (nI c)), (0, .ref b), (1, .ref (wad (gB G) 0)), (2, .ref (wad (gB G) 22)), (3, .ref (wad (gB G) 37)), (4, .ref (wad (gB G) 38))] [.int v] (X, Y2, o2, dd, (t1, []))
  refine j_istore hG (lv' := [(7, .int v), (6, .int k), (5, .int (nI c)), (0, .ref b), (1, .ref (wad (gB G) 0)), (2, .ref (wad (gB G) 22)), (3, .ref (wad (gB G) 37)), (4, .ref (wad (gB G) 38))]) (dt dtL_law_21 26 rfl) (by decide) rfl ?_
  refine j_aload_n hG 5 (dt dtL_law_21 27 rfl) rfl rfl ?_
  refine j_callV hG (kc := K) (ks := S) (ct_X8_thrown hG.2.2.1 (gB G) _ _ _ _ _ (show f_X8_thrown Y2 = some k from by rw [← hk2]; rfl)) mf_X8_thrown ml_L_138 22 (cv_22 _ _ _ _) rfl rfl (rest := []) rfl (Nat.le_of_ble_eq_true rfl) (dt dtL_law_21 28 rfl) (by decide) (by decide) (fun v9 σ2 q => ?_) (fun E σ2 q => q.elim)
  obtain ⟨rfl, rfl⟩ := q
  refine j_iload hG 1 (dt dtL_law_21 29 rfl) rfl ?_
  refine J_of (jl_icmp_eq hG (tgt := 2169) (dt dtL_law_21 30 rfl) (by decide) (fun _ => J_to ?_) (fun q => absurd rfl q))
  refine j_iload hG 1 (dt dtL_law_21 33 rfl) rfl ?_
  refine J_of (jl_if_ne hG (tgt := 2186) (dt dtL_law_21 34 rfl) (by decide) (fun q => J_to ?_) (fun q => J_to ?_))
  · refine j_goto hG (tgt := 2270) (dt dtL_law_21 44 rfl) (by decide) ?_
    refine j_lv (lv' := lvM (gB G) b (nI c)) [2, 3, 4, 5, 6, 7] rfl ?_
    exact hk _ ⟨_, _, _, _, _, _, _, rfl, hI2⟩
  · refine j_aload_n hG 6 (dt dtL_law_21 35 rfl) rfl rfl ?_
    refine j_iconst hG (v := 0) (dt dtL_law_21 36 rfl) (by decide) ?_
    refine j_lald hG (dt dtL_law_21 37 rfl) ?_
    refine j_iload hG 0 (dt dtL_law_21 38 rfl) rfl ?_
    refine j_i2l hG (dt dtL_law_21 39 rfl) ?_
    rw [he q]
    refine j_lcmp hG (dt dtL_law_21 40 rfl) ?_
    rw [cmp_self]
    refine J_of (jl_if_eq hG (tgt := 2186) (dt dtL_law_21 41 rfl) (by decide) (fun _ => J_to ?_) (fun q => absurd rfl q))
    refine j_goto hG (tgt := 2270) (dt dtL_law_21 44 rfl) (by decide) ?_
    refine j_lv (lv' := lvM (gB G) b (nI c)) [2, 3, 4, 5, 6, 7] rfl ?_
    exact hk _ ⟨_, _, _, _, _, _, _, rfl, hI2⟩
set_option maxRecDepth 4000 in
theorem g_law_32 {G : wG} (hG : wOk G RL cL_law 9 10 282) {b L : Nat} {xs : Nat → Int32} (hS : LWS G b L xs) (hL : L ≤ 2560) {c : Nat} (hc : c + 4 < L) {d : mD} {T : mT} {X Y : wM} {o : Int64} {dd : UInt64} {t1 : Nat → Nat} (hI : INV d T X Y) {K S : Nat} (hk : ∀ σ, SI σ → J G 9 K S 2270 (lvM (gB G) b (nI c)) [] σ) : J G 9 (K + 32) (S + 7000) 2189 (lvM (gB G) b (nI c)) [] (X, Y, o, dd, (t1, [])) := by
  show J G 9 (K + 32) (S + 7000) 2189 [(5, .int (nI c)), (0, .ref b), (1, .ref (wad (gB G) 0)), (2, .ref (wad (gB G) 22)), (3, .ref (wad (gB G) 37)), (4, .ref (wad (gB G) 38))] [] _
  obtain ⟨Y2, res, v, k, hI2, hx, hy, hk2, hcd, hR, ho⟩ := oq_out (op_lineAt hI (xs (c + 1)) (xs (c + 2)))
  refine J.weak (kc := K + 22) (ks := S + 6872) (by omega) (by omega) ?_
  refine j_aload_n hG 2 (dt dtL_law_21 45 rfl) rfl rfl ?_
  refine j_aload_n hG 1 (dt dtL_law_21 46 rfl) rfl rfl ?_
  refine j_iload hG 0 (dt dtL_law_21 47 rfl) rfl ?_
  refine j_iconst hG (v := 1) (dt dtL_law_21 48 rfl) (by decide) ?_
  refine j_iadd hG (dt dtL_law_21 49 rfl) ?_
  refine j_sld hG hS (c + 1) (nI_add c 1) (by omega) hL (dt dtL_law_21 50 rfl) ?_
  refine j_aload_n hG 1 (dt dtL_law_21 51 rfl) rfl rfl ?_
  refine j_iload hG 0 (dt dtL_law_21 52 rfl) rfl ?_
  refine j_iconst hG (v := 2) (dt dtL_law_21 53 rfl) (by decide) ?_
  refine j_iadd hG (dt dtL_law_21 54 rfl) ?_
  refine j_sld hG hS (c + 2) (nI_add c 2) (by omega) hL (dt dtL_law_21 55 rfl) ?_
  refine j_aload_n hG 4 (dt dtL_law_21 56 rfl) rfl rfl ?_
  refine j_callSH hG (kc := K + 20) (ks := S + 6860) (ct_L_lineAt hG.2.2.1 (gB G) hx hcd) mh_L_lineAt ml_L_243 rfl (rest := []) rfl (Nat.le_of_ble_eq_true rfl) (dt dtL_law_21 57 rfl) (by decide) (by decide) (fun v9 σ2 q => ?_)
  obtain ⟨rfl, hq⟩ := ho _ _ _ _ q
  have hq2 : ∃ o2 : Int64, σ2 = (X, Y, o2, dd, (t1, [])) ∧ (k = 0 → o2 = v.toInt64) := by
    rcases hq with ⟨h1, rfl⟩ | ⟨h1, z, h2, rfl⟩
    · exact ⟨o, rfl, fun e => absurd e h1⟩
    · exact ⟨_, rfl, fun _ => by rw [h2]⟩
  obtain ⟨o2, rfl, he⟩ := hq2
  refine j_istore hG (lv' := [(6, .int k), (5, .int (nI c)), (0, .ref b), (1, .ref (wad (gB G) 0)), (2, .ref (wad (gB G) 22)), (3, .ref (wad (gB G) 37)), (4, .ref (wad (gB G) 38))]) (dt dtL_law_21 58 rfl) (by decide) rfl ?_
  refine j_aload_n hG 4 (dt dtL_law_21 59 rfl) rfl rfl ?_
  refine j_aload_n hG 2 (dt dtL_law_22 0 rfl) rfl rfl ?_
  refine j_iload hG 1 (dt dtL_law_22 1 rfl) rfl ?_
  refine j_iconst hG (v := 1) (dt dtL_law_22 2 rfl) (by decide) ?_
  refine j_iadd hG (dt dtL_law_22 3 rfl) ?_
  refine j_sld hG hS (c + 1) (nI_add c 1) (by omega) hL (dt dtL_law_22 4 rfl) ?_
  refine j_aload_n hG 2 (dt dtL_law_22 5 rfl) rfl rfl ?_
  refine j_iload hG 1 (dt dtL_law_22 6 rfl) rfl ?_
  refine j_iconst hG (v := 2) (dt dtL_law_22 7 rfl) (by decide) ?_
  refine j_iadd hG (dt dtL_law_22 8 rfl) ?_
  refine j_sld hG hS (c + 2) (nI_add c 2) (by omega) hL (dt dtL_law_22 9 rfl) ?_
  refine j_callV hG (kc := K) (ks := S) (ct_X8_lineAt hG.2.2.1 (gB G) hy) mf_X8_lineAt ml_L_245 22 (cv_22 _ _ _ _) rfl rfl (rest := []) rfl (Nat.le_of_ble_eq_true rfl) (dt dtL_law_22 10 rfl) (by decide) (by decide) (fun v9 σ2 q => ?_) (fun E σ2 q => q.elim)
  obtain ⟨rfl, rfl⟩ := q
  show J G 9 K S 2224 [(6, .int k), (5, .int (nI c)), (0, .ref b), (1, .ref (wad (gB G) 0)), (2, .ref (wad (gB G) 22)), (3, .ref (wad (gB G) 37)), (4, .ref (wad (gB G) 38))] [.int v] (X, Y2, o2, dd, (t1, []))
  refine j_istore hG (lv' := [(7, .int v), (6, .int k), (5, .int (nI c)), (0, .ref b), (1, .ref (wad (gB G) 0)), (2, .ref (wad (gB G) 22)), (3, .ref (wad (gB G) 37)), (4, .ref (wad (gB G) 38))]) (dt dtL_law_22 11 rfl) (by decide) rfl ?_
  refine j_aload_n hG 5 (dt dtL_law_22 12 rfl) rfl rfl ?_
  refine j_callV hG (kc := K) (ks := S) (ct_X8_thrown hG.2.2.1 (gB G) _ _ _ _ _ (show f_X8_thrown Y2 = some k from by rw [← hk2]; rfl)) mf_X8_thrown ml_L_138 22 (cv_22 _ _ _ _) rfl rfl (rest := []) rfl (Nat.le_of_ble_eq_true rfl) (dt dtL_law_22 13 rfl) (by decide) (by decide) (fun v9 σ2 q => ?_) (fun E σ2 q => q.elim)
  obtain ⟨rfl, rfl⟩ := q
  refine j_iload hG 1 (dt dtL_law_22 14 rfl) rfl ?_
  refine J_of (jl_icmp_eq hG (tgt := 2237) (dt dtL_law_22 15 rfl) (by decide) (fun _ => J_to ?_) (fun q => absurd rfl q))
  refine j_iload hG 1 (dt dtL_law_22 18 rfl) rfl ?_
  refine J_of (jl_if_ne hG (tgt := 2254) (dt dtL_law_22 19 rfl) (by decide) (fun q => J_to ?_) (fun q => J_to ?_))
  · refine j_goto hG (tgt := 2270) (dt dtL_law_22 29 rfl) (by decide) ?_
    refine j_lv (lv' := lvM (gB G) b (nI c)) [2, 3, 4, 5, 6, 7] rfl ?_
    exact hk _ ⟨_, _, _, _, _, _, _, rfl, hI2⟩
  · refine j_aload_n hG 6 (dt dtL_law_22 20 rfl) rfl rfl ?_
    refine j_iconst hG (v := 0) (dt dtL_law_22 21 rfl) (by decide) ?_
    refine j_lald hG (dt dtL_law_22 22 rfl) ?_
    refine j_iload hG 0 (dt dtL_law_22 23 rfl) rfl ?_
    refine j_i2l hG (dt dtL_law_22 24 rfl) ?_
    rw [he q]
    refine j_lcmp hG (dt dtL_law_22 25 rfl) ?_
    rw [cmp_self]
    refine J_of (jl_if_eq hG (tgt := 2254) (dt dtL_law_22 26 rfl) (by decide) (fun _ => J_to ?_) (fun q => absurd rfl q))
    refine j_goto hG (tgt := 2270) (dt dtL_law_22 29 rfl) (by decide) ?_
    refine j_lv (lv' := lvM (gB G) b (nI c)) [2, 3, 4, 5, 6, 7] rfl ?_
    exact hk _ ⟨_, _, _, _, _, _, _, rfl, hI2⟩
set_option maxRecDepth 4000 in
theorem g_law_33 {G : wG} (hG : wOk G RL cL_law 9 10 282) {b L : Nat} {xs : Nat → Int32} (hS : LWS G b L xs) (hL : L ≤ 2560) {c : Nat} (hc : c + 4 < L) {d : mD} {T : mT} {X Y : wM} {o : Int64} {dd : UInt64} {t1 : Nat → Nat} (hI : INV d T X Y) {K S : Nat} (hk : ∀ σ, SI σ → J G 9 K S 2270 (lvM (gB G) b (nI c)) [] σ) : J G 9 (K + 32) (S + 7000) 2257 (lvM (gB G) b (nI c)) [] (X, Y, o, dd, (t1, [])) := by
  show J G 9 (K + 32) (S + 7000) 2257 [(5, .int (nI c)), (0, .ref b), (1, .ref (wad (gB G) 0)), (2, .ref (wad (gB G) 22)), (3, .ref (wad (gB G) 37)), (4, .ref (wad (gB G) 38))] [] _
  obtain ⟨X2, hx, hy, hI2⟩ := op_isSafe hI
  refine J.weak (kc := K + 32) (ks := S + 7000) (by omega) (by omega) ?_
  refine J.weak (kc := K) (ks := S) (by omega) (by omega) ?_
  refine j_aload_n hG 2 (dt dtL_law_22 30 rfl) rfl rfl ?_
  refine j_callV hG (kc := K) (ks := S) (ct_X7_isSafe hG.2.2.1 (gB G) _ _ _ _ _ hx) mf_X7_isSafe ml_L_246 0 (cv_0 _ _ _ _) rfl rfl (rest := []) rfl (Nat.le_of_ble_eq_true rfl) (dt dtL_law_22 31 rfl) (by decide) (by decide) (fun v9 σ2 q => ?_) (fun E σ2 q => q.elim)
  obtain ⟨rfl, rfl⟩ := q
  refine j_aload_n hG 3 (dt dtL_law_22 32 rfl) rfl rfl ?_
  refine j_callV hG (kc := K) (ks := S) (ct_X8_isSafe hG.2.2.1 (gB G) _ _ _ _ _ hy) mf_X8_isSafe ml_L_250 22 (cv_22 _ _ _ _) rfl rfl (rest := [.int 1]) rfl (Nat.le_of_ble_eq_true rfl) (dt dtL_law_22 33 rfl) (by decide) (by decide) (fun v9 σ2 q => ?_) (fun E σ2 q => q.elim)
  obtain ⟨rfl, rfl⟩ := q
  refine J_of (jl_icmp_eq hG (tgt := 2270) (dt dtL_law_22 34 rfl) (by decide) (fun _ => J_to ?_) (fun q => absurd rfl q))
  exact hk _ ⟨_, _, _, _, _, _, _, rfl, hI2⟩
