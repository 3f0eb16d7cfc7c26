/-! the law's loop -/
theorem sub_gt {c L : Nat} (hc : c < 5000) (hL : L ≤ 2560) : (nI L - 5 < nI c) ↔ L < c + 5 := by
  rw [Int32.lt_iff_toInt_lt, show (5 : Int32) = nI 5 from rfl, pk_sub_toInt (by omega) (by omega), nI_toInt (by omega)]
  omega
theorem j_tabK {G : wG} {own : String} {cc : ByteArray} {nL fr lo kc ks pc : Nat} {lv : List (Nat × Value)} {st : List Value} {σ : wS} (hG : wOk G own cc nL fr lo) {dflt : Int} {offs : Array Int} {len k : Nat} {off : Int} {tgt : Nat} (d : decode cc pc = .ok (.tableswitch dflt 0 33 offs, len)) (hk : k < 34) (ho : offs[k]? = some off) (ht : (pc : Int) + off = (tgt : Int)) (kk : J G nL kc ks tgt lv st σ) : J G nL kc ks pc lv (.int (nI k) :: st) σ := by
  have e : (nI k).toInt = (k : Int) := nI_toInt (by omega)
  refine j_tabIn hG d (by rw [e]; omega) (by rw [e]; omega) ?_ ht kk
  rw [e, show ((k : Int) - 0).toNat = k from by omega]
  exact ho
theorem j_tabZ {G : wG} {own : String} {cc : ByteArray} {nL fr lo kc ks pc : Nat} {lv : List (Nat × Value)} {st : List Value} {σ : wS} (hG : wOk G own cc nL fr lo) {dflt : Int} {offs : Array Int} {len k : Nat} {tgt : Nat} (d : decode cc pc = .ok (.tableswitch dflt 0 33 offs, len)) (hk : ¬ k < 34) (h6 : k < 64) (ht : (pc : Int) + dflt = (tgt : Int)) (kk : J G nL kc ks tgt lv st σ) : J G nL kc ks pc lv (.int (nI k) :: st) σ := by
  have e : (nI k).toInt = (k : Int) := nI_toInt (by omega)
  refine j_tabOut hG d (Or.inr ?_) ht kk
  rw [e]
  omega
theorem law_sw {G : wG} (hG : wOk G RL cL_law 9 10 282) {b L : Nat} {xs : Nat → Int32} (hS : LWS G b L xs) (hL : L ≤ 2560) {c : Nat} (hc : c + 4 < L) {σ : wS} (hσ : SI σ) {K S : Nat} (hk : ∀ σ, SI σ → J G 9 K S 2270 (lvM (gB G) b (nI c)) [] σ) {j : Nat} (hj : j < 64) : J G 9 (K + 32) (S + 7000) 44 (lvM (gB G) b (nI c)) [.int (nI j)] σ := by
  obtain ⟨d, T, X, Y, o, dd, t1, e, hI⟩ := hσ
  subst e
  by_cases h34 : j < 34
  · obtain rfl | rfl | rfl | rfl | rfl | rfl | rfl | rfl | rfl | rfl | rfl | rfl | rfl | rfl | rfl | rfl | rfl | rfl | rfl | rfl | rfl | rfl | rfl | rfl | rfl | rfl | rfl | rfl | rfl | rfl | rfl | rfl | rfl | rfl := (show j = 0 ∨ j = 1 ∨ j = 2 ∨ j = 3 ∨ j = 4 ∨ j = 5 ∨ j = 6 ∨ j = 7 ∨ j = 8 ∨ j = 9 ∨ j = 10 ∨ j = 11 ∨ j = 12 ∨ j = 13 ∨ j = 14 ∨ j = 15 ∨ j = 16 ∨ j = 17 ∨ j = 18 ∨ j = 19 ∨ j = 20 ∨ j = 21 ∨ j = 22 ∨ j = 23 ∨ j = 24 ∨ j = 25 ∨ j = 26 ∨ j = 27 ∨ j = 28 ∨ j = 29 ∨ j = 30 ∨ j = 31 ∨ j = 32 ∨ j = 33 from by omega)
    · exact j_tabK hG (off := 152) (tgt := 196) (dt dtL_law_0 27 rfl) h34 rfl (by decide) (g_law_0 hG hS hL hc hI hk)
    · exact j_tabK hG (off := 196) (tgt := 240) (dt dtL_law_0 27 rfl) h34 rfl (by decide) (g_law_1 hG hS hL hc hI hk)
    · exact j_tabK hG (off := 252) (tgt := 296) (dt dtL_law_0 27 rfl) h34 rfl (by decide) (g_law_2 hG hS hL hc hI hk)
    · exact j_tabK hG (off := 320) (tgt := 364) (dt dtL_law_0 27 rfl) h34 rfl (by decide) (g_law_3 hG hS hL hc hI hk)
    · exact j_tabK hG (off := 388) (tgt := 432) (dt dtL_law_0 27 rfl) h34 rfl (by decide) (g_law_4 hG hS hL hc hI hk)
    · exact j_tabK hG (off := 482) (tgt := 526) (dt dtL_law_0 27 rfl) h34 rfl (by decide) (g_law_5 hG hS hL hc hI hk)
    · exact j_tabK hG (off := 538) (tgt := 582) (dt dtL_law_0 27 rfl) h34 rfl (by decide) (g_law_6 hG hS hL hc hI hk)
    · exact j_tabK hG (off := 608) (tgt := 652) (dt dtL_law_0 27 rfl) h34 rfl (by decide) (g_law_7 hG hS hL hc hI hk)
    · exact j_tabK hG (off := 676) (tgt := 720) (dt dtL_law_0 27 rfl) h34 rfl (by decide) (g_law_8 hG hS hL hc hI hk)
    · exact j_tabK hG (off := 744) (tgt := 788) (dt dtL_law_0 27 rfl) h34 rfl (by decide) (g_law_9 hG hS hL hc hI hk)
    · exact j_tabK hG (off := 840) (tgt := 884) (dt dtL_law_0 27 rfl) h34 rfl (by decide) (g_law_10 hG hS hL hc hI hk)
    · exact j_tabK hG (off := 908) (tgt := 952) (dt dtL_law_0 27 rfl) h34 rfl (by decide) (g_law_11 hG hS hL hc hI hk)
    · exact j_tabK hG (off := 976) (tgt := 1020) (dt dtL_law_0 27 rfl) h34 rfl (by decide) (g_law_12 hG hS hL hc hI hk)
    · exact j_tabK hG (off := 989) (tgt := 1033) (dt dtL_law_0 27 rfl) h34 rfl (by decide) (g_law_13 hG hS hL hc hI hk)
    · exact j_tabK hG (off := 1052) (tgt := 1096) (dt dtL_law_0 27 rfl) h34 rfl (by decide) (g_law_14 hG hS hL hc hI hk)
    · exact j_tabK hG (off := 1108) (tgt := 1152) (dt dtL_law_0 27 rfl) h34 rfl (by decide) (g_law_15 hG hS hL hc hI hk)
    · exact j_tabK hG (off := 1121) (tgt := 1165) (dt dtL_law_0 27 rfl) h34 rfl (by decide) (g_law_16 hG hS hL hc hI hk)
    · exact j_tabK hG (off := 1189) (tgt := 1233) (dt dtL_law_0 27 rfl) h34 rfl (by decide) (g_law_17 hG hS hL hc hI hk)
    · exact j_tabK hG (off := 1257) (tgt := 1301) (dt dtL_law_0 27 rfl) h34 rfl (by decide) (g_law_18 hG hS hL hc hI hk)
    · exact j_tabK hG (off := 1300) (tgt := 1344) (dt dtL_law_0 27 rfl) h34 rfl (by decide) (g_law_19 hG hS hL hc hI hk)
    · exact j_tabK hG (off := 1366) (tgt := 1410) (dt dtL_law_0 27 rfl) h34 rfl (by decide) (g_law_20 hG hS hL hc hI hk)
    · exact j_tabK hG (off := 1431) (tgt := 1475) (dt dtL_law_0 27 rfl) h34 rfl (by decide) (g_law_21 hG hS hL hc hI hk)
    · exact j_tabK hG (off := 1475) (tgt := 1519) (dt dtL_law_0 27 rfl) h34 rfl (by decide) (g_law_22 hG hS hL hc hI hk)
    · exact j_tabK hG (off := 1531) (tgt := 1575) (dt dtL_law_0 27 rfl) h34 rfl (by decide) (g_law_23 hG hS hL hc hI hk)
    · exact j_tabK hG (off := 1618) (tgt := 1662) (dt dtL_law_0 27 rfl) h34 rfl (by decide) (g_law_24 hG hS hL hc hI hk)
    · exact j_tabK hG (off := 1698) (tgt := 1742) (dt dtL_law_0 27 rfl) h34 rfl (by decide) (g_law_25 hG hS hL hc hI hk)
    · exact j_tabK hG (off := 1766) (tgt := 1810) (dt dtL_law_0 27 rfl) h34 rfl (by decide) (g_law_26 hG hS hL hc hI hk)
    · exact j_tabK hG (off := 1834) (tgt := 1878) (dt dtL_law_0 27 rfl) h34 rfl (by decide) (g_law_27 hG hS hL hc hI hk)
    · exact j_tabK hG (off := 1890) (tgt := 1934) (dt dtL_law_0 27 rfl) h34 rfl (by decide) (g_law_28 hG hS hL hc hI hk)
    · exact j_tabK hG (off := 1977) (tgt := 2021) (dt dtL_law_0 27 rfl) h34 rfl (by decide) (g_law_29 hG hS hL hc hI hk)
    · exact j_tabK hG (off := 2033) (tgt := 2077) (dt dtL_law_0 27 rfl) h34 rfl (by decide) (g_law_30 hG hS hL hc hI hk)
    · exact j_tabK hG (off := 2089) (tgt := 2133) (dt dtL_law_0 27 rfl) h34 rfl (by decide) (g_law_31 hG hS hL hc hI hk)
    · exact j_tabK hG (off := 2145) (tgt := 2189) (dt dtL_law_0 27 rfl) h34 rfl (by decide) (g_law_32 hG hS hL hc hI hk)
    · exact j_tabK hG (off := 2213) (tgt := 2257) (dt dtL_law_0 27 rfl) h34 rfl (by decide) (g_law_33 hG hS hL hc hI hk)
  · exact j_tabZ hG (tgt := 2270) (dt dtL_law_0 27 rfl) h34 hj (by decide) (J.weak (by omega) (by omega) (hk _ ⟨_, _, _, _, _, _, _, rfl, hI⟩))
theorem law_loop {G : wG} (hG : wOk G RL cL_law 9 10 282) {b L : Nat} {xs : Nat → Int32} (hS : LWS G b L xs) (hL : L ≤ 2560) (hend : ∀ (kc ks c : Nat) (σ : wS), SI σ → J G 9 kc ks 2276 (lvM (gB G) b (nI c)) [] σ) : ∀ (r c : Nat), L < c + 5 * r + 5 → c ≤ L → ∀ σ, SI σ → J G 9 (32 * r) (7000 * r) 28 (lvM (gB G) b (nI c)) [] σ := by
  intro r
  induction r with
  | zero =>
    intro c h1 h2 σ hσ
    show J G 9 _ _ 28 [(5, .int (nI c)), (0, .ref b), (1, .ref (wad (gB G) 0)), (2, .ref (wad (gB G) 22)), (3, .ref (wad (gB G) 37)), (4, .ref (wad (gB G) 38))] [] σ
    refine j_iload hG 0 (dt dtL_law_0 16 rfl) rfl ?_
    refine j_aload_n hG 1 (dt dtL_law_0 17 rfl) rfl rfl ?_
    refine j_slen hG hS (dt dtL_law_0 18 rfl) ?_
    refine j_iconst hG (v := 5) (dt dtL_law_0 19 rfl) (by decide) ?_
    refine j_isub hG (dt dtL_law_0 20 rfl) ?_
    exact J_of (jl_icmp_gt hG (tgt := 2276) (dt dtL_law_0 21 rfl) (by decide) (fun _ => J_to (hend _ _ c σ hσ)) (fun q => absurd ((sub_gt (by omega) hL).mpr (by omega)) q))
  | succ r ih =>
    intro c h1 h2 σ hσ
    show J G 9 (32 * r + 32) (7000 * r + 7000) 28 [(5, .int (nI c)), (0, .ref b), (1, .ref (wad (gB G) 0)), (2, .ref (wad (gB G) 22)), (3, .ref (wad (gB G) 37)), (4, .ref (wad (gB G) 38))] [] σ
    refine j_iload hG 0 (dt dtL_law_0 16 rfl) rfl ?_
    refine j_aload_n hG 1 (dt dtL_law_0 17 rfl) rfl rfl ?_
    refine j_slen hG hS (dt dtL_law_0 18 rfl) ?_
    refine j_iconst hG (v := 5) (dt dtL_law_0 19 rfl) (by decide) ?_
    refine j_isub hG (dt dtL_law_0 20 rfl) ?_
    refine J_of (jl_icmp_gt hG (tgt := 2276) (dt dtL_law_0 21 rfl) (by decide) (fun _ => J_to (hend _ _ c σ hσ)) (fun q => J_to ?_))
    have hc : c + 4 < L := by
      have := mt (sub_gt (c := c) (by omega) hL).mpr q
      omega
    refine j_aload_n hG 1 (dt dtL_law_0 22 rfl) rfl rfl ?_
    refine j_iload hG 0 (dt dtL_law_0 23 rfl) rfl ?_
    refine j_sld hG hS c rfl (by omega) hL (dt dtL_law_0 24 rfl) ?_
    refine j_bipush hG (v := 63) (dt dtL_law_0 25 rfl) (by decide) ?_
    refine j_iand hG (dt dtL_law_0 26 rfl) ?_
    obtain ⟨j, hj, e⟩ := pk_andE (xs c) (m := 63) 6 (by decide)
    rw [e]
    refine law_sw hG hS hL hc hσ (fun σ9 h9 => ?_) (show j < 64 from hj)
    show J G 9 _ _ 2270 [(5, .int (nI c)), (0, .ref b), (1, .ref (wad (gB G) 0)), (2, .ref (wad (gB G) 22)), (3, .ref (wad (gB G) 37)), (4, .ref (wad (gB G) 38))] [] σ9
    refine j_iinc hG 0 (v := nI (c + 5)) (lv' := [(5, .int (nI (c + 5))), (0, .ref b), (1, .ref (wad (gB G) 0)), (2, .ref (wad (gB G) 22)), (3, .ref (wad (gB G) 37)), (4, .ref (wad (gB G) 38))]) (dt dtL_law_22 37 rfl) rfl (by rw [show Int32.ofInt 5 = nI 5 from rfl, nI_add]) (by decide) rfl ?_
    refine j_goto hG (tgt := 28) (dt dtL_law_22 38 rfl) (by decide) ?_
    exact ih (c + 5) (by omega) (by omega) σ9 h9
