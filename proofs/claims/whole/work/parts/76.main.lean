/-! the law, from its entry to its end -/
abbrev gWith (G : wG) (ad : Nat → Nat) : wG := (G.1, G.2.1, G.2.2.1, G.2.2.2.1, ((gB G).1, ad, (gB G).2.2))
set_option maxRecDepth 8000 in
theorem law_entry {G : wG} (hG : wOk G RL cL_law 9 10 282) (hX : wXtra (gs G)) {b : Nat} (K : ∀ ad : Nat → Nat, J (gWith G ad) 9 (32 * 512) (7000 * 512) 28 (lvM (gB (gWith G ad)) b (nI 0)) [] s0) : JL G 9 603072 7215210 0 [(0, .ref b)] [] [] := by
  refine JL.weak (kc := 16422 + 1) (ks := 3589516 + 8) (by omega) (by omega) ?_
  refine jl_new hG cl_X7 (fs := [.null, .null, .null, .null, .null, .null, .null, .int 0]) (wTs_in 68 (by decide +kernel) rfl) (wTs_in 69 (by decide +kernel) rfl) (wTs_in 37 (by decide +kernel) rfl) (by decide) (dt dtL_law_0 0 rfl) (fun a0 => ?_)
  refine jl_dup hG (dt dtL_law_0 1 rfl) rfl ?_
  refine JL.weak (kc := 16401 + 21) (ks := 3586322 + 3194) (by omega) (by omega) ?_
  refine jl_callIE hG hX (kc := 16401) (ks := 3586322) (k_Loom hG.2.2.1) mi_X7_init ml_L_128 rfl rfl rfl (rest := [.ref a0]) (Nat.le_of_ble_eq_true rfl) (dt dtL_law_0 2 rfl) (by decide) (by decide) (fun v w h => ?_)
  obtain ⟨rfl, p1, p1_0, p3, p3_0, p3_1, p3_2, p3_3, p8, p8_0, p10, p10_0, p10_1, p13, p13_0, p13_1, p16, p16_0, p16_1, p16_2, p16_3, p21, rfl⟩ := h
  refine jl_astore_n hG (lv' := [(1, .ref a0), (0, .ref b)]) (dt dtL_law_0 3 rfl) rfl (by decide) rfl ?_
  refine JL.weak (kc := 16400 + 1) (ks := 3586296 + 26) (by omega) (by omega) ?_
  refine jl_new hG cl_X8 (fs := [.null, .null, .null, .null, .null, .null, .null, .null, .null, .null, .null, .null, .null, .null, .int 0, .int 0, .int 0, .int 0, .int 0, .int 0, .int 0, .int 0, .int 0, .int 0, .int 0, .int 0]) (wTs_in 1214 (by decide +kernel) rfl) (wTs_in 1215 (by decide +kernel) rfl) (wTs_in 43 (by decide +kernel) rfl) (by decide) (dt dtL_law_0 4 rfl) (fun m0 => ?_)
  refine jl_dup hG (dt dtL_law_0 5 rfl) rfl ?_
  refine JL.weak (kc := 16386 + 14) (ks := 3584002 + 2294) (by omega) (by omega) ?_
  refine jl_callI hG (kc := 16386) (ks := 3584002) (k_Model hG.2.2.1) mi_X8_init ml_L_131 rfl rfl rfl (rest := [.ref m0]) (Nat.le_of_ble_eq_true rfl) (dt dtL_law_0 6 rfl) (by decide) (by decide) (fun v w h => ?_)
  obtain ⟨rfl, q1, q2, q3, q4, q5, q6, q7, q8, q9, q10, q11, q12, q13, q14, rfl⟩ := h
  refine jl_astore_n hG (lv' := [(2, .ref m0), (1, .ref a0), (0, .ref b)]) (dt dtL_law_0 7 rfl) rfl (by decide) rfl ?_
  refine jl_iconst hG (v := 1) (dt dtL_law_0 8 rfl) (by decide) ?_
  refine JL.weak (kc := 16385 + 1) (ks := 3584001 + 1) (by omega) (by omega) ?_
  refine jl_newa hG (atype := .long) (N := 1) 5 rfl (wTs_in 1557 (by decide +kernel) rfl) rfl (1, .inr (.inl (fun _ => 0))) (fun _ => rfl) (by decide) (by decide) (Nat.le_of_ble_eq_true rfl) (dt dtL_law_0 9 rfl) (fun r1 => ?_)
  refine jl_astore_n hG (lv' := [(3, .ref r1), (2, .ref m0), (1, .ref a0), (0, .ref b)]) (dt dtL_law_0 10 rfl) rfl (by decide) rfl ?_
  refine jl_iconst hG (v := 1) (dt dtL_law_0 11 rfl) (by decide) ?_
  refine JL.weak (kc := 16384 + 1) (ks := 3584000 + 1) (by omega) (by omega) ?_
  refine jl_newa hG (atype := .double) (N := 1) 6 rfl (wTs_in 1558 (by decide +kernel) rfl) rfl (1, .inr (.inr (.inr (.inl (fun _ => 0))))) (fun _ => rfl) (by decide) (by decide) (Nat.le_of_ble_eq_true rfl) (dt dtL_law_0 12 rfl) (fun r2 => ?_)
  refine jl_astore hG (lv' := [(4, .ref r2), (3, .ref r1), (2, .ref m0), (1, .ref a0), (0, .ref b)]) (dt dtL_law_0 13 rfl) (by decide) rfl ?_
  refine jl_iconst hG (v := nI 0) (dt dtL_law_0 14 rfl) (by decide) ?_
  refine jl_istore hG (lv' := [(5, .int (nI 0)), (4, .ref r2), (3, .ref r1), (2, .ref m0), (1, .ref a0), (0, .ref b)]) (dt dtL_law_0 15 rfl) (by decide) rfl ?_
  refine jl_lv (lv' := [(5, .int (nI 0)), (0, .ref b), (1, .ref a0), (2, .ref m0), (3, .ref r1), (4, .ref r2)]) [0, 5, 4, 3, 2, 1] rfl ?_
  have h := J_to (K (fun k => [a0, p1, p1_0, p3, p3_0, p3_1, p3_2, p3_3, p8, p8_0, p10, p10_0, p10_1, p13, p13_0, p13_1, p16, p16_0, p16_1, p16_2, p16_3, p21, m0, q1, q2, q3, q4, q5, q6, q7, q8, q9, q10, q11, q12, q13, q14, r1, r2].getD k 0))
  rw [wl_0] at h
  refine JL.eqw (ws' := wst (gB (gWith G (fun k => [a0, p1, p1_0, p3, p3_0, p3_1, p3_2, p3_3, p8, p8_0, p10, p10_0, p10_1, p13, p13_0, p13_1, p16, p16_0, p16_1, p16_2, p16_3, p21, m0, q1, q2, q3, q4, q5, q6, q7, q8, q9, q10, q11, q12, q13, q14, r1, r2].getD k 0))) s0) ?_ h
  unfold wst
  rw [show wTf s0.1 s0.2.2.2.2.1 = fun _ => none from wTf0 _, show wo1 s0.2.2.1 = fun _ => 0 from wo1_0, show wo2 s0.2.2.2.1 = fun _ => 0 from wo2_0]
  rfl
theorem law_end {G : wG} (hG : wOk G RL cL_law 9 10 282) {b : Nat} (hA : (gB G).1 = (gs G).heap.size) (hmc : gmc G = 603072 ∧ gms G = 7215210) (kR : ∀ (H : Heap) (ls : Array Slot), W (gp G) (gl G) (ge G) (gR G) (gs G) (gm G) (ga G) (gbl G) (gme G) (gc G) H [] 603072 7215210 (gQ G) (F0 (gm G) 2277 ls [.int 1])) : ∀ (kc ks c : Nat) (σ : wS), SI σ → J G 9 kc ks 2276 (lvM (gB G) b (nI c)) [] σ := by
  intro kc ks c σ _
  refine j_iconst hG (v := 1) (dt dtL_law_22 39 rfl) (by decide) ?_
  intro ls H locs cells slots h1 h2 h3 h4 h5 h6
  refine va_forget (fun q hq => ?_) (W.widen (k := 603072) (n := 7215210) (by have := hmc.1; omega) (by have := hmc.2; omega) (kR H ls))
  have h9 : (gB G).1 ≤ q.base := h4.2.2 q hq
  rw [hA] at h9
  exact h9
theorem whole_start {p : Program} {e : Env} {s : State} {m : MethodId} {below : List Frame} {meth : Method} {c : Code} (l : Launch) (hflags : l.flags = flags0) {b L : Nat} {xs : Nat → Int32} (hL : L ≤ 2560) (C0 : lw_At p s m meth c b L xs) : W p l e room_1 s m #[Value.ref b] below meth c s.heap [] 0 0 (lw_Z below #[Value.ref b] s) (entryFrame m ([Value.ref b] : List Value).toArray 9) := by
  obtain ⟨hx, hb, hr, hml, hown, hts, hX, hbl, hlocks, hgv⟩ := C0
  have hl0 : l.stackTraces = false := by
    unfold Launch.stackTraces
    rw [hflags]
    decide
  obtain ⟨dC, dI, dA, sa, hst⟩ := st_all hts hgv
  have hd0 := Drawn.sameBut.refl s.drawn lw_cs
  have hG : ∀ ad : Nat → Nat, wOk ((p, l, e, room_1, s), (m, #[Value.ref b], below, meth, c), lw_Z below #[Value.ref b] s, (603072, 7215210), (s.heap.size, ad, dC, dI, dA, sa)) RL cL_law 9 10 282 := fun ad =>
    ⟨⟨hx, hb, hml, hown, wW.of hts⟩, (hst ad).1, hl0, (hst ad).2, Nat.le_refl _, hlocks, Nat.le_of_ble_eq_true rfl, Nat.le_of_ble_eq_true rfl, Nat.le_refl _, Nat.le_refl _⟩
  have hlv := lv_entry ([.ref b]) (n := 9) (Nat.le_of_ble_eq_true rfl)
  rw [lg_entry_eq]
  refine law_entry (hG (fun _ => 0)) (st_x hts) (b := b) (fun ad => ?_) _ s.heap [] 0 0 hlv (fun k q h => by simp at h) ⟨fun i j p q h => by simp at h, fun k q h => by simp at h⟩ va_S.rf (by show 0 + 603072 ≤ 603072; omega) (by show 0 + 7215210 ≤ 7215210; omega)
  exact law_loop (hG ad) ⟨hX, hbl, Nat.not_le.mpr hbl⟩ hL (law_end (hG ad) rfl ⟨rfl, rfl⟩ (fun H ls => W.base (lw_ret hd0 hx hb hr hlocks (dt dtL_law_22 40 rfl)))) 512 0 (by omega) (Nat.zero_le _) s0 SI_0
