/-! the lines, as the class and the reference build them -/
theorem wl_app (B : wB) (X Y : wM) (o : Int64) (dd : UInt64) (t1 : Nat → Nat) (ex l : va_W) : wl B (X, Y, o, dd, (t1, ex ++ l)) = wl B (X, Y, o, dd, (t1, ex)) ++ l := by
  show wst B _ ++ (_ ++ (ex ++ l)) = (wst B _ ++ (_ ++ ex)) ++ l
  rw [List.append_assoc, List.append_assoc]
  rfl
def ptK (P : Nat) : Prop := P = 16 ∨ P = 34 ∨ P = 70 ∨ P = 142 ∨ P = 286 ∨ P = 574 ∨ P = 1150
def ptc (P : Nat) : Nat := if P = 16 then 6 else if P = 34 then 5 else if P = 70 then 4 else if P = 142 then 3 else if P = 286 then 2 else if P = 574 then 1 else 0
def pts (P : Nat) : Nat := if P = 16 then 2256 else if P = 34 then 2222 else if P = 70 then 2152 else if P = 142 then 2010 else if P = 286 then 1724 else if P = 574 then 1150 else 0
theorem pt_le {P : Nat} (h : ptK P) : P ≤ 1150 := by unfold ptK at h; omega
theorem pt_step {q P : Nat} (h : ptK P) (hq : q ≤ 1150) : ptK (gwP q P) ∧ ptc (gwP q P) + gwc q P ≤ ptc P ∧ pts (gwP q P) + gws q P ≤ pts P := by
  unfold gwP gwc gws
  by_cases e : q ≤ P
  · rw [if_pos e, if_pos e, if_pos e]
    exact ⟨h, Nat.le_refl _, Nat.le_refl _⟩
  · rw [if_neg e, if_neg e, if_neg e]
    rcases h with rfl | rfl | rfl | rfl | rfl | rfl | rfl
    · exact ⟨Or.inr (Or.inl rfl), by decide, by decide⟩
    · exact ⟨Or.inr (Or.inr (Or.inl rfl)), by decide, by decide⟩
    · exact ⟨Or.inr (Or.inr (Or.inr (Or.inl rfl))), by decide, by decide⟩
    · exact ⟨Or.inr (Or.inr (Or.inr (Or.inr (Or.inl rfl)))), by decide, by decide⟩
    · exact ⟨Or.inr (Or.inr (Or.inr (Or.inr (Or.inr (Or.inl rfl))))), by decide, by decide⟩
    · exact ⟨Or.inr (Or.inr (Or.inr (Or.inr (Or.inr (Or.inr rfl))))), by decide, by decide⟩
    · omega
theorem l_dig_ex {v : Int32} {D : List Int32} (h : l_dig v = some D) : ∃ x, x < 100 ∧ v = nI x ∧ D = l_dec x := by
  unfold l_dig at h
  by_cases e : inb v 100 = true
  · obtain ⟨x, hx, rfl⟩ := inb_ex e
    rw [if_pos e, nI_clamp (by omega)] at h
    exact ⟨x, hx, rfl, (Option.some.inj h).symm⟩
  · rw [if_neg e] at h; cases h
theorem g_lo_38 {G : wG} (hG : wOk G RX5 cX5_lineOf 5 6 171) {w0 : va_W} {sb a P s : Nat} {f : Nat → Int32} {Lc : List Int32} {bl hd : Int32} {k p : Nat} {kc ks : Nat} (hT : sbT f P Lc) (hs : s < 128) (hP : P ≤ 2000) (hk : ∀ a2 f2, sbT f2 (gwP (Lc.length + 1) P) (Lc ++ [nI s]) → JL G 5 kc ks 42 [(4, .int (nI k)), (0, .int bl), (1, .ref p), (2, .int hd), (3, .ref sb)] [] (sbw (gB G) w0 sb a2 (gwP (Lc.length + 1) P) f2 (Lc ++ [nI s]))) : JL G 5 (kc + gwc (Lc.length + 1) P) (ks + gws (Lc.length + 1) P) 38 [(4, .int (nI k)), (0, .int bl), (1, .ref p), (2, .int hd), (3, .ref sb)] [.int (nI s), .ref sb] (sbw (gB G) w0 sb a P f Lc) := by
  refine jl_callV hG (kc := kc) (ks := ks) (mc := gwc (Lc.length + 1) P) (ms := gws (Lc.length + 1) P) (c_appC hG.2.2.1 hT hs hP) ⟨mf_J4_append_cf468.1, mf_J4_append_cf468.2.1⟩ ml_X5_43 (w0.length + 0) ((app_get _ _ rfl 0).trans rfl) rfl (hG.word mf_J4_append_cf468.2.2) rfl (rest := []) rfl (Nat.le_of_ble_eq_true rfl) (dt dtX5_lineOf_0 21 rfl) (by decide) (by decide) (fun v w h => ?_)
  obtain ⟨rfl, a2, f2, rfl, hT2⟩ := h
  refine jl_pop hG (dt dtX5_lineOf_0 22 rfl) rfl ?_
  exact hk a2 f2 hT2
theorem g_lo_50 {G : wG} (hG : wOk G RX5 cX5_lineOf 5 6 171) {w0 : va_W} {sb a P x : Nat} {f : Nat → Int32} {Lc : List Int32} {bl hd : Int32} {k p : Nat} {kc ks : Nat} (hT : sbT f P Lc) (hx : x < 100) (hP : P ≤ 2000) (hk : ∀ a2 f2, sbT f2 (gwP (Lc.length + dgn x) P) (Lc ++ l_dec x) → JL G 5 kc ks 54 [(4, .int (nI k)), (0, .int bl), (1, .ref p), (2, .int hd), (3, .ref sb)] [] (sbw (gB G) w0 sb a2 (gwP (Lc.length + dgn x) P) f2 (Lc ++ l_dec x))) : JL G 5 (kc + gwc (Lc.length + dgn x) P) (ks + gws (Lc.length + dgn x) P) 50 [(4, .int (nI k)), (0, .int bl), (1, .ref p), (2, .int hd), (3, .ref sb)] [.int (nI x), .ref sb] (sbw (gB G) w0 sb a P f Lc) := by
  refine jl_callV hG (kc := kc) (ks := ks) (mc := gwc (Lc.length + dgn x) P) (ms := gws (Lc.length + dgn x) P) (c_appI hG.2.2.1 hT hx hP) ⟨mf_J4_append_bf812.1, mf_J4_append_bf812.2.1⟩ ml_X5_47 (w0.length + 0) ((app_get _ _ rfl 0).trans rfl) rfl (hG.word mf_J4_append_bf812.2.2) rfl (rest := []) rfl (Nat.le_of_ble_eq_true rfl) (dt dtX5_lineOf_0 28 rfl) (by decide) (by decide) (fun v w h => ?_)
  obtain ⟨rfl, a2, f2, rfl, hT2⟩ := h
  refine jl_pop hG (dt dtX5_lineOf_0 29 rfl) rfl ?_
  exact hk a2 f2 hT2
theorem g_lo_70 {G : wG} (hG : wOk G RX5 cX5_lineOf 5 6 171) {w0 : va_W} {sb a P s : Nat} {f : Nat → Int32} {Lc : List Int32} {bl hd : Int32} {k p : Nat} {kc ks : Nat} (hT : sbT f P Lc) (hs : s < 128) (hP : P ≤ 2000) (hk : ∀ a2 f2, sbT f2 (gwP (Lc.length + 1) P) (Lc ++ [nI s]) → JL G 5 kc ks 74 [(4, .int (nI k)), (0, .int bl), (1, .ref p), (2, .int hd), (3, .ref sb)] [] (sbw (gB G) w0 sb a2 (gwP (Lc.length + 1) P) f2 (Lc ++ [nI s]))) : JL G 5 (kc + gwc (Lc.length + 1) P) (ks + gws (Lc.length + 1) P) 70 [(4, .int (nI k)), (0, .int bl), (1, .ref p), (2, .int hd), (3, .ref sb)] [.int (nI s), .ref sb] (sbw (gB G) w0 sb a P f Lc) := by
  refine jl_callV hG (kc := kc) (ks := ks) (mc := gwc (Lc.length + 1) P) (ms := gws (Lc.length + 1) P) (c_appC hG.2.2.1 hT hs hP) ⟨mf_J4_append_cf468.1, mf_J4_append_cf468.2.1⟩ ml_X5_43 (w0.length + 0) ((app_get _ _ rfl 0).trans rfl) rfl (hG.word mf_J4_append_cf468.2.2) rfl (rest := []) rfl (Nat.le_of_ble_eq_true rfl) (dt dtX5_lineOf_0 39 rfl) (by decide) (by decide) (fun v w h => ?_)
  obtain ⟨rfl, a2, f2, rfl, hT2⟩ := h
  refine jl_pop hG (dt dtX5_lineOf_0 40 rfl) rfl ?_
  exact hk a2 f2 hT2
theorem g_lo_54 {G : wG} (hG : wOk G RX5 cX5_lineOf 5 6 171) {w0 : va_W} {sb a P : Nat} {f : Nat → Int32} {Lc : List Int32} {bl hd : Int32} {k p kc ks : Nat} (hT : sbT f P Lc) (hP : P ≤ 2000) (hk : ∀ a2 f2, sbT f2 (gwP (Lc.length + 1) P) (Lc ++ [if nI k - nI k / 4 * 4 = 3 then 59 else 44]) → JL G 5 kc ks 11 [(4, .int (nI (k + 1))), (0, .int bl), (1, .ref p), (2, .int hd), (3, .ref sb)] [] (sbw (gB G) w0 sb a2 (gwP (Lc.length + 1) P) f2 (Lc ++ [if nI k - nI k / 4 * 4 = 3 then 59 else 44]))) : JL G 5 (kc + gwc (Lc.length + 1) P) (ks + gws (Lc.length + 1) P) 54 [(4, .int (nI k)), (0, .int bl), (1, .ref p), (2, .int hd), (3, .ref sb)] [] (sbw (gB G) w0 sb a P f Lc) := by
  refine jl_aload_n hG 4 (dt dtX5_lineOf_0 30 rfl) rfl rfl ?_
  refine jl_iload hG 0 (dt dtX5_lineOf_0 31 rfl) rfl ?_
  refine jl_iconst hG (v := 4) (dt dtX5_lineOf_0 32 rfl) (by decide) ?_
  refine jl_irem hG (dt dtX5_lineOf_0 33 rfl) (by decide) ?_
  refine jl_iconst hG (v := 3) (dt dtX5_lineOf_0 34 rfl) (by decide) ?_
  refine jl_icmp_ne hG (tgt := 68) (dt dtX5_lineOf_0 35 rfl) (by decide) (fun q => ?_) (fun q => ?_)
  · refine jl_bipush hG (v := 44) (dt dtX5_lineOf_0 38 rfl) (by decide) ?_
    rw [if_neg q] at hk
    refine g_lo_70 hG (s := 44) hT (by omega) hP (fun a2 f2 h2 => ?_)
    refine jl_iinc hG 0 (v := nI (k + 1)) (lv' := [(4, .int (nI (k + 1))), (0, .int bl), (1, .ref p), (2, .int hd), (3, .ref sb)]) (dt dtX5_lineOf_0 41 rfl) rfl (nI_1 k) (by decide) rfl ?_
    refine jl_goto hG (tgt := 11) (dt dtX5_lineOf_0 42 rfl) (by decide) ?_
    exact hk a2 f2 h2
  · refine jl_bipush hG (v := 59) (dt dtX5_lineOf_0 36 rfl) (by decide) ?_
    refine jl_goto hG (tgt := 70) (dt dtX5_lineOf_0 37 rfl) (by decide) ?_
    rw [if_pos q] at hk
    refine g_lo_70 hG (s := 59) hT (by omega) hP (fun a2 f2 h2 => ?_)
    refine jl_iinc hG 0 (v := nI (k + 1)) (lv' := [(4, .int (nI (k + 1))), (0, .int bl), (1, .ref p), (2, .int hd), (3, .ref sb)]) (dt dtX5_lineOf_0 41 rfl) rfl (nI_1 k) (by decide) rfl ?_
    refine jl_goto hG (tgt := 11) (dt dtX5_lineOf_0 42 rfl) (by decide) ?_
    exact hk a2 f2 h2
theorem g_lo_loop {G : wG} (hG : wOk G RX5 cX5_lineOf 5 6 171) {X Y : wM} {o : Int64} {dd : UInt64} {t1 : Nat → Nat} {ex : va_W} {p k1 : Nat} {pf : Nat → Int32} {bl hd : Int32} {L : List Int32} (hp : (wl (gB G) (X, Y, o, dd, (t1, ex)))[k1]? = some (p, .inl (wdA (gB G) 0, 24, .inl pf))) {sb : Nat} (hE : wEndL G (some (.object "java/lang/String")) (fun v w => ∃ st b g, v = some (.ref st) ∧ w = (wl (gB G) (X, Y, o, dd, (t1, ex))) ++ [(st, .inr (0, [.ref b, .int 0, .int 0, .int 0])), (b, .inl (wdA (gB G) 4, L.length, .inl g))] ∧ ∀ j, j < L.length → g j = L.getD j 0)) : ∀ (n k a P : Nat) (f : Nat → Int32) (Lc : List Int32), k ≤ 24 → Lc.length ≤ 3 * k → ptK P → sbT f P Lc → x_line pf hd bl n (nI k) Lc = some L → JL G 5 (ptc P + 2) (pts P + 1154) 11 [(4, .int (nI k)), (0, .int bl), (1, .ref p), (2, .int hd), (3, .ref sb)] [] (sbw (gB G) (wl (gB G) (X, Y, o, dd, (t1, ex))) sb a P f Lc) := by
  intro n
  induction n with
  | zero => intro k a P f Lc _ _ _ _ h; cases h
  | succ n ih =>
    intro k a P f Lc hk24 hlen hK hT h
    rw [x_line] at h
    have hP := pt_le hK
    refine jl_iload hG 0 (dt dtX5_lineOf_0 6 rfl) rfl ?_
    refine jl_iload_n hG 1 (dt dtX5_lineOf_0 7 rfl) rfl rfl ?_
    refine jl_iconst hG (v := 4) (dt dtX5_lineOf_0 8 rfl) (by decide) ?_
    refine jl_imul hG (dt dtX5_lineOf_0 9 rfl) ?_
    refine jl_icmp_ge hG (tgt := 80) (dt dtX5_lineOf_0 10 rfl) (by decide) (fun q => ?_) (fun q => ?_)
    · rw [if_neg (Int32.not_lt.mpr q)] at h
      obtain rfl := Option.some.inj h
      refine jl_aload_n hG 4 (dt dtX5_lineOf_0 43 rfl) rfl rfl ?_
      refine JL.weak (kc := 0 + 2) (ks := 0 + (4 + Lc.length)) (by omega) (by omega) ?_
      refine jl_callV hG (kc := 0) (ks := 0) (mc := 2) (ms := 4 + Lc.length) (c_toStr hG.2.2.1 hT (by have := pt_le hK; omega)) ⟨mf_J4_toString_0e30d.1, mf_J4_toString_0e30d.2.1⟩ ml_X5_50 ((wl (gB G) (X, Y, o, dd, (t1, ex))).length + 0) ((app_get _ _ rfl 0).trans rfl) rfl (hG.word mf_J4_toString_0e30d.2.2) rfl (rest := []) rfl (Nat.le_of_ble_eq_true rfl) (dt dtX5_lineOf_0 44 rfl) (by decide) (by decide) (fun v w h => ?_)
      obtain ⟨st, b, g, rfl, rfl, hg⟩ := h
      refine JL.eqw (ws' := (wl (gB G) (X, Y, o, dd, (t1, ex))) ++ ([(sb, .inr (1, [.ref a, .int 0, .int 0, .int (nI Lc.length)])), (a, .inl (wdA (gB G) 4, P, .inl f))] ++ [(st, .inr (0, [.ref b, .int 0, .int 0, .int 0])), (b, .inl (wdA (gB G) 4, Lc.length, .inl g))])) rfl ?_
      refine JL.take ?_
      exact jl_aret hG hE (Or.inl ⟨_, rfl⟩) ⟨st, b, g, rfl, rfl, hg⟩ (dt dtX5_lineOf_0 45 rfl)
    · rw [if_pos (Int32.not_le.mp q)] at h
      refine jl_iload hG 0 (dt dtX5_lineOf_0 11 rfl) rfl ?_
      refine jl_aload_n hG 2 (dt dtX5_lineOf_0 12 rfl) rfl rfl ?_
      refine jl_alen hG (v := 24) k1 0 (app_lt hp) rfl rfl (dt dtX5_lineOf_0 13 rfl) ?_
      refine jl_icmp_ge hG (tgt := 80) (dt dtX5_lineOf_0 14 rfl) (by decide) (fun q => ?_) (fun q => ?_)
      · rw [if_neg (Int32.not_lt.mpr q)] at h
        obtain rfl := Option.some.inj h
        refine jl_aload_n hG 4 (dt dtX5_lineOf_0 43 rfl) rfl rfl ?_
        refine JL.weak (kc := 0 + 2) (ks := 0 + (4 + Lc.length)) (by omega) (by omega) ?_
        refine jl_callV hG (kc := 0) (ks := 0) (mc := 2) (ms := 4 + Lc.length) (c_toStr hG.2.2.1 hT (by have := pt_le hK; omega)) ⟨mf_J4_toString_0e30d.1, mf_J4_toString_0e30d.2.1⟩ ml_X5_50 ((wl (gB G) (X, Y, o, dd, (t1, ex))).length + 0) ((app_get _ _ rfl 0).trans rfl) rfl (hG.word mf_J4_toString_0e30d.2.2) rfl (rest := []) rfl (Nat.le_of_ble_eq_true rfl) (dt dtX5_lineOf_0 44 rfl) (by decide) (by decide) (fun v w h => ?_)
        obtain ⟨st, b, g, rfl, rfl, hg⟩ := h
        refine JL.eqw (ws' := (wl (gB G) (X, Y, o, dd, (t1, ex))) ++ ([(sb, .inr (1, [.ref a, .int 0, .int 0, .int (nI Lc.length)])), (a, .inl (wdA (gB G) 4, P, .inl f))] ++ [(st, .inr (0, [.ref b, .int 0, .int 0, .int 0])), (b, .inl (wdA (gB G) 4, Lc.length, .inl g))])) rfl ?_
        refine JL.take ?_
        exact jl_aret hG hE (Or.inl ⟨_, rfl⟩) ⟨st, b, g, rfl, rfl, hg⟩ (dt dtX5_lineOf_0 45 rfl)
      · rw [if_pos (Int32.not_le.mp q)] at h
        have hk : k < 24 := (nI_ltI (a := k) (b := 24) (by omega) (by omega)).mp (Int32.not_le.mp q)
        obtain ⟨y, hy, h⟩ := ob h
        refine jl_iload_n hG 3 (dt dtX5_lineOf_0 15 rfl) rfl rfl ?_
        refine jl_iload hG 0 (dt dtX5_lineOf_0 16 rfl) rfl ?_
        refine JL.eqw (ws' := wl (gB G) (X, Y, o, dd, (t1, ex ++ [(sb, .inr (1, [.ref a, .int 0, .int 0, .int (nI Lc.length)])), (a, .inl (wdA (gB G) 4, P, .inl f))]))) (wl_app _ _ _ _ _ _ _ _).symm ?_
        refine J_to (j_callS hG (kc := ptc P + 2) (ks := pts P + 1154) (ct_X0_has hG.2.2.1 (gB G) X Y o dd _ hy) mf_X0_has ml_X5_37 rfl rfl (rest := []) (Nat.le_of_ble_eq_true rfl) (dt dtX5_lineOf_0 17 rfl) (by decide) (by decide) (fun v σ2 q => ?_) (fun E σ2 q => q.elim))
        obtain ⟨rfl, rfl⟩ := q
        refine J_of (JL.eqw (ws' := sbw (gB G) (wl (gB G) (X, Y, o, dd, (t1, ex))) sb a P f Lc) (wl_app _ _ _ _ _ _ _ _) ?_)
        refine jl_if_eq hG (tgt := 45) (dt dtX5_lineOf_0 18 rfl) (by decide) (fun q => ?_) (fun q => ?_)
        · rw [if_pos q] at h
          obtain ⟨hv, h⟩ := wget_ok h
          obtain ⟨Dg, hD, h⟩ := ob h
          rw [nI_clamp (by omega)] at hD
          obtain ⟨x, hx, hx2, rfl⟩ := l_dig_ex hD
          obtain ⟨s1, s2, s3⟩ := pt_step (q := Lc.length + dgn x) hK (by have := l_dec_len x; have : dgn x ≤ 2 := (by unfold dgn; split <;> omega); omega)
          obtain ⟨z1, z2, z3⟩ := pt_step (q := (Lc ++ l_dec x).length + 1) s1 (by rw [List.length_append, l_dec_len]; have : dgn x ≤ 2 := (by unfold dgn; split <;> omega); omega)
          have hd2 : dgn x ≤ 2 := by unfold dgn; split <;> omega
          refine jl_aload_n hG 4 (dt dtX5_lineOf_0 24 rfl) rfl rfl ?_
          refine jl_aload_n hG 2 (dt dtX5_lineOf_0 25 rfl) rfl rfl ?_
          refine jl_iload hG 0 (dt dtX5_lineOf_0 26 rfl) rfl ?_
          refine jl_iald hG (v := nI x) k1 (app_lt hp) hv (by rw [nI_clamp (by omega)]; exact hx2) (dt dtX5_lineOf_0 27 rfl) ?_
          refine JL.weak (kc := (ptc (gwP ((Lc ++ l_dec x).length + 1) (gwP (Lc.length + dgn x) P)) + 2 + gwc ((Lc ++ l_dec x).length + 1) (gwP (Lc.length + dgn x) P)) + gwc (Lc.length + dgn x) P) (ks := (pts (gwP ((Lc ++ l_dec x).length + 1) (gwP (Lc.length + dgn x) P)) + 1154 + gws ((Lc ++ l_dec x).length + 1) (gwP (Lc.length + dgn x) P)) + gws (Lc.length + dgn x) P) (by omega) (by omega) ?_
          refine g_lo_50 hG (p := p) (bl := bl) (hd := hd) (k := k) hT hx (by omega) (fun a2 f2 h2 => ?_)
          refine g_lo_54 hG h2 (by have := pt_le s1; omega) (fun a3 f3 h3 => ?_)
          exact ih (k + 1) a3 _ f3 _ (by omega) (by rw [List.length_append, List.length_append, l_dec_len, List.length_singleton]; omega) z1 h3 (by rw [← nI_1]; exact h)
        · rw [if_neg q] at h
          obtain ⟨s1, s2, s3⟩ := pt_step (q := Lc.length + 1) hK (by omega)
          obtain ⟨z1, z2, z3⟩ := pt_step (q := (Lc ++ [nI 120]).length + 1) s1 (by rw [List.length_append, List.length_singleton]; omega)
          refine jl_aload_n hG 4 (dt dtX5_lineOf_0 19 rfl) rfl rfl ?_
          refine jl_bipush hG (v := nI 120) (dt dtX5_lineOf_0 20 rfl) (by decide) ?_
          refine JL.weak (kc := (ptc (gwP ((Lc ++ [nI 120]).length + 1) (gwP (Lc.length + 1) P)) + 2 + gwc ((Lc ++ [nI 120]).length + 1) (gwP (Lc.length + 1) P)) + gwc (Lc.length + 1) P) (ks := (pts (gwP ((Lc ++ [nI 120]).length + 1) (gwP (Lc.length + 1) P)) + 1154 + gws ((Lc ++ [nI 120]).length + 1) (gwP (Lc.length + 1) P)) + gws (Lc.length + 1) P) (by omega) (by omega) ?_
          refine g_lo_38 hG (p := p) (bl := bl) (hd := hd) (k := k) (s := 120) hT (by omega) (by omega) (fun a2 f2 h2 => ?_)
          refine jl_goto hG (tgt := 54) (dt dtX5_lineOf_0 23 rfl) (by decide) ?_
          refine g_lo_54 hG h2 (by have := pt_le s1; omega) (fun a3 f3 h3 => ?_)
          exact ih (k + 1) a3 _ f3 _ (by omega) (by rw [List.length_append, List.length_append, List.length_singleton, List.length_singleton]; omega) z1 h3 (by rw [← nI_1]; exact h)
theorem nw_X5 : Cond.classLink RX5 34 RJ4 ∈ wTs ∧ Cond.instantiable RJ4 4 ∈ wTs ∧ Cond.initialized RJ4 ∈ wTs := ⟨wTs_in 809 (by decide +kernel) rfl, wTs_in 810 (by decide +kernel) rfl, wTs_in 59 (by decide +kernel) rfl⟩
theorem nw_X8 : Cond.classLink RX8 191 RJ4 ∈ wTs ∧ Cond.instantiable RJ4 4 ∈ wTs ∧ Cond.initialized RJ4 ∈ wTs := ⟨wTs_in 1542 (by decide +kernel) rfl, wTs_in 810 (by decide +kernel) rfl, wTs_in 59 (by decide +kernel) rfl⟩
theorem g_lineOf {G : wG} (hG : wOk G RX5 cX5_lineOf 5 6 171) {X Y : wM} {o : Int64} {dd : UInt64} {t1 : Nat → Nat} {ex : va_W} {p k1 : Nat} {pf : Nat → Int32} {bl hd : Int32} {L : List Int32} (hp : (wl (gB G) (X, Y, o, dd, (t1, ex)))[k1]? = some (p, .inl (wdA (gB G) 0, 24, .inl pf))) (hE : wEndL G (some (.object "java/lang/String")) (fun v w => ∃ st b g, v = some (.ref st) ∧ w = (wl (gB G) (X, Y, o, dd, (t1, ex))) ++ [(st, .inr (0, [.ref b, .int 0, .int 0, .int 0])), (b, .inl (wdA (gB G) 4, L.length, .inl g))] ∧ ∀ j, j < L.length → g j = L.getD j 0)) (h0 : x_line pf hd bl 1000 0 [] = some L) : JL G 5 10 3430 0 [(0, .int bl), (1, .ref p), (2, .int hd)] [] (wl (gB G) (X, Y, o, dd, (t1, ex))) := by
  refine JL.weak (kc := (ptc 16 + 2 + 1) + 1) (ks := (pts 16 + 1154 + 16) + 4) (by decide) (by decide) ?_
  refine jl_new hG cl_J4 (fs := [.null, .int 0, .int 0, .int 0]) nw_X5.1 nw_X5.2.1 nw_X5.2.2 (by decide) (dt dtX5_lineOf_0 0 rfl) (fun sb => ?_)
  refine jl_dup hG (dt dtX5_lineOf_0 1 rfl) rfl ?_
  refine jl_callI hG (kc := ptc 16 + 2) (ks := pts 16 + 1154) (c_sbI hG.2.2.1) mi_J4_init_da8c8 ml_X5_36 rfl rfl rfl (rest := [.ref sb]) (Nat.le_of_ble_eq_true rfl) (dt dtX5_lineOf_0 2 rfl) (by decide) (by decide) (fun v w h => ?_)
  obtain ⟨rfl, a, f, rfl, hT⟩ := h
  refine jl_astore_n hG (lv' := [(3, .ref sb), (0, .int bl), (1, .ref p), (2, .int hd)]) (dt dtX5_lineOf_0 3 rfl) rfl (by decide) rfl ?_
  refine jl_iconst hG (v := nI 0) (dt dtX5_lineOf_0 4 rfl) (by decide) ?_
  refine jl_istore hG (lv' := [(4, .int (nI 0)), (3, .ref sb), (0, .int bl), (1, .ref p), (2, .int hd)]) (dt dtX5_lineOf_0 5 rfl) (by decide) rfl ?_
  refine jl_lv (lv' := [(4, .int (nI 0)), (0, .int bl), (1, .ref p), (2, .int hd), (3, .ref sb)]) [0, 2, 3, 4, 1] rfl ?_
  exact g_lo_loop hG hp hE 1000 0 a 16 f [] (by omega) (Nat.zero_le _) (Or.inl rfl) hT h0
theorem ct_lineOf {l : Launch} (hl : l.stackTraces = false) {B : wB} {X Y : wM} {o : Int64} {dd : UInt64} {t1 : Nat → Nat} {ex : va_W} {p k1 : Nat} {pf : Nat → Int32} {bl hd : Int32} {L : List Int32} (hp : (wl B (X, Y, o, dd, (t1, ex)))[k1]? = some (p, .inl (wdA B 0, 24, .inl pf))) (h0 : x_line pf hd bl 1000 0 [] = some L) : LMet l B yX5_lineOf cX5_lineOf 5 (some (.object "java/lang/String")) 6 171 10 3430 [.int bl, .ref p, .int hd] (wl B (X, Y, o, dd, (t1, ex))) (fun v w => ∃ st b g, v = some (.ref st) ∧ w = wl B (X, Y, o, dd, (t1, ex)) ++ [(st, .inr (0, [.ref b, .int 0, .int 0, .int 0])), (b, .inl (wdA B 4, L.length, .inl g))] ∧ ∀ j, j < L.length → g j = L.getD j 0) :=
  LMet.of hl (by decide +kernel) (Nat.le_of_ble_eq_true rfl) (fun G hB hL hG hE hI => by subst hB; exact g_lineOf hG hp hE h0)
theorem g_yl_31 {G : wG} (hG : wOk G RX8 cX8_line 4 6 171) {w0 : va_W} {sb a P s : Nat} {f : Nat → Int32} {Lc : List Int32} {t : Int32} {k : Nat} {kc ks : Nat} (hT : sbT f P Lc) (hs : s < 128) (hP : P ≤ 2000) (hk : ∀ a2 f2, sbT f2 (gwP (Lc.length + 1) P) (Lc ++ [nI s]) → JL G 4 kc ks 35 [(3, .int (nI k)), (0, .ref (wad (gB G) 22)), (1, .int t), (2, .ref sb)] [] (sbw (gB G) w0 sb a2 (gwP (Lc.length + 1) P) f2 (Lc ++ [nI s]))) : JL G 4 (kc + gwc (Lc.length + 1) P) (ks + gws (Lc.length + 1) P) 31 [(3, .int (nI k)), (0, .ref (wad (gB G) 22)), (1, .int t), (2, .ref sb)] [.int (nI s), .ref sb] (sbw (gB G) w0 sb a P f Lc) := by
  refine jl_callV hG (kc := kc) (ks := ks) (mc := gwc (Lc.length + 1) P) (ms := gws (Lc.length + 1) P) (c_appC hG.2.2.1 hT hs hP) ⟨mf_J4_append_cf468.1, mf_J4_append_cf468.2.1⟩ ml_X8_194 (w0.length + 0) ((app_get _ _ rfl 0).trans rfl) rfl (hG.word mf_J4_append_cf468.2.2) rfl (rest := []) rfl (Nat.le_of_ble_eq_true rfl) (dt dtX8_line_0 20 rfl) (by decide) (by decide) (fun v w h => ?_)
  obtain ⟨rfl, a2, f2, rfl, hT2⟩ := h
  refine jl_pop hG (dt dtX8_line_0 21 rfl) rfl ?_
  exact hk a2 f2 hT2
theorem g_yl_52 {G : wG} (hG : wOk G RX8 cX8_line 4 6 171) {w0 : va_W} {sb a P s : Nat} {f : Nat → Int32} {Lc : List Int32} {t : Int32} {k : Nat} {kc ks : Nat} (hT : sbT f P Lc) (hs : s < 128) (hP : P ≤ 2000) (hk : ∀ a2 f2, sbT f2 (gwP (Lc.length + 1) P) (Lc ++ [nI s]) → JL G 4 kc ks 56 [(3, .int (nI k)), (0, .ref (wad (gB G) 22)), (1, .int t), (2, .ref sb)] [] (sbw (gB G) w0 sb a2 (gwP (Lc.length + 1) P) f2 (Lc ++ [nI s]))) : JL G 4 (kc + gwc (Lc.length + 1) P) (ks + gws (Lc.length + 1) P) 52 [(3, .int (nI k)), (0, .ref (wad (gB G) 22)), (1, .int t), (2, .ref sb)] [.int (nI s), .ref sb] (sbw (gB G) w0 sb a P f Lc) := by
  refine jl_callV hG (kc := kc) (ks := ks) (mc := gwc (Lc.length + 1) P) (ms := gws (Lc.length + 1) P) (c_appC hG.2.2.1 hT hs hP) ⟨mf_J4_append_cf468.1, mf_J4_append_cf468.2.1⟩ ml_X8_194 (w0.length + 0) ((app_get _ _ rfl 0).trans rfl) rfl (hG.word mf_J4_append_cf468.2.2) rfl (rest := []) rfl (Nat.le_of_ble_eq_true rfl) (dt dtX8_line_0 33 rfl) (by decide) (by decide) (fun v w h => ?_)
  obtain ⟨rfl, a2, f2, rfl, hT2⟩ := h
  refine jl_pop hG (dt dtX8_line_0 34 rfl) rfl ?_
  exact hk a2 f2 hT2
theorem g_yl_71 {G : wG} (hG : wOk G RX8 cX8_line 4 6 171) {w0 : va_W} {sb a P x : Nat} {f : Nat → Int32} {Lc : List Int32} {t : Int32} {k : Nat} {kc ks : Nat} (hT : sbT f P Lc) (hx : x < 100) (hP : P ≤ 2000) (hk : ∀ a2 f2, sbT f2 (gwP (Lc.length + dgn x) P) (Lc ++ l_dec x) → JL G 4 kc ks 75 [(3, .int (nI k)), (0, .ref (wad (gB G) 22)), (1, .int t), (2, .ref sb)] [] (sbw (gB G) w0 sb a2 (gwP (Lc.length + dgn x) P) f2 (Lc ++ l_dec x))) : JL G 4 (kc + gwc (Lc.length + dgn x) P) (ks + gws (Lc.length + dgn x) P) 71 [(3, .int (nI k)), (0, .ref (wad (gB G) 22)), (1, .int t), (2, .ref sb)] [.int (nI x), .ref sb] (sbw (gB G) w0 sb a P f Lc) := by
  refine jl_callV hG (kc := kc) (ks := ks) (mc := gwc (Lc.length + dgn x) P) (ms := gws (Lc.length + dgn x) P) (c_appI hG.2.2.1 hT hx hP) ⟨mf_J4_append_bf812.1, mf_J4_append_bf812.2.1⟩ ml_X8_198 (w0.length + 0) ((app_get _ _ rfl 0).trans rfl) rfl (hG.word mf_J4_append_bf812.2.2) rfl (rest := []) rfl (Nat.le_of_ble_eq_true rfl) (dt dtX8_line_0 45 rfl) (by decide) (by decide) (fun v w h => ?_)
  obtain ⟨rfl, a2, f2, rfl, hT2⟩ := h
  refine jl_pop hG (dt dtX8_line_0 46 rfl) rfl ?_
  exact hk a2 f2 hT2
theorem g_yl_85 {G : wG} (hG : wOk G RX8 cX8_line 4 6 171) {w0 : va_W} {sb a P s : Nat} {f : Nat → Int32} {Lc : List Int32} {t : Int32} {k : Nat} {kc ks : Nat} (hT : sbT f P Lc) (hs : s < 128) (hP : P ≤ 2000) (hk : ∀ a2 f2, sbT f2 (gwP (Lc.length + 1) P) (Lc ++ [nI s]) → JL G 4 kc ks 89 [(3, .int (nI k)), (0, .ref (wad (gB G) 22)), (1, .int t), (2, .ref sb)] [] (sbw (gB G) w0 sb a2 (gwP (Lc.length + 1) P) f2 (Lc ++ [nI s]))) : JL G 4 (kc + gwc (Lc.length + 1) P) (ks + gws (Lc.length + 1) P) 85 [(3, .int (nI k)), (0, .ref (wad (gB G) 22)), (1, .int t), (2, .ref sb)] [.int (nI s), .ref sb] (sbw (gB G) w0 sb a P f Lc) := by
  refine jl_callV hG (kc := kc) (ks := ks) (mc := gwc (Lc.length + 1) P) (ms := gws (Lc.length + 1) P) (c_appC hG.2.2.1 hT hs hP) ⟨mf_J4_append_cf468.1, mf_J4_append_cf468.2.1⟩ ml_X8_194 (w0.length + 0) ((app_get _ _ rfl 0).trans rfl) rfl (hG.word mf_J4_append_cf468.2.2) rfl (rest := []) rfl (Nat.le_of_ble_eq_true rfl) (dt dtX8_line_0 54 rfl) (by decide) (by decide) (fun v w h => ?_)
  obtain ⟨rfl, a2, f2, rfl, hT2⟩ := h
  refine jl_pop hG (dt dtX8_line_0 55 rfl) rfl ?_
  exact hk a2 f2 hT2
theorem g_yl_75 {G : wG} (hG : wOk G RX8 cX8_line 4 6 171) {X Y : wM} {o : Int64} {dd : UInt64} {t1 : Nat → Nat} {ex : va_W} {t : Int32} {L : List Int32} {sb n k : Nat} (hk : k < 192) (ih : ∀ (a P : Nat) (f : Nat → Int32) (Lc : List Int32), Lc.length ≤ 4 * (k + 1) → ptK P → sbT f P Lc → y_lineL Y t n (nI (k + 1)) Lc = some L → JL G 4 (ptc P + 2) (pts P + 1154) 10 [(3, .int (nI (k + 1))), (0, .ref (wad (gB G) 22)), (1, .int t), (2, .ref sb)] [] (sbw (gB G) (wl (gB G) (X, Y, o, dd, (t1, ex))) sb a P f Lc)) {a P : Nat} {f : Nat → Int32} {Ld : List Int32} (hl : Ld.length ≤ 4 * k + 3) (hK : ptK P) (hT : sbT f P Ld) (h : y_lineL Y t n (nI (k + 1)) (Ld ++ (if nI k - nI k / 4 * 4 = 3 then [59] else [])) = some L) : JL G 4 (ptc P + 2) (pts P + 1154) 75 [(3, .int (nI k)), (0, .ref (wad (gB G) 22)), (1, .int t), (2, .ref sb)] [] (sbw (gB G) (wl (gB G) (X, Y, o, dd, (t1, ex))) sb a P f Ld) := by
  have hP := pt_le hK
  obtain ⟨s1, s2, s3⟩ := pt_step (q := Ld.length + 1) hK (by omega)
  refine jl_iload_n hG 0 (dt dtX8_line_0 47 rfl) rfl rfl ?_
  refine jl_iconst hG (v := 4) (dt dtX8_line_0 48 rfl) (by decide) ?_
  refine jl_irem hG (dt dtX8_line_0 49 rfl) (by decide) ?_
  refine jl_iconst hG (v := 3) (dt dtX8_line_0 50 rfl) (by decide) ?_
  refine jl_icmp_ne hG (tgt := 89) (dt dtX8_line_0 51 rfl) (by decide) (fun q => ?_) (fun q => ?_)
  · rw [if_neg q, List.append_nil] at h
    refine jl_iinc hG 0 (v := nI (k + 1)) (lv' := [(3, .int (nI (k + 1))), (0, .ref (wad (gB G) 22)), (1, .int t), (2, .ref sb)]) (dt dtX8_line_0 56 rfl) rfl (nI_1 k) (by decide) rfl ?_
    refine jl_goto hG (tgt := 10) (dt dtX8_line_0 57 rfl) (by decide) ?_
    exact ih a P f Ld (by omega) hK hT h
  · rw [if_pos q] at h
    refine jl_aload_n hG 3 (dt dtX8_line_0 52 rfl) rfl rfl ?_
    refine jl_bipush hG (v := nI 59) (dt dtX8_line_0 53 rfl) (by decide) ?_
    refine JL.weak (kc := (ptc (gwP (Ld.length + 1) P) + 2) + gwc (Ld.length + 1) P) (ks := (pts (gwP (Ld.length + 1) P) + 1154) + gws (Ld.length + 1) P) (by omega) (by omega) ?_
    refine g_yl_85 hG (s := 59) hT (by omega) (by omega) (fun a2 f2 h2 => ?_)
    refine jl_iinc hG 0 (v := nI (k + 1)) (lv' := [(3, .int (nI (k + 1))), (0, .ref (wad (gB G) 22)), (1, .int t), (2, .ref sb)]) (dt dtX8_line_0 56 rfl) rfl (nI_1 k) (by decide) rfl ?_
    refine jl_goto hG (tgt := 10) (dt dtX8_line_0 57 rfl) (by decide) ?_
    exact ih a2 _ f2 _ (by rw [List.length_append, List.length_singleton]; omega) s1 h2 h
theorem g_yl_35 {G : wG} (hG : wOk G RX8 cX8_line 4 6 171) {X Y : wM} {o : Int64} {dd : UInt64} {t1 : Nat → Nat} {ex : va_W} {t : Int32} {L : List Int32} {sb n k : Nat} (ht : vp_in t 8) (hk0 : k ≤ 192) (ih : ∀ (a P : Nat) (f : Nat → Int32) (Lc : List Int32), Lc.length ≤ 4 * (k + 1) → ptK P → sbT f P Lc → y_lineL Y t n (nI (k + 1)) Lc = some L → JL G 4 (ptc P + 2) (pts P + 1154) 10 [(3, .int (nI (k + 1))), (0, .ref (wad (gB G) 22)), (1, .int t), (2, .ref sb)] [] (sbw (gB G) (wl (gB G) (X, Y, o, dd, (t1, ex))) sb a P f Lc)) {a P : Nat} {f : Nat → Int32} {Lx : List Int32} (hl : Lx.length ≤ 4 * k + 1) (hK : ptK P) (hT : sbT f P Lx) (h : (wget 192 (Y 33) (24 * t + nI k) fun hh => (if hh = 0 then wget 192 (Y 35) (24 * t + nI k) fun v => (l_dig v).bind fun Dg => y_lineL Y t n (nI k + 1) ((Lx ++ Dg) ++ (if nI k - nI k / 4 * 4 = 3 then [59] else [])) else y_lineL Y t n (nI k + 1) ((Lx ++ [120]) ++ (if nI k - nI k / 4 * 4 = 3 then [59] else [])))) = some L) : JL G 4 (ptc P + 2) (pts P + 1154) 35 [(3, .int (nI k)), (0, .ref (wad (gB G) 22)), (1, .int t), (2, .ref sb)] [] (sbw (gB G) (wl (gB G) (X, Y, o, dd, (t1, ex))) sb a P f Lx) := by
  have hP := pt_le hK
  obtain ⟨hv, h⟩ := wget_ok h
  have hk : k < 192 := by
    obtain ⟨i, hi, rfl⟩ := vp_in_of ht (by omega)
    rw [show (24 : Int32) = nI 24 from rfl, pk_mul, nI_add] at hv
    obtain ⟨j, hj, e⟩ := vp_in_of hv (by omega)
    have := (nI_eq (a := 24 * i + k) (b := j) (by omega) (by omega)).mp e
    omega
  rw [nI_1] at h
  refine jl_aload_n hG 1 (dt dtX8_line_0 22 rfl) rfl rfl ?_
  refine jl_get hG cl_X8 22 10 (app_lt (cv_22 _ _ _ _)) (by decide) fl_X8_42 rfl (dt dtX8_line_0 23 rfl) ?_
  refine jl_bipush hG (v := 24) (dt dtX8_line_0 24 rfl) (by decide) ?_
  refine jl_iload_n hG 2 (dt dtX8_line_0 25 rfl) rfl rfl ?_
  refine jl_imul hG (dt dtX8_line_0 26 rfl) ?_
  refine jl_iload_n hG 0 (dt dtX8_line_0 27 rfl) rfl rfl ?_
  refine jl_iadd hG (dt dtX8_line_0 28 rfl) ?_
  refine jl_zald hG 33 (app_lt (cv_33 _ _ _ _)) hv rfl (dt dtX8_line_0 29 rfl) ?_
  refine jl_if_eq hG (tgt := 59) (dt dtX8_line_0 30 rfl) (by decide) (fun q => ?_) (fun q => ?_)
  · rw [if_pos q] at h
    obtain ⟨hv2, h⟩ := wget_ok h
    obtain ⟨Dg, hD, h⟩ := ob h
    obtain ⟨x, hx, hx2, rfl⟩ := l_dig_ex hD
    have hd2 : dgn x ≤ 2 := by unfold dgn; split <;> omega
    have hdl := l_dec_len x
    obtain ⟨s1, s2, s3⟩ := pt_step (q := Lx.length + dgn x) hK (by omega)
    refine jl_aload_n hG 3 (dt dtX8_line_0 36 rfl) rfl rfl ?_
    refine jl_aload_n hG 1 (dt dtX8_line_0 37 rfl) rfl rfl ?_
    refine jl_get hG cl_X8 22 12 (app_lt (cv_22 _ _ _ _)) (by decide) fl_X8_48 rfl (dt dtX8_line_0 38 rfl) ?_
    refine jl_bipush hG (v := 24) (dt dtX8_line_0 39 rfl) (by decide) ?_
    refine jl_iload_n hG 2 (dt dtX8_line_0 40 rfl) rfl rfl ?_
    refine jl_imul hG (dt dtX8_line_0 41 rfl) ?_
    refine jl_iload_n hG 0 (dt dtX8_line_0 42 rfl) rfl rfl ?_
    refine jl_iadd hG (dt dtX8_line_0 43 rfl) ?_
    refine jl_iald hG (v := nI x) 35 (app_lt (cv_35 _ _ _ _)) hv2 hx2 (dt dtX8_line_0 44 rfl) ?_
    refine JL.weak (kc := (ptc (gwP (Lx.length + dgn x) P) + 2) + gwc (Lx.length + dgn x) P) (ks := (pts (gwP (Lx.length + dgn x) P) + 1154) + gws (Lx.length + dgn x) P) (by omega) (by omega) ?_
    refine g_yl_71 hG (t := t) (k := k) hT hx (by omega) (fun a2 f2 h2 => ?_)
    exact g_yl_75 hG hk ih (by rw [List.length_append, l_dec_len]; omega) s1 h2 h
  · rw [if_neg q] at h
    obtain ⟨s1, s2, s3⟩ := pt_step (q := Lx.length + 1) hK (by omega)
    refine jl_aload_n hG 3 (dt dtX8_line_0 31 rfl) rfl rfl ?_
    refine jl_bipush hG (v := nI 120) (dt dtX8_line_0 32 rfl) (by decide) ?_
    refine JL.weak (kc := (ptc (gwP (Lx.length + 1) P) + 2) + gwc (Lx.length + 1) P) (ks := (pts (gwP (Lx.length + 1) P) + 1154) + gws (Lx.length + 1) P) (by omega) (by omega) ?_
    refine g_yl_52 hG (t := t) (k := k) (s := 120) hT (by omega) (by omega) (fun a2 f2 h2 => ?_)
    refine jl_goto hG (tgt := 75) (dt dtX8_line_0 35 rfl) (by decide) ?_
    exact g_yl_75 hG hk ih (by rw [List.length_append, List.length_singleton]; omega) s1 h2 h
theorem g_yl_loop {G : wG} (hG : wOk G RX8 cX8_line 4 6 171) {X Y : wM} {o : Int64} {dd : UInt64} {t1 : Nat → Nat} {ex : va_W} {t : Int32} {L : List Int32} {sb : Nat} (hE : wEndL G (some (.object "java/lang/String")) (fun v w => ∃ st b g, v = some (.ref st) ∧ w = (wl (gB G) (X, Y, o, dd, (t1, ex))) ++ [(st, .inr (0, [.ref b, .int 0, .int 0, .int 0])), (b, .inl (wdA (gB G) 4, L.length, .inl g))] ∧ ∀ j, j < L.length → g j = L.getD j 0)) : ∀ (n k a P : Nat) (f : Nat → Int32) (Lc : List Int32), k ≤ 192 → Lc.length ≤ 4 * k → ptK P → sbT f P Lc → y_lineL Y t n (nI k) Lc = some L → JL G 4 (ptc P + 2) (pts P + 1154) 10 [(3, .int (nI k)), (0, .ref (wad (gB G) 22)), (1, .int t), (2, .ref sb)] [] (sbw (gB G) (wl (gB G) (X, Y, o, dd, (t1, ex))) sb a P f Lc) := by
  intro n
  induction n with
  | zero => intro k a P f Lc _ _ _ _ h; cases h
  | succ n ih =>
    intro k a P f Lc hk hlen hK hT h
    rw [y_lineL] at h
    have hP := pt_le hK
    obtain ⟨ht, h⟩ := wget_ok h
    refine jl_iload_n hG 0 (dt dtX8_line_0 6 rfl) rfl rfl ?_
    refine jl_iconst hG (v := 4) (dt dtX8_line_0 7 rfl) (by decide) ?_
    refine jl_aload_n hG 1 (dt dtX8_line_0 8 rfl) rfl rfl ?_
    refine jl_get hG cl_X8 22 13 (app_lt (cv_22 _ _ _ _)) (by decide) fl_X8_51 rfl (dt dtX8_line_0 9 rfl) ?_
    refine jl_iload_n hG 2 (dt dtX8_line_0 10 rfl) rfl rfl ?_
    refine jl_iald hG 36 (app_lt (cv_36 _ _ _ _)) ht rfl (dt dtX8_line_0 11 rfl) ?_
    refine jl_imul hG (dt dtX8_line_0 12 rfl) ?_
    refine jl_icmp_ge hG (tgt := 95) (dt dtX8_line_0 13 rfl) (by decide) (fun q => ?_) (fun q => ?_)
    · rw [if_neg (Int32.not_lt.mpr q)] at h
      obtain rfl := Option.some.inj h
      refine jl_aload_n hG 3 (dt dtX8_line_0 58 rfl) rfl rfl ?_
      refine JL.weak (kc := 0 + 2) (ks := 0 + (4 + Lc.length)) (by omega) (by omega) ?_
      refine jl_callV hG (kc := 0) (ks := 0) (mc := 2) (ms := 4 + Lc.length) (c_toStr hG.2.2.1 hT (by have := pt_le hK; omega)) ⟨mf_J4_toString_0e30d.1, mf_J4_toString_0e30d.2.1⟩ ml_X8_201 ((wl (gB G) (X, Y, o, dd, (t1, ex))).length + 0) ((app_get _ _ rfl 0).trans rfl) rfl (hG.word mf_J4_toString_0e30d.2.2) rfl (rest := []) rfl (Nat.le_of_ble_eq_true rfl) (dt dtX8_line_0 59 rfl) (by decide) (by decide) (fun v w h => ?_)
      obtain ⟨st, b, g, rfl, rfl, hg⟩ := h
      refine JL.eqw (ws' := (wl (gB G) (X, Y, o, dd, (t1, ex))) ++ ([(sb, .inr (1, [.ref a, .int 0, .int 0, .int (nI Lc.length)])), (a, .inl (wdA (gB G) 4, P, .inl f))] ++ [(st, .inr (0, [.ref b, .int 0, .int 0, .int 0])), (b, .inl (wdA (gB G) 4, Lc.length, .inl g))])) rfl ?_
      refine JL.take ?_
      exact jl_aret hG hE (Or.inl ⟨_, rfl⟩) ⟨st, b, g, rfl, rfl, hg⟩ (dt dtX8_line_1 0 rfl)
    · rw [if_pos (Int32.not_le.mp q)] at h
      by_cases hk2 : k = 192
      · exfalso
        subst hk2
        obtain ⟨hv, -⟩ := wget_ok h
        obtain ⟨i, hi, rfl⟩ := vp_in_of ht (by omega)
        rw [show (24 : Int32) = nI 24 from rfl, pk_mul, nI_add] at hv
        obtain ⟨j, hj, e⟩ := vp_in_of hv (by omega)
        have := (nI_eq (a := 24 * i + 192) (b := j) (by omega) (by omega)).mp e
        omega
      refine jl_iload_n hG 0 (dt dtX8_line_0 14 rfl) rfl rfl ?_
      refine jl_iconst hG (v := 4) (dt dtX8_line_0 15 rfl) (by decide) ?_
      refine jl_irem hG (dt dtX8_line_0 16 rfl) (by decide) ?_
      have ih2 := fun a P f Lc h1 h2 h3 h4 => ih (k + 1) a P f Lc (by omega) h1 h2 h3 h4
      refine jl_if_le hG (tgt := 35) (dt dtX8_line_0 17 rfl) (by decide) (fun q => ?_) (fun q => ?_)
      · rw [if_neg (Int32.not_lt.mpr q), List.append_nil] at h
        exact g_yl_35 hG ht hk ih2 (by omega) hK hT h
      · rw [if_pos (Int32.not_le.mp q)] at h
        obtain ⟨s1, s2, s3⟩ := pt_step (q := Lc.length + 1) hK (by omega)
        refine jl_aload_n hG 3 (dt dtX8_line_0 18 rfl) rfl rfl ?_
        refine jl_bipush hG (v := nI 44) (dt dtX8_line_0 19 rfl) (by decide) ?_
        refine JL.weak (kc := (ptc (gwP (Lc.length + 1) P) + 2) + gwc (Lc.length + 1) P) (ks := (pts (gwP (Lc.length + 1) P) + 1154) + gws (Lc.length + 1) P) (by omega) (by omega) ?_
        refine g_yl_31 hG (t := t) (k := k) (s := 44) hT (by omega) (by omega) (fun a2 f2 h2 => ?_)
        exact g_yl_35 hG ht hk ih2 (by rw [List.length_append, List.length_singleton]; omega) s1 h2 h
theorem g_line8 {G : wG} (hG : wOk G RX8 cX8_line 4 6 171) {X Y : wM} {o : Int64} {dd : UInt64} {t1 : Nat → Nat} {ex : va_W} {t : Int32} {L : List Int32} (hE : wEndL G (some (.object "java/lang/String")) (fun v w => ∃ st b g, v = some (.ref st) ∧ w = (wl (gB G) (X, Y, o, dd, (t1, ex))) ++ [(st, .inr (0, [.ref b, .int 0, .int 0, .int 0])), (b, .inl (wdA (gB G) 4, L.length, .inl g))] ∧ ∀ j, j < L.length → g j = L.getD j 0)) (h0 : y_line Y t = some L) : JL G 4 10 3430 0 [(0, .ref (wad (gB G) 22)), (1, .int t)] [] (wl (gB G) (X, Y, o, dd, (t1, ex))) := by
  refine JL.weak (kc := (ptc 16 + 2 + 1) + 1) (ks := (pts 16 + 1154 + 16) + 4) (by decide) (by decide) ?_
  refine jl_new hG cl_J4 (fs := [.null, .int 0, .int 0, .int 0]) nw_X8.1 nw_X8.2.1 nw_X8.2.2 (by decide) (dt dtX8_line_0 0 rfl) (fun sb => ?_)
  refine jl_dup hG (dt dtX8_line_0 1 rfl) rfl ?_
  refine jl_callI hG (kc := ptc 16 + 2) (ks := pts 16 + 1154) (c_sbI hG.2.2.1) mi_J4_init_da8c8 ml_X8_193 rfl rfl rfl (rest := [.ref sb]) (Nat.le_of_ble_eq_true rfl) (dt dtX8_line_0 2 rfl) (by decide) (by decide) (fun v w h => ?_)
  obtain ⟨rfl, a, f, rfl, hT⟩ := h
  refine jl_astore_n hG (lv' := [(2, .ref sb), (0, .ref (wad (gB G) 22)), (1, .int t)]) (dt dtX8_line_0 3 rfl) rfl (by decide) rfl ?_
  refine jl_iconst hG (v := nI 0) (dt dtX8_line_0 4 rfl) (by decide) ?_
  refine jl_istore_n hG (lv' := [(3, .int (nI 0)), (2, .ref sb), (0, .ref (wad (gB G) 22)), (1, .int t)]) (dt dtX8_line_0 5 rfl) rfl (by decide) rfl ?_
  refine jl_lv (lv' := [(3, .int (nI 0)), (0, .ref (wad (gB G) 22)), (1, .int t), (2, .ref sb)]) [0, 2, 3, 1] rfl ?_
  exact g_yl_loop hG hE 1000 0 a 16 f [] (by omega) (Nat.zero_le _) (Or.inl rfl) hT h0
theorem ct_line8 {l : Launch} (hl : l.stackTraces = false) {B : wB} {X Y : wM} {o : Int64} {dd : UInt64} {t1 : Nat → Nat} {ex : va_W} {t : Int32} {L : List Int32} (h0 : y_line Y t = some L) : LMet l B yX8_line cX8_line 4 (some (.object "java/lang/String")) 6 171 10 3430 [.ref (wad B 22), .int t] (wl B (X, Y, o, dd, (t1, ex))) (fun v w => ∃ st b g, v = some (.ref st) ∧ w = wl B (X, Y, o, dd, (t1, ex)) ++ [(st, .inr (0, [.ref b, .int 0, .int 0, .int 0])), (b, .inl (wdA B 4, L.length, .inl g))] ∧ ∀ j, j < L.length → g j = L.getD j 0) :=
  LMet.of hl (by decide +kernel) (Nat.le_of_ble_eq_true rfl) (fun G hB hL hG hE hI => by subst hB; exact g_line8 hG hE h0)
