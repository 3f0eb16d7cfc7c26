/-! the questions -/
theorem y_chk (Y : wM) (b : Bool) : f_X8_checked Y (if b then 1 else 0) = some (if b then 0 else 1, thr Y (if b then 0 else 1)) := y_checked Y b
theorem wfld14 {ρ : Type} (Y : wM) (x : Int32) (K : wM → Option ρ) : wfld Y 22 14 x K = K (thr Y x) := rfl
theorem i01 : ¬ (0 : Int32) < 0 := by decide
theorem i11 : (0 : Int32) < 1 := by decide
theorem INV.x {d : mD} {T : mT} {X Y : wM} (h : INV d T X Y) : RX d X := h.1.2.1
theorem INV.y {d : mD} {T : mT} {X Y : wM} (h : INV d T X Y) : RY d Y := h.1.2.2.1
theorem INV.w {d : mD} {T : mT} {X Y : wM} (h : INV d T X Y) : q_ok d := h.1.1
theorem op_blockOf {d : mD} {T : mT} {X Y : wM} (h : INV d T X Y) (a : Int32) : OQ (fun e => if e = 2 then 1 else 0) Eq d T X (f_X7_blockOf X a) (f_X8_blockOf Y a) := by
  have w2 := h.w.2.1
  unfold f_X7_blockOf f_X8_blockOf f_X8_blockOf_28
  rw [x_needAddress h.x h.w, h.y.2.1, f_in_n a (by omega), bind_s, y_chk, bind_s]
  cases hb : inb a (q_na d)
  · refine ⟨0, thr Y 1, rfl, h.thr 1, Or.inr ⟨2, rfl, by decide, by decide, thr_14 Y 1⟩⟩
  · obtain ⟨i, hi, rfl⟩ := inb_ex hb
    refine ⟨Y 23 i, thr Y 0, ?_, h.thr 0, Or.inl ⟨X 2 i, ?_, ?_, thr_14 Y 0⟩⟩
    · show wget 20 (thr Y 0 23) (nI i) (fun v27 => some (v27, thr Y 0)) = _
      rw [wget_n (by omega) (by omega)]; rfl
    · rw [if_pos rfl, wthr_r, wget_n (by omega) (by omega)]
    · rw [h.x.2.2.1 i hi, h.y.2.2.1 i hi]
theorem x_two {d : mD} {X : wM} (h : RX d X) (w : q_ok d) (a b : Int32) : f_X7_needTwoRecords X a b = if inb a (q_nr d) && inb b (q_nr d) then (if a = b then some (.inl 1) else some (.inr ())) else some (.inl 5) := by
  unfold f_X7_needTwoRecords
  rw [x_needRecord h w, x_needRecord h w]
  cases inb a (q_nr d)
  · rfl
  · cases inb b (q_nr d)
    · rfl
    · rfl
theorem y_two {d : mD} {Y : wM} (h : RY d Y) (w : q_ok d) (a b : Int32) : f_X8_wrongPair Y a b = if inb a (q_nr d) && inb b (q_nr d) then (if a = b then some 2 else some 0) else some 1 := by
  unfold f_X8_wrongPair f_X8_wrongPair_16 f_X8_wrongPair_30
  rw [y_isRecord h w, bind_s, b_ite]
  cases inb a (q_nr d)
  · rfl
  · rw [if_pos rfl, y_isRecord h w, bind_s, b_ite]
    cases inb b (q_nr d)
    · rfl
    · rfl
def c_two : Nat → Nat := fun e => if e = 5 then 1 else if e = 1 then 2 else 0
theorem op_score {d : mD} {T : mT} {X Y : wM} (h : INV d T X Y) (a b : Int32) : OQ c_two Eq d T X (f_X7_score X a b) (f_X8_score Y a b) := by
  unfold f_X7_score f_X8_score f_X8_score_27
  rw [x_two h.x h.w, y_two h.y h.w]
  cases hb : (inb a (q_nr d) && inb b (q_nr d))
  · exact ⟨0, thr Y 1, rfl, h.thr 1, Or.inr ⟨5, rfl, by decide, by decide, thr_14 Y 1⟩⟩
  · obtain ⟨b1, b2⟩ := (Bool.and_eq_true _ _).mp hb
    rw [if_pos rfl, if_pos rfl]
    by_cases e : a = b
    · rw [if_pos e, if_pos e]
      exact ⟨0, thr Y 2, rfl, h.thr 2, Or.inr ⟨1, rfl, by decide, by decide, thr_14 Y 2⟩⟩
    · rw [if_neg e, if_neg e]
      obtain ⟨i, hi, rfl⟩ := inb_ex b1
      obtain ⟨j, hj, rfl⟩ := inb_ex b2
      refine ⟨nI (q_sc d i j), thr Y 0, ?_, h.thr 0, Or.inl ⟨nI (q_sc d i j), ?_, rfl, thr_14 Y 0⟩⟩
      · show (f_X8_scoreOf (thr Y 0) (nI i) (nI j)).bind (fun y24 => some (y24, thr Y 0)) = _
        rw [y_scoreOf (h.y.thr 0) h.w hi hj]; rfl
      · rw [wthr_r, x_scoreOf h.x h.w hi hj]; rfl
theorem q_lk_ch {d : mD} (w : q_ok d) (i j : Nat) : q_lk d i j < 128 := by
  have wl := w.2.2.2.2.2.1 i j
  unfold q_lk
  repeat' split
  all_goals omega
theorem op_link {d : mD} {T : mT} {X Y : wM} (h : INV d T X Y) (a b : Int32) : OQ c_two Eq d T X (f_X7_link X a b) (f_X8_link Y a b) := by
  unfold f_X7_link f_X8_link f_X8_link_28
  rw [x_two h.x h.w, y_two h.y h.w]
  cases hb : (inb a (q_nr d) && inb b (q_nr d))
  · exact ⟨32, thr Y 1, wgd_t (okC_n 32 (by decide)), h.thr 1, Or.inr ⟨5, rfl, by decide, by decide, thr_14 Y 1⟩⟩
  · obtain ⟨b1, b2⟩ := (Bool.and_eq_true _ _).mp hb
    rw [if_pos rfl, if_pos rfl]
    by_cases e : a = b
    · rw [if_pos e, if_pos e]
      exact ⟨32, thr Y 2, wgd_t (okC_n 32 (by decide)), h.thr 2, Or.inr ⟨1, rfl, by decide, by decide, thr_14 Y 2⟩⟩
    · rw [if_neg e, if_neg e]
      obtain ⟨i, hi, rfl⟩ := inb_ex b1
      obtain ⟨j, hj, rfl⟩ := inb_ex b2
      refine ⟨nI (q_lk d i j), thr Y 0, ?_, h.thr 0, Or.inl ⟨nI (q_lk d i j), ?_, rfl, thr_14 Y 0⟩⟩
      · show (f_X8_linkOf (thr Y 0) (nI i) (nI j)).bind (fun y25 => wgd (wokN .char y25) (some (y25, thr Y 0))) = _
        rw [y_linkOf (h.y.thr 0) h.w hi hj, bind_s, wgd_t (okC_n _ (q_lk_ch h.w i j))]
      · rw [wthr_r, x_kindOf h.x h.w hi hj, bind_s, wgd_t (okC_n _ (q_lk_ch h.w i j))]
theorem FM.INV {d : mD} {T : mT} {X Y Z : wM} (h : INV d T X Y) (f : FM Y Z) : INV d T X Z := h.Y (fun k a b c _ e _ => f.1 k (by omega) c e) (fun j _ _ => f.2 j (by omega) (by omega))
theorem op_isDouble {d : mD} {T : mT} {X Y : wM} (h : INV d T X Y) (a : Int32) : OQ (fun e => if e = 5 then 1 else 0) Eq d T X (f_X7_isDouble X a) (f_X8_isDouble Y a) := by
  have w4 := h.w.2.2.2.1
  obtain ⟨Y1, a1, a2, a3⟩ := y_layDoubles h.y h.w
  have h1 : INV d T X Y1 := h.Y (fun k _ _ _ _ e _ => a2 k e) (fun j _ _ => by rw [a2 22 (by decide)])
  unfold f_X7_isDouble f_X8_isDouble f_X8_isDouble_29 f_X8_isDouble_30
  rw [x_needRecord h.x h.w, a1, bind_s, y_isRecord h1.y h.w, bind_s, y_chk, bind_s]
  cases hb : inb a (q_nr d)
  · exact ⟨0, thr Y1 1, wgd_t okZ_0, h1.thr 1, Or.inr ⟨5, rfl, by decide, by decide, thr_14 Y1 1⟩⟩
  · obtain ⟨i, hi, rfl⟩ := inb_ex hb
    have k1 := h.2.1.1.1 i hi
    refine ⟨if q_db d i then 1 else 0, thr Y1 0, ?_, h1.thr 0, Or.inl ⟨if q_db d i then 1 else 0, ?_, rfl, thr_14 Y1 0⟩⟩
    · show wget 40 (thr Y1 0 31) (nI i) (fun v21 => if v21 = 0 then wgd (wokN .boolean 0) (some (0, thr Y1 0)) else wgd (wokN .boolean 1) (some (1, thr Y1 0))) = _
      rw [wget_n (by omega) (by omega), thr_o Y1 0 (by decide), a3 i hi, b_ite, wgd_t okZ_0, wgd_t okZ_1]
      cases q_db d i <;> rfl
    · rw [if_pos rfl, wthr_r, wget_n (by omega) (by omega), k1, wgd_t (okZ_b _)]
theorem op_matchOf {d : mD} {T : mT} {X Y : wM} (h : INV d T X Y) (a : Int32) : OQ (fun e => if e = 5 then 1 else if e = 0 then 2 else 0) Eq d T X (f_X7_matchOf X a) (f_X8_matchOf Y a) := by
  have w4 := h.w.2.2.2.1
  obtain ⟨Y1, a1, a2, _, a3⟩ := y_layMatches h.y h.w
  have h1 : INV d T X Y1 := a2.INV h
  unfold f_X7_matchOf f_X8_matchOf f_X8_matchOf_31 f_X8_matchOf_51
  rw [x_needRecord h.x h.w, a1, bind_s, y_isRecord h1.y h.w, bind_s, b_ite]
  cases hb : inb a (q_nr d)
  · exact ⟨0, thr Y1 1, rfl, h1.thr 1, Or.inr ⟨5, rfl, by decide, by decide, thr_14 Y1 1⟩⟩
  · obtain ⟨i, hi, rfl⟩ := inb_ex hb
    obtain ⟨p1, p2, p3, p4⟩ := h.2.1.2
    obtain ⟨m1, m2, m3, m4⟩ := a3
    rw [if_pos rfl, if_pos rfl, wthr_r, wget_n (by omega) (by omega), p1 i (by omega), ite_n (pe_m1 _ (p2 i)), wget_n (by omega) (by omega), p1 i (by omega), wget_n (by omega) (by omega), m1 i hi, ite_n (pe_neg _ (m2 i))]
    by_cases z : (q_mt d).1 i = 0
    · rw [if_pos z, if_pos z]
      exact ⟨0, thr Y1 2, rfl, h1.thr 2, Or.inr ⟨0, rfl, by decide, by decide, thr_14 Y1 2⟩⟩
    · rw [if_neg z, if_neg z]
      refine ⟨pe ((q_mt d).1 i), thr Y1 0, ?_, h1.thr 0, Or.inl ⟨pe ((q_mt d).1 i), rfl, rfl, thr_14 Y1 0⟩⟩
      show wget 40 (thr Y1 0 27) (nI i) (fun v50 => some (v50, thr Y1 0)) = _
      rw [wget_n (by omega) (by omega), thr_o Y1 0 (by decide), m1 i hi]
theorem op_matches {d : mD} {T : mT} {X Y : wM} (h : INV d T X Y) : ∃ v Y', f_X7_matches X = some v ∧ f_X8_matches Y = some (v, Y') ∧ INV d T X Y' := by
  obtain ⟨Y1, a1, a2, _, a3⟩ := y_layMatches h.y h.w
  have h1 : INV d T X Y1 := a2.INV h
  unfold f_X7_matches f_X8_matches f_X8_plain
  rw [a1, bind_s]
  refine ⟨_, thr Y1 0, rfl, ?_, h1.thr 0⟩
  rw [wfld14, bind_s, a3.2.2.1, h.2.1.2.2.2.1]
