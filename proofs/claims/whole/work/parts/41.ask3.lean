/-! questions about tables -/
theorem INV.tx {d : mD} {T : mT} {X Y : wM} (h : INV d T X Y) : TB T X := h.1.2.2.2.1
theorem INV.ty {d : mD} {T : mT} {X Y : wM} (h : INV d T X Y) : TY T Y := h.1.2.2.2.2.1
theorem INV.ok {d : mD} {T : mT} {X Y : wM} (h : INV d T X Y) : T_ok T := h.1.2.2.2.2.2.1
theorem INV.hl {d : mD} {T : mT} {X Y : wM} (h : INV d T X Y) : HL T X Y := h.1.2.2.2.2.2.2
theorem x_told {T : mT} {X : wM} (h : TB T X) (a : Int32) : (inb a T.1 = false → f_X7_toldTable X a = some (.inl 5)) ∧ ∀ i, i < T.1 → a = nI i → f_X7_toldTable X a = some (.inr i) := by
  have t8 := h.2.1
  have hn := h.nT
  unfold f_X7_toldTable f_X7_toldTable_21 f_X7_toldTable_22
  rw [h.1, x_in a (by omega)]
  constructor
  · intro e
    rw [e]; rfl
  · rintro i hi rfl
    rw [inb_b (by omega), decide_eq_true hi, if_pos rfl, wtab, if_pos (inb_n (by omega) (by omega)), nI_clamp (by omega), hn, if_pos hi, wopt]
theorem x_needBlockIn {T : mT} {X : wM} (h : TB T X) (ok : T_ok T) {i : Nat} (hi : i < T.1) (b : Int32) : f_X7_needBlockIn X i b = if inb b (T.2 i).1 then some (.inr ()) else some (.inl 2) := by
  have o1 := (ok i hi).1
  unfold f_X7_needBlockIn f_X7_needBlockIn_12
  rw [wgd_d (by rw [h.nT]; exact hi), (h.2.2 i hi).1, x_in b (by omega)]
theorem x_needCell {T : mT} {X : wM} (h : TB T X) (ok : T_ok T) {i : Nat} (hi : i < T.1) (b g : Int32) : f_X7_needCell X i b g = if inb b (T.2 i).1 then (if inb g 4 then some (.inr ()) else some (.inl 1)) else some (.inl 2) := by
  unfold f_X7_needCell
  rw [x_needBlockIn h ok hi, x_needGroup]
  cases inb b (T.2 i).1
  · rfl
  · cases inb g 4 <;> rfl
theorem y_isTable {T : mT} {Y : wM} (h : TY T Y) (a : Int32) : f_X8_isTable Y a = some (if inb a T.1 then 1 else 0) := by
  have t8 := h.2.1
  unfold f_X8_isTable
  rw [h.1, f_in_n a (by omega), bind_s, wgd_t (okZ_b _)]
theorem y_wrong {T : mT} {Y : wM} (h : TY T Y) (ok : T_ok T) (a b g : Int32) : (inb a T.1 = false → f_X8_wrongCell Y a b g = some 1) ∧ ∀ i, i < T.1 → a = nI i → f_X8_wrongCell Y a b g = some (if inb b (T.2 i).1 then (if inb g 4 then 0 else 3) else 2) := by
  have t8 := h.2.1
  unfold f_X8_wrongCell f_X8_wrongCell_46
  rw [y_isTable h, bind_s, b_ite]
  constructor
  · intro e
    rw [e]; rfl
  · rintro i hi rfl
    have o1 := (ok i hi).1
    rw [inb_b (by omega), decide_eq_true hi, if_pos rfl, wget_n (by omega) (by omega), (h.2.2.1 i hi).1, f_in_n b (by omega), bind_s, b_ite, f_in_3, bind_s, b_ite]
    cases inb b (T.2 i).1
    · rfl
    · cases inb g 4 <;> rfl
theorem cell_x {b g : Nat} : nI b * 4 + nI g = nI (4 * b + g) := by
  rw [L4, pk_mul, nI_add, Nat.mul_comm]
theorem y_place (i b g : Nat) : f_X8_place (nI i) (nI b) (nI g) = some (nI (24 * i + (4 * b + g))) := by
  unfold f_X8_place
  rw [L24, L4, pk_mul, pk_mul, nI_add, nI_add, Nat.add_assoc]
def c_cell : Nat → Nat := fun e => if e = 5 then 1 else if e = 2 then 2 else if e = 1 then 3 else if e = 4 then 4 else 0
theorem op_isHidden {d : mD} {T : mT} {X Y : wM} (h : INV d T X Y) (a b g : Int32) : OQ c_cell Eq d T X (f_X7_isHidden X a b g) (f_X8_isHidden Y a b g) := by
  have t8 := h.tx.2.1
  unfold f_X7_isHidden f_X8_isHidden f_X8_isHidden_36 f_X8_isHidden_37
  cases ha : inb a T.1
  · rw [(x_told h.tx a).1 ha, (y_wrong h.ty h.ok a b g).1 ha]
    exact ⟨0, thr Y 1, wgd_t okZ_0, h.thr 1, Or.inr ⟨5, rfl, by decide, by decide, thr_14 Y 1⟩⟩
  · obtain ⟨i, hi, rfl⟩ := inb_ex ha
    obtain ⟨s, s1, s2, s3, s4⟩ := h.hl i hi
    have o1 := (h.ok i hi).1
    rw [(x_told h.tx (nI i)).2 i hi rfl, (y_wrong h.ty h.ok (nI i) b g).2 i hi rfl, wthr_r, x_needCell h.tx h.ok hi, bind_s]
    cases hb : inb b (T.2 i).1
    · exact ⟨0, thr Y 2, wgd_t okZ_0, h.thr 2, Or.inr ⟨2, rfl, by decide, by decide, thr_14 Y 2⟩⟩
    · rw [if_pos rfl, if_pos rfl]
      cases hg : inb g 4
      · exact ⟨0, thr Y 3, wgd_t okZ_0, h.thr 3, Or.inr ⟨1, rfl, by decide, by decide, thr_14 Y 3⟩⟩
      · obtain ⟨b, hb2, rfl⟩ := inb_ex hb
        obtain ⟨g, hg2, rfl⟩ := inb_ex hg
        rw [if_pos rfl, if_pos rfl, wthr_r, wgd_d (by rw [h.tx.nT]; exact hi), cell_x, x_has s2 (by omega), bind_s, wgd_t (okZ_b _), wfld14, thr_14, if_pos rfl, y_place, bind_s, wget_n (by omega) (by omega), thr_o Y 0 (by decide), s3 _ (by omega), b_ite, wgd_t okZ_0, wgd_t okZ_1]
        refine ⟨if s (4 * b + g) then 1 else 0, thr Y 0, ?_, h.thr 0, Or.inl ⟨_, rfl, rfl, thr_14 Y 0⟩⟩
        cases s (4 * b + g) <;> rfl
theorem op_cell {d : mD} {T : mT} {X Y : wM} (h : INV d T X Y) (a b g : Int32) : OQ c_cell Eq d T X (f_X7_cell X a b g) (f_X8_cell Y a b g) := by
  have t8 := h.tx.2.1
  unfold f_X7_cell f_X8_cell f_X8_cell_37 f_X8_cell_59
  cases ha : inb a T.1
  · rw [(x_told h.tx a).1 ha, (y_wrong h.ty h.ok a b g).1 ha]
    exact ⟨0, thr Y 1, rfl, h.thr 1, Or.inr ⟨5, rfl, by decide, by decide, thr_14 Y 1⟩⟩
  · obtain ⟨i, hi, rfl⟩ := inb_ex ha
    obtain ⟨s, s1, s2, s3, s4⟩ := h.hl i hi
    obtain ⟨o1, o2⟩ := h.ok i hi
    rw [(x_told h.tx (nI i)).2 i hi rfl, (y_wrong h.ty h.ok (nI i) b g).2 i hi rfl, wthr_r, x_needCell h.tx h.ok hi, bind_s]
    cases hb : inb b (T.2 i).1
    · exact ⟨0, thr Y 2, rfl, h.thr 2, Or.inr ⟨2, rfl, by decide, by decide, thr_14 Y 2⟩⟩
    · rw [if_pos rfl, if_pos rfl]
      cases hg : inb g 4
      · exact ⟨0, thr Y 3, rfl, h.thr 3, Or.inr ⟨1, rfl, by decide, by decide, thr_14 Y 3⟩⟩
      · obtain ⟨b, hb2, rfl⟩ := inb_ex hb
        obtain ⟨g, hg2, rfl⟩ := inb_ex hg
        have cx := (h.tx.2.2 i hi).2.1 (4 * b + g) (by omega)
        have cy := (h.ty.2.2.1 i hi).2.1 (4 * b + g) (by omega)
        rw [if_pos rfl, if_pos rfl, wthr_r, wgd_d (by rw [h.tx.nT]; exact hi), cell_x, x_has s2 (by omega), bind_s, b_ite, wgd_d (by rw [h.tx.nT]; exact hi), wgd_d (by rw [h.tx.nT]; exact hi), wget_n (by omega) (by omega), cx, wfld14, thr_14, if_pos rfl, y_place, bind_s, wget_n (by omega) (by omega), thr_o Y 0 (by decide), s3 _ (by omega), b_ite]
        cases s (4 * b + g)
        · rw [if_neg (by decide), if_neg (by decide), if_neg i01, bind_s, wget_n (by omega) (by omega), thr_o Y 0 (by decide), cy]
          exact ⟨_, thr Y 0, rfl, h.thr 0, Or.inl ⟨_, rfl, rfl, thr_14 Y 0⟩⟩
        · rw [if_pos rfl, if_pos rfl, wfld14]
          have e4 : thr (thr Y 0) 4 22 14 = 4 := thr_14 _ 4
          rw [e4, if_pos (by decide)]
          exact ⟨_, thr (thr Y 0) 4, rfl, (h.thr 0).thr 4, Or.inr ⟨4, rfl, by decide, by decide, e4⟩⟩
theorem op_stateOf {d : mD} {T : mT} {X Y : wM} (h : INV d T X Y) (a : Int32) : OQ (fun e => if e = 5 then 1 else 0) Eq d T X (f_X7_stateOf X a) (f_X8_stateOf Y a) := by
  have t8 := h.tx.2.1
  unfold f_X7_stateOf f_X8_stateOf f_X8_stateOf_21 f_X8_stateOf_28 f_X7_stateOf_18
  rw [y_isTable h.ty, bind_s, y_chk, bind_s]
  cases ha : inb a T.1
  · rw [(x_told h.tx a).1 ha]
    exact ⟨116, thr Y 1, wgd_t (okC_n 116 (by decide)), h.thr 1, Or.inr ⟨5, rfl, by decide, by decide, thr_14 Y 1⟩⟩
  · obtain ⟨i, hi, rfl⟩ := inb_ex ha
    have ux := (h.tx.2.2 i hi).2.2
    have uy := (h.ty.2.2.1 i hi).2.2
    have c6 : wokN .char 116 = true := okC_n 116 (by decide)
    have c7 : wokN .char 117 = true := okC_n 117 (by decide)
    rw [(x_told h.tx (nI i)).2 i hi rfl, wthr_r, wgd_d (by rw [h.tx.nT]; exact hi), ux, b_ite, wgd_t c6, wgd_t c7]
    have hy : (if (0 : Int32) < (if true = true then (0 : Int32) else 1) then (some ((116 : Int32), thr Y (if true = true then 0 else 1))) else wget 8 (thr Y (if true = true then 0 else 1) 32) (nI i) fun v17 => if v17 = 0 then some (116, thr Y (if true = true then 0 else 1)) else some (117, thr Y (if true = true then 0 else 1))) = some ((if (T.2 i).2.2 then 117 else 116), thr Y 0) := by
      rw [if_pos rfl, if_neg i01, wget_n (by omega) (by omega), thr_o Y _ (by decide), uy, b_ite]
      cases (T.2 i).2.2 <;> rfl
    refine ⟨_, thr Y 0, hy, h.thr 0, Or.inl ⟨_, ?_, rfl, thr_14 Y 0⟩⟩
    cases (T.2 i).2.2 <;> rfl
theorem op_found {d : mD} {T : mT} {X Y : wM} (h : INV d T X Y) (a : Int32) : OQ (fun e => if e = 5 then 1 else 0) Eq d T X (f_X7_found X a) (f_X8_found Y a) := by
  have t8 := h.tx.2.1
  unfold f_X7_found f_X8_found f_X8_found_20 f_X8_found_25
  rw [y_isTable h.ty, bind_s, y_chk, bind_s]
  cases ha : inb a T.1
  · rw [(x_told h.tx a).1 ha]
    exact ⟨0, thr Y 1, rfl, h.thr 1, Or.inr ⟨5, rfl, by decide, by decide, thr_14 Y 1⟩⟩
  · obtain ⟨i, hi, rfl⟩ := inb_ex ha
    obtain ⟨s, s1, s2, s3, s4⟩ := h.hl i hi
    have s3' : HR (thr Y 0) i s := s3.cong (thr_o Y 0 (by decide))
    obtain ⟨Y', g1, g2⟩ := y_firstFound (Y := thr Y 0) (t := i) (by omega) s3'
    have q0 : q_first s = 0 := q_cho_first 25 _ s s1
    rw [(x_told h.tx (nI i)).2 i hi rfl, wthr_r, wgd_d (by rw [h.tx.nT]; exact hi), x_numberFound s2 (q_hide_no s1)]
    refine ⟨0, Y', ?_, (h.thr 0).Y (fun k _ _ _ _ _ e => g2 k e) (fun j _ _ => by rw [g2 22 (by decide)]), Or.inl ⟨0, rfl, rfl, by rw [g2 22 (by decide)]; exact thr_14 Y 0⟩⟩
    show (f_X8_firstFound (thr Y 0) (nI i)).bind (fun y14 => if y14.1 < 0 then some (0, y14.2) else some (1, y14.2)) = _
    rw [g1, bind_s, q0]
    exact if_pos (show pe 0 < 0 by decide)
theorem op_foundByWays {d : mD} {T : mT} {X Y : wM} (h : INV d T X Y) (a : Int32) : OQ (fun e => if e = 5 then 1 else 0) Eq d T X (f_X7_foundByWays X a) (f_X8_foundByWays Y a) := by
  have g := op_found h a
  obtain ⟨v, Y', g1, g2, g3⟩ := g
  unfold f_X8_foundByWays
  rw [g1, bind_s]
  refine ⟨v, Y', rfl, g2, ?_⟩
  have t8 := h.tx.2.1
  unfold f_X7_foundByWays
  unfold f_X7_found at g3
  cases ha : inb a T.1
  · rw [(x_told h.tx a).1 ha, wthr_l] at g3 ⊢
    exact g3
  · obtain ⟨i, hi, rfl⟩ := inb_ex ha
    obtain ⟨s, s1, s2, s3, s4⟩ := h.hl i hi
    rw [(x_told h.tx (nI i)).2 i hi rfl, wthr_r, wgd_d (by rw [h.tx.nT]; exact hi)] at g3 ⊢
    rw [x_numberFound s2 (q_hide_no s1)] at g3
    rw [x_numberWithoutWay s2 (q_hide_no s1)]
    exact g3
