/-! three questions anew, with what the law itself needs of their answers -/
def c_hid : Nat → Nat := fun e => if e = 5 then 1 else if e = 2 then 2 else if e = 1 then 3 else 0
def PD (x : UInt64) : Prop := Op.cmpValue (FP.dcmp x x) CmpOp.l = 0
def PF (x : UInt32) : Prop := wnn64 (FP.f2d x) = true ∧ PD (FP.f2d x)
theorem nanF : ∀ a, a < 41 → ∀ b, b < 41 → 0 < b → PF (FP.fdiv (FP.i2f (nI a)) (FP.i2f (nI b))) := by
  unfold PF PD
  decide +kernel
theorem nanD : ∀ b, b < 21 → 0 < b → ∀ a, a < 541 → PD (FP.ddiv (FP.i2d (nI a)) (FP.i2d (nI b))) := by
  unfold PD
  decide +kernel
theorem op_isHidden2 {d : mD} {T : mT} {X Y : wM} (h : INV d T X Y) (a b g : Int32) : OQ c_hid Eq d T X (f_X7_isHidden X a b g) (f_X8_isHidden Y a b g) := by
  have t8 := h.tx.2.1
  unfold f_X7_isHidden f_X8_isHidden f_X8_isHidden_36 f_X8_isHidden_37
  cases ha : inb a T.1
  · rw [(x_told h.tx a).1 ha, (y_wrong h.ty h.ok a b g).1 ha]
    exact ⟨0, thr Y 1, wgd_t okZ_0, h.thr 1, Or.inr ⟨5, rfl, by decide, by decide, thr_14 Y 1⟩⟩
  · obtain ⟨i, hi, rfl⟩ := inb_ex ha
    obtain ⟨s, s1, s2, s3, s4⟩ := h.hl i hi
    have o1 := (h.ok i hi).1
    rw [(x_told h.tx (nI i)).2 i hi rfl, (y_wrong h.ty h.ok (nI i) b g).2 i hi rfl, wthr_r, x_needCell h.tx h.ok hi, bind_s]
    cases hb : inb b (T.2 i).1
    · exact ⟨0, thr Y 2, wgd_t okZ_0, h.thr 2, Or.inr ⟨2, rfl, by decide, by decide, thr_14 Y 2⟩⟩
    · rw [if_pos rfl, if_pos rfl]
      cases hg : inb g 4
      · exact ⟨0, thr Y 3, wgd_t okZ_0, h.thr 3, Or.inr ⟨1, rfl, by decide, by decide, thr_14 Y 3⟩⟩
      · obtain ⟨b, hb2, rfl⟩ := inb_ex hb
        obtain ⟨g, hg2, rfl⟩ := inb_ex hg
        rw [if_pos rfl, if_pos rfl, wthr_r, wgd_d (by rw [h.tx.nT]; exact hi), cell_x, x_has s2 (by omega), bind_s, wgd_t (okZ_b _), wfld14, thr_14, if_pos rfl, y_place, bind_s, wget_n (by omega) (by omega), thr_o Y 0 (by decide), s3 _ (by omega), b_ite, wgd_t okZ_0, wgd_t okZ_1]
        refine ⟨if s (4 * b + g) then 1 else 0, thr Y 0, ?_, h.thr 0, Or.inl ⟨_, rfl, rfl, thr_14 Y 0⟩⟩
        cases s (4 * b + g) <;> rfl
theorem op_doubleShare2 {d : mD} {T : mT} {X Y : wM} (h : INV d T X Y) : OQ (fun e => if e = 3 then 1 else 0) (fun a b => a = b ∧ PF a) d T X (f_X7_doubleShare X) (f_X8_doubleShare Y) := by
  have w4 := h.w.2.2.2.1
  obtain ⟨Y1, a1, a2, a3⟩ := y_layDoubles h.y h.w
  have h1 : INV d T X Y1 := h.Y (fun k _ _ _ _ e _ => a2 k e) (fun j _ _ => by rw [a2 22 (by decide)])
  obtain ⟨t1, t2, t3, t4⟩ := h.2.1.1
  have th := q_three d (q_nr d)
  have n1 := y_many h1.y h.w (k := 99) (b := 0) (p := q_cd d) (fun i hi => (many_p h1.y a3 hi).1.symm)
  have n2 := y_many h1.y h.w (k := 99) (b := 1) (p := q_db d) (fun i hi => (many_p h1.y a3 hi).2.1.symm)
  unfold f_X7_doubleShare f_X8_doubleShare f_X8_doubleShare_30 f_X8_doubleShare_51
  rw [a1, bind_s, n2, bind_s, n1, bind_s, wbd_e, wbd_e, nI_add, t3, t4, nI_add, L0, ieq (by omega) (by omega), ← L0, i0lt (by omega)]
  by_cases e : q_num (q_cd d) (q_nr d) + q_num (q_db d) (q_nr d) = 0
  · rw [if_pos e, if_neg (by omega)]
    have ck : f_X8_checked Y1 0 = some (1, thr Y1 1) := y_chk Y1 false
    rw [ck]
    exact ⟨0, thr Y1 1, rfl, h1.thr 1, Or.inr ⟨3, rfl, by decide, by decide, thr_14 Y1 1⟩⟩
  · rw [if_neg e, if_pos (by omega)]
    have ck : f_X8_checked Y1 1 = some (0, thr Y1 0) := y_chk Y1 true
    have hb : ∀ j, j < q_nr d → thr Y1 0 31 j = if q_db d j then 1 else 0 := fun j hj => by rw [thr_o Y1 0 (by decide)]; exact a3 j hj
    have n3 := y_many (h1.y.thr 0) h.w (k := 99) (b := 1) (p := q_db d) (fun i hi => (many_p (h1.y.thr 0) hb hi).2.1.symm)
    have nn := nan32 (q_num (q_db d) (q_nr d)) (by omega) (q_num (q_cd d) (q_nr d) + q_num (q_db d) (q_nr d)) (by omega) (by omega)
    rw [ck, bind_s, if_neg i01, n3, bind_s, Nat.add_comm (q_num (q_db d) (q_nr d)) (q_num (q_cd d) (q_nr d)), wgd_t nn, wgd_t nn]
    exact ⟨_, thr Y1 0, rfl, h1.thr 0, Or.inl ⟨_, rfl, ⟨rfl, nanF _ (by omega) _ (by omega) (by omega)⟩, thr_14 Y1 0⟩⟩
theorem op_meanScore2 {d : mD} {T : mT} {X Y : wM} (h : INV d T X Y) : OQ (fun e => if e = 3 then 1 else 0) (fun a b => a = b ∧ PD a) d T X (f_X7_meanScore X) (f_X8_meanScore Y) := by
  have w4 := h.w.2.2.2.1
  obtain ⟨Y1, a1, a2, a3, a4⟩ := y_layMatches h.y h.w
  have h1 : INV d T X Y1 := a2.INV h
  obtain ⟨p1, p2, p3, p4⟩ := h.2.1.2
  obtain ⟨m1, m2, m3, m4⟩ := a4
  obtain ⟨m20, m540⟩ := q_mt_20 h.w
  unfold f_X7_meanScore f_X8_meanScore f_X8_meanScore_17 f_X8_meanScore_38
  rw [a1, bind_s, m3, p3, p4, L0, ieq (by omega) (by omega), ← L0, i0lt (by omega)]
  by_cases e : (q_mt d).2.1 = 0
  · rw [if_pos e, if_neg (by omega)]
    have ck : f_X8_checked Y1 0 = some (1, thr Y1 1) := y_chk Y1 false
    rw [ck]
    exact ⟨0, thr Y1 1, rfl, h1.thr 1, Or.inr ⟨3, rfl, by decide, by decide, thr_14 Y1 1⟩⟩
  · rw [if_neg e, if_pos (by omega)]
    have ck : f_X8_checked Y1 1 = some (0, thr Y1 0) := y_chk Y1 true
    have nn := nan64 (q_mt d).2.1 (by omega) (by omega) (q_mt d).2.2 (by omega)
    rw [ck, bind_s, if_neg i01]
    dsimp only
    rw [thr_f Y1 0 (show (24 : Nat) ≠ 14 by decide), thr_f Y1 0 (show (25 : Nat) ≠ 14 by decide), m3, m4, wgd_t nn, wgd_t nn]
    exact ⟨_, thr Y1 0, rfl, h1.thr 0, Or.inl ⟨_, rfl, ⟨rfl, nanD (q_mt d).2.1 (by omega) (by omega) (q_mt d).2.2 (by omega)⟩, thr_14 Y1 0⟩⟩
