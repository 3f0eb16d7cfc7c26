/-! holes and lines -/
def f_X7_holes (X : wM) (a : Int32) : Option (Nat ⊕ Int32) :=
  wthr (f_X7_toldTable X a) (fun e => some (.inl e)) fun i =>
  wgd (decide (i < wT X)) (some (.inr (f_bits (X (39 + 4 * i) 2))))
theorem op_holes {d : mD} {T : mT} {X Y : wM} (h : INV d T X Y) (a : Int32) : OQ (fun e => if e = 5 then 1 else 0) Eq d T X (f_X7_holes X a) (f_X8_holes Y a) := by
  unfold f_X7_holes
  cases ha : inb a T.1
  · rw [(x_told h.tx a).1 ha, (y_holes h a).1 ha]
    exact ⟨0, thr Y 1, rfl, h.thr 1, Or.inr ⟨5, rfl, by decide, by decide, thr_14 Y 1⟩⟩
  · obtain ⟨i, hi, rfl⟩ := inb_ex ha
    obtain ⟨s, s1, s2, s3, s4⟩ := h.hl i hi
    rw [(x_told h.tx (nI i)).2 i hi rfl, (y_holes h (nI i)).2 i hi rfl s s3, wthr_r, wgd_d (by rw [h.tx.nT]; exact hi), f_bits_n s2, show (32 : Nat) = 24 + 8 from rfl, q_num_mask s2 8]
    exact ⟨_, thr Y 0, rfl, h.thr 0, Or.inl ⟨_, rfl, rfl, thr_14 Y 0⟩⟩
/-- the length of a told line, the line's string being of bytes -/
def x_len (X : wM) (i : Nat) (K : Int32 → Option (Nat ⊕ Int32)) : Option (Nat ⊕ Int32) :=
  wgd (decide (i < wT X)) (wgd (decide (X (39 + (4 * i + 2)) 1 = 0)) (wgd (decide (¬ X (39 + (4 * i + 3)) 1000 < 0)) (K (X (39 + (4 * i + 3)) 1000))))
def f_X7_lineLength (X : wM) (a : Int32) : Option (Nat ⊕ Int32) :=
  wthr (f_X7_toldTable X a) (fun e => some (.inl e)) fun i => x_len X i fun n => some (.inr n)
def f_X7_lineAt (X : wM) (a k : Int32) : Option (Nat ⊕ Int32) :=
  wthr (f_X7_toldTable X a) (fun e => some (.inl e)) fun i => x_len X i fun n =>
    if k < 0 then some (.inl 2) else if k < n then wgd (inb (X (39 + (4 * i + 3)) k.toNatClampNeg) 128) (some (.inr (X (39 + (4 * i + 3)) k.toNatClampNeg))) else some (.inl 2)
def f_X8_lineLength (Y : wM) (a : Int32) : Option (Int32 × wM) :=
  (f_X8_isTable Y a).bind fun y3 =>
  (f_X8_checked Y y3).bind fun y6 =>
  (if 0 < y6.1 then some (0, y6.2)
  else (y_line y6.2 a).bind fun L => some (nI L.length, y6.2))
def f_X8_lineAt_60 (Y : wM) (a k s0 : Int32) : Option (Int32 × wM) :=
  wfld Y 22 14 s0 fun Y =>
  (if 0 < (Y 22 14) then some (32, Y)
  else (y_line Y a).bind fun L => wgd (inb k L.length) (wgd (inb (L.getD k.toNatClampNeg 0) 128) (some (L.getD k.toNatClampNeg 0, Y))))
def f_X8_lineAt (Y : wM) (a k : Int32) : Option (Int32 × wM) :=
  (f_X8_isTable Y a).bind fun y3 =>
  (if y3 = 0 then f_X8_lineAt_60 Y a k 1
  else (y_line Y a).bind fun L => (f_X8_in k 0 (nI L.length - 1)).bind fun z =>
    (if z = 0 then f_X8_lineAt_60 Y a k 2 else f_X8_lineAt_60 Y a k 0))
theorem q_text_lt {cn : Nat → Nat} (h : ∀ c, c < 24 → cn c ≤ 40) (s : Nat → Bool) : ∀ c, c ≤ 24 → ∀ v, v ∈ q_text cn s c → v < 128
  | 0, _, v, hv => by cases hv
  | c + 1, hc, v, hv => by
    have h1 := h c (by omega)
    rw [q_text] at hv
    rcases List.mem_append.mp hv with hv | hv
    · exact q_text_lt h s c (by omega) v hv
    · rcases List.mem_append.mp hv with hv | hv
      · split at hv
        · rw [List.mem_singleton.mp hv]; decide
        · unfold q_dig at hv
          split at hv
          · rw [List.mem_singleton.mp hv]; omega
          · rcases List.mem_cons.mp hv with hv | hv
            · omega
            · rw [List.mem_singleton.mp hv]; omega
      · rw [List.mem_singleton.mp hv]
        split <;> decide
theorem getD_map {L : List Nat} {j : Nat} (hj : j < L.length) : (L.map nI).getD j 0 = nI (L.getD j 0) := by
  rw [List.getD_eq_getElem?_getD, List.getElem?_map, List.getD_eq_getElem?_getD, List.getElem?_eq_getElem hj]
  rfl
theorem x_len_n {d : mD} {T : mT} {X Y : wM} (h : INV d T X Y) {i : Nat} (hi : i < T.1) {s : Nat → Bool} (g : LNX X i (T.2 i).1 (T.2 i).2.1 s) (K : Int32 → Option (Nat ⊕ Int32)) : x_len X i K = K (nI (q_text (T.2 i).2.1 s (4 * (T.2 i).1)).length) := by
  have o1 := (h.ok i hi).1
  have tl := q_text_len (T.2 i).2.1 s (4 * (T.2 i).1)
  obtain ⟨g1, g2, g3⟩ := g
  unfold x_len
  rw [wgd_d (by rw [h.tx.nT]; exact hi), g1, wgd_d rfl, g2, wgd_d (nI_pos (by omega))]
theorem op_lineLength {d : mD} {T : mT} {X Y : wM} (h : INV d T X Y) (a : Int32) : OQ (fun e => if e = 5 then 1 else 0) Eq d T X (f_X7_lineLength X a) (f_X8_lineLength Y a) := by
  have t8 := h.tx.2.1
  unfold f_X7_lineLength f_X8_lineLength
  rw [y_isTable h.ty, bind_s, y_chk, bind_s]
  cases ha : inb a T.1
  · rw [(x_told h.tx a).1 ha]
    exact ⟨0, thr Y 1, rfl, h.thr 1, Or.inr ⟨5, rfl, by decide, by decide, thr_14 Y 1⟩⟩
  · obtain ⟨i, hi, rfl⟩ := inb_ex ha
    obtain ⟨s, s1, s2, s3, s4⟩ := h.hl i hi
    obtain ⟨o1, o2⟩ := h.ok i hi
    obtain ⟨u1, u2, u3⟩ := (h.thr 0).ty.2.2.1 i hi
    have yl := y_line_n (Y := thr Y 0) (i := i) (by omega) u1 o1 (s3.cong (thr_o Y 0 (by decide))) u2 o2
    rw [(x_told h.tx (nI i)).2 i hi rfl, wthr_r, x_len_n h hi s4]
    refine ⟨nI (q_text (T.2 i).2.1 s (4 * (T.2 i).1)).length, thr Y 0, ?_, h.thr 0, Or.inl ⟨_, rfl, rfl, thr_14 Y 0⟩⟩
    show (y_line (thr Y 0) (nI i)).bind (fun L => some (nI L.length, thr Y 0)) = _
    rw [yl, bind_s, List.length_map]
theorem op_lineAt {d : mD} {T : mT} {X Y : wM} (h : INV d T X Y) (a k : Int32) : OQ (fun e => if e = 5 then 1 else if e = 2 then 2 else 0) Eq d T X (f_X7_lineAt X a k) (f_X8_lineAt Y a k) := by
  have t8 := h.tx.2.1
  unfold f_X7_lineAt f_X8_lineAt f_X8_lineAt_60
  rw [y_isTable h.ty, bind_s, b_ite]
  cases ha : inb a T.1
  · rw [(x_told h.tx a).1 ha]
    exact ⟨32, thr Y 1, rfl, h.thr 1, Or.inr ⟨5, rfl, by decide, by decide, thr_14 Y 1⟩⟩
  · obtain ⟨i, hi, rfl⟩ := inb_ex ha
    obtain ⟨s, s1, s2, s3, s4⟩ := h.hl i hi
    obtain ⟨o1, o2⟩ := h.ok i hi
    obtain ⟨u1, u2, u3⟩ := (h.thr 0).ty.2.2.1 i hi
    obtain ⟨w1, w2, w3⟩ := h.ty.2.2.1 i hi
    have yl := y_line_n (Y := thr Y 0) (i := i) (by omega) u1 o1 (s3.cong (thr_o Y 0 (by decide))) u2 o2
    have yl0 := y_line_n (Y := Y) (i := i) (by omega) w1 o1 s3 w2 o2
    have tl := q_text_len (T.2 i).2.1 s (4 * (T.2 i).1)
    rw [(x_told h.tx (nI i)).2 i hi rfl, wthr_r, x_len_n h hi s4, if_pos rfl, yl0, bind_s, List.length_map, f_in_n k (by omega), bind_s, b_ite, x_in k (by omega)]
    cases hk : inb k (q_text (T.2 i).2.1 s (4 * (T.2 i).1)).length
    · exact ⟨32, thr Y 2, rfl, h.thr 2, Or.inr ⟨2, rfl, by decide, by decide, thr_14 Y 2⟩⟩
    · obtain ⟨j, hj, rfl⟩ := inb_ex hk
      have v128 : (q_text (T.2 i).2.1 s (4 * (T.2 i).1)).getD j 0 < 128 := by
        rw [List.getD_eq_getElem?_getD, List.getElem?_eq_getElem hj]
        exact q_text_lt o2 s _ (by omega) _ (List.getElem_mem hj)
      have gj : ((q_text (T.2 i).2.1 s (4 * (T.2 i).1)).map nI).getD j 0 = nI ((q_text (T.2 i).2.1 s (4 * (T.2 i).1)).getD j 0) := getD_map hj
      rw [if_pos rfl, if_pos rfl, wfld14, thr_14, if_neg i01, yl, bind_s, List.length_map, hk, wgd_t rfl, nI_clamp (by omega), gj, s4.2.2 j hj, inb_b (by omega), decide_eq_true v128, wgd_t rfl, wgd_t rfl]
      exact ⟨_, thr Y 0, rfl, h.thr 0, Or.inl ⟨_, rfl, rfl, thr_14 Y 0⟩⟩
