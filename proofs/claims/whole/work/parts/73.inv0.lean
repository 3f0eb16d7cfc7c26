/-! the picture at the start -/
def X0 : wM := fun k => match k with
  | 8 => fun j => match j with
    | 2 => 5
    | 3 => 4
    | 4 => 3
    | 5 => 6
    | 6 => 9
    | _ => 0
  | 9 => fun _ => 45
  | _ => fun _ => 0
def Y0 : wM := fun k => match k with
  | 22 => fun j => match j with
    | 19 => 5
    | 20 => 4
    | 21 => 3
    | 22 => 6
    | 23 => 9
    | _ => 0
  | _ => fun _ => 0
def d0 : mD := ((0, 0, fun _ => 0), (0, fun _ => false, fun _ => 0, fun _ => 0, fun _ => 0), (fun _ _ => 0, (5, 4, 3), (6, 9)))
def T0 : mT := (0, fun _ => (0, fun _ => 0, false))
theorem n0 {i : Nat} {p : Prop} (h : i < 0) : p := absurd h (Nat.not_lt_zero i)
theorem qm0 : q_mt d0 = q_m0 := rfl
theorem inv0 : INV d0 T0 X0 Y0 := by
  refine ⟨⟨?_, ?_, ?_, ?_, ?_, ?_, ?_⟩, ⟨?_, ?_⟩, ?_⟩
  · exact ⟨by decide, by decide, fun i h => n0 h, by decide, fun i h => n0 h, fun _ _ => Or.inl rfl, fun _ _ => rfl, fun _ => rfl, by decide, by decide, by decide, by decide, by decide⟩
  · exact ⟨rfl, rfl, fun i h => n0 h, rfl, fun i h => n0 h, fun i j _ _ => rfl, rfl, rfl, rfl, rfl, rfl⟩
  · exact ⟨rfl, rfl, fun i h => n0 h, rfl, fun i h => n0 h, fun i j _ _ => rfl, rfl, rfl, rfl, rfl, rfl⟩
  · exact ⟨rfl, by decide, fun i h => n0 h⟩
  · exact ⟨rfl, by decide, fun i h => n0 h, fun i _ => rfl⟩
  · exact fun i h => n0 h
  · exact fun i h => n0 h
  · exact ⟨fun j h => n0 h, fun e _ => rfl, rfl, rfl⟩
  · unfold PRm
    rw [qm0]
    exact ⟨fun j h => n0 h, fun j => Nat.zero_le _, rfl, rfl⟩
  · exact fun i h => n0 h
theorem wT0 : wT X0 = 0 := rfl
theorem wTf0 (td : Nat → Nat) : wTf X0 td = fun _ => none := by
  funext i
  unfold wTf
  rw [wT0, if_neg (Nat.not_lt_zero i)]
theorem wo1_0 : wo1 0 = fun _ => 0 := by
  funext j
  unfold wo1
  split <;> rfl
theorem wo2_0 : wo2 0 = fun _ => 0 := by
  funext j
  unfold wo2
  split <;> rfl
def s0 : wS := (X0, Y0, 0, 0, (fun _ => 0, []))
theorem wl_0 (B : wB) : wl B s0 = wst B s0 := by
  show wst B s0 ++ ((List.range (4 * wT X0)).map (wtb B s0) ++ []) = _
  rw [wT0]
  simp
theorem SI_0 : SI s0 := ⟨_, _, _, _, _, _, _, rfl, inv0⟩
