/-! what the Statement gives of the start -/
abbrev flG : List Cond := flatC (Jvm.Cond.and given_1 narrow_1)
theorem st_arr {args : Array Value} {s : State} {ty : FieldType} (hno : ∀ C, ty ≠ .object C) (h : (Cond.arrayClass ty).before args s = true) : ∃ cA : ClassId, ArrOfT s cA ty ∧ va_RA s cA ty := by
  obtain ⟨cA, kA, comp, h1, h2, h3⟩ := Cond.arrayClass_spec h
  refine ⟨cA, fun n z => ⟨fun k h => (by cases h), kA, h2, comp, h3⟩, ?_⟩
  cases ty <;> first | exact h1 | exact absurd rfl (hno _)
theorem st_arrO {args : Array Value} {s : State} {C : String} (h : (Cond.arrayOver (.object C)).before args s = true) : ∃ cA : ClassId, ArrOfT s cA (.object C) ∧ va_RA s cA (.object C) := by
  obtain ⟨comp, cA, kA, h1, -, h2, h3, h4⟩ := Cond.arrayOver_spec h
  exact ⟨cA, fun n z => ⟨fun k h => (by cases h), kA, h2, comp, h3⟩, kA, comp, h2, h3, h1, h4⟩
theorem st_dA {s : State} {b : Nat} (hts : ∀ w ∈ lw_tbl, w.before #[Value.ref b] s = true) : ∃ dA : Nat → ClassId, ∀ (B : wB), wdA B = dA → ∀ (k : Nat) (q : ClassId × FieldType), (wty B)[k]? = some q → ArrOfT s q.1 q.2 ∧ va_RA s q.1 q.2 := by
  obtain ⟨c0, e0⟩ := st_arr (ty := .int) (fun C h => by cases h) (hts (.arrayClass .int) (by decide +kernel))
  obtain ⟨c1, e1⟩ := st_arr (ty := .boolean) (fun C h => by cases h) (hts (.arrayClass .boolean) (by decide +kernel))
  obtain ⟨c2, e2⟩ := st_arr (ty := .char) (fun C h => by cases h) (hts (.arrayClass .char) (by decide +kernel))
  obtain ⟨c3, e3⟩ := st_arrO (C := "CensusLoom$Table") (hts (.arrayOver (.object "CensusLoom$Table")) (by decide +kernel))
  obtain ⟨c4, e4⟩ := st_arr (ty := .byte) (fun C h => by cases h) (hts (.arrayClass .byte) (by decide +kernel))
  obtain ⟨c5, e5⟩ := st_arr (ty := .long) (fun C h => by cases h) (hts (.arrayClass .long) (by decide +kernel))
  obtain ⟨c6, e6⟩ := st_arr (ty := .double) (fun C h => by cases h) (hts (.arrayClass .double) (by decide +kernel))
  refine ⟨fun k => match k with | 0 => c0 | 1 => c1 | 2 => c2 | 3 => c3 | 4 => c4 | 5 => c5 | _ => c6, fun B hB k q hq => ?_⟩
  unfold wty at hq
  rw [hB] at hq
  match k, hq with
  | 0, hq => cases hq; exact e0
  | 1, hq => cases hq; exact e1
  | 2, hq => cases hq; exact e2
  | 3, hq => cases hq; exact e3
  | 4, hq => cases hq; exact e4
  | 5, hq => cases hq; exact e5
  | 6, hq => cases hq; exact e6
  | k + 7, hq => simp at hq
theorem st_uJx : ∀ c ∈ u_ws RJx00060 TJx00060 6, c ∈ wTs := by decide +kernel
theorem st_dC {s : State} {b : Nat} (hts : ∀ w ∈ lw_tbl, w.before #[Value.ref b] s = true) : ∃ (dC : Nat → ClassId) (dI : Nat → Nat → Nat), ∀ (k : Nat) (q : vw_C), vwCl[k]? = some q → u_Kn s q.1 q.2.1 q.2.2 (dC k) (dI k) := by
  have hw : ∀ c ∈ wTs, c.before #[Value.ref b] s = true := fun c hc => hts c (List.mem_filter.mp hc).1
  obtain ⟨c0, i0, e0⟩ := u_known (C := RJ0) (T := TJ0) (N := 4) (n := 4) hw cl_J0.2.1 (hts (.instantiable RJ0 4) (by decide +kernel))
  obtain ⟨c1, i1, e1⟩ := u_known (C := RJ4) (T := TJ4) (N := 4) (n := 4) hw cl_J4.2.1 (hts (.instantiable RJ4 4) (by decide +kernel))
  obtain ⟨c2, i2, e2⟩ := u_known (C := RJx00060) (T := TJx00060) (N := 6) (n := 6) hw st_uJx (hts (.instantiable RJx00060 6) (by decide +kernel))
  obtain ⟨c3, i3, e3⟩ := u_known (C := RX1) (T := TX1) (N := 7) (n := 7) hw cl_X1.2.1 (hts (.instantiable RX1 7) (by decide +kernel))
  obtain ⟨c4, i4, e4⟩ := u_known (C := RX2) (T := TX2) (N := 10) (n := 10) hw cl_X2.2.1 (hts (.instantiable RX2 10) (by decide +kernel))
  obtain ⟨c5, i5, e5⟩ := u_known (C := RX3) (T := TX3) (N := 6) (n := 6) hw cl_X3.2.1 (hts (.instantiable RX3 6) (by decide +kernel))
  obtain ⟨c6, i6, e6⟩ := u_known (C := RX4) (T := TX4) (N := 3) (n := 3) hw cl_X4.2.1 (hts (.instantiable RX4 3) (by decide +kernel))
  obtain ⟨c7, i7, e7⟩ := u_known (C := RX5) (T := TX5) (N := 5) (n := 5) hw cl_X5.2.1 (hts (.instantiable RX5 5) (by decide +kernel))
  obtain ⟨c8, i8, e8⟩ := u_known (C := RX6) (T := TX6) (N := 6) (n := 6) hw cl_X6.2.1 (hts (.instantiable RX6 6) (by decide +kernel))
  obtain ⟨c9, i9, e9⟩ := u_known (C := RX7) (T := TX7) (N := 8) (n := 8) hw cl_X7.2.1 (hts (.instantiable RX7 8) (by decide +kernel))
  obtain ⟨c10, i10, e10⟩ := u_known (C := RX8) (T := TX8) (N := 26) (n := 26) hw cl_X8.2.1 (hts (.instantiable RX8 26) (by decide +kernel))
  refine ⟨fun k => match k with | 0 => c0 | 1 => c1 | 2 => c2 | 3 => c3 | 4 => c4 | 5 => c5 | 6 => c6 | 7 => c7 | 8 => c8 | 9 => c9 | _ => c10, fun k => match k with | 0 => i0 | 1 => i1 | 2 => i2 | 3 => i3 | 4 => i4 | 5 => i5 | 6 => i6 | 7 => i7 | 8 => i8 | 9 => i9 | _ => i10, fun k q hq => ?_⟩
  match k, hq with
  | 0, hq => cases hq; exact e0
  | 1, hq => cases hq; exact e1
  | 2, hq => cases hq; exact e2
  | 3, hq => cases hq; exact e3
  | 4, hq => cases hq; exact e4
  | 5, hq => cases hq; exact e5
  | 6, hq => cases hq; exact e6
  | 7, hq => cases hq; exact e7
  | 8, hq => cases hq; exact e8
  | 9, hq => cases hq; exact e9
  | 10, hq => cases hq; exact e10
  | k + 11, hq => simp [vwCl] at hq
theorem st_strW : ∀ q ∈ wStrs, q.1 = RX7 ∧ Cond.stringRef q.1 q.2.1 q.2.2 ∈ lw_tbl := by decide +kernel
theorem st_sa {s : State} {b : Nat} (hts : ∀ w ∈ lw_tbl, w.before #[Value.ref b] s = true) {cc : ClassId} (hc : s.vm.findClass RX7 = some cc) : ∃ sa : Nat → Nat, ∀ (i : Nat) (q : String × Nat × String), wStrs[i]? = some q → vk_R q.1 q.2.1 q.2.2 (sa i) s := by
  refine Classical.skolem.mp (show ∀ i : Nat, ∃ a : Nat, ∀ q : String × Nat × String, wStrs[i]? = some q → vk_R q.1 q.2.1 q.2.2 a s from fun i => ?_)
  cases hq : wStrs[i]? with
  | none => exact ⟨0, fun q h => by cases h⟩
  | some q =>
    obtain ⟨e, hm⟩ := st_strW q (List.mem_of_getElem? hq)
    have h1 := hts _ hm
    obtain ⟨k, cf, i2, a, -, -, -, -, -, hev⟩ := Cond.stringRef_spec (cls := q.1) (by rw [e]; exact hc) h1
    refine ⟨a, fun q' h => ?_⟩
    cases h
    exact vk_R.of h1 hev
theorem st_ncW : ∀ q ∈ wNcs, Cond.not (.castable q.1 q.2) ∈ flG := by decide +kernel
theorem st_nc {s : State} {b : Nat} (hgv : (Jvm.Cond.and given_1 narrow_1).before #[Value.ref b] s = true) : wNc wNcs s := fun i q h => va_Nc.of (flat_of_before _ hgv _ (st_ncW q (List.mem_of_getElem? h)))
theorem st_one : ∀ j : Nat, j < 100 → (Cond.eq (.elem (.static "java/lang/Integer" "DigitOnes" "[B") (.int (Int32.ofNat j))) (.int (Int32.ofNat (48 + j % 10)))) ∈ flG :=
  va_run (N := 100) (p := 14) (f := fun j => Cond.eq (.elem (.static "java/lang/Integer" "DigitOnes" "[B") (.int (Int32.ofNat j))) (.int (Int32.ofNat (48 + j % 10)))) (by decide +kernel)
theorem st_ten : ∀ j : Nat, j < 100 → (Cond.eq (.elem (.static "java/lang/Integer" "DigitTens" "[B") (.int (Int32.ofNat j))) (.int (Int32.ofNat (48 + j / 10)))) ∈ flG :=
  va_run (N := 100) (p := 117) (f := fun j => Cond.eq (.elem (.static "java/lang/Integer" "DigitTens" "[B") (.int (Int32.ofNat j))) (.int (Int32.ofNat (48 + j / 10)))) (by decide +kernel)
theorem st_do {s : State} {b : Nat} (hts : ∀ w ∈ lw_tbl, w.before #[Value.ref b] s = true) (hgv : (Jvm.Cond.and given_1 narrow_1).before #[Value.ref b] s = true) {A : Nat → Prop} (hA : ∀ a : Nat, a < s.heap.size → ¬ A a) : ∃ t : Nat, va_Z "java/lang/Integer" "DigitOnes" "[B" (.ref t) A s s.heap ∧ va_T .byte t 100 (fun j => .int (Int32.ofNat (48 + j % 10))) A s s.heap := by
  obtain ⟨t, ht, hT⟩ := va_Tof (tm := .static "java/lang/Integer" "DigitOnes" "[B") (ty := .byte) (N := 100) (f := fun j => .int (Int32.ofNat (48 + j % 10))) (by decide) (flat_of_before _ hgv (.arrayOf (.static "java/lang/Integer" "DigitOnes" "[B") .byte) (List.mem_of_getElem? (i := 12) (by decide +kernel))) (va_eqv (v := .int (Int32.ofNat 100)) (flat_of_before _ hgv (.eq (.length (.static "java/lang/Integer" "DigitOnes" "[B")) (.int 100)) (List.mem_of_getElem? (i := 13) (by decide +kernel))) rfl) (fun j hj => va_eqv (flat_of_before _ hgv _ (st_one j hj)) rfl) hA
  exact ⟨t, va_Zref (hts (.laysStatic "java/lang/Integer" "DigitOnes" "[B") (by decide +kernel)) (hts (.initialized "java/lang/Integer") (by decide +kernel)) ht hA, hT⟩
theorem st_dt {s : State} {b : Nat} (hts : ∀ w ∈ lw_tbl, w.before #[Value.ref b] s = true) (hgv : (Jvm.Cond.and given_1 narrow_1).before #[Value.ref b] s = true) {A : Nat → Prop} (hA : ∀ a : Nat, a < s.heap.size → ¬ A a) : ∃ t : Nat, va_Z "java/lang/Integer" "DigitTens" "[B" (.ref t) A s s.heap ∧ va_T .byte t 100 (fun j => .int (Int32.ofNat (48 + j / 10))) A s s.heap := by
  obtain ⟨t, ht, hT⟩ := va_Tof (tm := .static "java/lang/Integer" "DigitTens" "[B") (ty := .byte) (N := 100) (f := fun j => .int (Int32.ofNat (48 + j / 10))) (by decide) (flat_of_before _ hgv (.arrayOf (.static "java/lang/Integer" "DigitTens" "[B") .byte) (List.mem_of_getElem? (i := 115) (by decide +kernel))) (va_eqv (v := .int (Int32.ofNat 100)) (flat_of_before _ hgv (.eq (.length (.static "java/lang/Integer" "DigitTens" "[B")) (.int 100)) (List.mem_of_getElem? (i := 116) (by decide +kernel))) rfl) (fun j hj => va_eqv (flat_of_before _ hgv _ (st_ten j hj)) rfl) hA
  exact ⟨t, va_Zref (hts (.laysStatic "java/lang/Integer" "DigitTens" "[B") (by decide +kernel)) (hts (.initialized "java/lang/Integer") (by decide +kernel)) ht hA, hT⟩
theorem st_e {s : State} {b : Nat} (hts : ∀ w ∈ lw_tbl, w.before #[Value.ref b] s = true) (hgv : (Jvm.Cond.and given_1 narrow_1).before #[Value.ref b] s = true) {A : Nat → Prop} (hA : ∀ a : Nat, a < s.heap.size → ¬ A a) : (va_Z "java/lang/String" "COMPACT_STRINGS" "Z" (.int 1) A s s.heap ∧ va_Zq "jdk/internal/util/Preconditions" "SIOOBE_FORMATTER" "Ljava/util/function/BiFunction;" A s s.heap) ∧ vx_Zq Bundle.tN "UNASSIGNED_STACK" Bundle.steD A s s.heap ∧ vx_Zq Bundle.tN "SUPPRESSED_SENTINEL" Bundle.listD A s s.heap :=
  ⟨⟨va_Zof (hts (.laysStatic "java/lang/String" "COMPACT_STRINGS" "Z") (by decide +kernel)) (hts (.initialized "java/lang/String") (by decide +kernel)) (va_eqv (v := .int 1) (flat_of_before _ hgv (.eq (.static "java/lang/String" "COMPACT_STRINGS" "Z") (.int 1)) (List.mem_of_getElem? (i := 6) (by decide +kernel))) rfl) hA,
    va_Zqof (C := "jdk/internal/util/Preconditions") (n := "SIOOBE_FORMATTER") (d := "Ljava/util/function/BiFunction;") (hts (.laysStatic "jdk/internal/util/Preconditions" "SIOOBE_FORMATTER" "Ljava/util/function/BiFunction;") (by decide +kernel)) (hts (.initialized "jdk/internal/util/Preconditions") (by decide +kernel)) (flat_of_before _ hgv (.isRef (.static "jdk/internal/util/Preconditions" "SIOOBE_FORMATTER" "Ljava/util/function/BiFunction;")) (List.mem_of_getElem? (i := 7) (by decide +kernel))) hA⟩,
    vx_Zqof (C := "java/lang/Throwable") (n := "UNASSIGNED_STACK") (d := "[Ljava/lang/StackTraceElement;") (hts (.laysStatic "java/lang/Throwable" "UNASSIGNED_STACK" "[Ljava/lang/StackTraceElement;") (by decide +kernel)) (hts (.initialized "java/lang/Throwable") (by decide +kernel)) (flat_of_before _ hgv (.isRef (.static "java/lang/Throwable" "UNASSIGNED_STACK" "[Ljava/lang/StackTraceElement;")) (List.mem_of_getElem? (i := 4) (by decide +kernel))) hA,
    vx_Zqof (C := "java/lang/Throwable") (n := "SUPPRESSED_SENTINEL") (d := "Ljava/util/List;") (hts (.laysStatic "java/lang/Throwable" "SUPPRESSED_SENTINEL" "Ljava/util/List;") (by decide +kernel)) (hts (.initialized "java/lang/Throwable") (by decide +kernel)) (flat_of_before _ hgv (.isRef (.static "java/lang/Throwable" "SUPPRESSED_SENTINEL" "Ljava/util/List;")) (List.mem_of_getElem? (i := 5) (by decide +kernel))) hA⟩
theorem st_x {s : State} {b : Nat} (hts : ∀ w ∈ lw_tbl, w.before #[Value.ref b] s = true) : wXtra s :=
  ⟨va_AO.of (hts (.arrayOver (.object "CensusLoom$Table")) (by decide +kernel)), va_Nw.of rfl (hts (.methodLinkNest RX7 11 yX4_init "CensusLoom") (by decide +kernel))⟩
/-- all of it, whatever the cells' addresses will be -/
theorem st_all {s : State} {b : Nat} (hts : ∀ w ∈ lw_tbl, w.before #[Value.ref b] s = true) (hgv : (Jvm.Cond.and given_1 narrow_1).before #[Value.ref b] s = true) : ∃ (dC : Nat → ClassId) (dI : Nat → Nat → Nat) (dA : Nat → ClassId) (sa : Nat → Nat), ∀ ad : Nat → Nat, va_K (dC, dI) vwCl (wty (s.heap.size, ad, dC, dI, dA, sa)) s ∧ wE (s.heap.size, ad, dC, dI, dA, sa) s := by
  obtain ⟨dA, hdA⟩ := st_dA hts
  obtain ⟨dC, dI, hdC⟩ := st_dC hts
  obtain ⟨sa, hsa⟩ := st_sa hts (hdC 9 _ rfl).2.1
  have hA : ∀ a : Nat, a < s.heap.size → ¬ (fun q => s.heap.size ≤ q) a := fun a h => Nat.not_le.mpr h
  obtain ⟨⟨e1, e2⟩, e3, e4⟩ := st_e hts hgv hA
  exact ⟨dC, dI, dA, sa, fun ad => ⟨⟨hdC, hdA _ rfl⟩, e3, e4, hsa, st_nc hgv, e1, e2, st_do hts hgv hA, st_dt hts hgv hA⟩⟩
