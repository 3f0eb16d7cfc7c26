/-! what the printed rows need beside the judgement's own -/
def rp (V : Option Value) (S : wS) : Option Value → wS → Prop := fun v σ => v = V ∧ σ = S
def xp0 : String → wS → Prop := fun _ _ => False
def rpS {ε α : Type} (y : ε ⊕ α) (P : α → Option Value → wS → Prop) : Option Value → wS → Prop := fun v σ => ∃ z, y = .inr z ∧ P z v σ
def xpS {ε α : Type} (y : ε ⊕ α) (Q : ε → String → wS → Prop) : String → wS → Prop := fun E σ => ∃ e, y = .inl e ∧ Q e E σ
def wopt {ρ : Type} (o : Option Nat) (A : Option ρ) (B : Nat → Option ρ) : Option ρ := match o with | none => A | some i => B i
def wthr {ε α ρ : Type} (o : Option (ε ⊕ α)) (T : ε → Option ρ) (K : α → Option ρ) : Option ρ := match o with | none => none | some (.inl e) => T e | some (.inr y) => K y
def wtab {ρ : Type} (X : wM) (i : Int32) (K : Option Nat → Option ρ) : Option ρ := if inb i 8 = true then K (if i.toNatClampNeg < wT X then some i.toNatClampNeg else none) else none
def wnn32 (x : UInt32) : Bool := decide (x &&& 0x7fffffff ≤ 0x7f800000)
def wnn64 (x : UInt64) : Bool := decide (x &&& 0x7fffffffffffffff ≤ 0x7ff0000000000000)
theorem wnn32_ok {x : UInt32} (h : wnn32 x = true) : vf_n32 x := by
  unfold vf_n32
  exact of_decide_eq_true h
theorem wnn64_ok {x : UInt64} (h : wnn64 x = true) : vf_n64 x := by
  unfold vf_n64
  exact of_decide_eq_true h
def wokN (ty : FieldType) (v : Int32) : Bool := decide (narrow ty (.int v) = .int v)
theorem wokN_ok {ty : FieldType} {v : Int32} (h : wokN ty v = true) : narrow ty (.int v) = .int v := of_decide_eq_true h
theorem wrf_or (o : Option Nat) : va_rf o = .null ∨ ∃ a, va_rf o = .ref a := by
  cases o with
  | none => exact Or.inl rfl
  | some a => exact Or.inr ⟨a, rfl⟩
theorem wrf_cat (o : Option Nat) : (va_rf o).category = 1 := by cases o <;> rfl
section JR2
variable {G : wG} {own : String} {cc : ByteArray} {nL fr lo kc ks pc : Nat} {lv : List (Nat × Value)} {st : List Value} {σ : wS} {ρ : Type} {res : ρ}
theorem j_istoreB (hG : wOk G own cc nL fr lo) {i : Nat} {x : Int32} {K : Int32 → Option ρ} (lv' : Int32 → List (Nat × Value)) (d : decode cc pc = .ok (.istore i, 2)) (hn : i < nL) (hl : ∀ y, (i, Value.int y) :: lv.filter (fun q => !(q.1 == i) && !(q.1 + 1 == i && q.2.category == 2)) = lv' y) (h : wbd x K = some res) (kk : ∀ y, K y = some res → J G nL kc ks (pc + 2) (lv' y) st σ) : J G nL kc ks pc lv (.int x :: st) σ :=
  j_istore hG d hn (hl x) (kk x h)
theorem j_istoreB_n (hG : wOk G own cc nL fr lo) {i : Nat} {k : Fin 4} {x : Int32} {K : Int32 → Option ρ} (lv' : Int32 → List (Nat × Value)) (d : decode cc pc = .ok (.istore_n k, 1)) (hi : (k : Nat) = i) (hn : i < nL) (hl : ∀ y, (i, Value.int y) :: lv.filter (fun q => !(q.1 == i) && !(q.1 + 1 == i && q.2.category == 2)) = lv' y) (h : wbd x K = some res) (kk : ∀ y, K y = some res → J G nL kc ks (pc + 1) (lv' y) st σ) : J G nL kc ks pc lv (.int x :: st) σ :=
  j_istore_n hG d hi hn (hl x) (kk x h)
theorem j_lstoreB (hG : wOk G own cc nL fr lo) {i : Nat} {x : Int64} {K : Int64 → Option ρ} (lv' : Int64 → List (Nat × Value)) (d : decode cc pc = .ok (.lstore i, 2)) (hn : i + 1 < nL) (hl : ∀ y, (i, Value.long y) :: lv.filter (fun q => !(q.1 == i) && (!(q.1 == i + 1) && !(q.1 + 1 == i && q.2.category == 2))) = lv' y) (h : wbd x K = some res) (kk : ∀ y, K y = some res → J G nL kc ks (pc + 2) (lv' y) st σ) : J G nL kc ks pc lv (.long x :: st) σ :=
  j_lstore hG d hn (hl x) (kk x h)
theorem j_lstoreB_n (hG : wOk G own cc nL fr lo) {i : Nat} {k : Fin 4} {x : Int64} {K : Int64 → Option ρ} (lv' : Int64 → List (Nat × Value)) (d : decode cc pc = .ok (.lstore_n k, 1)) (hi : (k : Nat) = i) (hn : i + 1 < nL) (hl : ∀ y, (i, Value.long y) :: lv.filter (fun q => !(q.1 == i) && (!(q.1 == i + 1) && !(q.1 + 1 == i && q.2.category == 2))) = lv' y) (h : wbd x K = some res) (kk : ∀ y, K y = some res → J G nL kc ks (pc + 1) (lv' y) st σ) : J G nL kc ks pc lv (.long x :: st) σ :=
  j_lstore_n hG d hi hn (hl x) (kk x h)
theorem j_fstoreB (hG : wOk G own cc nL fr lo) {i : Nat} {x : UInt32} {K : UInt32 → Option ρ} (lv' : UInt32 → List (Nat × Value)) (d : decode cc pc = .ok (.fstore i, 2)) (hn : i < nL) (hl : ∀ y, (i, Value.float y) :: lv.filter (fun q => !(q.1 == i) && !(q.1 + 1 == i && q.2.category == 2)) = lv' y) (h : wbd x K = some res) (kk : ∀ y, K y = some res → J G nL kc ks (pc + 2) (lv' y) st σ) : J G nL kc ks pc lv (.float x :: st) σ :=
  j_fstore hG d hn (hl x) (kk x h)
theorem j_fstoreB_n (hG : wOk G own cc nL fr lo) {i : Nat} {k : Fin 4} {x : UInt32} {K : UInt32 → Option ρ} (lv' : UInt32 → List (Nat × Value)) (d : decode cc pc = .ok (.fstore_n k, 1)) (hi : (k : Nat) = i) (hn : i < nL) (hl : ∀ y, (i, Value.float y) :: lv.filter (fun q => !(q.1 == i) && !(q.1 + 1 == i && q.2.category == 2)) = lv' y) (h : wbd x K = some res) (kk : ∀ y, K y = some res → J G nL kc ks (pc + 1) (lv' y) st σ) : J G nL kc ks pc lv (.float x :: st) σ :=
  j_fstore_n hG d hi hn (hl x) (kk x h)
theorem j_dstoreB (hG : wOk G own cc nL fr lo) {i : Nat} {x : UInt64} {K : UInt64 → Option ρ} (lv' : UInt64 → List (Nat × Value)) (d : decode cc pc = .ok (.dstore i, 2)) (hn : i + 1 < nL) (hl : ∀ y, (i, Value.double y) :: lv.filter (fun q => !(q.1 == i) && (!(q.1 == i + 1) && !(q.1 + 1 == i && q.2.category == 2))) = lv' y) (h : wbd x K = some res) (kk : ∀ y, K y = some res → J G nL kc ks (pc + 2) (lv' y) st σ) : J G nL kc ks pc lv (.double x :: st) σ :=
  j_dstore hG d hn (hl x) (kk x h)
theorem j_dstoreB_n (hG : wOk G own cc nL fr lo) {i : Nat} {k : Fin 4} {x : UInt64} {K : UInt64 → Option ρ} (lv' : UInt64 → List (Nat × Value)) (d : decode cc pc = .ok (.dstore_n k, 1)) (hi : (k : Nat) = i) (hn : i + 1 < nL) (hl : ∀ y, (i, Value.double y) :: lv.filter (fun q => !(q.1 == i) && (!(q.1 == i + 1) && !(q.1 + 1 == i && q.2.category == 2))) = lv' y) (h : wbd x K = some res) (kk : ∀ y, K y = some res → J G nL kc ks (pc + 1) (lv' y) st σ) : J G nL kc ks pc lv (.double x :: st) σ :=
  j_dstore_n hG d hi hn (hl x) (kk x h)
theorem j_iincB (hG : wOk G own cc nL fr lo) (j : Nat) {i : Nat} {n : Int} {x v : Int32} {K : Int32 → Option ρ} (lv' : Int32 → List (Nat × Value)) (d : decode cc pc = .ok (.iinc i n, 3)) (hk : lv[j]? = some (i, .int x)) (hv : x + Int32.ofInt n = v) (hn : i < nL) (hl : ∀ y, (i, Value.int y) :: lv.filter (fun q => !(q.1 == i) && !(q.1 + 1 == i && q.2.category == 2)) = lv' y) (h : wbd v K = some res) (kk : ∀ y, K y = some res → J G nL kc ks (pc + 3) (lv' y) st σ) : J G nL kc ks pc lv st σ :=
  j_iinc hG j d hk hv hn (hl v) (kk v h)
theorem j_qload_n (hG : wOk G own cc nL fr lo) (j : Nat) {i : Nat} {k : Fin 4} {x : Option Nat} (d : decode cc pc = .ok (.aload_n k, 1)) (hi : (k : Nat) = i) (hl : lv[j]? = some (i, va_rf x)) (kk : J G nL kc ks (pc + 1) lv (va_rf x :: st) σ) : J G nL kc ks pc lv st σ := by
  intro ls H locs cells slots h1 h2 h3 h4 h5 h6
  cases x with
  | none => exact lv_aload_nN hG.1.1 hG.1.2.1 d hi (lv_at h1 j hl) (kk ls H locs cells slots h1 h2 h3 h4 h5 h6)
  | some a => exact lv_aload_n hG.1.1 hG.1.2.1 d hi (lv_at h1 j hl) (kk ls H locs cells slots h1 h2 h3 h4 h5 h6)
theorem j_qload (hG : wOk G own cc nL fr lo) (j : Nat) {i : Nat} {x : Option Nat} (d : decode cc pc = .ok (.aload i, 2)) (hl : lv[j]? = some (i, va_rf x)) (kk : J G nL kc ks (pc + 2) lv (va_rf x :: st) σ) : J G nL kc ks pc lv st σ := by
  intro ls H locs cells slots h1 h2 h3 h4 h5 h6
  cases x with
  | none => exact lv_aloadN hG.1.1 hG.1.2.1 d (lv_at h1 j hl) (kk ls H locs cells slots h1 h2 h3 h4 h5 h6)
  | some a => exact lv_aload hG.1.1 hG.1.2.1 d (lv_at h1 j hl) (kk ls H locs cells slots h1 h2 h3 h4 h5 h6)
theorem j_qstore_n (hG : wOk G own cc nL fr lo) {i : Nat} {k : Fin 4} {v : Value} {lv' : List (Nat × Value)} (hv : v = .null ∨ ∃ a, v = .ref a) (d : decode cc pc = .ok (.astore_n k, 1)) (hi : (k : Nat) = i) (hn : i < nL) (hl : (i, v) :: lv.filter (fun q => !(q.1 == i) && !(q.1 + 1 == i && q.2.category == 2)) = lv') (kk : J G nL kc ks (pc + 1) lv' st σ) : J G nL kc ks pc lv (v :: st) σ := by
  intro ls H locs cells slots h1 h2 h3 h4 h5 h6
  rcases hv with rfl | ⟨a, rfl⟩
  · exact lv_astore_nN hG.1.1 hG.1.2.1 d hi h1 hn hl (fun ls' h' => kk ls' H locs cells slots h' h2 h3 h4 h5 h6)
  · exact lv_astore_n hG.1.1 hG.1.2.1 d hi h1 hn hl (fun ls' h' => kk ls' H locs cells slots h' h2 h3 h4 h5 h6)
theorem j_qstore (hG : wOk G own cc nL fr lo) {i : Nat} {v : Value} {lv' : List (Nat × Value)} (hv : v = .null ∨ ∃ a, v = .ref a) (d : decode cc pc = .ok (.astore i, 2)) (hn : i < nL) (hl : (i, v) :: lv.filter (fun q => !(q.1 == i) && !(q.1 + 1 == i && q.2.category == 2)) = lv') (kk : J G nL kc ks (pc + 2) lv' st σ) : J G nL kc ks pc lv (v :: st) σ := by
  intro ls H locs cells slots h1 h2 h3 h4 h5 h6
  rcases hv with rfl | ⟨a, rfl⟩
  · exact lv_astoreN hG.1.1 hG.1.2.1 d h1 hn hl (fun ls' h' => kk ls' H locs cells slots h' h2 h3 h4 h5 h6)
  · exact lv_astore hG.1.1 hG.1.2.1 d h1 hn hl (fun ls' h' => kk ls' H locs cells slots h' h2 h3 h4 h5 h6)
theorem wthr_ok {ε α : Type} {o : Option (ε ⊕ α)} {T : ε → Option ρ} {K : α → Option ρ} (h : wthr o T K = some res) : (∃ e, o = some (.inl e) ∧ T e = some res) ∨ ∃ y, o = some (.inr y) ∧ K y = some res := by
  unfold wthr at h
  split at h
  · cases h
  · exact Or.inl ⟨_, rfl, h⟩
  · exact Or.inr ⟨_, rfl, h⟩
/-- a call of a method that returns -/
theorem j_callVp (hG : wOk G own cc nL fr lo) {α : Type} {o : Option α} {K : α → Option ρ} (h : o.bind K = some res) {y : MethodName} {cc' : ByteArray} {nL' n mc ms fr' lo' index : Nat} {ret : Option FieldType} {b : Addr} {As rest : List Value} {V : α → Option Value} {S : α → wS} (ct : ∀ z, o = some z → wMet (gl G) (gB G) y cc' nL' ret fr' lo' mc ms (.ref b :: As) σ (rp (V z) (S z)) xp0) (mf : wMFv y cc' nL' ret n) (ml : Cond.methodLink own index y ∈ wTs)
    (k0 : Nat) {ci N : Nat} {T : u_T} {fs : List Value} (he : (wl (gB G) σ)[k0]? = some (b, .inr (ci, fs))) (hc : vwCl[ci]? = some (y.cls, T, N)) (hn : As.length = n) (hst : st = As.reverse ++ .ref b :: rest) (hroom : (rest.map fun v => v.category).sum ≤ 8) (d : decode cc pc = .ok (.invokevirtual index, 3)) (hfr : fr' + 1 ≤ fr) (hlo : 8 + (nL' + 11) + lo' ≤ lo)
    (kk : ∀ z, K z = some res → J G nL kc ks (pc + 3) lv ((V z).toList ++ rest) (S z)) : J G nL (kc + mc) (ks + ms) pc lv st σ := by
  obtain ⟨z, hz, h⟩ := ob h
  exact j_callV hG (ct z hz) mf ml k0 he hc hn hst hroom d hfr hlo (fun v σ' q => by obtain ⟨rfl, rfl⟩ := q; exact kk z h) (fun E σ' q => q.elim)
theorem j_callSp (hG : wOk G own cc nL fr lo) {α : Type} {o : Option α} {K : α → Option ρ} (h : o.bind K = some res) {y : MethodName} {cc' : ByteArray} {nL' n mc ms fr' lo' index : Nat} {ret : Option FieldType} {As rest : List Value} {V : α → Option Value} {S : α → wS} (ct : ∀ z, o = some z → wMet (gl G) (gB G) y cc' nL' ret fr' lo' mc ms As σ (rp (V z) (S z)) xp0) (mf : wMFs y cc' nL' ret n) (ml : Cond.methodLink own index y ∈ wTs)
    (hn : As.length = n) (hst : st = As.reverse ++ rest) (hroom : (rest.map fun v => v.category).sum ≤ 8) (d : decode cc pc = .ok (.invokestatic index, 3)) (hfr : fr' + 1 ≤ fr) (hlo : 8 + (nL' + 11) + lo' ≤ lo)
    (kk : ∀ z, K z = some res → J G nL kc ks (pc + 3) lv ((V z).toList ++ rest) (S z)) : J G nL (kc + mc) (ks + ms) pc lv st σ := by
  obtain ⟨z, hz, h⟩ := ob h
  exact j_callS hG (ct z hz) mf ml hn hst hroom d hfr hlo (fun v σ' q => by obtain ⟨rfl, rfl⟩ := q; exact kk z h) (fun E σ' q => q.elim)
/-- a call of a method that may throw -/
theorem j_callVt (hG : wOk G own cc nL fr lo) {ε α : Type} {o : Option (ε ⊕ α)} {T0 : ε → Option ρ} {K : α → Option ρ} (h : wthr o T0 K = some res) {y : MethodName} {cc' : ByteArray} {nL' n mc ms fr' lo' index : Nat} {ret : Option FieldType} {b : Addr} {As rest : List Value} {V : α → Option Value} {S : α → wS} {E0 : ε → String} {S0 : ε → wS} (ct : ∀ z, o = some z → wMet (gl G) (gB G) y cc' nL' ret fr' lo' mc ms (.ref b :: As) σ (rpS z (fun w => rp (V w) (S w))) (xpS z (fun e E σ1 => E = E0 e ∧ σ1 = S0 e))) (mf : wMFv y cc' nL' ret n) (ml : Cond.methodLink own index y ∈ wTs)
    (k0 : Nat) {ci N : Nat} {T : u_T} {fs : List Value} (he : (wl (gB G) σ)[k0]? = some (b, .inr (ci, fs))) (hc : vwCl[ci]? = some (y.cls, T, N)) (hn : As.length = n) (hst : st = As.reverse ++ .ref b :: rest) (hroom : (rest.map fun v => v.category).sum ≤ 8) (d : decode cc pc = .ok (.invokevirtual index, 3)) (hfr : fr' + 1 ≤ fr) (hlo : 8 + (nL' + 11) + lo' ≤ lo)
    (kk : ∀ z, K z = some res → J G nL kc ks (pc + 3) lv ((V z).toList ++ rest) (S z)) (kx : ∀ e, T0 e = some res → JX G nL kc ks pc lv (S0 e) (E0 e)) : J G nL (kc + mc) (ks + ms) pc lv st σ := by
  rcases wthr_ok h with ⟨e, hz, h⟩ | ⟨z, hz, h⟩
  · exact j_callV hG (ct _ hz) mf ml k0 he hc hn hst hroom d hfr hlo (fun v σ' q => by obtain ⟨w, hw, -⟩ := q; cases hw) (fun E σ' q => by obtain ⟨w, hw, rfl, rfl⟩ := q; cases hw; exact kx e h)
  · exact j_callV hG (ct _ hz) mf ml k0 he hc hn hst hroom d hfr hlo (fun v σ' q => by obtain ⟨w, hw, rfl, rfl⟩ := q; cases hw; exact kk z h) (fun E σ' q => by obtain ⟨w, hw, -⟩ := q; cases hw)
theorem j_mmin (hG : wOk G own cc nL fr lo) {index : Nat} {x y : Int32} (ml : Cond.methodLink own index Lib.Math.min.name ∈ wTs) (h1 : Cond.static Lib.Math.min.name ∈ wTs) (h2 : Cond.initialized "java/lang/Math" ∈ wTs) (h3 : Cond.code Lib.Math.min.name Lib.Math.min.code 2 (some .int) ∈ wTs) (d : decode cc pc = .ok (.invokestatic index, 3)) (hfr : 1 ≤ fr) (hlo : (st.map fun v => v.category).sum + 13 ≤ lo) (kk : J G nL kc ks (pc + 3) lv (.int (if y < x then y else x) :: st) σ) : J G nL kc ks pc lv (.int y :: .int x :: st) σ := by
  intro ls H locs cells slots g1 g2 g3 g4 g5 g6
  have r1 := hG.2.2.2.2.2.2.1
  have r2 := hG.2.2.2.2.2.2.2.1
  have r3 := hG.2.2.2.2.2.2.2.2.1
  have r4 := hG.2.2.2.2.2.2.2.2.2
  exact va_mmin hG.1.1 hG.1.2.1 (hG.1.2.2.1.trans g1.1.symm) hG.1.2.2.2.1 (hG.word ml) (hG.word h1) (hG.word h2) (hG.word h3) (by omega) (by omega) (by omega) (by omega) d (kk ls H locs cells slots g1 g2 g3 g4 g5 g6)
theorem j_mmax (hG : wOk G own cc nL fr lo) {index : Nat} {x y : Int32} (ml : Cond.methodLink own index Lib.Math.max.name ∈ wTs) (h1 : Cond.static Lib.Math.max.name ∈ wTs) (h2 : Cond.initialized "java/lang/Math" ∈ wTs) (h3 : Cond.code Lib.Math.max.name Lib.Math.max.code 2 (some .int) ∈ wTs) (d : decode cc pc = .ok (.invokestatic index, 3)) (hfr : 1 ≤ fr) (hlo : (st.map fun v => v.category).sum + 13 ≤ lo) (kk : J G nL kc ks (pc + 3) lv (.int (if x < y then y else x) :: st) σ) : J G nL kc ks pc lv (.int y :: .int x :: st) σ := by
  intro ls H locs cells slots g1 g2 g3 g4 g5 g6
  have r1 := hG.2.2.2.2.2.2.1
  have r2 := hG.2.2.2.2.2.2.2.1
  have r3 := hG.2.2.2.2.2.2.2.2.1
  have r4 := hG.2.2.2.2.2.2.2.2.2
  exact va_mmax hG.1.1 hG.1.2.1 (hG.1.2.2.1.trans g1.1.symm) hG.1.2.2.2.1 (hG.word ml) (hG.word h1) (hG.word h2) (hG.word h3) (by omega) (by omega) (by omega) (by omega) d (kk ls H locs cells slots g1 g2 g3 g4 g5 g6)
theorem j_lret (hG : wOk G own cc nL fr lo) {RP : Option Value → wS → Prop} {XP : String → wS → Prop} (hE : wEnd G (some .long) RP XP) {v : Int64} (h : RP (some (.long v)) σ) (d : decode cc pc = .ok (.lreturn, 1)) : J G nL kc ks pc lv [.long v] σ := by
  intro ls H locs cells slots h1 h2 h3 h4 h5 h6
  rw [hE.2]
  exact W.widen (by omega) (by omega) (vx_ret (W.lret hG.1.1 hG.1.2.1 hE.1 (fun t ht hW => ⟨⟨_, σ, rfl, h, by rw [ht]; exact h2, h3⟩, h4.F ht⟩) h4.2.2 d hG.2.2.2.2.2.1))
theorem j_fret (hG : wOk G own cc nL fr lo) {RP : Option Value → wS → Prop} {XP : String → wS → Prop} (hE : wEnd G (some .float) RP XP) {v : UInt32} (h : RP (some (.float v)) σ) (d : decode cc pc = .ok (.freturn, 1)) : J G nL kc ks pc lv [.float v] σ := by
  intro ls H locs cells slots h1 h2 h3 h4 h5 h6
  rw [hE.2]
  exact W.widen (by omega) (by omega) (vx_ret (W.fret hG.1.1 hG.1.2.1 hE.1 (fun t ht hW => ⟨⟨_, σ, rfl, h, by rw [ht]; exact h2, h3⟩, h4.F ht⟩) h4.2.2 d hG.2.2.2.2.2.1))
theorem j_dret (hG : wOk G own cc nL fr lo) {RP : Option Value → wS → Prop} {XP : String → wS → Prop} (hE : wEnd G (some .double) RP XP) {v : UInt64} (h : RP (some (.double v)) σ) (d : decode cc pc = .ok (.dreturn, 1)) : J G nL kc ks pc lv [.double v] σ := by
  intro ls H locs cells slots h1 h2 h3 h4 h5 h6
  rw [hE.2]
  exact W.widen (by omega) (by omega) (vx_ret (W.dret hG.1.1 hG.1.2.1 hE.1 (fun t ht hW => ⟨⟨_, σ, rfl, h, by rw [ht]; exact h2, h3⟩, h4.F ht⟩) h4.2.2 d hG.2.2.2.2.2.1))
theorem j_ldc (hG : wOk G own cc nL fr lo) {index : Nat} {v : Int32} (hc : Cond.constant own index v ∈ wTs) (d : decode cc pc = .ok (.ldc index, 2)) (kk : J G nL kc ks (pc + 2) lv (.int v :: st) σ) : J G nL kc ks pc lv st σ :=
  fun ls H locs cells slots h1 h2 h3 h4 h5 h6 => lv_ldc hG.1.1 hG.1.2.1 hG.1.2.2.2.1 (hG.word hc) d (kk ls H locs cells slots h1 h2 h3 h4 h5 h6)
theorem j_aaldW (hG : wOk G own cc nL fr lo) {X Y : wM} {o : Int64} {dd : UInt64} {td : wX} {i : Int32} {K : Option Nat → Option ρ} (h : wtab X i K = some res) (d : decode cc pc = .ok (.aaload, 1)) (kk : ∀ v, K v = some res → J G nL kc ks (pc + 1) lv (va_rf (v.map (fun i => td.1 (4 * i))) :: st) (X, Y, o, dd, td)) : J G nL kc ks pc lv (.int i :: .ref (wad (gB G) 21) :: st) (X, Y, o, dd, td) :=
  j_aald hG (by unfold wtab at h; exact h) d kk
end JR2
theorem ck_X0_63 : Cond.constant RX0 63 (1118481) ∈ wTs := wTs_in 367 (by decide +kernel) rfl
theorem ck_J2_20 : Cond.constant RJ2 20 (1073741823) ∈ wTs := wTs_in 826 (by decide +kernel) rfl
theorem ck_J8_200 : Cond.constant RJ8 200 (2147483639) ∈ wTs := wTs_in 860 (by decide +kernel) rfl
theorem ck_J5_39 : Cond.constant RJ5 39 (2147483647) ∈ wTs := wTs_in 864 (by decide +kernel) rfl
theorem ck_J6_265 : Cond.constant RJ6 265 (1431655765) ∈ wTs := wTs_in 1156 (by decide +kernel) rfl
theorem ck_J6_266 : Cond.constant RJ6 266 (858993459) ∈ wTs := wTs_in 1157 (by decide +kernel) rfl
theorem ck_J6_267 : Cond.constant RJ6 267 (252645135) ∈ wTs := wTs_in 1158 (by decide +kernel) rfl
theorem mm_min : Cond.static Lib.Math.min.name ∈ wTs ∧ Cond.initialized "java/lang/Math" ∈ wTs ∧ Cond.code Lib.Math.min.name Lib.Math.min.code 2 (some .int) ∈ wTs := ⟨wTs_in 272 (by decide +kernel) rfl, wTs_in 48 (by decide +kernel) rfl, wTs_in 273 (by decide +kernel) rfl⟩
theorem mlm_X1_62 : Cond.methodLink RX1 62 Lib.Math.min.name ∈ wTs := wTs_in 271 (by decide +kernel) rfl
theorem mlm_J7_304 : Cond.methodLink RJ7 304 Lib.Math.min.name ∈ wTs := wTs_in 875 (by decide +kernel) rfl
theorem mm_max : Cond.static Lib.Math.max.name ∈ wTs ∧ Cond.initialized "java/lang/Math" ∈ wTs ∧ Cond.code Lib.Math.max.name Lib.Math.max.code 2 (some .int) ∈ wTs := ⟨wTs_in 275 (by decide +kernel) rfl, wTs_in 48 (by decide +kernel) rfl, wTs_in 276 (by decide +kernel) rfl⟩
theorem mlm_X1_67 : Cond.methodLink RX1 67 Lib.Math.max.name ∈ wTs := wTs_in 274 (by decide +kernel) rfl
theorem mlm_J8_194 : Cond.methodLink RJ8 194 Lib.Math.max.name ∈ wTs := wTs_in 859 (by decide +kernel) rfl
