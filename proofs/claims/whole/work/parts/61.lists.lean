/-! JL: the judgement J over any list of cells; LMet: contracts of methods that do not throw -/
def JL (G : wG) (nL kc ks pc : Nat) (lv : List (Nat × Value)) (st : List Value) (ws : va_W) : Prop :=
  ∀ (ls : Array Slot) (H : Heap) (locs : List Loc) (cells slots : Nat), lv_has ls nL lv → va_P (wdG (gB G)) vwCl ws H → va_D (wA (gB G)) ws → va_S (wA (gB G)) (gs G).heap H locs → cells + kc ≤ gmc G → slots + ks ≤ gms G →
    W (gp G) (gl G) (ge G) (gR G) (gs G) (gm G) (ga G) (gbl G) (gme G) (gc G) H locs cells slots (gQ G) (F0 (gm G) pc ls st)
theorem J_of {G : wG} {nL kc ks pc : Nat} {lv : List (Nat × Value)} {st : List Value} {σ : wS} (h : JL G nL kc ks pc lv st (wl (gB G) σ)) : J G nL kc ks pc lv st σ := h
theorem J_to {G : wG} {nL kc ks pc : Nat} {lv : List (Nat × Value)} {st : List Value} {σ : wS} (h : J G nL kc ks pc lv st σ) : JL G nL kc ks pc lv st (wl (gB G) σ) := h
def wPreL (B : wB) (ws : va_W) (U : State) : Prop := va_P (wdG B) vwCl ws U.heap ∧ va_K (wdG B) vwCl (wty B) U ∧ va_D (wA B) ws ∧ wW U ∧ wE B U ∧ B.1 ≤ U.heap.size
def wQcL (B : wB) (RP : Option Value → va_W → Prop) : Array Value → State → Outcome → State → Prop := fun _ st oc t => (∃ (v : Option Value) (ws : va_W), oc = .returned v ∧ RP v ws ∧ va_P (wdG B) vwCl ws t.heap ∧ va_D (wA B) ws) ∧ va_F (wA B) st t
def LMet (l : Launch) (B : wB) (y : MethodName) (cc : ByteArray) (nL : Nat) (ret : Option FieldType) (fr lo mc ms : Nat) (As : List Value) (ws : va_W) (RP : Option Value → va_W → Prop) : Prop :=
  Met l y [.code y cc nL ret] { frames := fr, cells := mc, slots := ms, locals := lo } (va_Pc As (wPreL B ws)) (wQcL B RP) mc ms (wA B)
theorem wPreL.blind {B : wB} {ws : va_W} {As : List Value} : FrameBlind (va_Pc As (wPreL B ws)) := fun a U g mk q => by
  obtain ⟨q0, q1, q2, q3, q4, q5, q6⟩ := q
  have hW : U.WarmedH (U.calling g mk a).vm := State.WarmedH.refl U
  exact ⟨q0, q1, va_K.moved (u := U) (U := U.calling g mk a) (Vm.Alike.refl U.vm) q2, q3, q4.warm (U := U.calling g mk a) hW, wE.warm (U := U.calling g mk a) hW (fun _ _ _ => rfl) q5, q6⟩
def wEndL (G : wG) (ret : Option FieldType) (RP : Option Value → va_W → Prop) : Prop :=
  (gme G).sig.returnType = ret ∧ gQ G = MQ (gbl G) (wQcL (gB G) RP) (ga G) (gs G) (gmc G) (gms G) (wA (gB G))
theorem LMet.of {l : Launch} {B : wB} {y : MethodName} {cc : ByteArray} {nL : Nat} {ret : Option FieldType} {fr lo mc ms : Nat} {As : List Value} {ws : va_W} {RP : Option Value → va_W → Prop} (hl : l.stackTraces = false) (hy : plainFor y = true) (hn : (lg_sl As).length ≤ nL)
    (h : ∀ G : wG, gB G = B → gl G = l → wOk G y.cls cc nL fr lo → wEndL G ret RP → (gme G).name = y.name → JL G nL mc ms 0 (lv_args 0 As) [] ws) : LMet l B y cc nL ret fr lo mc ms As ws RP := by
  refine va_MetF (cc := cc) (maxL := nL) (ret := ret) hy rfl ?_
  intro p e s m args below meth c s₁ Bd hml hv
  obtain ⟨rfl, hP, hK, hD, hw, hE, hb⟩ := hv
  have hlv := lv_entry As hn
  rw [lg_entry_eq]
  exact h ((p, l, e, { frames := fr, cells := mc, slots := ms, locals := lo }, s), (m, As.toArray, below, meth, c), MQ below (wQcL B RP) As.toArray s mc ms (wA B), (mc, ms), B) rfl rfl
    ⟨⟨Bd.exec, Bd.bytes, hml, findClass_of_methodNamed Bd.named, hw⟩, hK, hl, hE, hb, Bd.notSynchronized, Nat.le_refl _, Nat.le_refl _, Nat.le_refl _, Nat.le_refl _⟩ ⟨Bd.returns, rfl⟩ (name_of_methodNamed Bd.named Bd.method).1 _ s.heap [] 0 0 hlv hP hD va_S.rf (by show 0 + mc ≤ mc; omega) (by show 0 + ms ≤ ms; omega)
theorem app_get (w0 L : va_W) {n : Nat} (hn : w0.length = n) (j : Nat) : (w0 ++ L)[n + j]? = L[j]? := by
  subst hn
  rw [List.getElem?_append_right (by omega), Nat.add_sub_cancel_left]
theorem app_set (w0 L : va_W) {n : Nat} (hn : w0.length = n) (j : Nat) (x : Nat × va_E) : (w0 ++ L).set (n + j) x = w0 ++ L.set j x := by
  subst hn
  rw [List.set_append_right _ _ (by omega), Nat.add_sub_cancel_left]
theorem ra_fc {U : State} {cA : ClassId} {ty : FieldType} (h : va_RA U cA ty) : U.vm.findClass ("[" ++ ty.toString) = some cA := by
  cases ty with
  | object C => obtain ⟨_, _, _, _, _, h⟩ := h; exact h
  | _ => exact h
section JLR
variable {G : wG} {own : String} {cc : ByteArray} {nL fr lo kc ks pc : Nat} {lv : List (Nat × Value)} {st : List Value} {ws : va_W}
theorem JL.weak {kc' ks' : Nat} (hc : kc ≤ kc') (hs : ks ≤ ks') (h : JL G nL kc ks pc lv st ws) : JL G nL kc' ks' pc lv st ws := fun ls H locs cells slots h1 h2 h3 h4 h5 h6 => h ls H locs cells slots h1 h2 h3 h4 (by omega) (by omega)
theorem JL.eqw {ws' : va_W} (e : ws = ws') (h : JL G nL kc ks pc lv st ws') : JL G nL kc ks pc lv st ws := e ▸ h
/-- cells that are not looked at any more are left out -/
theorem JL.take {w0 w1 w2 : va_W} (h : JL G nL kc ks pc lv st (w0 ++ w2)) : JL G nL kc ks pc lv st (w0 ++ (w1 ++ w2)) := by
  have key : ∀ (k : Nat) (q : Nat × va_E), (w0 ++ w2)[k]? = some q → ∃ i, (w0 ++ (w1 ++ w2))[i]? = some q ∧ (k < w0.length ∧ i = k ∨ w0.length ≤ k ∧ i = k + w1.length) := by
    intro k q hk
    by_cases hl : k < w0.length
    · refine ⟨k, ?_, Or.inl ⟨hl, rfl⟩⟩
      rw [List.getElem?_append_left hl] at hk ⊢
      exact hk
    · refine ⟨k + w1.length, ?_, Or.inr ⟨by omega, rfl⟩⟩
      rw [List.getElem?_append_right (by omega)] at hk
      rw [List.getElem?_append_right (by omega), List.getElem?_append_right (by omega), show k + w1.length - w0.length - w1.length = k - w0.length by omega]
      exact hk
  intro ls H locs cells slots h1 h2 h3 h4 h5 h6
  refine h ls H locs cells slots h1 (fun k q hk => ?_) ⟨fun i j p q hi hj e => ?_, fun k q hk => ?_⟩ h4 h5 h6
  · obtain ⟨i, hi, -⟩ := key k q hk
    exact h2 i q hi
  · obtain ⟨i2, hi2, ei⟩ := key i p hi
    obtain ⟨j2, hj2, ej⟩ := key j q hj
    have := h3.1 i2 j2 p q hi2 hj2 e
    omega
  · obtain ⟨i, hi, -⟩ := key k q hk
    exact h3.2 i q hi
theorem JL.take1 {w0 w1 : va_W} (h : JL G nL kc ks pc lv st w0) : JL G nL kc ks pc lv st (w0 ++ w1) := by
  have := JL.take (w1 := w1) (w2 := []) (w0 := w0) (by rw [List.append_nil]; exact h)
  rwa [List.append_nil] at this
theorem jl_lv {lv' : List (Nat × Value)} (is : List Nat) (hl : lv_pick lv is = lv') (h : JL G nL kc ks pc lv' st ws) : JL G nL kc ks pc lv st ws := fun ls H locs cells slots h1 => h ls H locs cells slots (lv_sub h1 is hl)
theorem jl_iconst (hG : wOk G own cc nL fr lo) {n : Int} {v : Int32} (d : decode cc pc = .ok (.iconst n, 1)) (hv : Int32.ofInt n = v) (kk : JL G nL kc ks (pc + 1) lv (.int v :: st) ws) : JL G nL kc ks pc lv (st) ws :=
  fun ls H locs cells slots h1 h2 h3 h4 h5 h6 => lv_iconst hG.1.1 hG.1.2.1 d hv (kk ls H locs cells slots h1 h2 h3 h4 h5 h6)
theorem jl_bipush (hG : wOk G own cc nL fr lo) {n : Int} {v : Int32} (d : decode cc pc = .ok (.bipush n, 2)) (hv : (Int8.ofInt n).toInt32 = v) (kk : JL G nL kc ks (pc + 2) lv (.int v :: st) ws) : JL G nL kc ks pc lv (st) ws :=
  fun ls H locs cells slots h1 h2 h3 h4 h5 h6 => lv_bipush hG.1.1 hG.1.2.1 d hv (kk ls H locs cells slots h1 h2 h3 h4 h5 h6)
theorem jl_sipush (hG : wOk G own cc nL fr lo) {n : Int} {v : Int32} (d : decode cc pc = .ok (.sipush n, 3)) (hv : (Int16.ofInt n).toInt32 = v) (kk : JL G nL kc ks (pc + 3) lv (.int v :: st) ws) : JL G nL kc ks pc lv (st) ws :=
  fun ls H locs cells slots h1 h2 h3 h4 h5 h6 => lv_sipush hG.1.1 hG.1.2.1 d hv (kk ls H locs cells slots h1 h2 h3 h4 h5 h6)
theorem jl_lconst (hG : wOk G own cc nL fr lo) {n : Fin 2} {v : Int64} (d : decode cc pc = .ok (.lconst n, 1)) (hv : Int64.ofNat (n : Nat) = v) (kk : JL G nL kc ks (pc + 1) lv (.long v :: st) ws) : JL G nL kc ks pc lv (st) ws :=
  fun ls H locs cells slots h1 h2 h3 h4 h5 h6 => lv_lconst hG.1.1 hG.1.2.1 d hv (kk ls H locs cells slots h1 h2 h3 h4 h5 h6)
theorem jl_null (hG : wOk G own cc nL fr lo) (d : decode cc pc = .ok (.aconst_null, 1)) (kk : JL G nL kc ks (pc + 1) lv (.null :: st) ws) : JL G nL kc ks pc lv (st) ws :=
  fun ls H locs cells slots h1 h2 h3 h4 h5 h6 => lv_null hG.1.1 hG.1.2.1 d (kk ls H locs cells slots h1 h2 h3 h4 h5 h6)
theorem jl_iload_n (hG : wOk G own cc nL fr lo) (j : Nat) {i : Nat} {k : Fin 4} {x : Int32} (d : decode cc pc = .ok (.iload_n k, 1)) (hi : (k : Nat) = i) (hl : lv[j]? = some (i, .int x)) (kk : JL G nL kc ks (pc + 1) lv (.int x :: st) ws) : JL G nL kc ks pc lv st ws :=
  fun ls H locs cells slots h1 h2 h3 h4 h5 h6 => lv_iload_n hG.1.1 hG.1.2.1 d hi (lv_at h1 j hl) (kk ls H locs cells slots h1 h2 h3 h4 h5 h6)
theorem jl_iload (hG : wOk G own cc nL fr lo) (j : Nat) {i : Nat} {x : Int32} (d : decode cc pc = .ok (.iload i, 2)) (hl : lv[j]? = some (i, .int x)) (kk : JL G nL kc ks (pc + 2) lv (.int x :: st) ws) : JL G nL kc ks pc lv st ws :=
  fun ls H locs cells slots h1 h2 h3 h4 h5 h6 => lv_iload hG.1.1 hG.1.2.1 d (lv_at h1 j hl) (kk ls H locs cells slots h1 h2 h3 h4 h5 h6)
theorem jl_istore_n (hG : wOk G own cc nL fr lo) {i : Nat} {k : Fin 4} {x : Int32} {lv' : List (Nat × Value)} (d : decode cc pc = .ok (.istore_n k, 1)) (hi : (k : Nat) = i) (hn : i < nL) (hl : (i, Value.int x) :: lv.filter (fun q => !(q.1 == i) && !(q.1 + 1 == i && q.2.category == 2)) = lv') (kk : JL G nL kc ks (pc + 1) lv' st ws) : JL G nL kc ks pc lv (.int x :: st) ws :=
  fun ls H locs cells slots h1 h2 h3 h4 h5 h6 => lv_istore_n hG.1.1 hG.1.2.1 d hi h1 hn hl (fun ls' h' => kk ls' H locs cells slots h' h2 h3 h4 h5 h6)
theorem jl_istore (hG : wOk G own cc nL fr lo) {i : Nat} {x : Int32} {lv' : List (Nat × Value)} (d : decode cc pc = .ok (.istore i, 2)) (hn : i < nL) (hl : (i, Value.int x) :: lv.filter (fun q => !(q.1 == i) && !(q.1 + 1 == i && q.2.category == 2)) = lv') (kk : JL G nL kc ks (pc + 2) lv' st ws) : JL G nL kc ks pc lv (.int x :: st) ws :=
  fun ls H locs cells slots h1 h2 h3 h4 h5 h6 => lv_istore hG.1.1 hG.1.2.1 d h1 hn hl (fun ls' h' => kk ls' H locs cells slots h' h2 h3 h4 h5 h6)
theorem jl_aload_n (hG : wOk G own cc nL fr lo) (j : Nat) {i : Nat} {k : Fin 4} {x : Nat} (d : decode cc pc = .ok (.aload_n k, 1)) (hi : (k : Nat) = i) (hl : lv[j]? = some (i, .ref x)) (kk : JL G nL kc ks (pc + 1) lv (.ref x :: st) ws) : JL G nL kc ks pc lv st ws :=
  fun ls H locs cells slots h1 h2 h3 h4 h5 h6 => lv_aload_n hG.1.1 hG.1.2.1 d hi (lv_at h1 j hl) (kk ls H locs cells slots h1 h2 h3 h4 h5 h6)
theorem jl_aload (hG : wOk G own cc nL fr lo) (j : Nat) {i : Nat} {x : Nat} (d : decode cc pc = .ok (.aload i, 2)) (hl : lv[j]? = some (i, .ref x)) (kk : JL G nL kc ks (pc + 2) lv (.ref x :: st) ws) : JL G nL kc ks pc lv st ws :=
  fun ls H locs cells slots h1 h2 h3 h4 h5 h6 => lv_aload hG.1.1 hG.1.2.1 d (lv_at h1 j hl) (kk ls H locs cells slots h1 h2 h3 h4 h5 h6)
theorem jl_astore_n (hG : wOk G own cc nL fr lo) {i : Nat} {k : Fin 4} {x : Nat} {lv' : List (Nat × Value)} (d : decode cc pc = .ok (.astore_n k, 1)) (hi : (k : Nat) = i) (hn : i < nL) (hl : (i, Value.ref x) :: lv.filter (fun q => !(q.1 == i) && !(q.1 + 1 == i && q.2.category == 2)) = lv') (kk : JL G nL kc ks (pc + 1) lv' st ws) : JL G nL kc ks pc lv (.ref x :: st) ws :=
  fun ls H locs cells slots h1 h2 h3 h4 h5 h6 => lv_astore_n hG.1.1 hG.1.2.1 d hi h1 hn hl (fun ls' h' => kk ls' H locs cells slots h' h2 h3 h4 h5 h6)
theorem jl_astore (hG : wOk G own cc nL fr lo) {i : Nat} {x : Nat} {lv' : List (Nat × Value)} (d : decode cc pc = .ok (.astore i, 2)) (hn : i < nL) (hl : (i, Value.ref x) :: lv.filter (fun q => !(q.1 == i) && !(q.1 + 1 == i && q.2.category == 2)) = lv') (kk : JL G nL kc ks (pc + 2) lv' st ws) : JL G nL kc ks pc lv (.ref x :: st) ws :=
  fun ls H locs cells slots h1 h2 h3 h4 h5 h6 => lv_astore hG.1.1 hG.1.2.1 d h1 hn hl (fun ls' h' => kk ls' H locs cells slots h' h2 h3 h4 h5 h6)
theorem jl_iinc (hG : wOk G own cc nL fr lo) (j : Nat) {i : Nat} {n : Int} {x v : Int32} {lv' : List (Nat × Value)} (d : decode cc pc = .ok (.iinc i n, 3)) (hk : lv[j]? = some (i, .int x)) (hv : x + Int32.ofInt n = v) (hn : i < nL) (hl : (i, Value.int v) :: lv.filter (fun q => !(q.1 == i) && !(q.1 + 1 == i && q.2.category == 2)) = lv') (kk : JL G nL kc ks (pc + 3) lv' st ws) : JL G nL kc ks pc lv st ws :=
  fun ls H locs cells slots h1 h2 h3 h4 h5 h6 => lv_iinc hG.1.1 hG.1.2.1 d h1 hk hv hn hl (fun ls' h' => kk ls' H locs cells slots h' h2 h3 h4 h5 h6)
theorem jl_iadd (hG : wOk G own cc nL fr lo) {x y : Int32} (d : decode cc pc = .ok (.iadd, 1)) (kk : JL G nL kc ks (pc + 1) lv (.int (x + y) :: st) ws) : JL G nL kc ks pc lv (.int y :: .int x :: st) ws :=
  fun ls H locs cells slots h1 h2 h3 h4 h5 h6 => lv_iadd hG.1.1 hG.1.2.1 d (kk ls H locs cells slots h1 h2 h3 h4 h5 h6)
theorem jl_isub (hG : wOk G own cc nL fr lo) {x y : Int32} (d : decode cc pc = .ok (.isub, 1)) (kk : JL G nL kc ks (pc + 1) lv (.int (x - y) :: st) ws) : JL G nL kc ks pc lv (.int y :: .int x :: st) ws :=
  fun ls H locs cells slots h1 h2 h3 h4 h5 h6 => lv_isub hG.1.1 hG.1.2.1 d (kk ls H locs cells slots h1 h2 h3 h4 h5 h6)
theorem jl_imul (hG : wOk G own cc nL fr lo) {x y : Int32} (d : decode cc pc = .ok (.imul, 1)) (kk : JL G nL kc ks (pc + 1) lv (.int (x * y) :: st) ws) : JL G nL kc ks pc lv (.int y :: .int x :: st) ws :=
  fun ls H locs cells slots h1 h2 h3 h4 h5 h6 => lv_imul hG.1.1 hG.1.2.1 d (kk ls H locs cells slots h1 h2 h3 h4 h5 h6)
theorem jl_iand (hG : wOk G own cc nL fr lo) {x y : Int32} (d : decode cc pc = .ok (.iand, 1)) (kk : JL G nL kc ks (pc + 1) lv (.int (x &&& y) :: st) ws) : JL G nL kc ks pc lv (.int y :: .int x :: st) ws :=
  fun ls H locs cells slots h1 h2 h3 h4 h5 h6 => lv_iand hG.1.1 hG.1.2.1 d (kk ls H locs cells slots h1 h2 h3 h4 h5 h6)
theorem jl_ior (hG : wOk G own cc nL fr lo) {x y : Int32} (d : decode cc pc = .ok (.ior, 1)) (kk : JL G nL kc ks (pc + 1) lv (.int (x ||| y) :: st) ws) : JL G nL kc ks pc lv (.int y :: .int x :: st) ws :=
  fun ls H locs cells slots h1 h2 h3 h4 h5 h6 => lv_ior hG.1.1 hG.1.2.1 d (kk ls H locs cells slots h1 h2 h3 h4 h5 h6)
theorem jl_ishl (hG : wOk G own cc nL fr lo) {x y : Int32} (d : decode cc pc = .ok (.ishl, 1)) (kk : JL G nL kc ks (pc + 1) lv (.int (x <<< (y &&& 31)) :: st) ws) : JL G nL kc ks pc lv (.int y :: .int x :: st) ws :=
  fun ls H locs cells slots h1 h2 h3 h4 h5 h6 => lv_ishl hG.1.1 hG.1.2.1 d (kk ls H locs cells slots h1 h2 h3 h4 h5 h6)
theorem jl_ishr (hG : wOk G own cc nL fr lo) {x y : Int32} (d : decode cc pc = .ok (.ishr, 1)) (kk : JL G nL kc ks (pc + 1) lv (.int (x >>> (y &&& 31)) :: st) ws) : JL G nL kc ks pc lv (.int y :: .int x :: st) ws :=
  fun ls H locs cells slots h1 h2 h3 h4 h5 h6 => lv_ishr hG.1.1 hG.1.2.1 d (kk ls H locs cells slots h1 h2 h3 h4 h5 h6)
theorem jl_irem (hG : wOk G own cc nL fr lo) {x y : Int32} (d : decode cc pc = .ok (.irem, 1)) (hne : ¬ y = 0) (kk : JL G nL kc ks (pc + 1) lv (.int (x - x / y * y) :: st) ws) : JL G nL kc ks pc lv (.int y :: .int x :: st) ws :=
  fun ls H locs cells slots h1 h2 h3 h4 h5 h6 => lv_irem hG.1.1 hG.1.2.1 d hne (kk ls H locs cells slots h1 h2 h3 h4 h5 h6)
theorem jl_i2l (hG : wOk G own cc nL fr lo) {x : Int32} (d : decode cc pc = .ok (.i2l, 1)) (kk : JL G nL kc ks (pc + 1) lv (.long x.toInt64 :: st) ws) : JL G nL kc ks pc lv (.int x :: st) ws :=
  fun ls H locs cells slots h1 h2 h3 h4 h5 h6 => lv_i2l hG.1.1 hG.1.2.1 d rfl (kk ls H locs cells slots h1 h2 h3 h4 h5 h6)
theorem jl_i2c (hG : wOk G own cc nL fr lo) {x : Int32} (d : decode cc pc = .ok (.i2c, 1)) (kk : JL G nL kc ks (pc + 1) lv (.int (x.toUInt32 % 65536).toInt32 :: st) ws) : JL G nL kc ks pc lv (.int x :: st) ws :=
  fun ls H locs cells slots h1 h2 h3 h4 h5 h6 => lv_i2c hG.1.1 hG.1.2.1 d rfl (kk ls H locs cells slots h1 h2 h3 h4 h5 h6)
theorem jl_dup (hG : wOk G own cc nL fr lo) {va : Value} (d : decode cc pc = .ok (.dup, 1)) (hva : va.category = 1) (kk : JL G nL kc ks (pc + 1) lv (va :: va :: st) ws) : JL G nL kc ks pc lv (va :: st) ws :=
  fun ls H locs cells slots h1 h2 h3 h4 h5 h6 => lv_dup hG.1.1 hG.1.2.1 d hva (kk ls H locs cells slots h1 h2 h3 h4 h5 h6)
theorem jl_pop (hG : wOk G own cc nL fr lo) {va : Value} (d : decode cc pc = .ok (.pop, 1)) (hva : va.category = 1) (kk : JL G nL kc ks (pc + 1) lv (st) ws) : JL G nL kc ks pc lv (va :: st) ws :=
  fun ls H locs cells slots h1 h2 h3 h4 h5 h6 => lv_pop hG.1.1 hG.1.2.1 d hva (kk ls H locs cells slots h1 h2 h3 h4 h5 h6)
theorem jl_goto (hG : wOk G own cc nL fr lo) {off : Int} {tgt : Nat} (d : decode cc pc = .ok (.goto off, 3)) (ht : (pc : Int) + off = (tgt : Int)) (kk : JL G nL kc ks tgt lv st ws) : JL G nL kc ks pc lv st ws :=
  fun ls H locs cells slots h1 h2 h3 h4 h5 h6 => lv_goto hG.1.1 hG.1.2.1 d ht (kk ls H locs cells slots h1 h2 h3 h4 h5 h6)
theorem jl_mmin (hG : wOk G own cc nL fr lo) {index : Nat} {x y : Int32} (ml : Cond.methodLink own index Lib.Math.min.name ∈ wTs) (h1 : Cond.static Lib.Math.min.name ∈ wTs) (h2 : Cond.initialized "java/lang/Math" ∈ wTs) (h3 : Cond.code Lib.Math.min.name Lib.Math.min.code 2 (some .int) ∈ wTs) (d : decode cc pc = .ok (.invokestatic index, 3)) (hfr : 1 ≤ fr) (hlo : (st.map fun v => v.category).sum + 13 ≤ lo) (kk : JL G nL kc ks (pc + 3) lv (.int (if y < x then y else x) :: st) ws) : JL G nL kc ks pc lv (.int y :: .int x :: st) ws := by
  intro ls H locs cells slots g1 g2 g3 g4 g5 g6
  have r1 := hG.2.2.2.2.2.2.1
  have r2 := hG.2.2.2.2.2.2.2.1
  have r3 := hG.2.2.2.2.2.2.2.2.1
  have r4 := hG.2.2.2.2.2.2.2.2.2
  exact va_mmin hG.1.1 hG.1.2.1 (hG.1.2.2.1.trans g1.1.symm) hG.1.2.2.2.1 (hG.word ml) (hG.word h1) (hG.word h2) (hG.word h3) (by omega) (by omega) (by omega) (by omega) d (kk ls H locs cells slots g1 g2 g3 g4 g5 g6)
theorem jl_mmax (hG : wOk G own cc nL fr lo) {index : Nat} {x y : Int32} (ml : Cond.methodLink own index Lib.Math.max.name ∈ wTs) (h1 : Cond.static Lib.Math.max.name ∈ wTs) (h2 : Cond.initialized "java/lang/Math" ∈ wTs) (h3 : Cond.code Lib.Math.max.name Lib.Math.max.code 2 (some .int) ∈ wTs) (d : decode cc pc = .ok (.invokestatic index, 3)) (hfr : 1 ≤ fr) (hlo : (st.map fun v => v.category).sum + 13 ≤ lo) (kk : JL G nL kc ks (pc + 3) lv (.int (if x < y then y else x) :: st) ws) : JL G nL kc ks pc lv (.int y :: .int x :: st) ws := by
  intro ls H locs cells slots g1 g2 g3 g4 g5 g6
  have r1 := hG.2.2.2.2.2.2.1
  have r2 := hG.2.2.2.2.2.2.2.1
  have r3 := hG.2.2.2.2.2.2.2.2.1
  have r4 := hG.2.2.2.2.2.2.2.2.2
  exact va_mmax hG.1.1 hG.1.2.1 (hG.1.2.2.1.trans g1.1.symm) hG.1.2.2.2.1 (hG.word ml) (hG.word h1) (hG.word h2) (hG.word h3) (by omega) (by omega) (by omega) (by omega) d (kk ls H locs cells slots g1 g2 g3 g4 g5 g6)
theorem jl_ldc (hG : wOk G own cc nL fr lo) {index : Nat} {v : Int32} (hc : Cond.constant own index v ∈ wTs) (d : decode cc pc = .ok (.ldc index, 2)) (kk : JL G nL kc ks (pc + 2) lv (.int v :: st) ws) : JL G nL kc ks pc lv st ws :=
  fun ls H locs cells slots h1 h2 h3 h4 h5 h6 => lv_ldc hG.1.1 hG.1.2.1 hG.1.2.2.2.1 (hG.word hc) d (kk ls H locs cells slots h1 h2 h3 h4 h5 h6)
theorem jl_iushr (hG : wOk G own cc nL fr lo) {x y : Int32} (d : decode cc pc = .ok (.iushr, 1)) (kk : JL G nL kc ks (pc + 1) lv (.int (ush x y) :: st) ws) : JL G nL kc ks pc lv (.int y :: .int x :: st) ws :=
  fun ls H locs cells slots h1 h2 h3 h4 h5 h6 => lv_iushr hG.1.1 hG.1.2.1 d rfl (kk ls H locs cells slots h1 h2 h3 h4 h5 h6)
theorem jl_ldcw (hG : wOk G own cc nL fr lo) {index : Nat} {v : Int32} (hc : Cond.constant own index v ∈ wTs) (d : decode cc pc = .ok (.ldc_w index, 3)) (kk : JL G nL kc ks (pc + 3) lv (.int v :: st) ws) : JL G nL kc ks pc lv st ws :=
  fun ls H locs cells slots h1 h2 h3 h4 h5 h6 => lv_ldcw hG.1.1 hG.1.2.1 hG.1.2.2.2.1 (hG.word hc) d (kk ls H locs cells slots h1 h2 h3 h4 h5 h6)
theorem jl_loadV (hG : wOk G own cc nL fr lo) (j : Nat) {i : Nat} {k : Fin 4} {v : Value} (hv : v = .null ∨ ∃ a, v = .ref a) (d : decode cc pc = .ok (.aload_n k, 1)) (hi : (k : Nat) = i) (hl : lv[j]? = some (i, v)) (kk : JL G nL kc ks (pc + 1) lv (v :: st) ws) : JL G nL kc ks pc lv st ws := by
  intro ls H locs cells slots h1 h2 h3 h4 h5 h6
  rcases hv with rfl | ⟨a, rfl⟩
  · exact lv_aload_nN hG.1.1 hG.1.2.1 d hi (lv_at h1 j hl) (kk ls H locs cells slots h1 h2 h3 h4 h5 h6)
  · exact lv_aload_n hG.1.1 hG.1.2.1 d hi (lv_at h1 j hl) (kk ls H locs cells slots h1 h2 h3 h4 h5 h6)
theorem jl_dup_x1 (hG : wOk G own cc nL fr lo) {va vb : Value} (d : decode cc pc = .ok (.dup_x1, 1)) (hva : va.category = 1) (hvb : vb.category = 1) (kk : JL G nL kc ks (pc + 1) lv (va :: vb :: va :: st) ws) : JL G nL kc ks pc lv (va :: vb :: st) ws :=
  fun ls H locs cells slots h1 h2 h3 h4 h5 h6 => lv_dup_x1 hG.1.1 hG.1.2.1 d hva hvb (kk ls H locs cells slots h1 h2 h3 h4 h5 h6)
theorem jl_i2b (hG : wOk G own cc nL fr lo) {x v : Int32} (d : decode cc pc = .ok (.i2b, 1)) (hv : x.toInt8.toInt32 = v) (kk : JL G nL kc ks (pc + 1) lv (.int v :: st) ws) : JL G nL kc ks pc lv (.int x :: st) ws :=
  fun ls H locs cells slots h1 h2 h3 h4 h5 h6 => lv_i2b hG.1.1 hG.1.2.1 d hv (kk ls H locs cells slots h1 h2 h3 h4 h5 h6)
theorem jl_ineg (hG : wOk G own cc nL fr lo) {x : Int32} (d : decode cc pc = .ok (.ineg, 1)) (kk : JL G nL kc ks (pc + 1) lv (.int (-x) :: st) ws) : JL G nL kc ks pc lv (.int x :: st) ws :=
  fun ls H locs cells slots h1 h2 h3 h4 h5 h6 => lv_ineg hG.1.1 hG.1.2.1 d (kk ls H locs cells slots h1 h2 h3 h4 h5 h6)
theorem jl_if_eq (hG : wOk G own cc nL fr lo) {x : Int32} {off : Int} {tgt : Nat} (d : decode cc pc = .ok (.ifCond .eq off, 3)) (ht : (pc : Int) + off = (tgt : Int)) (kA : x = 0 → JL G nL kc ks tgt lv st ws) (kB : ¬ x = 0 → JL G nL kc ks (pc + 3) lv st ws) : JL G nL kc ks pc lv (.int x :: st) ws :=
  fun ls H locs cells slots h1 h2 h3 h4 h5 h6 => lv_if_eq hG.1.1 hG.1.2.1 d ht (fun q => kA q ls H locs cells slots h1 h2 h3 h4 h5 h6) (fun q => kB q ls H locs cells slots h1 h2 h3 h4 h5 h6)
theorem jl_if_ne (hG : wOk G own cc nL fr lo) {x : Int32} {off : Int} {tgt : Nat} (d : decode cc pc = .ok (.ifCond .ne off, 3)) (ht : (pc : Int) + off = (tgt : Int)) (kA : ¬ x = 0 → JL G nL kc ks tgt lv st ws) (kB : x = 0 → JL G nL kc ks (pc + 3) lv st ws) : JL G nL kc ks pc lv (.int x :: st) ws :=
  fun ls H locs cells slots h1 h2 h3 h4 h5 h6 => lv_if_ne hG.1.1 hG.1.2.1 d ht (fun q => kA q ls H locs cells slots h1 h2 h3 h4 h5 h6) (fun q => kB q ls H locs cells slots h1 h2 h3 h4 h5 h6)
theorem jl_if_lt (hG : wOk G own cc nL fr lo) {x : Int32} {off : Int} {tgt : Nat} (d : decode cc pc = .ok (.ifCond .lt off, 3)) (ht : (pc : Int) + off = (tgt : Int)) (kA : x < 0 → JL G nL kc ks tgt lv st ws) (kB : ¬ x < 0 → JL G nL kc ks (pc + 3) lv st ws) : JL G nL kc ks pc lv (.int x :: st) ws :=
  fun ls H locs cells slots h1 h2 h3 h4 h5 h6 => lv_if_lt hG.1.1 hG.1.2.1 d ht (fun q => kA q ls H locs cells slots h1 h2 h3 h4 h5 h6) (fun q => kB q ls H locs cells slots h1 h2 h3 h4 h5 h6)
theorem jl_if_ge (hG : wOk G own cc nL fr lo) {x : Int32} {off : Int} {tgt : Nat} (d : decode cc pc = .ok (.ifCond .ge off, 3)) (ht : (pc : Int) + off = (tgt : Int)) (kA : 0 ≤ x → JL G nL kc ks tgt lv st ws) (kB : ¬ 0 ≤ x → JL G nL kc ks (pc + 3) lv st ws) : JL G nL kc ks pc lv (.int x :: st) ws :=
  fun ls H locs cells slots h1 h2 h3 h4 h5 h6 => lv_if_ge hG.1.1 hG.1.2.1 d ht (fun q => kA q ls H locs cells slots h1 h2 h3 h4 h5 h6) (fun q => kB q ls H locs cells slots h1 h2 h3 h4 h5 h6)
theorem jl_if_gt (hG : wOk G own cc nL fr lo) {x : Int32} {off : Int} {tgt : Nat} (d : decode cc pc = .ok (.ifCond .gt off, 3)) (ht : (pc : Int) + off = (tgt : Int)) (kA : 0 < x → JL G nL kc ks tgt lv st ws) (kB : ¬ 0 < x → JL G nL kc ks (pc + 3) lv st ws) : JL G nL kc ks pc lv (.int x :: st) ws :=
  fun ls H locs cells slots h1 h2 h3 h4 h5 h6 => lv_if_gt hG.1.1 hG.1.2.1 d ht (fun q => kA q ls H locs cells slots h1 h2 h3 h4 h5 h6) (fun q => kB q ls H locs cells slots h1 h2 h3 h4 h5 h6)
theorem jl_if_le (hG : wOk G own cc nL fr lo) {x : Int32} {off : Int} {tgt : Nat} (d : decode cc pc = .ok (.ifCond .le off, 3)) (ht : (pc : Int) + off = (tgt : Int)) (kA : x ≤ 0 → JL G nL kc ks tgt lv st ws) (kB : ¬ x ≤ 0 → JL G nL kc ks (pc + 3) lv st ws) : JL G nL kc ks pc lv (.int x :: st) ws :=
  fun ls H locs cells slots h1 h2 h3 h4 h5 h6 => lv_if_le hG.1.1 hG.1.2.1 d ht (fun q => kA q ls H locs cells slots h1 h2 h3 h4 h5 h6) (fun q => kB q ls H locs cells slots h1 h2 h3 h4 h5 h6)
theorem jl_icmp_eq (hG : wOk G own cc nL fr lo) {x y : Int32} {off : Int} {tgt : Nat} (d : decode cc pc = .ok (.if_icmp .eq off, 3)) (ht : (pc : Int) + off = (tgt : Int)) (kA : x = y → JL G nL kc ks tgt lv st ws) (kB : ¬ x = y → JL G nL kc ks (pc + 3) lv st ws) : JL G nL kc ks pc lv (.int y :: .int x :: st) ws :=
  fun ls H locs cells slots h1 h2 h3 h4 h5 h6 => lv_icmp_eq hG.1.1 hG.1.2.1 d ht (fun q => kA q ls H locs cells slots h1 h2 h3 h4 h5 h6) (fun q => kB q ls H locs cells slots h1 h2 h3 h4 h5 h6)
theorem jl_icmp_ne (hG : wOk G own cc nL fr lo) {x y : Int32} {off : Int} {tgt : Nat} (d : decode cc pc = .ok (.if_icmp .ne off, 3)) (ht : (pc : Int) + off = (tgt : Int)) (kA : ¬ x = y → JL G nL kc ks tgt lv st ws) (kB : x = y → JL G nL kc ks (pc + 3) lv st ws) : JL G nL kc ks pc lv (.int y :: .int x :: st) ws :=
  fun ls H locs cells slots h1 h2 h3 h4 h5 h6 => lv_icmp_ne hG.1.1 hG.1.2.1 d ht (fun q => kA q ls H locs cells slots h1 h2 h3 h4 h5 h6) (fun q => kB q ls H locs cells slots h1 h2 h3 h4 h5 h6)
theorem jl_icmp_lt (hG : wOk G own cc nL fr lo) {x y : Int32} {off : Int} {tgt : Nat} (d : decode cc pc = .ok (.if_icmp .lt off, 3)) (ht : (pc : Int) + off = (tgt : Int)) (kA : x < y → JL G nL kc ks tgt lv st ws) (kB : ¬ x < y → JL G nL kc ks (pc + 3) lv st ws) : JL G nL kc ks pc lv (.int y :: .int x :: st) ws :=
  fun ls H locs cells slots h1 h2 h3 h4 h5 h6 => lv_icmp_lt hG.1.1 hG.1.2.1 d ht (fun q => kA q ls H locs cells slots h1 h2 h3 h4 h5 h6) (fun q => kB q ls H locs cells slots h1 h2 h3 h4 h5 h6)
theorem jl_icmp_ge (hG : wOk G own cc nL fr lo) {x y : Int32} {off : Int} {tgt : Nat} (d : decode cc pc = .ok (.if_icmp .ge off, 3)) (ht : (pc : Int) + off = (tgt : Int)) (kA : y ≤ x → JL G nL kc ks tgt lv st ws) (kB : ¬ y ≤ x → JL G nL kc ks (pc + 3) lv st ws) : JL G nL kc ks pc lv (.int y :: .int x :: st) ws :=
  fun ls H locs cells slots h1 h2 h3 h4 h5 h6 => lv_icmp_ge hG.1.1 hG.1.2.1 d ht (fun q => kA q ls H locs cells slots h1 h2 h3 h4 h5 h6) (fun q => kB q ls H locs cells slots h1 h2 h3 h4 h5 h6)
theorem jl_icmp_gt (hG : wOk G own cc nL fr lo) {x y : Int32} {off : Int} {tgt : Nat} (d : decode cc pc = .ok (.if_icmp .gt off, 3)) (ht : (pc : Int) + off = (tgt : Int)) (kA : y < x → JL G nL kc ks tgt lv st ws) (kB : ¬ y < x → JL G nL kc ks (pc + 3) lv st ws) : JL G nL kc ks pc lv (.int y :: .int x :: st) ws :=
  fun ls H locs cells slots h1 h2 h3 h4 h5 h6 => lv_icmp_gt hG.1.1 hG.1.2.1 d ht (fun q => kA q ls H locs cells slots h1 h2 h3 h4 h5 h6) (fun q => kB q ls H locs cells slots h1 h2 h3 h4 h5 h6)
theorem jl_icmp_le (hG : wOk G own cc nL fr lo) {x y : Int32} {off : Int} {tgt : Nat} (d : decode cc pc = .ok (.if_icmp .le off, 3)) (ht : (pc : Int) + off = (tgt : Int)) (kA : x ≤ y → JL G nL kc ks tgt lv st ws) (kB : ¬ x ≤ y → JL G nL kc ks (pc + 3) lv st ws) : JL G nL kc ks pc lv (.int y :: .int x :: st) ws :=
  fun ls H locs cells slots h1 h2 h3 h4 h5 h6 => lv_icmp_le hG.1.1 hG.1.2.1 d ht (fun q => kA q ls H locs cells slots h1 h2 h3 h4 h5 h6) (fun q => kB q ls H locs cells slots h1 h2 h3 h4 h5 h6)
theorem jl_get (hG : wOk G own cc nL fr lo) {ci : Nat} {C : String} {T : u_T} {N : Nat} {ty : Nat → FieldType} (hc : wCl ci C T N ty) (k0 kf : Nat) {index a : Nat} {fs : List Value} {v : Value} (he : ws[k0]? = some (a, .inr (ci, fs))) (hk : kf < N) (hl : Cond.fieldLink own index (T kf).1 (T kf).2.1 (T kf).2.2.1 ∈ wTs) (hv : fs[kf]? = some v) (d : decode cc pc = .ok (.getfield index, 3)) (kk : JL G nL kc ks (pc + 3) lv (v :: st) ws) : JL G nL kc ks pc lv (.ref a :: st) ws :=
  fun ls H locs cells slots h1 h2 h3 h4 h5 h6 => va_get hG.1.1 hG.1.2.1 (Ts := wTs) (fun c q => hG.word q) hc.2.1 hG.1.2.2.2.1 hG.2.1 h2 k0 he hc.1 kf hk (hG.word hl) (fun x q => q) hv d (kk ls H locs cells slots h1 h2 h3 h4 h5 h6)
theorem jl_put (hG : wOk G own cc nL fr lo) {ci : Nat} {C : String} {T : u_T} {N : Nat} {ty : Nat → FieldType} (hc : wCl ci C T N ty) (k0 kf : Nat) {index a : Nat} {fs : List Value} {v : Value} {fty : FieldType} {ws' : va_W} (he : ws[k0]? = some (a, .inr (ci, fs))) (hk : kf < N) (hl : Cond.fieldLink own index (T kf).1 (T kf).2.1 (T kf).2.2.1 ∈ wTs) (hf : (T kf).2.2.2 = false) (hp : parseFieldDescriptor (T kf).2.2.1 = some fty) (hn : narrow fty v = v) (ht : fits fty v = true) (hlen : kf < fs.length) (hset : ws.set k0 (a, .inr (ci, fs.set kf v)) = ws') (d : decode cc pc = .ok (.putfield index, 3)) (kk : JL G nL kc ks (pc + 3) lv st ws') : JL G nL kc ks pc lv (v :: .ref a :: st) ws :=
  fun ls H locs cells slots h1 h2 h3 h4 h5 h6 => va_put hG.1.1 hG.1.2.1 (Ts := wTs) (fun c q => hG.word q) hc.2.1 ty hc.2.2.1 hc.2.2.2 hG.1.2.2.2.1 hG.2.1 h2 h3 h4 k0 he hc.1 kf hk (hG.word hl) (fun x q => q) hf hp hn ht hlen d (fun H1 locs1 g2 g3 g4 => kk ls H1 locs1 cells slots h1 (by rw [← hset]; exact g2) (by rw [← hset]; exact g3) g4 h5 h6)
theorem jl_putF (hG : wOk G own cc nL fr lo) (hI : (gme G).name = "<init>") {ci : Nat} {C : String} {T : u_T} {N : Nat} {ty : Nat → FieldType} (hc : wCl ci C T N ty) (k0 kf : Nat) {index a : Nat} {fs : List Value} {v : Value} {fty : FieldType} {ws' : va_W} (he : ws[k0]? = some (a, .inr (ci, fs))) (hk : kf < N) (hl : Cond.fieldLink own index (T kf).1 (T kf).2.1 (T kf).2.2.1 ∈ wTs) (hf : (T kf).2.2.2 = true) (ho : (T kf).1 = own) (hp : parseFieldDescriptor (T kf).2.2.1 = some fty) (hn : narrow fty v = v) (ht : fits fty v = true) (hlen : kf < fs.length) (hset : ws.set k0 (a, .inr (ci, fs.set kf v)) = ws') (d : decode cc pc = .ok (.putfield index, 3)) (kk : JL G nL kc ks (pc + 3) lv st ws') : JL G nL kc ks pc lv (v :: .ref a :: st) ws :=
  fun ls H locs cells slots h1 h2 h3 h4 h5 h6 => va_putF hG.1.1 hG.1.2.1 (Ts := wTs) (fun c q => hG.word q) hc.2.1 ty hc.2.2.1 hc.2.2.2 hG.1.2.2.2.1 hG.2.1 h2 h3 h4 k0 he hc.1 kf hk (hG.word hl) (fun x q => q) hf hI ho hp hn ht hlen d (fun H1 locs1 g2 g3 g4 => kk ls H1 locs1 cells slots h1 (by rw [← hset]; exact g2) (by rw [← hset]; exact g3) g4 h5 h6)
theorem jl_alen (hG : wOk G own cc nL fr lo) (k0 t0 : Nat) {a : Nat} {ty : FieldType} {x : vp_A} {v : Int32} {cA : ClassId} (he : ws[k0]? = some (a, .inl (cA, x))) (ht : (wty (gB G))[t0]? = some (cA, ty)) (hv : Int32.ofNat x.1 = v) (d : decode cc pc = .ok (.arraylength, 1)) (kk : JL G nL kc ks (pc + 1) lv (.int v :: st) ws) : JL G nL kc ks pc lv (.ref a :: st) ws :=
  fun ls H locs cells slots h1 h2 h3 h4 h5 h6 => va_alen hG.1.1 hG.1.2.1 hG.2.1 h2 k0 t0 he ht hv d (kk ls H locs cells slots h1 h2 h3 h4 h5 h6)
theorem jl_iald (hG : wOk G own cc nL fr lo) (k0 : Nat) {a n : Nat} {f : Nat → Int32} {i v : Int32} (he : ws[k0]? = some (a, .inl (wdA (gB G) 0, n, .inl f))) (hi : vp_in i n) (hv : f i.toNatClampNeg = v) (d : decode cc pc = .ok (.iaload, 1)) (kk : JL G nL kc ks (pc + 1) lv (.int v :: st) ws) : JL G nL kc ks pc lv (.int i :: .ref a :: st) ws := by
  subst hv
  exact fun ls H locs cells slots h1 h2 h3 h4 h5 h6 => va_iald hG.1.1 hG.1.2.1 hG.2.1 h2 k0 0 he rfl hi d (kk ls H locs cells slots h1 h2 h3 h4 h5 h6)
theorem jl_zald (hG : wOk G own cc nL fr lo) (k0 : Nat) {a n : Nat} {f : Nat → Int32} {i v : Int32} (he : ws[k0]? = some (a, .inl (wdA (gB G) 1, n, .inl f))) (hi : vp_in i n) (hv : f i.toNatClampNeg = v) (d : decode cc pc = .ok (.baload, 1)) (kk : JL G nL kc ks (pc + 1) lv (.int v :: st) ws) : JL G nL kc ks pc lv (.int i :: .ref a :: st) ws := by
  subst hv
  exact fun ls H locs cells slots h1 h2 h3 h4 h5 h6 => va_zald hG.1.1 hG.1.2.1 hG.2.1 h2 k0 1 he rfl hi d (kk ls H locs cells slots h1 h2 h3 h4 h5 h6)
theorem jl_cald (hG : wOk G own cc nL fr lo) (k0 : Nat) {a n : Nat} {f : Nat → Int32} {i v : Int32} (he : ws[k0]? = some (a, .inl (wdA (gB G) 2, n, .inl f))) (hi : vp_in i n) (hv : f i.toNatClampNeg = v) (d : decode cc pc = .ok (.caload, 1)) (kk : JL G nL kc ks (pc + 1) lv (.int v :: st) ws) : JL G nL kc ks pc lv (.int i :: .ref a :: st) ws := by
  subst hv
  exact fun ls H locs cells slots h1 h2 h3 h4 h5 h6 => va_cald hG.1.1 hG.1.2.1 hG.2.1 h2 k0 2 he rfl hi d (kk ls H locs cells slots h1 h2 h3 h4 h5 h6)
theorem jl_bald (hG : wOk G own cc nL fr lo) (k0 : Nat) {a n : Nat} {f : Nat → Int32} {i v : Int32} (he : ws[k0]? = some (a, .inl (wdA (gB G) 4, n, .inl f))) (hi : vp_in i n) (hv : f i.toNatClampNeg = v) (d : decode cc pc = .ok (.baload, 1)) (kk : JL G nL kc ks (pc + 1) lv (.int v :: st) ws) : JL G nL kc ks pc lv (.int i :: .ref a :: st) ws := by
  subst hv
  exact fun ls H locs cells slots h1 h2 h3 h4 h5 h6 => va_bald hG.1.1 hG.1.2.1 hG.2.1 h2 k0 4 he rfl hi d (kk ls H locs cells slots h1 h2 h3 h4 h5 h6)
theorem jl_iast (hG : wOk G own cc nL fr lo) (k0 : Nat) {a n : Nat} {f : Nat → Int32} {i x y : Int32} {ws' : va_W} (he : ws[k0]? = some (a, .inl (wdA (gB G) 0, n, .inl f))) (hi : vp_in i n) (hy : x = y) (hset : ws.set k0 (a, .inl (wdA (gB G) 0, n, .inl (upd f i.toNatClampNeg y))) = ws') (d : decode cc pc = .ok (.iastore, 1)) (kk : JL G nL kc ks (pc + 1) lv st ws') : JL G nL kc ks pc lv (.int x :: .int i :: .ref a :: st) ws := by
  subst hy
  exact fun ls H locs cells slots h1 h2 h3 h4 h5 h6 => va_iast hG.1.1 hG.1.2.1 hG.2.1 h2 h3 h4 k0 0 he rfl hi d (fun H1 locs1 g2 g3 g4 => kk ls H1 locs1 cells slots h1 (by rw [← hset]; exact g2) (by rw [← hset]; exact g3) g4 h5 h6)
theorem jl_zast (hG : wOk G own cc nL fr lo) (k0 : Nat) {a n : Nat} {f : Nat → Int32} {i x y : Int32} {ws' : va_W} (he : ws[k0]? = some (a, .inl (wdA (gB G) 1, n, .inl f))) (hi : vp_in i n) (hy : (vp_nar .boolean x) = y) (hset : ws.set k0 (a, .inl (wdA (gB G) 1, n, .inl (upd f i.toNatClampNeg y))) = ws') (d : decode cc pc = .ok (.bastore, 1)) (kk : JL G nL kc ks (pc + 1) lv st ws') : JL G nL kc ks pc lv (.int x :: .int i :: .ref a :: st) ws := by
  subst hy
  exact fun ls H locs cells slots h1 h2 h3 h4 h5 h6 => va_zast hG.1.1 hG.1.2.1 hG.2.1 h2 h3 h4 k0 1 he rfl hi d (fun H1 locs1 g2 g3 g4 => kk ls H1 locs1 cells slots h1 (by rw [← hset]; exact g2) (by rw [← hset]; exact g3) g4 h5 h6)
theorem jl_cast (hG : wOk G own cc nL fr lo) (k0 : Nat) {a n : Nat} {f : Nat → Int32} {i x y : Int32} {ws' : va_W} (he : ws[k0]? = some (a, .inl (wdA (gB G) 2, n, .inl f))) (hi : vp_in i n) (hy : (vp_nar .char x) = y) (hset : ws.set k0 (a, .inl (wdA (gB G) 2, n, .inl (upd f i.toNatClampNeg y))) = ws') (d : decode cc pc = .ok (.castore, 1)) (kk : JL G nL kc ks (pc + 1) lv st ws') : JL G nL kc ks pc lv (.int x :: .int i :: .ref a :: st) ws := by
  subst hy
  exact fun ls H locs cells slots h1 h2 h3 h4 h5 h6 => va_cast hG.1.1 hG.1.2.1 hG.2.1 h2 h3 h4 k0 2 he rfl hi d (fun H1 locs1 g2 g3 g4 => kk ls H1 locs1 cells slots h1 (by rw [← hset]; exact g2) (by rw [← hset]; exact g3) g4 h5 h6)
theorem jl_bast (hG : wOk G own cc nL fr lo) (k0 : Nat) {a n : Nat} {f : Nat → Int32} {i x y : Int32} {ws' : va_W} (he : ws[k0]? = some (a, .inl (wdA (gB G) 4, n, .inl f))) (hi : vp_in i n) (hy : (vp_nar .byte x) = y) (hset : ws.set k0 (a, .inl (wdA (gB G) 4, n, .inl (upd f i.toNatClampNeg y))) = ws') (d : decode cc pc = .ok (.bastore, 1)) (kk : JL G nL kc ks (pc + 1) lv st ws') : JL G nL kc ks pc lv (.int x :: .int i :: .ref a :: st) ws := by
  subst hy
  exact fun ls H locs cells slots h1 h2 h3 h4 h5 h6 => va_bast hG.1.1 hG.1.2.1 hG.2.1 h2 h3 h4 k0 4 he rfl hi d (fun H1 locs1 g2 g3 g4 => kk ls H1 locs1 cells slots h1 (by rw [← hset]; exact g2) (by rw [← hset]; exact g3) g4 h5 h6)
theorem wOk.newA (hG : wOk G own cc nL fr lo) : ∀ q : Nat, (gs G).heap.size ≤ q → wA (gB G) q := fun q h => Nat.le_trans hG.2.2.2.2.1 h
theorem jl_newa (hG : wOk G own cc nL fr lo) {atype : ArrayType} (t0 : Nat) {ty : FieldType} {cT : ClassId} (hty : newarray.typeOf atype = ty) (harr : Cond.arrayClass ty ∈ wTs) (ht : (wty (gB G))[t0]? = some (cT, ty)) {n : Int32} {N : Nat} (a0 : vp_A) (ha : ∀ cA : ClassId, vp_cell cA a0 = arrV cA N (fun _ => defaultValue ty)) (hn : ¬ n < 0) (hN : n.toNatClampNeg = N) (hb : N * componentBytes ty ≤ 536870912) (d : decode cc pc = .ok (.newarray atype, 2))
    (kk : ∀ q : Nat, JL G nL kc ks (pc + 2) lv (.ref q :: st) (ws ++ [(q, .inl (cT, a0))])) : JL G nL (kc + 1) (ks + N) pc lv (.int n :: st) ws := by
  intro ls H locs cells slots h1 h2 h3 h4 h5 h6
  have r3 := hG.2.2.2.2.2.2.2.2.1
  have r4 := hG.2.2.2.2.2.2.2.2.2
  refine va_newa hG.1.1 hG.1.2.1 (by rw [hty]; exact hG.word harr) hty hG.2.1 h2 h3 h4 hG.newA ha hn hN hb (by omega) (by omega) d (fun q cA H1 k1 k2 k3 k4 => ?_)
  have e1 := ra_fc (k1.2 7 (cA, ty) rfl).2
  have e2 := ra_fc (hG.2.1.2 t0 (cT, ty) ht).2
  have e : cA = cT := Option.some.inj (e1.symm.trans e2)
  subst e
  exact kk q ls H1 locs (cells + 1) (slots + N) h1 k2 k3 k4 (by omega) (by omega)
theorem jl_anew (hG : wOk G own cc nL fr lo) (t0 : Nat) {C : String} {index : Nat} {cT : ClassId} (hl : Cond.classLink own index C ∈ wTs) (ho : Cond.arrayOver (.object C) ∈ wTs) (ht : (wty (gB G))[t0]? = some (cT, .object C)) {n : Int32} {N : Nat} (hn : ¬ n < 0) (hN : n.toNatClampNeg = N) (hb : N * 4 ≤ 536870912) (d : decode cc pc = .ok (.anewarray index, 3))
    (kk : ∀ q : Nat, JL G nL kc ks (pc + 3) lv (.ref q :: st) (ws ++ [(q, .inl (cT, N, .inr (.inr (.inr (.inr (fun _ => none))))))])) : JL G nL (kc + 1) (ks + N) pc lv (.int n :: st) ws := by
  intro ls H locs cells slots h1 h2 h3 h4 h5 h6
  have r3 := hG.2.2.2.2.2.2.2.2.1
  have r4 := hG.2.2.2.2.2.2.2.2.2
  refine va_newq hG.1.1 hG.1.2.1 hG.1.2.2.2.1 (hG.word hl) (va_AO.of (hG.word ho)) hG.2.1 h2 h3 h4 hG.newA hn hN hb (by omega) (by omega) d (fun q cA H1 k1 k2 k3 k4 => ?_)
  have e1 := ra_fc (k1.2 7 (cA, .object C) rfl).2
  have e2 := ra_fc (hG.2.1.2 t0 (cT, .object C) ht).2
  have e : cA = cT := Option.some.inj (e1.symm.trans e2)
  subst e
  exact kk q ls H1 locs (cells + 1) (slots + N) h1 k2 k3 k4 (by omega) (by omega)
theorem jl_new (hG : wOk G own cc nL fr lo) {ci : Nat} {C : String} {T : u_T} {N : Nat} {ty : Nat → FieldType} (hc : wCl ci C T N ty) {index : Nat} {fs : List Value} (hl : Cond.classLink own index C ∈ wTs) (hi : Cond.instantiable C N ∈ wTs) (hini : Cond.initialized C ∈ wTs) (hfs : ∀ j, j < N → defaultValue (ty j) = vp_V fs j) (d : decode cc pc = .ok (.new index, 3))
    (kk : ∀ q : Nat, JL G nL kc ks (pc + 3) lv (.ref q :: st) (ws ++ [(q, .inr (ci, fs))])) : JL G nL (kc + 1) (ks + N) pc lv st ws := by
  intro ls H locs cells slots h1 h2 h3 h4 h5 h6
  have r3 := hG.2.2.2.2.2.2.2.2.1
  have r4 := hG.2.2.2.2.2.2.2.2.2
  exact va_new hG.1.1 hG.1.2.1 (Ts := wTs) (fun c q => hG.word q) hc.2.1 ty hc.2.2.1 hG.1.2.2.2.1 (hG.word hl) (hG.word hi) (hG.word hini) hG.2.1 h2 h3 h4 hG.newA hc.1 hfs (by omega) (by omega) d (fun q H1 k2 k3 k4 => kk q ls H1 locs (cells + 1) (slots + N) h1 k2 k3 k4 (by omega) (by omega))
theorem jl_aast (hG : wOk G own cc nL fr lo) (k0 t0 qk ci : Nat) {a : Nat} {cA : ClassId} {r : vw_C} {n v : Nat} {vs : List Value} {f : Nat → Option Nat} {i : Int32} {ws' : va_W} (ha : ws[k0]? = some (a, .inl (cA, n, .inr (.inr (.inr (.inr f)))))) (ht : (wty (gB G))[t0]? = some (cA, .object r.1)) (hv : ws[qk]? = some (v, .inr (ci, vs))) (hc : vwCl[ci]? = some r) (hi : vp_in i n) (hset : ws.set k0 (a, .inl (cA, n, .inr (.inr (.inr (.inr (va_up f i.toNatClampNeg (some v))))))) = ws') (d : decode cc pc = .ok (.aastore, 1)) (kk : JL G nL kc ks (pc + 1) lv st ws') : JL G nL kc ks pc lv (.ref v :: .int i :: .ref a :: st) ws :=
  fun ls H locs cells slots h1 h2 h3 h4 h5 h6 => va_astq hG.1.1 hG.1.2.1 hG.2.1 h2 h3 h4 k0 t0 qk ci ha ht hv hc hi d (fun H1 locs1 g2 g3 g4 => kk ls H1 locs1 cells slots h1 (by rw [← hset]; exact g2) (by rw [← hset]; exact g3) g4 h5 h6)
theorem jl_copyb (hG : wOk G own cc nL fr lo) (k0 k1 : Nat) {index a0 a n0 n1 : Nat} {f g : Nat → Int32} {sp dp n : Int32} {ws' : va_W} (hlk : Cond.methodLink own index arraycopyName ∈ wTs) (hw : (Cond.native arraycopyName ∈ wTs ∧ Cond.static arraycopyName ∈ wTs) ∧ Cond.initialized "java/lang/System" ∈ wTs) (ha0 : ws[k0]? = some (a0, .inl (wdA (gB G) 4, n0, .inl f))) (ha1 : ws[k1]? = some (a, .inl (wdA (gB G) 4, n1, .inl g))) (p1 : ¬ sp < 0) (p2 : ¬ dp < 0) (p3 : ¬ n < 0) (p4 : sp.toNatClampNeg + n.toNatClampNeg ≤ n0) (p5 : dp.toNatClampNeg + n.toNatClampNeg ≤ n1) (hfit : ∀ i, i < n.toNatClampNeg → fits .byte (.int (f (sp.toNatClampNeg + i))) = true) (hset : ws.set k1 (a, .inl (wdA (gB G) 4, n1, .inl (va_cpy f g sp.toNatClampNeg dp.toNatClampNeg n.toNatClampNeg))) = ws') (hfr : 1 ≤ fr) (hlo : (st.map fun v => v.category).sum + (nativeFrameWords "java/lang/System" "arraycopy" 5 + 11) ≤ lo) (d : decode cc pc = .ok (.invokestatic index, 3)) (kk : JL G nL kc ks (pc + 3) lv st ws') : JL G nL kc ks pc lv (.int n :: .int dp :: .ref a :: .int sp :: .ref a0 :: st) ws := by
  intro ls H locs cells slots h1 h2 h3 h4 h5 h6
  have r1 := hG.2.2.2.2.2.2.1
  have r2 := hG.2.2.2.2.2.2.2.1
  exact va_copyi hG.1.1 hG.1.2.1 (hG.1.2.2.1.trans h1.1.symm) hG.1.2.2.2.1 (hG.word hlk) (hG.word hw.1.1) (hG.word hw.1.2) (hG.word hw.2) hG.2.1 h2 h3 h4 k0 k1 4 4 ha0 ha1 rfl rfl rfl p1 p2 p3 p4 p5 hfit (by omega) (by omega) d (fun H1 locs1 g2 g3 g4 => kk ls H1 locs1 cells slots h1 (by rw [← hset]; exact g2) (by rw [← hset]; exact g3) g4 h5 h6)
theorem jl_getsV (hG : wOk G own cc nL fr lo) {C n dd : String} {v : Value} {index : Nat} (hZ : va_Z C n dd v (wA (gB G)) (gs G) (gs G).heap) (hl : Cond.fieldLink own index C n dd ∈ wTs) (d : decode cc pc = .ok (.getstatic index, 3)) (kk : JL G nL kc ks (pc + 3) lv (v :: st) ws) : JL G nL kc ks pc lv st ws :=
  fun ls H locs cells slots h1 h2 h3 h4 h5 h6 => va_gets hG.1.1 hG.1.2.1 hZ h4 hG.1.2.2.2.1 (hG.word hl) (fun x q => q) d (kk ls H locs cells slots h1 h2 h3 h4 h5 h6)
theorem jl_gets1 (hG : wOk G own cc nL fr lo) {index : Nat} (hl : Cond.fieldLink own index "java/lang/String" "COMPACT_STRINGS" "Z" ∈ wTs) (d : decode cc pc = .ok (.getstatic index, 3)) (kk : JL G nL kc ks (pc + 3) lv (.int 1 :: st) ws) : JL G nL kc ks pc lv st ws :=
  jl_getsV hG hG.2.2.2.1.2.2.2.2.1 hl d kk
theorem jl_getsQ (hG : wOk G own cc nL fr lo) {index : Nat} (hl : Cond.fieldLink own index "jdk/internal/util/Preconditions" "SIOOBE_FORMATTER" "Ljava/util/function/BiFunction;" ∈ wTs) (d : decode cc pc = .ok (.getstatic index, 3)) (kk : ∀ v : Value, (v = .null ∨ ∃ a, v = .ref a) → JL G nL kc ks (pc + 3) lv (v :: st) ws) : JL G nL kc ks pc lv st ws := by
  rcases hG.2.2.2.1.2.2.2.2.2.1 with h | ⟨t, h⟩
  · exact jl_getsV hG h hl d (kk _ (Or.inl rfl))
  · exact jl_getsV hG h hl d (kk _ (Or.inr ⟨t, rfl⟩))
/-- a digit out of one of the two tables: getstatic, the index, baload -/
theorem jl_getsT (hG : wOk G own cc nL fr lo) {index : Nat} {nm : String} {g : Nat → Value} (hT : ∃ t : Nat, va_Z "java/lang/Integer" nm "[B" (.ref t) (wA (gB G)) (gs G) (gs G).heap ∧ va_T .byte t 100 g (wA (gB G)) (gs G) (gs G).heap) (hl : Cond.fieldLink own index "java/lang/Integer" nm "[B" ∈ wTs) (d : decode cc pc = .ok (.getstatic index, 3)) (kk : ∀ t : Nat, va_T .byte t 100 g (wA (gB G)) (gs G) (gs G).heap → JL G nL kc ks (pc + 3) lv (.ref t :: st) ws) : JL G nL kc ks pc lv st ws := by
  obtain ⟨t, h1, h2⟩ := hT
  exact jl_getsV hG h1 hl d (kk t h2)
theorem jl_tb (hG : wOk G own cc nL fr lo) {t : Nat} {g : Nat → Value} {i : Int32} {v : Value} (hT : va_T .byte t 100 g (wA (gB G)) (gs G) (gs G).heap) (hi : vp_in i 100) (hv : g i.toNatClampNeg = v) (d : decode cc pc = .ok (.baload, 1)) (kk : JL G nL kc ks (pc + 1) lv (v :: st) ws) : JL G nL kc ks pc lv (.int i :: .ref t :: st) ws :=
  fun ls H locs cells slots h1 h2 h3 h4 h5 h6 => va_tb hG.1.1 hG.1.2.1 hT h4 hi hv d (kk ls H locs cells slots h1 h2 h3 h4 h5 h6)
theorem jl_objInit (hG : wOk G own cc nL fr lo) {index a : Nat} (hl : Cond.methodLink own index objectInit ∈ wTs) (hw : Cond.instanceMethod objectInit ∈ wTs ∧ Cond.code objectInit ⟨#[0xb1]⟩ 1 none ∈ wTs) (hfr : 1 ≤ fr) (hlo : (st.map fun v => v.category).sum + 12 ≤ lo) (d : decode cc pc = .ok (.invokespecial index, 3)) (kk : JL G nL kc ks (pc + 3) lv st ws) : JL G nL kc ks pc lv (.ref a :: st) ws := by
  intro ls H locs cells slots h1 h2 h3 h4 h5 h6
  have r1 := hG.2.2.2.2.2.2.1
  have r2 := hG.2.2.2.2.2.2.2.1
  refine W.objInit hG.1.1 hG.1.2.1 hG.1.2.2.2.1 (hG.word hl) (hG.word hw.1) (hG.word hw.2) rfl (h1.1.trans hG.1.2.2.1.symm) rfl d (by omega) (by show 2 * 0 + _ + 12 ≤ _; omega) ?_
  exact W.eq (g2 := F0 (gm G) (pc + 3) ls st) rfl (kk ls H locs cells slots h1 h2 h3 h4 h5 h6)
theorem jl_vret (hG : wOk G own cc nL fr lo) {RP : Option Value → va_W → Prop} (hE : wEndL G none RP) (h : RP none ws) (d : decode cc pc = .ok (.return_, 1)) : JL G nL kc ks pc lv [] ws := by
  intro ls H locs cells slots h1 h2 h3 h4 h5 h6
  rw [hE.2]
  exact W.widen (by omega) (by omega) (W.vret hG.1.1 hG.1.2.1 hE.1 (fun t ht hW => ⟨⟨_, ws, rfl, h, by rw [ht]; exact h2, h3⟩, h4.F ht⟩) h4.2.2 d hG.2.2.2.2.2.1)
theorem jl_iret (hG : wOk G own cc nL fr lo) {RP : Option Value → va_W → Prop} (hE : wEndL G (some .int) RP) {v : Int32} (h : RP (some (.int v)) ws) (d : decode cc pc = .ok (.ireturn, 1)) : JL G nL kc ks pc lv [.int v] ws := by
  intro ls H locs cells slots h1 h2 h3 h4 h5 h6
  rw [hE.2]
  exact W.widen (by omega) (by omega) (W.iret hG.1.1 hG.1.2.1 hE.1 (fun t ht hW => ⟨⟨_, ws, rfl, h, by rw [ht]; exact h2, h3⟩, h4.F ht⟩) h4.2.2 d hG.2.2.2.2.2.1)
theorem jl_zret (hG : wOk G own cc nL fr lo) {RP : Option Value → va_W → Prop} {ty : FieldType} (hE : wEndL G (some ty) RP) {v : Int32} (hn : narrow ty (.int v) = .int v) (h : RP (some (.int v)) ws) (d : decode cc pc = .ok (.ireturn, 1)) : JL G nL kc ks pc lv [.int v] ws := by
  intro ls H locs cells slots h1 h2 h3 h4 h5 h6
  rw [hE.2]
  exact W.widen (by omega) (by omega) (W.zret hG.1.1 hG.1.2.1 hE.1 hn (fun t ht hW => ⟨⟨_, ws, rfl, h, by rw [ht]; exact h2, h3⟩, h4.F ht⟩) h4.2.2 d hG.2.2.2.2.2.1)
theorem jl_aret (hG : wOk G own cc nL fr lo) {RP : Option Value → va_W → Prop} {rt : FieldType} (hE : wEndL G (some rt) RP) (hrt : (∃ n, rt = .object n) ∨ ∃ t, rt = .array t) {a : Nat} (h : RP (some (.ref a)) ws) (d : decode cc pc = .ok (.areturn, 1)) : JL G nL kc ks pc lv [.ref a] ws := by
  intro ls H locs cells slots h1 h2 h3 h4 h5 h6
  rw [hE.2]
  exact W.widen (by omega) (by omega) (W.aret hG.1.1 hG.1.2.1 hE.1 hrt (Or.inr ⟨a, rfl⟩) (fun t ht hW => ⟨⟨_, ws, rfl, h, by rw [ht]; exact h2, h3⟩, h4.F ht⟩) h4.2.2 d hG.2.2.2.2.2.1)
theorem wOk.preL (hG : wOk G own cc nL fr lo) {H : Heap} {locs : List Loc} (h2 : va_P (wdG (gB G)) vwCl ws H) (h3 : va_D (wA (gB G)) ws) (h4 : va_S (wA (gB G)) (gs G).heap H locs) {U : State} (hU : U.heap = H) (hW : (gs G).WarmedH U.vm) : wPreL (gB G) ws U := by
  obtain ⟨hA, hK, hl, hE, hb, -⟩ := hG
  refine ⟨by rw [hU]; exact h2, va_K.moved hW.alike hK, h3, wW.warm hW hA.2.2.2.2, wE.warm hW (fun a q1 q2 => by rw [hU]; exact h4.2.1 a q1 q2) hE, ?_⟩
  rw [hU]
  exact Nat.le_trans hb h4.1
theorem jl_run {mc ms : Nat} {RP : Option Value → va_W → Prop} {rest : List Value} {a : Array Value} (hr : ∀ (ls : Array Slot) (H : Heap) (locs : List Loc) (cells slots : Nat), lv_has ls nL lv → va_P (wdG (gB G)) vwCl ws H → va_D (wA (gB G)) ws → va_S (wA (gB G)) (gs G).heap H locs → cells + (kc + mc) ≤ gmc G → slots + (ks + ms) ≤ gms G →
      va_Run (gp G) (gl G) (ge G) (gR G) (gs G) (gm G) (ga G) (gbl G) (gme G) (gc G) H locs cells slots mc ms (F0 (gm G) pc ls st) rest (wQcL (gB G) RP a) (wA (gB G)))
    (kk : ∀ v ws', RP v ws' → JL G nL kc ks (pc + 3) lv (v.toList ++ rest) ws') : JL G nL (kc + mc) (ks + ms) pc lv st ws := by
  intro ls H locs cells slots h1 h2 h3 h4 h5 h6
  intro T hT X
  obtain ⟨v, st₀, t, T', L, h0, X', hL, e1, e2, ⟨⟨v', ws', hv, hp, hPo⟩, hF⟩, g⟩ := hr ls H locs cells slots h1 h2 h3 h4 h5 h6 T hT X
  cases hv
  obtain ⟨k1, k2, k3⟩ := vx_keep h0 e1 h4 (fun _ _ z => z) (fun _ z => z) hL hF
  obtain ⟨t2, a1, b1⟩ := kk v ws' hp ls T'.heap (locs ++ L) (cells + mc) (slots + ms) h1 (by rw [e1]; exact hPo.1) hPo.2 k3 (by omega) (by omega) T' rfl X'
  exact ⟨t2, g t2 a1, b1⟩
theorem wOk.fix (hG : wOk G own cc nL fr lo) : CallFix (gp G) (gm G) (gc G) cc nL (gs G) (ga G) [] own := ⟨hG.1.1, hG.1.2.1, hG.1.2.2.1, hG.1.2.2.2.1, fun c q => absurd q List.not_mem_nil⟩
theorem jl_callV (hG : wOk G own cc nL fr lo) {y : MethodName} {cc' : ByteArray} {nL' n mc ms fr' lo' index : Nat} {ret : Option FieldType} {b : Addr} {As rest : List Value} {RP : Option Value → va_W → Prop} (ct : LMet (gl G) (gB G) y cc' nL' ret fr' lo' mc ms (.ref b :: As) ws RP) (mf : wMF y cc' nL' ret n ∧ Cond.instanceMethod y ∈ wTs) (ml : Cond.methodLink own index y ∈ wTs)
    (k0 : Nat) {ci N : Nat} {C : String} {T : u_T} {fs : List Value} (he : ws[k0]? = some (b, .inr (ci, fs))) (hc : vwCl[ci]? = some (C, T, N)) (hsel : (Cond.selects C y y).before (ga G) (gs G) = true) (hn : As.length = n) (hst : st = As.reverse ++ .ref b :: rest) (hroom : (rest.map fun v => v.category).sum ≤ 8) (d : decode cc pc = .ok (.invokevirtual index, 3)) (hfr : fr' + 1 ≤ fr) (hlo : 8 + (nL' + 11) + lo' ≤ lo)
    (kk : ∀ v ws', RP v ws' → JL G nL kc ks (pc + 3) lv (v.toList ++ rest) ws') : JL G nL (kc + mc) (ks + ms) pc lv st ws := by
  refine jl_run (a := (Value.ref b :: As).toArray) (fun ls H locs cells slots h1 h2 h3 h4 h5 h6 => ?_) kk
  exact va_runV (Ts := []) (rest := rest) (C := C) hG.fix ct ⟨mf.1.cb hG ml hfr hlo, hG.word mf.2, hsel⟩ ⟨wPreL.blind, va_recv hG.2.1 h2 hc he, fun U hU hW => ⟨rfl, hG.preL h2 h3 h4 hU hW⟩⟩ rfl hn h1.1 hst (lv_room hroom) d ⟨by have := hG.2.2.2.2.2.2.2.2.1; omega, by have := hG.2.2.2.2.2.2.2.2.2; omega⟩
theorem jl_callS (hG : wOk G own cc nL fr lo) {y : MethodName} {cc' : ByteArray} {nL' n mc ms fr' lo' index : Nat} {ret : Option FieldType} {As rest : List Value} {RP : Option Value → va_W → Prop} (ct : LMet (gl G) (gB G) y cc' nL' ret fr' lo' mc ms As ws RP) (mf : wMFs y cc' nL' ret n) (ml : Cond.methodLink own index y ∈ wTs)
    (hn : As.length = n) (hst : st = As.reverse ++ rest) (hroom : (rest.map fun v => v.category).sum ≤ 8) (d : decode cc pc = .ok (.invokestatic index, 3)) (hfr : fr' + 1 ≤ fr) (hlo : 8 + (nL' + 11) + lo' ≤ lo)
    (kk : ∀ v ws', RP v ws' → JL G nL kc ks (pc + 3) lv (v.toList ++ rest) ws') : JL G nL (kc + mc) (ks + ms) pc lv st ws := by
  refine jl_run (a := As.toArray) (fun ls H locs cells slots h1 h2 h3 h4 h5 h6 => ?_) kk
  exact va_runS (Ts := []) (rest := rest) hG.fix ct ⟨mf.1.cb hG ml hfr hlo, hG.word mf.2⟩ ⟨wPreL.blind, fun U hU hW => ⟨rfl, hG.preL h2 h3 h4 hU hW⟩⟩ rfl hn h1.1 hst (lv_room hroom) d ⟨by have := hG.2.2.2.2.2.2.2.2.1; omega, by have := hG.2.2.2.2.2.2.2.2.2; omega⟩
theorem jl_callI (hG : wOk G own cc nL fr lo) {y : MethodName} {cc' : ByteArray} {nL' n mc ms fr' lo' index : Nat} {b : Addr} {As rest : List Value} {RP : Option Value → va_W → Prop} (ct : LMet (gl G) (gB G) y cc' nL' none fr' lo' mc ms (.ref b :: As) ws RP) (mf : wMF y cc' nL' none n ∧ Cond.instanceMethod y ∈ wTs) (ml : Cond.methodLink own index y ∈ wTs) (hy : y.name = "<init>")
    (hn : As.length = n) (hst : st = As.reverse ++ .ref b :: rest) (hroom : (rest.map fun v => v.category).sum ≤ 8) (d : decode cc pc = .ok (.invokespecial index, 3)) (hfr : fr' + 1 ≤ fr) (hlo : 8 + (nL' + 11) + lo' ≤ lo)
    (kk : ∀ v ws', RP v ws' → JL G nL kc ks (pc + 3) lv (v.toList ++ rest) ws') : JL G nL (kc + mc) (ks + ms) pc lv st ws := by
  refine jl_run (a := (Value.ref b :: As).toArray) (fun ls H locs cells slots h1 h2 h3 h4 h5 h6 => ?_) kk
  exact va_runI (Ts := []) (rest := rest) hG.fix ct ⟨mf.1.cb hG ml hfr hlo, hy, hG.word mf.2⟩ ⟨wPreL.blind, fun U hU hW => ⟨rfl, hG.preL h2 h3 h4 hU hW⟩⟩ rfl hn h1.1 hst (lv_room hroom) d ⟨by have := hG.2.2.2.2.2.2.2.2.1; omega, by have := hG.2.2.2.2.2.2.2.2.2; omega⟩
theorem wMF.back (hG : wOk G own cc nL fr lo) {y : MethodName} {cc' : ByteArray} {nL' n mc ms fr' lo' : Nat} {ret : Option FieldType} (mf : wMF y cc' nL' ret n) (hfr : fr' + 1 ≤ fr) (hlo : 8 + (nL' + 11) + lo' ≤ lo) : (({ frames := fr', cells := mc, slots := ms, locals := lo' } : Room).cells = mc ∧ ({ frames := fr', cells := mc, slots := ms, locals := lo' } : Room).slots = ms ∧ ({ frames := fr', cells := mc, slots := ms, locals := lo' } : Room).frames + 1 ≤ (gR G).frames ∧ 8 + (nL' + 11) + ({ frames := fr', cells := mc, slots := ms, locals := lo' } : Room).locals ≤ (gR G).locals ∧ (∀ w ∈ [Cond.code y cc' nL' ret], ∀ (a' : Array Value) (U : State), (gs G).WarmedH U.vm → w.before a' U = true) ∧ Cond.code y cc' nL' ret ∈ [Cond.code y cc' nL' ret]) ∧ (∀ sig, parseMethodDescriptor y.desc = some sig → n = sig.parameters.length) := by
  obtain ⟨hn, hp, hc, hi⟩ := mf
  refine ⟨⟨rfl, rfl, Nat.le_trans hfr hG.2.2.2.2.2.2.1, Nat.le_trans hlo hG.2.2.2.2.2.2.2.1, fun c hm a' U hW => ?_, List.mem_cons_self⟩, fun sig h => ?_⟩
  · rw [List.mem_singleton.mp hm]
    exact wgood_at (List.mem_filter.mp hc).2 hW (hG.1.2.2.2.2 _ hc _)
  · rw [h] at hp
    exact (Option.some.inj hp).symm
/-- a private constructor of a nest mate -/
theorem jl_callIN (hG : wOk G own cc nL fr lo) {y : MethodName} {host : String} {cc' : ByteArray} {nL' n mc ms fr' lo' index : Nat} {b : Addr} {As rest : List Value} {RP : Option Value → va_W → Prop} (ct : LMet (gl G) (gB G) y cc' nL' none fr' lo' mc ms (.ref b :: As) ws RP) (mf : wMF y cc' nL' none n ∧ Cond.instanceMethod y ∈ wTs) (ml : Cond.methodLinkNest own index y host ∈ wTs) (hy : y.name = "<init>")
    (hn : As.length = n) (hst : st = As.reverse ++ .ref b :: rest) (hroom : (rest.map fun v => v.category).sum ≤ 8) (d : decode cc pc = .ok (.invokespecial index, 3)) (hfr : fr' + 1 ≤ fr) (hlo : 8 + (nL' + 11) + lo' ≤ lo)
    (kk : ∀ v ws', RP v ws' → JL G nL kc ks (pc + 3) lv (v.toList ++ rest) ws') : JL G nL (kc + mc) (ks + ms) pc lv st ws := by
  refine jl_run (a := (Value.ref b :: As).toArray) (fun ls H locs cells slots h1 h2 h3 h4 h5 h6 => ?_) kk
  have hb := mf.1.back (mc := mc) (ms := ms) hG hfr hlo
  exact va_runIN (Ts := []) (rest := rest) hG.fix ct ⟨⟨hb.1, hG.word mf.1.2.2.1, hG.word mf.1.2.2.2, mf.1.1, hb.2, hG.word ml⟩, hy, hG.word mf.2⟩ ⟨wPreL.blind, fun U hU hW => ⟨rfl, hG.preL h2 h3 h4 hU hW⟩⟩ rfl hn h1.1 hst (lv_room hroom) d ⟨by have := hG.2.2.2.2.2.2.2.2.1; omega, by have := hG.2.2.2.2.2.2.2.2.2; omega⟩
/-- super.m(..) -/
theorem jl_callSU (hG : wOk G own cc nL fr lo) {y : MethodName} {cc' : ByteArray} {nL' n mc ms fr' lo' index : Nat} {ret : Option FieldType} {b : Addr} {As rest : List Value} {RP : Option Value → va_W → Prop} (ct : LMet (gl G) (gB G) y cc' nL' ret fr' lo' mc ms (.ref b :: As) ws RP) (mf : wMF y cc' nL' ret n ∧ Cond.instanceMethod y ∈ wTs) (ml : Cond.methodLink own index y ∈ wTs) (hsu : Cond.sameMethod y.cls y.cls y.name y.desc ∈ wTs ∧ Cond.superclass own y.cls ∈ wTs ∧ y.name ≠ "<init>")
    (k0 : Nat) {ci N : Nat} {C : String} {T : u_T} {fs : List Value} (he : ws[k0]? = some (b, .inr (ci, fs))) (hc : vwCl[ci]? = some (C, T, N)) (hn : As.length = n) (hst : st = As.reverse ++ .ref b :: rest) (hroom : (rest.map fun v => v.category).sum ≤ 8) (d : decode cc pc = .ok (.invokespecial index, 3)) (hfr : fr' + 1 ≤ fr) (hlo : 8 + (nL' + 11) + lo' ≤ lo)
    (kk : ∀ v ws', RP v ws' → JL G nL kc ks (pc + 3) lv (v.toList ++ rest) ws') : JL G nL (kc + mc) (ks + ms) pc lv st ws := by
  refine jl_run (a := (Value.ref b :: As).toArray) (fun ls H locs cells slots h1 h2 h3 h4 h5 h6 => ?_) kk
  have hb := mf.1.back (mc := mc) (ms := ms) hG hfr hlo
  exact va_runSU (Ts := []) (rest := rest) (C := C) (hG.2.1.1 ci _ hc).2 hG.fix ct ⟨hb.1, hG.word ml, hG.word hsu.1, hG.word hsu.2.1, hG.word mf.2, hG.word mf.1.2.2.2, hG.word mf.1.2.2.1, hsu.2.2, hb.2⟩ ⟨wPreL.blind, va_recv hG.2.1 h2 hc he, fun U hU hW => ⟨rfl, hG.preL h2 h3 h4 hU hW⟩⟩ rfl hn h1.1 hst (lv_room hroom) d ⟨by have := hG.2.2.2.2.2.2.2.2.1; omega, by have := hG.2.2.2.2.2.2.2.2.2; omega⟩
/-- a call that names x and lands in y, that overrides it -/
theorem jl_callO (hG : wOk G own cc nL fr lo) {x y : MethodName} {owner : String} {cc' b0 : ByteArray} {nL' m0 n mc ms fr' lo' index : Nat} {ret r0 : Option FieldType} {b : Addr} {As rest : List Value} {RP : Option Value → va_W → Prop} (ct : LMet (gl G) (gB G) y cc' nL' ret fr' lo' mc ms (.ref b :: As) ws RP) (mf : wMF y cc' nL' ret n ∧ Cond.instanceMethod y ∈ wTs) (hd : x.desc = y.desc) (ml : Cond.methodLink own index x ∈ wTs) (hs : Cond.sameMethod x.cls owner x.name x.desc ∈ wTs) (ho : owner ≠ "java/lang/invoke/MethodHandle" ∧ owner ≠ "java/lang/invoke/VarHandle") (h0 : Cond.instanceMethod ⟨owner, x.name, x.desc⟩ ∈ wTs ∧ Cond.code ⟨owner, x.name, x.desc⟩ b0 m0 r0 ∈ wTs)
    (k0 : Nat) {ci N : Nat} {C : String} {T : u_T} {fs : List Value} (he : ws[k0]? = some (b, .inr (ci, fs))) (hc : vwCl[ci]? = some (C, T, N)) (hsel : Cond.selects C x y ∈ wTs) (hn : As.length = n) (hst : st = As.reverse ++ .ref b :: rest) (hroom : (rest.map fun v => v.category).sum ≤ 8) (d : decode cc pc = .ok (.invokevirtual index, 3)) (hfr : fr' + 1 ≤ fr) (hlo : 8 + (nL' + 11) + lo' ≤ lo)
    (kk : ∀ v ws', RP v ws' → JL G nL kc ks (pc + 3) lv (v.toList ++ rest) ws') : JL G nL (kc + mc) (ks + ms) pc lv st ws := by
  refine jl_run (a := (Value.ref b :: As).toArray) (fun ls H locs cells slots h1 h2 h3 h4 h5 h6 => ?_) kk
  have hb := mf.1.back (mc := mc) (ms := ms) hG hfr hlo
  exact va_runU (Ts := []) (rest := rest) (C := C) (owner := owner) (x := x) hG.fix ct ⟨hb.1, hG.word mf.1.2.2.1, hG.word mf.1.2.2.2, ho, (by rw [hd]; exact hb.2), hG.word ml, hG.word hs, va_Decl.of (hG.word h0.1) (hG.word h0.2), hG.word hsel, hG.word mf.2⟩ ⟨wPreL.blind, va_recv hG.2.1 h2 hc he, fun U hU hW => ⟨rfl, hG.preL h2 h3 h4 hU hW⟩⟩ rfl hn h1.1 hst (lv_room hroom) d ⟨by have := hG.2.2.2.2.2.2.2.2.1; omega, by have := hG.2.2.2.2.2.2.2.2.2; omega⟩
theorem jl_cloneb (hG : wOk G own cc nL fr lo) (k0 : Nat) {index a n0 : Nat} {f : Nat → Int32} (hl : Cond.methodLink own index ⟨"[B", "clone", "()Ljava/lang/Object;"⟩ ∈ wTs) (hw : Cond.sameMethod "[B" "java/lang/Object" "clone" "()Ljava/lang/Object;" ∈ wTs ∧ Cond.native ⟨"java/lang/Object", "clone", "()Ljava/lang/Object;"⟩ ∈ wTs ∧ Cond.instanceMethod ⟨"java/lang/Object", "clone", "()Ljava/lang/Object;"⟩ ∈ wTs ∧ Cond.selects "[B" ⟨"[B", "clone", "()Ljava/lang/Object;"⟩ ⟨"java/lang/Object", "clone", "()Ljava/lang/Object;"⟩ ∈ wTs ∧ Cond.castable "[B" "java/lang/Cloneable" ∈ wTs) (ha : ws[k0]? = some (a, .inl (wdA (gB G) 4, n0, .inl f))) (hfit : ∀ i, i < n0 → fits .byte (.int (f i)) = true) (hfr : 1 ≤ fr) (hlo : (st.map fun v => v.category).sum + 14 ≤ lo) (d : decode cc pc = .ok (.invokevirtual index, 3)) (kk : ∀ q : Nat, JL G nL kc ks (pc + 3) lv (.ref q :: st) (ws ++ [(q, .inl (wdA (gB G) 4, n0, .inl f))])) : JL G nL (kc + 1) (ks + n0) pc lv (.ref a :: st) ws := by
  intro ls H locs cells slots h1 h2 h3 h4 h5 h6
  have r1 := hG.2.2.2.2.2.2.1
  have r2 := hG.2.2.2.2.2.2.2.1
  have r3 := hG.2.2.2.2.2.2.2.2.1
  have r4 := hG.2.2.2.2.2.2.2.2.2
  exact va_clone hG.1.1 hG.1.2.1 (hG.1.2.2.1.trans h1.1.symm) hG.1.2.2.2.1 (hG.word hl) (hG.word hw.1) (hG.word hw.2.1) (hG.word hw.2.2.1) (hG.word hw.2.2.2.1) (hG.1.2.2.2.2 _ hw.2.2.2.2 #[]) hG.2.1 h2 h3 h4 hG.newA k0 4 ha rfl (va_nm_byte (hG.2.1.2 4 _ rfl).2) (fun i v hv => va_fit (cA := wdA (gB G) 4) (n := n0) (F := fun j => .int (f j)) hfit i v hv) (by omega) (by omega) (by omega) (by show slots + n0 ≤ _; omega) d (fun q H1 k1 k2 k3 k4 => kk q ls H1 locs (cells + 1) (slots + n0) h1 k2 k3 k4 (by omega) (by omega))
theorem jl_castA (hG : wOk G own cc nL fr lo) (k0 : Nat) {index a : Nat} {x : vp_A} (hl : Cond.classLink own index "[B" ∈ wTs) (ha : ws[k0]? = some (a, .inl (wdA (gB G) 4, x))) (d : decode cc pc = .ok (.checkcast index, 3)) (kk : JL G nL kc ks (pc + 3) lv (.ref a :: st) ws) : JL G nL kc ks pc lv (.ref a :: st) ws :=
  fun ls H locs cells slots h1 h2 h3 h4 h5 h6 => va_castA hG.1.1 hG.1.2.1 hG.1.2.2.2.1 (hG.word hl) h2 k0 ha (va_nm_byte (hG.2.1.2 4 _ rfl).2) d (kk ls H locs cells slots h1 h2 h3 h4 h5 h6)
end JLR
/-- a private method of a class above, on an object of the class below -/
theorem sel_priv {C : String} {z y : MethodName} {s : State} {args : Array Value} (hz : (Cond.selects C z z).before args s = true) (hzy : z.cls = y.cls) (hy : y.cls ≠ "java/lang/invoke/MethodHandle" ∧ y.cls ≠ "java/lang/invoke/VarHandle") (hp : (Cond.privateMethod y).before args s = true) (hi : (Cond.instanceMethod y).before args s = true) : (Cond.selects C y y).before args s = true := by
  obtain ⟨c2, r2, m2, q1, q2, q3, q4, kP, hkP, hkPi⟩ := Cond.selects_spec hz
  obtain ⟨mk, methM, hnamed, hmethM, -, -⟩ := Cond.instanceMethod_spec hi
  have hfound : s.methodFound? y.cls y.name y.desc = some mk := State.methodFound?_of_named hnamed hy
  have hcls : m2.cls = mk.cls := Option.some.inj ((findClass_of_methodNamed q3).symm.trans (by rw [hzy]; exact findClass_of_methodNamed hnamed))
  rw [hcls] at hkP
  have hsel : selectMethod {} s.vm c2 mk = .method mk := selectMethod_private hmethM (Cond.privateMethod_at hp mk methM hnamed hmethM)
  simp only [Cond.before, Cond.holds, Cond.value, q1, hfound, hnamed, hsel, hkP]
  simp
  exact hkPi
