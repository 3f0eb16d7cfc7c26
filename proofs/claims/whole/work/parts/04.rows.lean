/-! the judgement J: from this point of the method's own frame, with these locals and this stack over the world σ, the method's end is reached -/
/-- words that hold at every state of the run: of the tables alone, kept by warming -/
def wgood : Cond → Bool
  | .arrayClass _ => true
  | c => c.onTables && c.keepsCast
def wTs : List Cond := lw_tbl.filter wgood
def wW (U : State) : Prop := ∀ c ∈ wTs, ∀ a : Array Value, c.before a U = true
theorem wTs_in {c : Cond} (i : Nat) (h : lw_tbl[i]? = some c) (g : wgood c = true) : c ∈ wTs := List.mem_filter.mpr ⟨List.mem_of_getElem? h, g⟩
theorem wgood_any {c : Cond} (g : wgood c = true) {a a' : Array Value} {U : State} (h : c.before a U = true) : c.before a' U = true := by
  cases c <;> first | (simp [wgood, Cond.onTables] at g; done) | exact h
theorem wgood_at {c : Cond} (g : wgood c = true) {a : Array Value} {s U : State} (hW : s.WarmedH U.vm) (h : c.before a s = true) : c.before a U = true := by
  by_cases hA : ∃ ty, c = .arrayClass ty
  · exact word_at hW (Or.inr hA) h
  · have g2 : (c.onTables && c.keepsCast) = true := by
      cases c <;> first | exact g | exact absurd ⟨_, rfl⟩ hA
    simp only [Bool.and_eq_true] at g2
    have h1 : c.before a (s.setVm U.vm) = true := Cond.before_shiftedCast (State.Shifted.of_warmed hW) c g2.2 h
    have h2 := (Cond.onTables_vm (A := a) (A' := a) (U := s) (U' := U) U.vm c g2.1).symm.trans h1
    rwa [State.setVm_self] at h2
theorem wW.warm {s U : State} (hW : s.WarmedH U.vm) (h : wW s) : wW U := fun c hc a => wgood_at (List.mem_filter.mp hc).2 hW (h c hc a)
theorem wW.of {s : State} {a : Array Value} (h : ∀ c ∈ lw_tbl, c.before a s = true) : wW s := fun c hc _ => wgood_any (List.mem_filter.mp hc).2 (h c (List.mem_filter.mp hc).1)
/-- the texts of the class's exceptions, and which exception is of no class of which handler -/
def wStr (strs : List (String × Nat × String)) (B : wB) (U : State) : Prop := ∀ (i : Nat) (q : String × Nat × String), strs[i]? = some q → vk_R q.1 q.2.1 q.2.2 (wsa B i) U
def wNc (ncs : List (String × String)) (U : State) : Prop := ∀ (i : Nat) (q : String × String), ncs[i]? = some q → va_Nc q.1 q.2 U
abbrev wStrs : List (String × Nat × String) := [(RX7, 70, "there are 6 blocks"), (RX7, 89, "there are 20 addresses"), (RX7, 105, "there is no such address in the block"), (RX7, 114, "both blocks are the same"), (RX7, 117, "there is no such list"), (RX7, 119, "the name or the year is out of range"), (RX7, 127, "there are 40 records"), (RX7, 133, "there is no such part"), (RX7, 135, "the points are out of range"), (RX7, 141, "a bound is out of range"), (RX7, 163, "both records are of the check"), (RX7, 177, "there is no decision on these records"), (RX7, 189, "the record has no match"), (RX7, 203, "there are no matches"), (RX7, 212, "there are no census records"), (RX7, 217, "there are less than 2 blocks"), (RX7, 219, "8 tables were told"), (RX7, 227, "the table cannot be told"), (RX7, 250, "the cell is hidden"), (RX7, 271, "the count is neither 1 nor 2"), (RX7, 293, "there is no such index"), (RX7, 313, "there is no such block"), (RX7, 315, "there is no such address"), (RX7, 317, "the group is out of range"), (RX7, 319, "there is no such record"), (RX7, 321, "both records are the same"), (RX7, 323, "there is no such table"), (RX7, 326, "the table has no such block")]
abbrev wNcs : List (String × String) := [("java/lang/IllegalStateException", "java/lang/IllegalArgumentException"), ("java/lang/IllegalStateException", "java/lang/IndexOutOfBoundsException"), ("java/lang/IllegalStateException", "java/lang/ArithmeticException"), ("java/lang/IllegalStateException", "java/lang/UnsupportedOperationException"), ("java/lang/IllegalStateException", "java/util/NoSuchElementException"), ("java/lang/IllegalArgumentException", "java/lang/IllegalStateException"), ("java/lang/IllegalArgumentException", "java/lang/IndexOutOfBoundsException"), ("java/lang/IllegalArgumentException", "java/lang/ArithmeticException"), ("java/lang/IllegalArgumentException", "java/lang/UnsupportedOperationException"), ("java/lang/IllegalArgumentException", "java/util/NoSuchElementException"), ("java/lang/IndexOutOfBoundsException", "java/lang/IllegalStateException"), ("java/lang/IndexOutOfBoundsException", "java/lang/IllegalArgumentException"), ("java/lang/IndexOutOfBoundsException", "java/lang/ArithmeticException"), ("java/lang/IndexOutOfBoundsException", "java/lang/UnsupportedOperationException"), ("java/lang/IndexOutOfBoundsException", "java/util/NoSuchElementException"), ("java/lang/ArithmeticException", "java/lang/IllegalStateException"), ("java/lang/ArithmeticException", "java/lang/IllegalArgumentException"), ("java/lang/ArithmeticException", "java/lang/IndexOutOfBoundsException"), ("java/lang/ArithmeticException", "java/lang/UnsupportedOperationException"), ("java/lang/ArithmeticException", "java/util/NoSuchElementException"), ("java/lang/UnsupportedOperationException", "java/lang/IllegalStateException"), ("java/lang/UnsupportedOperationException", "java/lang/IllegalArgumentException"), ("java/lang/UnsupportedOperationException", "java/lang/IndexOutOfBoundsException"), ("java/lang/UnsupportedOperationException", "java/lang/ArithmeticException"), ("java/lang/UnsupportedOperationException", "java/util/NoSuchElementException"), ("java/util/NoSuchElementException", "java/lang/IllegalStateException"), ("java/util/NoSuchElementException", "java/lang/IllegalArgumentException"), ("java/util/NoSuchElementException", "java/lang/IndexOutOfBoundsException"), ("java/util/NoSuchElementException", "java/lang/ArithmeticException"), ("java/util/NoSuchElementException", "java/lang/UnsupportedOperationException")]
/-- what the texts' classes hold: texts of bytes, who writes the message, the digits -/
def wEx (B : wB) (U : State) : Prop := va_Z "java/lang/String" "COMPACT_STRINGS" "Z" (.int 1) (wA B) U U.heap ∧ va_Zq "jdk/internal/util/Preconditions" "SIOOBE_FORMATTER" "Ljava/util/function/BiFunction;" (wA B) U U.heap ∧ (∃ t : Nat, va_Z "java/lang/Integer" "DigitOnes" "[B" (.ref t) (wA B) U U.heap ∧ va_T .byte t 100 (fun j => .int (Int32.ofNat (48 + j % 10))) (wA B) U U.heap) ∧ (∃ t : Nat, va_Z "java/lang/Integer" "DigitTens" "[B" (.ref t) (wA B) U U.heap ∧ va_T .byte t 100 (fun j => .int (Int32.ofNat (48 + j / 10))) (wA B) U U.heap)
theorem wEx.warm {B : wB} {s U : State} (hW : s.WarmedH U.vm) (hq : ∀ a : Nat, a < s.heap.size → ¬ wA B a → U.heap[a]? = s.heap[a]?) (h : wEx B s) : wEx B U := by
  obtain ⟨h1, h2, ⟨t, h3, h4⟩, ⟨u, h5, h6⟩⟩ := h
  exact ⟨va_Z.moved hW.alike (h1.kept hq), va_Zq.moved hW.alike (h2.kept hq), ⟨t, va_Z.moved hW.alike (h3.kept hq), va_T.moved hW.alike (h4.kept hq)⟩, ⟨u, va_Z.moved hW.alike (h5.kept hq), va_T.moved hW.alike (h6.kept hq)⟩⟩
def wE (B : wB) (U : State) : Prop := vx_Zq Bundle.tN "UNASSIGNED_STACK" Bundle.steD (wA B) U U.heap ∧ vx_Zq Bundle.tN "SUPPRESSED_SENTINEL" Bundle.listD (wA B) U U.heap ∧ wStr wStrs B U ∧ wNc wNcs U ∧ wEx B U
theorem wE.warm {B : wB} {s U : State} (hW : s.WarmedH U.vm) (hq : ∀ a : Nat, a < s.heap.size → ¬ wA B a → U.heap[a]? = s.heap[a]?) (h : wE B s) : wE B U :=
  ⟨vx_Zq.moved hW.alike (h.1.kept hq), vx_Zq.moved hW.alike (h.2.1.kept hq), fun i q hi => vk_R.warm hW (h.2.2.1 i q hi), fun i q hi => va_Nc.moved hW.alike (h.2.2.2.1 i q hi), h.2.2.2.2.warm hW hq⟩
/-- what every contract gives at its start -/
def wPre (B : wB) (σ : wS) (U : State) : Prop := va_P (wdG B) vwCl (wl B σ) U.heap ∧ va_K (wdG B) vwCl (wty B) U ∧ va_D (wA B) (wl B σ) ∧ wW U ∧ wE B U ∧ B.1 ≤ U.heap.size
def wPost (B : wB) (σ : wS) (t : State) : Prop := va_P (wdG B) vwCl (wl B σ) t.heap ∧ va_D (wA B) (wl B σ)
def wQc (B : wB) (RP : Option Value → wS → Prop) : Array Value → State → Outcome → State → Prop := fun _ st oc t => (∃ (v : Option Value) (σ : wS), oc = .returned v ∧ RP v σ ∧ wPost B σ t) ∧ va_F (wA B) st t
def wXC (B : wB) (XP : String → wS → Prop) : String → State → State → Prop := fun E st t => (∃ σ : wS, XP E σ ∧ wPost B σ t) ∧ va_F (wA B) st t
/-- a method's contract: it returns, and RP says what and to which world; or it throws, and XP says what -/
def wMet (l : Launch) (B : wB) (y : MethodName) (cc : ByteArray) (nL : Nat) (ret : Option FieldType) (fr lo mc ms : Nat) (As : List Value) (σ : wS) (RP : Option Value → wS → Prop) (XP : String → wS → Prop) : Prop :=
  vx_Met l y [.code y cc nL ret] { frames := fr, cells := mc, slots := ms, locals := lo } (va_Pc As (wPre B σ)) (wQc B RP) (wXC B XP) mc ms (wA B)
theorem wPre.blind {B : wB} {σ : wS} {As : List Value} : FrameBlind (va_Pc As (wPre B σ)) := fun a U g mk q => by
  obtain ⟨q0, q1, q2, q3, q4, q5, q6⟩ := q
  have hW : U.WarmedH (U.calling g mk a).vm := State.WarmedH.refl U
  exact ⟨q0, q1, va_K.moved (u := U) (U := U.calling g mk a) (Vm.Alike.refl U.vm) q2, q3, q4.warm (U := U.calling g mk a) hW, wE.warm (U := U.calling g mk a) hW (fun _ _ _ => rfl) q5, q6⟩
abbrev wG : Type := (Program × Launch × Env × Room × State) × (MethodId × Array Value × List Frame × Method × Code) × (State → Prop) × (Nat × Nat) × wB
abbrev gp (G : wG) := G.1.1
abbrev gl (G : wG) := G.1.2.1
abbrev ge (G : wG) := G.1.2.2.1
abbrev gR (G : wG) := G.1.2.2.2.1
abbrev gs (G : wG) := G.1.2.2.2.2
abbrev gm (G : wG) := G.2.1.1
abbrev ga (G : wG) := G.2.1.2.1
abbrev gbl (G : wG) := G.2.1.2.2.1
abbrev gme (G : wG) := G.2.1.2.2.2.1
abbrev gc (G : wG) := G.2.1.2.2.2.2
abbrev gQ (G : wG) := G.2.2.1
abbrev gmc (G : wG) := G.2.2.2.1.1
abbrev gms (G : wG) := G.2.2.2.1.2
abbrev gB (G : wG) := G.2.2.2.2
def J (G : wG) (nL kc ks pc : Nat) (lv : List (Nat × Value)) (st : List Value) (σ : wS) : Prop :=
  ∀ (ls : Array Slot) (H : Heap) (locs : List Loc) (cells slots : Nat), lv_has ls nL lv → va_P (wdG (gB G)) vwCl (wl (gB G) σ) H → va_D (wA (gB G)) (wl (gB G) σ) → va_S (wA (gB G)) (gs G).heap H locs → cells + kc ≤ gmc G → slots + ks ≤ gms G →
    W (gp G) (gl G) (ge G) (gR G) (gs G) (gm G) (ga G) (gbl G) (gme G) (gc G) H locs cells slots (gQ G) (F0 (gm G) pc ls st)
/-- the same with an exception of the class E thrown over the frame -/
def JX (G : wG) (nL kc ks pc : Nat) (lv : List (Nat × Value)) (σ : wS) (E : String) : Prop :=
  ∀ (ls : Array Slot) (H : Heap) (locs : List Loc) (cells slots : Nat) (rest : List Value) (ce : Cell) (q : Addr), lv_has ls nL lv → va_P (wdG (gB G)) vwCl (wl (gB G) σ) H → va_D (wA (gB G)) (wl (gB G) σ) → va_S (wA (gB G)) (gs G).heap H locs → cells + kc ≤ gmc G → slots + ks ≤ gms G →
    H[q]? = some ce → ce.vm = .none → (gs G).vm.findClass E = some ce.cls →
    vx_W (gp G) (gl G) (ge G) (gR G) (gs G) (gm G) (ga G) (gbl G) (gme G) (gc G) H locs cells slots (gQ G) (F0 (gm G) pc ls rest) q
def wOk (G : wG) (own : String) (cc : ByteArray) (nL fr lo : Nat) : Prop :=
  ((gp G).tables.exec = Jvm.exec ∧ (gc G).code = cc ∧ (gc G).maxLocals = nL ∧ (gs G).vm.findClass own = some (gm G).cls ∧ wW (gs G)) ∧ va_K (wdG (gB G)) vwCl (wty (gB G)) (gs G) ∧ (gl G).stackTraces = false ∧ wE (gB G) (gs G) ∧ (gB G).1 ≤ (gs G).heap.size ∧ (gme G).locks = false ∧ fr ≤ (gR G).frames ∧ lo ≤ (gR G).locals ∧ gmc G ≤ (gR G).cells ∧ gms G ≤ (gR G).slots
/-- the method's own end -/
def wEnd (G : wG) (ret : Option FieldType) (RP : Option Value → wS → Prop) (XP : String → wS → Prop) : Prop :=
  (gme G).sig.returnType = ret ∧ gQ G = vx_MQ (gbl G) (wQc (gB G) RP) (wXC (gB G) XP) (ga G) (gs G) (gmc G) (gms G) (wA (gB G))
def wNoTab (G : wG) : Prop := ∀ x ∈ (gc G).exceptionTable.toList, False
theorem wMet.of {l : Launch} {B : wB} {y : MethodName} {cc : ByteArray} {nL : Nat} {ret : Option FieldType} {fr lo mc ms : Nat} {As : List Value} {σ : wS} {RP : Option Value → wS → Prop} {XP : String → wS → Prop} (hl : l.stackTraces = false) (hy : plainName y.cls = true) (hn : (lg_sl As).length ≤ nL)
    (h : ∀ G : wG, gB G = B → gl G = l → wOk G y.cls cc nL fr lo → wEnd G ret RP XP → wNoTab G → J G nL mc ms 0 (lv_args 0 As) [] σ) : wMet l B y cc nL ret fr lo mc ms As σ RP XP := by
  refine vx_ofW (cc := cc) (maxL := nL) (ret := ret) hy rfl ?_
  intro p e s m args below meth c s₁ Bd hml ht hv
  obtain ⟨rfl, hP, hK, hD, hw, hE, hb⟩ := hv
  have hlv := lv_entry As hn
  rw [lg_entry_eq]
  exact h ((p, l, e, { frames := fr, cells := mc, slots := ms, locals := lo }, s), (m, As.toArray, below, meth, c), vx_MQ below (wQc B RP) (wXC B XP) As.toArray s mc ms (wA B), (mc, ms), B) rfl rfl
    ⟨⟨Bd.exec, Bd.bytes, hml, findClass_of_methodNamed Bd.named, hw⟩, hK, hl, hE, hb, Bd.notSynchronized, Nat.le_refl _, Nat.le_refl _, Nat.le_refl _, Nat.le_refl _⟩ ⟨Bd.returns, rfl⟩ ht _ s.heap [] 0 0 hlv hP hD va_S.rf (by show 0 + mc ≤ mc; omega) (by show 0 + ms ≤ ms; omega)
section JR
variable {G : wG} {own : String} {cc : ByteArray} {nL fr lo kc ks pc : Nat} {lv : List (Nat × Value)} {st : List Value} {σ : wS}
theorem J.weak {kc' ks' : Nat} (hc : kc ≤ kc') (hs : ks ≤ ks') (h : J G nL kc ks pc lv st σ) : J G nL kc' ks' pc lv st σ := fun ls H locs cells slots h1 h2 h3 h4 h5 h6 => h ls H locs cells slots h1 h2 h3 h4 (by omega) (by omega)
/-- locals that are not needed any more are dropped, others put in order -/
theorem j_lv {lv' : List (Nat × Value)} (is : List Nat) (hl : lv_pick lv is = lv') (h : J G nL kc ks pc lv' st σ) : J G nL kc ks pc lv st σ := fun ls H locs cells slots h1 => h ls H locs cells slots (lv_sub h1 is hl)
theorem wOk.word (hG : wOk G own cc nL fr lo) {c : Cond} (h : c ∈ wTs) : c.before (ga G) (gs G) = true := hG.1.2.2.2.2 c h _
theorem j_iconst (hG : wOk G own cc nL fr lo) {n : Int} {v : Int32} (d : decode cc pc = .ok (.iconst n, 1)) (hv : Int32.ofInt n = v) (kk : J G nL kc ks (pc + 1) lv (.int v :: st) σ) : J G nL kc ks pc lv (st) σ :=
  fun ls H locs cells slots h1 h2 h3 h4 h5 h6 => lv_iconst hG.1.1 hG.1.2.1 d hv (kk ls H locs cells slots h1 h2 h3 h4 h5 h6)
theorem j_bipush (hG : wOk G own cc nL fr lo) {n : Int} {v : Int32} (d : decode cc pc = .ok (.bipush n, 2)) (hv : (Int8.ofInt n).toInt32 = v) (kk : J G nL kc ks (pc + 2) lv (.int v :: st) σ) : J G nL kc ks pc lv (st) σ :=
  fun ls H locs cells slots h1 h2 h3 h4 h5 h6 => lv_bipush hG.1.1 hG.1.2.1 d hv (kk ls H locs cells slots h1 h2 h3 h4 h5 h6)
theorem j_sipush (hG : wOk G own cc nL fr lo) {n : Int} {v : Int32} (d : decode cc pc = .ok (.sipush n, 3)) (hv : (Int16.ofInt n).toInt32 = v) (kk : J G nL kc ks (pc + 3) lv (.int v :: st) σ) : J G nL kc ks pc lv (st) σ :=
  fun ls H locs cells slots h1 h2 h3 h4 h5 h6 => lv_sipush hG.1.1 hG.1.2.1 d hv (kk ls H locs cells slots h1 h2 h3 h4 h5 h6)
theorem j_lconst (hG : wOk G own cc nL fr lo) {n : Fin 2} {v : Int64} (d : decode cc pc = .ok (.lconst n, 1)) (hv : Int64.ofNat (n : Nat) = v) (kk : J G nL kc ks (pc + 1) lv (.long v :: st) σ) : J G nL kc ks pc lv (st) σ :=
  fun ls H locs cells slots h1 h2 h3 h4 h5 h6 => lv_lconst hG.1.1 hG.1.2.1 d hv (kk ls H locs cells slots h1 h2 h3 h4 h5 h6)
theorem j_fconst0 (hG : wOk G own cc nL fr lo) (d : decode cc pc = .ok (.fconst 0, 1)) (kk : J G nL kc ks (pc + 1) lv (.float 0 :: st) σ) : J G nL kc ks pc lv (st) σ :=
  fun ls H locs cells slots h1 h2 h3 h4 h5 h6 => lv_fconst0 hG.1.1 hG.1.2.1 d (kk ls H locs cells slots h1 h2 h3 h4 h5 h6)
theorem j_dconst0 (hG : wOk G own cc nL fr lo) (d : decode cc pc = .ok (.dconst 0, 1)) (kk : J G nL kc ks (pc + 1) lv (.double 0 :: st) σ) : J G nL kc ks pc lv (st) σ :=
  fun ls H locs cells slots h1 h2 h3 h4 h5 h6 => lv_dconst0 hG.1.1 hG.1.2.1 d (kk ls H locs cells slots h1 h2 h3 h4 h5 h6)
theorem j_null (hG : wOk G own cc nL fr lo) (d : decode cc pc = .ok (.aconst_null, 1)) (kk : J G nL kc ks (pc + 1) lv (.null :: st) σ) : J G nL kc ks pc lv (st) σ :=
  fun ls H locs cells slots h1 h2 h3 h4 h5 h6 => lv_null hG.1.1 hG.1.2.1 d (kk ls H locs cells slots h1 h2 h3 h4 h5 h6)
theorem j_iload_n (hG : wOk G own cc nL fr lo) (j : Nat) {i : Nat} {k : Fin 4} {x : Int32} (d : decode cc pc = .ok (.iload_n k, 1)) (hi : (k : Nat) = i) (hl : lv[j]? = some (i, .int x)) (kk : J G nL kc ks (pc + 1) lv (.int x :: st) σ) : J G nL kc ks pc lv st σ :=
  fun ls H locs cells slots h1 h2 h3 h4 h5 h6 => lv_iload_n hG.1.1 hG.1.2.1 d hi (lv_at h1 j hl) (kk ls H locs cells slots h1 h2 h3 h4 h5 h6)
theorem j_iload (hG : wOk G own cc nL fr lo) (j : Nat) {i : Nat} {x : Int32} (d : decode cc pc = .ok (.iload i, 2)) (hl : lv[j]? = some (i, .int x)) (kk : J G nL kc ks (pc + 2) lv (.int x :: st) σ) : J G nL kc ks pc lv st σ :=
  fun ls H locs cells slots h1 h2 h3 h4 h5 h6 => lv_iload hG.1.1 hG.1.2.1 d (lv_at h1 j hl) (kk ls H locs cells slots h1 h2 h3 h4 h5 h6)
theorem j_istore_n (hG : wOk G own cc nL fr lo) {i : Nat} {k : Fin 4} {x : Int32} {lv' : List (Nat × Value)} (d : decode cc pc = .ok (.istore_n k, 1)) (hi : (k : Nat) = i) (hn : i < nL) (hl : (i, Value.int x) :: lv.filter (fun q => !(q.1 == i) && !(q.1 + 1 == i && q.2.category == 2)) = lv') (kk : J G nL kc ks (pc + 1) lv' st σ) : J G nL kc ks pc lv (.int x :: st) σ :=
  fun ls H locs cells slots h1 h2 h3 h4 h5 h6 => lv_istore_n hG.1.1 hG.1.2.1 d hi h1 hn hl (fun ls' h' => kk ls' H locs cells slots h' h2 h3 h4 h5 h6)
theorem j_istore (hG : wOk G own cc nL fr lo) {i : Nat} {x : Int32} {lv' : List (Nat × Value)} (d : decode cc pc = .ok (.istore i, 2)) (hn : i < nL) (hl : (i, Value.int x) :: lv.filter (fun q => !(q.1 == i) && !(q.1 + 1 == i && q.2.category == 2)) = lv') (kk : J G nL kc ks (pc + 2) lv' st σ) : J G nL kc ks pc lv (.int x :: st) σ :=
  fun ls H locs cells slots h1 h2 h3 h4 h5 h6 => lv_istore hG.1.1 hG.1.2.1 d h1 hn hl (fun ls' h' => kk ls' H locs cells slots h' h2 h3 h4 h5 h6)
theorem j_lload_n (hG : wOk G own cc nL fr lo) (j : Nat) {i : Nat} {k : Fin 4} {x : Int64} (d : decode cc pc = .ok (.lload_n k, 1)) (hi : (k : Nat) = i) (hl : lv[j]? = some (i, .long x)) (kk : J G nL kc ks (pc + 1) lv (.long x :: st) σ) : J G nL kc ks pc lv st σ :=
  fun ls H locs cells slots h1 h2 h3 h4 h5 h6 => lv_lload_n hG.1.1 hG.1.2.1 d hi (lv_at h1 j hl) (kk ls H locs cells slots h1 h2 h3 h4 h5 h6)
theorem j_lload (hG : wOk G own cc nL fr lo) (j : Nat) {i : Nat} {x : Int64} (d : decode cc pc = .ok (.lload i, 2)) (hl : lv[j]? = some (i, .long x)) (kk : J G nL kc ks (pc + 2) lv (.long x :: st) σ) : J G nL kc ks pc lv st σ :=
  fun ls H locs cells slots h1 h2 h3 h4 h5 h6 => lv_lload hG.1.1 hG.1.2.1 d (lv_at h1 j hl) (kk ls H locs cells slots h1 h2 h3 h4 h5 h6)
theorem j_lstore_n (hG : wOk G own cc nL fr lo) {i : Nat} {k : Fin 4} {x : Int64} {lv' : List (Nat × Value)} (d : decode cc pc = .ok (.lstore_n k, 1)) (hi : (k : Nat) = i) (hn : i + 1 < nL) (hl : (i, Value.long x) :: lv.filter (fun q => !(q.1 == i) && (!(q.1 == i + 1) && !(q.1 + 1 == i && q.2.category == 2))) = lv') (kk : J G nL kc ks (pc + 1) lv' st σ) : J G nL kc ks pc lv (.long x :: st) σ :=
  fun ls H locs cells slots h1 h2 h3 h4 h5 h6 => lv_lstore_n hG.1.1 hG.1.2.1 d hi h1 hn hl (fun ls' h' => kk ls' H locs cells slots h' h2 h3 h4 h5 h6)
theorem j_lstore (hG : wOk G own cc nL fr lo) {i : Nat} {x : Int64} {lv' : List (Nat × Value)} (d : decode cc pc = .ok (.lstore i, 2)) (hn : i + 1 < nL) (hl : (i, Value.long x) :: lv.filter (fun q => !(q.1 == i) && (!(q.1 == i + 1) && !(q.1 + 1 == i && q.2.category == 2))) = lv') (kk : J G nL kc ks (pc + 2) lv' st σ) : J G nL kc ks pc lv (.long x :: st) σ :=
  fun ls H locs cells slots h1 h2 h3 h4 h5 h6 => lv_lstore hG.1.1 hG.1.2.1 d h1 hn hl (fun ls' h' => kk ls' H locs cells slots h' h2 h3 h4 h5 h6)
theorem j_aload_n (hG : wOk G own cc nL fr lo) (j : Nat) {i : Nat} {k : Fin 4} {x : Nat} (d : decode cc pc = .ok (.aload_n k, 1)) (hi : (k : Nat) = i) (hl : lv[j]? = some (i, .ref x)) (kk : J G nL kc ks (pc + 1) lv (.ref x :: st) σ) : J G nL kc ks pc lv st σ :=
  fun ls H locs cells slots h1 h2 h3 h4 h5 h6 => lv_aload_n hG.1.1 hG.1.2.1 d hi (lv_at h1 j hl) (kk ls H locs cells slots h1 h2 h3 h4 h5 h6)
theorem j_aload (hG : wOk G own cc nL fr lo) (j : Nat) {i : Nat} {x : Nat} (d : decode cc pc = .ok (.aload i, 2)) (hl : lv[j]? = some (i, .ref x)) (kk : J G nL kc ks (pc + 2) lv (.ref x :: st) σ) : J G nL kc ks pc lv st σ :=
  fun ls H locs cells slots h1 h2 h3 h4 h5 h6 => lv_aload hG.1.1 hG.1.2.1 d (lv_at h1 j hl) (kk ls H locs cells slots h1 h2 h3 h4 h5 h6)
theorem j_astore_n (hG : wOk G own cc nL fr lo) {i : Nat} {k : Fin 4} {x : Nat} {lv' : List (Nat × Value)} (d : decode cc pc = .ok (.astore_n k, 1)) (hi : (k : Nat) = i) (hn : i < nL) (hl : (i, Value.ref x) :: lv.filter (fun q => !(q.1 == i) && !(q.1 + 1 == i && q.2.category == 2)) = lv') (kk : J G nL kc ks (pc + 1) lv' st σ) : J G nL kc ks pc lv (.ref x :: st) σ :=
  fun ls H locs cells slots h1 h2 h3 h4 h5 h6 => lv_astore_n hG.1.1 hG.1.2.1 d hi h1 hn hl (fun ls' h' => kk ls' H locs cells slots h' h2 h3 h4 h5 h6)
theorem j_astore (hG : wOk G own cc nL fr lo) {i : Nat} {x : Nat} {lv' : List (Nat × Value)} (d : decode cc pc = .ok (.astore i, 2)) (hn : i < nL) (hl : (i, Value.ref x) :: lv.filter (fun q => !(q.1 == i) && !(q.1 + 1 == i && q.2.category == 2)) = lv') (kk : J G nL kc ks (pc + 2) lv' st σ) : J G nL kc ks pc lv (.ref x :: st) σ :=
  fun ls H locs cells slots h1 h2 h3 h4 h5 h6 => lv_astore hG.1.1 hG.1.2.1 d h1 hn hl (fun ls' h' => kk ls' H locs cells slots h' h2 h3 h4 h5 h6)
theorem j_fload_n (hG : wOk G own cc nL fr lo) (j : Nat) {i : Nat} {k : Fin 4} {x : UInt32} (d : decode cc pc = .ok (.fload_n k, 1)) (hi : (k : Nat) = i) (hl : lv[j]? = some (i, .float x)) (kk : J G nL kc ks (pc + 1) lv (.float x :: st) σ) : J G nL kc ks pc lv st σ :=
  fun ls H locs cells slots h1 h2 h3 h4 h5 h6 => lv_fload_n hG.1.1 hG.1.2.1 d hi (lv_at h1 j hl) (kk ls H locs cells slots h1 h2 h3 h4 h5 h6)
theorem j_fload (hG : wOk G own cc nL fr lo) (j : Nat) {i : Nat} {x : UInt32} (d : decode cc pc = .ok (.fload i, 2)) (hl : lv[j]? = some (i, .float x)) (kk : J G nL kc ks (pc + 2) lv (.float x :: st) σ) : J G nL kc ks pc lv st σ :=
  fun ls H locs cells slots h1 h2 h3 h4 h5 h6 => lv_fload hG.1.1 hG.1.2.1 d (lv_at h1 j hl) (kk ls H locs cells slots h1 h2 h3 h4 h5 h6)
theorem j_fstore_n (hG : wOk G own cc nL fr lo) {i : Nat} {k : Fin 4} {x : UInt32} {lv' : List (Nat × Value)} (d : decode cc pc = .ok (.fstore_n k, 1)) (hi : (k : Nat) = i) (hn : i < nL) (hl : (i, Value.float x) :: lv.filter (fun q => !(q.1 == i) && !(q.1 + 1 == i && q.2.category == 2)) = lv') (kk : J G nL kc ks (pc + 1) lv' st σ) : J G nL kc ks pc lv (.float x :: st) σ :=
  fun ls H locs cells slots h1 h2 h3 h4 h5 h6 => lv_fstore_n hG.1.1 hG.1.2.1 d hi h1 hn hl (fun ls' h' => kk ls' H locs cells slots h' h2 h3 h4 h5 h6)
theorem j_fstore (hG : wOk G own cc nL fr lo) {i : Nat} {x : UInt32} {lv' : List (Nat × Value)} (d : decode cc pc = .ok (.fstore i, 2)) (hn : i < nL) (hl : (i, Value.float x) :: lv.filter (fun q => !(q.1 == i) && !(q.1 + 1 == i && q.2.category == 2)) = lv') (kk : J G nL kc ks (pc + 2) lv' st σ) : J G nL kc ks pc lv (.float x :: st) σ :=
  fun ls H locs cells slots h1 h2 h3 h4 h5 h6 => lv_fstore hG.1.1 hG.1.2.1 d h1 hn hl (fun ls' h' => kk ls' H locs cells slots h' h2 h3 h4 h5 h6)
theorem j_dload_n (hG : wOk G own cc nL fr lo) (j : Nat) {i : Nat} {k : Fin 4} {x : UInt64} (d : decode cc pc = .ok (.dload_n k, 1)) (hi : (k : Nat) = i) (hl : lv[j]? = some (i, .double x)) (kk : J G nL kc ks (pc + 1) lv (.double x :: st) σ) : J G nL kc ks pc lv st σ :=
  fun ls H locs cells slots h1 h2 h3 h4 h5 h6 => lv_dload_n hG.1.1 hG.1.2.1 d hi (lv_at h1 j hl) (kk ls H locs cells slots h1 h2 h3 h4 h5 h6)
theorem j_dload (hG : wOk G own cc nL fr lo) (j : Nat) {i : Nat} {x : UInt64} (d : decode cc pc = .ok (.dload i, 2)) (hl : lv[j]? = some (i, .double x)) (kk : J G nL kc ks (pc + 2) lv (.double x :: st) σ) : J G nL kc ks pc lv st σ :=
  fun ls H locs cells slots h1 h2 h3 h4 h5 h6 => lv_dload hG.1.1 hG.1.2.1 d (lv_at h1 j hl) (kk ls H locs cells slots h1 h2 h3 h4 h5 h6)
theorem j_dstore_n (hG : wOk G own cc nL fr lo) {i : Nat} {k : Fin 4} {x : UInt64} {lv' : List (Nat × Value)} (d : decode cc pc = .ok (.dstore_n k, 1)) (hi : (k : Nat) = i) (hn : i + 1 < nL) (hl : (i, Value.double x) :: lv.filter (fun q => !(q.1 == i) && (!(q.1 == i + 1) && !(q.1 + 1 == i && q.2.category == 2))) = lv') (kk : J G nL kc ks (pc + 1) lv' st σ) : J G nL kc ks pc lv (.double x :: st) σ :=
  fun ls H locs cells slots h1 h2 h3 h4 h5 h6 => lv_dstore_n hG.1.1 hG.1.2.1 d hi h1 hn hl (fun ls' h' => kk ls' H locs cells slots h' h2 h3 h4 h5 h6)
theorem j_dstore (hG : wOk G own cc nL fr lo) {i : Nat} {x : UInt64} {lv' : List (Nat × Value)} (d : decode cc pc = .ok (.dstore i, 2)) (hn : i + 1 < nL) (hl : (i, Value.double x) :: lv.filter (fun q => !(q.1 == i) && (!(q.1 == i + 1) && !(q.1 + 1 == i && q.2.category == 2))) = lv') (kk : J G nL kc ks (pc + 2) lv' st σ) : J G nL kc ks pc lv (.double x :: st) σ :=
  fun ls H locs cells slots h1 h2 h3 h4 h5 h6 => lv_dstore hG.1.1 hG.1.2.1 d h1 hn hl (fun ls' h' => kk ls' H locs cells slots h' h2 h3 h4 h5 h6)
theorem j_iinc (hG : wOk G own cc nL fr lo) (j : Nat) {i : Nat} {n : Int} {x v : Int32} {lv' : List (Nat × Value)} (d : decode cc pc = .ok (.iinc i n, 3)) (hk : lv[j]? = some (i, .int x)) (hv : x + Int32.ofInt n = v) (hn : i < nL) (hl : (i, Value.int v) :: lv.filter (fun q => !(q.1 == i) && !(q.1 + 1 == i && q.2.category == 2)) = lv') (kk : J G nL kc ks (pc + 3) lv' st σ) : J G nL kc ks pc lv st σ :=
  fun ls H locs cells slots h1 h2 h3 h4 h5 h6 => lv_iinc hG.1.1 hG.1.2.1 d h1 hk hv hn hl (fun ls' h' => kk ls' H locs cells slots h' h2 h3 h4 h5 h6)
theorem j_iadd (hG : wOk G own cc nL fr lo) {x y : Int32} (d : decode cc pc = .ok (.iadd, 1)) (kk : J G nL kc ks (pc + 1) lv (.int (x + y) :: st) σ) : J G nL kc ks pc lv (.int y :: .int x :: st) σ :=
  fun ls H locs cells slots h1 h2 h3 h4 h5 h6 => lv_iadd hG.1.1 hG.1.2.1 d (kk ls H locs cells slots h1 h2 h3 h4 h5 h6)
theorem j_isub (hG : wOk G own cc nL fr lo) {x y : Int32} (d : decode cc pc = .ok (.isub, 1)) (kk : J G nL kc ks (pc + 1) lv (.int (x - y) :: st) σ) : J G nL kc ks pc lv (.int y :: .int x :: st) σ :=
  fun ls H locs cells slots h1 h2 h3 h4 h5 h6 => lv_isub hG.1.1 hG.1.2.1 d (kk ls H locs cells slots h1 h2 h3 h4 h5 h6)
theorem j_imul (hG : wOk G own cc nL fr lo) {x y : Int32} (d : decode cc pc = .ok (.imul, 1)) (kk : J G nL kc ks (pc + 1) lv (.int (x * y) :: st) σ) : J G nL kc ks pc lv (.int y :: .int x :: st) σ :=
  fun ls H locs cells slots h1 h2 h3 h4 h5 h6 => lv_imul hG.1.1 hG.1.2.1 d (kk ls H locs cells slots h1 h2 h3 h4 h5 h6)
theorem j_iand (hG : wOk G own cc nL fr lo) {x y : Int32} (d : decode cc pc = .ok (.iand, 1)) (kk : J G nL kc ks (pc + 1) lv (.int (x &&& y) :: st) σ) : J G nL kc ks pc lv (.int y :: .int x :: st) σ :=
  fun ls H locs cells slots h1 h2 h3 h4 h5 h6 => lv_iand hG.1.1 hG.1.2.1 d (kk ls H locs cells slots h1 h2 h3 h4 h5 h6)
theorem j_ior (hG : wOk G own cc nL fr lo) {x y : Int32} (d : decode cc pc = .ok (.ior, 1)) (kk : J G nL kc ks (pc + 1) lv (.int (x ||| y) :: st) σ) : J G nL kc ks pc lv (.int y :: .int x :: st) σ :=
  fun ls H locs cells slots h1 h2 h3 h4 h5 h6 => lv_ior hG.1.1 hG.1.2.1 d (kk ls H locs cells slots h1 h2 h3 h4 h5 h6)
theorem j_ixor (hG : wOk G own cc nL fr lo) {x y : Int32} (d : decode cc pc = .ok (.ixor, 1)) (kk : J G nL kc ks (pc + 1) lv (.int (x ^^^ y) :: st) σ) : J G nL kc ks pc lv (.int y :: .int x :: st) σ :=
  fun ls H locs cells slots h1 h2 h3 h4 h5 h6 => lv_ixor hG.1.1 hG.1.2.1 d (kk ls H locs cells slots h1 h2 h3 h4 h5 h6)
theorem j_ishl (hG : wOk G own cc nL fr lo) {x y : Int32} (d : decode cc pc = .ok (.ishl, 1)) (kk : J G nL kc ks (pc + 1) lv (.int (x <<< (y &&& 31)) :: st) σ) : J G nL kc ks pc lv (.int y :: .int x :: st) σ :=
  fun ls H locs cells slots h1 h2 h3 h4 h5 h6 => lv_ishl hG.1.1 hG.1.2.1 d (kk ls H locs cells slots h1 h2 h3 h4 h5 h6)
theorem j_ishr (hG : wOk G own cc nL fr lo) {x y : Int32} (d : decode cc pc = .ok (.ishr, 1)) (kk : J G nL kc ks (pc + 1) lv (.int (x >>> (y &&& 31)) :: st) σ) : J G nL kc ks pc lv (.int y :: .int x :: st) σ :=
  fun ls H locs cells slots h1 h2 h3 h4 h5 h6 => lv_ishr hG.1.1 hG.1.2.1 d (kk ls H locs cells slots h1 h2 h3 h4 h5 h6)
theorem j_lmul (hG : wOk G own cc nL fr lo) {x y : Int64} (d : decode cc pc = .ok (.lmul, 1)) (kk : J G nL kc ks (pc + 1) lv (.long (x * y) :: st) σ) : J G nL kc ks pc lv (.long y :: .long x :: st) σ :=
  fun ls H locs cells slots h1 h2 h3 h4 h5 h6 => lv_lmul hG.1.1 hG.1.2.1 d (kk ls H locs cells slots h1 h2 h3 h4 h5 h6)
theorem j_idiv (hG : wOk G own cc nL fr lo) {x y : Int32} (d : decode cc pc = .ok (.idiv, 1)) (hne : ¬ y = 0) (kk : J G nL kc ks (pc + 1) lv (.int (x / y) :: st) σ) : J G nL kc ks pc lv (.int y :: .int x :: st) σ :=
  fun ls H locs cells slots h1 h2 h3 h4 h5 h6 => lv_idiv hG.1.1 hG.1.2.1 d hne (kk ls H locs cells slots h1 h2 h3 h4 h5 h6)
theorem j_irem (hG : wOk G own cc nL fr lo) {x y : Int32} (d : decode cc pc = .ok (.irem, 1)) (hne : ¬ y = 0) (kk : J G nL kc ks (pc + 1) lv (.int (x - x / y * y) :: st) σ) : J G nL kc ks pc lv (.int y :: .int x :: st) σ :=
  fun ls H locs cells slots h1 h2 h3 h4 h5 h6 => lv_irem hG.1.1 hG.1.2.1 d hne (kk ls H locs cells slots h1 h2 h3 h4 h5 h6)
theorem j_ldiv (hG : wOk G own cc nL fr lo) {x y : Int64} (d : decode cc pc = .ok (.ldiv, 1)) (hne : ¬ y = 0) (kk : J G nL kc ks (pc + 1) lv (.long (x / y) :: st) σ) : J G nL kc ks pc lv (.long y :: .long x :: st) σ :=
  fun ls H locs cells slots h1 h2 h3 h4 h5 h6 => lv_ldiv hG.1.1 hG.1.2.1 d hne (kk ls H locs cells slots h1 h2 h3 h4 h5 h6)
theorem j_lcmp (hG : wOk G own cc nL fr lo) {x y : Int64} (d : decode cc pc = .ok (.lcmp, 1)) (kk : J G nL kc ks (pc + 1) lv (.int (lg_cmp x y) :: st) σ) : J G nL kc ks pc lv (.long y :: .long x :: st) σ :=
  fun ls H locs cells slots h1 h2 h3 h4 h5 h6 => W.lcmp hG.1.1 hG.1.2.1 d (kk ls H locs cells slots h1 h2 h3 h4 h5 h6)
theorem j_i2l (hG : wOk G own cc nL fr lo) {x : Int32} (d : decode cc pc = .ok (.i2l, 1)) (kk : J G nL kc ks (pc + 1) lv (.long x.toInt64 :: st) σ) : J G nL kc ks pc lv (.int x :: st) σ :=
  fun ls H locs cells slots h1 h2 h3 h4 h5 h6 => lv_i2l hG.1.1 hG.1.2.1 d rfl (kk ls H locs cells slots h1 h2 h3 h4 h5 h6)
theorem j_i2c (hG : wOk G own cc nL fr lo) {x : Int32} (d : decode cc pc = .ok (.i2c, 1)) (kk : J G nL kc ks (pc + 1) lv (.int (x.toUInt32 % 65536).toInt32 :: st) σ) : J G nL kc ks pc lv (.int x :: st) σ :=
  fun ls H locs cells slots h1 h2 h3 h4 h5 h6 => lv_i2c hG.1.1 hG.1.2.1 d rfl (kk ls H locs cells slots h1 h2 h3 h4 h5 h6)
theorem j_i2f (hG : wOk G own cc nL fr lo) {x : Int32} (d : decode cc pc = .ok (.i2f, 1)) (kk : J G nL kc ks (pc + 1) lv (.float (FP.i2f x) :: st) σ) : J G nL kc ks pc lv (.int x :: st) σ :=
  fun ls H locs cells slots h1 h2 h3 h4 h5 h6 => lv_i2f hG.1.1 hG.1.2.1 d (kk ls H locs cells slots h1 h2 h3 h4 h5 h6)
theorem j_i2d (hG : wOk G own cc nL fr lo) {x : Int32} (d : decode cc pc = .ok (.i2d, 1)) (kk : J G nL kc ks (pc + 1) lv (.double (FP.i2d x) :: st) σ) : J G nL kc ks pc lv (.int x :: st) σ :=
  fun ls H locs cells slots h1 h2 h3 h4 h5 h6 => lv_i2d hG.1.1 hG.1.2.1 d (kk ls H locs cells slots h1 h2 h3 h4 h5 h6)
theorem j_f2d (hG : wOk G own cc nL fr lo) {x : UInt32} (d : decode cc pc = .ok (.f2d, 1)) (hne : vf_n64 (FP.f2d x)) (kk : J G nL kc ks (pc + 1) lv (.double (FP.f2d x) :: st) σ) : J G nL kc ks pc lv (.float x :: st) σ :=
  fun ls H locs cells slots h1 h2 h3 h4 h5 h6 => lv_f2d hG.1.1 hG.1.2.1 d hne (kk ls H locs cells slots h1 h2 h3 h4 h5 h6)
theorem j_fdiv (hG : wOk G own cc nL fr lo) {x y : UInt32} (d : decode cc pc = .ok (.fdiv, 1)) (hne : vf_n32 (FP.fdiv x y)) (kk : J G nL kc ks (pc + 1) lv (.float (FP.fdiv x y) :: st) σ) : J G nL kc ks pc lv (.float y :: .float x :: st) σ :=
  fun ls H locs cells slots h1 h2 h3 h4 h5 h6 => lv_fdiv hG.1.1 hG.1.2.1 d hne (kk ls H locs cells slots h1 h2 h3 h4 h5 h6)
theorem j_ddiv (hG : wOk G own cc nL fr lo) {x y : UInt64} (d : decode cc pc = .ok (.ddiv, 1)) (hne : vf_n64 (FP.ddiv x y)) (kk : J G nL kc ks (pc + 1) lv (.double (FP.ddiv x y) :: st) σ) : J G nL kc ks pc lv (.double y :: .double x :: st) σ :=
  fun ls H locs cells slots h1 h2 h3 h4 h5 h6 => lv_ddiv hG.1.1 hG.1.2.1 d hne (kk ls H locs cells slots h1 h2 h3 h4 h5 h6)
theorem j_fcmp (hG : wOk G own cc nL fr lo) {x y : UInt32} {op : CmpOp} (d : decode cc pc = .ok (.fcmp op, 1)) (kk : J G nL kc ks (pc + 1) lv (.int (Op.cmpValue (FP.fcmp x y) op) :: st) σ) : J G nL kc ks pc lv (.float y :: .float x :: st) σ :=
  fun ls H locs cells slots h1 h2 h3 h4 h5 h6 => lv_fcmp hG.1.1 hG.1.2.1 d (kk ls H locs cells slots h1 h2 h3 h4 h5 h6)
theorem j_dcmp (hG : wOk G own cc nL fr lo) {x y : UInt64} {op : CmpOp} (d : decode cc pc = .ok (.dcmp op, 1)) (kk : J G nL kc ks (pc + 1) lv (.int (Op.cmpValue (FP.dcmp x y) op) :: st) σ) : J G nL kc ks pc lv (.double y :: .double x :: st) σ :=
  fun ls H locs cells slots h1 h2 h3 h4 h5 h6 => lv_dcmp hG.1.1 hG.1.2.1 d (kk ls H locs cells slots h1 h2 h3 h4 h5 h6)
theorem j_dup (hG : wOk G own cc nL fr lo) {va : Value} (d : decode cc pc = .ok (.dup, 1)) (hva : va.category = 1) (kk : J G nL kc ks (pc + 1) lv (va :: va :: st) σ) : J G nL kc ks pc lv (va :: st) σ :=
  fun ls H locs cells slots h1 h2 h3 h4 h5 h6 => lv_dup hG.1.1 hG.1.2.1 d hva (kk ls H locs cells slots h1 h2 h3 h4 h5 h6)
theorem j_pop (hG : wOk G own cc nL fr lo) {va : Value} (d : decode cc pc = .ok (.pop, 1)) (hva : va.category = 1) (kk : J G nL kc ks (pc + 1) lv (st) σ) : J G nL kc ks pc lv (va :: st) σ :=
  fun ls H locs cells slots h1 h2 h3 h4 h5 h6 => lv_pop hG.1.1 hG.1.2.1 d hva (kk ls H locs cells slots h1 h2 h3 h4 h5 h6)
theorem j_dup2 (hG : wOk G own cc nL fr lo) {va vb : Value} (d : decode cc pc = .ok (.dup2, 1)) (hva : va.category = 1) (hvb : vb.category = 1) (kk : J G nL kc ks (pc + 1) lv (va :: vb :: va :: vb :: st) σ) : J G nL kc ks pc lv (va :: vb :: st) σ :=
  fun ls H locs cells slots h1 h2 h3 h4 h5 h6 => lv_dup2_11 hG.1.1 hG.1.2.1 d hva hvb (kk ls H locs cells slots h1 h2 h3 h4 h5 h6)
variable {ρ : Type} {res : ρ}
/-- a part of a run's pure side that is there -/
def inb (i : Int32) (n : Nat) : Bool := !(decide (i < 0)) && decide (i.toNatClampNeg < n)
theorem inb_vp {i : Int32} {n : Nat} (h : inb i n = true) : vp_in i n := by
  simp only [inb, Bool.and_eq_true, Bool.not_eq_true', decide_eq_false_iff_not, decide_eq_true_eq] at h
  unfold vp_in
  exact fun q => q.elim h.1 (fun z => by omega)
def wget {ρ : Type} (n : Nat) (f : Nat → Int32) (i : Int32) (K : Int32 → Option ρ) : Option ρ := if inb i n = true then K (f i.toNatClampNeg) else none
def wput {ρ : Type} (X : wM) (k n : Nat) (i x : Int32) (K : wM → Option ρ) : Option ρ := if inb i n = true then K (updM X k (upd (X k) i.toNatClampNeg x)) else none
def wfld {ρ : Type} (X : wM) (k j : Nat) (x : Int32) (K : wM → Option ρ) : Option ρ := K (updM X k (upd (X k) j x))
def wbd {α ρ : Type} (a : α) (K : α → Option ρ) : Option ρ := K a
def wgd {ρ : Type} (c : Bool) (a : Option ρ) : Option ρ := if c = true then a else none
theorem wget_ok {n : Nat} {f : Nat → Int32} {i : Int32} {K : Int32 → Option ρ} (h : wget n f i K = some res) : vp_in i n ∧ K (f i.toNatClampNeg) = some res := by
  unfold wget at h
  split at h
  · rename_i g; exact ⟨inb_vp g, h⟩
  · cases h
theorem wput_ok {X : wM} {k n : Nat} {i x : Int32} {K : wM → Option ρ} (h : wput X k n i x K = some res) : vp_in i n ∧ K (updM X k (upd (X k) i.toNatClampNeg x)) = some res := by
  unfold wput at h
  split at h
  · rename_i g; exact ⟨inb_vp g, h⟩
  · cases h
theorem wgd_ok {c : Bool} {a : Option ρ} (h : wgd c a = some res) : c = true ∧ a = some res := by
  unfold wgd at h
  split at h
  · rename_i g; exact ⟨g, h⟩
  · cases h
theorem ob {α : Type} {o : Option α} {K : α → Option ρ} (h : o.bind K = some res) : ∃ y, o = some y ∧ K y = some res := Option.bind_eq_some_iff.mp h
theorem j_if_eq (hG : wOk G own cc nL fr lo) {x : Int32} {off : Int} {tgt : Nat} {A B : Option ρ} (d : decode cc pc = .ok (.ifCond .eq off, 3)) (ht : (pc : Int) + off = (tgt : Int)) (h : (if x = 0 then A else B) = some res) (kA : A = some res → J G nL kc ks tgt lv st σ) (kB : B = some res → J G nL kc ks (pc + 3) lv st σ) : J G nL kc ks pc lv (.int x :: st) σ :=
  fun ls H locs cells slots h1 h2 h3 h4 h5 h6 => lv_if_eq hG.1.1 hG.1.2.1 d ht (fun q => kA (by rw [if_pos q] at h; exact h) ls H locs cells slots h1 h2 h3 h4 h5 h6) (fun q => kB (by rw [if_neg q] at h; exact h) ls H locs cells slots h1 h2 h3 h4 h5 h6)
theorem j_if_ne (hG : wOk G own cc nL fr lo) {x : Int32} {off : Int} {tgt : Nat} {A B : Option ρ} (d : decode cc pc = .ok (.ifCond .ne off, 3)) (ht : (pc : Int) + off = (tgt : Int)) (h : (if x = 0 then A else B) = some res) (kA : A = some res → J G nL kc ks (pc + 3) lv st σ) (kB : B = some res → J G nL kc ks tgt lv st σ) : J G nL kc ks pc lv (.int x :: st) σ :=
  fun ls H locs cells slots h1 h2 h3 h4 h5 h6 => lv_if_ne hG.1.1 hG.1.2.1 d ht (fun q => kB (by rw [if_neg q] at h; exact h) ls H locs cells slots h1 h2 h3 h4 h5 h6) (fun q => kA (by rw [if_pos q] at h; exact h) ls H locs cells slots h1 h2 h3 h4 h5 h6)
theorem j_if_lt (hG : wOk G own cc nL fr lo) {x : Int32} {off : Int} {tgt : Nat} {A B : Option ρ} (d : decode cc pc = .ok (.ifCond .lt off, 3)) (ht : (pc : Int) + off = (tgt : Int)) (h : (if x < 0 then A else B) = some res) (kA : A = some res → J G nL kc ks tgt lv st σ) (kB : B = some res → J G nL kc ks (pc + 3) lv st σ) : J G nL kc ks pc lv (.int x :: st) σ :=
  fun ls H locs cells slots h1 h2 h3 h4 h5 h6 => lv_if_lt hG.1.1 hG.1.2.1 d ht (fun q => kA (by rw [if_pos q] at h; exact h) ls H locs cells slots h1 h2 h3 h4 h5 h6) (fun q => kB (by rw [if_neg q] at h; exact h) ls H locs cells slots h1 h2 h3 h4 h5 h6)
theorem j_if_ge (hG : wOk G own cc nL fr lo) {x : Int32} {off : Int} {tgt : Nat} {A B : Option ρ} (d : decode cc pc = .ok (.ifCond .ge off, 3)) (ht : (pc : Int) + off = (tgt : Int)) (h : (if x < 0 then A else B) = some res) (kA : A = some res → J G nL kc ks (pc + 3) lv st σ) (kB : B = some res → J G nL kc ks tgt lv st σ) : J G nL kc ks pc lv (.int x :: st) σ :=
  fun ls H locs cells slots h1 h2 h3 h4 h5 h6 => lv_if_ge hG.1.1 hG.1.2.1 d ht (fun q => kB (by rw [if_neg (Int32.not_lt.mpr q)] at h; exact h) ls H locs cells slots h1 h2 h3 h4 h5 h6) (fun q => kA (by rw [if_pos (Int32.not_le.mp q)] at h; exact h) ls H locs cells slots h1 h2 h3 h4 h5 h6)
theorem j_if_gt (hG : wOk G own cc nL fr lo) {x : Int32} {off : Int} {tgt : Nat} {A B : Option ρ} (d : decode cc pc = .ok (.ifCond .gt off, 3)) (ht : (pc : Int) + off = (tgt : Int)) (h : (if 0 < x then A else B) = some res) (kA : A = some res → J G nL kc ks tgt lv st σ) (kB : B = some res → J G nL kc ks (pc + 3) lv st σ) : J G nL kc ks pc lv (.int x :: st) σ :=
  fun ls H locs cells slots h1 h2 h3 h4 h5 h6 => lv_if_gt hG.1.1 hG.1.2.1 d ht (fun q => kA (by rw [if_pos q] at h; exact h) ls H locs cells slots h1 h2 h3 h4 h5 h6) (fun q => kB (by rw [if_neg q] at h; exact h) ls H locs cells slots h1 h2 h3 h4 h5 h6)
theorem j_if_le (hG : wOk G own cc nL fr lo) {x : Int32} {off : Int} {tgt : Nat} {A B : Option ρ} (d : decode cc pc = .ok (.ifCond .le off, 3)) (ht : (pc : Int) + off = (tgt : Int)) (h : (if 0 < x then A else B) = some res) (kA : A = some res → J G nL kc ks (pc + 3) lv st σ) (kB : B = some res → J G nL kc ks tgt lv st σ) : J G nL kc ks pc lv (.int x :: st) σ :=
  fun ls H locs cells slots h1 h2 h3 h4 h5 h6 => lv_if_le hG.1.1 hG.1.2.1 d ht (fun q => kB (by rw [if_neg (Int32.not_lt.mpr q)] at h; exact h) ls H locs cells slots h1 h2 h3 h4 h5 h6) (fun q => kA (by rw [if_pos (Int32.not_le.mp q)] at h; exact h) ls H locs cells slots h1 h2 h3 h4 h5 h6)
theorem j_icmp_eq (hG : wOk G own cc nL fr lo) {x y : Int32} {off : Int} {tgt : Nat} {A B : Option ρ} (d : decode cc pc = .ok (.if_icmp .eq off, 3)) (ht : (pc : Int) + off = (tgt : Int)) (h : (if x = y then A else B) = some res) (kA : A = some res → J G nL kc ks tgt lv st σ) (kB : B = some res → J G nL kc ks (pc + 3) lv st σ) : J G nL kc ks pc lv (.int y :: .int x :: st) σ :=
  fun ls H locs cells slots h1 h2 h3 h4 h5 h6 => lv_icmp_eq hG.1.1 hG.1.2.1 d ht (fun q => kA (by rw [if_pos q] at h; exact h) ls H locs cells slots h1 h2 h3 h4 h5 h6) (fun q => kB (by rw [if_neg q] at h; exact h) ls H locs cells slots h1 h2 h3 h4 h5 h6)
theorem j_icmp_ne (hG : wOk G own cc nL fr lo) {x y : Int32} {off : Int} {tgt : Nat} {A B : Option ρ} (d : decode cc pc = .ok (.if_icmp .ne off, 3)) (ht : (pc : Int) + off = (tgt : Int)) (h : (if x = y then A else B) = some res) (kA : A = some res → J G nL kc ks (pc + 3) lv st σ) (kB : B = some res → J G nL kc ks tgt lv st σ) : J G nL kc ks pc lv (.int y :: .int x :: st) σ :=
  fun ls H locs cells slots h1 h2 h3 h4 h5 h6 => lv_icmp_ne hG.1.1 hG.1.2.1 d ht (fun q => kB (by rw [if_neg q] at h; exact h) ls H locs cells slots h1 h2 h3 h4 h5 h6) (fun q => kA (by rw [if_pos q] at h; exact h) ls H locs cells slots h1 h2 h3 h4 h5 h6)
theorem j_icmp_lt (hG : wOk G own cc nL fr lo) {x y : Int32} {off : Int} {tgt : Nat} {A B : Option ρ} (d : decode cc pc = .ok (.if_icmp .lt off, 3)) (ht : (pc : Int) + off = (tgt : Int)) (h : (if x < y then A else B) = some res) (kA : A = some res → J G nL kc ks tgt lv st σ) (kB : B = some res → J G nL kc ks (pc + 3) lv st σ) : J G nL kc ks pc lv (.int y :: .int x :: st) σ :=
  fun ls H locs cells slots h1 h2 h3 h4 h5 h6 => lv_icmp_lt hG.1.1 hG.1.2.1 d ht (fun q => kA (by rw [if_pos q] at h; exact h) ls H locs cells slots h1 h2 h3 h4 h5 h6) (fun q => kB (by rw [if_neg q] at h; exact h) ls H locs cells slots h1 h2 h3 h4 h5 h6)
theorem j_icmp_ge (hG : wOk G own cc nL fr lo) {x y : Int32} {off : Int} {tgt : Nat} {A B : Option ρ} (d : decode cc pc = .ok (.if_icmp .ge off, 3)) (ht : (pc : Int) + off = (tgt : Int)) (h : (if x < y then A else B) = some res) (kA : A = some res → J G nL kc ks (pc + 3) lv st σ) (kB : B = some res → J G nL kc ks tgt lv st σ) : J G nL kc ks pc lv (.int y :: .int x :: st) σ :=
  fun ls H locs cells slots h1 h2 h3 h4 h5 h6 => lv_icmp_ge hG.1.1 hG.1.2.1 d ht (fun q => kB (by rw [if_neg (Int32.not_lt.mpr q)] at h; exact h) ls H locs cells slots h1 h2 h3 h4 h5 h6) (fun q => kA (by rw [if_pos (Int32.not_le.mp q)] at h; exact h) ls H locs cells slots h1 h2 h3 h4 h5 h6)
theorem j_icmp_gt (hG : wOk G own cc nL fr lo) {x y : Int32} {off : Int} {tgt : Nat} {A B : Option ρ} (d : decode cc pc = .ok (.if_icmp .gt off, 3)) (ht : (pc : Int) + off = (tgt : Int)) (h : (if y < x then A else B) = some res) (kA : A = some res → J G nL kc ks tgt lv st σ) (kB : B = some res → J G nL kc ks (pc + 3) lv st σ) : J G nL kc ks pc lv (.int y :: .int x :: st) σ :=
  fun ls H locs cells slots h1 h2 h3 h4 h5 h6 => lv_icmp_gt hG.1.1 hG.1.2.1 d ht (fun q => kA (by rw [if_pos q] at h; exact h) ls H locs cells slots h1 h2 h3 h4 h5 h6) (fun q => kB (by rw [if_neg q] at h; exact h) ls H locs cells slots h1 h2 h3 h4 h5 h6)
theorem j_icmp_le (hG : wOk G own cc nL fr lo) {x y : Int32} {off : Int} {tgt : Nat} {A B : Option ρ} (d : decode cc pc = .ok (.if_icmp .le off, 3)) (ht : (pc : Int) + off = (tgt : Int)) (h : (if y < x then A else B) = some res) (kA : A = some res → J G nL kc ks (pc + 3) lv st σ) (kB : B = some res → J G nL kc ks tgt lv st σ) : J G nL kc ks pc lv (.int y :: .int x :: st) σ :=
  fun ls H locs cells slots h1 h2 h3 h4 h5 h6 => lv_icmp_le hG.1.1 hG.1.2.1 d ht (fun q => kB (by rw [if_neg (Int32.not_lt.mpr q)] at h; exact h) ls H locs cells slots h1 h2 h3 h4 h5 h6) (fun q => kA (by rw [if_pos (Int32.not_le.mp q)] at h; exact h) ls H locs cells slots h1 h2 h3 h4 h5 h6)
theorem j_goto (hG : wOk G own cc nL fr lo) {off : Int} {tgt : Nat} (d : decode cc pc = .ok (.goto off, 3)) (ht : (pc : Int) + off = (tgt : Int)) (kk : J G nL kc ks tgt lv st σ) : J G nL kc ks pc lv st σ :=
  fun ls H locs cells slots h1 h2 h3 h4 h5 h6 => lv_goto hG.1.1 hG.1.2.1 d ht (kk ls H locs cells slots h1 h2 h3 h4 h5 h6)
/-- a table's reference that may be null -/
theorem j_ifnull (hG : wOk G own cc nL fr lo) {td : Nat → Nat} {o : Option Nat} {off : Int} {tgt : Nat} {A : Option ρ} {B : Nat → Option ρ} (d : decode cc pc = .ok (.ifnull off, 3)) (ht : (pc : Int) + off = (tgt : Int)) (h : (match o with | none => A | some i => B i) = some res) (kA : o = none → A = some res → J G nL kc ks tgt lv st σ) (kB : ∀ i, o = some i → B i = some res → J G nL kc ks (pc + 3) lv st σ) : J G nL kc ks pc lv (va_rf (o.map td) :: st) σ := by
  intro ls H locs cells slots h1 h2 h3 h4 h5 h6
  cases o with
  | none => exact lv_ifnullN hG.1.1 hG.1.2.1 d ht (kA rfl h ls H locs cells slots h1 h2 h3 h4 h5 h6)
  | some i => exact lv_ifnull hG.1.1 hG.1.2.1 d (kB i rfl h ls H locs cells slots h1 h2 h3 h4 h5 h6)
theorem j_ifnonnull (hG : wOk G own cc nL fr lo) {td : Nat → Nat} {o : Option Nat} {off : Int} {tgt : Nat} {A : Option ρ} {B : Nat → Option ρ} (d : decode cc pc = .ok (.ifnonnull off, 3)) (ht : (pc : Int) + off = (tgt : Int)) (h : (match o with | none => A | some i => B i) = some res) (kA : o = none → A = some res → J G nL kc ks (pc + 3) lv st σ) (kB : ∀ i, o = some i → B i = some res → J G nL kc ks tgt lv st σ) : J G nL kc ks pc lv (va_rf (o.map td) :: st) σ := by
  intro ls H locs cells slots h1 h2 h3 h4 h5 h6
  cases o with
  | none => exact lv_ifnonnullN hG.1.1 hG.1.2.1 d (kA rfl h ls H locs cells slots h1 h2 h3 h4 h5 h6)
  | some i => exact lv_ifnonnull hG.1.1 hG.1.2.1 d ht (kB i rfl h ls H locs cells slots h1 h2 h3 h4 h5 h6)
/-- a class of the world -/
def wCl (ci : Nat) (C : String) (T : u_T) (N : Nat) (ty : Nat → FieldType) : Prop := vwCl[ci]? = some (C, T, N) ∧ (∀ c ∈ u_ws C T N, c ∈ wTs) ∧ (∀ k, k < N → parseFieldDescriptor (T k).2.2.1 = some (ty k)) ∧ ∀ a, a < N → ∀ b, b < N → a ≠ b → (T a).2.1 ≠ (T b).2.1
theorem j_get (hG : wOk G own cc nL fr lo) {ci : Nat} {C : String} {T : u_T} {N : Nat} {ty : Nat → FieldType} (hc : wCl ci C T N ty) (k0 kf : Nat) {index a : Nat} {fs : List Value} {v : Value} (he : (wl (gB G) σ)[k0]? = some (a, .inr (ci, fs))) (hk : kf < N) (hl : Cond.fieldLink own index C (T kf).2.1 (T kf).2.2.1 ∈ wTs) (hd : (T kf).1 = C) (hv : fs[kf]? = some v) (d : decode cc pc = .ok (.getfield index, 3)) (kk : J G nL kc ks (pc + 3) lv (v :: st) σ) : J G nL kc ks pc lv (.ref a :: st) σ :=
  fun ls H locs cells slots h1 h2 h3 h4 h5 h6 => va_get hG.1.1 hG.1.2.1 (Ts := wTs) (fun c q => hG.word q) hc.2.1 hG.1.2.2.2.1 hG.2.1 h2 k0 he hc.1 kf hk (hG.word hl) (fun x q => by rw [← hd]; exact q) hv d (kk ls H locs cells slots h1 h2 h3 h4 h5 h6)
theorem j_putK (hG : wOk G own cc nL fr lo) {ci : Nat} {C : String} {T : u_T} {N : Nat} {ty : Nat → FieldType} (hc : wCl ci C T N ty) (k0 kf : Nat) {index a : Nat} {fs : List Value} {v : Value} {fty : FieldType} {σ' : wS} (he : (wl (gB G) σ)[k0]? = some (a, .inr (ci, fs))) (hk : kf < N) (hl : Cond.fieldLink own index C (T kf).2.1 (T kf).2.2.1 ∈ wTs) (hd : (T kf).1 = C) (hf : (T kf).2.2.2 = false) (hp : parseFieldDescriptor (T kf).2.2.1 = some fty) (hn : narrow fty v = v) (ht : fits fty v = true) (hlen : kf < fs.length) (hset : (wl (gB G) σ).set k0 (a, .inr (ci, fs.set kf v)) = wl (gB G) σ') (d : decode cc pc = .ok (.putfield index, 3)) (kk : J G nL kc ks (pc + 3) lv st σ') : J G nL kc ks pc lv (v :: .ref a :: st) σ :=
  fun ls H locs cells slots h1 h2 h3 h4 h5 h6 => va_put hG.1.1 hG.1.2.1 (Ts := wTs) (fun c q => hG.word q) hc.2.1 ty hc.2.2.1 hc.2.2.2 hG.1.2.2.2.1 hG.2.1 h2 h3 h4 k0 he hc.1 kf hk (hG.word hl) (fun x q => by rw [← hd]; exact q) hf hp hn ht hlen d (fun H1 locs1 g2 g3 g4 => kk ls H1 locs1 cells slots h1 (by rw [← hset]; exact g2) (by rw [← hset]; exact g3) g4 h5 h6)
/-- a field of int is written; X goes on under a new name -/
theorem j_put (hG : wOk G own cc nL fr lo) {ci : Nat} {C : String} {T : u_T} {N : Nat} {ty : Nat → FieldType} (hc : wCl ci C T N ty) (k0 kf : Nat) {index a : Nat} {fs : List Value} {x : Int32} {fty : FieldType} {X : wM} {k : Nat} {K : wM → Option ρ} (sf : wM → wS) (he : (wl (gB G) σ)[k0]? = some (a, .inr (ci, fs))) (hk : kf < N) (hl : Cond.fieldLink own index C (T kf).2.1 (T kf).2.2.1 ∈ wTs) (hd : (T kf).1 = C) (hf : (T kf).2.2.2 = false) (hp : parseFieldDescriptor (T kf).2.2.1 = some fty) (hn : narrow fty (.int x) = .int x) (ht : fits fty (.int x) = true) (hlen : kf < fs.length) (hset : (wl (gB G) σ).set k0 (a, .inr (ci, fs.set kf (.int x))) = wl (gB G) (sf (updM X k (upd (X k) kf x)))) (h : wfld X k kf x K = some res) (d : decode cc pc = .ok (.putfield index, 3)) (kk : ∀ X', K X' = some res → J G nL kc ks (pc + 3) lv st (sf X')) : J G nL kc ks pc lv (.int x :: .ref a :: st) σ :=
  j_putK hG hc k0 kf he hk hl hd hf hp hn ht hlen hset d (kk _ h)
theorem j_iald (hG : wOk G own cc nL fr lo) (k0 : Nat) {a n : Nat} {f : Nat → Int32} {i : Int32} {K : Int32 → Option ρ} (he : (wl (gB G) σ)[k0]? = some (a, .inl (wdA (gB G) 0, n, .inl f))) (h : wget n f i K = some res) (d : decode cc pc = .ok (.iaload, 1)) (kk : ∀ v, K v = some res → J G nL kc ks (pc + 1) lv (.int v :: st) σ) : J G nL kc ks pc lv (.int i :: .ref a :: st) σ :=
  fun ls H locs cells slots h1 h2 h3 h4 h5 h6 => va_iald hG.1.1 hG.1.2.1 hG.2.1 h2 k0 0 he rfl (wget_ok h).1 d (kk _ (wget_ok h).2 ls H locs cells slots h1 h2 h3 h4 h5 h6)
theorem j_zald (hG : wOk G own cc nL fr lo) (k0 : Nat) {a n : Nat} {f : Nat → Int32} {i : Int32} {K : Int32 → Option ρ} (he : (wl (gB G) σ)[k0]? = some (a, .inl (wdA (gB G) 1, n, .inl f))) (h : wget n f i K = some res) (d : decode cc pc = .ok (.baload, 1)) (kk : ∀ v, K v = some res → J G nL kc ks (pc + 1) lv (.int v :: st) σ) : J G nL kc ks pc lv (.int i :: .ref a :: st) σ :=
  fun ls H locs cells slots h1 h2 h3 h4 h5 h6 => va_zald hG.1.1 hG.1.2.1 hG.2.1 h2 k0 1 he rfl (wget_ok h).1 d (kk _ (wget_ok h).2 ls H locs cells slots h1 h2 h3 h4 h5 h6)
theorem j_cald (hG : wOk G own cc nL fr lo) (k0 : Nat) {a n : Nat} {f : Nat → Int32} {i : Int32} {K : Int32 → Option ρ} (he : (wl (gB G) σ)[k0]? = some (a, .inl (wdA (gB G) 2, n, .inl f))) (h : wget n f i K = some res) (d : decode cc pc = .ok (.caload, 1)) (kk : ∀ v, K v = some res → J G nL kc ks (pc + 1) lv (.int v :: st) σ) : J G nL kc ks pc lv (.int i :: .ref a :: st) σ :=
  fun ls H locs cells slots h1 h2 h3 h4 h5 h6 => va_cald hG.1.1 hG.1.2.1 hG.2.1 h2 k0 2 he rfl (wget_ok h).1 d (kk _ (wget_ok h).2 ls H locs cells slots h1 h2 h3 h4 h5 h6)
theorem j_iast (hG : wOk G own cc nL fr lo) (k0 : Nat) {a n k : Nat} {i x : Int32} {X : wM} {K : wM → Option ρ} (sf : wM → wS) (he : (wl (gB G) σ)[k0]? = some (a, .inl (wdA (gB G) 0, n, .inl (X k)))) (hset : ∀ g, (wl (gB G) σ).set k0 (a, .inl (wdA (gB G) 0, n, .inl g)) = wl (gB G) (sf (updM X k g))) (h : wput X k n i x K = some res) (d : decode cc pc = .ok (.iastore, 1)) (kk : ∀ X', K X' = some res → J G nL kc ks (pc + 1) lv st (sf X')) : J G nL kc ks pc lv (.int x :: .int i :: .ref a :: st) σ :=
  fun ls H locs cells slots h1 h2 h3 h4 h5 h6 => va_iast hG.1.1 hG.1.2.1 hG.2.1 h2 h3 h4 k0 0 he rfl (wput_ok h).1 d (fun H1 locs1 g2 g3 g4 => kk _ (wput_ok h).2 ls H1 locs1 cells slots h1 (by rw [← hset]; exact g2) (by rw [← hset]; exact g3) g4 h5 h6)
theorem j_zast (hG : wOk G own cc nL fr lo) (k0 : Nat) {a n k : Nat} {i x : Int32} {X : wM} {K : wM → Option ρ} (sf : wM → wS) (he : (wl (gB G) σ)[k0]? = some (a, .inl (wdA (gB G) 1, n, .inl (X k)))) (hset : ∀ g, (wl (gB G) σ).set k0 (a, .inl (wdA (gB G) 1, n, .inl g)) = wl (gB G) (sf (updM X k g))) (h : wput X k n i (vp_nar .boolean x) K = some res) (d : decode cc pc = .ok (.bastore, 1)) (kk : ∀ X', K X' = some res → J G nL kc ks (pc + 1) lv st (sf X')) : J G nL kc ks pc lv (.int x :: .int i :: .ref a :: st) σ :=
  fun ls H locs cells slots h1 h2 h3 h4 h5 h6 => va_zast hG.1.1 hG.1.2.1 hG.2.1 h2 h3 h4 k0 1 he rfl (wput_ok h).1 d (fun H1 locs1 g2 g3 g4 => kk _ (wput_ok h).2 ls H1 locs1 cells slots h1 (by rw [← hset]; exact g2) (by rw [← hset]; exact g3) g4 h5 h6)
theorem j_cast (hG : wOk G own cc nL fr lo) (k0 : Nat) {a n k : Nat} {i x : Int32} {X : wM} {K : wM → Option ρ} (sf : wM → wS) (he : (wl (gB G) σ)[k0]? = some (a, .inl (wdA (gB G) 2, n, .inl (X k)))) (hset : ∀ g, (wl (gB G) σ).set k0 (a, .inl (wdA (gB G) 2, n, .inl g)) = wl (gB G) (sf (updM X k g))) (h : wput X k n i (vp_nar .char x) K = some res) (d : decode cc pc = .ok (.castore, 1)) (kk : ∀ X', K X' = some res → J G nL kc ks (pc + 1) lv st (sf X')) : J G nL kc ks pc lv (.int x :: .int i :: .ref a :: st) σ :=
  fun ls H locs cells slots h1 h2 h3 h4 h5 h6 => va_cast hG.1.1 hG.1.2.1 hG.2.1 h2 h3 h4 k0 2 he rfl (wput_ok h).1 d (fun H1 locs1 g2 g3 g4 => kk _ (wput_ok h).2 ls H1 locs1 cells slots h1 (by rw [← hset]; exact g2) (by rw [← hset]; exact g3) g4 h5 h6)
/-- the class's tables: the i-th, or null -/
theorem j_aald (hG : wOk G own cc nL fr lo) {X Y : wM} {o : Int64} {dd : UInt64} {td : wX} {i : Int32} {K : Option Nat → Option ρ} (h : (if inb i 8 = true then K (if i.toNatClampNeg < wT X then some i.toNatClampNeg else none) else none) = some res) (d : decode cc pc = .ok (.aaload, 1)) (kk : ∀ v, K v = some res → J G nL kc ks (pc + 1) lv (va_rf (v.map (fun i => td.1 (4 * i))) :: st) (X, Y, o, dd, td)) : J G nL kc ks pc lv (.int i :: .ref (wad (gB G) 21) :: st) (X, Y, o, dd, td) := by
  intro ls H locs cells slots h1 h2 h3 h4 h5 h6
  have hin : inb i 8 = true := by
    by_cases q : inb i 8 = true
    · exact q
    · rw [if_neg q] at h; cases h
  rw [if_pos hin] at h
  refine va_aldq hG.1.1 hG.1.2.1 hG.2.1 h2 21 3 (C := "CensusLoom$Table") (cv_21 _ X Y o dd td) rfl (inb_vp hin) d ?_
  have h9 := kk _ h ls H locs cells slots h1 h2 h3 h4 h5 h6
  rw [show (if i.toNatClampNeg < wT X then some i.toNatClampNeg else none).map (fun i => td.1 (4 * i)) = wTf X td.1 i.toNatClampNeg by unfold wTf; split <;> rfl] at h9
  exact h9
theorem j_alen (hG : wOk G own cc nL fr lo) (k0 t0 : Nat) {a : Nat} {ty : FieldType} {x : vp_A} {v : Int32} {cA : ClassId} (he : (wl (gB G) σ)[k0]? = some (a, .inl (cA, x))) (ht : (wty (gB G))[t0]? = some (cA, ty)) (hv : Int32.ofNat x.1 = v) (d : decode cc pc = .ok (.arraylength, 1)) (kk : J G nL kc ks (pc + 1) lv (.int v :: st) σ) : J G nL kc ks pc lv (.ref a :: st) σ :=
  fun ls H locs cells slots h1 h2 h3 h4 h5 h6 => va_alen hG.1.1 hG.1.2.1 hG.2.1 h2 k0 t0 he ht hv d (kk ls H locs cells slots h1 h2 h3 h4 h5 h6)
/-- the law's answer cells -/
theorem vp_in_0 : vp_in 0 1 := inb_vp rfl
theorem z_cl : (0 : Int32).toNatClampNeg = 0 := by decide
theorem j_last (hG : wOk G own cc nL fr lo) {X Y : wM} {o : Int64} {dd : UInt64} {td : wX} {v : Int64} (d : decode cc pc = .ok (.lastore, 1)) (kk : J G nL kc ks (pc + 1) lv st (X, Y, v, dd, td)) : J G nL kc ks pc lv (.long v :: .int 0 :: .ref (wad (gB G) 37) :: st) (X, Y, o, dd, td) := by
  intro ls H locs cells slots h1 h2 h3 h4 h5 h6
  refine va_last hG.1.1 hG.1.2.1 hG.2.1 h2 h3 h4 37 5 (cv_37 _ X Y o dd td) rfl vp_in_0 d (fun H1 locs1 g2 g3 g4 => ?_)
  rw [z_cl, wo1_set, cs_37] at g2 g3
  exact kk ls H1 locs1 cells slots h1 g2 g3 g4 h5 h6
theorem j_dast (hG : wOk G own cc nL fr lo) {X Y : wM} {o : Int64} {dd : UInt64} {td : wX} {v : UInt64} (d : decode cc pc = .ok (.dastore, 1)) (kk : J G nL kc ks (pc + 1) lv st (X, Y, o, v, td)) : J G nL kc ks pc lv (.double v :: .int 0 :: .ref (wad (gB G) 38) :: st) (X, Y, o, dd, td) := by
  intro ls H locs cells slots h1 h2 h3 h4 h5 h6
  refine va_dast hG.1.1 hG.1.2.1 hG.2.1 h2 h3 h4 38 6 (cv_38 _ X Y o dd td) rfl vp_in_0 d (fun H1 locs1 g2 g3 g4 => ?_)
  rw [z_cl, wo2_set, cs_38] at g2 g3
  exact kk ls H1 locs1 cells slots h1 g2 g3 g4 h5 h6
theorem j_lald (hG : wOk G own cc nL fr lo) {X Y : wM} {o : Int64} {dd : UInt64} {td : wX} (d : decode cc pc = .ok (.laload, 1)) (kk : J G nL kc ks (pc + 1) lv (.long o :: st) (X, Y, o, dd, td)) : J G nL kc ks pc lv (.int 0 :: .ref (wad (gB G) 37) :: st) (X, Y, o, dd, td) :=
  fun ls H locs cells slots h1 h2 h3 h4 h5 h6 => va_lald hG.1.1 hG.1.2.1 hG.2.1 h2 37 5 (cv_37 _ X Y o dd td) rfl vp_in_0 d (kk ls H locs cells slots h1 h2 h3 h4 h5 h6)
theorem j_dald (hG : wOk G own cc nL fr lo) {X Y : wM} {o : Int64} {dd : UInt64} {td : wX} (d : decode cc pc = .ok (.daload, 1)) (kk : J G nL kc ks (pc + 1) lv (.double dd :: st) (X, Y, o, dd, td)) : J G nL kc ks pc lv (.int 0 :: .ref (wad (gB G) 38) :: st) (X, Y, o, dd, td) :=
  fun ls H locs cells slots h1 h2 h3 h4 h5 h6 => va_dald hG.1.1 hG.1.2.1 hG.2.1 h2 38 6 (cv_38 _ X Y o dd td) rfl vp_in_0 d (kk ls H locs cells slots h1 h2 h3 h4 h5 h6)
theorem j_iret (hG : wOk G own cc nL fr lo) {RP : Option Value → wS → Prop} {XP : String → wS → Prop} (hE : wEnd G (some .int) RP XP) {v : Int32} (h : RP (some (.int v)) σ) (d : decode cc pc = .ok (.ireturn, 1)) : J G nL kc ks pc lv [.int v] σ := by
  intro ls H locs cells slots h1 h2 h3 h4 h5 h6
  rw [hE.2]
  exact W.widen (by omega) (by omega) (vx_ret (W.iret hG.1.1 hG.1.2.1 hE.1 (fun t ht hW => ⟨⟨_, σ, rfl, h, by rw [ht]; exact h2, h3⟩, h4.F ht⟩) h4.2.2 d hG.2.2.2.2.2.1))
theorem j_zret (hG : wOk G own cc nL fr lo) {RP : Option Value → wS → Prop} {XP : String → wS → Prop} {ty : FieldType} (hE : wEnd G (some ty) RP XP) {v : Int32} (hn : narrow ty (.int v) = .int v) (h : RP (some (.int v)) σ) (d : decode cc pc = .ok (.ireturn, 1)) : J G nL kc ks pc lv [.int v] σ := by
  intro ls H locs cells slots h1 h2 h3 h4 h5 h6
  rw [hE.2]
  exact W.widen (by omega) (by omega) (vx_ret (W.zret hG.1.1 hG.1.2.1 hE.1 hn (fun t ht hW => ⟨⟨_, σ, rfl, h, by rw [ht]; exact h2, h3⟩, h4.F ht⟩) h4.2.2 d hG.2.2.2.2.2.1))
theorem j_vret (hG : wOk G own cc nL fr lo) {RP : Option Value → wS → Prop} {XP : String → wS → Prop} (hE : wEnd G none RP XP) (h : RP none σ) (d : decode cc pc = .ok (.return_, 1)) : J G nL kc ks pc lv [] σ := by
  intro ls H locs cells slots h1 h2 h3 h4 h5 h6
  rw [hE.2]
  exact W.widen (by omega) (by omega) (vx_ret (W.vret hG.1.1 hG.1.2.1 hE.1 (fun t ht hW => ⟨⟨_, σ, rfl, h, by rw [ht]; exact h2, h3⟩, h4.F ht⟩) h4.2.2 d hG.2.2.2.2.2.1))
theorem j_aret (hG : wOk G own cc nL fr lo) {RP : Option Value → wS → Prop} {XP : String → wS → Prop} {n : String} (hE : wEnd G (some (.object n)) RP XP) {a : Nat} (h : RP (some (.ref a)) σ) (d : decode cc pc = .ok (.areturn, 1)) : J G nL kc ks pc lv [.ref a] σ := by
  intro ls H locs cells slots h1 h2 h3 h4 h5 h6
  rw [hE.2]
  exact W.widen (by omega) (by omega) (vx_ret (W.aret hG.1.1 hG.1.2.1 hE.1 (Or.inl ⟨n, rfl⟩) (Or.inr ⟨a, rfl⟩) (fun t ht hW => ⟨⟨_, σ, rfl, h, by rw [ht]; exact h2, h3⟩, h4.F ht⟩) h4.2.2 d hG.2.2.2.2.2.1))
theorem wOk.pre (hG : wOk G own cc nL fr lo) {H : Heap} {locs : List Loc} {σ : wS} (h2 : va_P (wdG (gB G)) vwCl (wl (gB G) σ) H) (h3 : va_D (wA (gB G)) (wl (gB G) σ)) (h4 : va_S (wA (gB G)) (gs G).heap H locs) {U : State} (hU : U.heap = H) (hW : (gs G).WarmedH U.vm) : wPre (gB G) σ U := by
  obtain ⟨hA, hK, hl, hE, hb, -⟩ := hG
  refine ⟨by rw [hU]; exact h2, va_K.moved hW.alike hK, h3, wW.warm hW hA.2.2.2.2, wE.warm hW (fun a q1 q2 => by rw [hU]; exact h4.2.1 a q1 q2) hE, ?_⟩
  rw [hU]
  exact Nat.le_trans hb h4.1
/-- any call -/
theorem j_run {mc ms : Nat} {RP : Option Value → wS → Prop} {XP : String → wS → Prop} {rest : List Value} {a : Array Value} (hr : ∀ (ls : Array Slot) (H : Heap) (locs : List Loc) (cells slots : Nat), lv_has ls nL lv → va_P (wdG (gB G)) vwCl (wl (gB G) σ) H → va_D (wA (gB G)) (wl (gB G) σ) → va_S (wA (gB G)) (gs G).heap H locs → cells + (kc + mc) ≤ gmc G → slots + (ks + ms) ≤ gms G →
      vx_Run (gp G) (gl G) (ge G) (gR G) (gs G) (gm G) (ga G) (gbl G) (gme G) (gc G) H locs cells slots mc ms (F0 (gm G) pc ls st) rest (wQc (gB G) RP a) (wXC (gB G) XP) (wA (gB G)))
    (kk : ∀ v σ', RP v σ' → J G nL kc ks (pc + 3) lv (v.toList ++ rest) σ') (kx : ∀ E σ', XP E σ' → JX G nL kc ks pc lv σ' E) : J G nL (kc + mc) (ks + ms) pc lv st σ := by
  intro ls H locs cells slots h1 h2 h3 h4 h5 h6
  intro T hT X
  rcases hr ls H locs cells slots h1 h2 h3 h4 h5 h6 T hT X with ⟨v, st₀, t, T', L, h0, X', hL, e1, e2, ⟨⟨v', σ', hv, hp, hPo⟩, hF⟩, g⟩ | ⟨q, st₀, t, T', L, E, ce, h0, X', hL, e1, e2, ⟨⟨σ', hp, hPo⟩, hF⟩, hce, hcv, hcl, g⟩
  · cases hv
    obtain ⟨k1, k2, k3⟩ := vx_keep h0 e1 h4 (fun _ _ z => z) (fun _ z => z) hL hF
    obtain ⟨t2, a1, b1⟩ := kk v σ' hp ls T'.heap (locs ++ L) (cells + mc) (slots + ms) h1 (by rw [e1]; exact hPo.1) hPo.2 k3 (by omega) (by omega) T' rfl X'
    exact ⟨t2, g t2 a1, b1⟩
  · obtain ⟨k1, k2, k3⟩ := vx_keep h0 e1 h4 (fun _ _ z => z) (fun _ z => z) hL hF
    obtain ⟨t2, a1, b1⟩ := kx E σ' hp ls T'.heap (locs ++ L) (cells + mc) (slots + ms) rest ce q h1 (by rw [e1]; exact hPo.1) hPo.2 k3 (by omega) (by omega) (by rw [e1]; exact hce) hcv hcl T' rfl X'
    exact ⟨t2, g.trans a1, b1⟩
/-- a method's own facts of the tables -/
def wMF (y : MethodName) (cc : ByteArray) (nL : Nat) (ret : Option FieldType) (n : Nat) : Prop := (y.cls ≠ "java/lang/invoke/MethodHandle" ∧ y.cls ≠ "java/lang/invoke/VarHandle") ∧ (parseMethodDescriptor y.desc).map (fun d => d.parameters.length) = some n ∧ Cond.code y cc nL ret ∈ wTs ∧ Cond.initialized y.cls ∈ wTs
def wMFv (y : MethodName) (cc : ByteArray) (nL : Nat) (ret : Option FieldType) (n : Nat) : Prop := wMF y cc nL ret n ∧ Cond.instanceMethod y ∈ wTs ∧ Cond.selects y.cls y y ∈ wTs
def wMFs (y : MethodName) (cc : ByteArray) (nL : Nat) (ret : Option FieldType) (n : Nat) : Prop := wMF y cc nL ret n ∧ Cond.static y ∈ wTs
theorem wMF.cb (hG : wOk G own cc nL fr lo) {y : MethodName} {cc' : ByteArray} {nL' n mc ms fr' lo' index : Nat} {ret : Option FieldType} (mf : wMF y cc' nL' ret n) (ml : Cond.methodLink own index y ∈ wTs) (hfr : fr' + 1 ≤ fr) (hlo : 8 + (nL' + 11) + lo' ≤ lo) : CallB (gR G) (gs G) (ga G) own index y cc' nL' ret [.code y cc' nL' ret] { frames := fr', cells := mc, slots := ms, locals := lo' } mc ms n := by
  obtain ⟨hn, hp, hc, hi⟩ := mf
  refine ⟨rfl, rfl, Nat.le_trans hfr hG.2.2.2.2.2.2.1, Nat.le_trans hlo hG.2.2.2.2.2.2.2.1, fun c hm a' U hW => ?_, List.mem_cons_self, hG.word hc, hG.word hi, hn, fun sig h => ?_, hG.word ml⟩
  · rw [List.mem_singleton.mp hm]
    exact wgood_at (List.mem_filter.mp hc).2 hW (hG.1.2.2.2.2 _ hc _)
  · rw [h] at hp
    exact (Option.some.inj hp).symm
theorem j_callV (hG : wOk G own cc nL fr lo) {y : MethodName} {cc' : ByteArray} {nL' n mc ms fr' lo' index : Nat} {ret : Option FieldType} {b : Addr} {As rest : List Value} {RP : Option Value → wS → Prop} {XP : String → wS → Prop} (ct : wMet (gl G) (gB G) y cc' nL' ret fr' lo' mc ms (.ref b :: As) σ RP XP) (mf : wMFv y cc' nL' ret n) (ml : Cond.methodLink own index y ∈ wTs)
    (k0 : Nat) {ci N : Nat} {T : u_T} {fs : List Value} (he : (wl (gB G) σ)[k0]? = some (b, .inr (ci, fs))) (hc : vwCl[ci]? = some (y.cls, T, N)) (hn : As.length = n) (hst : st = As.reverse ++ .ref b :: rest) (hroom : (rest.map fun v => v.category).sum ≤ 8) (d : decode cc pc = .ok (.invokevirtual index, 3)) (hfr : fr' + 1 ≤ fr) (hlo : 8 + (nL' + 11) + lo' ≤ lo)
    (kk : ∀ v σ', RP v σ' → J G nL kc ks (pc + 3) lv (v.toList ++ rest) σ') (kx : ∀ E σ', XP E σ' → JX G nL kc ks pc lv σ' E) : J G nL (kc + mc) (ks + ms) pc lv st σ := by
  refine j_run (a := (Value.ref b :: As).toArray) (fun ls H locs cells slots h1 h2 h3 h4 h5 h6 => ?_) kk kx
  exact vx_runV (Ts := []) (rest := rest) ⟨hG.1.1, hG.1.2.1, hG.1.2.2.1, hG.1.2.2.2.1, fun c q => absurd q List.not_mem_nil⟩ ct ⟨mf.1.cb hG ml hfr hlo, hG.word mf.2.1, hG.word mf.2.2⟩ ⟨wPre.blind, va_recv hG.2.1 h2 hc he, fun U hU hW => ⟨rfl, hG.pre h2 h3 h4 hU hW⟩⟩ rfl hn h1.1 hst (lv_room hroom) d ⟨by have := hG.2.2.2.2.2.2.2.2.1; omega, by have := hG.2.2.2.2.2.2.2.2.2; omega⟩
theorem j_callS (hG : wOk G own cc nL fr lo) {y : MethodName} {cc' : ByteArray} {nL' n mc ms fr' lo' index : Nat} {ret : Option FieldType} {As rest : List Value} {RP : Option Value → wS → Prop} {XP : String → wS → Prop} (ct : wMet (gl G) (gB G) y cc' nL' ret fr' lo' mc ms As σ RP XP) (mf : wMFs y cc' nL' ret n) (ml : Cond.methodLink own index y ∈ wTs)
    (hn : As.length = n) (hst : st = As.reverse ++ rest) (hroom : (rest.map fun v => v.category).sum ≤ 8) (d : decode cc pc = .ok (.invokestatic index, 3)) (hfr : fr' + 1 ≤ fr) (hlo : 8 + (nL' + 11) + lo' ≤ lo)
    (kk : ∀ v σ', RP v σ' → J G nL kc ks (pc + 3) lv (v.toList ++ rest) σ') (kx : ∀ E σ', XP E σ' → JX G nL kc ks pc lv σ' E) : J G nL (kc + mc) (ks + ms) pc lv st σ := by
  refine j_run (a := As.toArray) (fun ls H locs cells slots h1 h2 h3 h4 h5 h6 => ?_) kk kx
  exact vx_runS (Ts := []) (rest := rest) ⟨hG.1.1, hG.1.2.1, hG.1.2.2.1, hG.1.2.2.2.1, fun c q => absurd q List.not_mem_nil⟩ ct ⟨mf.1.cb hG ml hfr hlo, hG.word mf.2⟩ ⟨wPre.blind, fun U hU hW => ⟨rfl, hG.pre h2 h3 h4 hU hW⟩⟩ rfl hn h1.1 hst (lv_room hroom) d ⟨by have := hG.2.2.2.2.2.2.2.2.1; omega, by have := hG.2.2.2.2.2.2.2.2.2; omega⟩
/-- an exception that passes on to the caller -/
theorem jx_out (hG : wOk G own cc nL fr lo) {ret : Option FieldType} {RP : Option Value → wS → Prop} {XP : String → wS → Prop} (hE : wEnd G ret RP XP) (hT : wNoTab G) {E : String} (h : XP E σ) : JX G nL kc ks pc lv σ E := by
  intro ls H locs cells slots rest ce q h1 h2 h3 h4 h5 h6 hce hcv hcl
  rw [hE.2]
  exact vx_out (fun x hx => (hT x hx).elim) hG.2.2.2.2.2.1 hce hcv hcl (fun t ht hal => ⟨⟨σ, h, by rw [ht]; exact h2, h3⟩, h4.F ht⟩) h4.2.2 (by omega) (by omega)
/-- what 'throw new E(text)' needs of the tables -/
def wTF (own cls text : String) (names : List String) (ik is ic i : Nat) : Prop := (Bundle.fit cls = true ∧ ∀ n ∈ names, Bundle.fit n = true) ∧ Cond.classLink own ik cls ∈ wTs ∧ Cond.initialized cls ∈ wTs ∧ (∀ c ∈ vx_atS own ic cls names, c ∈ wTs) ∧ wStrs[i]? = some (own, is, text)
theorem wTs_ot {c : Cond} (h : c ∈ wTs) : vx_ot c = true := by
  have g := (List.mem_filter.mp h).2
  unfold vx_ot
  cases c <;> first | rfl | (simp [wgood, Cond.onTables] at g; done) | (simp [Cond.onTables]; done)
theorem j_throwS (hG : wOk G own cc nL fr lo) {ret : Option FieldType} {RP : Option Value → wS → Prop} {XP : String → wS → Prop} (hE : wEnd G ret RP XP) (hT : wNoTab G) {cls text : String} {names : List String} {ik is ic i : Nat} (tf : wTF own cls text names ik is ic i)
    (d0 : decode cc pc = .ok (.new ik, 3)) (d3 : decode cc (pc + 3) = .ok (.dup, 1)) (d4 : decode cc (pc + 4) = .ok (.ldc is, 2)) (d6 : decode cc (pc + 6) = .ok (.invokespecial ic, 3)) (d9 : decode cc (pc + 9) = .ok (.athrow, 1)) (hfr : names.length + 3 < fr) (hlo : (st.map fun v => v.category).sum + (13 * (names.length + 1) + 43) ≤ lo) (h : XP cls σ) : J G nL (kc + 1) (ks + 6) pc lv st σ := by
  intro ls H locs cells slots h1 h2 h3 h4 h5 h6
  have r1 := hG.2.2.2.2.2.2.1
  have r2 := hG.2.2.2.2.2.2.2.1
  have r3 := hG.2.2.2.2.2.2.2.2.1
  have r4 := hG.2.2.2.2.2.2.2.2.2
  rw [hE.2]
  obtain ⟨⟨f1, f2⟩, f3, f4, f5, f6⟩ := tf
  refine vx_throwS hG.1.1 hG.1.2.1 hG.2.2.1 (own := own) (cls := cls) (text := text) (names := names) (A := wA (gB G)) hG.1.2.2.2.1 f1 f2 (hG.word f3) (hG.word f4) (hG.2.2.2.1.2.2.1 i _ f6) (fun c q => hG.word (f5 c q)) (fun c q => ?_) hG.2.2.2.1.1 hG.2.2.2.1.2.1 h4 (h1.1.trans hG.1.2.2.1.symm) d0 d3 d4 d6 d9 (fun x hx => (hT x hx).elim) (by omega) (by omega) (by omega) (by omega) hG.2.2.2.2.2.1 (fun t hal hz hk => ⟨⟨σ, h, h2.kept (fun k q hq => hk _ ((h2 k q hq).lt)), h3⟩, Nat.le_trans h4.1 hz, fun q q1 q2 => (hk q (Nat.lt_of_lt_of_le q1 h4.1)).trans (h4.2.1 q q1 q2)⟩) h4.2.2 (by omega) (by omega)
  rcases List.mem_cons.mp q with rfl | q
  · exact wTs_ot f3
  · rcases List.mem_cons.mp q with rfl | q
    · exact wTs_ot f4
    · exact wTs_ot (f5 c q)
end JR
