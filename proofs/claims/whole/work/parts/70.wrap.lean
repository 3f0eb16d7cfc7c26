/-! the law's own callers -/
def wMetH (l : Launch) (B : wB) (y : MethodName) (cc : ByteArray) (nL : Nat) (ret : Option FieldType) (hh : List (Nat × Nat × Nat × Nat)) (fr lo mc ms : Nat) (As : List Value) (σ : wS) (RP : Option Value → wS → Prop) (XP : String → wS → Prop) : Prop :=
  vx_Met l y [.codeWith y cc nL ret hh] { frames := fr, cells := mc, slots := ms, locals := lo } (va_Pc As (wPre B σ)) (wQc B RP) (wXC B XP) mc ms (wA B)
theorem wMetH.of {l : Launch} {B : wB} {y : MethodName} {cc : ByteArray} {nL : Nat} {ret : Option FieldType} {hh : List (Nat × Nat × Nat × Nat)} {fr lo mc ms : Nat} {As : List Value} {σ : wS} {RP : Option Value → wS → Prop} {XP : String → wS → Prop} (hl : l.stackTraces = false) (hy : plainName y.cls = true) (hn : (lg_sl As).length ≤ nL) (hcw : Cond.codeWith y cc nL ret hh ∈ wTs)
    (h : ∀ G : wG, gB G = B → gl G = l → wOk G y.cls cc nL fr lo → wEnd G ret RP XP → (gc G).exceptionTable.toList = tableOf hh → J G nL mc ms 0 (lv_args 0 As) [] σ) : wMetH l B y cc nL ret hh fr lo mc ms As σ RP XP := by
  refine vx_ofWH (cc := cc) (maxL := nL) (ret := ret) (hh := hh) hy rfl ?_
  intro p e s m args below meth c s₁ Bd hml hv
  obtain ⟨rfl, hP, hK, hD, hw, hE, hb⟩ := hv
  have hlv := lv_entry As hn
  have ht := vx_table (x := y) Bd (hw _ hcw As.toArray)
  rw [lg_entry_eq]
  exact h ((p, l, e, { frames := fr, cells := mc, slots := ms, locals := lo }, s), (m, As.toArray, below, meth, c), vx_MQ below (wQc B RP) (wXC B XP) As.toArray s mc ms (wA B), (mc, ms), B) rfl rfl
    ⟨⟨Bd.exec, Bd.bytes, hml, findClass_of_methodNamed Bd.named, hw⟩, hK, hl, hE, hb, Bd.notSynchronized, Nat.le_refl _, Nat.le_refl _, Nat.le_refl _, Nat.le_refl _⟩ ⟨Bd.returns, rfl⟩ ht _ s.heap [] 0 0 hlv hP hD va_S.rf (by show 0 + mc ≤ mc; omega) (by show 0 + ms ≤ ms; omega)
section JRH
variable {G : wG} {own : String} {cc : ByteArray} {nL fr lo kc ks pc : Nat} {lv : List (Nat × Value)} {st : List Value} {σ : wS}
theorem jx_catch (hG : wOk G own cc nL fr lo) {hh : List (Nat × Nat × Nat × Nat)} (htab : (gc G).exceptionTable.toList = tableOf hh) {E name : String} (pre : List ExceptionTableEntry) (x : ExceptionTableEntry) (suf : List ExceptionTableEntry) (hsplit : tableOf hh = pre ++ x :: suf) (hpass : ∀ z ∈ pre, covers z pc = false ∨ (z.catchType ≠ 0 ∧ ∃ (nm : String) (i : Nat), Cond.classLink own z.catchType nm ∈ wTs ∧ wNcs[i]? = some (E, nm))) (hx : covers x pc = true) (h0 : x.catchType ≠ 0) (hl : Cond.classLink own x.catchType name ∈ wTs) (hc : Cond.castable E name ∈ wTs)
    (kk : ∀ q : Nat, J G nL kc ks x.handlerPc lv [.ref q] σ) : JX G nL kc ks pc lv σ E := by
  intro ls H locs cells slots rest ce q h1 h2 h3 h4 h5 h6 hce hcv hcl
  refine vx_catch hG.1.2.2.2.1 pre x suf (htab.trans hsplit) (fun z hz => ?_) hx h0 (hG.word hl) (hG.word hc) hce hcv hcl (kk q ls H locs cells slots h1 h2 h3 h4 h5 h6)
  rcases hpass z hz with h | ⟨g1, nm, i, g2, g3⟩
  · exact Or.inl h
  · exact Or.inr ⟨g1, nm, hG.word g2, hG.2.2.2.1.2.2.2.1 i _ g3⟩
theorem j_callSH (hG : wOk G own cc nL fr lo) {y : MethodName} {cc' : ByteArray} {hh : List (Nat × Nat × Nat × Nat)} {nL' n mc ms fr' lo' index : Nat} {ret : Option FieldType} {As rest : List Value} {RP : Option Value → wS → Prop} (ct : wMetH (gl G) (gB G) y cc' nL' ret hh fr' lo' mc ms As σ RP xp0) (mf : ((y.cls ≠ "java/lang/invoke/MethodHandle" ∧ y.cls ≠ "java/lang/invoke/VarHandle") ∧ (parseMethodDescriptor y.desc).map (fun d => d.parameters.length) = some n ∧ Cond.codeWith y cc' nL' ret hh ∈ wTs ∧ Cond.initialized y.cls ∈ wTs) ∧ Cond.static y ∈ wTs) (ml : Cond.methodLink own index y ∈ wTs)
    (hn : As.length = n) (hst : st = As.reverse ++ rest) (hroom : (rest.map fun v => v.category).sum ≤ 8) (d : decode cc pc = .ok (.invokestatic index, 3)) (hfr : fr' + 1 ≤ fr) (hlo : 8 + (nL' + 11) + lo' ≤ lo)
    (kk : ∀ v σ', RP v σ' → J G nL kc ks (pc + 3) lv (v.toList ++ rest) σ') : J G nL (kc + mc) (ks + ms) pc lv st σ := by
  refine j_run (RP := RP) (XP := xp0) (a := As.toArray) (fun ls H locs cells slots h1 h2 h3 h4 h5 h6 => ?_) kk (fun E σ' q => q.elim)
  obtain ⟨⟨m1, m2, m3, m4⟩, m5⟩ := mf
  refine vx_runSX (Ts := []) (rest := rest) hG.fix ct ⟨⟨rfl, rfl, Nat.le_trans hfr hG.2.2.2.2.2.2.1, Nat.le_trans hlo hG.2.2.2.2.2.2.2.1, fun c hm a' U hW => ?_, List.mem_cons_self⟩, hG.word m3, hG.word m4, m1, fun sig h => ?_, hG.word ml, hG.word m5⟩ ⟨wPre.blind, fun U hU hW => ⟨rfl, hG.pre h2 h3 h4 hU hW⟩⟩ rfl hn h1.1 hst (lv_room hroom) d ⟨by have := hG.2.2.2.2.2.2.2.2.1; omega, by have := hG.2.2.2.2.2.2.2.2.2; omega⟩
  · rw [List.mem_singleton.mp hm]
    exact wgood_at (List.mem_filter.mp m3).2 hW (hG.1.2.2.2.2 _ m3 _)
  · rw [h] at m2
    exact (Option.some.inj m2).symm
end JRH
/-- what a caller answers of an operation that changes something, of a question -/
def rpM (cd : Nat → Nat) (res : (Nat × wM) ⊕ (Int32 × wM)) (Y : wM) (o : Int64) (dd : UInt64) : Option Value → wS → Prop := fun v σ => ∃ t2, (∃ e X', res = .inl (e, X') ∧ v = some (.int (nI (cd e))) ∧ σ = (X', Y, o, dd, (t2, []))) ∨ ∃ z X', res = .inr (z, X') ∧ v = some (.int 0) ∧ σ = (X', Y, z.toInt64, dd, (t2, []))
def rpG {α : Type} (cd : Nat → Nat) (res : Nat ⊕ α) (σ0 : wS) (S : α → wS) : Option Value → wS → Prop := fun v σ => (∃ e, res = .inl e ∧ v = some (.int (nI (cd e))) ∧ σ = σ0) ∨ ∃ z, res = .inr z ∧ v = some (.int 0) ∧ σ = S z
def zL (z : Int32) : Int64 := if z = 0 then 0 else 1
theorem cll_8 : Cond.classLink RL 8 "CensusLoom" ∈ wTs := wTs_in 68 (by decide +kernel) rfl
theorem cll_13 : Cond.classLink RL 13 "java/lang/IllegalStateException" ∈ wTs := wTs_in 375 (by decide +kernel) rfl
theorem cll_19 : Cond.classLink RL 19 "java/lang/IndexOutOfBoundsException" ∈ wTs := wTs_in 482 (by decide +kernel) rfl
theorem cll_25 : Cond.classLink RL 25 "java/util/NoSuchElementException" ∈ wTs := wTs_in 535 (by decide +kernel) rfl
theorem cll_30 : Cond.classLink RL 30 "java/lang/IllegalArgumentException" ∈ wTs := wTs_in 567 (by decide +kernel) rfl
theorem cll_53 : Cond.classLink RL 53 "java/lang/UnsupportedOperationException" ∈ wTs := wTs_in 656 (by decide +kernel) rfl
theorem cll_79 : Cond.classLink RL 79 "java/lang/ArithmeticException" ∈ wTs := wTs_in 737 (by decide +kernel) rfl
theorem cll_129 : Cond.classLink RL 129 "CensusLoomModel" ∈ wTs := wTs_in 1214 (by decide +kernel) rfl
theorem cst_0 : Cond.castable (exn 0) "java/lang/IllegalStateException" ∈ wTs := wTs_in 382 (by decide +kernel) rfl
theorem cst_1 : Cond.castable (exn 1) "java/lang/IllegalArgumentException" ∈ wTs := wTs_in 574 (by decide +kernel) rfl
theorem cst_2 : Cond.castable (exn 2) "java/lang/IndexOutOfBoundsException" ∈ wTs := wTs_in 516 (by decide +kernel) rfl
theorem cst_3 : Cond.castable (exn 3) "java/lang/ArithmeticException" ∈ wTs := wTs_in 749 (by decide +kernel) rfl
theorem cst_4 : Cond.castable (exn 4) "java/lang/UnsupportedOperationException" ∈ wTs := wTs_in 663 (by decide +kernel) rfl
theorem cst_5 : Cond.castable (exn 5) "java/util/NoSuchElementException" ∈ wTs := wTs_in 546 (by decide +kernel) rfl
set_option maxRecDepth 4000 in
theorem g_L_addBlock {G : wG} (hG : wOk G RL cL_addBlock 3 7 157) {X Y : wM} {o : Int64} {dd : UInt64} {t1 : Nat → Nat} {res : (Nat × wM) ⊕ (Int32 × wM)} (hE : wEnd G (some .int) (rpM (fun e => if e = 0 then 1 else 0) res Y o dd) xp0) (htab : (gc G).exceptionTable.toList = tableOf [(0, 8, 11, 13)]) (h : f_X7_addBlock X = some res) (hcd : ∀ e X9, res = .inl (e, X9) → 0 < (fun e => if e = 0 then 1 else 0) e) : J G 3 1 6 0 [(0, .ref (wad (gB G) 0)), (1, .ref (wad (gB G) 37))] [] (X, Y, o, dd, (t1, [])) := by
  refine j_aload_n hG 1 (dt dtL_addBlock_0 0 rfl) rfl rfl ?_
  refine j_iconst hG (v := 0) (dt dtL_addBlock_0 1 rfl) (by decide) ?_
  refine j_aload_n hG 0 (dt dtL_addBlock_0 2 rfl) rfl rfl ?_
  refine j_callV hG (kc := 0) (ks := 0) (ct_X7_addBlock hG.2.2.1 (gB G) _ _ _ _ _ h) mf_X7_addBlock ml_L_7 0 (cv_0 _ _ _ _) rfl rfl (rest := [.int 0, .ref (wad (gB G) 37)]) rfl (Nat.le_of_ble_eq_true rfl) (dt dtL_addBlock_0 3 rfl) (by decide) (by decide) (fun v σ2 q => ?_) (fun E σ2 q => ?_)
  · obtain ⟨z, rfl, rfl, rfl⟩ := q
    refine j_i2l hG (dt dtL_addBlock_0 4 rfl) ?_
    refine j_last hG (dt dtL_addBlock_0 5 rfl) ?_
    refine j_goto hG (tgt := 14) (dt dtL_addBlock_0 6 rfl) (by decide) ?_
    refine j_iconst hG (v := 0) (dt dtL_addBlock_0 10 rfl) (by decide) ?_
    exact j_iret hG hE ⟨t1, Or.inr ⟨_, _, rfl, rfl, rfl⟩⟩ (dt dtL_addBlock_0 11 rfl)
  · obtain ⟨⟨e, X9⟩, rfl, rfl, rfl⟩ := q
    have hc := hcd _ _ rfl
    dsimp only at hc ⊢
    by_cases he0 : e = 0
    · rw [he0]
      refine jx_catch hG htab [] ⟨0, 8, 11, 13⟩ [] rfl (fun _ hz => absurd hz List.not_mem_nil) rfl (by decide) cll_13 cst_0 (fun q => ?_)
      refine j_astore_n hG (lv' := [(2, .ref q), (0, .ref (wad (gB G) 0)), (1, .ref (wad (gB G) 37))]) (dt dtL_addBlock_0 7 rfl) rfl (by decide) rfl ?_
      refine j_iconst hG (v := 1) (dt dtL_addBlock_0 8 rfl) (by decide) ?_
      exact j_iret hG hE ⟨t1, Or.inl ⟨_, _, rfl, by rw [he0]; rfl, rfl⟩⟩ (dt dtL_addBlock_0 9 rfl)
    · exact absurd hc (by simp [he0])
theorem ct_L_addBlock {l : Launch} (hl : l.stackTraces = false) (B : wB) {X Y : wM} {o : Int64} {dd : UInt64} {t1 : Nat → Nat} {res : (Nat × wM) ⊕ (Int32 × wM)} (h : f_X7_addBlock X = some res) (hcd : ∀ e X9, res = .inl (e, X9) → 0 < (fun e => if e = 0 then 1 else 0) e) : wMetH l B yL_addBlock cL_addBlock 3 (some .int) [(0, 8, 11, 13)] 7 157 1 6 [.ref (wad B 0), .ref (wad B 37)] (X, Y, o, dd, (t1, [])) (rpM (fun e => if e = 0 then 1 else 0) res Y o dd) xp0 :=
  wMetH.of hl (by decide +kernel) (Nat.le_of_ble_eq_true rfl) (wTs_in 374 (by decide +kernel) rfl) (fun G hB hL hG hE ht => by subst hB; exact g_L_addBlock hG hE ht h hcd)
theorem mh_L_addBlock : ((yL_addBlock.cls ≠ "java/lang/invoke/MethodHandle" ∧ yL_addBlock.cls ≠ "java/lang/invoke/VarHandle") ∧ (parseMethodDescriptor yL_addBlock.desc).map (fun d => d.parameters.length) = some 2 ∧ Cond.codeWith yL_addBlock cL_addBlock 3 (some .int) [(0, 8, 11, 13)] ∈ wTs ∧ Cond.initialized yL_addBlock.cls ∈ wTs) ∧ Cond.static yL_addBlock ∈ wTs := ⟨⟨⟨by decide +kernel, by decide +kernel⟩, by decide +kernel, wTs_in 374 (by decide +kernel) rfl, wTs_in 36 (by decide +kernel) rfl⟩, wTs_in 373 (by decide +kernel) rfl⟩
set_option maxRecDepth 4000 in
theorem g_L_addAddress {G : wG} (hG : wOk G RL cL_addAddress 4 8 132) {X Y : wM} {o : Int64} {dd : UInt64} {t1 : Nat → Nat} {a1 : Int32} {res : (Nat × wM) ⊕ (Int32 × wM)} (hE : wEnd G (some .int) (rpM (fun e => if e = 2 then 1 else if e = 0 then 2 else 0) res Y o dd) xp0) (htab : (gc G).exceptionTable.toList = tableOf [(0, 9, 12, 19), (0, 9, 15, 13)]) (h : f_X7_addAddress X a1 = some res) (hcd : ∀ e X9, res = .inl (e, X9) → 0 < (fun e => if e = 2 then 1 else if e = 0 then 2 else 0) e) : J G 4 2 12 0 [(0, .ref (wad (gB G) 0)), (1, .int a1), (2, .ref (wad (gB G) 37))] [] (X, Y, o, dd, (t1, [])) := by
  refine j_aload_n hG 2 (dt dtL_addAddress_0 0 rfl) rfl rfl ?_
  refine j_iconst hG (v := 0) (dt dtL_addAddress_0 1 rfl) (by decide) ?_
  refine j_aload_n hG 0 (dt dtL_addAddress_0 2 rfl) rfl rfl ?_
  refine j_iload_n hG 1 (dt dtL_addAddress_0 3 rfl) rfl rfl ?_
  refine j_callV hG (kc := 0) (ks := 0) (ct_X7_addAddress hG.2.2.1 (gB G) _ _ _ _ _ h) mf_X7_addAddress ml_L_15 0 (cv_0 _ _ _ _) rfl rfl (rest := [.int 0, .ref (wad (gB G) 37)]) rfl (Nat.le_of_ble_eq_true rfl) (dt dtL_addAddress_0 4 rfl) (by decide) (by decide) (fun v σ2 q => ?_) (fun E σ2 q => ?_)
  · obtain ⟨z, rfl, rfl, rfl⟩ := q
    refine j_i2l hG (dt dtL_addAddress_0 5 rfl) ?_
    refine j_last hG (dt dtL_addAddress_0 6 rfl) ?_
    refine j_goto hG (tgt := 18) (dt dtL_addAddress_0 7 rfl) (by decide) ?_
    refine j_iconst hG (v := 0) (dt dtL_addAddress_0 14 rfl) (by decide) ?_
    exact j_iret hG hE ⟨t1, Or.inr ⟨_, _, rfl, rfl, rfl⟩⟩ (dt dtL_addAddress_0 15 rfl)
  · obtain ⟨⟨e, X9⟩, rfl, rfl, rfl⟩ := q
    have hc := hcd _ _ rfl
    dsimp only at hc ⊢
    by_cases he0 : e = 2
    · rw [he0]
      refine jx_catch hG htab [] ⟨0, 9, 12, 19⟩ [⟨0, 9, 15, 13⟩] rfl (fun _ hz => absurd hz List.not_mem_nil) rfl (by decide) cll_19 cst_2 (fun q => ?_)
      refine j_astore_n hG (lv' := [(3, .ref q), (0, .ref (wad (gB G) 0)), (1, .int a1), (2, .ref (wad (gB G) 37))]) (dt dtL_addAddress_0 8 rfl) rfl (by decide) rfl ?_
      refine j_iconst hG (v := 1) (dt dtL_addAddress_0 9 rfl) (by decide) ?_
      exact j_iret hG hE ⟨t1, Or.inl ⟨_, _, rfl, by rw [he0]; rfl, rfl⟩⟩ (dt dtL_addAddress_0 10 rfl)
    · by_cases he1 : e = 0
      · rw [he1]
        refine jx_catch hG htab [⟨0, 9, 12, 19⟩] ⟨0, 9, 15, 13⟩ [] rfl (List.forall_mem_cons.mpr ⟨Or.inr ⟨by decide, _, 1, cll_19, rfl⟩, (fun _ hz => absurd hz List.not_mem_nil)⟩) rfl (by decide) cll_13 cst_0 (fun q => ?_)
        refine j_astore_n hG (lv' := [(3, .ref q), (0, .ref (wad (gB G) 0)), (1, .int a1), (2, .ref (wad (gB G) 37))]) (dt dtL_addAddress_0 11 rfl) rfl (by decide) rfl ?_
        refine j_iconst hG (v := 2) (dt dtL_addAddress_0 12 rfl) (by decide) ?_
        exact j_iret hG hE ⟨t1, Or.inl ⟨_, _, rfl, by rw [he1]; rfl, rfl⟩⟩ (dt dtL_addAddress_0 13 rfl)
      · exact absurd hc (by simp [he0, he1])
theorem ct_L_addAddress {l : Launch} (hl : l.stackTraces = false) (B : wB) {X Y : wM} {o : Int64} {dd : UInt64} {t1 : Nat → Nat} {a1 : Int32} {res : (Nat × wM) ⊕ (Int32 × wM)} (h : f_X7_addAddress X a1 = some res) (hcd : ∀ e X9, res = .inl (e, X9) → 0 < (fun e => if e = 2 then 1 else if e = 0 then 2 else 0) e) : wMetH l B yL_addAddress cL_addAddress 4 (some .int) [(0, 9, 12, 19), (0, 9, 15, 13)] 8 132 2 12 [.ref (wad B 0), .int a1, .ref (wad B 37)] (X, Y, o, dd, (t1, [])) (rpM (fun e => if e = 2 then 1 else if e = 0 then 2 else 0) res Y o dd) xp0 :=
  wMetH.of hl (by decide +kernel) (Nat.le_of_ble_eq_true rfl) (wTs_in 481 (by decide +kernel) rfl) (fun G hB hL hG hE ht => by subst hB; exact g_L_addAddress hG hE ht h hcd)
theorem mh_L_addAddress : ((yL_addAddress.cls ≠ "java/lang/invoke/MethodHandle" ∧ yL_addAddress.cls ≠ "java/lang/invoke/VarHandle") ∧ (parseMethodDescriptor yL_addAddress.desc).map (fun d => d.parameters.length) = some 3 ∧ Cond.codeWith yL_addAddress cL_addAddress 4 (some .int) [(0, 9, 12, 19), (0, 9, 15, 13)] ∈ wTs ∧ Cond.initialized yL_addAddress.cls ∈ wTs) ∧ Cond.static yL_addAddress ∈ wTs := ⟨⟨⟨by decide +kernel, by decide +kernel⟩, by decide +kernel, wTs_in 481 (by decide +kernel) rfl, wTs_in 36 (by decide +kernel) rfl⟩, wTs_in 480 (by decide +kernel) rfl⟩
set_option maxRecDepth 4000 in
theorem g_L_split {G : wG} (hG : wOk G RL cL_split 5 8 159) {X Y : wM} {o : Int64} {dd : UInt64} {t1 : Nat → Nat} {a1 : Int32} {a2 : Int32} {res : (Nat × wM) ⊕ (Int32 × wM)} (hE : wEnd G (some .int) (rpM (fun e => if e = 2 then 1 else if e = 5 then 2 else if e = 0 then 3 else 0) res Y o dd) xp0) (htab : (gc G).exceptionTable.toList = tableOf [(0, 10, 13, 19), (0, 10, 17, 25), (0, 10, 21, 13)]) (h : f_X7_split X a1 a2 = some res) (hcd : ∀ e X9, res = .inl (e, X9) → 0 < (fun e => if e = 2 then 1 else if e = 5 then 2 else if e = 0 then 3 else 0) e) : J G 5 2 12 0 [(0, .ref (wad (gB G) 0)), (1, .int a1), (2, .int a2), (3, .ref (wad (gB G) 37))] [] (X, Y, o, dd, (t1, [])) := by
  refine j_aload_n hG 3 (dt dtL_split_0 0 rfl) rfl rfl ?_
  refine j_iconst hG (v := 0) (dt dtL_split_0 1 rfl) (by decide) ?_
  refine j_aload_n hG 0 (dt dtL_split_0 2 rfl) rfl rfl ?_
  refine j_iload_n hG 1 (dt dtL_split_0 3 rfl) rfl rfl ?_
  refine j_iload_n hG 2 (dt dtL_split_0 4 rfl) rfl rfl ?_
  refine j_callV hG (kc := 0) (ks := 0) (ct_X7_split hG.2.2.1 (gB G) _ _ _ _ _ h) mf_X7_split ml_L_21 0 (cv_0 _ _ _ _) rfl rfl (rest := [.int 0, .ref (wad (gB G) 37)]) rfl (Nat.le_of_ble_eq_true rfl) (dt dtL_split_0 5 rfl) (by decide) (by decide) (fun v σ2 q => ?_) (fun E σ2 q => ?_)
  · obtain ⟨z, rfl, rfl, rfl⟩ := q
    refine j_i2l hG (dt dtL_split_0 6 rfl) ?_
    refine j_last hG (dt dtL_split_0 7 rfl) ?_
    refine j_goto hG (tgt := 25) (dt dtL_split_0 8 rfl) (by decide) ?_
    refine j_iconst hG (v := 0) (dt dtL_split_0 18 rfl) (by decide) ?_
    exact j_iret hG hE ⟨t1, Or.inr ⟨_, _, rfl, rfl, rfl⟩⟩ (dt dtL_split_0 19 rfl)
  · obtain ⟨⟨e, X9⟩, rfl, rfl, rfl⟩ := q
    have hc := hcd _ _ rfl
    dsimp only at hc ⊢
    by_cases he0 : e = 2
    · rw [he0]
      refine jx_catch hG htab [] ⟨0, 10, 13, 19⟩ [⟨0, 10, 17, 25⟩, ⟨0, 10, 21, 13⟩] rfl (fun _ hz => absurd hz List.not_mem_nil) rfl (by decide) cll_19 cst_2 (fun q => ?_)
      refine j_astore hG (lv' := [(4, .ref q), (0, .ref (wad (gB G) 0)), (1, .int a1), (2, .int a2), (3, .ref (wad (gB G) 37))]) (dt dtL_split_0 9 rfl) (by decide) rfl ?_
      refine j_iconst hG (v := 1) (dt dtL_split_0 10 rfl) (by decide) ?_
      exact j_iret hG hE ⟨t1, Or.inl ⟨_, _, rfl, by rw [he0]; rfl, rfl⟩⟩ (dt dtL_split_0 11 rfl)
    · by_cases he1 : e = 5
      · rw [he1]
        refine jx_catch hG htab [⟨0, 10, 13, 19⟩] ⟨0, 10, 17, 25⟩ [⟨0, 10, 21, 13⟩] rfl (List.forall_mem_cons.mpr ⟨Or.inr ⟨by decide, _, 27, cll_19, rfl⟩, (fun _ hz => absurd hz List.not_mem_nil)⟩) rfl (by decide) cll_25 cst_5 (fun q => ?_)
        refine j_astore hG (lv' := [(4, .ref q), (0, .ref (wad (gB G) 0)), (1, .int a1), (2, .int a2), (3, .ref (wad (gB G) 37))]) (dt dtL_split_0 12 rfl) (by decide) rfl ?_
        refine j_iconst hG (v := 2) (dt dtL_split_0 13 rfl) (by decide) ?_
        exact j_iret hG hE ⟨t1, Or.inl ⟨_, _, rfl, by rw [he1]; rfl, rfl⟩⟩ (dt dtL_split_0 14 rfl)
      · by_cases he2 : e = 0
        · rw [he2]
          refine jx_catch hG htab [⟨0, 10, 13, 19⟩, ⟨0, 10, 17, 25⟩] ⟨0, 10, 21, 13⟩ [] rfl (List.forall_mem_cons.mpr ⟨Or.inr ⟨by decide, _, 1, cll_19, rfl⟩, (List.forall_mem_cons.mpr ⟨Or.inr ⟨by decide, _, 4, cll_25, rfl⟩, (fun _ hz => absurd hz List.not_mem_nil)⟩)⟩) rfl (by decide) cll_13 cst_0 (fun q => ?_)
          refine j_astore hG (lv' := [(4, .ref q), (0, .ref (wad (gB G) 0)), (1, .int a1), (2, .int a2), (3, .ref (wad (gB G) 37))]) (dt dtL_split_0 15 rfl) (by decide) rfl ?_
          refine j_iconst hG (v := 3) (dt dtL_split_0 16 rfl) (by decide) ?_
          exact j_iret hG hE ⟨t1, Or.inl ⟨_, _, rfl, by rw [he2]; rfl, rfl⟩⟩ (dt dtL_split_0 17 rfl)
        · exact absurd hc (by simp [he0, he1, he2])
theorem ct_L_split {l : Launch} (hl : l.stackTraces = false) (B : wB) {X Y : wM} {o : Int64} {dd : UInt64} {t1 : Nat → Nat} {a1 : Int32} {a2 : Int32} {res : (Nat × wM) ⊕ (Int32 × wM)} (h : f_X7_split X a1 a2 = some res) (hcd : ∀ e X9, res = .inl (e, X9) → 0 < (fun e => if e = 2 then 1 else if e = 5 then 2 else if e = 0 then 3 else 0) e) : wMetH l B yL_split cL_split 5 (some .int) [(0, 10, 13, 19), (0, 10, 17, 25), (0, 10, 21, 13)] 8 159 2 12 [.ref (wad B 0), .int a1, .int a2, .ref (wad B 37)] (X, Y, o, dd, (t1, [])) (rpM (fun e => if e = 2 then 1 else if e = 5 then 2 else if e = 0 then 3 else 0) res Y o dd) xp0 :=
  wMetH.of hl (by decide +kernel) (Nat.le_of_ble_eq_true rfl) (wTs_in 534 (by decide +kernel) rfl) (fun G hB hL hG hE ht => by subst hB; exact g_L_split hG hE ht h hcd)
theorem mh_L_split : ((yL_split.cls ≠ "java/lang/invoke/MethodHandle" ∧ yL_split.cls ≠ "java/lang/invoke/VarHandle") ∧ (parseMethodDescriptor yL_split.desc).map (fun d => d.parameters.length) = some 4 ∧ Cond.codeWith yL_split cL_split 5 (some .int) [(0, 10, 13, 19), (0, 10, 17, 25), (0, 10, 21, 13)] ∈ wTs ∧ Cond.initialized yL_split.cls ∈ wTs) ∧ Cond.static yL_split ∈ wTs := ⟨⟨⟨by decide +kernel, by decide +kernel⟩, by decide +kernel, wTs_in 534 (by decide +kernel) rfl, wTs_in 36 (by decide +kernel) rfl⟩, wTs_in 533 (by decide +kernel) rfl⟩
set_option maxRecDepth 4000 in
theorem g_L_join {G : wG} (hG : wOk G RL cL_join 5 8 159) {X Y : wM} {o : Int64} {dd : UInt64} {t1 : Nat → Nat} {a1 : Int32} {a2 : Int32} {res : (Nat × wM) ⊕ (Int32 × wM)} (hE : wEnd G (some .int) (rpM (fun e => if e = 2 then 1 else if e = 1 then 2 else 0) res Y o dd) xp0) (htab : (gc G).exceptionTable.toList = tableOf [(0, 10, 13, 19), (0, 10, 17, 30)]) (h : f_X7_join X a1 a2 = some res) (hcd : ∀ e X9, res = .inl (e, X9) → 0 < (fun e => if e = 2 then 1 else if e = 1 then 2 else 0) e) : J G 5 3 18 0 [(0, .ref (wad (gB G) 0)), (1, .int a1), (2, .int a2), (3, .ref (wad (gB G) 37))] [] (X, Y, o, dd, (t1, [])) := by
  refine j_aload_n hG 3 (dt dtL_join_0 0 rfl) rfl rfl ?_
  refine j_iconst hG (v := 0) (dt dtL_join_0 1 rfl) (by decide) ?_
  refine j_aload_n hG 0 (dt dtL_join_0 2 rfl) rfl rfl ?_
  refine j_iload_n hG 1 (dt dtL_join_0 3 rfl) rfl rfl ?_
  refine j_iload_n hG 2 (dt dtL_join_0 4 rfl) rfl rfl ?_
  refine j_callV hG (kc := 0) (ks := 0) (ct_X7_join hG.2.2.1 (gB G) _ _ _ _ _ h) mf_X7_join ml_L_27 0 (cv_0 _ _ _ _) rfl rfl (rest := [.int 0, .ref (wad (gB G) 37)]) rfl (Nat.le_of_ble_eq_true rfl) (dt dtL_join_0 5 rfl) (by decide) (by decide) (fun v σ2 q => ?_) (fun E σ2 q => ?_)
  · obtain ⟨z, rfl, rfl, rfl⟩ := q
    refine j_i2l hG (dt dtL_join_0 6 rfl) ?_
    refine j_last hG (dt dtL_join_0 7 rfl) ?_
    refine j_goto hG (tgt := 21) (dt dtL_join_0 8 rfl) (by decide) ?_
    refine j_iconst hG (v := 0) (dt dtL_join_0 15 rfl) (by decide) ?_
    exact j_iret hG hE ⟨t1, Or.inr ⟨_, _, rfl, rfl, rfl⟩⟩ (dt dtL_join_0 16 rfl)
  · obtain ⟨⟨e, X9⟩, rfl, rfl, rfl⟩ := q
    have hc := hcd _ _ rfl
    dsimp only at hc ⊢
    by_cases he0 : e = 2
    · rw [he0]
      refine jx_catch hG htab [] ⟨0, 10, 13, 19⟩ [⟨0, 10, 17, 30⟩] rfl (fun _ hz => absurd hz List.not_mem_nil) rfl (by decide) cll_19 cst_2 (fun q => ?_)
      refine j_astore hG (lv' := [(4, .ref q), (0, .ref (wad (gB G) 0)), (1, .int a1), (2, .int a2), (3, .ref (wad (gB G) 37))]) (dt dtL_join_0 9 rfl) (by decide) rfl ?_
      refine j_iconst hG (v := 1) (dt dtL_join_0 10 rfl) (by decide) ?_
      exact j_iret hG hE ⟨t1, Or.inl ⟨_, _, rfl, by rw [he0]; rfl, rfl⟩⟩ (dt dtL_join_0 11 rfl)
    · by_cases he1 : e = 1
      · rw [he1]
        refine jx_catch hG htab [⟨0, 10, 13, 19⟩] ⟨0, 10, 17, 30⟩ [] rfl (List.forall_mem_cons.mpr ⟨Or.inr ⟨by decide, _, 6, cll_19, rfl⟩, (fun _ hz => absurd hz List.not_mem_nil)⟩) rfl (by decide) cll_30 cst_1 (fun q => ?_)
        refine j_astore hG (lv' := [(4, .ref q), (0, .ref (wad (gB G) 0)), (1, .int a1), (2, .int a2), (3, .ref (wad (gB G) 37))]) (dt dtL_join_0 12 rfl) (by decide) rfl ?_
        refine j_iconst hG (v := 2) (dt dtL_join_0 13 rfl) (by decide) ?_
        exact j_iret hG hE ⟨t1, Or.inl ⟨_, _, rfl, by rw [he1]; rfl, rfl⟩⟩ (dt dtL_join_0 14 rfl)
      · exact absurd hc (by simp [he0, he1])
theorem ct_L_join {l : Launch} (hl : l.stackTraces = false) (B : wB) {X Y : wM} {o : Int64} {dd : UInt64} {t1 : Nat → Nat} {a1 : Int32} {a2 : Int32} {res : (Nat × wM) ⊕ (Int32 × wM)} (h : f_X7_join X a1 a2 = some res) (hcd : ∀ e X9, res = .inl (e, X9) → 0 < (fun e => if e = 2 then 1 else if e = 1 then 2 else 0) e) : wMetH l B yL_join cL_join 5 (some .int) [(0, 10, 13, 19), (0, 10, 17, 30)] 8 159 3 18 [.ref (wad B 0), .int a1, .int a2, .ref (wad B 37)] (X, Y, o, dd, (t1, [])) (rpM (fun e => if e = 2 then 1 else if e = 1 then 2 else 0) res Y o dd) xp0 :=
  wMetH.of hl (by decide +kernel) (Nat.le_of_ble_eq_true rfl) (wTs_in 566 (by decide +kernel) rfl) (fun G hB hL hG hE ht => by subst hB; exact g_L_join hG hE ht h hcd)
theorem mh_L_join : ((yL_join.cls ≠ "java/lang/invoke/MethodHandle" ∧ yL_join.cls ≠ "java/lang/invoke/VarHandle") ∧ (parseMethodDescriptor yL_join.desc).map (fun d => d.parameters.length) = some 4 ∧ Cond.codeWith yL_join cL_join 5 (some .int) [(0, 10, 13, 19), (0, 10, 17, 30)] ∈ wTs ∧ Cond.initialized yL_join.cls ∈ wTs) ∧ Cond.static yL_join ∈ wTs := ⟨⟨⟨by decide +kernel, by decide +kernel⟩, by decide +kernel, wTs_in 566 (by decide +kernel) rfl, wTs_in 36 (by decide +kernel) rfl⟩, wTs_in 565 (by decide +kernel) rfl⟩
set_option maxRecDepth 4000 in
theorem g_L_addRecord {G : wG} (hG : wOk G RL cL_addRecord 7 8 161) {X Y : wM} {o : Int64} {dd : UInt64} {t1 : Nat → Nat} {a1 : Int32} {a2 : Int32} {a3 : Int32} {a4 : Int32} {res : (Nat × wM) ⊕ (Int32 × wM)} (hE : wEnd G (some .int) (rpM (fun e => if e = 1 then 1 else if e = 2 then 2 else if e = 0 then 3 else 0) res Y o dd) xp0) (htab : (gc G).exceptionTable.toList = tableOf [(0, 14, 17, 30), (0, 14, 21, 19), (0, 14, 25, 13)]) (h : f_X7_addRecord X a1 a2 a3 a4 = some res) (hcd : ∀ e X9, res = .inl (e, X9) → 0 < (fun e => if e = 1 then 1 else if e = 2 then 2 else if e = 0 then 3 else 0) e) : J G 7 2 12 0 [(0, .ref (wad (gB G) 0)), (1, .int a1), (2, .int a2), (3, .int a3), (4, .int a4), (5, .ref (wad (gB G) 37))] [] (X, Y, o, dd, (t1, [])) := by
  refine j_aload hG 5 (dt dtL_addRecord_0 0 rfl) rfl ?_
  refine j_iconst hG (v := 0) (dt dtL_addRecord_0 1 rfl) (by decide) ?_
  refine j_aload_n hG 0 (dt dtL_addRecord_0 2 rfl) rfl rfl ?_
  refine j_iload_n hG 1 (dt dtL_addRecord_0 3 rfl) rfl rfl ?_
  refine j_iload_n hG 2 (dt dtL_addRecord_0 4 rfl) rfl rfl ?_
  refine j_iload_n hG 3 (dt dtL_addRecord_0 5 rfl) rfl rfl ?_
  refine j_iload hG 4 (dt dtL_addRecord_0 6 rfl) rfl ?_
  refine j_callV hG (kc := 0) (ks := 0) (ct_X7_addRecord hG.2.2.1 (gB G) _ _ _ _ _ h) mf_X7_addRecord ml_L_32 0 (cv_0 _ _ _ _) rfl rfl (rest := [.int 0, .ref (wad (gB G) 37)]) rfl (Nat.le_of_ble_eq_true rfl) (dt dtL_addRecord_0 7 rfl) (by decide) (by decide) (fun v σ2 q => ?_) (fun E σ2 q => ?_)
  · obtain ⟨z, rfl, rfl, rfl⟩ := q
    refine j_i2l hG (dt dtL_addRecord_0 8 rfl) ?_
    refine j_last hG (dt dtL_addRecord_0 9 rfl) ?_
    refine j_goto hG (tgt := 29) (dt dtL_addRecord_0 10 rfl) (by decide) ?_
    refine j_iconst hG (v := 0) (dt dtL_addRecord_0 20 rfl) (by decide) ?_
    exact j_iret hG hE ⟨t1, Or.inr ⟨_, _, rfl, rfl, rfl⟩⟩ (dt dtL_addRecord_0 21 rfl)
  · obtain ⟨⟨e, X9⟩, rfl, rfl, rfl⟩ := q
    have hc := hcd _ _ rfl
    dsimp only at hc ⊢
    by_cases he0 : e = 1
    · rw [he0]
      refine jx_catch hG htab [] ⟨0, 14, 17, 30⟩ [⟨0, 14, 21, 19⟩, ⟨0, 14, 25, 13⟩] rfl (fun _ hz => absurd hz List.not_mem_nil) rfl (by decide) cll_30 cst_1 (fun q => ?_)
      refine j_astore hG (lv' := [(6, .ref q), (0, .ref (wad (gB G) 0)), (1, .int a1), (2, .int a2), (3, .int a3), (4, .int a4), (5, .ref (wad (gB G) 37))]) (dt dtL_addRecord_0 11 rfl) (by decide) rfl ?_
      refine j_iconst hG (v := 1) (dt dtL_addRecord_0 12 rfl) (by decide) ?_
      exact j_iret hG hE ⟨t1, Or.inl ⟨_, _, rfl, by rw [he0]; rfl, rfl⟩⟩ (dt dtL_addRecord_0 13 rfl)
    · by_cases he1 : e = 2
      · rw [he1]
        refine jx_catch hG htab [⟨0, 14, 17, 30⟩] ⟨0, 14, 21, 19⟩ [⟨0, 14, 25, 13⟩] rfl (List.forall_mem_cons.mpr ⟨Or.inr ⟨by decide, _, 11, cll_30, rfl⟩, (fun _ hz => absurd hz List.not_mem_nil)⟩) rfl (by decide) cll_19 cst_2 (fun q => ?_)
        refine j_astore hG (lv' := [(6, .ref q), (0, .ref (wad (gB G) 0)), (1, .int a1), (2, .int a2), (3, .int a3), (4, .int a4), (5, .ref (wad (gB G) 37))]) (dt dtL_addRecord_0 14 rfl) (by decide) rfl ?_
        refine j_iconst hG (v := 2) (dt dtL_addRecord_0 15 rfl) (by decide) ?_
        exact j_iret hG hE ⟨t1, Or.inl ⟨_, _, rfl, by rw [he1]; rfl, rfl⟩⟩ (dt dtL_addRecord_0 16 rfl)
      · by_cases he2 : e = 0
        · rw [he2]
          refine jx_catch hG htab [⟨0, 14, 17, 30⟩, ⟨0, 14, 21, 19⟩] ⟨0, 14, 25, 13⟩ [] rfl (List.forall_mem_cons.mpr ⟨Or.inr ⟨by decide, _, 0, cll_30, rfl⟩, (List.forall_mem_cons.mpr ⟨Or.inr ⟨by decide, _, 1, cll_19, rfl⟩, (fun _ hz => absurd hz List.not_mem_nil)⟩)⟩) rfl (by decide) cll_13 cst_0 (fun q => ?_)
          refine j_astore hG (lv' := [(6, .ref q), (0, .ref (wad (gB G) 0)), (1, .int a1), (2, .int a2), (3, .int a3), (4, .int a4), (5, .ref (wad (gB G) 37))]) (dt dtL_addRecord_0 17 rfl) (by decide) rfl ?_
          refine j_iconst hG (v := 3) (dt dtL_addRecord_0 18 rfl) (by decide) ?_
          exact j_iret hG hE ⟨t1, Or.inl ⟨_, _, rfl, by rw [he2]; rfl, rfl⟩⟩ (dt dtL_addRecord_0 19 rfl)
        · exact absurd hc (by simp [he0, he1, he2])
theorem ct_L_addRecord {l : Launch} (hl : l.stackTraces = false) (B : wB) {X Y : wM} {o : Int64} {dd : UInt64} {t1 : Nat → Nat} {a1 : Int32} {a2 : Int32} {a3 : Int32} {a4 : Int32} {res : (Nat × wM) ⊕ (Int32 × wM)} (h : f_X7_addRecord X a1 a2 a3 a4 = some res) (hcd : ∀ e X9, res = .inl (e, X9) → 0 < (fun e => if e = 1 then 1 else if e = 2 then 2 else if e = 0 then 3 else 0) e) : wMetH l B yL_addRecord cL_addRecord 7 (some .int) [(0, 14, 17, 30), (0, 14, 21, 19), (0, 14, 25, 13)] 8 161 2 12 [.ref (wad B 0), .int a1, .int a2, .int a3, .int a4, .ref (wad B 37)] (X, Y, o, dd, (t1, [])) (rpM (fun e => if e = 1 then 1 else if e = 2 then 2 else if e = 0 then 3 else 0) res Y o dd) xp0 :=
  wMetH.of hl (by decide +kernel) (Nat.le_of_ble_eq_true rfl) (wTs_in 590 (by decide +kernel) rfl) (fun G hB hL hG hE ht => by subst hB; exact g_L_addRecord hG hE ht h hcd)
theorem mh_L_addRecord : ((yL_addRecord.cls ≠ "java/lang/invoke/MethodHandle" ∧ yL_addRecord.cls ≠ "java/lang/invoke/VarHandle") ∧ (parseMethodDescriptor yL_addRecord.desc).map (fun d => d.parameters.length) = some 6 ∧ Cond.codeWith yL_addRecord cL_addRecord 7 (some .int) [(0, 14, 17, 30), (0, 14, 21, 19), (0, 14, 25, 13)] ∈ wTs ∧ Cond.initialized yL_addRecord.cls ∈ wTs) ∧ Cond.static yL_addRecord ∈ wTs := ⟨⟨⟨by decide +kernel, by decide +kernel⟩, by decide +kernel, wTs_in 590 (by decide +kernel) rfl, wTs_in 36 (by decide +kernel) rfl⟩, wTs_in 589 (by decide +kernel) rfl⟩
set_option maxRecDepth 4000 in
theorem g_L_blockOf {G : wG} (hG : wOk G RL cL_blockOf 4 8 132) {X Y : wM} {o : Int64} {dd : UInt64} {t1 : Nat → Nat} {a1 : Int32} {res : Nat ⊕ Int32} (hE : wEnd G (some .int) (rpG (fun e => if e = 2 then 1 else 0) res (X, Y, o, dd, (t1, [])) (fun z => (X, Y, z.toInt64, dd, (t1, [])))) xp0) (htab : (gc G).exceptionTable.toList = tableOf [(0, 9, 12, 19)]) (h : f_X7_blockOf X a1 = some res) (hcd : ∀ e, res = .inl e → 0 < (fun e => if e = 2 then 1 else 0) e) : J G 4 1 6 0 [(0, .ref (wad (gB G) 0)), (1, .int a1), (2, .ref (wad (gB G) 37))] [] (X, Y, o, dd, (t1, [])) := by
  refine j_aload_n hG 2 (dt dtL_blockOf_0 0 rfl) rfl rfl ?_
  refine j_iconst hG (v := 0) (dt dtL_blockOf_0 1 rfl) (by decide) ?_
  refine j_aload_n hG 0 (dt dtL_blockOf_0 2 rfl) rfl rfl ?_
  refine j_iload_n hG 1 (dt dtL_blockOf_0 3 rfl) rfl rfl ?_
  refine j_callV hG (kc := 0) (ks := 0) (ct_X7_blockOf hG.2.2.1 (gB G) _ _ _ _ _ h) mf_X7_blockOf ml_L_36 0 (cv_0 _ _ _ _) rfl rfl (rest := [.int 0, .ref (wad (gB G) 37)]) rfl (Nat.le_of_ble_eq_true rfl) (dt dtL_blockOf_0 4 rfl) (by decide) (by decide) (fun v σ2 q => ?_) (fun E σ2 q => ?_)
  · obtain ⟨z, rfl, rfl, rfl⟩ := q
    refine j_i2l hG (dt dtL_blockOf_0 5 rfl) ?_
    refine j_last hG (dt dtL_blockOf_0 6 rfl) ?_
    refine j_goto hG (tgt := 15) (dt dtL_blockOf_0 7 rfl) (by decide) ?_
    refine j_iconst hG (v := 0) (dt dtL_blockOf_0 11 rfl) (by decide) ?_
    exact j_iret hG hE (Or.inr ⟨_, rfl, rfl, rfl⟩) (dt dtL_blockOf_0 12 rfl)
  · obtain ⟨e, rfl, rfl, rfl⟩ := q
    have hc := hcd _ rfl
    by_cases he0 : e = 2
    · rw [he0]
      refine jx_catch hG htab [] ⟨0, 9, 12, 19⟩ [] rfl (fun _ hz => absurd hz List.not_mem_nil) rfl (by decide) cll_19 cst_2 (fun q => ?_)
      refine j_astore_n hG (lv' := [(3, .ref q), (0, .ref (wad (gB G) 0)), (1, .int a1), (2, .ref (wad (gB G) 37))]) (dt dtL_blockOf_0 8 rfl) rfl (by decide) rfl ?_
      refine j_iconst hG (v := 1) (dt dtL_blockOf_0 9 rfl) (by decide) ?_
      exact j_iret hG hE (Or.inl ⟨_, rfl, by rw [he0]; rfl, rfl⟩) (dt dtL_blockOf_0 10 rfl)
    · exact absurd hc (by simp [he0])
theorem ct_L_blockOf {l : Launch} (hl : l.stackTraces = false) (B : wB) {X Y : wM} {o : Int64} {dd : UInt64} {t1 : Nat → Nat} {a1 : Int32} {res : Nat ⊕ Int32} (h : f_X7_blockOf X a1 = some res) (hcd : ∀ e, res = .inl e → 0 < (fun e => if e = 2 then 1 else 0) e) : wMetH l B yL_blockOf cL_blockOf 4 (some .int) [(0, 9, 12, 19)] 8 132 1 6 [.ref (wad B 0), .int a1, .ref (wad B 37)] (X, Y, o, dd, (t1, [])) (rpG (fun e => if e = 2 then 1 else 0) res (X, Y, o, dd, (t1, [])) (fun z => (X, Y, z.toInt64, dd, (t1, [])))) xp0 :=
  wMetH.of hl (by decide +kernel) (Nat.le_of_ble_eq_true rfl) (wTs_in 609 (by decide +kernel) rfl) (fun G hB hL hG hE ht => by subst hB; exact g_L_blockOf hG hE ht h hcd)
theorem mh_L_blockOf : ((yL_blockOf.cls ≠ "java/lang/invoke/MethodHandle" ∧ yL_blockOf.cls ≠ "java/lang/invoke/VarHandle") ∧ (parseMethodDescriptor yL_blockOf.desc).map (fun d => d.parameters.length) = some 3 ∧ Cond.codeWith yL_blockOf cL_blockOf 4 (some .int) [(0, 9, 12, 19)] ∈ wTs ∧ Cond.initialized yL_blockOf.cls ∈ wTs) ∧ Cond.static yL_blockOf ∈ wTs := ⟨⟨⟨by decide +kernel, by decide +kernel⟩, by decide +kernel, wTs_in 609 (by decide +kernel) rfl, wTs_in 36 (by decide +kernel) rfl⟩, wTs_in 608 (by decide +kernel) rfl⟩
set_option maxRecDepth 4000 in
theorem g_L_setPoints {G : wG} (hG : wOk G RL cL_setPoints 5 7 159) {X Y : wM} {o : Int64} {dd : UInt64} {t1 : Nat → Nat} {a1 : Int32} {a2 : Int32} {res : (Nat × wM) ⊕ (Int32 × wM)} (hE : wEnd G (some .int) (rpM (fun e => if e = 1 then 1 else 0) res Y o dd) xp0) (htab : (gc G).exceptionTable.toList = tableOf [(0, 10, 13, 30)]) (h : f_X7_setPoints X a1 a2 = some res) (hcd : ∀ e X9, res = .inl (e, X9) → 0 < (fun e => if e = 1 then 1 else 0) e) : J G 5 1 6 0 [(0, .ref (wad (gB G) 0)), (1, .int a1), (2, .int a2), (3, .ref (wad (gB G) 37))] [] (X, Y, o, dd, (t1, [])) := by
  refine j_aload_n hG 3 (dt dtL_setPoints_0 0 rfl) rfl rfl ?_
  refine j_iconst hG (v := 0) (dt dtL_setPoints_0 1 rfl) (by decide) ?_
  refine j_aload_n hG 0 (dt dtL_setPoints_0 2 rfl) rfl rfl ?_
  refine j_iload_n hG 1 (dt dtL_setPoints_0 3 rfl) rfl rfl ?_
  refine j_iload_n hG 2 (dt dtL_setPoints_0 4 rfl) rfl rfl ?_
  refine j_callV hG (kc := 0) (ks := 0) (ct_X7_setPoints hG.2.2.1 (gB G) _ _ _ _ _ h) mf_X7_setPoints ml_L_39 0 (cv_0 _ _ _ _) rfl rfl (rest := [.int 0, .ref (wad (gB G) 37)]) rfl (Nat.le_of_ble_eq_true rfl) (dt dtL_setPoints_0 5 rfl) (by decide) (by decide) (fun v σ2 q => ?_) (fun E σ2 q => ?_)
  · obtain ⟨z, rfl, rfl, rfl⟩ := q
    refine j_i2l hG (dt dtL_setPoints_0 6 rfl) ?_
    refine j_last hG (dt dtL_setPoints_0 7 rfl) ?_
    refine j_goto hG (tgt := 17) (dt dtL_setPoints_0 8 rfl) (by decide) ?_
    refine j_iconst hG (v := 0) (dt dtL_setPoints_0 12 rfl) (by decide) ?_
    exact j_iret hG hE ⟨t1, Or.inr ⟨_, _, rfl, rfl, rfl⟩⟩ (dt dtL_setPoints_0 13 rfl)
  · obtain ⟨⟨e, X9⟩, rfl, rfl, rfl⟩ := q
    have hc := hcd _ _ rfl
    dsimp only at hc ⊢
    by_cases he0 : e = 1
    · rw [he0]
      refine jx_catch hG htab [] ⟨0, 10, 13, 30⟩ [] rfl (fun _ hz => absurd hz List.not_mem_nil) rfl (by decide) cll_30 cst_1 (fun q => ?_)
      refine j_astore hG (lv' := [(4, .ref q), (0, .ref (wad (gB G) 0)), (1, .int a1), (2, .int a2), (3, .ref (wad (gB G) 37))]) (dt dtL_setPoints_0 9 rfl) (by decide) rfl ?_
      refine j_iconst hG (v := 1) (dt dtL_setPoints_0 10 rfl) (by decide) ?_
      exact j_iret hG hE ⟨t1, Or.inl ⟨_, _, rfl, by rw [he0]; rfl, rfl⟩⟩ (dt dtL_setPoints_0 11 rfl)
    · exact absurd hc (by simp [he0])
theorem ct_L_setPoints {l : Launch} (hl : l.stackTraces = false) (B : wB) {X Y : wM} {o : Int64} {dd : UInt64} {t1 : Nat → Nat} {a1 : Int32} {a2 : Int32} {res : (Nat × wM) ⊕ (Int32 × wM)} (h : f_X7_setPoints X a1 a2 = some res) (hcd : ∀ e X9, res = .inl (e, X9) → 0 < (fun e => if e = 1 then 1 else 0) e) : wMetH l B yL_setPoints cL_setPoints 5 (some .int) [(0, 10, 13, 30)] 7 159 1 6 [.ref (wad B 0), .int a1, .int a2, .ref (wad B 37)] (X, Y, o, dd, (t1, [])) (rpM (fun e => if e = 1 then 1 else 0) res Y o dd) xp0 :=
  wMetH.of hl (by decide +kernel) (Nat.le_of_ble_eq_true rfl) (wTs_in 616 (by decide +kernel) rfl) (fun G hB hL hG hE ht => by subst hB; exact g_L_setPoints hG hE ht h hcd)
theorem mh_L_setPoints : ((yL_setPoints.cls ≠ "java/lang/invoke/MethodHandle" ∧ yL_setPoints.cls ≠ "java/lang/invoke/VarHandle") ∧ (parseMethodDescriptor yL_setPoints.desc).map (fun d => d.parameters.length) = some 4 ∧ Cond.codeWith yL_setPoints cL_setPoints 5 (some .int) [(0, 10, 13, 30)] ∈ wTs ∧ Cond.initialized yL_setPoints.cls ∈ wTs) ∧ Cond.static yL_setPoints ∈ wTs := ⟨⟨⟨by decide +kernel, by decide +kernel⟩, by decide +kernel, wTs_in 616 (by decide +kernel) rfl, wTs_in 36 (by decide +kernel) rfl⟩, wTs_in 615 (by decide +kernel) rfl⟩
set_option maxRecDepth 4000 in
theorem g_L_setBounds {G : wG} (hG : wOk G RL cL_setBounds 5 7 159) {X Y : wM} {o : Int64} {dd : UInt64} {t1 : Nat → Nat} {a1 : Int32} {a2 : Int32} {res : (Nat × wM) ⊕ (Int32 × wM)} (hE : wEnd G (some .int) (rpM (fun e => if e = 1 then 1 else 0) res Y o dd) xp0) (htab : (gc G).exceptionTable.toList = tableOf [(0, 10, 13, 30)]) (h : f_X7_setBounds X a1 a2 = some res) (hcd : ∀ e X9, res = .inl (e, X9) → 0 < (fun e => if e = 1 then 1 else 0) e) : J G 5 1 6 0 [(0, .ref (wad (gB G) 0)), (1, .int a1), (2, .int a2), (3, .ref (wad (gB G) 37))] [] (X, Y, o, dd, (t1, [])) := by
  refine j_aload_n hG 3 (dt dtL_setBounds_0 0 rfl) rfl rfl ?_
  refine j_iconst hG (v := 0) (dt dtL_setBounds_0 1 rfl) (by decide) ?_
  refine j_aload_n hG 0 (dt dtL_setBounds_0 2 rfl) rfl rfl ?_
  refine j_iload_n hG 1 (dt dtL_setBounds_0 3 rfl) rfl rfl ?_
  refine j_iload_n hG 2 (dt dtL_setBounds_0 4 rfl) rfl rfl ?_
  refine j_callV hG (kc := 0) (ks := 0) (ct_X7_setBounds hG.2.2.1 (gB G) _ _ _ _ _ h) mf_X7_setBounds ml_L_43 0 (cv_0 _ _ _ _) rfl rfl (rest := [.int 0, .ref (wad (gB G) 37)]) rfl (Nat.le_of_ble_eq_true rfl) (dt dtL_setBounds_0 5 rfl) (by decide) (by decide) (fun v σ2 q => ?_) (fun E σ2 q => ?_)
  · obtain ⟨z, rfl, rfl, rfl⟩ := q
    refine j_i2l hG (dt dtL_setBounds_0 6 rfl) ?_
    refine j_last hG (dt dtL_setBounds_0 7 rfl) ?_
    refine j_goto hG (tgt := 17) (dt dtL_setBounds_0 8 rfl) (by decide) ?_
    refine j_iconst hG (v := 0) (dt dtL_setBounds_0 12 rfl) (by decide) ?_
    exact j_iret hG hE ⟨t1, Or.inr ⟨_, _, rfl, rfl, rfl⟩⟩ (dt dtL_setBounds_0 13 rfl)
  · obtain ⟨⟨e, X9⟩, rfl, rfl, rfl⟩ := q
    have hc := hcd _ _ rfl
    dsimp only at hc ⊢
    by_cases he0 : e = 1
    · rw [he0]
      refine jx_catch hG htab [] ⟨0, 10, 13, 30⟩ [] rfl (fun _ hz => absurd hz List.not_mem_nil) rfl (by decide) cll_30 cst_1 (fun q => ?_)
      refine j_astore hG (lv' := [(4, .ref q), (0, .ref (wad (gB G) 0)), (1, .int a1), (2, .int a2), (3, .ref (wad (gB G) 37))]) (dt dtL_setBounds_0 9 rfl) (by decide) rfl ?_
      refine j_iconst hG (v := 1) (dt dtL_setBounds_0 10 rfl) (by decide) ?_
      exact j_iret hG hE ⟨t1, Or.inl ⟨_, _, rfl, by rw [he0]; rfl, rfl⟩⟩ (dt dtL_setBounds_0 11 rfl)
    · exact absurd hc (by simp [he0])
theorem ct_L_setBounds {l : Launch} (hl : l.stackTraces = false) (B : wB) {X Y : wM} {o : Int64} {dd : UInt64} {t1 : Nat → Nat} {a1 : Int32} {a2 : Int32} {res : (Nat × wM) ⊕ (Int32 × wM)} (h : f_X7_setBounds X a1 a2 = some res) (hcd : ∀ e X9, res = .inl (e, X9) → 0 < (fun e => if e = 1 then 1 else 0) e) : wMetH l B yL_setBounds cL_setBounds 5 (some .int) [(0, 10, 13, 30)] 7 159 1 6 [.ref (wad B 0), .int a1, .int a2, .ref (wad B 37)] (X, Y, o, dd, (t1, [])) (rpM (fun e => if e = 1 then 1 else 0) res Y o dd) xp0 :=
  wMetH.of hl (by decide +kernel) (Nat.le_of_ble_eq_true rfl) (wTs_in 629 (by decide +kernel) rfl) (fun G hB hL hG hE ht => by subst hB; exact g_L_setBounds hG hE ht h hcd)
theorem mh_L_setBounds : ((yL_setBounds.cls ≠ "java/lang/invoke/MethodHandle" ∧ yL_setBounds.cls ≠ "java/lang/invoke/VarHandle") ∧ (parseMethodDescriptor yL_setBounds.desc).map (fun d => d.parameters.length) = some 4 ∧ Cond.codeWith yL_setBounds cL_setBounds 5 (some .int) [(0, 10, 13, 30)] ∈ wTs ∧ Cond.initialized yL_setBounds.cls ∈ wTs) ∧ Cond.static yL_setBounds ∈ wTs := ⟨⟨⟨by decide +kernel, by decide +kernel⟩, by decide +kernel, wTs_in 629 (by decide +kernel) rfl, wTs_in 36 (by decide +kernel) rfl⟩, wTs_in 628 (by decide +kernel) rfl⟩
set_option maxRecDepth 4000 in
theorem g_L_score {G : wG} (hG : wOk G RL cL_score 5 9 155) {X Y : wM} {o : Int64} {dd : UInt64} {t1 : Nat → Nat} {a1 : Int32} {a2 : Int32} {res : Nat ⊕ Int32} (hE : wEnd G (some .int) (rpG c_two res (X, Y, o, dd, (t1, [])) (fun z => (X, Y, z.toInt64, dd, (t1, [])))) xp0) (htab : (gc G).exceptionTable.toList = tableOf [(0, 10, 13, 25), (0, 10, 17, 30)]) (h : f_X7_score X a1 a2 = some res) (hcd : ∀ e, res = .inl e → 0 < c_two e) : J G 5 3 18 0 [(0, .ref (wad (gB G) 0)), (1, .int a1), (2, .int a2), (3, .ref (wad (gB G) 37))] [] (X, Y, o, dd, (t1, [])) := by
  refine j_aload_n hG 3 (dt dtL_score_0 0 rfl) rfl rfl ?_
  refine j_iconst hG (v := 0) (dt dtL_score_0 1 rfl) (by decide) ?_
  refine j_aload_n hG 0 (dt dtL_score_0 2 rfl) rfl rfl ?_
  refine j_iload_n hG 1 (dt dtL_score_0 3 rfl) rfl rfl ?_
  refine j_iload_n hG 2 (dt dtL_score_0 4 rfl) rfl rfl ?_
  refine j_callV hG (kc := 0) (ks := 0) (ct_X7_score hG.2.2.1 (gB G) _ _ _ _ _ h) mf_X7_score ml_L_46 0 (cv_0 _ _ _ _) rfl rfl (rest := [.int 0, .ref (wad (gB G) 37)]) rfl (Nat.le_of_ble_eq_true rfl) (dt dtL_score_0 5 rfl) (by decide) (by decide) (fun v σ2 q => ?_) (fun E σ2 q => ?_)
  · obtain ⟨z, rfl, rfl, rfl⟩ := q
    refine j_i2l hG (dt dtL_score_0 6 rfl) ?_
    refine j_last hG (dt dtL_score_0 7 rfl) ?_
    refine j_goto hG (tgt := 21) (dt dtL_score_0 8 rfl) (by decide) ?_
    refine j_iconst hG (v := 0) (dt dtL_score_0 15 rfl) (by decide) ?_
    exact j_iret hG hE (Or.inr ⟨_, rfl, rfl, rfl⟩) (dt dtL_score_0 16 rfl)
  · obtain ⟨e, rfl, rfl, rfl⟩ := q
    have hc := hcd _ rfl
    by_cases he0 : e = 5
    · rw [he0]
      refine jx_catch hG htab [] ⟨0, 10, 13, 25⟩ [⟨0, 10, 17, 30⟩] rfl (fun _ hz => absurd hz List.not_mem_nil) rfl (by decide) cll_25 cst_5 (fun q => ?_)
      refine j_astore hG (lv' := [(4, .ref q), (0, .ref (wad (gB G) 0)), (1, .int a1), (2, .int a2), (3, .ref (wad (gB G) 37))]) (dt dtL_score_0 9 rfl) (by decide) rfl ?_
      refine j_iconst hG (v := 1) (dt dtL_score_0 10 rfl) (by decide) ?_
      exact j_iret hG hE (Or.inl ⟨_, rfl, by rw [he0]; rfl, rfl⟩) (dt dtL_score_0 11 rfl)
    · by_cases he1 : e = 1
      · rw [he1]
        refine jx_catch hG htab [⟨0, 10, 13, 25⟩] ⟨0, 10, 17, 30⟩ [] rfl (List.forall_mem_cons.mpr ⟨Or.inr ⟨by decide, _, 9, cll_25, rfl⟩, (fun _ hz => absurd hz List.not_mem_nil)⟩) rfl (by decide) cll_30 cst_1 (fun q => ?_)
        refine j_astore hG (lv' := [(4, .ref q), (0, .ref (wad (gB G) 0)), (1, .int a1), (2, .int a2), (3, .ref (wad (gB G) 37))]) (dt dtL_score_0 12 rfl) (by decide) rfl ?_
        refine j_iconst hG (v := 2) (dt dtL_score_0 13 rfl) (by decide) ?_
        exact j_iret hG hE (Or.inl ⟨_, rfl, by rw [he1]; rfl, rfl⟩) (dt dtL_score_0 14 rfl)
      · exact absurd hc (by simp [c_two, he0, he1])
theorem ct_L_score {l : Launch} (hl : l.stackTraces = false) (B : wB) {X Y : wM} {o : Int64} {dd : UInt64} {t1 : Nat → Nat} {a1 : Int32} {a2 : Int32} {res : Nat ⊕ Int32} (h : f_X7_score X a1 a2 = some res) (hcd : ∀ e, res = .inl e → 0 < c_two e) : wMetH l B yL_score cL_score 5 (some .int) [(0, 10, 13, 25), (0, 10, 17, 30)] 9 155 3 18 [.ref (wad B 0), .int a1, .int a2, .ref (wad B 37)] (X, Y, o, dd, (t1, [])) (rpG c_two res (X, Y, o, dd, (t1, [])) (fun z => (X, Y, z.toInt64, dd, (t1, [])))) xp0 :=
  wMetH.of hl (by decide +kernel) (Nat.le_of_ble_eq_true rfl) (wTs_in 637 (by decide +kernel) rfl) (fun G hB hL hG hE ht => by subst hB; exact g_L_score hG hE ht h hcd)
theorem mh_L_score : ((yL_score.cls ≠ "java/lang/invoke/MethodHandle" ∧ yL_score.cls ≠ "java/lang/invoke/VarHandle") ∧ (parseMethodDescriptor yL_score.desc).map (fun d => d.parameters.length) = some 4 ∧ Cond.codeWith yL_score cL_score 5 (some .int) [(0, 10, 13, 25), (0, 10, 17, 30)] ∈ wTs ∧ Cond.initialized yL_score.cls ∈ wTs) ∧ Cond.static yL_score ∈ wTs := ⟨⟨⟨by decide +kernel, by decide +kernel⟩, by decide +kernel, wTs_in 637 (by decide +kernel) rfl, wTs_in 36 (by decide +kernel) rfl⟩, wTs_in 636 (by decide +kernel) rfl⟩
set_option maxRecDepth 4000 in
theorem g_L_decide {G : wG} (hG : wOk G RL cL_decide 6 9 159) {X Y : wM} {o : Int64} {dd : UInt64} {t1 : Nat → Nat} {a1 : Int32} {a2 : Int32} {a3 : Int32} {res : (Nat × wM) ⊕ (Int32 × wM)} (hE : wEnd G (some .int) (rpM (fun e => if e = 5 then 1 else if e = 1 then 2 else if e = 4 then 3 else 0) res Y o dd) xp0) (htab : (gc G).exceptionTable.toList = tableOf [(0, 12, 15, 25), (0, 12, 19, 30), (0, 12, 23, 53)]) (h : f_X7_decide X a1 a2 a3 = some res) (hcd : ∀ e X9, res = .inl (e, X9) → 0 < (fun e => if e = 5 then 1 else if e = 1 then 2 else if e = 4 then 3 else 0) e) : J G 6 4 24 0 [(0, .ref (wad (gB G) 0)), (1, .int a1), (2, .int a2), (3, .int a3), (4, .ref (wad (gB G) 37))] [] (X, Y, o, dd, (t1, [])) := by
  refine j_aload hG 4 (dt dtL_decide_0 0 rfl) rfl ?_
  refine j_iconst hG (v := 0) (dt dtL_decide_0 1 rfl) (by decide) ?_
  refine j_aload_n hG 0 (dt dtL_decide_0 2 rfl) rfl rfl ?_
  refine j_iload_n hG 1 (dt dtL_decide_0 3 rfl) rfl rfl ?_
  refine j_iload_n hG 2 (dt dtL_decide_0 4 rfl) rfl rfl ?_
  refine j_iload_n hG 3 (dt dtL_decide_0 5 rfl) rfl rfl ?_
  refine j_callV hG (kc := 0) (ks := 0) (ct_X7_decide hG.2.2.1 (gB G) _ _ _ _ _ h) mf_X7_decide ml_L_49 0 (cv_0 _ _ _ _) rfl rfl (rest := [.int 0, .ref (wad (gB G) 37)]) rfl (Nat.le_of_ble_eq_true rfl) (dt dtL_decide_0 6 rfl) (by decide) (by decide) (fun v σ2 q => ?_) (fun E σ2 q => ?_)
  · obtain ⟨z, rfl, rfl, rfl⟩ := q
    refine j_i2l hG (dt dtL_decide_0 7 rfl) ?_
    refine j_last hG (dt dtL_decide_0 8 rfl) ?_
    refine j_goto hG (tgt := 27) (dt dtL_decide_0 9 rfl) (by decide) ?_
    refine j_iconst hG (v := 0) (dt dtL_decide_0 19 rfl) (by decide) ?_
    exact j_iret hG hE ⟨t1, Or.inr ⟨_, _, rfl, rfl, rfl⟩⟩ (dt dtL_decide_0 20 rfl)
  · obtain ⟨⟨e, X9⟩, rfl, rfl, rfl⟩ := q
    have hc := hcd _ _ rfl
    dsimp only at hc ⊢
    by_cases he0 : e = 5
    · rw [he0]
      refine jx_catch hG htab [] ⟨0, 12, 15, 25⟩ [⟨0, 12, 19, 30⟩, ⟨0, 12, 23, 53⟩] rfl (fun _ hz => absurd hz List.not_mem_nil) rfl (by decide) cll_25 cst_5 (fun q => ?_)
      refine j_astore hG (lv' := [(5, .ref q), (0, .ref (wad (gB G) 0)), (1, .int a1), (2, .int a2), (3, .int a3), (4, .ref (wad (gB G) 37))]) (dt dtL_decide_0 10 rfl) (by decide) rfl ?_
      refine j_iconst hG (v := 1) (dt dtL_decide_0 11 rfl) (by decide) ?_
      exact j_iret hG hE ⟨t1, Or.inl ⟨_, _, rfl, by rw [he0]; rfl, rfl⟩⟩ (dt dtL_decide_0 12 rfl)
    · by_cases he1 : e = 1
      · rw [he1]
        refine jx_catch hG htab [⟨0, 12, 15, 25⟩] ⟨0, 12, 19, 30⟩ [⟨0, 12, 23, 53⟩] rfl (List.forall_mem_cons.mpr ⟨Or.inr ⟨by decide, _, 9, cll_25, rfl⟩, (fun _ hz => absurd hz List.not_mem_nil)⟩) rfl (by decide) cll_30 cst_1 (fun q => ?_)
        refine j_astore hG (lv' := [(5, .ref q), (0, .ref (wad (gB G) 0)), (1, .int a1), (2, .int a2), (3, .int a3), (4, .ref (wad (gB G) 37))]) (dt dtL_decide_0 13 rfl) (by decide) rfl ?_
        refine j_iconst hG (v := 2) (dt dtL_decide_0 14 rfl) (by decide) ?_
        exact j_iret hG hE ⟨t1, Or.inl ⟨_, _, rfl, by rw [he1]; rfl, rfl⟩⟩ (dt dtL_decide_0 15 rfl)
      · by_cases he2 : e = 4
        · rw [he2]
          refine jx_catch hG htab [⟨0, 12, 15, 25⟩, ⟨0, 12, 19, 30⟩] ⟨0, 12, 23, 53⟩ [] rfl (List.forall_mem_cons.mpr ⟨Or.inr ⟨by decide, _, 24, cll_25, rfl⟩, (List.forall_mem_cons.mpr ⟨Or.inr ⟨by decide, _, 21, cll_30, rfl⟩, (fun _ hz => absurd hz List.not_mem_nil)⟩)⟩) rfl (by decide) cll_53 cst_4 (fun q => ?_)
          refine j_astore hG (lv' := [(5, .ref q), (0, .ref (wad (gB G) 0)), (1, .int a1), (2, .int a2), (3, .int a3), (4, .ref (wad (gB G) 37))]) (dt dtL_decide_0 16 rfl) (by decide) rfl ?_
          refine j_iconst hG (v := 3) (dt dtL_decide_0 17 rfl) (by decide) ?_
          exact j_iret hG hE ⟨t1, Or.inl ⟨_, _, rfl, by rw [he2]; rfl, rfl⟩⟩ (dt dtL_decide_0 18 rfl)
        · exact absurd hc (by simp [he0, he1, he2])
theorem ct_L_decide {l : Launch} (hl : l.stackTraces = false) (B : wB) {X Y : wM} {o : Int64} {dd : UInt64} {t1 : Nat → Nat} {a1 : Int32} {a2 : Int32} {a3 : Int32} {res : (Nat × wM) ⊕ (Int32 × wM)} (h : f_X7_decide X a1 a2 a3 = some res) (hcd : ∀ e X9, res = .inl (e, X9) → 0 < (fun e => if e = 5 then 1 else if e = 1 then 2 else if e = 4 then 3 else 0) e) : wMetH l B yL_decide cL_decide 6 (some .int) [(0, 12, 15, 25), (0, 12, 19, 30), (0, 12, 23, 53)] 9 159 4 24 [.ref (wad B 0), .int a1, .int a2, .int a3, .ref (wad B 37)] (X, Y, o, dd, (t1, [])) (rpM (fun e => if e = 5 then 1 else if e = 1 then 2 else if e = 4 then 3 else 0) res Y o dd) xp0 :=
  wMetH.of hl (by decide +kernel) (Nat.le_of_ble_eq_true rfl) (wTs_in 655 (by decide +kernel) rfl) (fun G hB hL hG hE ht => by subst hB; exact g_L_decide hG hE ht h hcd)
theorem mh_L_decide : ((yL_decide.cls ≠ "java/lang/invoke/MethodHandle" ∧ yL_decide.cls ≠ "java/lang/invoke/VarHandle") ∧ (parseMethodDescriptor yL_decide.desc).map (fun d => d.parameters.length) = some 5 ∧ Cond.codeWith yL_decide cL_decide 6 (some .int) [(0, 12, 15, 25), (0, 12, 19, 30), (0, 12, 23, 53)] ∈ wTs ∧ Cond.initialized yL_decide.cls ∈ wTs) ∧ Cond.static yL_decide ∈ wTs := ⟨⟨⟨by decide +kernel, by decide +kernel⟩, by decide +kernel, wTs_in 655 (by decide +kernel) rfl, wTs_in 36 (by decide +kernel) rfl⟩, wTs_in 654 (by decide +kernel) rfl⟩
set_option maxRecDepth 4000 in
theorem g_L_takeBack {G : wG} (hG : wOk G RL cL_takeBack 5 8 158) {X Y : wM} {o : Int64} {dd : UInt64} {t1 : Nat → Nat} {a1 : Int32} {a2 : Int32} {res : (Nat × wM) ⊕ (Int32 × wM)} (hE : wEnd G (some .int) (rpM (fun e => if e = 5 then 1 else if e = 0 then 2 else 0) res Y o dd) xp0) (htab : (gc G).exceptionTable.toList = tableOf [(0, 10, 13, 25), (0, 10, 17, 13)]) (h : f_X7_takeBack X a1 a2 = some res) (hcd : ∀ e X9, res = .inl (e, X9) → 0 < (fun e => if e = 5 then 1 else if e = 0 then 2 else 0) e) : J G 5 3 18 0 [(0, .ref (wad (gB G) 0)), (1, .int a1), (2, .int a2), (3, .ref (wad (gB G) 37))] [] (X, Y, o, dd, (t1, [])) := by
  refine j_aload_n hG 3 (dt dtL_takeBack_0 0 rfl) rfl rfl ?_
  refine j_iconst hG (v := 0) (dt dtL_takeBack_0 1 rfl) (by decide) ?_
  refine j_aload_n hG 0 (dt dtL_takeBack_0 2 rfl) rfl rfl ?_
  refine j_iload_n hG 1 (dt dtL_takeBack_0 3 rfl) rfl rfl ?_
  refine j_iload_n hG 2 (dt dtL_takeBack_0 4 rfl) rfl rfl ?_
  refine j_callV hG (kc := 0) (ks := 0) (ct_X7_takeBack hG.2.2.1 (gB G) _ _ _ _ _ h) mf_X7_takeBack ml_L_55 0 (cv_0 _ _ _ _) rfl rfl (rest := [.int 0, .ref (wad (gB G) 37)]) rfl (Nat.le_of_ble_eq_true rfl) (dt dtL_takeBack_0 5 rfl) (by decide) (by decide) (fun v σ2 q => ?_) (fun E σ2 q => ?_)
  · obtain ⟨z, rfl, rfl, rfl⟩ := q
    refine j_i2l hG (dt dtL_takeBack_0 6 rfl) ?_
    refine j_last hG (dt dtL_takeBack_0 7 rfl) ?_
    refine j_goto hG (tgt := 21) (dt dtL_takeBack_0 8 rfl) (by decide) ?_
    refine j_iconst hG (v := 0) (dt dtL_takeBack_0 15 rfl) (by decide) ?_
    exact j_iret hG hE ⟨t1, Or.inr ⟨_, _, rfl, rfl, rfl⟩⟩ (dt dtL_takeBack_0 16 rfl)
  · obtain ⟨⟨e, X9⟩, rfl, rfl, rfl⟩ := q
    have hc := hcd _ _ rfl
    dsimp only at hc ⊢
    by_cases he0 : e = 5
    · rw [he0]
      refine jx_catch hG htab [] ⟨0, 10, 13, 25⟩ [⟨0, 10, 17, 13⟩] rfl (fun _ hz => absurd hz List.not_mem_nil) rfl (by decide) cll_25 cst_5 (fun q => ?_)
      refine j_astore hG (lv' := [(4, .ref q), (0, .ref (wad (gB G) 0)), (1, .int a1), (2, .int a2), (3, .ref (wad (gB G) 37))]) (dt dtL_takeBack_0 9 rfl) (by decide) rfl ?_
      refine j_iconst hG (v := 1) (dt dtL_takeBack_0 10 rfl) (by decide) ?_
      exact j_iret hG hE ⟨t1, Or.inl ⟨_, _, rfl, by rw [he0]; rfl, rfl⟩⟩ (dt dtL_takeBack_0 11 rfl)
    · by_cases he1 : e = 0
      · rw [he1]
        refine jx_catch hG htab [⟨0, 10, 13, 25⟩] ⟨0, 10, 17, 13⟩ [] rfl (List.forall_mem_cons.mpr ⟨Or.inr ⟨by decide, _, 4, cll_25, rfl⟩, (fun _ hz => absurd hz List.not_mem_nil)⟩) rfl (by decide) cll_13 cst_0 (fun q => ?_)
        refine j_astore hG (lv' := [(4, .ref q), (0, .ref (wad (gB G) 0)), (1, .int a1), (2, .int a2), (3, .ref (wad (gB G) 37))]) (dt dtL_takeBack_0 12 rfl) (by decide) rfl ?_
        refine j_iconst hG (v := 2) (dt dtL_takeBack_0 13 rfl) (by decide) ?_
        exact j_iret hG hE ⟨t1, Or.inl ⟨_, _, rfl, by rw [he1]; rfl, rfl⟩⟩ (dt dtL_takeBack_0 14 rfl)
      · exact absurd hc (by simp [he0, he1])
theorem ct_L_takeBack {l : Launch} (hl : l.stackTraces = false) (B : wB) {X Y : wM} {o : Int64} {dd : UInt64} {t1 : Nat → Nat} {a1 : Int32} {a2 : Int32} {res : (Nat × wM) ⊕ (Int32 × wM)} (h : f_X7_takeBack X a1 a2 = some res) (hcd : ∀ e X9, res = .inl (e, X9) → 0 < (fun e => if e = 5 then 1 else if e = 0 then 2 else 0) e) : wMetH l B yL_takeBack cL_takeBack 5 (some .int) [(0, 10, 13, 25), (0, 10, 17, 13)] 8 158 3 18 [.ref (wad B 0), .int a1, .int a2, .ref (wad B 37)] (X, Y, o, dd, (t1, [])) (rpM (fun e => if e = 5 then 1 else if e = 0 then 2 else 0) res Y o dd) xp0 :=
  wMetH.of hl (by decide +kernel) (Nat.le_of_ble_eq_true rfl) (wTs_in 683 (by decide +kernel) rfl) (fun G hB hL hG hE ht => by subst hB; exact g_L_takeBack hG hE ht h hcd)
theorem mh_L_takeBack : ((yL_takeBack.cls ≠ "java/lang/invoke/MethodHandle" ∧ yL_takeBack.cls ≠ "java/lang/invoke/VarHandle") ∧ (parseMethodDescriptor yL_takeBack.desc).map (fun d => d.parameters.length) = some 4 ∧ Cond.codeWith yL_takeBack cL_takeBack 5 (some .int) [(0, 10, 13, 25), (0, 10, 17, 13)] ∈ wTs ∧ Cond.initialized yL_takeBack.cls ∈ wTs) ∧ Cond.static yL_takeBack ∈ wTs := ⟨⟨⟨by decide +kernel, by decide +kernel⟩, by decide +kernel, wTs_in 683 (by decide +kernel) rfl, wTs_in 36 (by decide +kernel) rfl⟩, wTs_in 682 (by decide +kernel) rfl⟩
set_option maxRecDepth 4000 in
theorem g_L_link {G : wG} (hG : wOk G RL cL_link 5 9 155) {X Y : wM} {o : Int64} {dd : UInt64} {t1 : Nat → Nat} {a1 : Int32} {a2 : Int32} {res : Nat ⊕ Int32} (hE : wEnd G (some .int) (rpG c_two res (X, Y, o, dd, (t1, [])) (fun z => (X, Y, z.toInt64, dd, (t1, [])))) xp0) (htab : (gc G).exceptionTable.toList = tableOf [(0, 10, 13, 25), (0, 10, 17, 30)]) (h : f_X7_link X a1 a2 = some res) (hcd : ∀ e, res = .inl e → 0 < c_two e) : J G 5 3 18 0 [(0, .ref (wad (gB G) 0)), (1, .int a1), (2, .int a2), (3, .ref (wad (gB G) 37))] [] (X, Y, o, dd, (t1, [])) := by
  refine j_aload_n hG 3 (dt dtL_link_0 0 rfl) rfl rfl ?_
  refine j_iconst hG (v := 0) (dt dtL_link_0 1 rfl) (by decide) ?_
  refine j_aload_n hG 0 (dt dtL_link_0 2 rfl) rfl rfl ?_
  refine j_iload_n hG 1 (dt dtL_link_0 3 rfl) rfl rfl ?_
  refine j_iload_n hG 2 (dt dtL_link_0 4 rfl) rfl rfl ?_
  refine j_callV hG (kc := 0) (ks := 0) (ct_X7_link hG.2.2.1 (gB G) _ _ _ _ _ h) mf_X7_link ml_L_58 0 (cv_0 _ _ _ _) rfl rfl (rest := [.int 0, .ref (wad (gB G) 37)]) rfl (Nat.le_of_ble_eq_true rfl) (dt dtL_link_0 5 rfl) (by decide) (by decide) (fun v σ2 q => ?_) (fun E σ2 q => ?_)
  · obtain ⟨z, rfl, rfl, rfl⟩ := q
    refine j_i2l hG (dt dtL_link_0 6 rfl) ?_
    refine j_last hG (dt dtL_link_0 7 rfl) ?_
    refine j_goto hG (tgt := 21) (dt dtL_link_0 8 rfl) (by decide) ?_
    refine j_iconst hG (v := 0) (dt dtL_link_0 15 rfl) (by decide) ?_
    exact j_iret hG hE (Or.inr ⟨_, rfl, rfl, rfl⟩) (dt dtL_link_0 16 rfl)
  · obtain ⟨e, rfl, rfl, rfl⟩ := q
    have hc := hcd _ rfl
    by_cases he0 : e = 5
    · rw [he0]
      refine jx_catch hG htab [] ⟨0, 10, 13, 25⟩ [⟨0, 10, 17, 30⟩] rfl (fun _ hz => absurd hz List.not_mem_nil) rfl (by decide) cll_25 cst_5 (fun q => ?_)
      refine j_astore hG (lv' := [(4, .ref q), (0, .ref (wad (gB G) 0)), (1, .int a1), (2, .int a2), (3, .ref (wad (gB G) 37))]) (dt dtL_link_0 9 rfl) (by decide) rfl ?_
      refine j_iconst hG (v := 1) (dt dtL_link_0 10 rfl) (by decide) ?_
      exact j_iret hG hE (Or.inl ⟨_, rfl, by rw [he0]; rfl, rfl⟩) (dt dtL_link_0 11 rfl)
    · by_cases he1 : e = 1
      · rw [he1]
        refine jx_catch hG htab [⟨0, 10, 13, 25⟩] ⟨0, 10, 17, 30⟩ [] rfl (List.forall_mem_cons.mpr ⟨Or.inr ⟨by decide, _, 9, cll_25, rfl⟩, (fun _ hz => absurd hz List.not_mem_nil)⟩) rfl (by decide) cll_30 cst_1 (fun q => ?_)
        refine j_astore hG (lv' := [(4, .ref q), (0, .ref (wad (gB G) 0)), (1, .int a1), (2, .int a2), (3, .ref (wad (gB G) 37))]) (dt dtL_link_0 12 rfl) (by decide) rfl ?_
        refine j_iconst hG (v := 2) (dt dtL_link_0 13 rfl) (by decide) ?_
        exact j_iret hG hE (Or.inl ⟨_, rfl, by rw [he1]; rfl, rfl⟩) (dt dtL_link_0 14 rfl)
      · exact absurd hc (by simp [c_two, he0, he1])
theorem ct_L_link {l : Launch} (hl : l.stackTraces = false) (B : wB) {X Y : wM} {o : Int64} {dd : UInt64} {t1 : Nat → Nat} {a1 : Int32} {a2 : Int32} {res : Nat ⊕ Int32} (h : f_X7_link X a1 a2 = some res) (hcd : ∀ e, res = .inl e → 0 < c_two e) : wMetH l B yL_link cL_link 5 (some .int) [(0, 10, 13, 25), (0, 10, 17, 30)] 9 155 3 18 [.ref (wad B 0), .int a1, .int a2, .ref (wad B 37)] (X, Y, o, dd, (t1, [])) (rpG c_two res (X, Y, o, dd, (t1, [])) (fun z => (X, Y, z.toInt64, dd, (t1, [])))) xp0 :=
  wMetH.of hl (by decide +kernel) (Nat.le_of_ble_eq_true rfl) (wTs_in 695 (by decide +kernel) rfl) (fun G hB hL hG hE ht => by subst hB; exact g_L_link hG hE ht h hcd)
theorem mh_L_link : ((yL_link.cls ≠ "java/lang/invoke/MethodHandle" ∧ yL_link.cls ≠ "java/lang/invoke/VarHandle") ∧ (parseMethodDescriptor yL_link.desc).map (fun d => d.parameters.length) = some 4 ∧ Cond.codeWith yL_link cL_link 5 (some .int) [(0, 10, 13, 25), (0, 10, 17, 30)] ∈ wTs ∧ Cond.initialized yL_link.cls ∈ wTs) ∧ Cond.static yL_link ∈ wTs := ⟨⟨⟨by decide +kernel, by decide +kernel⟩, by decide +kernel, wTs_in 695 (by decide +kernel) rfl, wTs_in 36 (by decide +kernel) rfl⟩, wTs_in 694 (by decide +kernel) rfl⟩
set_option maxRecDepth 4000 in
theorem g_L_isDouble {G : wG} (hG : wOk G RL cL_isDouble 4 8 132) {X Y : wM} {o : Int64} {dd : UInt64} {t1 : Nat → Nat} {a1 : Int32} {res : Nat ⊕ Int32} (hE : wEnd G (some .int) (rpG (fun e => if e = 5 then 1 else 0) res (X, Y, o, dd, (t1, [])) (fun z => (X, Y, zL z, dd, (t1, [])))) xp0) (htab : (gc G).exceptionTable.toList = tableOf [(0, 16, 19, 25)]) (h : f_X7_isDouble X a1 = some res) (hcd : ∀ e, res = .inl e → 0 < (fun e => if e = 5 then 1 else 0) e) : J G 4 1 6 0 [(0, .ref (wad (gB G) 0)), (1, .int a1), (2, .ref (wad (gB G) 37))] [] (X, Y, o, dd, (t1, [])) := by
  refine j_aload_n hG 2 (dt dtL_isDouble_0 0 rfl) rfl rfl ?_
  refine j_iconst hG (v := 0) (dt dtL_isDouble_0 1 rfl) (by decide) ?_
  refine j_aload_n hG 0 (dt dtL_isDouble_0 2 rfl) rfl rfl ?_
  refine j_iload_n hG 1 (dt dtL_isDouble_0 3 rfl) rfl rfl ?_
  refine j_callV hG (kc := 0) (ks := 0) (ct_X7_isDouble hG.2.2.1 (gB G) _ _ _ _ _ h) mf_X7_isDouble ml_L_62 0 (cv_0 _ _ _ _) rfl rfl (rest := [.int 0, .ref (wad (gB G) 37)]) rfl (Nat.le_of_ble_eq_true rfl) (dt dtL_isDouble_0 4 rfl) (by decide) (by decide) (fun v σ2 q => ?_) (fun E σ2 q => ?_)
  · obtain ⟨z, rfl, rfl, rfl⟩ := q
    refine J_of (jl_if_eq hG (tgt := 14) (dt dtL_isDouble_0 5 rfl) (by decide) (fun q => J_to ?_) (fun q => J_to ?_))
    · refine j_lconst hG (v := 0) (dt dtL_isDouble_0 8 rfl) (by decide) ?_
      refine j_last hG (dt dtL_isDouble_0 9 rfl) ?_
      refine j_goto hG (tgt := 22) (dt dtL_isDouble_0 10 rfl) (by decide) ?_
      refine j_iconst hG (v := 0) (dt dtL_isDouble_0 14 rfl) (by decide) ?_
      exact j_iret hG hE (Or.inr ⟨_, rfl, rfl, by dsimp only; unfold zL; rw [if_pos q]⟩) (dt dtL_isDouble_0 15 rfl)
    · refine j_lconst hG (v := 1) (dt dtL_isDouble_0 6 rfl) (by decide) ?_
      refine j_goto hG (tgt := 15) (dt dtL_isDouble_0 7 rfl) (by decide) ?_
      refine j_last hG (dt dtL_isDouble_0 9 rfl) ?_
      refine j_goto hG (tgt := 22) (dt dtL_isDouble_0 10 rfl) (by decide) ?_
      refine j_iconst hG (v := 0) (dt dtL_isDouble_0 14 rfl) (by decide) ?_
      exact j_iret hG hE (Or.inr ⟨_, rfl, rfl, by dsimp only; unfold zL; rw [if_neg q]⟩) (dt dtL_isDouble_0 15 rfl)
  · obtain ⟨e, rfl, rfl, rfl⟩ := q
    have hc := hcd _ rfl
    by_cases he0 : e = 5
    · rw [he0]
      refine jx_catch hG htab [] ⟨0, 16, 19, 25⟩ [] rfl (fun _ hz => absurd hz List.not_mem_nil) rfl (by decide) cll_25 cst_5 (fun q => ?_)
      refine j_astore_n hG (lv' := [(3, .ref q), (0, .ref (wad (gB G) 0)), (1, .int a1), (2, .ref (wad (gB G) 37))]) (dt dtL_isDouble_0 11 rfl) rfl (by decide) rfl ?_
      refine j_iconst hG (v := 1) (dt dtL_isDouble_0 12 rfl) (by decide) ?_
      exact j_iret hG hE (Or.inl ⟨_, rfl, by rw [he0]; rfl, rfl⟩) (dt dtL_isDouble_0 13 rfl)
    · exact absurd hc (by simp [he0])
theorem ct_L_isDouble {l : Launch} (hl : l.stackTraces = false) (B : wB) {X Y : wM} {o : Int64} {dd : UInt64} {t1 : Nat → Nat} {a1 : Int32} {res : Nat ⊕ Int32} (h : f_X7_isDouble X a1 = some res) (hcd : ∀ e, res = .inl e → 0 < (fun e => if e = 5 then 1 else 0) e) : wMetH l B yL_isDouble cL_isDouble 4 (some .int) [(0, 16, 19, 25)] 8 132 1 6 [.ref (wad B 0), .int a1, .ref (wad B 37)] (X, Y, o, dd, (t1, [])) (rpG (fun e => if e = 5 then 1 else 0) res (X, Y, o, dd, (t1, [])) (fun z => (X, Y, zL z, dd, (t1, [])))) xp0 :=
  wMetH.of hl (by decide +kernel) (Nat.le_of_ble_eq_true rfl) (wTs_in 702 (by decide +kernel) rfl) (fun G hB hL hG hE ht => by subst hB; exact g_L_isDouble hG hE ht h hcd)
theorem mh_L_isDouble : ((yL_isDouble.cls ≠ "java/lang/invoke/MethodHandle" ∧ yL_isDouble.cls ≠ "java/lang/invoke/VarHandle") ∧ (parseMethodDescriptor yL_isDouble.desc).map (fun d => d.parameters.length) = some 3 ∧ Cond.codeWith yL_isDouble cL_isDouble 4 (some .int) [(0, 16, 19, 25)] ∈ wTs ∧ Cond.initialized yL_isDouble.cls ∈ wTs) ∧ Cond.static yL_isDouble ∈ wTs := ⟨⟨⟨by decide +kernel, by decide +kernel⟩, by decide +kernel, wTs_in 702 (by decide +kernel) rfl, wTs_in 36 (by decide +kernel) rfl⟩, wTs_in 701 (by decide +kernel) rfl⟩
set_option maxRecDepth 4000 in
theorem g_L_matchOf {G : wG} (hG : wOk G RL cL_matchOf 4 8 132) {X Y : wM} {o : Int64} {dd : UInt64} {t1 : Nat → Nat} {a1 : Int32} {res : Nat ⊕ Int32} (hE : wEnd G (some .int) (rpG (fun e => if e = 5 then 1 else if e = 0 then 2 else 0) res (X, Y, o, dd, (t1, [])) (fun z => (X, Y, z.toInt64, dd, (t1, [])))) xp0) (htab : (gc G).exceptionTable.toList = tableOf [(0, 9, 12, 25), (0, 9, 15, 13)]) (h : f_X7_matchOf X a1 = some res) (hcd : ∀ e, res = .inl e → 0 < (fun e => if e = 5 then 1 else if e = 0 then 2 else 0) e) : J G 4 2 12 0 [(0, .ref (wad (gB G) 0)), (1, .int a1), (2, .ref (wad (gB G) 37))] [] (X, Y, o, dd, (t1, [])) := by
  refine j_aload_n hG 2 (dt dtL_matchOf_0 0 rfl) rfl rfl ?_
  refine j_iconst hG (v := 0) (dt dtL_matchOf_0 1 rfl) (by decide) ?_
  refine j_aload_n hG 0 (dt dtL_matchOf_0 2 rfl) rfl rfl ?_
  refine j_iload_n hG 1 (dt dtL_matchOf_0 3 rfl) rfl rfl ?_
  refine j_callV hG (kc := 0) (ks := 0) (ct_X7_matchOf hG.2.2.1 (gB G) _ _ _ _ _ h) mf_X7_matchOf ml_L_66 0 (cv_0 _ _ _ _) rfl rfl (rest := [.int 0, .ref (wad (gB G) 37)]) rfl (Nat.le_of_ble_eq_true rfl) (dt dtL_matchOf_0 4 rfl) (by decide) (by decide) (fun v σ2 q => ?_) (fun E σ2 q => ?_)
  · obtain ⟨z, rfl, rfl, rfl⟩ := q
    refine j_i2l hG (dt dtL_matchOf_0 5 rfl) ?_
    refine j_last hG (dt dtL_matchOf_0 6 rfl) ?_
    refine j_goto hG (tgt := 18) (dt dtL_matchOf_0 7 rfl) (by decide) ?_
    refine j_iconst hG (v := 0) (dt dtL_matchOf_0 14 rfl) (by decide) ?_
    exact j_iret hG hE (Or.inr ⟨_, rfl, rfl, rfl⟩) (dt dtL_matchOf_0 15 rfl)
  · obtain ⟨e, rfl, rfl, rfl⟩ := q
    have hc := hcd _ rfl
    by_cases he0 : e = 5
    · rw [he0]
      refine jx_catch hG htab [] ⟨0, 9, 12, 25⟩ [⟨0, 9, 15, 13⟩] rfl (fun _ hz => absurd hz List.not_mem_nil) rfl (by decide) cll_25 cst_5 (fun q => ?_)
      refine j_astore_n hG (lv' := [(3, .ref q), (0, .ref (wad (gB G) 0)), (1, .int a1), (2, .ref (wad (gB G) 37))]) (dt dtL_matchOf_0 8 rfl) rfl (by decide) rfl ?_
      refine j_iconst hG (v := 1) (dt dtL_matchOf_0 9 rfl) (by decide) ?_
      exact j_iret hG hE (Or.inl ⟨_, rfl, by rw [he0]; rfl, rfl⟩) (dt dtL_matchOf_0 10 rfl)
    · by_cases he1 : e = 0
      · rw [he1]
        refine jx_catch hG htab [⟨0, 9, 12, 25⟩] ⟨0, 9, 15, 13⟩ [] rfl (List.forall_mem_cons.mpr ⟨Or.inr ⟨by decide, _, 4, cll_25, rfl⟩, (fun _ hz => absurd hz List.not_mem_nil)⟩) rfl (by decide) cll_13 cst_0 (fun q => ?_)
        refine j_astore_n hG (lv' := [(3, .ref q), (0, .ref (wad (gB G) 0)), (1, .int a1), (2, .ref (wad (gB G) 37))]) (dt dtL_matchOf_0 11 rfl) rfl (by decide) rfl ?_
        refine j_iconst hG (v := 2) (dt dtL_matchOf_0 12 rfl) (by decide) ?_
        exact j_iret hG hE (Or.inl ⟨_, rfl, by rw [he1]; rfl, rfl⟩) (dt dtL_matchOf_0 13 rfl)
      · exact absurd hc (by simp [he0, he1])
theorem ct_L_matchOf {l : Launch} (hl : l.stackTraces = false) (B : wB) {X Y : wM} {o : Int64} {dd : UInt64} {t1 : Nat → Nat} {a1 : Int32} {res : Nat ⊕ Int32} (h : f_X7_matchOf X a1 = some res) (hcd : ∀ e, res = .inl e → 0 < (fun e => if e = 5 then 1 else if e = 0 then 2 else 0) e) : wMetH l B yL_matchOf cL_matchOf 4 (some .int) [(0, 9, 12, 25), (0, 9, 15, 13)] 8 132 2 12 [.ref (wad B 0), .int a1, .ref (wad B 37)] (X, Y, o, dd, (t1, [])) (rpG (fun e => if e = 5 then 1 else if e = 0 then 2 else 0) res (X, Y, o, dd, (t1, [])) (fun z => (X, Y, z.toInt64, dd, (t1, [])))) xp0 :=
  wMetH.of hl (by decide +kernel) (Nat.le_of_ble_eq_true rfl) (wTs_in 709 (by decide +kernel) rfl) (fun G hB hL hG hE ht => by subst hB; exact g_L_matchOf hG hE ht h hcd)
theorem mh_L_matchOf : ((yL_matchOf.cls ≠ "java/lang/invoke/MethodHandle" ∧ yL_matchOf.cls ≠ "java/lang/invoke/VarHandle") ∧ (parseMethodDescriptor yL_matchOf.desc).map (fun d => d.parameters.length) = some 3 ∧ Cond.codeWith yL_matchOf cL_matchOf 4 (some .int) [(0, 9, 12, 25), (0, 9, 15, 13)] ∈ wTs ∧ Cond.initialized yL_matchOf.cls ∈ wTs) ∧ Cond.static yL_matchOf ∈ wTs := ⟨⟨⟨by decide +kernel, by decide +kernel⟩, by decide +kernel, wTs_in 709 (by decide +kernel) rfl, wTs_in 36 (by decide +kernel) rfl⟩, wTs_in 708 (by decide +kernel) rfl⟩
set_option maxRecDepth 4000 in
theorem g_L_count {G : wG} (hG : wOk G RL cL_count 5 8 133) {X Y : wM} {o : Int64} {dd : UInt64} {t1 : Nat → Nat} {a1 : Int32} {a2 : Int32} {res : Nat ⊕ Int32} (hE : wEnd G (some .int) (rpG (fun e => if e = 2 then 1 else if e = 1 then 2 else 0) res (X, Y, o, dd, (t1, [])) (fun z => (X, Y, z.toInt64, dd, (t1, [])))) xp0) (htab : (gc G).exceptionTable.toList = tableOf [(0, 10, 13, 19), (0, 10, 17, 30)]) (h : f_X7_count X a1 a2 = some res) (hcd : ∀ e, res = .inl e → 0 < (fun e => if e = 2 then 1 else if e = 1 then 2 else 0) e) : J G 5 2 12 0 [(0, .ref (wad (gB G) 0)), (1, .int a1), (2, .int a2), (3, .ref (wad (gB G) 37))] [] (X, Y, o, dd, (t1, [])) := by
  refine j_aload_n hG 3 (dt dtL_count_0 0 rfl) rfl rfl ?_
  refine j_iconst hG (v := 0) (dt dtL_count_0 1 rfl) (by decide) ?_
  refine j_aload_n hG 0 (dt dtL_count_0 2 rfl) rfl rfl ?_
  refine j_iload_n hG 1 (dt dtL_count_0 3 rfl) rfl rfl ?_
  refine j_iload_n hG 2 (dt dtL_count_0 4 rfl) rfl rfl ?_
  refine j_callV hG (kc := 0) (ks := 0) (ct_X7_count hG.2.2.1 (gB G) _ _ _ _ _ h) mf_X7_count ml_L_69 0 (cv_0 _ _ _ _) rfl rfl (rest := [.int 0, .ref (wad (gB G) 37)]) rfl (Nat.le_of_ble_eq_true rfl) (dt dtL_count_0 5 rfl) (by decide) (by decide) (fun v σ2 q => ?_) (fun E σ2 q => ?_)
  · obtain ⟨z, rfl, rfl, rfl⟩ := q
    refine j_i2l hG (dt dtL_count_0 6 rfl) ?_
    refine j_last hG (dt dtL_count_0 7 rfl) ?_
    refine j_goto hG (tgt := 21) (dt dtL_count_0 8 rfl) (by decide) ?_
    refine j_iconst hG (v := 0) (dt dtL_count_0 15 rfl) (by decide) ?_
    exact j_iret hG hE (Or.inr ⟨_, rfl, rfl, rfl⟩) (dt dtL_count_0 16 rfl)
  · obtain ⟨e, rfl, rfl, rfl⟩ := q
    have hc := hcd _ rfl
    by_cases he0 : e = 2
    · rw [he0]
      refine jx_catch hG htab [] ⟨0, 10, 13, 19⟩ [⟨0, 10, 17, 30⟩] rfl (fun _ hz => absurd hz List.not_mem_nil) rfl (by decide) cll_19 cst_2 (fun q => ?_)
      refine j_astore hG (lv' := [(4, .ref q), (0, .ref (wad (gB G) 0)), (1, .int a1), (2, .int a2), (3, .ref (wad (gB G) 37))]) (dt dtL_count_0 9 rfl) (by decide) rfl ?_
      refine j_iconst hG (v := 1) (dt dtL_count_0 10 rfl) (by decide) ?_
      exact j_iret hG hE (Or.inl ⟨_, rfl, by rw [he0]; rfl, rfl⟩) (dt dtL_count_0 11 rfl)
    · by_cases he1 : e = 1
      · rw [he1]
        refine jx_catch hG htab [⟨0, 10, 13, 19⟩] ⟨0, 10, 17, 30⟩ [] rfl (List.forall_mem_cons.mpr ⟨Or.inr ⟨by decide, _, 6, cll_19, rfl⟩, (fun _ hz => absurd hz List.not_mem_nil)⟩) rfl (by decide) cll_30 cst_1 (fun q => ?_)
        refine j_astore hG (lv' := [(4, .ref q), (0, .ref (wad (gB G) 0)), (1, .int a1), (2, .int a2), (3, .ref (wad (gB G) 37))]) (dt dtL_count_0 12 rfl) (by decide) rfl ?_
        refine j_iconst hG (v := 2) (dt dtL_count_0 13 rfl) (by decide) ?_
        exact j_iret hG hE (Or.inl ⟨_, rfl, by rw [he1]; rfl, rfl⟩) (dt dtL_count_0 14 rfl)
      · exact absurd hc (by simp [he0, he1])
theorem ct_L_count {l : Launch} (hl : l.stackTraces = false) (B : wB) {X Y : wM} {o : Int64} {dd : UInt64} {t1 : Nat → Nat} {a1 : Int32} {a2 : Int32} {res : Nat ⊕ Int32} (h : f_X7_count X a1 a2 = some res) (hcd : ∀ e, res = .inl e → 0 < (fun e => if e = 2 then 1 else if e = 1 then 2 else 0) e) : wMetH l B yL_count cL_count 5 (some .int) [(0, 10, 13, 19), (0, 10, 17, 30)] 8 133 2 12 [.ref (wad B 0), .int a1, .int a2, .ref (wad B 37)] (X, Y, o, dd, (t1, [])) (rpG (fun e => if e = 2 then 1 else if e = 1 then 2 else 0) res (X, Y, o, dd, (t1, [])) (fun z => (X, Y, z.toInt64, dd, (t1, [])))) xp0 :=
  wMetH.of hl (by decide +kernel) (Nat.le_of_ble_eq_true rfl) (wTs_in 717 (by decide +kernel) rfl) (fun G hB hL hG hE ht => by subst hB; exact g_L_count hG hE ht h hcd)
theorem mh_L_count : ((yL_count.cls ≠ "java/lang/invoke/MethodHandle" ∧ yL_count.cls ≠ "java/lang/invoke/VarHandle") ∧ (parseMethodDescriptor yL_count.desc).map (fun d => d.parameters.length) = some 4 ∧ Cond.codeWith yL_count cL_count 5 (some .int) [(0, 10, 13, 19), (0, 10, 17, 30)] ∈ wTs ∧ Cond.initialized yL_count.cls ∈ wTs) ∧ Cond.static yL_count ∈ wTs := ⟨⟨⟨by decide +kernel, by decide +kernel⟩, by decide +kernel, wTs_in 717 (by decide +kernel) rfl, wTs_in 36 (by decide +kernel) rfl⟩, wTs_in 716 (by decide +kernel) rfl⟩
set_option maxRecDepth 4000 in
theorem g_L_countAnew {G : wG} (hG : wOk G RL cL_countAnew 5 8 135) {X Y : wM} {o : Int64} {dd : UInt64} {t1 : Nat → Nat} {a1 : Int32} {a2 : Int32} {res : (Nat × wM) ⊕ (Int32 × wM)} (hE : wEnd G (some .int) (rpM (fun e => if e = 2 then 1 else if e = 1 then 2 else 0) res Y o dd) xp0) (htab : (gc G).exceptionTable.toList = tableOf [(0, 10, 13, 19), (0, 10, 17, 30)]) (h : f_X7_countAnew X a1 a2 = some res) (hcd : ∀ e X9, res = .inl (e, X9) → 0 < (fun e => if e = 2 then 1 else if e = 1 then 2 else 0) e) : J G 5 2 12 0 [(0, .ref (wad (gB G) 0)), (1, .int a1), (2, .int a2), (3, .ref (wad (gB G) 37))] [] (X, Y, o, dd, (t1, [])) := by
  refine j_aload_n hG 3 (dt dtL_countAnew_0 0 rfl) rfl rfl ?_
  refine j_iconst hG (v := 0) (dt dtL_countAnew_0 1 rfl) (by decide) ?_
  refine j_aload_n hG 0 (dt dtL_countAnew_0 2 rfl) rfl rfl ?_
  refine j_iload_n hG 1 (dt dtL_countAnew_0 3 rfl) rfl rfl ?_
  refine j_iload_n hG 2 (dt dtL_countAnew_0 4 rfl) rfl rfl ?_
  refine j_callV hG (kc := 0) (ks := 0) (ct_X7_countAnew hG.2.2.1 (gB G) _ _ _ _ _ h) mf_X7_countAnew ml_L_72 0 (cv_0 _ _ _ _) rfl rfl (rest := [.int 0, .ref (wad (gB G) 37)]) rfl (Nat.le_of_ble_eq_true rfl) (dt dtL_countAnew_0 5 rfl) (by decide) (by decide) (fun v σ2 q => ?_) (fun E σ2 q => ?_)
  · obtain ⟨z, rfl, rfl, rfl⟩ := q
    refine j_i2l hG (dt dtL_countAnew_0 6 rfl) ?_
    refine j_last hG (dt dtL_countAnew_0 7 rfl) ?_
    refine j_goto hG (tgt := 21) (dt dtL_countAnew_0 8 rfl) (by decide) ?_
    refine j_iconst hG (v := 0) (dt dtL_countAnew_0 15 rfl) (by decide) ?_
    exact j_iret hG hE ⟨t1, Or.inr ⟨_, _, rfl, rfl, rfl⟩⟩ (dt dtL_countAnew_0 16 rfl)
  · obtain ⟨⟨e, X9⟩, rfl, rfl, rfl⟩ := q
    have hc := hcd _ _ rfl
    dsimp only at hc ⊢
    by_cases he0 : e = 2
    · rw [he0]
      refine jx_catch hG htab [] ⟨0, 10, 13, 19⟩ [⟨0, 10, 17, 30⟩] rfl (fun _ hz => absurd hz List.not_mem_nil) rfl (by decide) cll_19 cst_2 (fun q => ?_)
      refine j_astore hG (lv' := [(4, .ref q), (0, .ref (wad (gB G) 0)), (1, .int a1), (2, .int a2), (3, .ref (wad (gB G) 37))]) (dt dtL_countAnew_0 9 rfl) (by decide) rfl ?_
      refine j_iconst hG (v := 1) (dt dtL_countAnew_0 10 rfl) (by decide) ?_
      exact j_iret hG hE ⟨t1, Or.inl ⟨_, _, rfl, by rw [he0]; rfl, rfl⟩⟩ (dt dtL_countAnew_0 11 rfl)
    · by_cases he1 : e = 1
      · rw [he1]
        refine jx_catch hG htab [⟨0, 10, 13, 19⟩] ⟨0, 10, 17, 30⟩ [] rfl (List.forall_mem_cons.mpr ⟨Or.inr ⟨by decide, _, 6, cll_19, rfl⟩, (fun _ hz => absurd hz List.not_mem_nil)⟩) rfl (by decide) cll_30 cst_1 (fun q => ?_)
        refine j_astore hG (lv' := [(4, .ref q), (0, .ref (wad (gB G) 0)), (1, .int a1), (2, .int a2), (3, .ref (wad (gB G) 37))]) (dt dtL_countAnew_0 12 rfl) (by decide) rfl ?_
        refine j_iconst hG (v := 2) (dt dtL_countAnew_0 13 rfl) (by decide) ?_
        exact j_iret hG hE ⟨t1, Or.inl ⟨_, _, rfl, by rw [he1]; rfl, rfl⟩⟩ (dt dtL_countAnew_0 14 rfl)
      · exact absurd hc (by simp [he0, he1])
theorem ct_L_countAnew {l : Launch} (hl : l.stackTraces = false) (B : wB) {X Y : wM} {o : Int64} {dd : UInt64} {t1 : Nat → Nat} {a1 : Int32} {a2 : Int32} {res : (Nat × wM) ⊕ (Int32 × wM)} (h : f_X7_countAnew X a1 a2 = some res) (hcd : ∀ e X9, res = .inl (e, X9) → 0 < (fun e => if e = 2 then 1 else if e = 1 then 2 else 0) e) : wMetH l B yL_countAnew cL_countAnew 5 (some .int) [(0, 10, 13, 19), (0, 10, 17, 30)] 8 135 2 12 [.ref (wad B 0), .int a1, .int a2, .ref (wad B 37)] (X, Y, o, dd, (t1, [])) (rpM (fun e => if e = 2 then 1 else if e = 1 then 2 else 0) res Y o dd) xp0 :=
  wMetH.of hl (by decide +kernel) (Nat.le_of_ble_eq_true rfl) (wTs_in 729 (by decide +kernel) rfl) (fun G hB hL hG hE ht => by subst hB; exact g_L_countAnew hG hE ht h hcd)
theorem mh_L_countAnew : ((yL_countAnew.cls ≠ "java/lang/invoke/MethodHandle" ∧ yL_countAnew.cls ≠ "java/lang/invoke/VarHandle") ∧ (parseMethodDescriptor yL_countAnew.desc).map (fun d => d.parameters.length) = some 4 ∧ Cond.codeWith yL_countAnew cL_countAnew 5 (some .int) [(0, 10, 13, 19), (0, 10, 17, 30)] ∈ wTs ∧ Cond.initialized yL_countAnew.cls ∈ wTs) ∧ Cond.static yL_countAnew ∈ wTs := ⟨⟨⟨by decide +kernel, by decide +kernel⟩, by decide +kernel, wTs_in 729 (by decide +kernel) rfl, wTs_in 36 (by decide +kernel) rfl⟩, wTs_in 728 (by decide +kernel) rfl⟩
set_option maxRecDepth 4000 in
theorem g_L_estimate {G : wG} (hG : wOk G RL cL_estimate 3 7 111) {X Y : wM} {o : Int64} {dd : UInt64} {t1 : Nat → Nat} {res : Nat ⊕ Int64} (hE : wEnd G (some .int) (rpG (fun e => if e = 3 then 1 else 0) res (X, Y, o, dd, (t1, [])) (fun z => (X, Y, z, dd, (t1, [])))) xp0) (htab : (gc G).exceptionTable.toList = tableOf [(0, 7, 10, 79)]) (h : f_X7_estimate X = some res) (hcd : ∀ e, res = .inl e → 0 < (fun e => if e = 3 then 1 else 0) e) : J G 3 1 6 0 [(0, .ref (wad (gB G) 0)), (1, .ref (wad (gB G) 37))] [] (X, Y, o, dd, (t1, [])) := by
  refine j_aload_n hG 1 (dt dtL_estimate_0 0 rfl) rfl rfl ?_
  refine j_iconst hG (v := 0) (dt dtL_estimate_0 1 rfl) (by decide) ?_
  refine j_aload_n hG 0 (dt dtL_estimate_0 2 rfl) rfl rfl ?_
  refine j_callV hG (kc := 0) (ks := 0) (ct_X7_estimate hG.2.2.1 (gB G) _ _ _ _ _ h) mf_X7_estimate ml_L_75 0 (cv_0 _ _ _ _) rfl rfl (rest := [.int 0, .ref (wad (gB G) 37)]) rfl (Nat.le_of_ble_eq_true rfl) (dt dtL_estimate_0 3 rfl) (by decide) (by decide) (fun v σ2 q => ?_) (fun E σ2 q => ?_)
  · obtain ⟨z, rfl, rfl, rfl⟩ := q
    refine j_last hG (dt dtL_estimate_0 4 rfl) ?_
    refine j_goto hG (tgt := 13) (dt dtL_estimate_0 5 rfl) (by decide) ?_
    refine j_iconst hG (v := 0) (dt dtL_estimate_0 9 rfl) (by decide) ?_
    exact j_iret hG hE (Or.inr ⟨_, rfl, rfl, rfl⟩) (dt dtL_estimate_0 10 rfl)
  · obtain ⟨e, rfl, rfl, rfl⟩ := q
    have hc := hcd _ rfl
    by_cases he0 : e = 3
    · rw [he0]
      refine jx_catch hG htab [] ⟨0, 7, 10, 79⟩ [] rfl (fun _ hz => absurd hz List.not_mem_nil) rfl (by decide) cll_79 cst_3 (fun q => ?_)
      refine j_astore_n hG (lv' := [(2, .ref q), (0, .ref (wad (gB G) 0)), (1, .ref (wad (gB G) 37))]) (dt dtL_estimate_0 6 rfl) rfl (by decide) rfl ?_
      refine j_iconst hG (v := 1) (dt dtL_estimate_0 7 rfl) (by decide) ?_
      exact j_iret hG hE (Or.inl ⟨_, rfl, by rw [he0]; rfl, rfl⟩) (dt dtL_estimate_0 8 rfl)
    · exact absurd hc (by simp [he0])
theorem ct_L_estimate {l : Launch} (hl : l.stackTraces = false) (B : wB) {X Y : wM} {o : Int64} {dd : UInt64} {t1 : Nat → Nat} {res : Nat ⊕ Int64} (h : f_X7_estimate X = some res) (hcd : ∀ e, res = .inl e → 0 < (fun e => if e = 3 then 1 else 0) e) : wMetH l B yL_estimate cL_estimate 3 (some .int) [(0, 7, 10, 79)] 7 111 1 6 [.ref (wad B 0), .ref (wad B 37)] (X, Y, o, dd, (t1, [])) (rpG (fun e => if e = 3 then 1 else 0) res (X, Y, o, dd, (t1, [])) (fun z => (X, Y, z, dd, (t1, [])))) xp0 :=
  wMetH.of hl (by decide +kernel) (Nat.le_of_ble_eq_true rfl) (wTs_in 736 (by decide +kernel) rfl) (fun G hB hL hG hE ht => by subst hB; exact g_L_estimate hG hE ht h hcd)
theorem mh_L_estimate : ((yL_estimate.cls ≠ "java/lang/invoke/MethodHandle" ∧ yL_estimate.cls ≠ "java/lang/invoke/VarHandle") ∧ (parseMethodDescriptor yL_estimate.desc).map (fun d => d.parameters.length) = some 2 ∧ Cond.codeWith yL_estimate cL_estimate 3 (some .int) [(0, 7, 10, 79)] ∈ wTs ∧ Cond.initialized yL_estimate.cls ∈ wTs) ∧ Cond.static yL_estimate ∈ wTs := ⟨⟨⟨by decide +kernel, by decide +kernel⟩, by decide +kernel, wTs_in 736 (by decide +kernel) rfl, wTs_in 36 (by decide +kernel) rfl⟩, wTs_in 735 (by decide +kernel) rfl⟩
set_option maxRecDepth 4000 in
theorem g_L_doubleShare {G : wG} (hG : wOk G RL cL_doubleShare 3 7 111) {X Y : wM} {o : Int64} {dd : UInt64} {t1 : Nat → Nat} {res : Nat ⊕ UInt32} (hE : wEnd G (some .int) (rpG (fun e => if e = 3 then 1 else 0) res (X, Y, o, dd, (t1, [])) (fun z => (X, Y, o, FP.f2d z, (t1, [])))) xp0) (htab : (gc G).exceptionTable.toList = tableOf [(0, 8, 11, 79)]) (h : f_X7_doubleShare X = some res) (hcd : ∀ e, res = .inl e → 0 < (fun e => if e = 3 then 1 else 0) e) (hnn : ∀ z, res = .inr z → wnn64 (FP.f2d z) = true) : J G 3 1 6 0 [(0, .ref (wad (gB G) 0)), (1, .ref (wad (gB G) 38))] [] (X, Y, o, dd, (t1, [])) := by
  refine j_aload_n hG 1 (dt dtL_doubleShare_0 0 rfl) rfl rfl ?_
  refine j_iconst hG (v := 0) (dt dtL_doubleShare_0 1 rfl) (by decide) ?_
  refine j_aload_n hG 0 (dt dtL_doubleShare_0 2 rfl) rfl rfl ?_
  refine j_callV hG (kc := 0) (ks := 0) (ct_X7_doubleShare hG.2.2.1 (gB G) _ _ _ _ _ h) mf_X7_doubleShare ml_L_81 0 (cv_0 _ _ _ _) rfl rfl (rest := [.int 0, .ref (wad (gB G) 38)]) rfl (Nat.le_of_ble_eq_true rfl) (dt dtL_doubleShare_0 3 rfl) (by decide) (by decide) (fun v σ2 q => ?_) (fun E σ2 q => ?_)
  · obtain ⟨z, rfl, rfl, rfl⟩ := q
    refine j_f2d hG (dt dtL_doubleShare_0 4 rfl) (wnn64_ok (hnn _ rfl)) ?_
    refine j_dast hG (dt dtL_doubleShare_0 5 rfl) ?_
    refine j_goto hG (tgt := 14) (dt dtL_doubleShare_0 6 rfl) (by decide) ?_
    refine j_iconst hG (v := 0) (dt dtL_doubleShare_0 10 rfl) (by decide) ?_
    exact j_iret hG hE (Or.inr ⟨_, rfl, rfl, rfl⟩) (dt dtL_doubleShare_0 11 rfl)
  · obtain ⟨e, rfl, rfl, rfl⟩ := q
    have hc := hcd _ rfl
    by_cases he0 : e = 3
    · rw [he0]
      refine jx_catch hG htab [] ⟨0, 8, 11, 79⟩ [] rfl (fun _ hz => absurd hz List.not_mem_nil) rfl (by decide) cll_79 cst_3 (fun q => ?_)
      refine j_astore_n hG (lv' := [(2, .ref q), (0, .ref (wad (gB G) 0)), (1, .ref (wad (gB G) 38))]) (dt dtL_doubleShare_0 7 rfl) rfl (by decide) rfl ?_
      refine j_iconst hG (v := 1) (dt dtL_doubleShare_0 8 rfl) (by decide) ?_
      exact j_iret hG hE (Or.inl ⟨_, rfl, by rw [he0]; rfl, rfl⟩) (dt dtL_doubleShare_0 9 rfl)
    · exact absurd hc (by simp [he0])
theorem ct_L_doubleShare {l : Launch} (hl : l.stackTraces = false) (B : wB) {X Y : wM} {o : Int64} {dd : UInt64} {t1 : Nat → Nat} {res : Nat ⊕ UInt32} (h : f_X7_doubleShare X = some res) (hcd : ∀ e, res = .inl e → 0 < (fun e => if e = 3 then 1 else 0) e) (hnn : ∀ z, res = .inr z → wnn64 (FP.f2d z) = true) : wMetH l B yL_doubleShare cL_doubleShare 3 (some .int) [(0, 8, 11, 79)] 7 111 1 6 [.ref (wad B 0), .ref (wad B 38)] (X, Y, o, dd, (t1, [])) (rpG (fun e => if e = 3 then 1 else 0) res (X, Y, o, dd, (t1, [])) (fun z => (X, Y, o, FP.f2d z, (t1, [])))) xp0 :=
  wMetH.of hl (by decide +kernel) (Nat.le_of_ble_eq_true rfl) (wTs_in 760 (by decide +kernel) rfl) (fun G hB hL hG hE ht => by subst hB; exact g_L_doubleShare hG hE ht h hcd hnn)
theorem mh_L_doubleShare : ((yL_doubleShare.cls ≠ "java/lang/invoke/MethodHandle" ∧ yL_doubleShare.cls ≠ "java/lang/invoke/VarHandle") ∧ (parseMethodDescriptor yL_doubleShare.desc).map (fun d => d.parameters.length) = some 2 ∧ Cond.codeWith yL_doubleShare cL_doubleShare 3 (some .int) [(0, 8, 11, 79)] ∈ wTs ∧ Cond.initialized yL_doubleShare.cls ∈ wTs) ∧ Cond.static yL_doubleShare ∈ wTs := ⟨⟨⟨by decide +kernel, by decide +kernel⟩, by decide +kernel, wTs_in 760 (by decide +kernel) rfl, wTs_in 36 (by decide +kernel) rfl⟩, wTs_in 759 (by decide +kernel) rfl⟩
set_option maxRecDepth 4000 in
theorem g_L_meanScore {G : wG} (hG : wOk G RL cL_meanScore 3 7 110) {X Y : wM} {o : Int64} {dd : UInt64} {t1 : Nat → Nat} {res : Nat ⊕ UInt64} (hE : wEnd G (some .int) (rpG (fun e => if e = 3 then 1 else 0) res (X, Y, o, dd, (t1, [])) (fun z => (X, Y, o, z, (t1, [])))) xp0) (htab : (gc G).exceptionTable.toList = tableOf [(0, 7, 10, 79)]) (h : f_X7_meanScore X = some res) (hcd : ∀ e, res = .inl e → 0 < (fun e => if e = 3 then 1 else 0) e) : J G 3 1 6 0 [(0, .ref (wad (gB G) 0)), (1, .ref (wad (gB G) 38))] [] (X, Y, o, dd, (t1, [])) := by
  refine j_aload_n hG 1 (dt dtL_meanScore_0 0 rfl) rfl rfl ?_
  refine j_iconst hG (v := 0) (dt dtL_meanScore_0 1 rfl) (by decide) ?_
  refine j_aload_n hG 0 (dt dtL_meanScore_0 2 rfl) rfl rfl ?_
  refine j_callV hG (kc := 0) (ks := 0) (ct_X7_meanScore hG.2.2.1 (gB G) _ _ _ _ _ h) mf_X7_meanScore ml_L_85 0 (cv_0 _ _ _ _) rfl rfl (rest := [.int 0, .ref (wad (gB G) 38)]) rfl (Nat.le_of_ble_eq_true rfl) (dt dtL_meanScore_0 3 rfl) (by decide) (by decide) (fun v σ2 q => ?_) (fun E σ2 q => ?_)
  · obtain ⟨z, rfl, rfl, rfl⟩ := q
    refine j_dast hG (dt dtL_meanScore_0 4 rfl) ?_
    refine j_goto hG (tgt := 13) (dt dtL_meanScore_0 5 rfl) (by decide) ?_
    refine j_iconst hG (v := 0) (dt dtL_meanScore_0 9 rfl) (by decide) ?_
    exact j_iret hG hE (Or.inr ⟨_, rfl, rfl, rfl⟩) (dt dtL_meanScore_0 10 rfl)
  · obtain ⟨e, rfl, rfl, rfl⟩ := q
    have hc := hcd _ rfl
    by_cases he0 : e = 3
    · rw [he0]
      refine jx_catch hG htab [] ⟨0, 7, 10, 79⟩ [] rfl (fun _ hz => absurd hz List.not_mem_nil) rfl (by decide) cll_79 cst_3 (fun q => ?_)
      refine j_astore_n hG (lv' := [(2, .ref q), (0, .ref (wad (gB G) 0)), (1, .ref (wad (gB G) 38))]) (dt dtL_meanScore_0 6 rfl) rfl (by decide) rfl ?_
      refine j_iconst hG (v := 1) (dt dtL_meanScore_0 7 rfl) (by decide) ?_
      exact j_iret hG hE (Or.inl ⟨_, rfl, by rw [he0]; rfl, rfl⟩) (dt dtL_meanScore_0 8 rfl)
    · exact absurd hc (by simp [he0])
theorem ct_L_meanScore {l : Launch} (hl : l.stackTraces = false) (B : wB) {X Y : wM} {o : Int64} {dd : UInt64} {t1 : Nat → Nat} {res : Nat ⊕ UInt64} (h : f_X7_meanScore X = some res) (hcd : ∀ e, res = .inl e → 0 < (fun e => if e = 3 then 1 else 0) e) : wMetH l B yL_meanScore cL_meanScore 3 (some .int) [(0, 7, 10, 79)] 7 110 1 6 [.ref (wad B 0), .ref (wad B 38)] (X, Y, o, dd, (t1, [])) (rpG (fun e => if e = 3 then 1 else 0) res (X, Y, o, dd, (t1, [])) (fun z => (X, Y, o, z, (t1, [])))) xp0 :=
  wMetH.of hl (by decide +kernel) (Nat.le_of_ble_eq_true rfl) (wTs_in 768 (by decide +kernel) rfl) (fun G hB hL hG hE ht => by subst hB; exact g_L_meanScore hG hE ht h hcd)
theorem mh_L_meanScore : ((yL_meanScore.cls ≠ "java/lang/invoke/MethodHandle" ∧ yL_meanScore.cls ≠ "java/lang/invoke/VarHandle") ∧ (parseMethodDescriptor yL_meanScore.desc).map (fun d => d.parameters.length) = some 2 ∧ Cond.codeWith yL_meanScore cL_meanScore 3 (some .int) [(0, 7, 10, 79)] ∈ wTs ∧ Cond.initialized yL_meanScore.cls ∈ wTs) ∧ Cond.static yL_meanScore ∈ wTs := ⟨⟨⟨by decide +kernel, by decide +kernel⟩, by decide +kernel, wTs_in 768 (by decide +kernel) rfl, wTs_in 36 (by decide +kernel) rfl⟩, wTs_in 767 (by decide +kernel) rfl⟩
set_option maxRecDepth 4000 in
theorem g_L_tell {G : wG} (hG : wOk G RL cL_tell 3 9 240) {X Y : wM} {o : Int64} {dd : UInt64} {t1 : Nat → Nat} {res : (Nat × wM) ⊕ (Int32 × wM)} (hE : wEnd G (some .int) (rpM (fun e => if e = 0 then 1 else if e = 4 then 2 else 0) res Y o dd) xp0) (htab : (gc G).exceptionTable.toList = tableOf [(0, 8, 11, 13), (0, 8, 14, 53)]) (h : f_X7_tell X = some res) (hcd : ∀ e X9, res = .inl (e, X9) → 0 < (fun e => if e = 0 then 1 else if e = 4 then 2 else 0) e) : J G 3 12 3459 0 [(0, .ref (wad (gB G) 0)), (1, .ref (wad (gB G) 37))] [] (X, Y, o, dd, (t1, [])) := by
  refine j_aload_n hG 1 (dt dtL_tell_0 0 rfl) rfl rfl ?_
  refine j_iconst hG (v := 0) (dt dtL_tell_0 1 rfl) (by decide) ?_
  refine j_aload_n hG 0 (dt dtL_tell_0 2 rfl) rfl rfl ?_
  refine j_callV hG (kc := 0) (ks := 0) (ct_X7_tell hG.2.2.1 (gB G) h) mf_X7_tell ml_L_89 0 (cv_0 _ _ _ _) rfl rfl (rest := [.int 0, .ref (wad (gB G) 37)]) rfl (Nat.le_of_ble_eq_true rfl) (dt dtL_tell_0 3 rfl) (by decide) (by decide) (fun v σ2 q => ?_) (fun E σ2 q => ?_)
  · obtain ⟨z, rfl, rfl, t2, rfl⟩ := q
    refine j_i2l hG (dt dtL_tell_0 4 rfl) ?_
    refine j_last hG (dt dtL_tell_0 5 rfl) ?_
    refine j_goto hG (tgt := 17) (dt dtL_tell_0 6 rfl) (by decide) ?_
    refine j_iconst hG (v := 0) (dt dtL_tell_0 13 rfl) (by decide) ?_
    exact j_iret hG hE ⟨t2, Or.inr ⟨_, _, rfl, rfl, rfl⟩⟩ (dt dtL_tell_0 14 rfl)
  · obtain ⟨⟨e, X9⟩, rfl, rfl, rfl⟩ := q
    have hc := hcd _ _ rfl
    dsimp only at hc ⊢
    by_cases he0 : e = 0
    · rw [he0]
      refine jx_catch hG htab [] ⟨0, 8, 11, 13⟩ [⟨0, 8, 14, 53⟩] rfl (fun _ hz => absurd hz List.not_mem_nil) rfl (by decide) cll_13 cst_0 (fun q => ?_)
      refine j_astore_n hG (lv' := [(2, .ref q), (0, .ref (wad (gB G) 0)), (1, .ref (wad (gB G) 37))]) (dt dtL_tell_0 7 rfl) rfl (by decide) rfl ?_
      refine j_iconst hG (v := 1) (dt dtL_tell_0 8 rfl) (by decide) ?_
      exact j_iret hG hE ⟨t1, Or.inl ⟨_, _, rfl, by rw [he0]; rfl, rfl⟩⟩ (dt dtL_tell_0 9 rfl)
    · by_cases he1 : e = 4
      · rw [he1]
        refine jx_catch hG htab [⟨0, 8, 11, 13⟩] ⟨0, 8, 14, 53⟩ [] rfl (List.forall_mem_cons.mpr ⟨Or.inr ⟨by decide, _, 20, cll_13, rfl⟩, (fun _ hz => absurd hz List.not_mem_nil)⟩) rfl (by decide) cll_53 cst_4 (fun q => ?_)
        refine j_astore_n hG (lv' := [(2, .ref q), (0, .ref (wad (gB G) 0)), (1, .ref (wad (gB G) 37))]) (dt dtL_tell_0 10 rfl) rfl (by decide) rfl ?_
        refine j_iconst hG (v := 2) (dt dtL_tell_0 11 rfl) (by decide) ?_
        exact j_iret hG hE ⟨t1, Or.inl ⟨_, _, rfl, by rw [he1]; rfl, rfl⟩⟩ (dt dtL_tell_0 12 rfl)
      · exact absurd hc (by simp [he0, he1])
theorem ct_L_tell {l : Launch} (hl : l.stackTraces = false) (B : wB) {X Y : wM} {o : Int64} {dd : UInt64} {t1 : Nat → Nat} {res : (Nat × wM) ⊕ (Int32 × wM)} (h : f_X7_tell X = some res) (hcd : ∀ e X9, res = .inl (e, X9) → 0 < (fun e => if e = 0 then 1 else if e = 4 then 2 else 0) e) : wMetH l B yL_tell cL_tell 3 (some .int) [(0, 8, 11, 13), (0, 8, 14, 53)] 9 240 12 3459 [.ref (wad B 0), .ref (wad B 37)] (X, Y, o, dd, (t1, [])) (rpM (fun e => if e = 0 then 1 else if e = 4 then 2 else 0) res Y o dd) xp0 :=
  wMetH.of hl (by decide +kernel) (Nat.le_of_ble_eq_true rfl) (wTs_in 775 (by decide +kernel) rfl) (fun G hB hL hG hE ht => by subst hB; exact g_L_tell hG hE ht h hcd)
theorem mh_L_tell : ((yL_tell.cls ≠ "java/lang/invoke/MethodHandle" ∧ yL_tell.cls ≠ "java/lang/invoke/VarHandle") ∧ (parseMethodDescriptor yL_tell.desc).map (fun d => d.parameters.length) = some 2 ∧ Cond.codeWith yL_tell cL_tell 3 (some .int) [(0, 8, 11, 13), (0, 8, 14, 53)] ∈ wTs ∧ Cond.initialized yL_tell.cls ∈ wTs) ∧ Cond.static yL_tell ∈ wTs := ⟨⟨⟨by decide +kernel, by decide +kernel⟩, by decide +kernel, wTs_in 775 (by decide +kernel) rfl, wTs_in 36 (by decide +kernel) rfl⟩, wTs_in 774 (by decide +kernel) rfl⟩
set_option maxRecDepth 4000 in
theorem g_L_stateOf {G : wG} (hG : wOk G RL cL_stateOf 4 8 133) {X Y : wM} {o : Int64} {dd : UInt64} {t1 : Nat → Nat} {a1 : Int32} {res : Nat ⊕ Int32} (hE : wEnd G (some .int) (rpG (fun e => if e = 5 then 1 else 0) res (X, Y, o, dd, (t1, [])) (fun z => (X, Y, z.toInt64, dd, (t1, [])))) xp0) (htab : (gc G).exceptionTable.toList = tableOf [(0, 9, 12, 25)]) (h : f_X7_stateOf X a1 = some res) (hcd : ∀ e, res = .inl e → 0 < (fun e => if e = 5 then 1 else 0) e) : J G 4 1 6 0 [(0, .ref (wad (gB G) 0)), (1, .int a1), (2, .ref (wad (gB G) 37))] [] (X, Y, o, dd, (t1, [])) := by
  refine j_aload_n hG 2 (dt dtL_stateOf_0 0 rfl) rfl rfl ?_
  refine j_iconst hG (v := 0) (dt dtL_stateOf_0 1 rfl) (by decide) ?_
  refine j_aload_n hG 0 (dt dtL_stateOf_0 2 rfl) rfl rfl ?_
  refine j_iload_n hG 1 (dt dtL_stateOf_0 3 rfl) rfl rfl ?_
  refine j_callV hG (kc := 0) (ks := 0) (ct_X7_stateOf hG.2.2.1 (gB G) _ _ _ _ _ h) mf_X7_stateOf ml_L_92 0 (cv_0 _ _ _ _) rfl rfl (rest := [.int 0, .ref (wad (gB G) 37)]) rfl (Nat.le_of_ble_eq_true rfl) (dt dtL_stateOf_0 4 rfl) (by decide) (by decide) (fun v σ2 q => ?_) (fun E σ2 q => ?_)
  · obtain ⟨z, rfl, rfl, rfl⟩ := q
    refine j_i2l hG (dt dtL_stateOf_0 5 rfl) ?_
    refine j_last hG (dt dtL_stateOf_0 6 rfl) ?_
    refine j_goto hG (tgt := 15) (dt dtL_stateOf_0 7 rfl) (by decide) ?_
    refine j_iconst hG (v := 0) (dt dtL_stateOf_0 11 rfl) (by decide) ?_
    exact j_iret hG hE (Or.inr ⟨_, rfl, rfl, rfl⟩) (dt dtL_stateOf_0 12 rfl)
  · obtain ⟨e, rfl, rfl, rfl⟩ := q
    have hc := hcd _ rfl
    by_cases he0 : e = 5
    · rw [he0]
      refine jx_catch hG htab [] ⟨0, 9, 12, 25⟩ [] rfl (fun _ hz => absurd hz List.not_mem_nil) rfl (by decide) cll_25 cst_5 (fun q => ?_)
      refine j_astore_n hG (lv' := [(3, .ref q), (0, .ref (wad (gB G) 0)), (1, .int a1), (2, .ref (wad (gB G) 37))]) (dt dtL_stateOf_0 8 rfl) rfl (by decide) rfl ?_
      refine j_iconst hG (v := 1) (dt dtL_stateOf_0 9 rfl) (by decide) ?_
      exact j_iret hG hE (Or.inl ⟨_, rfl, by rw [he0]; rfl, rfl⟩) (dt dtL_stateOf_0 10 rfl)
    · exact absurd hc (by simp [he0])
theorem ct_L_stateOf {l : Launch} (hl : l.stackTraces = false) (B : wB) {X Y : wM} {o : Int64} {dd : UInt64} {t1 : Nat → Nat} {a1 : Int32} {res : Nat ⊕ Int32} (h : f_X7_stateOf X a1 = some res) (hcd : ∀ e, res = .inl e → 0 < (fun e => if e = 5 then 1 else 0) e) : wMetH l B yL_stateOf cL_stateOf 4 (some .int) [(0, 9, 12, 25)] 8 133 1 6 [.ref (wad B 0), .int a1, .ref (wad B 37)] (X, Y, o, dd, (t1, [])) (rpG (fun e => if e = 5 then 1 else 0) res (X, Y, o, dd, (t1, [])) (fun z => (X, Y, z.toInt64, dd, (t1, [])))) xp0 :=
  wMetH.of hl (by decide +kernel) (Nat.le_of_ble_eq_true rfl) (wTs_in 1089 (by decide +kernel) rfl) (fun G hB hL hG hE ht => by subst hB; exact g_L_stateOf hG hE ht h hcd)
theorem mh_L_stateOf : ((yL_stateOf.cls ≠ "java/lang/invoke/MethodHandle" ∧ yL_stateOf.cls ≠ "java/lang/invoke/VarHandle") ∧ (parseMethodDescriptor yL_stateOf.desc).map (fun d => d.parameters.length) = some 3 ∧ Cond.codeWith yL_stateOf cL_stateOf 4 (some .int) [(0, 9, 12, 25)] ∈ wTs ∧ Cond.initialized yL_stateOf.cls ∈ wTs) ∧ Cond.static yL_stateOf ∈ wTs := ⟨⟨⟨by decide +kernel, by decide +kernel⟩, by decide +kernel, wTs_in 1089 (by decide +kernel) rfl, wTs_in 36 (by decide +kernel) rfl⟩, wTs_in 1088 (by decide +kernel) rfl⟩
set_option maxRecDepth 4000 in
theorem g_L_isHidden {G : wG} (hG : wOk G RL cL_isHidden 6 9 159) {X Y : wM} {o : Int64} {dd : UInt64} {t1 : Nat → Nat} {a1 : Int32} {a2 : Int32} {a3 : Int32} {res : Nat ⊕ Int32} (hE : wEnd G (some .int) (rpG c_hid res (X, Y, o, dd, (t1, [])) (fun z => (X, Y, zL z, dd, (t1, [])))) xp0) (htab : (gc G).exceptionTable.toList = tableOf [(0, 19, 22, 25), (0, 19, 26, 19), (0, 19, 30, 30)]) (h : f_X7_isHidden X a1 a2 a3 = some res) (hcd : ∀ e, res = .inl e → 0 < c_hid e) : J G 6 3 18 0 [(0, .ref (wad (gB G) 0)), (1, .int a1), (2, .int a2), (3, .int a3), (4, .ref (wad (gB G) 37))] [] (X, Y, o, dd, (t1, [])) := by
  refine j_aload hG 4 (dt dtL_isHidden_0 0 rfl) rfl ?_
  refine j_iconst hG (v := 0) (dt dtL_isHidden_0 1 rfl) (by decide) ?_
  refine j_aload_n hG 0 (dt dtL_isHidden_0 2 rfl) rfl rfl ?_
  refine j_iload_n hG 1 (dt dtL_isHidden_0 3 rfl) rfl rfl ?_
  refine j_iload_n hG 2 (dt dtL_isHidden_0 4 rfl) rfl rfl ?_
  refine j_iload_n hG 3 (dt dtL_isHidden_0 5 rfl) rfl rfl ?_
  refine j_callV hG (kc := 0) (ks := 0) (ct_X7_isHidden hG.2.2.1 (gB G) _ _ _ _ _ h) mf_X7_isHidden ml_L_96 0 (cv_0 _ _ _ _) rfl rfl (rest := [.int 0, .ref (wad (gB G) 37)]) rfl (Nat.le_of_ble_eq_true rfl) (dt dtL_isHidden_0 6 rfl) (by decide) (by decide) (fun v σ2 q => ?_) (fun E σ2 q => ?_)
  · obtain ⟨z, rfl, rfl, rfl⟩ := q
    refine J_of (jl_if_eq hG (tgt := 17) (dt dtL_isHidden_0 7 rfl) (by decide) (fun q => J_to ?_) (fun q => J_to ?_))
    · refine j_lconst hG (v := 0) (dt dtL_isHidden_0 10 rfl) (by decide) ?_
      refine j_last hG (dt dtL_isHidden_0 11 rfl) ?_
      refine j_goto hG (tgt := 34) (dt dtL_isHidden_0 12 rfl) (by decide) ?_
      refine j_iconst hG (v := 0) (dt dtL_isHidden_0 22 rfl) (by decide) ?_
      exact j_iret hG hE (Or.inr ⟨_, rfl, rfl, by dsimp only; unfold zL; rw [if_pos q]⟩) (dt dtL_isHidden_0 23 rfl)
    · refine j_lconst hG (v := 1) (dt dtL_isHidden_0 8 rfl) (by decide) ?_
      refine j_goto hG (tgt := 18) (dt dtL_isHidden_0 9 rfl) (by decide) ?_
      refine j_last hG (dt dtL_isHidden_0 11 rfl) ?_
      refine j_goto hG (tgt := 34) (dt dtL_isHidden_0 12 rfl) (by decide) ?_
      refine j_iconst hG (v := 0) (dt dtL_isHidden_0 22 rfl) (by decide) ?_
      exact j_iret hG hE (Or.inr ⟨_, rfl, rfl, by dsimp only; unfold zL; rw [if_neg q]⟩) (dt dtL_isHidden_0 23 rfl)
  · obtain ⟨e, rfl, rfl, rfl⟩ := q
    have hc := hcd _ rfl
    by_cases he0 : e = 5
    · rw [he0]
      refine jx_catch hG htab [] ⟨0, 19, 22, 25⟩ [⟨0, 19, 26, 19⟩, ⟨0, 19, 30, 30⟩] rfl (fun _ hz => absurd hz List.not_mem_nil) rfl (by decide) cll_25 cst_5 (fun q => ?_)
      refine j_astore hG (lv' := [(5, .ref q), (0, .ref (wad (gB G) 0)), (1, .int a1), (2, .int a2), (3, .int a3), (4, .ref (wad (gB G) 37))]) (dt dtL_isHidden_0 13 rfl) (by decide) rfl ?_
      refine j_iconst hG (v := 1) (dt dtL_isHidden_0 14 rfl) (by decide) ?_
      exact j_iret hG hE (Or.inl ⟨_, rfl, by rw [he0]; rfl, rfl⟩) (dt dtL_isHidden_0 15 rfl)
    · by_cases he1 : e = 2
      · rw [he1]
        refine jx_catch hG htab [⟨0, 19, 22, 25⟩] ⟨0, 19, 26, 19⟩ [⟨0, 19, 30, 30⟩] rfl (List.forall_mem_cons.mpr ⟨Or.inr ⟨by decide, _, 14, cll_25, rfl⟩, (fun _ hz => absurd hz List.not_mem_nil)⟩) rfl (by decide) cll_19 cst_2 (fun q => ?_)
        refine j_astore hG (lv' := [(5, .ref q), (0, .ref (wad (gB G) 0)), (1, .int a1), (2, .int a2), (3, .int a3), (4, .ref (wad (gB G) 37))]) (dt dtL_isHidden_0 16 rfl) (by decide) rfl ?_
        refine j_iconst hG (v := 2) (dt dtL_isHidden_0 17 rfl) (by decide) ?_
        exact j_iret hG hE (Or.inl ⟨_, rfl, by rw [he1]; rfl, rfl⟩) (dt dtL_isHidden_0 18 rfl)
      · by_cases he2 : e = 1
        · rw [he2]
          refine jx_catch hG htab [⟨0, 19, 22, 25⟩, ⟨0, 19, 26, 19⟩] ⟨0, 19, 30, 30⟩ [] rfl (List.forall_mem_cons.mpr ⟨Or.inr ⟨by decide, _, 9, cll_25, rfl⟩, (List.forall_mem_cons.mpr ⟨Or.inr ⟨by decide, _, 6, cll_19, rfl⟩, (fun _ hz => absurd hz List.not_mem_nil)⟩)⟩) rfl (by decide) cll_30 cst_1 (fun q => ?_)
          refine j_astore hG (lv' := [(5, .ref q), (0, .ref (wad (gB G) 0)), (1, .int a1), (2, .int a2), (3, .int a3), (4, .ref (wad (gB G) 37))]) (dt dtL_isHidden_0 19 rfl) (by decide) rfl ?_
          refine j_iconst hG (v := 3) (dt dtL_isHidden_0 20 rfl) (by decide) ?_
          exact j_iret hG hE (Or.inl ⟨_, rfl, by rw [he2]; rfl, rfl⟩) (dt dtL_isHidden_0 21 rfl)
        · exact absurd hc (by simp [c_hid, he0, he1, he2])
theorem ct_L_isHidden {l : Launch} (hl : l.stackTraces = false) (B : wB) {X Y : wM} {o : Int64} {dd : UInt64} {t1 : Nat → Nat} {a1 : Int32} {a2 : Int32} {a3 : Int32} {res : Nat ⊕ Int32} (h : f_X7_isHidden X a1 a2 a3 = some res) (hcd : ∀ e, res = .inl e → 0 < c_hid e) : wMetH l B yL_isHidden cL_isHidden 6 (some .int) [(0, 19, 22, 25), (0, 19, 26, 19), (0, 19, 30, 30)] 9 159 3 18 [.ref (wad B 0), .int a1, .int a2, .int a3, .ref (wad B 37)] (X, Y, o, dd, (t1, [])) (rpG c_hid res (X, Y, o, dd, (t1, [])) (fun z => (X, Y, zL z, dd, (t1, [])))) xp0 :=
  wMetH.of hl (by decide +kernel) (Nat.le_of_ble_eq_true rfl) (wTs_in 1101 (by decide +kernel) rfl) (fun G hB hL hG hE ht => by subst hB; exact g_L_isHidden hG hE ht h hcd)
theorem mh_L_isHidden : ((yL_isHidden.cls ≠ "java/lang/invoke/MethodHandle" ∧ yL_isHidden.cls ≠ "java/lang/invoke/VarHandle") ∧ (parseMethodDescriptor yL_isHidden.desc).map (fun d => d.parameters.length) = some 5 ∧ Cond.codeWith yL_isHidden cL_isHidden 6 (some .int) [(0, 19, 22, 25), (0, 19, 26, 19), (0, 19, 30, 30)] ∈ wTs ∧ Cond.initialized yL_isHidden.cls ∈ wTs) ∧ Cond.static yL_isHidden ∈ wTs := ⟨⟨⟨by decide +kernel, by decide +kernel⟩, by decide +kernel, wTs_in 1101 (by decide +kernel) rfl, wTs_in 36 (by decide +kernel) rfl⟩, wTs_in 1100 (by decide +kernel) rfl⟩
set_option maxRecDepth 4000 in
theorem g_L_cell {G : wG} (hG : wOk G RL cL_cell 6 9 159) {X Y : wM} {o : Int64} {dd : UInt64} {t1 : Nat → Nat} {a1 : Int32} {a2 : Int32} {a3 : Int32} {res : Nat ⊕ Int32} (hE : wEnd G (some .int) (rpG c_cell res (X, Y, o, dd, (t1, [])) (fun z => (X, Y, z.toInt64, dd, (t1, [])))) xp0) (htab : (gc G).exceptionTable.toList = tableOf [(0, 12, 15, 25), (0, 12, 19, 19), (0, 12, 23, 30), (0, 12, 27, 53)]) (h : f_X7_cell X a1 a2 a3 = some res) (hcd : ∀ e, res = .inl e → 0 < c_cell e) : J G 6 4 24 0 [(0, .ref (wad (gB G) 0)), (1, .int a1), (2, .int a2), (3, .int a3), (4, .ref (wad (gB G) 37))] [] (X, Y, o, dd, (t1, [])) := by
  refine j_aload hG 4 (dt dtL_cell_0 0 rfl) rfl ?_
  refine j_iconst hG (v := 0) (dt dtL_cell_0 1 rfl) (by decide) ?_
  refine j_aload_n hG 0 (dt dtL_cell_0 2 rfl) rfl rfl ?_
  refine j_iload_n hG 1 (dt dtL_cell_0 3 rfl) rfl rfl ?_
  refine j_iload_n hG 2 (dt dtL_cell_0 4 rfl) rfl rfl ?_
  refine j_iload_n hG 3 (dt dtL_cell_0 5 rfl) rfl rfl ?_
  refine j_callV hG (kc := 0) (ks := 0) (ct_X7_cell hG.2.2.1 (gB G) _ _ _ _ _ h) mf_X7_cell ml_L_100 0 (cv_0 _ _ _ _) rfl rfl (rest := [.int 0, .ref (wad (gB G) 37)]) rfl (Nat.le_of_ble_eq_true rfl) (dt dtL_cell_0 6 rfl) (by decide) (by decide) (fun v σ2 q => ?_) (fun E σ2 q => ?_)
  · obtain ⟨z, rfl, rfl, rfl⟩ := q
    refine j_i2l hG (dt dtL_cell_0 7 rfl) ?_
    refine j_last hG (dt dtL_cell_0 8 rfl) ?_
    refine j_goto hG (tgt := 31) (dt dtL_cell_0 9 rfl) (by decide) ?_
    refine j_iconst hG (v := 0) (dt dtL_cell_0 22 rfl) (by decide) ?_
    exact j_iret hG hE (Or.inr ⟨_, rfl, rfl, rfl⟩) (dt dtL_cell_0 23 rfl)
  · obtain ⟨e, rfl, rfl, rfl⟩ := q
    have hc := hcd _ rfl
    by_cases he0 : e = 5
    · rw [he0]
      refine jx_catch hG htab [] ⟨0, 12, 15, 25⟩ [⟨0, 12, 19, 19⟩, ⟨0, 12, 23, 30⟩, ⟨0, 12, 27, 53⟩] rfl (fun _ hz => absurd hz List.not_mem_nil) rfl (by decide) cll_25 cst_5 (fun q => ?_)
      refine j_astore hG (lv' := [(5, .ref q), (0, .ref (wad (gB G) 0)), (1, .int a1), (2, .int a2), (3, .int a3), (4, .ref (wad (gB G) 37))]) (dt dtL_cell_0 10 rfl) (by decide) rfl ?_
      refine j_iconst hG (v := 1) (dt dtL_cell_0 11 rfl) (by decide) ?_
      exact j_iret hG hE (Or.inl ⟨_, rfl, by rw [he0]; rfl, rfl⟩) (dt dtL_cell_0 12 rfl)
    · by_cases he1 : e = 2
      · rw [he1]
        refine jx_catch hG htab [⟨0, 12, 15, 25⟩] ⟨0, 12, 19, 19⟩ [⟨0, 12, 23, 30⟩, ⟨0, 12, 27, 53⟩] rfl (List.forall_mem_cons.mpr ⟨Or.inr ⟨by decide, _, 14, cll_25, rfl⟩, (fun _ hz => absurd hz List.not_mem_nil)⟩) rfl (by decide) cll_19 cst_2 (fun q => ?_)
        refine j_astore hG (lv' := [(5, .ref q), (0, .ref (wad (gB G) 0)), (1, .int a1), (2, .int a2), (3, .int a3), (4, .ref (wad (gB G) 37))]) (dt dtL_cell_0 13 rfl) (by decide) rfl ?_
        refine j_iconst hG (v := 2) (dt dtL_cell_0 14 rfl) (by decide) ?_
        exact j_iret hG hE (Or.inl ⟨_, rfl, by rw [he1]; rfl, rfl⟩) (dt dtL_cell_0 15 rfl)
      · by_cases he2 : e = 1
        · rw [he2]
          refine jx_catch hG htab [⟨0, 12, 15, 25⟩, ⟨0, 12, 19, 19⟩] ⟨0, 12, 23, 30⟩ [⟨0, 12, 27, 53⟩] rfl (List.forall_mem_cons.mpr ⟨Or.inr ⟨by decide, _, 9, cll_25, rfl⟩, (List.forall_mem_cons.mpr ⟨Or.inr ⟨by decide, _, 6, cll_19, rfl⟩, (fun _ hz => absurd hz List.not_mem_nil)⟩)⟩) rfl (by decide) cll_30 cst_1 (fun q => ?_)
          refine j_astore hG (lv' := [(5, .ref q), (0, .ref (wad (gB G) 0)), (1, .int a1), (2, .int a2), (3, .int a3), (4, .ref (wad (gB G) 37))]) (dt dtL_cell_0 16 rfl) (by decide) rfl ?_
          refine j_iconst hG (v := 3) (dt dtL_cell_0 17 rfl) (by decide) ?_
          exact j_iret hG hE (Or.inl ⟨_, rfl, by rw [he2]; rfl, rfl⟩) (dt dtL_cell_0 18 rfl)
        · by_cases he3 : e = 4
          · rw [he3]
            refine jx_catch hG htab [⟨0, 12, 15, 25⟩, ⟨0, 12, 19, 19⟩, ⟨0, 12, 23, 30⟩] ⟨0, 12, 27, 53⟩ [] rfl (List.forall_mem_cons.mpr ⟨Or.inr ⟨by decide, _, 24, cll_25, rfl⟩, (List.forall_mem_cons.mpr ⟨Or.inr ⟨by decide, _, 22, cll_19, rfl⟩, (List.forall_mem_cons.mpr ⟨Or.inr ⟨by decide, _, 21, cll_30, rfl⟩, (fun _ hz => absurd hz List.not_mem_nil)⟩)⟩)⟩) rfl (by decide) cll_53 cst_4 (fun q => ?_)
            refine j_astore hG (lv' := [(5, .ref q), (0, .ref (wad (gB G) 0)), (1, .int a1), (2, .int a2), (3, .int a3), (4, .ref (wad (gB G) 37))]) (dt dtL_cell_0 19 rfl) (by decide) rfl ?_
            refine j_iconst hG (v := 4) (dt dtL_cell_0 20 rfl) (by decide) ?_
            exact j_iret hG hE (Or.inl ⟨_, rfl, by rw [he3]; rfl, rfl⟩) (dt dtL_cell_0 21 rfl)
          · exact absurd hc (by simp [c_cell, he0, he1, he2, he3])
theorem ct_L_cell {l : Launch} (hl : l.stackTraces = false) (B : wB) {X Y : wM} {o : Int64} {dd : UInt64} {t1 : Nat → Nat} {a1 : Int32} {a2 : Int32} {a3 : Int32} {res : Nat ⊕ Int32} (h : f_X7_cell X a1 a2 a3 = some res) (hcd : ∀ e, res = .inl e → 0 < c_cell e) : wMetH l B yL_cell cL_cell 6 (some .int) [(0, 12, 15, 25), (0, 12, 19, 19), (0, 12, 23, 30), (0, 12, 27, 53)] 9 159 4 24 [.ref (wad B 0), .int a1, .int a2, .int a3, .ref (wad B 37)] (X, Y, o, dd, (t1, [])) (rpG c_cell res (X, Y, o, dd, (t1, [])) (fun z => (X, Y, z.toInt64, dd, (t1, [])))) xp0 :=
  wMetH.of hl (by decide +kernel) (Nat.le_of_ble_eq_true rfl) (wTs_in 1118 (by decide +kernel) rfl) (fun G hB hL hG hE ht => by subst hB; exact g_L_cell hG hE ht h hcd)
theorem mh_L_cell : ((yL_cell.cls ≠ "java/lang/invoke/MethodHandle" ∧ yL_cell.cls ≠ "java/lang/invoke/VarHandle") ∧ (parseMethodDescriptor yL_cell.desc).map (fun d => d.parameters.length) = some 5 ∧ Cond.codeWith yL_cell cL_cell 6 (some .int) [(0, 12, 15, 25), (0, 12, 19, 19), (0, 12, 23, 30), (0, 12, 27, 53)] ∈ wTs ∧ Cond.initialized yL_cell.cls ∈ wTs) ∧ Cond.static yL_cell ∈ wTs := ⟨⟨⟨by decide +kernel, by decide +kernel⟩, by decide +kernel, wTs_in 1118 (by decide +kernel) rfl, wTs_in 36 (by decide +kernel) rfl⟩, wTs_in 1117 (by decide +kernel) rfl⟩
set_option maxRecDepth 4000 in
theorem g_L_blockSum {G : wG} (hG : wOk G RL cL_blockSum 5 8 135) {X Y : wM} {o : Int64} {dd : UInt64} {t1 : Nat → Nat} {a1 : Int32} {a2 : Int32} {res : Nat ⊕ Int32} (hE : wEnd G (some .int) (rpG (fun e => if e = 5 then 1 else if e = 2 then 2 else 0) res (X, Y, o, dd, (t1, [])) (fun z => (X, Y, z.toInt64, dd, (t1, [])))) xp0) (htab : (gc G).exceptionTable.toList = tableOf [(0, 10, 13, 25), (0, 10, 17, 19)]) (h : f_X7_blockSum X a1 a2 = some res) (hcd : ∀ e, res = .inl e → 0 < (fun e => if e = 5 then 1 else if e = 2 then 2 else 0) e) : J G 5 2 12 0 [(0, .ref (wad (gB G) 0)), (1, .int a1), (2, .int a2), (3, .ref (wad (gB G) 37))] [] (X, Y, o, dd, (t1, [])) := by
  refine j_aload_n hG 3 (dt dtL_blockSum_0 0 rfl) rfl rfl ?_
  refine j_iconst hG (v := 0) (dt dtL_blockSum_0 1 rfl) (by decide) ?_
  refine j_aload_n hG 0 (dt dtL_blockSum_0 2 rfl) rfl rfl ?_
  refine j_iload_n hG 1 (dt dtL_blockSum_0 3 rfl) rfl rfl ?_
  refine j_iload_n hG 2 (dt dtL_blockSum_0 4 rfl) rfl rfl ?_
  refine j_callV hG (kc := 0) (ks := 0) (ct_X7_blockSum hG.2.2.1 (gB G) _ _ _ _ _ h) mf_X7_blockSum ml_L_104 0 (cv_0 _ _ _ _) rfl rfl (rest := [.int 0, .ref (wad (gB G) 37)]) rfl (Nat.le_of_ble_eq_true rfl) (dt dtL_blockSum_0 5 rfl) (by decide) (by decide) (fun v σ2 q => ?_) (fun E σ2 q => ?_)
  · obtain ⟨z, rfl, rfl, rfl⟩ := q
    refine j_i2l hG (dt dtL_blockSum_0 6 rfl) ?_
    refine j_last hG (dt dtL_blockSum_0 7 rfl) ?_
    refine j_goto hG (tgt := 21) (dt dtL_blockSum_0 8 rfl) (by decide) ?_
    refine j_iconst hG (v := 0) (dt dtL_blockSum_0 15 rfl) (by decide) ?_
    exact j_iret hG hE (Or.inr ⟨_, rfl, rfl, rfl⟩) (dt dtL_blockSum_0 16 rfl)
  · obtain ⟨e, rfl, rfl, rfl⟩ := q
    have hc := hcd _ rfl
    by_cases he0 : e = 5
    · rw [he0]
      refine jx_catch hG htab [] ⟨0, 10, 13, 25⟩ [⟨0, 10, 17, 19⟩] rfl (fun _ hz => absurd hz List.not_mem_nil) rfl (by decide) cll_25 cst_5 (fun q => ?_)
      refine j_astore hG (lv' := [(4, .ref q), (0, .ref (wad (gB G) 0)), (1, .int a1), (2, .int a2), (3, .ref (wad (gB G) 37))]) (dt dtL_blockSum_0 9 rfl) (by decide) rfl ?_
      refine j_iconst hG (v := 1) (dt dtL_blockSum_0 10 rfl) (by decide) ?_
      exact j_iret hG hE (Or.inl ⟨_, rfl, by rw [he0]; rfl, rfl⟩) (dt dtL_blockSum_0 11 rfl)
    · by_cases he1 : e = 2
      · rw [he1]
        refine jx_catch hG htab [⟨0, 10, 13, 25⟩] ⟨0, 10, 17, 19⟩ [] rfl (List.forall_mem_cons.mpr ⟨Or.inr ⟨by decide, _, 14, cll_25, rfl⟩, (fun _ hz => absurd hz List.not_mem_nil)⟩) rfl (by decide) cll_19 cst_2 (fun q => ?_)
        refine j_astore hG (lv' := [(4, .ref q), (0, .ref (wad (gB G) 0)), (1, .int a1), (2, .int a2), (3, .ref (wad (gB G) 37))]) (dt dtL_blockSum_0 12 rfl) (by decide) rfl ?_
        refine j_iconst hG (v := 2) (dt dtL_blockSum_0 13 rfl) (by decide) ?_
        exact j_iret hG hE (Or.inl ⟨_, rfl, by rw [he1]; rfl, rfl⟩) (dt dtL_blockSum_0 14 rfl)
      · exact absurd hc (by simp [he0, he1])
theorem ct_L_blockSum {l : Launch} (hl : l.stackTraces = false) (B : wB) {X Y : wM} {o : Int64} {dd : UInt64} {t1 : Nat → Nat} {a1 : Int32} {a2 : Int32} {res : Nat ⊕ Int32} (h : f_X7_blockSum X a1 a2 = some res) (hcd : ∀ e, res = .inl e → 0 < (fun e => if e = 5 then 1 else if e = 2 then 2 else 0) e) : wMetH l B yL_blockSum cL_blockSum 5 (some .int) [(0, 10, 13, 25), (0, 10, 17, 19)] 8 135 2 12 [.ref (wad B 0), .int a1, .int a2, .ref (wad B 37)] (X, Y, o, dd, (t1, [])) (rpG (fun e => if e = 5 then 1 else if e = 2 then 2 else 0) res (X, Y, o, dd, (t1, [])) (fun z => (X, Y, z.toInt64, dd, (t1, [])))) xp0 :=
  wMetH.of hl (by decide +kernel) (Nat.le_of_ble_eq_true rfl) (wTs_in 1126 (by decide +kernel) rfl) (fun G hB hL hG hE ht => by subst hB; exact g_L_blockSum hG hE ht h hcd)
theorem mh_L_blockSum : ((yL_blockSum.cls ≠ "java/lang/invoke/MethodHandle" ∧ yL_blockSum.cls ≠ "java/lang/invoke/VarHandle") ∧ (parseMethodDescriptor yL_blockSum.desc).map (fun d => d.parameters.length) = some 4 ∧ Cond.codeWith yL_blockSum cL_blockSum 5 (some .int) [(0, 10, 13, 25), (0, 10, 17, 19)] ∈ wTs ∧ Cond.initialized yL_blockSum.cls ∈ wTs) ∧ Cond.static yL_blockSum ∈ wTs := ⟨⟨⟨by decide +kernel, by decide +kernel⟩, by decide +kernel, wTs_in 1126 (by decide +kernel) rfl, wTs_in 36 (by decide +kernel) rfl⟩, wTs_in 1125 (by decide +kernel) rfl⟩
set_option maxRecDepth 4000 in
theorem g_L_groupSum {G : wG} (hG : wOk G RL cL_groupSum 5 8 135) {X Y : wM} {o : Int64} {dd : UInt64} {t1 : Nat → Nat} {a1 : Int32} {a2 : Int32} {res : Nat ⊕ Int32} (hE : wEnd G (some .int) (rpG (fun e => if e = 5 then 1 else if e = 1 then 2 else 0) res (X, Y, o, dd, (t1, [])) (fun z => (X, Y, z.toInt64, dd, (t1, [])))) xp0) (htab : (gc G).exceptionTable.toList = tableOf [(0, 10, 13, 25), (0, 10, 17, 30)]) (h : f_X7_groupSum X a1 a2 = some res) (hcd : ∀ e, res = .inl e → 0 < (fun e => if e = 5 then 1 else if e = 1 then 2 else 0) e) : J G 5 2 12 0 [(0, .ref (wad (gB G) 0)), (1, .int a1), (2, .int a2), (3, .ref (wad (gB G) 37))] [] (X, Y, o, dd, (t1, [])) := by
  refine j_aload_n hG 3 (dt dtL_groupSum_0 0 rfl) rfl rfl ?_
  refine j_iconst hG (v := 0) (dt dtL_groupSum_0 1 rfl) (by decide) ?_
  refine j_aload_n hG 0 (dt dtL_groupSum_0 2 rfl) rfl rfl ?_
  refine j_iload_n hG 1 (dt dtL_groupSum_0 3 rfl) rfl rfl ?_
  refine j_iload_n hG 2 (dt dtL_groupSum_0 4 rfl) rfl rfl ?_
  refine j_callV hG (kc := 0) (ks := 0) (ct_X7_groupSum hG.2.2.1 (gB G) _ _ _ _ _ h) mf_X7_groupSum ml_L_107 0 (cv_0 _ _ _ _) rfl rfl (rest := [.int 0, .ref (wad (gB G) 37)]) rfl (Nat.le_of_ble_eq_true rfl) (dt dtL_groupSum_0 5 rfl) (by decide) (by decide) (fun v σ2 q => ?_) (fun E σ2 q => ?_)
  · obtain ⟨z, rfl, rfl, rfl⟩ := q
    refine j_i2l hG (dt dtL_groupSum_0 6 rfl) ?_
    refine j_last hG (dt dtL_groupSum_0 7 rfl) ?_
    refine j_goto hG (tgt := 21) (dt dtL_groupSum_0 8 rfl) (by decide) ?_
    refine j_iconst hG (v := 0) (dt dtL_groupSum_0 15 rfl) (by decide) ?_
    exact j_iret hG hE (Or.inr ⟨_, rfl, rfl, rfl⟩) (dt dtL_groupSum_0 16 rfl)
  · obtain ⟨e, rfl, rfl, rfl⟩ := q
    have hc := hcd _ rfl
    by_cases he0 : e = 5
    · rw [he0]
      refine jx_catch hG htab [] ⟨0, 10, 13, 25⟩ [⟨0, 10, 17, 30⟩] rfl (fun _ hz => absurd hz List.not_mem_nil) rfl (by decide) cll_25 cst_5 (fun q => ?_)
      refine j_astore hG (lv' := [(4, .ref q), (0, .ref (wad (gB G) 0)), (1, .int a1), (2, .int a2), (3, .ref (wad (gB G) 37))]) (dt dtL_groupSum_0 9 rfl) (by decide) rfl ?_
      refine j_iconst hG (v := 1) (dt dtL_groupSum_0 10 rfl) (by decide) ?_
      exact j_iret hG hE (Or.inl ⟨_, rfl, by rw [he0]; rfl, rfl⟩) (dt dtL_groupSum_0 11 rfl)
    · by_cases he1 : e = 1
      · rw [he1]
        refine jx_catch hG htab [⟨0, 10, 13, 25⟩] ⟨0, 10, 17, 30⟩ [] rfl (List.forall_mem_cons.mpr ⟨Or.inr ⟨by decide, _, 9, cll_25, rfl⟩, (fun _ hz => absurd hz List.not_mem_nil)⟩) rfl (by decide) cll_30 cst_1 (fun q => ?_)
        refine j_astore hG (lv' := [(4, .ref q), (0, .ref (wad (gB G) 0)), (1, .int a1), (2, .int a2), (3, .ref (wad (gB G) 37))]) (dt dtL_groupSum_0 12 rfl) (by decide) rfl ?_
        refine j_iconst hG (v := 2) (dt dtL_groupSum_0 13 rfl) (by decide) ?_
        exact j_iret hG hE (Or.inl ⟨_, rfl, by rw [he1]; rfl, rfl⟩) (dt dtL_groupSum_0 14 rfl)
      · exact absurd hc (by simp [he0, he1])
theorem ct_L_groupSum {l : Launch} (hl : l.stackTraces = false) (B : wB) {X Y : wM} {o : Int64} {dd : UInt64} {t1 : Nat → Nat} {a1 : Int32} {a2 : Int32} {res : Nat ⊕ Int32} (h : f_X7_groupSum X a1 a2 = some res) (hcd : ∀ e, res = .inl e → 0 < (fun e => if e = 5 then 1 else if e = 1 then 2 else 0) e) : wMetH l B yL_groupSum cL_groupSum 5 (some .int) [(0, 10, 13, 25), (0, 10, 17, 30)] 8 135 2 12 [.ref (wad B 0), .int a1, .int a2, .ref (wad B 37)] (X, Y, o, dd, (t1, [])) (rpG (fun e => if e = 5 then 1 else if e = 1 then 2 else 0) res (X, Y, o, dd, (t1, [])) (fun z => (X, Y, z.toInt64, dd, (t1, [])))) xp0 :=
  wMetH.of hl (by decide +kernel) (Nat.le_of_ble_eq_true rfl) (wTs_in 1137 (by decide +kernel) rfl) (fun G hB hL hG hE ht => by subst hB; exact g_L_groupSum hG hE ht h hcd)
theorem mh_L_groupSum : ((yL_groupSum.cls ≠ "java/lang/invoke/MethodHandle" ∧ yL_groupSum.cls ≠ "java/lang/invoke/VarHandle") ∧ (parseMethodDescriptor yL_groupSum.desc).map (fun d => d.parameters.length) = some 4 ∧ Cond.codeWith yL_groupSum cL_groupSum 5 (some .int) [(0, 10, 13, 25), (0, 10, 17, 30)] ∈ wTs ∧ Cond.initialized yL_groupSum.cls ∈ wTs) ∧ Cond.static yL_groupSum ∈ wTs := ⟨⟨⟨by decide +kernel, by decide +kernel⟩, by decide +kernel, wTs_in 1137 (by decide +kernel) rfl, wTs_in 36 (by decide +kernel) rfl⟩, wTs_in 1136 (by decide +kernel) rfl⟩
set_option maxRecDepth 4000 in
theorem g_L_holes {G : wG} (hG : wOk G RL cL_holes 4 8 133) {X Y : wM} {o : Int64} {dd : UInt64} {t1 : Nat → Nat} {a1 : Int32} {res : Nat ⊕ Int32} (hE : wEnd G (some .int) (rpG (fun e => if e = 5 then 1 else 0) res (X, Y, o, dd, (t1, [])) (fun z => (X, Y, z.toInt64, dd, (t1, [])))) xp0) (htab : (gc G).exceptionTable.toList = tableOf [(0, 9, 12, 25)]) (h : f_X7_holes X a1 = some res) (hcd : ∀ e, res = .inl e → 0 < (fun e => if e = 5 then 1 else 0) e) : J G 4 1 6 0 [(0, .ref (wad (gB G) 0)), (1, .int a1), (2, .ref (wad (gB G) 37))] [] (X, Y, o, dd, (t1, [])) := by
  refine j_aload_n hG 2 (dt dtL_holes_0 0 rfl) rfl rfl ?_
  refine j_iconst hG (v := 0) (dt dtL_holes_0 1 rfl) (by decide) ?_
  refine j_aload_n hG 0 (dt dtL_holes_0 2 rfl) rfl rfl ?_
  refine j_iload_n hG 1 (dt dtL_holes_0 3 rfl) rfl rfl ?_
  refine j_callV hG (kc := 0) (ks := 0) (ct_X7_holes hG.2.2.1 (gB G) _ _ _ _ _ h) mf_X7_holes ml_L_110 0 (cv_0 _ _ _ _) rfl rfl (rest := [.int 0, .ref (wad (gB G) 37)]) rfl (Nat.le_of_ble_eq_true rfl) (dt dtL_holes_0 4 rfl) (by decide) (by decide) (fun v σ2 q => ?_) (fun E σ2 q => ?_)
  · obtain ⟨z, rfl, rfl, rfl⟩ := q
    refine j_i2l hG (dt dtL_holes_0 5 rfl) ?_
    refine j_last hG (dt dtL_holes_0 6 rfl) ?_
    refine j_goto hG (tgt := 15) (dt dtL_holes_0 7 rfl) (by decide) ?_
    refine j_iconst hG (v := 0) (dt dtL_holes_0 11 rfl) (by decide) ?_
    exact j_iret hG hE (Or.inr ⟨_, rfl, rfl, rfl⟩) (dt dtL_holes_0 12 rfl)
  · obtain ⟨e, rfl, rfl, rfl⟩ := q
    have hc := hcd _ rfl
    by_cases he0 : e = 5
    · rw [he0]
      refine jx_catch hG htab [] ⟨0, 9, 12, 25⟩ [] rfl (fun _ hz => absurd hz List.not_mem_nil) rfl (by decide) cll_25 cst_5 (fun q => ?_)
      refine j_astore_n hG (lv' := [(3, .ref q), (0, .ref (wad (gB G) 0)), (1, .int a1), (2, .ref (wad (gB G) 37))]) (dt dtL_holes_0 8 rfl) rfl (by decide) rfl ?_
      refine j_iconst hG (v := 1) (dt dtL_holes_0 9 rfl) (by decide) ?_
      exact j_iret hG hE (Or.inl ⟨_, rfl, by rw [he0]; rfl, rfl⟩) (dt dtL_holes_0 10 rfl)
    · exact absurd hc (by simp [he0])
theorem ct_L_holes {l : Launch} (hl : l.stackTraces = false) (B : wB) {X Y : wM} {o : Int64} {dd : UInt64} {t1 : Nat → Nat} {a1 : Int32} {res : Nat ⊕ Int32} (h : f_X7_holes X a1 = some res) (hcd : ∀ e, res = .inl e → 0 < (fun e => if e = 5 then 1 else 0) e) : wMetH l B yL_holes cL_holes 4 (some .int) [(0, 9, 12, 25)] 8 133 1 6 [.ref (wad B 0), .int a1, .ref (wad B 37)] (X, Y, o, dd, (t1, [])) (rpG (fun e => if e = 5 then 1 else 0) res (X, Y, o, dd, (t1, [])) (fun z => (X, Y, z.toInt64, dd, (t1, [])))) xp0 :=
  wMetH.of hl (by decide +kernel) (Nat.le_of_ble_eq_true rfl) (wTs_in 1148 (by decide +kernel) rfl) (fun G hB hL hG hE ht => by subst hB; exact g_L_holes hG hE ht h hcd)
theorem mh_L_holes : ((yL_holes.cls ≠ "java/lang/invoke/MethodHandle" ∧ yL_holes.cls ≠ "java/lang/invoke/VarHandle") ∧ (parseMethodDescriptor yL_holes.desc).map (fun d => d.parameters.length) = some 3 ∧ Cond.codeWith yL_holes cL_holes 4 (some .int) [(0, 9, 12, 25)] ∈ wTs ∧ Cond.initialized yL_holes.cls ∈ wTs) ∧ Cond.static yL_holes ∈ wTs := ⟨⟨⟨by decide +kernel, by decide +kernel⟩, by decide +kernel, wTs_in 1148 (by decide +kernel) rfl, wTs_in 36 (by decide +kernel) rfl⟩, wTs_in 1147 (by decide +kernel) rfl⟩
set_option maxRecDepth 4000 in
theorem g_L_isAtRisk {G : wG} (hG : wOk G RL cL_isAtRisk 6 9 160) {X Y : wM} {o : Int64} {dd : UInt64} {t1 : Nat → Nat} {a1 : Int32} {a2 : Int32} {a3 : Int32} {res : Nat ⊕ Int32} (hE : wEnd G (some .int) (rpG c_cell res (X, Y, o, dd, (t1, [])) (fun z => (X, Y, zL z, dd, (t1, [])))) xp0) (htab : (gc G).exceptionTable.toList = tableOf [(0, 19, 22, 25), (0, 19, 26, 19), (0, 19, 30, 30), (0, 19, 34, 53)]) (h : f_X7_isAtRisk X a1 a2 a3 = some res) (hcd : ∀ e, res = .inl e → 0 < c_cell e) : J G 6 4 24 0 [(0, .ref (wad (gB G) 0)), (1, .int a1), (2, .int a2), (3, .int a3), (4, .ref (wad (gB G) 37))] [] (X, Y, o, dd, (t1, [])) := by
  refine j_aload hG 4 (dt dtL_isAtRisk_0 0 rfl) rfl ?_
  refine j_iconst hG (v := 0) (dt dtL_isAtRisk_0 1 rfl) (by decide) ?_
  refine j_aload_n hG 0 (dt dtL_isAtRisk_0 2 rfl) rfl rfl ?_
  refine j_iload_n hG 1 (dt dtL_isAtRisk_0 3 rfl) rfl rfl ?_
  refine j_iload_n hG 2 (dt dtL_isAtRisk_0 4 rfl) rfl rfl ?_
  refine j_iload_n hG 3 (dt dtL_isAtRisk_0 5 rfl) rfl rfl ?_
  refine j_callV hG (kc := 0) (ks := 0) (ct_X7_isAtRisk hG.2.2.1 (gB G) _ _ _ _ _ h) mf_X7_isAtRisk ml_L_113 0 (cv_0 _ _ _ _) rfl rfl (rest := [.int 0, .ref (wad (gB G) 37)]) rfl (Nat.le_of_ble_eq_true rfl) (dt dtL_isAtRisk_0 6 rfl) (by decide) (by decide) (fun v σ2 q => ?_) (fun E σ2 q => ?_)
  · obtain ⟨z, rfl, rfl, rfl⟩ := q
    refine J_of (jl_if_eq hG (tgt := 17) (dt dtL_isAtRisk_0 7 rfl) (by decide) (fun q => J_to ?_) (fun q => J_to ?_))
    · refine j_lconst hG (v := 0) (dt dtL_isAtRisk_0 10 rfl) (by decide) ?_
      refine j_last hG (dt dtL_isAtRisk_0 11 rfl) ?_
      refine j_goto hG (tgt := 38) (dt dtL_isAtRisk_0 12 rfl) (by decide) ?_
      refine j_iconst hG (v := 0) (dt dtL_isAtRisk_0 25 rfl) (by decide) ?_
      exact j_iret hG hE (Or.inr ⟨_, rfl, rfl, by dsimp only; unfold zL; rw [if_pos q]⟩) (dt dtL_isAtRisk_0 26 rfl)
    · refine j_lconst hG (v := 1) (dt dtL_isAtRisk_0 8 rfl) (by decide) ?_
      refine j_goto hG (tgt := 18) (dt dtL_isAtRisk_0 9 rfl) (by decide) ?_
      refine j_last hG (dt dtL_isAtRisk_0 11 rfl) ?_
      refine j_goto hG (tgt := 38) (dt dtL_isAtRisk_0 12 rfl) (by decide) ?_
      refine j_iconst hG (v := 0) (dt dtL_isAtRisk_0 25 rfl) (by decide) ?_
      exact j_iret hG hE (Or.inr ⟨_, rfl, rfl, by dsimp only; unfold zL; rw [if_neg q]⟩) (dt dtL_isAtRisk_0 26 rfl)
  · obtain ⟨e, rfl, rfl, rfl⟩ := q
    have hc := hcd _ rfl
    by_cases he0 : e = 5
    · rw [he0]
      refine jx_catch hG htab [] ⟨0, 19, 22, 25⟩ [⟨0, 19, 26, 19⟩, ⟨0, 19, 30, 30⟩, ⟨0, 19, 34, 53⟩] rfl (fun _ hz => absurd hz List.not_mem_nil) rfl (by decide) cll_25 cst_5 (fun q => ?_)
      refine j_astore hG (lv' := [(5, .ref q), (0, .ref (wad (gB G) 0)), (1, .int a1), (2, .int a2), (3, .int a3), (4, .ref (wad (gB G) 37))]) (dt dtL_isAtRisk_0 13 rfl) (by decide) rfl ?_
      refine j_iconst hG (v := 1) (dt dtL_isAtRisk_0 14 rfl) (by decide) ?_
      exact j_iret hG hE (Or.inl ⟨_, rfl, by rw [he0]; rfl, rfl⟩) (dt dtL_isAtRisk_0 15 rfl)
    · by_cases he1 : e = 2
      · rw [he1]
        refine jx_catch hG htab [⟨0, 19, 22, 25⟩] ⟨0, 19, 26, 19⟩ [⟨0, 19, 30, 30⟩, ⟨0, 19, 34, 53⟩] rfl (List.forall_mem_cons.mpr ⟨Or.inr ⟨by decide, _, 14, cll_25, rfl⟩, (fun _ hz => absurd hz List.not_mem_nil)⟩) rfl (by decide) cll_19 cst_2 (fun q => ?_)
        refine j_astore hG (lv' := [(5, .ref q), (0, .ref (wad (gB G) 0)), (1, .int a1), (2, .int a2), (3, .int a3), (4, .ref (wad (gB G) 37))]) (dt dtL_isAtRisk_0 16 rfl) (by decide) rfl ?_
        refine j_iconst hG (v := 2) (dt dtL_isAtRisk_0 17 rfl) (by decide) ?_
        exact j_iret hG hE (Or.inl ⟨_, rfl, by rw [he1]; rfl, rfl⟩) (dt dtL_isAtRisk_0 18 rfl)
      · by_cases he2 : e = 1
        · rw [he2]
          refine jx_catch hG htab [⟨0, 19, 22, 25⟩, ⟨0, 19, 26, 19⟩] ⟨0, 19, 30, 30⟩ [⟨0, 19, 34, 53⟩] rfl (List.forall_mem_cons.mpr ⟨Or.inr ⟨by decide, _, 9, cll_25, rfl⟩, (List.forall_mem_cons.mpr ⟨Or.inr ⟨by decide, _, 6, cll_19, rfl⟩, (fun _ hz => absurd hz List.not_mem_nil)⟩)⟩) rfl (by decide) cll_30 cst_1 (fun q => ?_)
          refine j_astore hG (lv' := [(5, .ref q), (0, .ref (wad (gB G) 0)), (1, .int a1), (2, .int a2), (3, .int a3), (4, .ref (wad (gB G) 37))]) (dt dtL_isAtRisk_0 19 rfl) (by decide) rfl ?_
          refine j_iconst hG (v := 3) (dt dtL_isAtRisk_0 20 rfl) (by decide) ?_
          exact j_iret hG hE (Or.inl ⟨_, rfl, by rw [he2]; rfl, rfl⟩) (dt dtL_isAtRisk_0 21 rfl)
        · by_cases he3 : e = 4
          · rw [he3]
            refine jx_catch hG htab [⟨0, 19, 22, 25⟩, ⟨0, 19, 26, 19⟩, ⟨0, 19, 30, 30⟩] ⟨0, 19, 34, 53⟩ [] rfl (List.forall_mem_cons.mpr ⟨Or.inr ⟨by decide, _, 24, cll_25, rfl⟩, (List.forall_mem_cons.mpr ⟨Or.inr ⟨by decide, _, 22, cll_19, rfl⟩, (List.forall_mem_cons.mpr ⟨Or.inr ⟨by decide, _, 21, cll_30, rfl⟩, (fun _ hz => absurd hz List.not_mem_nil)⟩)⟩)⟩) rfl (by decide) cll_53 cst_4 (fun q => ?_)
            refine j_astore hG (lv' := [(5, .ref q), (0, .ref (wad (gB G) 0)), (1, .int a1), (2, .int a2), (3, .int a3), (4, .ref (wad (gB G) 37))]) (dt dtL_isAtRisk_0 22 rfl) (by decide) rfl ?_
            refine j_iconst hG (v := 4) (dt dtL_isAtRisk_0 23 rfl) (by decide) ?_
            exact j_iret hG hE (Or.inl ⟨_, rfl, by rw [he3]; rfl, rfl⟩) (dt dtL_isAtRisk_0 24 rfl)
          · exact absurd hc (by simp [c_cell, he0, he1, he2, he3])
theorem ct_L_isAtRisk {l : Launch} (hl : l.stackTraces = false) (B : wB) {X Y : wM} {o : Int64} {dd : UInt64} {t1 : Nat → Nat} {a1 : Int32} {a2 : Int32} {a3 : Int32} {res : Nat ⊕ Int32} (h : f_X7_isAtRisk X a1 a2 a3 = some res) (hcd : ∀ e, res = .inl e → 0 < c_cell e) : wMetH l B yL_isAtRisk cL_isAtRisk 6 (some .int) [(0, 19, 22, 25), (0, 19, 26, 19), (0, 19, 30, 30), (0, 19, 34, 53)] 9 160 4 24 [.ref (wad B 0), .int a1, .int a2, .int a3, .ref (wad B 37)] (X, Y, o, dd, (t1, [])) (rpG c_cell res (X, Y, o, dd, (t1, [])) (fun z => (X, Y, zL z, dd, (t1, [])))) xp0 :=
  wMetH.of hl (by decide +kernel) (Nat.le_of_ble_eq_true rfl) (wTs_in 1161 (by decide +kernel) rfl) (fun G hB hL hG hE ht => by subst hB; exact g_L_isAtRisk hG hE ht h hcd)
theorem mh_L_isAtRisk : ((yL_isAtRisk.cls ≠ "java/lang/invoke/MethodHandle" ∧ yL_isAtRisk.cls ≠ "java/lang/invoke/VarHandle") ∧ (parseMethodDescriptor yL_isAtRisk.desc).map (fun d => d.parameters.length) = some 5 ∧ Cond.codeWith yL_isAtRisk cL_isAtRisk 6 (some .int) [(0, 19, 22, 25), (0, 19, 26, 19), (0, 19, 30, 30), (0, 19, 34, 53)] ∈ wTs ∧ Cond.initialized yL_isAtRisk.cls ∈ wTs) ∧ Cond.static yL_isAtRisk ∈ wTs := ⟨⟨⟨by decide +kernel, by decide +kernel⟩, by decide +kernel, wTs_in 1161 (by decide +kernel) rfl, wTs_in 36 (by decide +kernel) rfl⟩, wTs_in 1160 (by decide +kernel) rfl⟩
set_option maxRecDepth 4000 in
theorem g_L_found {G : wG} (hG : wOk G RL cL_found 4 8 133) {X Y : wM} {o : Int64} {dd : UInt64} {t1 : Nat → Nat} {a1 : Int32} {res : Nat ⊕ Int32} (hE : wEnd G (some .int) (rpG (fun e => if e = 5 then 1 else 0) res (X, Y, o, dd, (t1, [])) (fun z => (X, Y, z.toInt64, dd, (t1, [])))) xp0) (htab : (gc G).exceptionTable.toList = tableOf [(0, 9, 12, 25)]) (h : f_X7_found X a1 = some res) (hcd : ∀ e, res = .inl e → 0 < (fun e => if e = 5 then 1 else 0) e) : J G 4 1 6 0 [(0, .ref (wad (gB G) 0)), (1, .int a1), (2, .ref (wad (gB G) 37))] [] (X, Y, o, dd, (t1, [])) := by
  refine j_aload_n hG 2 (dt dtL_found_0 0 rfl) rfl rfl ?_
  refine j_iconst hG (v := 0) (dt dtL_found_0 1 rfl) (by decide) ?_
  refine j_aload_n hG 0 (dt dtL_found_0 2 rfl) rfl rfl ?_
  refine j_iload_n hG 1 (dt dtL_found_0 3 rfl) rfl rfl ?_
  refine j_callV hG (kc := 0) (ks := 0) (ct_X7_found hG.2.2.1 (gB G) _ _ _ _ _ h) mf_X7_found ml_L_116 0 (cv_0 _ _ _ _) rfl rfl (rest := [.int 0, .ref (wad (gB G) 37)]) rfl (Nat.le_of_ble_eq_true rfl) (dt dtL_found_0 4 rfl) (by decide) (by decide) (fun v σ2 q => ?_) (fun E σ2 q => ?_)
  · obtain ⟨z, rfl, rfl, rfl⟩ := q
    refine j_i2l hG (dt dtL_found_0 5 rfl) ?_
    refine j_last hG (dt dtL_found_0 6 rfl) ?_
    refine j_goto hG (tgt := 15) (dt dtL_found_0 7 rfl) (by decide) ?_
    refine j_iconst hG (v := 0) (dt dtL_found_0 11 rfl) (by decide) ?_
    exact j_iret hG hE (Or.inr ⟨_, rfl, rfl, rfl⟩) (dt dtL_found_0 12 rfl)
  · obtain ⟨e, rfl, rfl, rfl⟩ := q
    have hc := hcd _ rfl
    by_cases he0 : e = 5
    · rw [he0]
      refine jx_catch hG htab [] ⟨0, 9, 12, 25⟩ [] rfl (fun _ hz => absurd hz List.not_mem_nil) rfl (by decide) cll_25 cst_5 (fun q => ?_)
      refine j_astore_n hG (lv' := [(3, .ref q), (0, .ref (wad (gB G) 0)), (1, .int a1), (2, .ref (wad (gB G) 37))]) (dt dtL_found_0 8 rfl) rfl (by decide) rfl ?_
      refine j_iconst hG (v := 1) (dt dtL_found_0 9 rfl) (by decide) ?_
      exact j_iret hG hE (Or.inl ⟨_, rfl, by rw [he0]; rfl, rfl⟩) (dt dtL_found_0 10 rfl)
    · exact absurd hc (by simp [he0])
theorem ct_L_found {l : Launch} (hl : l.stackTraces = false) (B : wB) {X Y : wM} {o : Int64} {dd : UInt64} {t1 : Nat → Nat} {a1 : Int32} {res : Nat ⊕ Int32} (h : f_X7_found X a1 = some res) (hcd : ∀ e, res = .inl e → 0 < (fun e => if e = 5 then 1 else 0) e) : wMetH l B yL_found cL_found 4 (some .int) [(0, 9, 12, 25)] 8 133 1 6 [.ref (wad B 0), .int a1, .ref (wad B 37)] (X, Y, o, dd, (t1, [])) (rpG (fun e => if e = 5 then 1 else 0) res (X, Y, o, dd, (t1, [])) (fun z => (X, Y, z.toInt64, dd, (t1, [])))) xp0 :=
  wMetH.of hl (by decide +kernel) (Nat.le_of_ble_eq_true rfl) (wTs_in 1171 (by decide +kernel) rfl) (fun G hB hL hG hE ht => by subst hB; exact g_L_found hG hE ht h hcd)
theorem mh_L_found : ((yL_found.cls ≠ "java/lang/invoke/MethodHandle" ∧ yL_found.cls ≠ "java/lang/invoke/VarHandle") ∧ (parseMethodDescriptor yL_found.desc).map (fun d => d.parameters.length) = some 3 ∧ Cond.codeWith yL_found cL_found 4 (some .int) [(0, 9, 12, 25)] ∈ wTs ∧ Cond.initialized yL_found.cls ∈ wTs) ∧ Cond.static yL_found ∈ wTs := ⟨⟨⟨by decide +kernel, by decide +kernel⟩, by decide +kernel, wTs_in 1171 (by decide +kernel) rfl, wTs_in 36 (by decide +kernel) rfl⟩, wTs_in 1170 (by decide +kernel) rfl⟩
set_option maxRecDepth 4000 in
theorem g_L_foundByWays {G : wG} (hG : wOk G RL cL_foundByWays 4 8 133) {X Y : wM} {o : Int64} {dd : UInt64} {t1 : Nat → Nat} {a1 : Int32} {res : Nat ⊕ Int32} (hE : wEnd G (some .int) (rpG (fun e => if e = 5 then 1 else 0) res (X, Y, o, dd, (t1, [])) (fun z => (X, Y, z.toInt64, dd, (t1, [])))) xp0) (htab : (gc G).exceptionTable.toList = tableOf [(0, 9, 12, 25)]) (h : f_X7_foundByWays X a1 = some res) (hcd : ∀ e, res = .inl e → 0 < (fun e => if e = 5 then 1 else 0) e) : J G 4 1 6 0 [(0, .ref (wad (gB G) 0)), (1, .int a1), (2, .ref (wad (gB G) 37))] [] (X, Y, o, dd, (t1, [])) := by
  refine j_aload_n hG 2 (dt dtL_foundByWays_0 0 rfl) rfl rfl ?_
  refine j_iconst hG (v := 0) (dt dtL_foundByWays_0 1 rfl) (by decide) ?_
  refine j_aload_n hG 0 (dt dtL_foundByWays_0 2 rfl) rfl rfl ?_
  refine j_iload_n hG 1 (dt dtL_foundByWays_0 3 rfl) rfl rfl ?_
  refine j_callV hG (kc := 0) (ks := 0) (ct_X7_foundByWays hG.2.2.1 (gB G) _ _ _ _ _ h) mf_X7_foundByWays ml_L_119 0 (cv_0 _ _ _ _) rfl rfl (rest := [.int 0, .ref (wad (gB G) 37)]) rfl (Nat.le_of_ble_eq_true rfl) (dt dtL_foundByWays_0 4 rfl) (by decide) (by decide) (fun v σ2 q => ?_) (fun E σ2 q => ?_)
  · obtain ⟨z, rfl, rfl, rfl⟩ := q
    refine j_i2l hG (dt dtL_foundByWays_0 5 rfl) ?_
    refine j_last hG (dt dtL_foundByWays_0 6 rfl) ?_
    refine j_goto hG (tgt := 15) (dt dtL_foundByWays_0 7 rfl) (by decide) ?_
    refine j_iconst hG (v := 0) (dt dtL_foundByWays_0 11 rfl) (by decide) ?_
    exact j_iret hG hE (Or.inr ⟨_, rfl, rfl, rfl⟩) (dt dtL_foundByWays_0 12 rfl)
  · obtain ⟨e, rfl, rfl, rfl⟩ := q
    have hc := hcd _ rfl
    by_cases he0 : e = 5
    · rw [he0]
      refine jx_catch hG htab [] ⟨0, 9, 12, 25⟩ [] rfl (fun _ hz => absurd hz List.not_mem_nil) rfl (by decide) cll_25 cst_5 (fun q => ?_)
      refine j_astore_n hG (lv' := [(3, .ref q), (0, .ref (wad (gB G) 0)), (1, .int a1), (2, .ref (wad (gB G) 37))]) (dt dtL_foundByWays_0 8 rfl) rfl (by decide) rfl ?_
      refine j_iconst hG (v := 1) (dt dtL_foundByWays_0 9 rfl) (by decide) ?_
      exact j_iret hG hE (Or.inl ⟨_, rfl, by rw [he0]; rfl, rfl⟩) (dt dtL_foundByWays_0 10 rfl)
    · exact absurd hc (by simp [he0])
theorem ct_L_foundByWays {l : Launch} (hl : l.stackTraces = false) (B : wB) {X Y : wM} {o : Int64} {dd : UInt64} {t1 : Nat → Nat} {a1 : Int32} {res : Nat ⊕ Int32} (h : f_X7_foundByWays X a1 = some res) (hcd : ∀ e, res = .inl e → 0 < (fun e => if e = 5 then 1 else 0) e) : wMetH l B yL_foundByWays cL_foundByWays 4 (some .int) [(0, 9, 12, 25)] 8 133 1 6 [.ref (wad B 0), .int a1, .ref (wad B 37)] (X, Y, o, dd, (t1, [])) (rpG (fun e => if e = 5 then 1 else 0) res (X, Y, o, dd, (t1, [])) (fun z => (X, Y, z.toInt64, dd, (t1, [])))) xp0 :=
  wMetH.of hl (by decide +kernel) (Nat.le_of_ble_eq_true rfl) (wTs_in 1178 (by decide +kernel) rfl) (fun G hB hL hG hE ht => by subst hB; exact g_L_foundByWays hG hE ht h hcd)
theorem mh_L_foundByWays : ((yL_foundByWays.cls ≠ "java/lang/invoke/MethodHandle" ∧ yL_foundByWays.cls ≠ "java/lang/invoke/VarHandle") ∧ (parseMethodDescriptor yL_foundByWays.desc).map (fun d => d.parameters.length) = some 3 ∧ Cond.codeWith yL_foundByWays cL_foundByWays 4 (some .int) [(0, 9, 12, 25)] ∈ wTs ∧ Cond.initialized yL_foundByWays.cls ∈ wTs) ∧ Cond.static yL_foundByWays ∈ wTs := ⟨⟨⟨by decide +kernel, by decide +kernel⟩, by decide +kernel, wTs_in 1178 (by decide +kernel) rfl, wTs_in 36 (by decide +kernel) rfl⟩, wTs_in 1177 (by decide +kernel) rfl⟩
set_option maxRecDepth 4000 in
theorem g_L_lineLength {G : wG} (hG : wOk G RL cL_lineLength 4 8 133) {X Y : wM} {o : Int64} {dd : UInt64} {t1 : Nat → Nat} {a1 : Int32} {res : Nat ⊕ Int32} (hE : wEnd G (some .int) (rpG (fun e => if e = 5 then 1 else 0) res (X, Y, o, dd, (t1, [])) (fun z => (X, Y, z.toInt64, dd, (t1, [])))) xp0) (htab : (gc G).exceptionTable.toList = tableOf [(0, 9, 12, 25)]) (h : f_X7_lineLength X a1 = some res) (hcd : ∀ e, res = .inl e → 0 < (fun e => if e = 5 then 1 else 0) e) : J G 4 1 6 0 [(0, .ref (wad (gB G) 0)), (1, .int a1), (2, .ref (wad (gB G) 37))] [] (X, Y, o, dd, (t1, [])) := by
  refine j_aload_n hG 2 (dt dtL_lineLength_0 0 rfl) rfl rfl ?_
  refine j_iconst hG (v := 0) (dt dtL_lineLength_0 1 rfl) (by decide) ?_
  refine j_aload_n hG 0 (dt dtL_lineLength_0 2 rfl) rfl rfl ?_
  refine j_iload_n hG 1 (dt dtL_lineLength_0 3 rfl) rfl rfl ?_
  refine j_callV hG (kc := 0) (ks := 0) (ct_X7_lineLength hG.2.2.1 (gB G) h) mf_X7_lineLength ml_L_122 0 (cv_0 _ _ _ _) rfl rfl (rest := [.int 0, .ref (wad (gB G) 37)]) rfl (Nat.le_of_ble_eq_true rfl) (dt dtL_lineLength_0 4 rfl) (by decide) (by decide) (fun v σ2 q => ?_) (fun E σ2 q => ?_)
  · obtain ⟨z, rfl, rfl, rfl⟩ := q
    refine j_i2l hG (dt dtL_lineLength_0 5 rfl) ?_
    refine j_last hG (dt dtL_lineLength_0 6 rfl) ?_
    refine j_goto hG (tgt := 15) (dt dtL_lineLength_0 7 rfl) (by decide) ?_
    refine j_iconst hG (v := 0) (dt dtL_lineLength_0 11 rfl) (by decide) ?_
    exact j_iret hG hE (Or.inr ⟨_, rfl, rfl, rfl⟩) (dt dtL_lineLength_0 12 rfl)
  · obtain ⟨e, rfl, rfl, rfl⟩ := q
    have hc := hcd _ rfl
    by_cases he0 : e = 5
    · rw [he0]
      refine jx_catch hG htab [] ⟨0, 9, 12, 25⟩ [] rfl (fun _ hz => absurd hz List.not_mem_nil) rfl (by decide) cll_25 cst_5 (fun q => ?_)
      refine j_astore_n hG (lv' := [(3, .ref q), (0, .ref (wad (gB G) 0)), (1, .int a1), (2, .ref (wad (gB G) 37))]) (dt dtL_lineLength_0 8 rfl) rfl (by decide) rfl ?_
      refine j_iconst hG (v := 1) (dt dtL_lineLength_0 9 rfl) (by decide) ?_
      exact j_iret hG hE (Or.inl ⟨_, rfl, by rw [he0]; rfl, rfl⟩) (dt dtL_lineLength_0 10 rfl)
    · exact absurd hc (by simp [he0])
theorem ct_L_lineLength {l : Launch} (hl : l.stackTraces = false) (B : wB) {X Y : wM} {o : Int64} {dd : UInt64} {t1 : Nat → Nat} {a1 : Int32} {res : Nat ⊕ Int32} (h : f_X7_lineLength X a1 = some res) (hcd : ∀ e, res = .inl e → 0 < (fun e => if e = 5 then 1 else 0) e) : wMetH l B yL_lineLength cL_lineLength 4 (some .int) [(0, 9, 12, 25)] 8 133 1 6 [.ref (wad B 0), .int a1, .ref (wad B 37)] (X, Y, o, dd, (t1, [])) (rpG (fun e => if e = 5 then 1 else 0) res (X, Y, o, dd, (t1, [])) (fun z => (X, Y, z.toInt64, dd, (t1, [])))) xp0 :=
  wMetH.of hl (by decide +kernel) (Nat.le_of_ble_eq_true rfl) (wTs_in 1185 (by decide +kernel) rfl) (fun G hB hL hG hE ht => by subst hB; exact g_L_lineLength hG hE ht h hcd)
theorem mh_L_lineLength : ((yL_lineLength.cls ≠ "java/lang/invoke/MethodHandle" ∧ yL_lineLength.cls ≠ "java/lang/invoke/VarHandle") ∧ (parseMethodDescriptor yL_lineLength.desc).map (fun d => d.parameters.length) = some 3 ∧ Cond.codeWith yL_lineLength cL_lineLength 4 (some .int) [(0, 9, 12, 25)] ∈ wTs ∧ Cond.initialized yL_lineLength.cls ∈ wTs) ∧ Cond.static yL_lineLength ∈ wTs := ⟨⟨⟨by decide +kernel, by decide +kernel⟩, by decide +kernel, wTs_in 1185 (by decide +kernel) rfl, wTs_in 36 (by decide +kernel) rfl⟩, wTs_in 1184 (by decide +kernel) rfl⟩
set_option maxRecDepth 4000 in
theorem g_L_lineAt {G : wG} (hG : wOk G RL cL_lineAt 5 8 135) {X Y : wM} {o : Int64} {dd : UInt64} {t1 : Nat → Nat} {a1 : Int32} {a2 : Int32} {res : Nat ⊕ Int32} (hE : wEnd G (some .int) (rpG (fun e => if e = 5 then 1 else if e = 2 then 2 else 0) res (X, Y, o, dd, (t1, [])) (fun z => (X, Y, z.toInt64, dd, (t1, [])))) xp0) (htab : (gc G).exceptionTable.toList = tableOf [(0, 10, 13, 25), (0, 10, 17, 19)]) (h : f_X7_lineAt X a1 a2 = some res) (hcd : ∀ e, res = .inl e → 0 < (fun e => if e = 5 then 1 else if e = 2 then 2 else 0) e) : J G 5 2 12 0 [(0, .ref (wad (gB G) 0)), (1, .int a1), (2, .int a2), (3, .ref (wad (gB G) 37))] [] (X, Y, o, dd, (t1, [])) := by
  refine j_aload_n hG 3 (dt dtL_lineAt_0 0 rfl) rfl rfl ?_
  refine j_iconst hG (v := 0) (dt dtL_lineAt_0 1 rfl) (by decide) ?_
  refine j_aload_n hG 0 (dt dtL_lineAt_0 2 rfl) rfl rfl ?_
  refine j_iload_n hG 1 (dt dtL_lineAt_0 3 rfl) rfl rfl ?_
  refine j_iload_n hG 2 (dt dtL_lineAt_0 4 rfl) rfl rfl ?_
  refine j_callV hG (kc := 0) (ks := 0) (ct_X7_lineAt hG.2.2.1 (gB G) h) mf_X7_lineAt ml_L_125 0 (cv_0 _ _ _ _) rfl rfl (rest := [.int 0, .ref (wad (gB G) 37)]) rfl (Nat.le_of_ble_eq_true rfl) (dt dtL_lineAt_0 5 rfl) (by decide) (by decide) (fun v σ2 q => ?_) (fun E σ2 q => ?_)
  · obtain ⟨z, rfl, rfl, rfl⟩ := q
    refine j_i2l hG (dt dtL_lineAt_0 6 rfl) ?_
    refine j_last hG (dt dtL_lineAt_0 7 rfl) ?_
    refine j_goto hG (tgt := 21) (dt dtL_lineAt_0 8 rfl) (by decide) ?_
    refine j_iconst hG (v := 0) (dt dtL_lineAt_0 15 rfl) (by decide) ?_
    exact j_iret hG hE (Or.inr ⟨_, rfl, rfl, rfl⟩) (dt dtL_lineAt_0 16 rfl)
  · obtain ⟨e, rfl, rfl, rfl⟩ := q
    have hc := hcd _ rfl
    by_cases he0 : e = 5
    · rw [he0]
      refine jx_catch hG htab [] ⟨0, 10, 13, 25⟩ [⟨0, 10, 17, 19⟩] rfl (fun _ hz => absurd hz List.not_mem_nil) rfl (by decide) cll_25 cst_5 (fun q => ?_)
      refine j_astore hG (lv' := [(4, .ref q), (0, .ref (wad (gB G) 0)), (1, .int a1), (2, .int a2), (3, .ref (wad (gB G) 37))]) (dt dtL_lineAt_0 9 rfl) (by decide) rfl ?_
      refine j_iconst hG (v := 1) (dt dtL_lineAt_0 10 rfl) (by decide) ?_
      exact j_iret hG hE (Or.inl ⟨_, rfl, by rw [he0]; rfl, rfl⟩) (dt dtL_lineAt_0 11 rfl)
    · by_cases he1 : e = 2
      · rw [he1]
        refine jx_catch hG htab [⟨0, 10, 13, 25⟩] ⟨0, 10, 17, 19⟩ [] rfl (List.forall_mem_cons.mpr ⟨Or.inr ⟨by decide, _, 14, cll_25, rfl⟩, (fun _ hz => absurd hz List.not_mem_nil)⟩) rfl (by decide) cll_19 cst_2 (fun q => ?_)
        refine j_astore hG (lv' := [(4, .ref q), (0, .ref (wad (gB G) 0)), (1, .int a1), (2, .int a2), (3, .ref (wad (gB G) 37))]) (dt dtL_lineAt_0 12 rfl) (by decide) rfl ?_
        refine j_iconst hG (v := 2) (dt dtL_lineAt_0 13 rfl) (by decide) ?_
        exact j_iret hG hE (Or.inl ⟨_, rfl, by rw [he1]; rfl, rfl⟩) (dt dtL_lineAt_0 14 rfl)
      · exact absurd hc (by simp [he0, he1])
theorem ct_L_lineAt {l : Launch} (hl : l.stackTraces = false) (B : wB) {X Y : wM} {o : Int64} {dd : UInt64} {t1 : Nat → Nat} {a1 : Int32} {a2 : Int32} {res : Nat ⊕ Int32} (h : f_X7_lineAt X a1 a2 = some res) (hcd : ∀ e, res = .inl e → 0 < (fun e => if e = 5 then 1 else if e = 2 then 2 else 0) e) : wMetH l B yL_lineAt cL_lineAt 5 (some .int) [(0, 10, 13, 25), (0, 10, 17, 19)] 8 135 2 12 [.ref (wad B 0), .int a1, .int a2, .ref (wad B 37)] (X, Y, o, dd, (t1, [])) (rpG (fun e => if e = 5 then 1 else if e = 2 then 2 else 0) res (X, Y, o, dd, (t1, [])) (fun z => (X, Y, z.toInt64, dd, (t1, [])))) xp0 :=
  wMetH.of hl (by decide +kernel) (Nat.le_of_ble_eq_true rfl) (wTs_in 1193 (by decide +kernel) rfl) (fun G hB hL hG hE ht => by subst hB; exact g_L_lineAt hG hE ht h hcd)
theorem mh_L_lineAt : ((yL_lineAt.cls ≠ "java/lang/invoke/MethodHandle" ∧ yL_lineAt.cls ≠ "java/lang/invoke/VarHandle") ∧ (parseMethodDescriptor yL_lineAt.desc).map (fun d => d.parameters.length) = some 4 ∧ Cond.codeWith yL_lineAt cL_lineAt 5 (some .int) [(0, 10, 13, 25), (0, 10, 17, 19)] ∈ wTs ∧ Cond.initialized yL_lineAt.cls ∈ wTs) ∧ Cond.static yL_lineAt ∈ wTs := ⟨⟨⟨by decide +kernel, by decide +kernel⟩, by decide +kernel, wTs_in 1193 (by decide +kernel) rfl, wTs_in 36 (by decide +kernel) rfl⟩, wTs_in 1192 (by decide +kernel) rfl⟩
