section
-- ===== PART A: goes FIRST, ahead of the names: the tables' words, and 'selects' of the private methods out of them =====
/-- a private method of a class that the tables say can be made, by its rows of tables_1 -/
def lw_okq (q : MethodName × Nat) : Prop := (q.1.cls ≠ "java/lang/invoke/MethodHandle" ∧ q.1.cls ≠ "java/lang/invoke/VarHandle") ∧ Cond.instantiable q.1.cls q.2 ∈ tables_1 ∧ Cond.privateMethod q.1 ∈ tables_1 ∧ Cond.instanceMethod q.1 ∈ tables_1
theorem lw_p0 : lw_okq (⟨"CensusLoom", "isSafeTable", "(LCensusLoom$Table;)Z"⟩, 8) := ⟨⟨by decide +kernel, by decide +kernel⟩, List.mem_of_getElem? (i := 33) (by decide +kernel), List.mem_of_getElem? (i := 292) (by decide +kernel), List.mem_of_getElem? (i := 293) (by decide +kernel)⟩
theorem lw_p1 : lw_okq (⟨"java/lang/Throwable", "fillInStackTrace", "(I)Ljava/lang/Throwable;"⟩, 6) := ⟨⟨by decide +kernel, by decide +kernel⟩, List.mem_of_getElem? (i := 387) (by decide +kernel), List.mem_of_getElem? (i := 385) (by decide +kernel), List.mem_of_getElem? (i := 386) (by decide +kernel)⟩
theorem lw_p2 : lw_okq (⟨"CensusLoom", "settle", "()I"⟩, 8) := ⟨⟨by decide +kernel, by decide +kernel⟩, List.mem_of_getElem? (i := 33) (by decide +kernel), List.mem_of_getElem? (i := 421) (by decide +kernel), List.mem_of_getElem? (i := 422) (by decide +kernel)⟩
theorem lw_p3 : lw_okq (⟨"CensusLoom", "needBlock", "(I)V"⟩, 8) := ⟨⟨by decide +kernel, by decide +kernel⟩, List.mem_of_getElem? (i := 33) (by decide +kernel), List.mem_of_getElem? (i := 475) (by decide +kernel), List.mem_of_getElem? (i := 476) (by decide +kernel)⟩
theorem lw_p4 : lw_okq (⟨"CensusLoom", "needAddress", "(I)V"⟩, 8) := ⟨⟨by decide +kernel, by decide +kernel⟩, List.mem_of_getElem? (i := 33) (by decide +kernel), List.mem_of_getElem? (i := 562) (by decide +kernel), List.mem_of_getElem? (i := 563) (by decide +kernel)⟩
theorem lw_p5 : lw_okq (⟨"CensusLoom", "needTwoRecords", "(II)V"⟩, 8) := ⟨⟨by decide +kernel, by decide +kernel⟩, List.mem_of_getElem? (i := 33) (by decide +kernel), List.mem_of_getElem? (i := 607) (by decide +kernel), List.mem_of_getElem? (i := 608) (by decide +kernel)⟩
theorem lw_p6 : lw_okq (⟨"CensusLoom", "needRecord", "(I)V"⟩, 8) := ⟨⟨by decide +kernel, by decide +kernel⟩, List.mem_of_getElem? (i := 33) (by decide +kernel), List.mem_of_getElem? (i := 611) (by decide +kernel), List.mem_of_getElem? (i := 612) (by decide +kernel)⟩
theorem lw_p7 : lw_okq (⟨"CensusLoom", "needGroup", "(I)V"⟩, 8) := ⟨⟨by decide +kernel, by decide +kernel⟩, List.mem_of_getElem? (i := 33) (by decide +kernel), List.mem_of_getElem? (i := 687) (by decide +kernel), List.mem_of_getElem? (i := 688) (by decide +kernel)⟩
theorem lw_p8 : lw_okq (⟨"CensusLoom", "toldTable", "(I)LCensusLoom$Table;"⟩, 8) := ⟨⟨by decide +kernel, by decide +kernel⟩, List.mem_of_getElem? (i := 33) (by decide +kernel), List.mem_of_getElem? (i := 1059) (by decide +kernel), List.mem_of_getElem? (i := 1060) (by decide +kernel)⟩
theorem lw_p9 : lw_okq (⟨"CensusLoom", "needCell", "(LCensusLoom$Table;II)V"⟩, 8) := ⟨⟨by decide +kernel, by decide +kernel⟩, List.mem_of_getElem? (i := 33) (by decide +kernel), List.mem_of_getElem? (i := 1071) (by decide +kernel), List.mem_of_getElem? (i := 1072) (by decide +kernel)⟩
theorem lw_p10 : lw_okq (⟨"CensusLoom", "needBlockIn", "(LCensusLoom$Table;I)V"⟩, 8) := ⟨⟨by decide +kernel, by decide +kernel⟩, List.mem_of_getElem? (i := 33) (by decide +kernel), List.mem_of_getElem? (i := 1075) (by decide +kernel), List.mem_of_getElem? (i := 1076) (by decide +kernel)⟩
theorem lw_p11 : lw_okq (⟨"CensusLoomModel", "checked", "(Z)I"⟩, 26) := ⟨⟨by decide +kernel, by decide +kernel⟩, List.mem_of_getElem? (i := 1179) (by decide +kernel), List.mem_of_getElem? (i := 1272) (by decide +kernel), List.mem_of_getElem? (i := 1273) (by decide +kernel)⟩
theorem lw_p12 : lw_okq (⟨"CensusLoomModel", "looks", "()I"⟩, 26) := ⟨⟨by decide +kernel, by decide +kernel⟩, List.mem_of_getElem? (i := 1179) (by decide +kernel), List.mem_of_getElem? (i := 1276) (by decide +kernel), List.mem_of_getElem? (i := 1277) (by decide +kernel)⟩
theorem lw_p13 : lw_okq (⟨"CensusLoomModel", "layCounts", "()V"⟩, 26) := ⟨⟨by decide +kernel, by decide +kernel⟩, List.mem_of_getElem? (i := 1179) (by decide +kernel), List.mem_of_getElem? (i := 1280) (by decide +kernel), List.mem_of_getElem? (i := 1281) (by decide +kernel)⟩
theorem lw_p14 : lw_okq (⟨"CensusLoomModel", "layDoubles", "()V"⟩, 26) := ⟨⟨by decide +kernel, by decide +kernel⟩, List.mem_of_getElem? (i := 1179) (by decide +kernel), List.mem_of_getElem? (i := 1284) (by decide +kernel), List.mem_of_getElem? (i := 1285) (by decide +kernel)⟩
theorem lw_p15 : lw_okq (⟨"CensusLoomModel", "linkOf", "(II)C"⟩, 26) := ⟨⟨by decide +kernel, by decide +kernel⟩, List.mem_of_getElem? (i := 1179) (by decide +kernel), List.mem_of_getElem? (i := 1288) (by decide +kernel), List.mem_of_getElem? (i := 1289) (by decide +kernel)⟩
def lw_privs_1 : List (MethodName × Nat) := [(⟨"CensusLoom", "isSafeTable", "(LCensusLoom$Table;)Z"⟩, 8), (⟨"java/lang/Throwable", "fillInStackTrace", "(I)Ljava/lang/Throwable;"⟩, 6), (⟨"CensusLoom", "settle", "()I"⟩, 8), (⟨"CensusLoom", "needBlock", "(I)V"⟩, 8), (⟨"CensusLoom", "needAddress", "(I)V"⟩, 8), (⟨"CensusLoom", "needTwoRecords", "(II)V"⟩, 8), (⟨"CensusLoom", "needRecord", "(I)V"⟩, 8), (⟨"CensusLoom", "needGroup", "(I)V"⟩, 8), (⟨"CensusLoom", "toldTable", "(I)LCensusLoom$Table;"⟩, 8), (⟨"CensusLoom", "needCell", "(LCensusLoom$Table;II)V"⟩, 8), (⟨"CensusLoom", "needBlockIn", "(LCensusLoom$Table;I)V"⟩, 8), (⟨"CensusLoomModel", "checked", "(Z)I"⟩, 26), (⟨"CensusLoomModel", "looks", "()I"⟩, 26), (⟨"CensusLoomModel", "layCounts", "()V"⟩, 26), (⟨"CensusLoomModel", "layDoubles", "()V"⟩, 26), (⟨"CensusLoomModel", "linkOf", "(II)C"⟩, 26)]
theorem lw_r1 : ∀ q ∈ lw_privs_1, lw_okq q := List.forall_mem_cons.mpr ⟨lw_p0, List.forall_mem_cons.mpr ⟨lw_p1, List.forall_mem_cons.mpr ⟨lw_p2, List.forall_mem_cons.mpr ⟨lw_p3, List.forall_mem_cons.mpr ⟨lw_p4, List.forall_mem_cons.mpr ⟨lw_p5, List.forall_mem_cons.mpr ⟨lw_p6, List.forall_mem_cons.mpr ⟨lw_p7, List.forall_mem_cons.mpr ⟨lw_p8, List.forall_mem_cons.mpr ⟨lw_p9, List.forall_mem_cons.mpr ⟨lw_p10, List.forall_mem_cons.mpr ⟨lw_p11, List.forall_mem_cons.mpr ⟨lw_p12, List.forall_mem_cons.mpr ⟨lw_p13, List.forall_mem_cons.mpr ⟨lw_p14, List.forall_mem_cons.mpr ⟨lw_p15, fun _ h => absurd h List.not_mem_nil⟩⟩⟩⟩⟩⟩⟩⟩⟩⟩⟩⟩⟩⟩⟩⟩
theorem lw_p16 : lw_okq (⟨"CensusLoomModel", "scoreOf", "(II)I"⟩, 26) := ⟨⟨by decide +kernel, by decide +kernel⟩, List.mem_of_getElem? (i := 1179) (by decide +kernel), List.mem_of_getElem? (i := 1292) (by decide +kernel), List.mem_of_getElem? (i := 1293) (by decide +kernel)⟩
theorem lw_p17 : lw_okq (⟨"CensusLoomModel", "blockFor", "(I)I"⟩, 26) := ⟨⟨by decide +kernel, by decide +kernel⟩, List.mem_of_getElem? (i := 1179) (by decide +kernel), List.mem_of_getElem? (i := 1296) (by decide +kernel), List.mem_of_getElem? (i := 1297) (by decide +kernel)⟩
theorem lw_p18 : lw_okq (⟨"CensusLoomModel", "isCounted", "(I)Z"⟩, 26) := ⟨⟨by decide +kernel, by decide +kernel⟩, List.mem_of_getElem? (i := 1179) (by decide +kernel), List.mem_of_getElem? (i := 1300) (by decide +kernel), List.mem_of_getElem? (i := 1301) (by decide +kernel)⟩
theorem lw_p19 : lw_okq (⟨"CensusLoomModel", "isBlock", "(I)Z"⟩, 26) := ⟨⟨by decide +kernel, by decide +kernel⟩, List.mem_of_getElem? (i := 1179) (by decide +kernel), List.mem_of_getElem? (i := 1311) (by decide +kernel), List.mem_of_getElem? (i := 1312) (by decide +kernel)⟩
theorem lw_p20 : lw_okq (⟨"CensusLoomModel", "wrongPair", "(II)I"⟩, 26) := ⟨⟨by decide +kernel, by decide +kernel⟩, List.mem_of_getElem? (i := 1179) (by decide +kernel), List.mem_of_getElem? (i := 1346) (by decide +kernel), List.mem_of_getElem? (i := 1347) (by decide +kernel)⟩
theorem lw_p21 : lw_okq (⟨"CensusLoomModel", "isRecord", "(I)Z"⟩, 26) := ⟨⟨by decide +kernel, by decide +kernel⟩, List.mem_of_getElem? (i := 1179) (by decide +kernel), List.mem_of_getElem? (i := 1350) (by decide +kernel), List.mem_of_getElem? (i := 1351) (by decide +kernel)⟩
theorem lw_p22 : lw_okq (⟨"CensusLoomModel", "decides", "(IIC)V"⟩, 26) := ⟨⟨by decide +kernel, by decide +kernel⟩, List.mem_of_getElem? (i := 1179) (by decide +kernel), List.mem_of_getElem? (i := 1358) (by decide +kernel), List.mem_of_getElem? (i := 1359) (by decide +kernel)⟩
theorem lw_p23 : lw_okq (⟨"CensusLoomModel", "plain", "(I)I"⟩, 26) := ⟨⟨by decide +kernel, by decide +kernel⟩, List.mem_of_getElem? (i := 1179) (by decide +kernel), List.mem_of_getElem? (i := 1374) (by decide +kernel), List.mem_of_getElem? (i := 1375) (by decide +kernel)⟩
theorem lw_p24 : lw_okq (⟨"CensusLoomModel", "layMatches", "()V"⟩, 26) := ⟨⟨by decide +kernel, by decide +kernel⟩, List.mem_of_getElem? (i := 1179) (by decide +kernel), List.mem_of_getElem? (i := 1386) (by decide +kernel), List.mem_of_getElem? (i := 1387) (by decide +kernel)⟩
theorem lw_p25 : lw_okq (⟨"CensusLoomModel", "many", "(CZ)I"⟩, 26) := ⟨⟨by decide +kernel, by decide +kernel⟩, List.mem_of_getElem? (i := 1179) (by decide +kernel), List.mem_of_getElem? (i := 1407) (by decide +kernel), List.mem_of_getElem? (i := 1408) (by decide +kernel)⟩
theorem lw_p26 : lw_okq (⟨"CensusLoomModel", "hides", "(I)Z"⟩, 26) := ⟨⟨by decide +kernel, by decide +kernel⟩, List.mem_of_getElem? (i := 1179) (by decide +kernel), List.mem_of_getElem? (i := 1423) (by decide +kernel), List.mem_of_getElem? (i := 1424) (by decide +kernel)⟩
theorem lw_p27 : lw_okq (⟨"CensusLoomModel", "hidesSmall", "(I)V"⟩, 26) := ⟨⟨by decide +kernel, by decide +kernel⟩, List.mem_of_getElem? (i := 1179) (by decide +kernel), List.mem_of_getElem? (i := 1427) (by decide +kernel), List.mem_of_getElem? (i := 1428) (by decide +kernel)⟩
theorem lw_p28 : lw_okq (⟨"CensusLoomModel", "firstFound", "(I)I"⟩, 26) := ⟨⟨by decide +kernel, by decide +kernel⟩, List.mem_of_getElem? (i := 1179) (by decide +kernel), List.mem_of_getElem? (i := 1431) (by decide +kernel), List.mem_of_getElem? (i := 1432) (by decide +kernel)⟩
theorem lw_p29 : lw_okq (⟨"CensusLoomModel", "isFound", "(II)Z"⟩, 26) := ⟨⟨by decide +kernel, by decide +kernel⟩, List.mem_of_getElem? (i := 1179) (by decide +kernel), List.mem_of_getElem? (i := 1435) (by decide +kernel), List.mem_of_getElem? (i := 1436) (by decide +kernel)⟩
theorem lw_p30 : lw_okq (⟨"CensusLoomModel", "next", "(IIZ)I"⟩, 26) := ⟨⟨by decide +kernel, by decide +kernel⟩, List.mem_of_getElem? (i := 1179) (by decide +kernel), List.mem_of_getElem? (i := 1439) (by decide +kernel), List.mem_of_getElem? (i := 1440) (by decide +kernel)⟩
theorem lw_p31 : lw_okq (⟨"CensusLoomModel", "canHide", "(II)Z"⟩, 26) := ⟨⟨by decide +kernel, by decide +kernel⟩, List.mem_of_getElem? (i := 1179) (by decide +kernel), List.mem_of_getElem? (i := 1443) (by decide +kernel), List.mem_of_getElem? (i := 1444) (by decide +kernel)⟩
def lw_privs_2 : List (MethodName × Nat) := [(⟨"CensusLoomModel", "scoreOf", "(II)I"⟩, 26), (⟨"CensusLoomModel", "blockFor", "(I)I"⟩, 26), (⟨"CensusLoomModel", "isCounted", "(I)Z"⟩, 26), (⟨"CensusLoomModel", "isBlock", "(I)Z"⟩, 26), (⟨"CensusLoomModel", "wrongPair", "(II)I"⟩, 26), (⟨"CensusLoomModel", "isRecord", "(I)Z"⟩, 26), (⟨"CensusLoomModel", "decides", "(IIC)V"⟩, 26), (⟨"CensusLoomModel", "plain", "(I)I"⟩, 26), (⟨"CensusLoomModel", "layMatches", "()V"⟩, 26), (⟨"CensusLoomModel", "many", "(CZ)I"⟩, 26), (⟨"CensusLoomModel", "hides", "(I)Z"⟩, 26), (⟨"CensusLoomModel", "hidesSmall", "(I)V"⟩, 26), (⟨"CensusLoomModel", "firstFound", "(I)I"⟩, 26), (⟨"CensusLoomModel", "isFound", "(II)Z"⟩, 26), (⟨"CensusLoomModel", "next", "(IIZ)I"⟩, 26), (⟨"CensusLoomModel", "canHide", "(II)Z"⟩, 26)]
theorem lw_r2 : ∀ q ∈ lw_privs_2, lw_okq q := List.forall_mem_cons.mpr ⟨lw_p16, List.forall_mem_cons.mpr ⟨lw_p17, List.forall_mem_cons.mpr ⟨lw_p18, List.forall_mem_cons.mpr ⟨lw_p19, List.forall_mem_cons.mpr ⟨lw_p20, List.forall_mem_cons.mpr ⟨lw_p21, List.forall_mem_cons.mpr ⟨lw_p22, List.forall_mem_cons.mpr ⟨lw_p23, List.forall_mem_cons.mpr ⟨lw_p24, List.forall_mem_cons.mpr ⟨lw_p25, List.forall_mem_cons.mpr ⟨lw_p26, List.forall_mem_cons.mpr ⟨lw_p27, List.forall_mem_cons.mpr ⟨lw_p28, List.forall_mem_cons.mpr ⟨lw_p29, List.forall_mem_cons.mpr ⟨lw_p30, List.forall_mem_cons.mpr ⟨lw_p31, fun _ h => absurd h List.not_mem_nil⟩⟩⟩⟩⟩⟩⟩⟩⟩⟩⟩⟩⟩⟩⟩⟩
theorem lw_p32 : lw_okq (⟨"CensusLoomModel", "helps", "(III)Z"⟩, 26) := ⟨⟨by decide +kernel, by decide +kernel⟩, List.mem_of_getElem? (i := 1179) (by decide +kernel), List.mem_of_getElem? (i := 1447) (by decide +kernel), List.mem_of_getElem? (i := 1448) (by decide +kernel)⟩
theorem lw_p33 : lw_okq (⟨"CensusLoomModel", "isTable", "(I)Z"⟩, 26) := ⟨⟨by decide +kernel, by decide +kernel⟩, List.mem_of_getElem? (i := 1179) (by decide +kernel), List.mem_of_getElem? (i := 1455) (by decide +kernel), List.mem_of_getElem? (i := 1456) (by decide +kernel)⟩
theorem lw_p34 : lw_okq (⟨"CensusLoomModel", "wrongCell", "(III)I"⟩, 26) := ⟨⟨by decide +kernel, by decide +kernel⟩, List.mem_of_getElem? (i := 1179) (by decide +kernel), List.mem_of_getElem? (i := 1463) (by decide +kernel), List.mem_of_getElem? (i := 1464) (by decide +kernel)⟩
theorem lw_p35 : lw_okq (⟨"CensusLoomModel", "line", "(I)Ljava/lang/String;"⟩, 26) := ⟨⟨by decide +kernel, by decide +kernel⟩, List.mem_of_getElem? (i := 1179) (by decide +kernel), List.mem_of_getElem? (i := 1503) (by decide +kernel), List.mem_of_getElem? (i := 1504) (by decide +kernel)⟩
def lw_privs_3 : List (MethodName × Nat) := [(⟨"CensusLoomModel", "helps", "(III)Z"⟩, 26), (⟨"CensusLoomModel", "isTable", "(I)Z"⟩, 26), (⟨"CensusLoomModel", "wrongCell", "(III)I"⟩, 26), (⟨"CensusLoomModel", "line", "(I)Ljava/lang/String;"⟩, 26)]
theorem lw_r3 : ∀ q ∈ lw_privs_3, lw_okq q := List.forall_mem_cons.mpr ⟨lw_p32, List.forall_mem_cons.mpr ⟨lw_p33, List.forall_mem_cons.mpr ⟨lw_p34, List.forall_mem_cons.mpr ⟨lw_p35, fun _ h => absurd h List.not_mem_nil⟩⟩⟩⟩
def lw_privs : List (MethodName × Nat) := lw_privs_1 ++ (lw_privs_2 ++ (lw_privs_3))
def lw_tbl : List Cond := k2_sels lw_privs ++ tables_1
theorem lw_privs_ok : ∀ q ∈ lw_privs, lw_okq q := by
  show ∀ q ∈ lw_privs_1 ++ (lw_privs_2 ++ (lw_privs_3)), lw_okq q
  exact List.forall_mem_append.mpr ⟨lw_r1, List.forall_mem_append.mpr ⟨lw_r2, lw_r3⟩⟩
/-- the streams that the claim lets the run draw from -/
abbrev lw_cs : List Choice := [Jvm.Choice.named "NaN.bits"]
theorem lw_bits : nanBits ∈ lw_cs := by first | decide | exact List.mem_cons_self | simp [lw_cs, nanBits]

/-! ===== BEGIN words of one list among another's, by their places ===== -/
theorem goodIn_r {big : List Cond} (ws : List Cond) (ps : List Nat) (hp : ws = ps.filterMap (fun i => big[i]?)) (h : ws.all goodWord = true) : GoodIn big ws := by
  intro w hw
  have h1 := List.all_eq_true.mp h w hw
  rw [hp] at hw
  obtain ⟨i, -, hi⟩ := List.mem_filterMap.mp hw
  have hm : w ∈ big := by first | exact List.mem_of_getElem? hi | exact List.getElem?_mem hi
  exact ⟨hm, good_of_word h1⟩
theorem goodIn_app {big a b : List Cond} (ha : GoodIn big a) (hb : GoodIn big b) : GoodIn big (a ++ b) := fun w h => (List.mem_append.mp h).elim (ha w) (hb w)
theorem goodIn_ca {big a b : List Cond} {c : Cond} (ha : GoodIn big (c :: a)) (hb : GoodIn big b) : GoodIn big (c :: (a ++ b)) := fun w h => (List.mem_cons.mp h).elim (fun e => ha w (List.mem_cons.mpr (Or.inl e))) (fun h => (List.mem_append.mp h).elim (fun h => ha w (List.mem_cons.mpr (Or.inr h))) (hb w))
theorem goodIn_sub {big ws : List Cond} (hm : ∀ w ∈ ws, w ∈ big) (h : ws.all goodWord = true) : GoodIn big ws := fun w hw => ⟨hm w hw, good_of_word (List.all_eq_true.mp h w hw)⟩
/-! ===== END ===== -/

/-! ===== BEGIN exceptions that leave a method, and their catching by the caller (launches without stack traces) ===== -/
section VXA
/-! The laws vx_back, vx_callV, vx_callS, vx_callSW, vx_throw0, vx_throwS follow proofs of the library, with one case more: JvmDerived/Free/Laws.lean (Back.of_free), Shelf42/LK1.lean (callV, callS), Shelf/KitTraced.lean (throwNew0V, throwNewS). -/
/-- where a method has thrown q: the class by its name, the cell, what was written, the world -/
def vx_T (XC : String → State → State → Prop) (st : State) (q : Addr) (t : State) (mc ms : Nat) (free : Addr → Prop) : Prop :=
  ∃ (E : String) (ce : Cell) (L : List Loc), XC E st t ∧ t.heap[q]? = some ce ∧ ce.vm = .none ∧ st.vm.findClass E = some ce.cls ∧ st.WarmedH t.vm ∧ st.sameButNew ({ t with vm := st.vm } : State) L mc ms ∧ ∀ z ∈ L, free z.base
def vx_Q (Qc : Array Value → State → Outcome → State → Prop) (XC : String → State → State → Prop) (mc ms : Nat) (free : Addr → Prop) : Array Value → State → Outcome → State → Prop := fun a st o t =>
  (Qc a st o t ∧ ∃ L, FrameEnd st o t L mc ms ∧ ∀ q ∈ L, free q.base) ∨ ∃ q, o = .threw q ∧ vx_T XC st q t mc ms free
/-- a callee that returns or throws -/
def vx_Met (l : Launch) (y : MethodName) (ws : List Cond) (rm : Room) (Pc : Array Value → State → Prop) (Qc : Array Value → State → Outcome → State → Prop) (XC : String → State → State → Prop) (mc ms : Nat) (free : Addr → Prop) : Prop :=
  MetFree l y (headSpec ws rm) Pc (fun _ _ _ _ _ => True) (vx_Q Qc XC mc ms free)
def vx_Post (XC : String → State → State → Prop) (mc ms : Nat) (free : Addr → Prop) : Pt → Array Value → Addr → Pt → Prop := fun A a q B =>
  ∃ (g : JFrame) (mk : MethodId) (t : State) (L : List Loc) (E : String) (ce : Cell), B.U.heap = t.heap ∧ B.U.vm = t.vm ∧ XC E (A.U.calling g mk a) t ∧ t.heap[q]? = some ce ∧ ce.vm = .none ∧ A.U.vm.findClass E = some ce.cls ∧ B.locs = A.locs ++ L ∧ (∀ z ∈ L, free z.base) ∧ B.cells = A.cells + mc ∧ B.slots = A.slots + ms
def vx_Back (l : Launch) (R : Room) (p : Program) (e : Env) (below : List Frame) (s : State) (sargs : Array Value) (y : MethodName) (len W9 : Nat)
    (Pre : Pt → Array Value → Prop) (Post : Pt → Array Value → Option Value → Pt → Prop) (PostX : Pt → Array Value → Addr → Pt → Prop) : Prop :=
  ∀ (m : MethodId) (meth : Method) (c : Code) (A : Pt) (g : JFrame) (ig : Instr) (mk : MethodId) (a : Array Value),
    Stand p l e R s m sargs below meth c A.U A.locs A.cells A.slots → g.method = m → g.locals.size = c.maxLocals → decode c.code g.pc = .ok (ig, len) →
    2 * g.monitorRoom + (g.stack.map fun v => v.category).sum ≤ W9 → A.U.methodNamed? y = some mk → Pre A a →
    (∃ (v : Option Value) (B : Pt), Stand p l e R s m sargs below meth c B.U B.locs B.cells B.slots ∧ Post A a v B ∧
      Steps p.tables e below (doInvoke e (A.U.setTop g) [] mk a).1 (B.U.setTop { g with pc := g.pc + len, stack := v.toList ++ g.stack })) ∨
    (∃ (q : Addr) (B : Pt), Stand p l e R s m sargs below meth c B.U B.locs B.cells B.slots ∧ PostX A a q B ∧
      Steps p.tables e below (doInvoke e (A.U.setTop g) [] mk a).1 ((B.U.setTop g).pushFrame (.throwing q)))
section Payer
variable {l : Launch} {R : Room} {p : Program} {e : Env} {below : List Frame} {s : State} {sargs : Array Value} {y : MethodName} {len W9 : Nat}
theorem vx_back {ws : List Cond} {rm : Room} {Pc : Array Value → State → Prop} {Qc : Array Value → State → Outcome → State → Prop} {XC : String → State → State → Prop} {mc ms : Nat} {free : Addr → Prop} {bytes : ByteArray} {maxL : Nat} {ret : Option FieldType}
    (hM : vx_Met l y ws rm Pc Qc XC mc ms free) (hblind : FrameBlind Pc) (hrc : rm.cells = mc) (hrs : rm.slots = ms)
    (hframes : rm.frames + 1 ≤ R.frames) (hlocals : W9 + (maxL + 11) + rm.locals ≤ R.locals)
    (hws : ∀ w ∈ ws, ∀ a' U, s.WarmedH U.vm → w.before a' U = true) (hcode : Cond.code y bytes maxL ret ∈ ws) (hinit : ∀ a' U, s.WarmedH U.vm → (Cond.initialized y.cls).before a' U = true) :
    vx_Back l R p e below s sargs y len W9 (PreOf R mc ms Pc) (PostOf Qc mc ms free) (vx_Post XC mc ms free) := by
  intro m meth c A g ig mk a X hg hsize hdg hW hn hp
  have h1 : (headSpec ws rm).pre.before a A.U = true := atoms_intro fun w hw => hws w hw _ _ X.warmed
  have h2 : (Cond.code y bytes maxL ret).before a A.U = true := hws _ hcode _ _ X.warmed
  have h3 : (Cond.initialized y.cls).before a A.U = true := hinit _ _ X.warmed
  have h4 : A.cells + (headSpec ws rm).room.cells ≤ R.cells := by rw [show (headSpec ws rm).room.cells = mc from hrc]; exact hp.1
  have h5 : A.slots + (headSpec ws rm).room.slots ≤ R.slots := by rw [show (headSpec ws rm).room.slots = ms from hrs]; exact hp.2.1
  have hPc : Pc a (A.U.calling g mk a) := hblind _ _ _ _ hp.2.2
  obtain ⟨U, Ls, c0, s0⟩ := A
  dsimp only [Pt.U, Pt.locs, Pt.cells, Pt.slots] at h1 h2 h3 h4 h5 X hn hPc ⊢
  obtain ⟨methY, cY, hmY, hcY, -, hlY, -, -, -, -⟩ := Cond.code_spec hn h2
  obtain ⟨kY, hkY, -⟩ := className_of_methodNamed hn
  have hinitY : kY.init = .initialized := Cond.initialized_spec (findClass_of_methodNamed hn) hkY h3
  have h : At U g.method c below := by rw [hg]; exact X.here
  have hlocals9 : W9 + (maxL + 11) + (headSpec ws rm).room.locals ≤ R.locals := hlocals
  have happ : (headSpec ws rm).appliesLoose y e.platform (U.calling g mk a) = true :=
    Spec.appliesLoose_calling (g := g) h hdg hn hkY hinitY
      (X.room_calling (g := g) (R' := (headSpec ws rm).room) hsize hmY hcY hframes (by rw [hlY]; omega) h4 h5) h1
  obtain ⟨mid, hmid⟩ := h.above
  have hfr : (U.setTop g).frames = (.java g :: mid) ++ below := by rw [State.frames_setTop' g h.top, hmid]; rfl
  obtain ⟨o, s₂, hsteps, -, hend, hq⟩ := Steps.callFree hM p X.admits X.cas X.clock (acts := []) hfr happ hPc trivial
  have hq' : vx_Q Qc XC mc ms free a (U.calling g mk a) o s₂ := hq
  rw [State.frames_setTop' g h.top] at hend
  obtain ⟨g₀, hg0⟩ := Option.isSome_iff_exists.mp h.top
  obtain ⟨r, hr⟩ := State.topJava?_eq_some.mp hg0
  have hr' : (({ U with heap := s₂.heap, slotsUsed := s₂.slotsUsed } : State).setVm s₂.vm).frames = .java g₀ :: r := hr
  rcases hq' with ⟨hqc, L, hfe, hL⟩ | ⟨q, rfl, E, ce, L, hx, hce, hcv, hcl, hW₂, hsm, hL⟩
  · obtain ⟨⟨v, rfl⟩, hW₂, e2, q2, q3, q4, q5, q6⟩ := id hfe
    have e3 : s₂ = ({ (U.calling g mk a).setFrames s₂.frames with heap := s₂.heap, slotsUsed := s₂.slotsUsed } : State).setVm s₂.vm := by
      have : s₂ = ({ s₂ with vm := (U.calling g mk a).vm } : State).setVm s₂.vm := rfl
      rw [e2] at this
      exact this
    obtain ⟨c₂, i₂, len₂, hc₂, hd₂, hf₂⟩ := hend
    have hW' : U.WarmedH s₂.vm := hW₂
    have hcc : c₂ = c := by
      have h1 : s₂.code? g.method = U.code? g.method := by
        rw [State.code?_eq, State.code?_eq, hW'.alike.method?]
      exact Option.some.inj (hc₂.symm.trans (h1.trans h.code))
    subst hcc
    have hlen : len₂ = len := by rw [hdg] at hd₂; cases hd₂; rfl
    subst hlen
    have hs₂ : s₂ = (({ U with heap := s₂.heap, slotsUsed := s₂.slotsUsed } : State).setVm s₂.vm).setTop { g with pc := g.pc + len₂, stack := v.toList ++ g.stack } := by
      refine e3.trans ?_
      rw [hf₂, State.calling_eq h.top, State.setFrames_setFrames, State.setTop_of_frames _ hr', hr]
      rfl
    have hsame : U.sameButNew ({ U with heap := s₂.heap, slotsUsed := s₂.slotsUsed } : State) L mc ms := by
      refine ⟨?_, q2, q3, q4, q5, q6⟩
      obtain ⟨t, ht, -⟩ := State.frames_cons hr
      show ({ U with heap := s₂.heap, slotsUsed := s₂.slotsUsed } : State) = { U.setFrames U.frames with heap := s₂.heap, slotsUsed := s₂.slotsUsed }
      rw [State.setFrames_self ht]
    subst hg
    refine Or.inl ⟨v, ⟨(({ U with heap := s₂.heap, slotsUsed := s₂.slotsUsed } : State).setVm s₂.vm), Ls ++ L, c0 + mc, s0 + ms⟩,
      ⟨X.admits, X.cas, X.clock, X.frames, X.room, X.hears, X.method, X.code, (X.here.setHeapUsed s₂.heap s₂.slotsUsed).setVm hW'.alike, X.tail, State.WarmedH.trans X.warmed hW', X.limits, X.bytes, X.same.trans (hsame.setVm s.vm)⟩,
      ⟨g, mk, s₂, L, rfl, rfl, hqc, rfl, hL, rfl, rfl⟩, ?_⟩
    show Steps p.tables e below _ ((({ U with heap := s₂.heap, slotsUsed := s₂.slotsUsed } : State).setVm s₂.vm).setTop { g with pc := g.pc + len₂, stack := v.toList ++ g.stack })
    rw [← hs₂]
    exact hsteps
  · obtain ⟨e2, q2, q3, q4, q5, q6⟩ := id hsm
    have e3 : s₂ = ({ (U.calling g mk a).setFrames s₂.frames with heap := s₂.heap, slotsUsed := s₂.slotsUsed } : State).setVm s₂.vm := by
      have : s₂ = ({ s₂ with vm := (U.calling g mk a).vm } : State).setVm s₂.vm := rfl
      rw [e2] at this
      exact this
    have hf₂ : s₂.frames = .throwing q :: .java g :: U.frames.tail := hend
    have hW' : U.WarmedH s₂.vm := hW₂
    have hs₂ : s₂ = ((({ U with heap := s₂.heap, slotsUsed := s₂.slotsUsed } : State).setVm s₂.vm).setTop g).pushFrame (.throwing q) := by
      refine e3.trans ?_
      rw [hf₂, State.calling_eq h.top, State.setFrames_setFrames, State.pushFrame, State.frames_setTop _ hr', State.setTop_of_frames _ hr', State.setFrames_setFrames, hr]
      rfl
    have hsame : U.sameButNew ({ U with heap := s₂.heap, slotsUsed := s₂.slotsUsed } : State) L mc ms := by
      refine ⟨?_, q2, q3, q4, q5, q6⟩
      obtain ⟨t, ht, -⟩ := State.frames_cons hr
      show ({ U with heap := s₂.heap, slotsUsed := s₂.slotsUsed } : State) = { U.setFrames U.frames with heap := s₂.heap, slotsUsed := s₂.slotsUsed }
      rw [State.setFrames_self ht]
    subst hg
    refine Or.inr ⟨q, ⟨(({ U with heap := s₂.heap, slotsUsed := s₂.slotsUsed } : State).setVm s₂.vm), Ls ++ L, c0 + mc, s0 + ms⟩,
      ⟨X.admits, X.cas, X.clock, X.frames, X.room, X.hears, X.method, X.code, (X.here.setHeapUsed s₂.heap s₂.slotsUsed).setVm hW'.alike, X.tail, State.WarmedH.trans X.warmed hW', X.limits, X.bytes, X.same.trans (hsame.setVm s.vm)⟩,
      ⟨g, mk, s₂, L, E, ce, rfl, rfl, hx, hce, hcv, hcl, rfl, hL, rfl, rfl⟩, ?_⟩
    show Steps p.tables e below _ (((({ U with heap := s₂.heap, slotsUsed := s₂.slotsUsed } : State).setVm s₂.vm).setTop g).pushFrame (.throwing q))
    rw [← hs₂]
    exact hsteps
end Payer
section Calls
variable {p : Program} {l : Launch} {e : Env} {R : Room} {s : State} {m : MethodId} {args : Array Value} {below : List Frame} {meth : Method} {c : Code} {T : State} {locs : List Loc} {cells slots : Nat}
theorem vx_callV (X : Stand p l e R s m args below meth c T locs cells slots) (hexec : p.tables.exec = Jvm.exec) {own C : String} {index : Nat} {y : MethodName} {bytes : ByteArray} {maxL : Nat} {ret : Option FieldType}
    (hown : s.vm.findClass own = some m.cls) (hlink : (Cond.methodLink own index y).before args s = true) (hinst : (Cond.instanceMethod y).before args s = true) (hsel : (Cond.selects C y y).before args s = true)
    (hcode : (Cond.code y bytes maxL ret).before args s = true) (hy : y.cls ≠ "java/lang/invoke/MethodHandle" ∧ y.cls ≠ "java/lang/invoke/VarHandle")
    {W9 : Nat} {Pre : Pt → Array Value → Prop} {Post : Pt → Array Value → Option Value → Pt → Prop} {PostX : Pt → Array Value → Addr → Pt → Prop} (hK : vx_Back l R p e below s args y 3 W9 Pre Post PostX)
    {b : Addr} {cellB : Cell} (hcell : T.heap[b]? = some cellB) (hobj : cellB.vm.isStatics = false) (hcls : s.vm.findClass C = some cellB.cls)
    {g : JFrame} (hg : g.method = m) (hsize : g.locals.size = c.maxLocals) {argsL rest : List Value} (hlen : ∀ sig, parseMethodDescriptor y.desc = some sig → argsL.length = sig.parameters.length)
    (hstack : g.stack = argsL.reverse ++ .ref b :: rest) (hW : 2 * g.monitorRoom + (rest.map fun v => v.category).sum ≤ W9) (hdg : decode c.code g.pc = .ok (.invokevirtual index, 3))
    (hpre : ∀ vm₁, s.WarmedH vm₁ → Pre ⟨T.setVm vm₁, locs, cells, slots⟩ (Value.ref b :: argsL).toArray) :
    (∃ (v : Option Value) (vm₁ : Vm) (B : Pt), s.WarmedH vm₁ ∧ Stand p l e R s m args below meth c B.U B.locs B.cells B.slots ∧ Post ⟨T.setVm vm₁, locs, cells, slots⟩ (Value.ref b :: argsL).toArray v B ∧
      ∀ target, Steps p.tables e below (B.U.setTop { g with pc := g.pc + 3, stack := v.toList ++ rest }) target → Steps p.tables e below (T.setTop g) target) ∨
    (∃ (q : Addr) (vm₁ : Vm) (B : Pt), s.WarmedH vm₁ ∧ Stand p l e R s m args below meth c B.U B.locs B.cells B.slots ∧ PostX ⟨T.setVm vm₁, locs, cells, slots⟩ (Value.ref b :: argsL).toArray q B ∧
      Steps p.tables e below (T.setTop g) ((B.U.setTop { g with stack := rest }).pushFrame (.throwing q))) := by
  obtain ⟨mk, methM, hnamed, hmethM, hstM, habM⟩ := Cond.instanceMethod_spec hinst
  obtain ⟨methM', cM, hmethM', -, -, -, -, -, -, hsigM⟩ := Cond.code_spec hnamed hcode
  cases hmethM.symm.trans hmethM'
  obtain ⟨c2, r2, m2, q1, q2, q3, q4, kP, hkP, hkPi⟩ := Cond.selects_spec hsel
  cases hcls.symm.trans q1
  cases (State.methodFound?_of_named hnamed hy).symm.trans q2
  cases hnamed.symm.trans q3
  have hselP : selectMethod e.platform s.vm cellB.cls mk = .method mk := by rw [Launch.admits_selectMethod X.admits]; exact q4
  obtain ⟨vm₁, X₁, hstep₁⟩ := X.invokevirtual hexec hown hlink hnamed hmethM hstM hkP hkPi hy (a := b) (cell := cellB) hcell
    (fun z h => by rw [h] at hobj; cases hobj) hselP hmethM habM hkP hkPi (g := g) hg (argsL := argsL) (rest := rest) (hlen _ hsigM) hstack hdg
  rcases hK m meth c ⟨T.setVm vm₁, locs, cells, slots⟩ { g with stack := rest } (.invokevirtual index) mk (Value.ref b :: argsL).toArray X₁ hg hsize hdg hW (X₁.named hnamed) (hpre vm₁ X₁.warmed) with ⟨v, B, X', hpost, hsteps⟩ | ⟨q, B, X', hpost, hsteps⟩
  · exact Or.inl ⟨v, vm₁, B, X₁.warmed, X', hpost, fun target h => hstep₁ _ fun acts => by rw [doInvoke_state]; exact hsteps.trans h⟩
  · exact Or.inr ⟨q, vm₁, B, X₁.warmed, X', hpost, hstep₁ _ fun acts => by rw [doInvoke_state]; exact hsteps⟩
theorem vx_callS (X : Stand p l e R s m args below meth c T locs cells slots) (hexec : p.tables.exec = Jvm.exec) {own : String} {index : Nat} {y : MethodName} {bytes : ByteArray} {maxL : Nat} {ret : Option FieldType}
    (hown : s.vm.findClass own = some m.cls) (hlink : (Cond.methodLink own index y).before args s = true) (hstat : (Cond.static y).before args s = true) (hinit : (Cond.initialized y.cls).before args s = true)
    (hcode : (Cond.code y bytes maxL ret).before args s = true) (hy : y.cls ≠ "java/lang/invoke/MethodHandle" ∧ y.cls ≠ "java/lang/invoke/VarHandle")
    {W9 : Nat} {Pre : Pt → Array Value → Prop} {Post : Pt → Array Value → Option Value → Pt → Prop} {PostX : Pt → Array Value → Addr → Pt → Prop} (hK : vx_Back l R p e below s args y 3 W9 Pre Post PostX)
    {g : JFrame} (hg : g.method = m) (hsize : g.locals.size = c.maxLocals) {argsL rest : List Value} (hlen : ∀ sig, parseMethodDescriptor y.desc = some sig → argsL.length = sig.parameters.length)
    (hstack : g.stack = argsL.reverse ++ rest) (hW : 2 * g.monitorRoom + (rest.map fun v => v.category).sum ≤ W9) (hdg : decode c.code g.pc = .ok (.invokestatic index, 3))
    (hpre : ∀ vm₁, s.WarmedH vm₁ → Pre ⟨T.setVm vm₁, locs, cells, slots⟩ argsL.toArray) :
    (∃ (v : Option Value) (vm₁ : Vm) (B : Pt), s.WarmedH vm₁ ∧ Stand p l e R s m args below meth c B.U B.locs B.cells B.slots ∧ Post ⟨T.setVm vm₁, locs, cells, slots⟩ argsL.toArray v B ∧
      ∀ target, Steps p.tables e below (B.U.setTop { g with pc := g.pc + 3, stack := v.toList ++ rest }) target → Steps p.tables e below (T.setTop g) target) ∨
    (∃ (q : Addr) (vm₁ : Vm) (B : Pt), s.WarmedH vm₁ ∧ Stand p l e R s m args below meth c B.U B.locs B.cells B.slots ∧ PostX ⟨T.setVm vm₁, locs, cells, slots⟩ argsL.toArray q B ∧
      Steps p.tables e below (T.setTop g) ((B.U.setTop { g with stack := rest }).pushFrame (.throwing q))) := by
  obtain ⟨mk, hnamed⟩ := Cond.code_named hcode
  obtain ⟨methM, cM, hmethM, -, -, -, -, -, -, hsigM⟩ := Cond.code_spec hnamed hcode
  have hstatic : methM.isStatic = true := Cond.static_spec hnamed hmethM hstat
  obtain ⟨kP, hkP, -⟩ := className_of_methodNamed hnamed
  have hinitP : kP.init = .initialized := Cond.initialized_spec (findClass_of_methodNamed hnamed) hkP hinit
  obtain ⟨vm₁, X₁, hstep₁⟩ := X.invokestatic hexec hown hlink hnamed hmethM hstatic hkP hinitP hy (g := g) hg (argsL := argsL) (rest := rest) (hlen _ hsigM) hstack hdg
  rcases hK m meth c ⟨T.setVm vm₁, locs, cells, slots⟩ { g with stack := rest } (.invokestatic index) mk argsL.toArray X₁ hg hsize hdg hW (X₁.named hnamed) (hpre vm₁ X₁.warmed) with ⟨v, B, X', hpost, hsteps⟩ | ⟨q, B, X', hpost, hsteps⟩
  · exact Or.inl ⟨v, vm₁, B, X₁.warmed, X', hpost, fun target h => hstep₁ _ fun acts => by rw [doInvoke_state]; exact hsteps.trans h⟩
  · exact Or.inr ⟨q, vm₁, B, X₁.warmed, X', hpost, hstep₁ _ fun acts => by rw [doInvoke_state]; exact hsteps⟩
end Calls
theorem vx_cls {s : State} {T : State} {vm₁ : Vm} {E : String} {k : ClassId} (hW : s.WarmedH vm₁) (h : (T.setVm vm₁).vm.findClass E = some k) : s.vm.findClass E = some k := by
  have h1 : vm₁.findClass E = some k := h
  rw [hW.alike.findClass] at h1
  exact h1
/-- the method's frame g, with q thrown over it -/
def vx_W (p : Program) (l : Launch) (e : Env) (R : Room) (s : State) (m : MethodId) (args : Array Value) (below : List Frame) (meth : Method) (c : Code) (H : Heap) (locs : List Loc) (cells slots : Nat) (Q : State → Prop) (g : JFrame) (q : Addr) : Prop :=
  ∀ T : State, T.heap = H → Stand p l e R s m args below meth c T locs cells slots → ∃ t, Steps p.tables e below ((T.setTop g).pushFrame (.throwing q)) t ∧ Q t
def vx_Run (p : Program) (l : Launch) (e : Env) (R : Room) (s : State) (m : MethodId) (args : Array Value) (below : List Frame) (meth : Method) (c : Code) (H : Heap) (locs : List Loc) (cells slots mc ms : Nat) (g : JFrame) (rest : List Value) (Qa : State → Outcome → State → Prop) (XC : String → State → State → Prop) (free : Addr → Prop) : Prop :=
  ∀ T : State, T.heap = H → Stand p l e R s m args below meth c T locs cells slots →
    (∃ (v : Option Value) (st₀ t T' : State) (L : List Loc), st₀.heap = H ∧ Stand p l e R s m args below meth c T' (locs ++ L) (cells + mc) (slots + ms) ∧ (∀ q ∈ L, free q.base) ∧ T'.heap = t.heap ∧ T'.vm = t.vm ∧ Qa st₀ (.returned v) t ∧
      Goes p e below T g T' { g with pc := g.pc + 3, stack := v.toList ++ rest }) ∨
    (∃ (q : Addr) (st₀ t T' : State) (L : List Loc) (E : String) (ce : Cell), st₀.heap = H ∧ Stand p l e R s m args below meth c T' (locs ++ L) (cells + mc) (slots + ms) ∧ (∀ z ∈ L, free z.base) ∧ T'.heap = t.heap ∧ T'.vm = t.vm ∧ XC E st₀ t ∧ t.heap[q]? = some ce ∧ ce.vm = .none ∧ s.vm.findClass E = some ce.cls ∧
      Steps p.tables e below (T.setTop g) ((T'.setTop { g with stack := rest }).pushFrame (.throwing q)))
def vx_X {S : Type} (px : S → Prop) (B : String → S → State → Prop) (A : Nat → Prop) : String → State → State → Prop := fun E st t => ∃ u : S, px u ∧ B E u t ∧ va_F A st t
section Runs
variable {p : Program} {l : Launch} {e : Env} {R : Room} {s : State} {m : MethodId} {args : Array Value} {below : List Frame} {meth : Method} {c : Code} {H : Heap} {locs : List Loc} {cells slots : Nat}
variable {y : MethodName} {bytes cc : ByteArray} {maxL nL mc ms n index : Nat} {ret : Option FieldType} {ws : List Cond} {rm : Room} {Pc : Array Value → State → Prop} {Qc : Array Value → State → Outcome → State → Prop} {XC : String → State → State → Prop} {free : Addr → Prop} {Ts : List Cond} {own C : String} {b : Addr} {As rest : List Value} {g : JFrame}
theorem vx_callBack (cb : CallB R s args own index y bytes maxL ret ws rm mc ms n) (hM : vx_Met l y ws rm Pc Qc XC mc ms free) (hbl : FrameBlind Pc) : vx_Back l R p e below s args y 3 8 (PreOf R mc ms Pc) (PostOf Qc mc ms free) (vx_Post XC mc ms free) := by
  obtain ⟨hrc, hrs, hfr, hlo, hws, hcw, -, hini, -⟩ := cb
  exact vx_back (bytes := bytes) (maxL := maxL) (ret := ret) hM hbl hrc hrs hfr hlo hws hcw (fun a' U hW => word_at hW (Or.inl (by first | rfl | simp [Cond.onTables, Cond.keeps, Cond.steady])) hini)
theorem vx_runV (S : CallFix p m c cc nL s args Ts own) (hM : vx_Met l y ws rm Pc Qc XC mc ms free) (cw : CallW R s args own C index y bytes maxL ret ws rm mc ms n) (hp : PreV s H C b Pc As)
    (hg : g.method = m) (hn : As.length = n) (hsize : g.locals.size = nL) (hstack : g.stack = As.reverse ++ .ref b :: rest) (hW : 2 * g.monitorRoom + (rest.map fun v => v.category).sum ≤ 8) (hdg : decode cc g.pc = .ok (.invokevirtual index, 3)) (hf : cells + mc ≤ R.cells ∧ slots + ms ≤ R.slots) :
    vx_Run p l e R s m args below meth c H locs cells slots mc ms g rest (Qc (Value.ref b :: As).toArray) XC free := by
  have hK : vx_Back l R p e below s args y 3 8 (PreOf R mc ms Pc) (PostOf Qc mc ms free) (vx_Post XC mc ms free) := vx_callBack cw.1 hM hp.1
  obtain ⟨⟨-, -, -, -, -, -, hcode, -, hy, hlen, hl⟩, hin, hse⟩ := cw
  obtain ⟨hx, hb, hml, ho, -⟩ := S
  obtain ⟨-, ⟨cellB, hcB, hoB, hclB⟩, hPc⟩ := hp
  intro T hT X
  rcases vx_callV X hx (C := C) (bytes := bytes) (maxL := maxL) (ret := ret) ho hl hin hse hcode hy hK (by rw [hT]; exact hcB) hoB hclB hg (hsize.trans hml.symm) (argsL := As) (rest := rest) (fun sig h => hn.trans (hlen sig h)) hstack hW (by rw [hb]; exact hdg)
    (fun vm₁ hW₁ => ⟨hf.1, hf.2, hPc (T.setVm vm₁) hT hW₁⟩) with ⟨v, vm₁, ⟨U', l2, c2, s2⟩, hW₁, X', ⟨g', mk, t, L, e1, e2, hq, h1, hL, h2, h3⟩, st⟩ | ⟨q, vm₁, ⟨U', l2, c2, s2⟩, hW₁, X', ⟨g', mk, t, L, E, ce, e1, e2, hq, hce, hcv, hcl, h1, hL, h2, h3⟩, st⟩
  · dsimp only [Pt.U, Pt.locs, Pt.cells, Pt.slots] at X' e1 e2 h1 h2 h3 st
    subst h1; subst h2; subst h3
    exact Or.inl ⟨v, (T.setVm vm₁).calling g' mk (Value.ref b :: As).toArray, t, U', L, hT, X', hL, e1, e2, hq, st⟩
  · dsimp only [Pt.U, Pt.locs, Pt.cells, Pt.slots] at X' e1 e2 h1 h2 h3 st hcl
    subst h1; subst h2; subst h3
    exact Or.inr ⟨q, (T.setVm vm₁).calling g' mk (Value.ref b :: As).toArray, t, U', L, E, ce, hT, X', hL, e1, e2, hq, hce, hcv, vx_cls hW₁ hcl, st⟩
theorem vx_runS (S : CallFix p m c cc nL s args Ts own) (hM : vx_Met l y ws rm Pc Qc XC mc ms free) (cw : CallB R s args own index y bytes maxL ret ws rm mc ms n ∧ (Cond.static y).before args s = true) (hp : PreS s H Pc As)
    (hg : g.method = m) (hn : As.length = n) (hsize : g.locals.size = nL) (hstack : g.stack = As.reverse ++ rest) (hW : 2 * g.monitorRoom + (rest.map fun v => v.category).sum ≤ 8) (hdg : decode cc g.pc = .ok (.invokestatic index, 3)) (hf : cells + mc ≤ R.cells ∧ slots + ms ≤ R.slots) :
    vx_Run p l e R s m args below meth c H locs cells slots mc ms g rest (Qc As.toArray) XC free := by
  have hK : vx_Back l R p e below s args y 3 8 (PreOf R mc ms Pc) (PostOf Qc mc ms free) (vx_Post XC mc ms free) := vx_callBack cw.1 hM hp.1
  obtain ⟨⟨-, -, -, -, -, -, hcode, hini, hy, hlen, hl⟩, hstt⟩ := cw
  obtain ⟨hx, hb, hml, ho, -⟩ := S
  intro T hT X
  rcases vx_callS X hx (bytes := bytes) (maxL := maxL) (ret := ret) ho hl hstt hini hcode hy hK hg (hsize.trans hml.symm) (argsL := As) (rest := rest) (fun sig h => hn.trans (hlen sig h)) hstack hW (by rw [hb]; exact hdg)
    (fun vm₁ hW₁ => ⟨hf.1, hf.2, hp.2 (T.setVm vm₁) hT hW₁⟩) with ⟨v, vm₁, ⟨U', l2, c2, s2⟩, hW₁, X', ⟨g', mk, t, L, e1, e2, hq, h1, hL, h2, h3⟩, st⟩ | ⟨q, vm₁, ⟨U', l2, c2, s2⟩, hW₁, X', ⟨g', mk, t, L, E, ce, e1, e2, hq, hce, hcv, hcl, h1, hL, h2, h3⟩, st⟩
  · dsimp only [Pt.U, Pt.locs, Pt.cells, Pt.slots] at X' e1 e2 h1 h2 h3 st
    subst h1; subst h2; subst h3
    exact Or.inl ⟨v, (T.setVm vm₁).calling g' mk As.toArray, t, U', L, hT, X', hL, e1, e2, hq, st⟩
  · dsimp only [Pt.U, Pt.locs, Pt.cells, Pt.slots] at X' e1 e2 h1 h2 h3 st hcl
    subst h1; subst h2; subst h3
    exact Or.inr ⟨q, (T.setVm vm₁).calling g' mk As.toArray, t, U', L, E, ce, hT, X', hL, e1, e2, hq, hce, hcv, vx_cls hW₁ hcl, st⟩
end Runs
section Rows
variable {p : Program} {l : Launch} {e : Env} {R : Room} {s : State} {m : MethodId} {args : Array Value} {below : List Frame} {meth : Method} {c : Code} {H : Heap} {locs : List Loc} {cells slots : Nat} {Q : State → Prop}
variable {mc ms : Nat} {free : Addr → Prop} {A0 A1 : Nat → Prop} {H0 : Heap} {a : Array Value} {pc : Nat} {ls : Array Slot} {st0 rest : List Value}
theorem vx_keep {st₀ t T' : State} {L : List Loc} (h0 : st₀.heap = H) (e1 : T'.heap = t.heap) (hS : va_S A0 H0 H locs) (hA : ∀ q, q < H.size → A1 q → A0 q) (hf : ∀ q, free q → A0 q) (hL : ∀ q ∈ L, free q.base) (hF : va_F A1 st₀ t) :
    H.size ≤ T'.heap.size ∧ (∀ q : Nat, q < H.size → ¬ A1 q → T'.heap[q]? = H[q]?) ∧ va_S A0 H0 T'.heap (locs ++ L) := by
  obtain ⟨hz, hk⟩ := hF
  rw [h0] at hz hk
  exact ⟨by rw [e1]; exact hz, fun q h1 h2 => by rw [e1]; exact hk q h1 h2,
    ⟨Nat.le_trans hS.1 (by rw [e1]; exact hz), fun q h1 h2 => by rw [e1, hk q (Nat.lt_of_lt_of_le h1 hS.1) (fun z => h2 (hA q (Nat.lt_of_lt_of_le h1 hS.1) z))]; exact hS.2.1 q h1 h2, fun q hq => by
      rcases List.mem_append.mp hq with h | h
      · exact hS.2.2 q h
      · exact hf _ (hL q h)⟩⟩
theorem vx_calli {S SX : Type} {post : Int32 → S → Prop} {px : SX → Prop} {B : S → State → Prop} {BX : String → SX → State → Prop} {AX : Nat → Prop} (hr : vx_Run p l e R s m args below meth c H locs cells slots mc ms (F0 m pc ls st0) rest (va_Qi post B A1 a) (vx_X px BX AX) free) (hS : va_S A0 H0 H locs) (hA : ∀ q, q < H.size → A1 q → A0 q) (hf : ∀ q, free q → A0 q) (hAX : ∀ q, q < H.size → AX q → A0 q)
    (kx : ∀ (E : String) (ce : Cell) (q9 : Addr) (u : SX) (t : State) (H1 : Heap) (locs1 : List Loc), t.heap = H1 → s.vm.Alike t.vm → px u → BX E u t → H.size ≤ H1.size → (∀ q : Nat, q < H.size → ¬ AX q → H1[q]? = H[q]?) → va_S A0 H0 H1 locs1 → H1[q9]? = some ce → ce.vm = .none → s.vm.findClass E = some ce.cls → vx_W p l e R s m args below meth c H1 locs1 (cells + mc) (slots + ms) Q (F0 m pc ls rest) q9)
    (kk : ∀ (r : Int32) (u : S) (t : State) (H1 : Heap) (locs1 : List Loc), t.heap = H1 → s.vm.Alike t.vm → post r u → B u t → H.size ≤ H1.size → (∀ q : Nat, q < H.size → ¬ A1 q → H1[q]? = H[q]?) → va_S A0 H0 H1 locs1 → W p l e R s m args below meth c H1 locs1 (cells + mc) (slots + ms) Q (F0 m (pc + 3) ls (.int r :: rest))) : W p l e R s m args below meth c H locs cells slots Q (F0 m pc ls st0) := by
  intro T hT X
  rcases hr T hT X with ⟨v, st₀, t, T', L, h0, X', hL, e1, e2, ⟨⟨r, u, hv, hp, hb⟩, hF⟩, st⟩ | ⟨q, st₀, t, T', L, E, ce, h0, X', hL, e1, e2, ⟨u, hp, hb, hF⟩, hce, hcv, hcl, st⟩
  · cases hv
    obtain ⟨k1, k2, k3⟩ := vx_keep h0 e1 hS hA hf hL hF
    obtain ⟨t2, a1, b1⟩ := kk r u t T'.heap (locs ++ L) e1.symm (by rw [← e2]; exact X'.warmed.alike) hp hb k1 k2 k3 T' rfl X'
    exact ⟨t2, st t2 a1, b1⟩
  · obtain ⟨k1, k2, k3⟩ := vx_keep h0 e1 hS hAX hf hL hF
    obtain ⟨t2, a1, b1⟩ := kx E ce q u t T'.heap (locs ++ L) e1.symm (by rw [← e2]; exact X'.warmed.alike) hp hb k1 k2 k3 (by rw [e1]; exact hce) hcv hcl T' rfl X'
    exact ⟨t2, st.trans a1, b1⟩
theorem vx_calll {S SX : Type} {post : Int64 → S → Prop} {px : SX → Prop} {B : S → State → Prop} {BX : String → SX → State → Prop} {AX : Nat → Prop} (hr : vx_Run p l e R s m args below meth c H locs cells slots mc ms (F0 m pc ls st0) rest (va_Ql post B A1 a) (vx_X px BX AX) free) (hS : va_S A0 H0 H locs) (hA : ∀ q, q < H.size → A1 q → A0 q) (hf : ∀ q, free q → A0 q) (hAX : ∀ q, q < H.size → AX q → A0 q)
    (kx : ∀ (E : String) (ce : Cell) (q9 : Addr) (u : SX) (t : State) (H1 : Heap) (locs1 : List Loc), t.heap = H1 → s.vm.Alike t.vm → px u → BX E u t → H.size ≤ H1.size → (∀ q : Nat, q < H.size → ¬ AX q → H1[q]? = H[q]?) → va_S A0 H0 H1 locs1 → H1[q9]? = some ce → ce.vm = .none → s.vm.findClass E = some ce.cls → vx_W p l e R s m args below meth c H1 locs1 (cells + mc) (slots + ms) Q (F0 m pc ls rest) q9)
    (kk : ∀ (r : Int64) (u : S) (t : State) (H1 : Heap) (locs1 : List Loc), t.heap = H1 → s.vm.Alike t.vm → post r u → B u t → H.size ≤ H1.size → (∀ q : Nat, q < H.size → ¬ A1 q → H1[q]? = H[q]?) → va_S A0 H0 H1 locs1 → W p l e R s m args below meth c H1 locs1 (cells + mc) (slots + ms) Q (F0 m (pc + 3) ls (.long r :: rest))) : W p l e R s m args below meth c H locs cells slots Q (F0 m pc ls st0) := by
  intro T hT X
  rcases hr T hT X with ⟨v, st₀, t, T', L, h0, X', hL, e1, e2, ⟨⟨r, u, hv, hp, hb⟩, hF⟩, st⟩ | ⟨q, st₀, t, T', L, E, ce, h0, X', hL, e1, e2, ⟨u, hp, hb, hF⟩, hce, hcv, hcl, st⟩
  · cases hv
    obtain ⟨k1, k2, k3⟩ := vx_keep h0 e1 hS hA hf hL hF
    obtain ⟨t2, a1, b1⟩ := kk r u t T'.heap (locs ++ L) e1.symm (by rw [← e2]; exact X'.warmed.alike) hp hb k1 k2 k3 T' rfl X'
    exact ⟨t2, st t2 a1, b1⟩
  · obtain ⟨k1, k2, k3⟩ := vx_keep h0 e1 hS hAX hf hL hF
    obtain ⟨t2, a1, b1⟩ := kx E ce q u t T'.heap (locs ++ L) e1.symm (by rw [← e2]; exact X'.warmed.alike) hp hb k1 k2 k3 (by rw [e1]; exact hce) hcv hcl T' rfl X'
    exact ⟨t2, st.trans a1, b1⟩
theorem vx_callf {S SX : Type} {post : UInt32 → S → Prop} {px : SX → Prop} {B : S → State → Prop} {BX : String → SX → State → Prop} {AX : Nat → Prop} (hr : vx_Run p l e R s m args below meth c H locs cells slots mc ms (F0 m pc ls st0) rest (va_Qf post B A1 a) (vx_X px BX AX) free) (hS : va_S A0 H0 H locs) (hA : ∀ q, q < H.size → A1 q → A0 q) (hf : ∀ q, free q → A0 q) (hAX : ∀ q, q < H.size → AX q → A0 q)
    (kx : ∀ (E : String) (ce : Cell) (q9 : Addr) (u : SX) (t : State) (H1 : Heap) (locs1 : List Loc), t.heap = H1 → s.vm.Alike t.vm → px u → BX E u t → H.size ≤ H1.size → (∀ q : Nat, q < H.size → ¬ AX q → H1[q]? = H[q]?) → va_S A0 H0 H1 locs1 → H1[q9]? = some ce → ce.vm = .none → s.vm.findClass E = some ce.cls → vx_W p l e R s m args below meth c H1 locs1 (cells + mc) (slots + ms) Q (F0 m pc ls rest) q9)
    (kk : ∀ (r : UInt32) (u : S) (t : State) (H1 : Heap) (locs1 : List Loc), t.heap = H1 → s.vm.Alike t.vm → post r u → B u t → H.size ≤ H1.size → (∀ q : Nat, q < H.size → ¬ A1 q → H1[q]? = H[q]?) → va_S A0 H0 H1 locs1 → W p l e R s m args below meth c H1 locs1 (cells + mc) (slots + ms) Q (F0 m (pc + 3) ls (.float r :: rest))) : W p l e R s m args below meth c H locs cells slots Q (F0 m pc ls st0) := by
  intro T hT X
  rcases hr T hT X with ⟨v, st₀, t, T', L, h0, X', hL, e1, e2, ⟨⟨r, u, hv, hp, hb⟩, hF⟩, st⟩ | ⟨q, st₀, t, T', L, E, ce, h0, X', hL, e1, e2, ⟨u, hp, hb, hF⟩, hce, hcv, hcl, st⟩
  · cases hv
    obtain ⟨k1, k2, k3⟩ := vx_keep h0 e1 hS hA hf hL hF
    obtain ⟨t2, a1, b1⟩ := kk r u t T'.heap (locs ++ L) e1.symm (by rw [← e2]; exact X'.warmed.alike) hp hb k1 k2 k3 T' rfl X'
    exact ⟨t2, st t2 a1, b1⟩
  · obtain ⟨k1, k2, k3⟩ := vx_keep h0 e1 hS hAX hf hL hF
    obtain ⟨t2, a1, b1⟩ := kx E ce q u t T'.heap (locs ++ L) e1.symm (by rw [← e2]; exact X'.warmed.alike) hp hb k1 k2 k3 (by rw [e1]; exact hce) hcv hcl T' rfl X'
    exact ⟨t2, st.trans a1, b1⟩
theorem vx_calld {S SX : Type} {post : UInt64 → S → Prop} {px : SX → Prop} {B : S → State → Prop} {BX : String → SX → State → Prop} {AX : Nat → Prop} (hr : vx_Run p l e R s m args below meth c H locs cells slots mc ms (F0 m pc ls st0) rest (va_Qd post B A1 a) (vx_X px BX AX) free) (hS : va_S A0 H0 H locs) (hA : ∀ q, q < H.size → A1 q → A0 q) (hf : ∀ q, free q → A0 q) (hAX : ∀ q, q < H.size → AX q → A0 q)
    (kx : ∀ (E : String) (ce : Cell) (q9 : Addr) (u : SX) (t : State) (H1 : Heap) (locs1 : List Loc), t.heap = H1 → s.vm.Alike t.vm → px u → BX E u t → H.size ≤ H1.size → (∀ q : Nat, q < H.size → ¬ AX q → H1[q]? = H[q]?) → va_S A0 H0 H1 locs1 → H1[q9]? = some ce → ce.vm = .none → s.vm.findClass E = some ce.cls → vx_W p l e R s m args below meth c H1 locs1 (cells + mc) (slots + ms) Q (F0 m pc ls rest) q9)
    (kk : ∀ (r : UInt64) (u : S) (t : State) (H1 : Heap) (locs1 : List Loc), t.heap = H1 → s.vm.Alike t.vm → post r u → B u t → H.size ≤ H1.size → (∀ q : Nat, q < H.size → ¬ A1 q → H1[q]? = H[q]?) → va_S A0 H0 H1 locs1 → W p l e R s m args below meth c H1 locs1 (cells + mc) (slots + ms) Q (F0 m (pc + 3) ls (.double r :: rest))) : W p l e R s m args below meth c H locs cells slots Q (F0 m pc ls st0) := by
  intro T hT X
  rcases hr T hT X with ⟨v, st₀, t, T', L, h0, X', hL, e1, e2, ⟨⟨r, u, hv, hp, hb⟩, hF⟩, st⟩ | ⟨q, st₀, t, T', L, E, ce, h0, X', hL, e1, e2, ⟨u, hp, hb, hF⟩, hce, hcv, hcl, st⟩
  · cases hv
    obtain ⟨k1, k2, k3⟩ := vx_keep h0 e1 hS hA hf hL hF
    obtain ⟨t2, a1, b1⟩ := kk r u t T'.heap (locs ++ L) e1.symm (by rw [← e2]; exact X'.warmed.alike) hp hb k1 k2 k3 T' rfl X'
    exact ⟨t2, st t2 a1, b1⟩
  · obtain ⟨k1, k2, k3⟩ := vx_keep h0 e1 hS hAX hf hL hF
    obtain ⟨t2, a1, b1⟩ := kx E ce q u t T'.heap (locs ++ L) e1.symm (by rw [← e2]; exact X'.warmed.alike) hp hb k1 k2 k3 (by rw [e1]; exact hce) hcv hcl T' rfl X'
    exact ⟨t2, st.trans a1, b1⟩
theorem vx_callv {S SX : Type} {post : S → Prop} {px : SX → Prop} {B : S → State → Prop} {BX : String → SX → State → Prop} {AX : Nat → Prop} (hr : vx_Run p l e R s m args below meth c H locs cells slots mc ms (F0 m pc ls st0) rest (va_Qv post B A1 a) (vx_X px BX AX) free) (hS : va_S A0 H0 H locs) (hA : ∀ q, q < H.size → A1 q → A0 q) (hf : ∀ q, free q → A0 q) (hAX : ∀ q, q < H.size → AX q → A0 q)
    (kx : ∀ (E : String) (ce : Cell) (q9 : Addr) (u : SX) (t : State) (H1 : Heap) (locs1 : List Loc), t.heap = H1 → s.vm.Alike t.vm → px u → BX E u t → H.size ≤ H1.size → (∀ q : Nat, q < H.size → ¬ AX q → H1[q]? = H[q]?) → va_S A0 H0 H1 locs1 → H1[q9]? = some ce → ce.vm = .none → s.vm.findClass E = some ce.cls → vx_W p l e R s m args below meth c H1 locs1 (cells + mc) (slots + ms) Q (F0 m pc ls rest) q9)
    (kk : ∀ (u : S) (t : State) (H1 : Heap) (locs1 : List Loc), t.heap = H1 → s.vm.Alike t.vm → post u → B u t → H.size ≤ H1.size → (∀ q : Nat, q < H.size → ¬ A1 q → H1[q]? = H[q]?) → va_S A0 H0 H1 locs1 → W p l e R s m args below meth c H1 locs1 (cells + mc) (slots + ms) Q (F0 m (pc + 3) ls (rest))) : W p l e R s m args below meth c H locs cells slots Q (F0 m pc ls st0) := by
  intro T hT X
  rcases hr T hT X with ⟨v, st₀, t, T', L, h0, X', hL, e1, e2, ⟨⟨u, hv, hp, hb⟩, hF⟩, st⟩ | ⟨q, st₀, t, T', L, E, ce, h0, X', hL, e1, e2, ⟨u, hp, hb, hF⟩, hce, hcv, hcl, st⟩
  · cases hv
    obtain ⟨k1, k2, k3⟩ := vx_keep h0 e1 hS hA hf hL hF
    obtain ⟨t2, a1, b1⟩ := kk u t T'.heap (locs ++ L) e1.symm (by rw [← e2]; exact X'.warmed.alike) hp hb k1 k2 k3 T' rfl X'
    exact ⟨t2, st t2 a1, b1⟩
  · obtain ⟨k1, k2, k3⟩ := vx_keep h0 e1 hS hAX hf hL hF
    obtain ⟨t2, a1, b1⟩ := kx E ce q u t T'.heap (locs ++ L) e1.symm (by rw [← e2]; exact X'.warmed.alike) hp hb k1 k2 k3 (by rw [e1]; exact hce) hcv hcl T' rfl X'
    exact ⟨t2, st.trans a1, b1⟩
/-- caught by the row x of this method's table; the rows ahead don't take it -/
theorem vx_catch {own name : String} {E : String} {ce : Cell} {q : Addr} (hown : s.vm.findClass own = some m.cls) (pre : List ExceptionTableEntry) (x : ExceptionTableEntry) (suf : List ExceptionTableEntry) (hsplit : c.exceptionTable.toList = pre ++ x :: suf)
    (hpass : ∀ z ∈ pre, covers z pc = false ∨ (z.catchType ≠ 0 ∧ ∃ nm : String, (Cond.classLink own z.catchType nm).before args s = true ∧ va_Nc E nm s)) (hx : covers x pc = true) (h0 : x.catchType ≠ 0)
    (hlink : (Cond.classLink own x.catchType name).before args s = true) (hcast : (Cond.castable E name).before args s = true) (hcell : H[q]? = some ce) (hv : ce.vm = .none) (hcl : s.vm.findClass E = some ce.cls)
    (kk : W p l e R s m args below meth c H locs cells slots Q (F0 m x.handlerPc ls [.ref q])) : vx_W p l e R s m args below meth c H locs cells slots Q (F0 m pc ls rest) q := by
  intro T hT X
  have hpl : e.platform.magicAccessors = ({} : Platform).magicAccessors := by rw [X.admits.platform]
  obtain ⟨c3, c4, hc3, hc4, hasg⟩ := Cond.castable_spec hcast
  cases Option.some.inj (hc3.symm.trans hcl)
  obtain ⟨c5, hc5, hcl5⟩ := Cond.classLink_spec hown hlink e.platform hpl
  cases Option.some.inj (hc4.symm.trans hc5)
  obtain ⟨vm', X', st⟩ := X.thenCaughtThrough q (g := F0 m pc ls rest) rfl (Steps.refl _) (by rw [hT]; exact hcell) (by rw [hv]; rfl) (by obtain ⟨k9, h9, -⟩ := Vm.findClass_spec hcl; exact ⟨k9, h9⟩) pre x suf hsplit
    (fun z hz => by
      rcases hpass z hz with h | ⟨hz0, nm, hl1, hn1⟩
      · exact Or.inl h
      · obtain ⟨c6, hc6, hcl6⟩ := Cond.classLink_spec hown hl1 e.platform hpl
        obtain ⟨a8, b8, h1, h2, h3⟩ := hn1
        cases Option.some.inj (h1.symm.trans hcl)
        cases Option.some.inj (h2.symm.trans hc6)
        exact Or.inr ⟨hz0, _, hcl6, h3⟩) hx (Or.inr ⟨h0, c4, hcl5, hasg⟩)
  obtain ⟨t, a1, b1⟩ := kk (T.setVm vm') hT X'
  exact ⟨t, st.trans a1, b1⟩
end Rows
section Ends
variable {p : Program} {l : Launch} {e : Env} {R : Room} {s : State} {m : MethodId} {args : Array Value} {below : List Frame} {meth : Method} {c : Code} {H : Heap} {locs : List Loc} {cells slots : Nat} {Q : State → Prop}
variable {mc ms : Nat} {free : Addr → Prop} {A0 A1 : Nat → Prop} {H0 : Heap} {a : Array Value} {ls : Array Slot} {st0 rest : List Value}
variable {Qc : Array Value → State → Outcome → State → Prop} {XC : String → State → State → Prop}
/-- what a body that may throw owes at its end -/
def vx_MQ (below : List Frame) (Qc : Array Value → State → Outcome → State → Prop) (XC : String → State → State → Prop) (a : Array Value) (s : State) (mc ms : Nat) (free : Addr → Prop) : State → Prop := fun t =>
  ∃ o, t.status = .running ∧ Ended t below o ∧ vx_Q Qc XC mc ms free a s o t
theorem vx_ret {g : JFrame} {mc ms : Nat} (k : W p l e R s m args below meth c H locs cells slots (MQ below Qc args s mc ms free) g) : W p l e R s m args below meth c H locs cells slots (vx_MQ below Qc XC args s mc ms free) g := by
  intro T hT X
  obtain ⟨t, a1, o, b1, b2, b3, b4⟩ := k T hT X
  exact ⟨t, a1, o, b1, b2, Or.inl ⟨b3, b4⟩⟩
/-- not caught here: it goes on to the caller -/
theorem vx_widen {g : JFrame} {q : Addr} {k n : Nat} (h1 : cells ≤ k) (h2 : slots ≤ n) (kk : vx_W p l e R s m args below meth c H locs k n Q g q) : vx_W p l e R s m args below meth c H locs cells slots Q g q := fun T hT X => kk T hT (stand_widen X h1 h2)
theorem vx_out {pc : Nat} {E : String} {ce : Cell} {q : Addr} {mc ms : Nat} (hout : ∀ x ∈ c.exceptionTable.toList, covers x pc = false) (hlocks : meth.locks = false) (hcell : H[q]? = some ce) (hv : ce.vm = .none) (hcl : s.vm.findClass E = some ce.cls)
    (hx : ∀ t : State, t.heap = H → s.vm.Alike t.vm → XC E s t) (hf : ∀ z ∈ locs, free z.base) (hc : cells ≤ mc) (hs : slots ≤ ms) :
    vx_W p l e R s m args below meth c H locs cells slots (vx_MQ below Qc XC args s mc ms free) (F0 m pc ls rest) q := by
  intro T hT X
  obtain ⟨st1, hrun, hend, hW, hsm⟩ := X.leaveThrown q (g := F0 m pc ls rest) rfl rfl rfl hout hlocks
  have hcell9 : (T.setFrames (.throwing q :: below)).heap[q]? = some ce := by
    show T.heap[q]? = some ce
    rw [hT]; exact hcell
  exact ⟨_, st1, .threw q, hrun, hend, Or.inr ⟨q, rfl, E, ce, locs, hx _ hT hW.alike, hcell9, hv, hcl, hW, hsm.mono hc hs, hf⟩⟩
theorem vx_frame {U : State} {k n : Nat} (h : s.sameButNew ({ U with vm := s.vm } : State) locs k n) : s.heap.size ≤ U.heap.size ∧ ∀ q : Nat, q < s.heap.size → (∀ z ∈ locs, z.base ≠ q) → U.heap[q]? = s.heap[q]? := by
  obtain ⟨-, h2, -, -, -, h6⟩ := h
  refine ⟨h2, fun q hq hz => ?_⟩
  obtain ⟨c9, e1, e2, e3, e4⟩ := h6 q _ (Array.getElem?_eq_getElem hq)
  have hs : c9.slots = (s.heap[q]).slots := Array.ext_getElem? fun i => e4 i fun hm => hz _ hm rfl
  have h9 : c9 = s.heap[q] := by
    rw [hs] at e2
    exact e2
  have e5 : U.heap[q]? = some c9 := e1
  rw [e5, h9, Array.getElem?_eq_getElem hq]
/-- the words of a throw but the four that speak of the heap -/
def vx_no (w : Cond) : Bool := decide (w ≠ .isRef (.static Bundle.tN "UNASSIGNED_STACK" Bundle.steD)) && decide (w ≠ .isRef (.static Bundle.tN "SUPPRESSED_SENTINEL" Bundle.listD)) && decide (w ≠ .laysStatic Bundle.tN "UNASSIGNED_STACK" Bundle.steD) && decide (w ≠ .laysStatic Bundle.tN "SUPPRESSED_SENTINEL" Bundle.listD)
def vx_at0 (own : String) (ic : Nat) (X : String) (names : List String) : List Cond := (Bundle.ownAtoms0 own ic X names).filter vx_no
def vx_atS (own : String) (ic : Nat) (X : String) (names : List String) : List Cond := (Bundle.ownAtoms own ic X names).filter vx_no
/-- a word that the tables alone decide, or a good one -/
def vx_ot (w : Cond) : Bool := w.onTables || goodWord w
theorem vx_ot_at {args a' : Array Value} {s U : State} {w : Cond} (hW : s.WarmedH U.vm) (hvm : s.vm = U.vm) (hg : vx_ot w = true) (h : w.before args s = true) : w.before a' U = true := by
  simp only [vx_ot, Bool.or_eq_true] at hg
  rcases hg with hg | hg
  · exact va_tabs hg hvm h
  · exact word_at hW (good_of_word hg) h
/-- a list's words: the good ones out of the method's own list, the others by premises of their own -/
theorem vx_hat {args : Array Value} {s : State} {L B : List Cond} (h1 : ∀ w ∈ L.filter goodWord, w.before args s = true) (h2 : ∀ w ∈ L.filter (fun w => !goodWord w), w ∈ B) (h3 : ∀ w ∈ B, w.before args s = true) : ∀ w ∈ L, w.before args s = true := by
  intro w hw
  by_cases g : goodWord w = true
  · exact h1 w (List.mem_filter.mpr ⟨hw, g⟩)
  · refine h3 w (h2 w (List.mem_filter.mpr ⟨hw, ?_⟩))
    show (!goodWord w) = true
    cases hgw : goodWord w
    · rfl
    · exact absurd hgw g
theorem vx_c {args : Array Value} {s : State} {w : Cond} {B : List Cond} (h : w.before args s = true) (t : ∀ w ∈ B, w.before args s = true) : ∀ w' ∈ w :: B, w'.before args s = true := fun w' h' => (List.mem_cons.mp h').elim (fun e => by rw [e]; exact h) (t w')
theorem vx_n {args : Array Value} {s : State} : ∀ w ∈ ([] : List Cond), w.before args s = true := fun _ h => nomatch h
theorem vx_own {args : Array Value} {s : State} {L : List Cond} (h1 : ∀ w ∈ L.filter vx_no, w.before args s = true)
    (hU : (Cond.isRef (.static Bundle.tN "UNASSIGNED_STACK" Bundle.steD)).before args s = true) (hN : (Cond.isRef (.static Bundle.tN "SUPPRESSED_SENTINEL" Bundle.listD)).before args s = true)
    (lU : (Cond.laysStatic Bundle.tN "UNASSIGNED_STACK" Bundle.steD).before args s = true) (lN : (Cond.laysStatic Bundle.tN "SUPPRESSED_SENTINEL" Bundle.listD).before args s = true) : ∀ w ∈ L, w.before args s = true := by
  intro w hw
  by_cases e1 : w = .isRef (.static Bundle.tN "UNASSIGNED_STACK" Bundle.steD)
  · rw [e1]; exact hU
  · by_cases e2 : w = .isRef (.static Bundle.tN "SUPPRESSED_SENTINEL" Bundle.listD)
    · rw [e2]; exact hN
    · by_cases e3 : w = .laysStatic Bundle.tN "UNASSIGNED_STACK" Bundle.steD
      · rw [e3]; exact lU
      · by_cases e4 : w = .laysStatic Bundle.tN "SUPPRESSED_SENTINEL" Bundle.listD
        · rw [e4]; exact lN
        · exact h1 w (List.mem_filter.mpr ⟨hw, by unfold vx_no; rw [decide_eq_true e1, decide_eq_true e2, decide_eq_true e3, decide_eq_true e4]; rfl⟩)
/-- where a static field lies, its class's statics cell in H -/
def vx_L (C n d : String) (A : Nat → Prop) (U : State) (H : Heap) : Prop := ∃ (c : ClassId) (k : Class) (i : Nat) (f : Field) (a : Nat) (cell : Cell), U.vm.findClass C = some c ∧ U.fieldFound? C n d = some (c, k, i, f) ∧ f.isStatic = true ∧ k.statics = some a ∧ H[a]? = some cell ∧ cell.vm.isStatics = true ∧ cell.cls = c ∧ f.slot < cell.slots.size ∧ k.staticTypes[f.slot]? = some f.type ∧ ¬ A a
theorem vx_L.moved {C n d : String} {A : Nat → Prop} {u U : State} {H : Heap} (hvm : u.vm.Alike U.vm) (h : vx_L C n d A u H) : vx_L C n d A U H := by
  obtain ⟨c, k, i, f, a, cell, h1, h2, h3, h4, h5, h6, h7, h8, h9, h10⟩ := h
  obtain ⟨k', hi', he⟩ := State.fieldFound?_setVm hvm h2
  exact ⟨c, k', i, f, a, cell, by rw [hvm.findClass]; exact h1, hi', h3, by rw [he]; exact h4, h5, h6, h7, h8, by rw [he]; exact h9, h10⟩
theorem vx_L.kept {C n d : String} {A : Nat → Prop} {U : State} {H H1 : Heap} (h : vx_L C n d A U H) (hq : ∀ a : Nat, a < H.size → ¬ A a → H1[a]? = H[a]?) : vx_L C n d A U H1 := by
  obtain ⟨c, k, i, f, a, cell, h1, h2, h3, h4, h5, h6, h7, h8, h9, h10⟩ := h
  exact ⟨c, k, i, f, a, cell, h1, h2, h3, h4, by rw [hq a (Array.getElem?_eq_some_iff.mp h5).1 h10]; exact h5, h6, h7, h8, h9, h10⟩
theorem vx_L.narrow {C n d : String} {A B : Nat → Prop} {U : State} {H : Heap} (h : vx_L C n d A U H) (hAB : ∀ q, B q → A q) : vx_L C n d B U H := by
  obtain ⟨c, k, i, f, a, cell, h1, h2, h3, h4, h5, h6, h7, h8, h9, h10⟩ := h
  exact ⟨c, k, i, f, a, cell, h1, h2, h3, h4, h5, h6, h7, h8, h9, fun z => h10 (hAB _ z)⟩
theorem vx_L.word {C n d : String} {A : Nat → Prop} {s : State} {args : Array Value} (h : vx_L C n d A s s.heap) : (Cond.laysStatic C n d).before args s = true := by
  obtain ⟨c, k, i, f, a, cell, h1, h2, h3, h4, h5, h6, h7, h8, h9, -⟩ := h
  show (Cond.laysStatic C n d).holds args s none s [] = true
  exact Cond.laysStatic_of h1 h2 h3 h4 h5 h6 h7 h8 h9
/-- .. and what it holds: null or some reference -/
def vx_Zq (C n d : String) (A : Nat → Prop) (U : State) (H : Heap) : Prop := va_Zq C n d A U H ∧ vx_L C n d A U H
theorem vx_Zq.moved {C n d : String} {A : Nat → Prop} {u U : State} {H : Heap} (hvm : u.vm.Alike U.vm) (h : vx_Zq C n d A u H) : vx_Zq C n d A U H := ⟨va_Zq.moved hvm h.1, vx_L.moved hvm h.2⟩
theorem vx_Zq.kept {C n d : String} {A : Nat → Prop} {U : State} {H H1 : Heap} (h : vx_Zq C n d A U H) (hq : ∀ a : Nat, a < H.size → ¬ A a → H1[a]? = H[a]?) : vx_Zq C n d A U H1 := ⟨va_Zq.kept h.1 hq, vx_L.kept h.2 hq⟩
theorem vx_Zq.narrow {C n d : String} {A B : Nat → Prop} {U : State} {H : Heap} (h : vx_Zq C n d A U H) (hAB : ∀ q, B q → A q) : vx_Zq C n d B U H := ⟨va_Zq.narrow h.1 hAB, vx_L.narrow h.2 hAB⟩
theorem vx_Zqof {args : Array Value} {s : State} {C n d : String} {A : Nat → Prop} (hl : (Cond.laysStatic C n d).before args s = true) (hini : (Cond.initialized C).before args s = true) (h : (Cond.isRef (.static C n d)).before args s = true) (hA : ∀ a : Nat, a < s.heap.size → ¬ A a) : vx_Zq C n d A s s.heap := by
  refine ⟨va_Zqof hl hini h hA, ?_⟩
  obtain ⟨c, k, i, f, a, cell, h1, h2, h3, h4, h5, h6, h7, h8, h9⟩ := Cond.laysStatic_spec hl
  exact ⟨c, k, i, f, a, cell, h1, h2, h3, h4, h5, h6, h7, h8, h9, hA a (Array.getElem?_eq_some_iff.mp h5).1⟩
theorem vx_isRef {C n d : String} {v : Value} {A : Nat → Prop} {s : State} {args : Array Value} (h : va_Z C n d v A s s.heap) (hv : v.isRef = true) : (Cond.isRef (.static C n d)).before args s = true := by
  obtain ⟨cf, kf, fi, f, a, cell, h1, h2, h3, h4, h5, h6, h7, -⟩ := h
  have he : (Term.static C n d).eval args s none [] s = some v := by
    simp [Term.eval, State.fieldNamed?, h1, h2, h4, h5, h6, h7]
  simp only [Cond.before, Cond.holds, Cond.value, he]
  cases v <;> simp_all [Value.isRef]
theorem vx_isRefq {C n d : String} {A : Nat → Prop} {s : State} {args : Array Value} (h : va_Zq C n d A s s.heap) : (Cond.isRef (.static C n d)).before args s = true := by
  rcases h with h | ⟨t, h⟩
  · exact vx_isRef h rfl
  · exact vx_isRef h rfl
/-- the same frame, seen from here: as if the method were called anew in this heap -/
theorem vx_rebase {T : State} (X : Stand p l e R s m args below meth c T locs cells slots) {R' : Room} (hf : R'.frames ≤ R.frames) (hl : R'.locals ≤ R.locals) (hc : cells + R'.cells ≤ R.cells) (hs : slots + R'.slots ≤ R.slots) :
    Stand p l e R' ((T.setVm s.vm).setFrames (.invoking m args :: below)) m args below meth c T [] 0 0 := by
  have htop : (T.setVm s.vm).topJava?.isSome := X.here.top
  have hF : ((T.setVm s.vm).setFrames (.invoking m args :: below)).frames = .invoking m args :: below := State.frames_setFrames _ (State.cur_lt_of_top htop)
  obtain ⟨g₀, hg0⟩ := Option.isSome_iff_exists.mp htop
  obtain ⟨r, hr⟩ := State.topJava?_eq_some.mp hg0
  have hl9 : e.platform.stackLimits (T.setVm s.vm).me = e.platform.stackLimits s.me := X.limits
  have hb9 : (T.setVm s.vm).me.stackBytes = s.me.stackBytes := X.bytes
  refine ⟨X.admits, X.cas, X.clock, hF, ?_, X.hears, X.method, X.code, X.here, X.tail, X.warmed, ?_, ?_, ?_⟩
  · have h := X.room
    have hU : ((T.setVm s.vm).setFrames (.invoking m args :: below)).localsInUse = s.localsInUse := by
      rw [State.localsInUse_invoking hF (meth := meth) (c := c) X.method X.code, State.localsInUse_invoking X.frames X.method X.code]
    simp only [State.hasRoom, Bool.and_eq_true, decide_eq_true_eq] at h ⊢
    obtain ⟨⟨⟨⟨h1, h2, h3, h4, h5, h6⟩, h7⟩, h8⟩, h9⟩ := h
    rw [X.frames, List.length_cons] at h2 h3
    have q1 := X.heapSize
    have q2 := X.used
    simp only [hF, hU, List.length_cons, State.stackLimits_setFrames, State.stackBytes_setFrames, hl9, hb9]
    refine ⟨⟨⟨⟨by omega, by omega, by omega, by omega, by omega, h6⟩, ?_⟩, ?_⟩, X.book⟩
    · show T.heap.size + R'.cells ≤ e.platform.maxCells
      omega
    · show T.slotsUsed + R'.slots ≤ e.platform.maxSlots
      omega
  · rw [State.stackLimits_setFrames]; rfl
  · rw [State.stackBytes_setFrames]; rfl
  · refine ⟨?_, Nat.le_refl _, Nat.le_refl _, ?_, ?_, fun a c9 h9 => ⟨c9, h9, rfl, rfl, fun _ _ => rfl⟩⟩
    · obtain ⟨t, ht, -⟩ := State.frames_cons hr
      show T.setVm s.vm = { ((T.setVm s.vm).setFrames (.invoking m args :: below)).setFrames (T.setVm s.vm).frames with heap := T.heap, slotsUsed := T.slotsUsed }
      rw [State.setFrames_setFrames, State.setFrames_self ht]
      rfl
    · show T.slotsUsed = T.slotsUsed + ((T.heap.toList.drop T.heap.size).map (·.slots.size)).sum
      rw [List.drop_eq_nil_of_le (Nat.le_of_eq Array.length_toList)]
      rfl
    · show ((T.heap.toList.drop T.heap.size).map (·.slots.size)).sum ≤ 0
      rw [List.drop_eq_nil_of_le (Nat.le_of_eq Array.length_toList)]
      exact Nat.le_refl _
/-- 'throw new E()': new; dup; invokespecial; athrow -/
theorem vx_throw0 {cc : ByteArray} {pc : Nat} (hexec : p.tables.exec = Jvm.exec) (hb : c.code = cc) (hl : l.stackTraces = false) {own cls : String} {names : List String} {ik ic mc ms : Nat} {A : Nat → Prop}
    (hown : s.vm.findClass own = some m.cls) (hcls : Bundle.fit cls = true) (hnames : ∀ n ∈ names, Bundle.fit n = true)
    (hk : (Cond.classLink own ik cls).before args s = true) (hini : (Cond.initialized cls).before args s = true) (hat : ∀ w ∈ vx_at0 own ic cls names, w.before args s = true)
    (hgood : ∀ w ∈ Cond.classLink own ik cls :: Cond.initialized cls :: vx_at0 own ic cls names, vx_ot w = true)
    (hU : vx_Zq Bundle.tN "UNASSIGNED_STACK" Bundle.steD A s s.heap) (hN : vx_Zq Bundle.tN "SUPPRESSED_SENTINEL" Bundle.listD A s s.heap) (hS : va_S A s.heap H locs) (hsize : ls.size = c.maxLocals)
    (d0 : decode cc pc = .ok (.new ik, 3)) (d3 : decode cc (pc + 3) = .ok (.dup, 1)) (d4 : decode cc (pc + 4) = .ok (.invokespecial ic, 3)) (d7 : decode cc (pc + 7) = .ok (.athrow, 1))
    (hout : ∀ x ∈ c.exceptionTable.toList, covers x (pc + 7) = false)
    (hRframes : names.length + 3 < R.frames) (hRlocals : (rest.map fun v => v.category).sum + (13 * (names.length + 1) + 42) ≤ R.locals) (hRcells : cells + 1 ≤ R.cells) (hRslots : slots + 6 ≤ R.slots) (hlocks : meth.locks = false)
    (hx : ∀ t : State, s.vm.Alike t.vm → H.size ≤ t.heap.size → (∀ q : Nat, q < H.size → t.heap[q]? = H[q]?) → XC cls s t)
    (hf : ∀ z ∈ locs, free z.base) (hc : cells + 1 ≤ mc) (hs : slots + 6 ≤ ms) :
    W p l e R s m args below meth c H locs cells slots (vx_MQ below Qc XC args s mc ms free) (F0 m pc ls rest) := by
  intro T hT X
  have htr : e.platform.stackTraces = false := (show e.platform.stackTraces = l.stackTraces by rw [X.admits.platform]).trans hl
  have Y := vx_rebase X (R' := { frames := R.frames, locals := R.locals, cells := 1, slots := 6 }) (Nat.le_refl _) (Nat.le_refl _) hRcells hRslots
  obtain ⟨s', hA⟩ : ∃ z, z = (T.setVm s.vm).setFrames (.invoking m args :: below) := ⟨_, rfl⟩
  rw [← hA] at Y
  have hvm : s'.vm = s.vm := by rw [hA]; rfl
  have hhp : s'.heap = H := by rw [hA]; exact hT
  have hW0 : s.WarmedH s'.vm := by rw [hvm]; exact State.WarmedH.refl s
  have hat' : ∀ w ∈ vx_at0 own ic cls names, w.before args s' = true := fun w hw => vx_ot_at hW0 hvm.symm (hgood w (List.mem_cons_of_mem _ (List.mem_cons_of_mem _ hw))) (hat w hw)
  have hk' : (Cond.classLink own ik cls).before args s' = true := vx_ot_at hW0 hvm.symm (hgood _ List.mem_cons_self) hk
  have hini' : (Cond.initialized cls).before args s' = true := vx_ot_at hW0 hvm.symm (hgood _ (List.mem_cons_of_mem _ List.mem_cons_self)) hini
  have hU' : vx_Zq Bundle.tN "UNASSIGNED_STACK" Bundle.steD A s' s'.heap := by rw [hhp]; exact vx_Zq.moved hW0.alike (hU.kept hS.2.1)
  have hN' : vx_Zq Bundle.tN "SUPPRESSED_SENTINEL" Bundle.listD A s' s'.heap := by rw [hhp]; exact vx_Zq.moved hW0.alike (hN.kept hS.2.1)
  have h : ∀ w ∈ Bundle.ownAtoms0 own ic cls names, w.before args s' = true := vx_own hat' (vx_isRefq hU'.1) (vx_isRefq hN'.1) hU'.2.word hN'.2.word
  have hown' : s'.vm.findClass own = some m.cls := by rw [hvm]; exact hown
  have hins : (Cond.instantiable cls 6).before args s' = true := h _ (by simp [Bundle.ownAtoms0])
  obtain ⟨vm₁, cX, kX, hfX, hkX, -, -, X₁, st1⟩ := Y.newCold hexec (own := own) (C := cls) (index := ik) (n := 6) hown' hk' hins hini'
    (g := F0 m pc ls rest) rfl (by rw [hb]; exact d0) (Nat.le_refl _) (Nat.le_refl _)
  generalize hT1 : (T.setVm vm₁).pushCell { cls := cX, slots := kX.instanceTypes.map defaultValue, vm := .none } = T1 at X₁ st1
  have hcat : (Value.ref T.heap.size).category = 1 := rfl
  have hcellA : T1.heap[T.heap.size]? = some (freshCell cX kX) := by rw [← hT1]; exact State.heap_pushCell_size _ _
  have d3' : decode c.code (pc + 3) = .ok (.dup, 1) := by rw [hb]; exact d3
  obtain ⟨U, hsteps, hrun, hend, hW, hsame, ce, hce, hO⟩ := X₁.ctorThrow0 hexec htr (own := own) (cls := cls) (names := names) (ic := ic) hown' hcls hnames h (fun x hx => nomatch hx) hfX hkX hcellA (by rw [hhp, hT]; exact Nat.le_refl _)
    (g := { method := m, pc := pc + 4, locals := ls, stack := .ref T.heap.size :: .ref T.heap.size :: rest, locked := none }) rfl hsize rfl rfl (rest := rest) rfl
    (by rw [hb]; exact d4) (by rw [hb]; exact d7) hout hRframes (by simp only [List.map_cons, List.sum_cons, hcat]; omega) hlocks
  obtain ⟨f1, f2⟩ := vx_frame hsame
  rw [hhp] at f1 f2
  have hWs : s.WarmedH U.vm := State.WarmedH.trans hW0 hW
  have hcl : s.vm.findClass cls = some ce.cls := by
    have h9 := hO.cls
    rw [hvm] at h9
    exact h9
  have hall : s.sameButNew ({ U with vm := s.vm } : State) locs mc ms := by
    subst hA
    obtain ⟨e1, e2⟩ := hsame
    rw [State.setFrames_setFrames] at e1
    have h2 : (T.setVm s.vm).sameButNew ({ U with vm := s.vm } : State) [] (0 + 1) (0 + 6) := ⟨e1, e2⟩
    have h3 := X.same.trans h2
    rw [List.append_nil] at h3
    exact h3.mono hc hs
  refine ⟨U, ?_, .threw T.heap.size, hrun, hend, Or.inr ⟨T.heap.size, rfl, cls, ce, locs, hx U hWs.alike f1 (fun q hq => f2 q hq (fun z hz => nomatch hz)), hce, hO.vm, hcl, hWs, hall, hf⟩⟩
  refine st1 _ ?_
  show Steps p.tables e below (T1.setTop { method := m, pc := pc + 3, locals := ls, stack := .ref T.heap.size :: rest, locked := none }) _
  jvm_step X₁.here [X₁.here.top, hexec, d3', Value.category]
  exact hsteps
/-- 'throw new E("text")': new; dup; ldc; invokespecial; athrow -/
theorem vx_throwS {cc : ByteArray} {pc : Nat} (hexec : p.tables.exec = Jvm.exec) (hb : c.code = cc) (hl : l.stackTraces = false) {own cls text : String} {names : List String} {ik is ic mc ms sa : Nat} {A : Nat → Prop}
    (hown : s.vm.findClass own = some m.cls) (hcls : Bundle.fit cls = true) (hnames : ∀ n ∈ names, Bundle.fit n = true)
    (hk : (Cond.classLink own ik cls).before args s = true) (hini : (Cond.initialized cls).before args s = true) (hstr : vk_R own is text sa s) (hat : ∀ w ∈ vx_atS own ic cls names, w.before args s = true)
    (hgood : ∀ w ∈ Cond.classLink own ik cls :: Cond.initialized cls :: vx_atS own ic cls names, vx_ot w = true)
    (hU : vx_Zq Bundle.tN "UNASSIGNED_STACK" Bundle.steD A s s.heap) (hN : vx_Zq Bundle.tN "SUPPRESSED_SENTINEL" Bundle.listD A s s.heap) (hS : va_S A s.heap H locs) (hsize : ls.size = c.maxLocals)
    (d0 : decode cc pc = .ok (.new ik, 3)) (d3 : decode cc (pc + 3) = .ok (.dup, 1)) (d4 : decode cc (pc + 4) = .ok (.ldc is, 2)) (d6 : decode cc (pc + 6) = .ok (.invokespecial ic, 3)) (d9 : decode cc (pc + 9) = .ok (.athrow, 1))
    (hout : ∀ x ∈ c.exceptionTable.toList, covers x (pc + 9) = false)
    (hRframes : names.length + 3 < R.frames) (hRlocals : (rest.map fun v => v.category).sum + (13 * (names.length + 1) + 43) ≤ R.locals) (hRcells : cells + 1 ≤ R.cells) (hRslots : slots + 6 ≤ R.slots) (hlocks : meth.locks = false)
    (hx : ∀ t : State, s.vm.Alike t.vm → H.size ≤ t.heap.size → (∀ q : Nat, q < H.size → t.heap[q]? = H[q]?) → XC cls s t)
    (hf : ∀ z ∈ locs, free z.base) (hc : cells + 1 ≤ mc) (hs : slots + 6 ≤ ms) :
    W p l e R s m args below meth c H locs cells slots (vx_MQ below Qc XC args s mc ms free) (F0 m pc ls rest) := by
  intro T hT X
  have htr : e.platform.stackTraces = false := (show e.platform.stackTraces = l.stackTraces by rw [X.admits.platform]).trans hl
  have Y := vx_rebase X (R' := { frames := R.frames, locals := R.locals, cells := 1, slots := 6 }) (Nat.le_refl _) (Nat.le_refl _) hRcells hRslots
  obtain ⟨s', hA⟩ : ∃ z, z = (T.setVm s.vm).setFrames (.invoking m args :: below) := ⟨_, rfl⟩
  rw [← hA] at Y
  have hvm : s'.vm = s.vm := by rw [hA]; rfl
  have hhp : s'.heap = H := by rw [hA]; exact hT
  have hW0 : s.WarmedH s'.vm := by rw [hvm]; exact State.WarmedH.refl s
  have hat' : ∀ w ∈ vx_atS own ic cls names, w.before args s' = true := fun w hw => vx_ot_at hW0 hvm.symm (hgood w (List.mem_cons_of_mem _ (List.mem_cons_of_mem _ hw))) (hat w hw)
  have hk' : (Cond.classLink own ik cls).before args s' = true := vx_ot_at hW0 hvm.symm (hgood _ List.mem_cons_self) hk
  have hini' : (Cond.initialized cls).before args s' = true := vx_ot_at hW0 hvm.symm (hgood _ (List.mem_cons_of_mem _ List.mem_cons_self)) hini
  have hU' : vx_Zq Bundle.tN "UNASSIGNED_STACK" Bundle.steD A s' s'.heap := by rw [hhp]; exact vx_Zq.moved hW0.alike (hU.kept hS.2.1)
  have hN' : vx_Zq Bundle.tN "SUPPRESSED_SENTINEL" Bundle.listD A s' s'.heap := by rw [hhp]; exact vx_Zq.moved hW0.alike (hN.kept hS.2.1)
  have h : ∀ w ∈ Bundle.ownAtoms own ic cls names, w.before args s' = true := vx_own hat' (vx_isRefq hU'.1) (vx_isRefq hN'.1) hU'.2.word hN'.2.word
  have hown' : s'.vm.findClass own = some m.cls := by rw [hvm]; exact hown
  have hins : (Cond.instantiable cls 6).before args s' = true := h _ (by simp [Bundle.ownAtoms])
  obtain ⟨vm₁, cX, kX, hfX, hkX, -, -, X₁, st1⟩ := Y.newCold hexec (own := own) (C := cls) (index := ik) (n := 6) hown' hk' hins hini'
    (g := F0 m pc ls rest) rfl (by rw [hb]; exact d0) (Nat.le_refl _) (Nat.le_refl _)
  generalize hT1 : (T.setVm vm₁).pushCell { cls := cX, slots := kX.instanceTypes.map defaultValue, vm := .none } = T1 at X₁ st1
  have hcat : (Value.ref T.heap.size).category = 1 := rfl
  have hcellA : T1.heap[T.heap.size]? = some (freshCell cX kX) := by rw [← hT1]; exact State.heap_pushCell_size _ _
  have d3' : decode c.code (pc + 3) = .ok (.dup, 1) := by rw [hb]; exact d3
  have d4' : decode c.code (pc + 4) = .ok (.ldc is, 2) := by rw [hb]; exact d4
  have hstr' : vk_R own is text sa s' := vk_R.warm hW0 hstr
  obtain ⟨U, hsteps, hrun, hend, hW, hsame, ce, hce, hO⟩ := X₁.ctorThrowS hexec htr (own := own) (cls := cls) (names := names) (ic := ic) hown' hcls hnames h (fun x hx => nomatch hx) hfX hkX hcellA (by rw [hhp, hT]; exact Nat.le_refl _) (msg := .ref sa) rfl
    (g := { method := m, pc := pc + 6, locals := ls, stack := .ref sa :: .ref T.heap.size :: .ref T.heap.size :: rest, locked := none }) rfl hsize rfl rfl (rest := rest) rfl
    (by rw [hb]; exact d6) (by rw [hb]; exact d9) hout hRframes (by simp only [List.map_cons, List.sum_cons, hcat]; omega) hlocks
  obtain ⟨f1, f2⟩ := vx_frame hsame
  rw [hhp] at f1 f2
  have hWs : s.WarmedH U.vm := State.WarmedH.trans hW0 hW
  have hcl : s.vm.findClass cls = some ce.cls := by
    have h9 := hO.cls
    rw [hvm] at h9
    exact h9
  have hall : s.sameButNew ({ U with vm := s.vm } : State) locs mc ms := by
    subst hA
    obtain ⟨e1, e2⟩ := hsame
    rw [State.setFrames_setFrames] at e1
    have h2 : (T.setVm s.vm).sameButNew ({ U with vm := s.vm } : State) [] (0 + 1) (0 + 6) := ⟨e1, e2⟩
    have h3 := X.same.trans h2
    rw [List.append_nil] at h3
    exact h3.mono hc hs
  refine ⟨U, ?_, .threw T.heap.size, hrun, hend, Or.inr ⟨T.heap.size, rfl, cls, ce, locs, hx U hWs.alike f1 (fun q hq => f2 q hq (fun z hz => nomatch hz)), hce, hO.vm, hcl, hWs, hall, hf⟩⟩
  refine st1 _ ?_
  show Steps p.tables e below (T1.setTop { method := m, pc := pc + 3, locals := ls, stack := .ref T.heap.size :: rest, locked := none }) _
  jvm_step X₁.here [X₁.here.top, hexec, d3', Value.category]
  exact X₁.ldcString hexec (own := own) (text := text) (index := is) (a := sa) hown' hstr'.1 hstr'.2
    (g := { method := m, pc := pc + 4, locals := ls, stack := .ref T.heap.size :: .ref T.heap.size :: rest, locked := none }) rfl d4' _ hsteps
/-- 'throw new E("text")', the text by a wide index -/
theorem vx_throwSW {cc : ByteArray} {pc : Nat} (hexec : p.tables.exec = Jvm.exec) (hb : c.code = cc) (hl : l.stackTraces = false) {own cls text : String} {names : List String} {ik is ic mc ms sa : Nat} {A : Nat → Prop}
    (hown : s.vm.findClass own = some m.cls) (hcls : Bundle.fit cls = true) (hnames : ∀ n ∈ names, Bundle.fit n = true)
    (hk : (Cond.classLink own ik cls).before args s = true) (hini : (Cond.initialized cls).before args s = true) (hstr : vk_R own is text sa s) (hat : ∀ w ∈ vx_atS own ic cls names, w.before args s = true)
    (hgood : ∀ w ∈ Cond.classLink own ik cls :: Cond.initialized cls :: vx_atS own ic cls names, vx_ot w = true)
    (hU : vx_Zq Bundle.tN "UNASSIGNED_STACK" Bundle.steD A s s.heap) (hN : vx_Zq Bundle.tN "SUPPRESSED_SENTINEL" Bundle.listD A s s.heap) (hS : va_S A s.heap H locs) (hsize : ls.size = c.maxLocals)
    (d0 : decode cc pc = .ok (.new ik, 3)) (d3 : decode cc (pc + 3) = .ok (.dup, 1)) (d4 : decode cc (pc + 4) = .ok (.ldc_w is, 3)) (d7 : decode cc (pc + 7) = .ok (.invokespecial ic, 3)) (d10 : decode cc (pc + 10) = .ok (.athrow, 1))
    (hout : ∀ x ∈ c.exceptionTable.toList, covers x (pc + 10) = false)
    (hRframes : names.length + 3 < R.frames) (hRlocals : (rest.map fun v => v.category).sum + (13 * (names.length + 1) + 43) ≤ R.locals) (hRcells : cells + 1 ≤ R.cells) (hRslots : slots + 6 ≤ R.slots) (hlocks : meth.locks = false)
    (hx : ∀ t : State, s.vm.Alike t.vm → H.size ≤ t.heap.size → (∀ q : Nat, q < H.size → t.heap[q]? = H[q]?) → XC cls s t)
    (hf : ∀ z ∈ locs, free z.base) (hc : cells + 1 ≤ mc) (hs : slots + 6 ≤ ms) :
    W p l e R s m args below meth c H locs cells slots (vx_MQ below Qc XC args s mc ms free) (F0 m pc ls rest) := by
  intro T hT X
  have htr : e.platform.stackTraces = false := (show e.platform.stackTraces = l.stackTraces by rw [X.admits.platform]).trans hl
  have Y := vx_rebase X (R' := { frames := R.frames, locals := R.locals, cells := 1, slots := 6 }) (Nat.le_refl _) (Nat.le_refl _) hRcells hRslots
  obtain ⟨s', hA⟩ : ∃ z, z = (T.setVm s.vm).setFrames (.invoking m args :: below) := ⟨_, rfl⟩
  rw [← hA] at Y
  have hvm : s'.vm = s.vm := by rw [hA]; rfl
  have hhp : s'.heap = H := by rw [hA]; exact hT
  have hW0 : s.WarmedH s'.vm := by rw [hvm]; exact State.WarmedH.refl s
  have hat' : ∀ w ∈ vx_atS own ic cls names, w.before args s' = true := fun w hw => vx_ot_at hW0 hvm.symm (hgood w (List.mem_cons_of_mem _ (List.mem_cons_of_mem _ hw))) (hat w hw)
  have hk' : (Cond.classLink own ik cls).before args s' = true := vx_ot_at hW0 hvm.symm (hgood _ List.mem_cons_self) hk
  have hini' : (Cond.initialized cls).before args s' = true := vx_ot_at hW0 hvm.symm (hgood _ (List.mem_cons_of_mem _ List.mem_cons_self)) hini
  have hU' : vx_Zq Bundle.tN "UNASSIGNED_STACK" Bundle.steD A s' s'.heap := by rw [hhp]; exact vx_Zq.moved hW0.alike (hU.kept hS.2.1)
  have hN' : vx_Zq Bundle.tN "SUPPRESSED_SENTINEL" Bundle.listD A s' s'.heap := by rw [hhp]; exact vx_Zq.moved hW0.alike (hN.kept hS.2.1)
  have h : ∀ w ∈ Bundle.ownAtoms own ic cls names, w.before args s' = true := vx_own hat' (vx_isRefq hU'.1) (vx_isRefq hN'.1) hU'.2.word hN'.2.word
  have hown' : s'.vm.findClass own = some m.cls := by rw [hvm]; exact hown
  have hins : (Cond.instantiable cls 6).before args s' = true := h _ (by simp [Bundle.ownAtoms])
  obtain ⟨vm₁, cX, kX, hfX, hkX, -, -, X₁, st1⟩ := Y.newCold hexec (own := own) (C := cls) (index := ik) (n := 6) hown' hk' hins hini'
    (g := F0 m pc ls rest) rfl (by rw [hb]; exact d0) (Nat.le_refl _) (Nat.le_refl _)
  generalize hT1 : (T.setVm vm₁).pushCell { cls := cX, slots := kX.instanceTypes.map defaultValue, vm := .none } = T1 at X₁ st1
  have hcat : (Value.ref T.heap.size).category = 1 := rfl
  have hcellA : T1.heap[T.heap.size]? = some (freshCell cX kX) := by rw [← hT1]; exact State.heap_pushCell_size _ _
  have d3' : decode c.code (pc + 3) = .ok (.dup, 1) := by rw [hb]; exact d3
  have d4' : decode c.code (pc + 4) = .ok (.ldc_w is, 3) := by rw [hb]; exact d4
  have hstr' : vk_R own is text sa s' := vk_R.warm hW0 hstr
  obtain ⟨U, hsteps, hrun, hend, hW, hsame, ce, hce, hO⟩ := X₁.ctorThrowS hexec htr (own := own) (cls := cls) (names := names) (ic := ic) hown' hcls hnames h (fun x hx => nomatch hx) hfX hkX hcellA (by rw [hhp, hT]; exact Nat.le_refl _) (msg := .ref sa) rfl
    (g := { method := m, pc := pc + 7, locals := ls, stack := .ref sa :: .ref T.heap.size :: .ref T.heap.size :: rest, locked := none }) rfl hsize rfl rfl (rest := rest) rfl
    (by rw [hb]; exact d7) (by rw [hb]; exact d10) hout hRframes (by simp only [List.map_cons, List.sum_cons, hcat]; omega) hlocks
  obtain ⟨f1, f2⟩ := vx_frame hsame
  rw [hhp] at f1 f2
  have hWs : s.WarmedH U.vm := State.WarmedH.trans hW0 hW
  have hcl : s.vm.findClass cls = some ce.cls := by
    have h9 := hO.cls
    rw [hvm] at h9
    exact h9
  have hall : s.sameButNew ({ U with vm := s.vm } : State) locs mc ms := by
    subst hA
    obtain ⟨e1, e2⟩ := hsame
    rw [State.setFrames_setFrames] at e1
    have h2 : (T.setVm s.vm).sameButNew ({ U with vm := s.vm } : State) [] (0 + 1) (0 + 6) := ⟨e1, e2⟩
    have h3 := X.same.trans h2
    rw [List.append_nil] at h3
    exact h3.mono hc hs
  refine ⟨U, ?_, .threw T.heap.size, hrun, hend, Or.inr ⟨T.heap.size, rfl, cls, ce, locs, hx U hWs.alike f1 (fun q hq => f2 q hq (fun z hz => nomatch hz)), hce, hO.vm, hcl, hWs, hall, hf⟩⟩
  refine st1 _ ?_
  show Steps p.tables e below (T1.setTop { method := m, pc := pc + 3, locals := ls, stack := .ref T.heap.size :: rest, locked := none }) _
  jvm_step X₁.here [X₁.here.top, hexec, d3', Value.category]
  exact X₁.ldcStringW hexec (own := own) (text := text) (index := is) (a := sa) hown' hstr'.1 hstr'.2
    (g := { method := m, pc := pc + 4, locals := ls, stack := .ref T.heap.size :: .ref T.heap.size :: rest, locked := none }) rfl d4' _ hsteps
end Ends
section Bodies
variable {l : Launch}
theorem vx_ofW {y : MethodName} {ws ws' : List Cond} {rm : Room} {Pc : Array Value → State → Prop} {Qc : Array Value → State → Outcome → State → Prop} {XC : String → State → State → Prop} {mc ms : Nat} {free : Addr → Prop} {cc : ByteArray} {maxL : Nat} {ret : Option FieldType}
    (hy : plainName y.cls = true) (hw : ws = Cond.code y cc maxL ret :: ws')
    (body : ∀ p e s m args below meth c s₁, BodyLoose p l y (headSpec ws rm) cc maxL ret e s m args below meth c s₁ → c.maxLocals = maxL → (∀ x ∈ c.exceptionTable.toList, False) → Pc args s →
      W p l e (headSpec ws rm).room s m args below meth c s.heap [] 0 0 (vx_MQ below Qc XC args s mc ms free) (entryFrame m args maxL)) : vx_Met l y ws rm Pc Qc XC mc ms free := by
  refine MetFree.of_bodyS (code := cc) (maxLocals := maxL) (ret := ret) hy ?_ ?_
  · intro args s m h hn
    obtain ⟨meth, c, h1, h2, h3, h4, h5, h6, -, -⟩ := Cond.code_spec hn (atoms_spec (ws := ws) h _ (by rw [hw]; exact List.mem_cons_self))
    exact ⟨meth, c, h1, h2, h3, h4, h5, h6⟩
  · intro p e s m args below meth c s₁ B hml hP _
    have hh0 : s₁.heap = s.heap := by rw [B.state]; rfl
    have ht : ∀ x ∈ c.exceptionTable.toList, False := by
      obtain ⟨meth9, c9, h1, h2, -, -, -, -, h7, -⟩ := Cond.code_spec B.named (atoms_spec (ws := ws) B.pre _ (by rw [hw]; exact List.mem_cons_self))
      cases Option.some.inj (h1.symm.trans B.method)
      cases Option.some.inj (h2.symm.trans (Stand.of_body B).code)
      intro x hx
      rw [Array.isEmpty_iff.mp h7] at hx
      cases hx
    obtain ⟨t, a1, o, b1, b2, b3⟩ := body p e s m args below meth c s₁ B hml ht hP s₁ hh0 (Stand.of_body B)
    exact ⟨t, o, a1, b1, b2, b3⟩
/-- the table of a body with handlers -/
theorem vx_table {p : Program} {x y : MethodName} {S : Spec} {cc bytes : ByteArray} {maxL maxL' : Nat} {ret ret' : Option FieldType} {e : Env} {s s₁ : State} {m : MethodId} {args : Array Value} {below : List Frame} {meth : Method} {c : Code} {hh : List (Nat × Nat × Nat × Nat)}
    (B : BodyLoose p l y S cc maxL ret e s m args below meth c s₁) (h : (Cond.codeWith y bytes maxL' ret' hh).before args s = true) : c.exceptionTable.toList = tableOf hh := by
  obtain ⟨m9, meth9, c9, hn9, h1, h2, -, -, h6, -⟩ := Cond.codeWith_spec h
  cases Option.some.inj (hn9.symm.trans B.named)
  cases Option.some.inj (h1.symm.trans B.method)
  cases Option.some.inj (h2.symm.trans (Stand.of_body B).code)
  rw [← h6, table_eq]
end Bodies
end VXA
/-! ===== END ===== -/
/-! ===== BEGIN a static call of a method with an exception table ===== -/
section VXS
variable {p : Program} {l : Launch} {e : Env} {R : Room} {s : State} {m : MethodId} {args : Array Value} {below : List Frame} {meth : Method} {c : Code} {T : State} {H : Heap} {locs : List Loc} {cells slots : Nat}
abbrev vx_CSW (R : Room) (s : State) (args : Array Value) (own : String) (index : Nat) (y : MethodName) (bytes : ByteArray) (maxL : Nat) (ret : Option FieldType) (hh : List (Nat × Nat × Nat × Nat)) (ws : List Cond) (rm : Room) (mc ms n : Nat) : Prop :=
  (rm.cells = mc ∧ rm.slots = ms ∧ rm.frames + 1 ≤ R.frames ∧ 8 + (maxL + 11) + rm.locals ≤ R.locals ∧ (∀ w ∈ ws, ∀ (a' : Array Value) (U : State), s.WarmedH U.vm → w.before a' U = true) ∧ Cond.codeWith y bytes maxL ret hh ∈ ws) ∧
  (Cond.codeWith y bytes maxL ret hh).before args s = true ∧ (Cond.initialized y.cls).before args s = true ∧ (y.cls ≠ "java/lang/invoke/MethodHandle" ∧ y.cls ≠ "java/lang/invoke/VarHandle") ∧
  (∀ sig, parseMethodDescriptor y.desc = some sig → n = sig.parameters.length) ∧ (Cond.methodLink own index y).before args s = true ∧ (Cond.static y).before args s = true
theorem vx_cwSW {own : String} {index maxL mc ms : Nat} {y : MethodName} {bytes : ByteArray} {ret : Option FieldType} {hh : List (Nat × Nat × Nat × Nat)} {Ts ws ws' : List Cond} {rm : Room} (n : Nat) (ht : ∀ w ∈ Ts, w.before args s = true) (hT : GoodIn Ts (va_wsS own index y ws)) (hw : ws = Cond.codeWith y bytes maxL ret hh :: ws') (hrc : rm.cells = mc) (hrs : rm.slots = ms)
    (hd : y.cls ≠ "java/lang/invoke/MethodHandle" ∧ y.cls ≠ "java/lang/invoke/VarHandle" ∧ (parseMethodDescriptor y.desc).map (fun d => d.parameters.length) = some n) (hR : rm.frames + 1 ≤ R.frames ∧ 8 + (maxL + 11) + rm.locals ≤ R.locals) :
    vx_CSW R s args own index y bytes maxL ret hh ws rm mc ms n := by
  have ok : ∀ w ∈ va_wsS own index y ws, w.before args s = true := fun w h => ht w (hT w h).1
  have hG : GoodIn Ts ws := fun w h => hT w (by unfold va_wsS; exact List.mem_append_right _ h)
  have hc : Cond.codeWith y bytes maxL ret hh ∈ ws := by rw [hw]; exact List.mem_cons_self
  refine ⟨⟨hrc, hrs, hR.1, hR.2, pay_in ht hG, hc⟩, ht _ (hG _ hc).1, ok _ (by simp [va_wsS]), ⟨hd.1, hd.2.1⟩, fun sig h => ?_, ok _ (by simp [va_wsS]), ok _ (by simp [va_wsS])⟩
  have h2 := hd.2.2
  rw [h] at h2
  exact (Option.some.inj h2).symm
theorem vx_callSW (X : Stand p l e R s m args below meth c T locs cells slots) (hexec : p.tables.exec = Jvm.exec) {own : String} {index : Nat} {y : MethodName} {bytes : ByteArray} {maxL : Nat} {ret : Option FieldType} {hh : List (Nat × Nat × Nat × Nat)}
    (hown : s.vm.findClass own = some m.cls) (hlink : (Cond.methodLink own index y).before args s = true) (hstat : (Cond.static y).before args s = true) (hinit : (Cond.initialized y.cls).before args s = true)
    (hcode : (Cond.codeWith y bytes maxL ret hh).before args s = true) (hy : y.cls ≠ "java/lang/invoke/MethodHandle" ∧ y.cls ≠ "java/lang/invoke/VarHandle")
    {W9 : Nat} {Pre : Pt → Array Value → Prop} {Post : Pt → Array Value → Option Value → Pt → Prop} (hK : Back l R p e below s args y 3 W9 Pre Post)
    {g : JFrame} (hg : g.method = m) (hsize : g.locals.size = c.maxLocals) {argsL rest : List Value} (hlen : ∀ sig, parseMethodDescriptor y.desc = some sig → argsL.length = sig.parameters.length)
    (hstack : g.stack = argsL.reverse ++ rest) (hW : 2 * g.monitorRoom + (rest.map fun v => v.category).sum ≤ W9) (hdg : decode c.code g.pc = .ok (.invokestatic index, 3))
    (hpre : ∀ vm₁, s.WarmedH vm₁ → Pre ⟨T.setVm vm₁, locs, cells, slots⟩ argsL.toArray) :
    ∃ (v : Option Value) (vm₁ : Vm) (B : Pt), s.WarmedH vm₁ ∧ Stand p l e R s m args below meth c B.U B.locs B.cells B.slots ∧ Post ⟨T.setVm vm₁, locs, cells, slots⟩ argsL.toArray v B ∧
      ∀ target, Steps p.tables e below (B.U.setTop { g with pc := g.pc + 3, stack := v.toList ++ rest }) target → Steps p.tables e below (T.setTop g) target := by
  obtain ⟨mk, methM, cM, hnamed, hmethM, -, -, -, -, -, -, hsigM⟩ := Cond.codeWith_spec hcode
  have hstatic : methM.isStatic = true := Cond.static_spec hnamed hmethM hstat
  obtain ⟨kP, hkP, -⟩ := className_of_methodNamed hnamed
  have hinitP : kP.init = .initialized := Cond.initialized_spec (findClass_of_methodNamed hnamed) hkP hinit
  obtain ⟨vm₁, X₁, hstep₁⟩ := X.invokestatic hexec hown hlink hnamed hmethM hstatic hkP hinitP hy (g := g) hg (argsL := argsL) (rest := rest) (hlen _ hsigM) hstack hdg
  obtain ⟨v, B, X', hpost, hsteps⟩ := hK m meth c ⟨T.setVm vm₁, locs, cells, slots⟩ { g with stack := rest } (.invokestatic index) mk argsL.toArray X₁ hg hsize hdg hW (X₁.named hnamed) (hpre vm₁ X₁.warmed)
  exact ⟨v, vm₁, B, X₁.warmed, X', hpost, fun target h => hstep₁ _ fun acts => by rw [doInvoke_state]; exact hsteps.trans h⟩
theorem vx_runSW {y : MethodName} {bytes cc : ByteArray} {maxL nL mc ms n index : Nat} {ret : Option FieldType} {hh : List (Nat × Nat × Nat × Nat)} {ws : List Cond} {rm : Room} {Pc : Array Value → State → Prop} {Qc : Array Value → State → Outcome → State → Prop} {free : Addr → Prop} {Ts : List Cond} {own : String} {As rest : List Value} {g : JFrame}
    (S : CallFix p m c cc nL s args Ts own) (hM : Met l y ws rm Pc Qc mc ms free) (cw : vx_CSW R s args own index y bytes maxL ret hh ws rm mc ms n) (hp : PreS s H Pc As)
    (hg : g.method = m) (hn : As.length = n) (hsize : g.locals.size = nL) (hstack : g.stack = As.reverse ++ rest) (hW : 2 * g.monitorRoom + (rest.map fun v => v.category).sum ≤ 8) (hdg : decode cc g.pc = .ok (.invokestatic index, 3)) (hf : cells + mc ≤ R.cells ∧ slots + ms ≤ R.slots) :
    va_Run p l e R s m args below meth c H locs cells slots mc ms g rest (Qc As.toArray) (free) := by
  obtain ⟨⟨hrc, hrs, hfr, hlo, hws, hcw⟩, hcode, hini, hy, hlen, hl, hstt⟩ := cw
  have hK : Back l R p e below s args y 3 8 (PreOf R mc ms Pc) (PostOf Qc mc ms free) := va_backW (hh := hh) (bytes := bytes) (maxL := maxL) (ret := ret) hM hp.1 hrc hrs hfr hlo hws hcw (fun a' U hW => word_at hW (Or.inl (by first | rfl | simp [Cond.onTables, Cond.keeps, Cond.steady])) hini)
  obtain ⟨hx, hb, hml, ho, -⟩ := S
  intro T hT X
  obtain ⟨v, vm₁, ⟨U', l2, c2, s2⟩, hW₁, X', ⟨g', mk, t, L, e1, e2, hq, h1, hL, h2, h3⟩, st⟩ := vx_callSW X hx (hh := hh) (bytes := bytes) (maxL := maxL) (ret := ret) ho hl hstt hini hcode hy hK hg (hsize.trans hml.symm) (argsL := As) (rest := rest) (fun sig h => hn.trans (hlen sig h)) hstack hW (by rw [hb]; exact hdg)
    (fun vm₁ hW₁ => ⟨hf.1, hf.2, hp.2 (T.setVm vm₁) hT hW₁⟩)
  dsimp only [Pt.U, Pt.locs, Pt.cells, Pt.slots] at X' e1 e2 h1 h2 h3 st
  subst h1; subst h2; subst h3
  exact ⟨v, (T.setVm vm₁).calling g' mk As.toArray, t, U', L, hT, X', hL, e1, e2, hq, st⟩
/-- not caught here, past rows that name other classes: it goes on to the caller -/
theorem vx_outP {p : Program} {l : Launch} {e : Env} {R : Room} {s : State} {m : MethodId} {args : Array Value} {below : List Frame} {meth : Method} {c : Code} {H : Heap} {locs : List Loc} {cells slots : Nat} {free : Addr → Prop} {ls : Array Slot} {rest : List Value} {Qc : Array Value → State → Outcome → State → Prop} {XC : String → State → State → Prop}
    {pc : Nat} {own E : String} {ce : Cell} {q : Addr} {mc ms : Nat} (hown : s.vm.findClass own = some m.cls) (hlocks : meth.locks = false)
    (hpass : ∀ z ∈ c.exceptionTable.toList, covers z pc = false ∨ (z.catchType ≠ 0 ∧ ∃ nm : String, (Cond.classLink own z.catchType nm).before args s = true ∧ va_Nc E nm s)) (hcell : H[q]? = some ce) (hv : ce.vm = .none) (hcl : s.vm.findClass E = some ce.cls)
    (hx : ∀ t : State, t.heap = H → s.vm.Alike t.vm → XC E s t) (hf : ∀ z ∈ locs, free z.base) (hc : cells ≤ mc) (hs : slots ≤ ms) :
    vx_W p l e R s m args below meth c H locs cells slots (vx_MQ below Qc XC args s mc ms free) (F0 m pc ls rest) q := by
  intro T hT X
  have hpl : e.platform.magicAccessors = ({} : Platform).magicAccessors := by rw [X.admits.platform]
  obtain ⟨vm', hW', X', st⟩ := X.outThrough hlocks q (g := F0 m pc ls rest) rfl rfl rfl (cell := ce) (by rw [hT]; exact hcell) (by rw [hv]; rfl)
    (by obtain ⟨k9, h9, -⟩ := Vm.findClass_spec hcl; exact ⟨k9, h9⟩) (fun z hz => by
      rcases hpass z hz with h | ⟨hz0, nm, hl1, hn1⟩
      · exact Or.inl h
      · obtain ⟨c6, hc6, hcl6⟩ := Cond.classLink_spec hown hl1 e.platform hpl
        obtain ⟨a8, b8, h1, h2, h3⟩ := hn1
        cases Option.some.inj (h1.symm.trans hcl)
        cases Option.some.inj (h2.symm.trans hc6)
        exact Or.inr ⟨hz0, _, hcl6, h3⟩)
  obtain ⟨g₀, hfr⟩ := X'.frames_eq
  have hcell9 : ((T.setVm vm').setFrames (.throwing q :: below)).heap[q]? = some ce := by
    show T.heap[q]? = some ce
    rw [hT]; exact hcell
  have hend : Ended ((T.setVm vm').setFrames (.throwing q :: below)) below (.threw q) := State.frames_setFrames _ (State.cur_lt_of_frames hfr)
  refine ⟨(T.setVm vm').setFrames (.throwing q :: below), ?_, .threw q, X'.here.running, hend, Or.inr ⟨q, rfl, E, ce, locs, hx _ hT (X'.ends _).1.alike, hcell9, hv, hcl, (X'.ends _).1, (X'.ends _).2.mono hc hs, hf⟩⟩
  rw [X.pushThrowing_eq]
  exact st
/-- a thing of a world lies in the heap -/
theorem vx_lt {D : va_G} {cl : List vw_C} {ws : va_W} {H1 : Heap} (h : va_P D cl ws H1) {k : Nat} {q : Nat × va_E} (hk : ws[k]? = some q) : q.1 < H1.size := (h k q hk).lt
end VXS
/-! ===== END ===== -/
/-! ===== BEGIN methods with a table of their own: called by a name, returning or throwing ===== -/
section VXH
/-! vx_backW, vx_callVX, vx_callSX, vx_callVW, vx_runVW, vx_runVX, vx_runSX, vx_ofWH follow the same proofs as their sisters above (Free/Laws.lean, Shelf42/LK1.lean); vx_outP calls Shelf42/NT130.lean (outThrough). -/
section
variable {l : Launch} {R : Room} {p : Program} {e : Env} {below : List Frame} {s : State} {sargs : Array Value} {y : MethodName} {len W9 : Nat}
theorem vx_backW {ws : List Cond} {rm : Room} {Pc : Array Value → State → Prop} {Qc : Array Value → State → Outcome → State → Prop} {XC : String → State → State → Prop} {mc ms : Nat} {free : Addr → Prop} {bytes : ByteArray} {maxL : Nat} {ret : Option FieldType} {hh : List (Nat × Nat × Nat × Nat)}
    (hM : vx_Met l y ws rm Pc Qc XC mc ms free) (hblind : FrameBlind Pc) (hrc : rm.cells = mc) (hrs : rm.slots = ms)
    (hframes : rm.frames + 1 ≤ R.frames) (hlocals : W9 + (maxL + 11) + rm.locals ≤ R.locals)
    (hws : ∀ w ∈ ws, ∀ a' U, s.WarmedH U.vm → w.before a' U = true) (hcode : Cond.codeWith y bytes maxL ret hh ∈ ws) (hinit : ∀ a' U, s.WarmedH U.vm → (Cond.initialized y.cls).before a' U = true) :
    vx_Back l R p e below s sargs y len W9 (PreOf R mc ms Pc) (PostOf Qc mc ms free) (vx_Post XC mc ms free) := by
  intro m meth c A g ig mk a X hg hsize hdg hW hn hp
  have h1 : (headSpec ws rm).pre.before a A.U = true := atoms_intro fun w hw => hws w hw _ _ X.warmed
  have h2 : (Cond.codeWith y bytes maxL ret hh).before a A.U = true := hws _ hcode _ _ X.warmed
  have h3 : (Cond.initialized y.cls).before a A.U = true := hinit _ _ X.warmed
  have h4 : A.cells + (headSpec ws rm).room.cells ≤ R.cells := by rw [show (headSpec ws rm).room.cells = mc from hrc]; exact hp.1
  have h5 : A.slots + (headSpec ws rm).room.slots ≤ R.slots := by rw [show (headSpec ws rm).room.slots = ms from hrs]; exact hp.2.1
  have hPc : Pc a (A.U.calling g mk a) := hblind _ _ _ _ hp.2.2
  obtain ⟨U, Ls, c0, s0⟩ := A
  dsimp only [Pt.U, Pt.locs, Pt.cells, Pt.slots] at h1 h2 h3 h4 h5 X hn hPc ⊢
  obtain ⟨m9, methY, cY, hn9, hmY, hcY, -, hlY, -⟩ := Cond.codeWith_spec h2
  cases Option.some.inj (hn9.symm.trans hn)
  obtain ⟨kY, hkY, -⟩ := className_of_methodNamed hn
  have hinitY : kY.init = .initialized := Cond.initialized_spec (findClass_of_methodNamed hn) hkY h3
  have h : At U g.method c below := by rw [hg]; exact X.here
  have hlocals9 : W9 + (maxL + 11) + (headSpec ws rm).room.locals ≤ R.locals := hlocals
  have happ : (headSpec ws rm).appliesLoose y e.platform (U.calling g mk a) = true :=
    Spec.appliesLoose_calling (g := g) h hdg hn hkY hinitY
      (X.room_calling (g := g) (R' := (headSpec ws rm).room) hsize hmY hcY hframes (by rw [hlY]; omega) h4 h5) h1
  obtain ⟨mid, hmid⟩ := h.above
  have hfr : (U.setTop g).frames = (.java g :: mid) ++ below := by rw [State.frames_setTop' g h.top, hmid]; rfl
  obtain ⟨o, s₂, hsteps, -, hend, hq⟩ := Steps.callFree hM p X.admits X.cas X.clock (acts := []) hfr happ hPc trivial
  have hq' : vx_Q Qc XC mc ms free a (U.calling g mk a) o s₂ := hq
  rw [State.frames_setTop' g h.top] at hend
  obtain ⟨g₀, hg0⟩ := Option.isSome_iff_exists.mp h.top
  obtain ⟨r, hr⟩ := State.topJava?_eq_some.mp hg0
  have hr' : (({ U with heap := s₂.heap, slotsUsed := s₂.slotsUsed } : State).setVm s₂.vm).frames = .java g₀ :: r := hr
  rcases hq' with ⟨hqc, L, hfe, hL⟩ | ⟨q, rfl, E, ce, L, hx, hce, hcv, hcl, hW₂, hsm, hL⟩
  · obtain ⟨⟨v, rfl⟩, hW₂, e2, q2, q3, q4, q5, q6⟩ := id hfe
    have e3 : s₂ = ({ (U.calling g mk a).setFrames s₂.frames with heap := s₂.heap, slotsUsed := s₂.slotsUsed } : State).setVm s₂.vm := by
      have : s₂ = ({ s₂ with vm := (U.calling g mk a).vm } : State).setVm s₂.vm := rfl
      rw [e2] at this
      exact this
    obtain ⟨c₂, i₂, len₂, hc₂, hd₂, hf₂⟩ := hend
    have hW' : U.WarmedH s₂.vm := hW₂
    have hcc : c₂ = c := by
      have h1 : s₂.code? g.method = U.code? g.method := by
        rw [State.code?_eq, State.code?_eq, hW'.alike.method?]
      exact Option.some.inj (hc₂.symm.trans (h1.trans h.code))
    subst hcc
    have hlen : len₂ = len := by rw [hdg] at hd₂; cases hd₂; rfl
    subst hlen
    have hs₂ : s₂ = (({ U with heap := s₂.heap, slotsUsed := s₂.slotsUsed } : State).setVm s₂.vm).setTop { g with pc := g.pc + len₂, stack := v.toList ++ g.stack } := by
      refine e3.trans ?_
      rw [hf₂, State.calling_eq h.top, State.setFrames_setFrames, State.setTop_of_frames _ hr', hr]
      rfl
    have hsame : U.sameButNew ({ U with heap := s₂.heap, slotsUsed := s₂.slotsUsed } : State) L mc ms := by
      refine ⟨?_, q2, q3, q4, q5, q6⟩
      obtain ⟨t, ht, -⟩ := State.frames_cons hr
      show ({ U with heap := s₂.heap, slotsUsed := s₂.slotsUsed } : State) = { U.setFrames U.frames with heap := s₂.heap, slotsUsed := s₂.slotsUsed }
      rw [State.setFrames_self ht]
    subst hg
    refine Or.inl ⟨v, ⟨(({ U with heap := s₂.heap, slotsUsed := s₂.slotsUsed } : State).setVm s₂.vm), Ls ++ L, c0 + mc, s0 + ms⟩,
      ⟨X.admits, X.cas, X.clock, X.frames, X.room, X.hears, X.method, X.code, (X.here.setHeapUsed s₂.heap s₂.slotsUsed).setVm hW'.alike, X.tail, State.WarmedH.trans X.warmed hW', X.limits, X.bytes, X.same.trans (hsame.setVm s.vm)⟩,
      ⟨g, mk, s₂, L, rfl, rfl, hqc, rfl, hL, rfl, rfl⟩, ?_⟩
    show Steps p.tables e below _ ((({ U with heap := s₂.heap, slotsUsed := s₂.slotsUsed } : State).setVm s₂.vm).setTop { g with pc := g.pc + len₂, stack := v.toList ++ g.stack })
    rw [← hs₂]
    exact hsteps
  · obtain ⟨e2, q2, q3, q4, q5, q6⟩ := id hsm
    have e3 : s₂ = ({ (U.calling g mk a).setFrames s₂.frames with heap := s₂.heap, slotsUsed := s₂.slotsUsed } : State).setVm s₂.vm := by
      have : s₂ = ({ s₂ with vm := (U.calling g mk a).vm } : State).setVm s₂.vm := rfl
      rw [e2] at this
      exact this
    have hf₂ : s₂.frames = .throwing q :: .java g :: U.frames.tail := hend
    have hW' : U.WarmedH s₂.vm := hW₂
    have hs₂ : s₂ = ((({ U with heap := s₂.heap, slotsUsed := s₂.slotsUsed } : State).setVm s₂.vm).setTop g).pushFrame (.throwing q) := by
      refine e3.trans ?_
      rw [hf₂, State.calling_eq h.top, State.setFrames_setFrames, State.pushFrame, State.frames_setTop _ hr', State.setTop_of_frames _ hr', State.setFrames_setFrames, hr]
      rfl
    have hsame : U.sameButNew ({ U with heap := s₂.heap, slotsUsed := s₂.slotsUsed } : State) L mc ms := by
      refine ⟨?_, q2, q3, q4, q5, q6⟩
      obtain ⟨t, ht, -⟩ := State.frames_cons hr
      show ({ U with heap := s₂.heap, slotsUsed := s₂.slotsUsed } : State) = { U.setFrames U.frames with heap := s₂.heap, slotsUsed := s₂.slotsUsed }
      rw [State.setFrames_self ht]
    subst hg
    refine Or.inr ⟨q, ⟨(({ U with heap := s₂.heap, slotsUsed := s₂.slotsUsed } : State).setVm s₂.vm), Ls ++ L, c0 + mc, s0 + ms⟩,
      ⟨X.admits, X.cas, X.clock, X.frames, X.room, X.hears, X.method, X.code, (X.here.setHeapUsed s₂.heap s₂.slotsUsed).setVm hW'.alike, X.tail, State.WarmedH.trans X.warmed hW', X.limits, X.bytes, X.same.trans (hsame.setVm s.vm)⟩,
      ⟨g, mk, s₂, L, E, ce, rfl, rfl, hx, hce, hcv, hcl, rfl, hL, rfl, rfl⟩, ?_⟩
    show Steps p.tables e below _ (((({ U with heap := s₂.heap, slotsUsed := s₂.slotsUsed } : State).setVm s₂.vm).setTop g).pushFrame (.throwing q))
    rw [← hs₂]
    exact hsteps
end
variable {p : Program} {l : Launch} {e : Env} {R : Room} {s : State} {m : MethodId} {args : Array Value} {below : List Frame} {meth : Method} {c : Code} {T : State} {H : Heap} {locs : List Loc} {cells slots : Nat}
theorem vx_callVX (X : Stand p l e R s m args below meth c T locs cells slots) (hexec : p.tables.exec = Jvm.exec) {own C : String} {index : Nat} {y : MethodName} {bytes : ByteArray} {maxL : Nat} {ret : Option FieldType} {hh : List (Nat × Nat × Nat × Nat)}
    (hown : s.vm.findClass own = some m.cls) (hlink : (Cond.methodLink own index y).before args s = true) (hinst : (Cond.instanceMethod y).before args s = true) (hsel : (Cond.selects C y y).before args s = true)
    (hcode : (Cond.codeWith y bytes maxL ret hh).before args s = true) (hy : y.cls ≠ "java/lang/invoke/MethodHandle" ∧ y.cls ≠ "java/lang/invoke/VarHandle")
    {W9 : Nat} {Pre : Pt → Array Value → Prop} {Post : Pt → Array Value → Option Value → Pt → Prop} {PostX : Pt → Array Value → Addr → Pt → Prop} (hK : vx_Back l R p e below s args y 3 W9 Pre Post PostX)
    {b : Addr} {cellB : Cell} (hcell : T.heap[b]? = some cellB) (hobj : cellB.vm.isStatics = false) (hcls : s.vm.findClass C = some cellB.cls)
    {g : JFrame} (hg : g.method = m) (hsize : g.locals.size = c.maxLocals) {argsL rest : List Value} (hlen : ∀ sig, parseMethodDescriptor y.desc = some sig → argsL.length = sig.parameters.length)
    (hstack : g.stack = argsL.reverse ++ .ref b :: rest) (hW : 2 * g.monitorRoom + (rest.map fun v => v.category).sum ≤ W9) (hdg : decode c.code g.pc = .ok (.invokevirtual index, 3))
    (hpre : ∀ vm₁, s.WarmedH vm₁ → Pre ⟨T.setVm vm₁, locs, cells, slots⟩ (Value.ref b :: argsL).toArray) :
    (∃ (v : Option Value) (vm₁ : Vm) (B : Pt), s.WarmedH vm₁ ∧ Stand p l e R s m args below meth c B.U B.locs B.cells B.slots ∧ Post ⟨T.setVm vm₁, locs, cells, slots⟩ (Value.ref b :: argsL).toArray v B ∧
      ∀ target, Steps p.tables e below (B.U.setTop { g with pc := g.pc + 3, stack := v.toList ++ rest }) target → Steps p.tables e below (T.setTop g) target) ∨
    (∃ (q : Addr) (vm₁ : Vm) (B : Pt), s.WarmedH vm₁ ∧ Stand p l e R s m args below meth c B.U B.locs B.cells B.slots ∧ PostX ⟨T.setVm vm₁, locs, cells, slots⟩ (Value.ref b :: argsL).toArray q B ∧
      Steps p.tables e below (T.setTop g) ((B.U.setTop { g with stack := rest }).pushFrame (.throwing q))) := by
  obtain ⟨mk, methM, hnamed, hmethM, hstM, habM⟩ := Cond.instanceMethod_spec hinst
  obtain ⟨m8, methM', cM, hn8, hmethM', -, -, -, -, -, -, hsigM⟩ := Cond.codeWith_spec hcode
  cases Option.some.inj (hn8.symm.trans hnamed)
  cases hmethM.symm.trans hmethM'
  obtain ⟨c2, r2, m2, q1, q2, q3, q4, kP, hkP, hkPi⟩ := Cond.selects_spec hsel
  cases hcls.symm.trans q1
  cases (State.methodFound?_of_named hnamed hy).symm.trans q2
  cases hnamed.symm.trans q3
  have hselP : selectMethod e.platform s.vm cellB.cls mk = .method mk := by rw [Launch.admits_selectMethod X.admits]; exact q4
  obtain ⟨vm₁, X₁, hstep₁⟩ := X.invokevirtual hexec hown hlink hnamed hmethM hstM hkP hkPi hy (a := b) (cell := cellB) hcell
    (fun z h => by rw [h] at hobj; cases hobj) hselP hmethM habM hkP hkPi (g := g) hg (argsL := argsL) (rest := rest) (hlen _ hsigM) hstack hdg
  rcases hK m meth c ⟨T.setVm vm₁, locs, cells, slots⟩ { g with stack := rest } (.invokevirtual index) mk (Value.ref b :: argsL).toArray X₁ hg hsize hdg hW (X₁.named hnamed) (hpre vm₁ X₁.warmed) with ⟨v, B, X', hpost, hsteps⟩ | ⟨q, B, X', hpost, hsteps⟩
  · exact Or.inl ⟨v, vm₁, B, X₁.warmed, X', hpost, fun target h => hstep₁ _ fun acts => by rw [doInvoke_state]; exact hsteps.trans h⟩
  · exact Or.inr ⟨q, vm₁, B, X₁.warmed, X', hpost, hstep₁ _ fun acts => by rw [doInvoke_state]; exact hsteps⟩
theorem vx_callSX (X : Stand p l e R s m args below meth c T locs cells slots) (hexec : p.tables.exec = Jvm.exec) {own : String} {index : Nat} {y : MethodName} {bytes : ByteArray} {maxL : Nat} {ret : Option FieldType} {hh : List (Nat × Nat × Nat × Nat)}
    (hown : s.vm.findClass own = some m.cls) (hlink : (Cond.methodLink own index y).before args s = true) (hstat : (Cond.static y).before args s = true) (hinit : (Cond.initialized y.cls).before args s = true)
    (hcode : (Cond.codeWith y bytes maxL ret hh).before args s = true) (hy : y.cls ≠ "java/lang/invoke/MethodHandle" ∧ y.cls ≠ "java/lang/invoke/VarHandle")
    {W9 : Nat} {Pre : Pt → Array Value → Prop} {Post : Pt → Array Value → Option Value → Pt → Prop} {PostX : Pt → Array Value → Addr → Pt → Prop} (hK : vx_Back l R p e below s args y 3 W9 Pre Post PostX)
    {g : JFrame} (hg : g.method = m) (hsize : g.locals.size = c.maxLocals) {argsL rest : List Value} (hlen : ∀ sig, parseMethodDescriptor y.desc = some sig → argsL.length = sig.parameters.length)
    (hstack : g.stack = argsL.reverse ++ rest) (hW : 2 * g.monitorRoom + (rest.map fun v => v.category).sum ≤ W9) (hdg : decode c.code g.pc = .ok (.invokestatic index, 3))
    (hpre : ∀ vm₁, s.WarmedH vm₁ → Pre ⟨T.setVm vm₁, locs, cells, slots⟩ argsL.toArray) :
    (∃ (v : Option Value) (vm₁ : Vm) (B : Pt), s.WarmedH vm₁ ∧ Stand p l e R s m args below meth c B.U B.locs B.cells B.slots ∧ Post ⟨T.setVm vm₁, locs, cells, slots⟩ argsL.toArray v B ∧
      ∀ target, Steps p.tables e below (B.U.setTop { g with pc := g.pc + 3, stack := v.toList ++ rest }) target → Steps p.tables e below (T.setTop g) target) ∨
    (∃ (q : Addr) (vm₁ : Vm) (B : Pt), s.WarmedH vm₁ ∧ Stand p l e R s m args below meth c B.U B.locs B.cells B.slots ∧ PostX ⟨T.setVm vm₁, locs, cells, slots⟩ argsL.toArray q B ∧
      Steps p.tables e below (T.setTop g) ((B.U.setTop { g with stack := rest }).pushFrame (.throwing q))) := by
  obtain ⟨mk, methM, cM, hnamed, hmethM, -, -, -, -, -, -, hsigM⟩ := Cond.codeWith_spec hcode
  have hstatic : methM.isStatic = true := Cond.static_spec hnamed hmethM hstat
  obtain ⟨kP, hkP, -⟩ := className_of_methodNamed hnamed
  have hinitP : kP.init = .initialized := Cond.initialized_spec (findClass_of_methodNamed hnamed) hkP hinit
  obtain ⟨vm₁, X₁, hstep₁⟩ := X.invokestatic hexec hown hlink hnamed hmethM hstatic hkP hinitP hy (g := g) hg (argsL := argsL) (rest := rest) (hlen _ hsigM) hstack hdg
  rcases hK m meth c ⟨T.setVm vm₁, locs, cells, slots⟩ { g with stack := rest } (.invokestatic index) mk argsL.toArray X₁ hg hsize hdg hW (X₁.named hnamed) (hpre vm₁ X₁.warmed) with ⟨v, B, X', hpost, hsteps⟩ | ⟨q, B, X', hpost, hsteps⟩
  · exact Or.inl ⟨v, vm₁, B, X₁.warmed, X', hpost, fun target h => hstep₁ _ fun acts => by rw [doInvoke_state]; exact hsteps.trans h⟩
  · exact Or.inr ⟨q, vm₁, B, X₁.warmed, X', hpost, hstep₁ _ fun acts => by rw [doInvoke_state]; exact hsteps⟩
theorem vx_callVW (X : Stand p l e R s m args below meth c T locs cells slots) (hexec : p.tables.exec = Jvm.exec) {own C : String} {index : Nat} {y : MethodName} {bytes : ByteArray} {maxL : Nat} {ret : Option FieldType} {hh : List (Nat × Nat × Nat × Nat)}
    (hown : s.vm.findClass own = some m.cls) (hlink : (Cond.methodLink own index y).before args s = true) (hinst : (Cond.instanceMethod y).before args s = true) (hsel : (Cond.selects C y y).before args s = true)
    (hcode : (Cond.codeWith y bytes maxL ret hh).before args s = true) (hy : y.cls ≠ "java/lang/invoke/MethodHandle" ∧ y.cls ≠ "java/lang/invoke/VarHandle")
    {W9 : Nat} {Pre : Pt → Array Value → Prop} {Post : Pt → Array Value → Option Value → Pt → Prop} (hK : Back l R p e below s args y 3 W9 Pre Post)
    {b : Addr} {cellB : Cell} (hcell : T.heap[b]? = some cellB) (hobj : cellB.vm.isStatics = false) (hcls : s.vm.findClass C = some cellB.cls)
    {g : JFrame} (hg : g.method = m) (hsize : g.locals.size = c.maxLocals) {argsL rest : List Value} (hlen : ∀ sig, parseMethodDescriptor y.desc = some sig → argsL.length = sig.parameters.length)
    (hstack : g.stack = argsL.reverse ++ .ref b :: rest) (hW : 2 * g.monitorRoom + (rest.map fun v => v.category).sum ≤ W9) (hdg : decode c.code g.pc = .ok (.invokevirtual index, 3))
    (hpre : ∀ vm₁, s.WarmedH vm₁ → Pre ⟨T.setVm vm₁, locs, cells, slots⟩ (Value.ref b :: argsL).toArray) :
    ∃ (v : Option Value) (vm₁ : Vm) (B : Pt), s.WarmedH vm₁ ∧ Stand p l e R s m args below meth c B.U B.locs B.cells B.slots ∧ Post ⟨T.setVm vm₁, locs, cells, slots⟩ (Value.ref b :: argsL).toArray v B ∧
      ∀ target, Steps p.tables e below (B.U.setTop { g with pc := g.pc + 3, stack := v.toList ++ rest }) target → Steps p.tables e below (T.setTop g) target := by
  obtain ⟨mk, methM, hnamed, hmethM, hstM, habM⟩ := Cond.instanceMethod_spec hinst
  obtain ⟨m8, methM', cM, hn8, hmethM', -, -, -, -, -, -, hsigM⟩ := Cond.codeWith_spec hcode
  cases Option.some.inj (hn8.symm.trans hnamed)
  cases hmethM.symm.trans hmethM'
  obtain ⟨c2, r2, m2, q1, q2, q3, q4, kP, hkP, hkPi⟩ := Cond.selects_spec hsel
  cases hcls.symm.trans q1
  cases (State.methodFound?_of_named hnamed hy).symm.trans q2
  cases hnamed.symm.trans q3
  have hselP : selectMethod e.platform s.vm cellB.cls mk = .method mk := by rw [Launch.admits_selectMethod X.admits]; exact q4
  obtain ⟨vm₁, X₁, hstep₁⟩ := X.invokevirtual hexec hown hlink hnamed hmethM hstM hkP hkPi hy (a := b) (cell := cellB) hcell
    (fun z h => by rw [h] at hobj; cases hobj) hselP hmethM habM hkP hkPi (g := g) hg (argsL := argsL) (rest := rest) (hlen _ hsigM) hstack hdg
  obtain ⟨v, B, X', hpost, hsteps⟩ := hK m meth c ⟨T.setVm vm₁, locs, cells, slots⟩ { g with stack := rest } (.invokevirtual index) mk (Value.ref b :: argsL).toArray X₁ hg hsize hdg hW (X₁.named hnamed) (hpre vm₁ X₁.warmed)
  exact ⟨v, vm₁, B, X₁.warmed, X', hpost, fun target h => hstep₁ _ fun acts => by rw [doInvoke_state]; exact hsteps.trans h⟩
abbrev vx_CVW (R : Room) (s : State) (args : Array Value) (own C : String) (index : Nat) (y : MethodName) (bytes : ByteArray) (maxL : Nat) (ret : Option FieldType) (hh : List (Nat × Nat × Nat × Nat)) (ws : List Cond) (rm : Room) (mc ms n : Nat) : Prop :=
  (rm.cells = mc ∧ rm.slots = ms ∧ rm.frames + 1 ≤ R.frames ∧ 8 + (maxL + 11) + rm.locals ≤ R.locals ∧ (∀ w ∈ ws, ∀ (a' : Array Value) (U : State), s.WarmedH U.vm → w.before a' U = true) ∧ Cond.codeWith y bytes maxL ret hh ∈ ws) ∧
  (Cond.codeWith y bytes maxL ret hh).before args s = true ∧ (Cond.initialized y.cls).before args s = true ∧ (y.cls ≠ "java/lang/invoke/MethodHandle" ∧ y.cls ≠ "java/lang/invoke/VarHandle") ∧
  (∀ sig, parseMethodDescriptor y.desc = some sig → n = sig.parameters.length) ∧ (Cond.methodLink own index y).before args s = true ∧ (Cond.instanceMethod y).before args s = true ∧ (Cond.selects C y y).before args s = true
theorem vx_cwVW {own C : String} {index maxL mc ms : Nat} {y : MethodName} {bytes : ByteArray} {ret : Option FieldType} {hh : List (Nat × Nat × Nat × Nat)} {Ts ws ws' : List Cond} {rm : Room} (n : Nat) (ht : ∀ w ∈ Ts, w.before args s = true) (hT : GoodIn Ts (wsV own index C y ws)) (hw : ws = Cond.codeWith y bytes maxL ret hh :: ws') (hrc : rm.cells = mc) (hrs : rm.slots = ms)
    (hd : y.cls = C ∧ y.cls ≠ "java/lang/invoke/MethodHandle" ∧ y.cls ≠ "java/lang/invoke/VarHandle" ∧ (parseMethodDescriptor y.desc).map (fun d => d.parameters.length) = some n) (hR : rm.frames + 1 ≤ R.frames ∧ 8 + (maxL + 11) + rm.locals ≤ R.locals) :
    vx_CVW R s args own C index y bytes maxL ret hh ws rm mc ms n := by
  obtain ⟨hC, hd⟩ := hd
  subst hC
  have ok : ∀ w ∈ wsV own index y.cls y ws, w.before args s = true := fun w h => ht w (hT w h).1
  have hG : GoodIn Ts ws := fun w h => hT w (by unfold wsV; exact List.mem_append_right _ h)
  have hc : Cond.codeWith y bytes maxL ret hh ∈ ws := by rw [hw]; exact List.mem_cons_self
  refine ⟨⟨hrc, hrs, hR.1, hR.2, pay_in ht hG, hc⟩, ht _ (hG _ hc).1, ok _ (by simp [wsV]), ⟨hd.1, hd.2.1⟩, fun sig h => ?_, ok _ (by simp [wsV]), ok _ (by simp [wsV]), ok _ (by simp [wsV])⟩
  have h2 := hd.2.2
  rw [h] at h2
  exact (Option.some.inj h2).symm
theorem vx_runVW {y : MethodName} {bytes cc : ByteArray} {maxL nL mc ms n index : Nat} {ret : Option FieldType} {hh : List (Nat × Nat × Nat × Nat)} {ws : List Cond} {rm : Room} {Pc : Array Value → State → Prop} {Qc : Array Value → State → Outcome → State → Prop} {free : Addr → Prop} {Ts : List Cond} {own C : String} {b : Addr} {As rest : List Value} {g : JFrame}
    (S : CallFix p m c cc nL s args Ts own) (hM : Met l y ws rm Pc Qc mc ms free) (cw : vx_CVW R s args own C index y bytes maxL ret hh ws rm mc ms n) (hp : PreV s H C b Pc As)
    (hg : g.method = m) (hn : As.length = n) (hsize : g.locals.size = nL) (hstack : g.stack = As.reverse ++ .ref b :: rest) (hW : 2 * g.monitorRoom + (rest.map fun v => v.category).sum ≤ 8) (hdg : decode cc g.pc = .ok (.invokevirtual index, 3)) (hf : cells + mc ≤ R.cells ∧ slots + ms ≤ R.slots) :
    va_Run p l e R s m args below meth c H locs cells slots mc ms g rest (Qc (Value.ref b :: As).toArray) free := by
  obtain ⟨⟨hrc, hrs, hfr, hlo, hws, hcw⟩, hcode, hini, hy, hlen, hl, hin, hse⟩ := cw
  have hK : Back l R p e below s args y 3 8 (PreOf R mc ms Pc) (PostOf Qc mc ms free) := va_backW (hh := hh) (bytes := bytes) (maxL := maxL) (ret := ret) hM hp.1 hrc hrs hfr hlo hws hcw (fun a' U hW => word_at hW (Or.inl (by first | rfl | simp [Cond.onTables, Cond.keeps, Cond.steady])) hini)
  obtain ⟨hx, hb, hml, ho, -⟩ := S
  obtain ⟨-, ⟨cellB, hcB, hoB, hclB⟩, hPc⟩ := hp
  intro T hT X
  obtain ⟨v, vm₁, ⟨U', l2, c2, s2⟩, hW₁, X', ⟨g', mk, t, L, e1, e2, hq, h1, hL, h2, h3⟩, st⟩ := vx_callVW X hx (C := C) (hh := hh) (bytes := bytes) (maxL := maxL) (ret := ret) ho hl hin hse hcode hy hK (by rw [hT]; exact hcB) hoB hclB hg (hsize.trans hml.symm) (argsL := As) (rest := rest) (fun sig h => hn.trans (hlen sig h)) hstack hW (by rw [hb]; exact hdg)
    (fun vm₁ hW₁ => ⟨hf.1, hf.2, hPc (T.setVm vm₁) hT hW₁⟩)
  dsimp only [Pt.U, Pt.locs, Pt.cells, Pt.slots] at X' e1 e2 h1 h2 h3 st
  subst h1; subst h2; subst h3
  exact ⟨v, (T.setVm vm₁).calling g' mk (Value.ref b :: As).toArray, t, U', L, hT, X', hL, e1, e2, hq, st⟩
section
variable {y : MethodName} {bytes cc : ByteArray} {maxL nL mc ms n index : Nat} {ret : Option FieldType} {ws : List Cond} {rm : Room} {Pc : Array Value → State → Prop} {Qc : Array Value → State → Outcome → State → Prop} {XC : String → State → State → Prop} {free : Addr → Prop} {Ts : List Cond} {own C : String} {b : Addr} {As rest : List Value} {g : JFrame}
theorem vx_runVX {hh : List (Nat × Nat × Nat × Nat)} (S : CallFix p m c cc nL s args Ts own) (hM : vx_Met l y ws rm Pc Qc XC mc ms free) (cw : vx_CVW R s args own C index y bytes maxL ret hh ws rm mc ms n) (hp : PreV s H C b Pc As)
    (hg : g.method = m) (hn : As.length = n) (hsize : g.locals.size = nL) (hstack : g.stack = As.reverse ++ .ref b :: rest) (hW : 2 * g.monitorRoom + (rest.map fun v => v.category).sum ≤ 8) (hdg : decode cc g.pc = .ok (.invokevirtual index, 3)) (hf : cells + mc ≤ R.cells ∧ slots + ms ≤ R.slots) :
    vx_Run p l e R s m args below meth c H locs cells slots mc ms g rest (Qc (Value.ref b :: As).toArray) XC free := by
  obtain ⟨⟨hrc, hrs, hfr, hlo, hws, hcw⟩, hcode, hini, hy, hlen, hl, hin, hse⟩ := cw
  have hK : vx_Back l R p e below s args y 3 8 (PreOf R mc ms Pc) (PostOf Qc mc ms free) (vx_Post XC mc ms free) := vx_backW (hh := hh) (bytes := bytes) (maxL := maxL) (ret := ret) hM hp.1 hrc hrs hfr hlo hws hcw (fun a' U hW => word_at hW (Or.inl (by first | rfl | simp [Cond.onTables, Cond.keeps, Cond.steady])) hini)
  obtain ⟨hx, hb, hml, ho, -⟩ := S
  obtain ⟨-, ⟨cellB, hcB, hoB, hclB⟩, hPc⟩ := hp
  intro T hT X
  rcases vx_callVX X hx (C := C) (hh := hh) (bytes := bytes) (maxL := maxL) (ret := ret) ho hl hin hse hcode hy hK (by rw [hT]; exact hcB) hoB hclB hg (hsize.trans hml.symm) (argsL := As) (rest := rest) (fun sig h => hn.trans (hlen sig h)) hstack hW (by rw [hb]; exact hdg)
    (fun vm₁ hW₁ => ⟨hf.1, hf.2, hPc (T.setVm vm₁) hT hW₁⟩) with ⟨v, vm₁, ⟨U', l2, c2, s2⟩, hW₁, X', ⟨g', mk, t, L, e1, e2, hq, h1, hL, h2, h3⟩, st⟩ | ⟨q, vm₁, ⟨U', l2, c2, s2⟩, hW₁, X', ⟨g', mk, t, L, E, ce, e1, e2, hq, hce, hcv, hcl, h1, hL, h2, h3⟩, st⟩
  · dsimp only [Pt.U, Pt.locs, Pt.cells, Pt.slots] at X' e1 e2 h1 h2 h3 st
    subst h1; subst h2; subst h3
    exact Or.inl ⟨v, (T.setVm vm₁).calling g' mk (Value.ref b :: As).toArray, t, U', L, hT, X', hL, e1, e2, hq, st⟩
  · dsimp only [Pt.U, Pt.locs, Pt.cells, Pt.slots] at X' e1 e2 h1 h2 h3 st hcl
    subst h1; subst h2; subst h3
    exact Or.inr ⟨q, (T.setVm vm₁).calling g' mk (Value.ref b :: As).toArray, t, U', L, E, ce, hT, X', hL, e1, e2, hq, hce, hcv, vx_cls hW₁ hcl, st⟩
theorem vx_runSX {hh : List (Nat × Nat × Nat × Nat)} (S : CallFix p m c cc nL s args Ts own) (hM : vx_Met l y ws rm Pc Qc XC mc ms free) (cw : vx_CSW R s args own index y bytes maxL ret hh ws rm mc ms n) (hp : PreS s H Pc As)
    (hg : g.method = m) (hn : As.length = n) (hsize : g.locals.size = nL) (hstack : g.stack = As.reverse ++ rest) (hW : 2 * g.monitorRoom + (rest.map fun v => v.category).sum ≤ 8) (hdg : decode cc g.pc = .ok (.invokestatic index, 3)) (hf : cells + mc ≤ R.cells ∧ slots + ms ≤ R.slots) :
    vx_Run p l e R s m args below meth c H locs cells slots mc ms g rest (Qc As.toArray) XC free := by
  obtain ⟨⟨hrc, hrs, hfr, hlo, hws, hcw⟩, hcode, hini, hy, hlen, hl, hstt⟩ := cw
  have hK : vx_Back l R p e below s args y 3 8 (PreOf R mc ms Pc) (PostOf Qc mc ms free) (vx_Post XC mc ms free) := vx_backW (hh := hh) (bytes := bytes) (maxL := maxL) (ret := ret) hM hp.1 hrc hrs hfr hlo hws hcw (fun a' U hW => word_at hW (Or.inl (by first | rfl | simp [Cond.onTables, Cond.keeps, Cond.steady])) hini)
  obtain ⟨hx, hb, hml, ho, -⟩ := S
  intro T hT X
  rcases vx_callSX X hx (hh := hh) (bytes := bytes) (maxL := maxL) (ret := ret) ho hl hstt hini hcode hy hK hg (hsize.trans hml.symm) (argsL := As) (rest := rest) (fun sig h => hn.trans (hlen sig h)) hstack hW (by rw [hb]; exact hdg)
    (fun vm₁ hW₁ => ⟨hf.1, hf.2, hp.2 (T.setVm vm₁) hT hW₁⟩) with ⟨v, vm₁, ⟨U', l2, c2, s2⟩, hW₁, X', ⟨g', mk, t, L, e1, e2, hq, h1, hL, h2, h3⟩, st⟩ | ⟨q, vm₁, ⟨U', l2, c2, s2⟩, hW₁, X', ⟨g', mk, t, L, E, ce, e1, e2, hq, hce, hcv, hcl, h1, hL, h2, h3⟩, st⟩
  · dsimp only [Pt.U, Pt.locs, Pt.cells, Pt.slots] at X' e1 e2 h1 h2 h3 st
    subst h1; subst h2; subst h3
    exact Or.inl ⟨v, (T.setVm vm₁).calling g' mk As.toArray, t, U', L, hT, X', hL, e1, e2, hq, st⟩
  · dsimp only [Pt.U, Pt.locs, Pt.cells, Pt.slots] at X' e1 e2 h1 h2 h3 st hcl
    subst h1; subst h2; subst h3
    exact Or.inr ⟨q, (T.setVm vm₁).calling g' mk As.toArray, t, U', L, E, ce, hT, X', hL, e1, e2, hq, hce, hcv, vx_cls hW₁ hcl, st⟩
end
end VXH
theorem vx_ofWH {l : Launch} {y : MethodName} {ws ws' : List Cond} {rm : Room} {Pc : Array Value → State → Prop} {Qc : Array Value → State → Outcome → State → Prop} {XC : String → State → State → Prop} {mc ms : Nat} {free : Addr → Prop} {cc : ByteArray} {maxL : Nat} {ret : Option FieldType} {hh : List (Nat × Nat × Nat × Nat)}
    (hy : plainName y.cls = true) (hw : ws = Cond.codeWith y cc maxL ret hh :: ws')
    (body : ∀ p e s m args below meth c s₁, BodyLoose p l y (headSpec ws rm) cc maxL ret e s m args below meth c s₁ → c.maxLocals = maxL → Pc args s →
      W p l e (headSpec ws rm).room s m args below meth c s.heap [] 0 0 (vx_MQ below Qc XC args s mc ms free) (entryFrame m args maxL)) : vx_Met l y ws rm Pc Qc XC mc ms free := by
  refine MetFree.of_bodyS (code := cc) (maxLocals := maxL) (ret := ret) hy ?_ ?_
  · intro args s m h hn
    obtain ⟨m9, meth, c, hn9, h1, h2, h3, h4, -, h5, h6, -⟩ := Cond.codeWith_spec (atoms_spec (ws := ws) h _ (by rw [hw]; exact List.mem_cons_self))
    cases hn.symm.trans hn9
    exact ⟨meth, c, h1, h2, h3, h4, h5, h6⟩
  · intro p e s m args below meth c s₁ B hml hP _
    have hh0 : s₁.heap = s.heap := by rw [B.state]; rfl
    obtain ⟨t, a1, o, b1, b2, b3⟩ := body p e s m args below meth c s₁ B hml hP s₁ hh0 (Stand.of_body B)
    exact ⟨t, o, a1, b1, b2, b3⟩
/-! ===== END ===== -/

/-! ===== BEGIN what the machine throws by itself, no traces kept ===== -/
section VXM
set_option maxHeartbeats 1000000 in
/-- the machine throws cls with the message text, no traces kept: from its note over the frame g to 'throwing' over the same frame (follows the proofs of Stand.vmThrowsMessage, Shelf/KitTracedVmS.lean, and Stand.throwsMessageColdBareV, StandMessageColdV.lean, without the step out of the frame) -/
theorem vx_vmAt {p : Program} {l : Launch} {e : Env} {R : Room} {s : State} {m₀ : MethodId} {args : Array Value} {below : List Frame} {meth : Method} {c : Code} {W : State} {locs : List Loc} {cells slots : Nat}
    (X : Stand p l e R s m₀ args below meth c W locs cells slots) (hexec : p.tables.exec = Jvm.exec) (htr : e.platform.stackTraces = false) {cls : String} {names : List String} {text : String}
    (hcls : Bundle.fit cls = true) (hnames : ∀ n ∈ names, Bundle.fit n = true) (hsoe : (cls == "java/lang/StackOverflowError") = false) (hoom : (cls == "java/lang/OutOfMemoryError") = false)
    (h : ∀ a ∈ Bundle.messageArmAtoms cls names, a.before args s = true)
    (hlocs : ∀ x ∈ locs, ∀ cell, s.heap[x.base]? = some cell → cell.vm.isStatics = false)
    (htext : (text == notModelled) = false) (hlimit : ¬ (stringBytes (stringToUtf16 text)).size > e.platform.arrayLengthLimit) (hheap : ¬ (stringBytes (stringToUtf16 text)).size * componentBytes .byte > e.platform.maxHeapBytes)
    {g : JFrame} (hg : g.method = m₀) (hsize : g.locals.size = c.maxLocals)
    (hRframes : names.length + 4 < R.frames) (hRlocals : 2 * g.monitorRoom + (g.stack.map fun v => v.category).sum + 10240 ≤ R.locals) (hshort : 13 * names.length + 55 ≤ 10240)
    (hRcells : cells + 3 ≤ R.cells) (hRslots : slots + ((stringBytes (stringToUtf16 text)).size + 4 + 6) ≤ R.slots) (hlocks : meth.locks = false) :
    ∃ (S : State) (q : Addr) (ce : Cell), (∀ target, Steps p.tables e below ((S.setTop g).pushFrame (.throwing q)) target → Steps p.tables e below ((W.setTop g).pushFrame (.throwNew cls (some text) none)) target) ∧
      Stand p l e R s m₀ args below meth c S locs (cells + 3) (slots + ((stringBytes (stringToUtf16 text)).size + 4 + 6)) ∧ S.heap[q]? = some ce ∧ s.vm.findClass cls = some ce.cls ∧ ce.vm = .none := by
  have howns : e.platform.frameOwnsMonitors = true := by rw [X.admits.platform]
  have hfin : e.platform.finalization = false := by rw [X.admits.platform]
  have hpl : e.platform.magicAccessors = ({} : Platform).magicAccessors := by rw [X.admits.platform]
  have a : ∀ x, x ∈ Bundle.messageArmAtoms cls names → x.holds args s none s [] = true := fun x hx => h x hx
  obtain ⟨T, Z0, L, -, Y⟩ := ThrowableC.of_atoms (args := args) howns hfin hpl (fun x hx => h x (by simp [Bundle.messageArmAtoms, hx]))
  obtain ⟨Z, M, LZ, LM, hnZ⟩ := Init0T.ofS_atoms (args := args) hpl L Y (fun x hx => h x (by simp [Bundle.messageArmAtoms, hx]))
  obtain ⟨P1, Ps, hlen, L1, hL, hP1m, hlink1, hlink⟩ := Bundle.chainS (args := args) hpl hnZ names cls hcls hnames (fun x hx => h x (by simp [Bundle.messageArmAtoms, hx]))
  obtain ⟨Zs, LZs, hn4, hfitv, hfitc⟩ := StringT.of_atoms (args := args) (fun x hx => h x (by simp [Bundle.messageArmAtoms, hx]))
  have hfound : s.vm.findClass cls = some P1.m.cls := findClass_of_methodNamed hP1m
  obtain ⟨c1, kX, hc1, hk, hord, -, -, hn6⟩ := Cond.instantiable_spec (a (.instantiable cls 6) (by simp [Bundle.messageArmAtoms]))
  cases Option.some.inj (hc1.symm.trans hfound)
  have hinit := Cond.initialized_spec hfound hk (a (.initialized cls) (by simp [Bundle.messageArmAtoms]))
  have hctor : kX.findMethod "<init>" "(Ljava/lang/String;)V" = some P1.m.idx := findMethod_of_methodNamed hP1m hk
  have hsel0 : selectMethod e.platform s.vm P1.m.cls T.fill0 = .method T.fill0 := by
    obtain ⟨c2, r2, m2, q1, q2, q3, q4, -⟩ := Cond.selects_spec (a (.selects cls Bundle.tFill0 Bundle.tFill0) (by simp [Bundle.messageArmAtoms]))
    cases Option.some.inj (q1.symm.trans hfound)
    cases Option.some.inj (q2.symm.trans (State.methodFound?_of_named Y.fill0 (by decide)))
    cases Option.some.inj (q3.symm.trans Y.fill0)
    rw [Launch.admits_selectMethod X.admits]; exact q4
  have hselF : selectMethod e.platform s.vm P1.m.cls T.fill = .method T.fill := by
    obtain ⟨c2, r2, m2, q1, q2, q3, q4, -⟩ := Cond.selects_spec (a (.selects cls Bundle.tFill Bundle.tFill) (by simp [Bundle.messageArmAtoms]))
    cases Option.some.inj (q1.symm.trans hfound)
    cases Option.some.inj (q2.symm.trans (State.methodFound?_of_named Y.fill (by decide)))
    cases Option.some.inj (q3.symm.trans Y.fill)
    rw [Launch.admits_selectMethod X.admits]; exact q4
  obtain ⟨cellS0, hcS0, hiss⟩ := Y.statics
  obtain ⟨u0, hu0⟩ := Cond.staticRefV Y.unassigned L.unassignedStatic L.statics hcS0 hiss (a (.isRef (.static Bundle.tN "UNASSIGNED_STACK" Bundle.steD)) (by simp [Bundle.messageArmAtoms]))
  obtain ⟨sen, hsen⟩ := Cond.staticRefV Y.sentinel L.sentinelStatic L.statics hcS0 hiss (a (.isRef (.static Bundle.tN "SUPPRESSED_SENTINEL" Bundle.listD)) (by simp [Bundle.messageArmAtoms]))
  obtain ⟨ci198, i198, fB, hk198, hg198, ha198, hsB, -, hnB, htB, hffB⟩ := Cond.ownField (t := .object "java/lang/Object") Y.found L.cls (by decide +kernel) (a (.fieldLink Bundle.tN 198 Bundle.tN "backtrace" "Ljava/lang/Object;") (by simp [Bundle.messageArmAtoms])) (a (.lays Bundle.tN Bundle.tN "backtrace" "Ljava/lang/Object;") (by simp [Bundle.messageArmAtoms])) e.platform hpl
  obtain ⟨cellS, hcS', heS, -, hkeep⟩ := X.same.2.2.2.2.2 T.aS cellS0 hcS0
  have hcellS : W.heap[T.aS]? = some cellS := hcS'
  have hout' : ∀ i, (⟨T.aS, i⟩ : Loc) ∉ locs := fun i hmem => by
    have := hlocs _ hmem cellS0 hcS0
    rw [hiss] at this; cases this
  have hknownS : cellS.vm ≠ .unknown := by
    rw [heS]; intro hu
    rw [show cellS0.vm = .unknown from hu] at hiss
    cases hiss
  have hvU : cellS.slots[T.fUnassigned.slot]? = some u0.v := by rw [hkeep _ (hout' _)]; exact hu0
  have hvSen : cellS.slots[T.fSentinel.slot]? = some sen.v := by rw [hkeep _ (hout' _)]; exact hsen
  obtain ⟨iM, hffM⟩ := Y.msg
  obtain ⟨tyC, dC, hdC, hdnC⟩ := Cond.laysAt hfound hk Y.cause (a (.lays cls Bundle.tN "cause" "Ljava/lang/Throwable;") (by simp [Bundle.messageArmAtoms]))
  obtain ⟨tyS, dS, hdS, hdnS⟩ := Cond.laysAt hfound hk Y.stack (a (.lays cls Bundle.tN "stackTrace" Bundle.steD) (by simp [Bundle.messageArmAtoms]))
  obtain ⟨tyP, dP, hdP, hdnP⟩ := Cond.laysAt hfound hk Y.supp (a (.lays cls Bundle.tN "suppressedExceptions" Bundle.listD) (by simp [Bundle.messageArmAtoms]))
  obtain ⟨tyM, dM, hdM, hdnM⟩ := Cond.laysAt hfound hk hffM (a (.lays cls Bundle.tN "detailMessage" "Ljava/lang/String;") (by simp [Bundle.messageArmAtoms]))
  obtain ⟨tyB, dB, hdB, hdnB⟩ := Cond.laysAt hfound hk hffB (a (.lays cls Bundle.tN "backtrace" "Ljava/lang/Object;") (by simp [Bundle.messageArmAtoms]))
  have bC := Cond.laysApart hdB hdC hdnB hdnC (by rw [hnB, Y.causeName]; decide)
  have bS := Cond.laysApart hdB hdS hdnB hdnS (by rw [hnB, Y.stackName]; decide)
  have bP := Cond.laysApart hdB hdP hdnB hdnP (by rw [hnB, Y.suppName]; decide)
  have hbk : ((preparedCellV T.toThrowableT (freshCell P1.m.cls kX) (W.heap.size + 2) u0 sen).withEntry W.cur).slots[fB.slot]? = some .null := by
    have := fresh_default (c := P1.m.cls) tyB
    rw [htB] at this
    simpa [preparedCellV, Cell.setSlot, Cell.withEntry, Array.getElem?_setIfInBounds, bC, bS, bP, bC.symm, bS.symm, bP.symm, defaultValue] using this
  have tkC := Takes.of_laid (v := .ref (W.heap.size + 2)) hk hord tyC (by rw [Y.causeType]; rfl)
  have tkS := Takes.of_laid (v := u0.v) hk hord tyS (by rw [Y.stackType]; exact fits_refV_array _ u0)
  have tkP := Takes.of_laid (v := sen.v) hk hord tyP (by rw [Y.suppType]; exact fits_refV_object _ sen)
  have tkM := Takes.of_laid (v := .ref (W.heap.size + 1)) hk hord tyM (by rw [Y.msgType]; rfl)
  have hskip : SkipFacts T e.platform s (fun u => u) u0 ((preparedCellV T.toThrowableT (freshCell P1.m.cls kX) (W.heap.size + 2) u0 sen).withEntry W.cur) := ⟨{ ci198 := ci198, i198 := i198, fBack := fB }, ⟨hk198, hg198, ha198, hsB⟩, hbk, fun _ _ => rfl⟩
  have h0 : At W g.method c below := by rw [hg]; exact X.here
  obtain ⟨hbeyond, hfreeW⟩ := X.vmMayThrow hsize (.throwNew cls (some text) none) (fun f hf => by cases hf) rfl hRlocals
  have hfr' : W.frames.length + Ps.length + 4 < (e.platform.stackLimits W.me).1 := by have := X.framesAbove hRframes; omega
  have hwd' : (stackUse (.java g :: W.frames.tail)).2 + 13 * Ps.length + 55 ≤ (e.platform.stackLimits W.me).2 := by have := X.stackAbove hsize (K := 13 * Ps.length + 55) (by omega); omega
  have hslots : W.slotsUsed + (stringBytes (stringToUtf16 text)).size + Zs.kS.instanceTypes.size + kX.instanceTypes.size ≤ e.platform.maxSlots := by
    have := X.slotsAbove hRslots
    rw [hn4, hn6]
    omega
  obtain ⟨vm', hW', st⟩ := Steps.vmThrowsMessageColdByV p (s₀ := s) (S := W) (g := g) h0 hexec T L Z LZ M LM X.warmed (t := W.cur) rfl Zs LZs P1 L1 Ps hL hlink1 hlink hsoe hoom hfound hk hinit hord hctor
    (Launch.admits_hotImplicitExceptions X.admits) hbeyond hfreeW htext hlimit hheap (X.cellsAbove hRcells) hslots (hfitv _) (hfitc _)
    (Nn := fun u => u) heapOnly_id (fun _ _ => rfl) (fun _ => rfl) (fun u x y => setCell_twice _ _ _ _) (fun _ => Nat.le_refl _) (cN := ((preparedCellV T.toThrowableT (freshCell P1.m.cls kX) (W.heap.size + 2) u0 sen).withEntry W.cur))
    hsel0 hcellS hknownS hvU tkS (fun _ hu => hu) (fun _ hu => hu) rfl rfl rfl (by simp [preparedCellV, Cell.setSlot, Cell.withEntry]) hskip (fun _ _ hA hW _ hroom _ hrest => L.nativeOff p htr hA hW hroom hrest) hselF hvSen tkC tkP tkM Y.objLocals rfl hfr' hwd'
  rw [plainBareV_eq T.toThrowableT (W.heap.size + 2) u0 sen (.ref (W.heap.size + 1)) W.cur rfl rfl] at st
  obtain ⟨-, -, w3, w4, -, -, -⟩ := withThrown_facts e.platform W Zs text P1.m.cls kX
  have X3 := ((X.pushed (bytesOf Zs.cB (stringToUtf16 text))).pushed (stringAt Zs.cS Zs.kS Zs.fv Zs.fc (stringToUtf16 text) W.heap.size)).pushed (freshCell P1.m.cls kX)
  rw [← withString_eq] at X3
  have X4 := X3.noted hW'
  have ha : (W.heap.size + 2) < ((withThrown W Zs text P1.m.cls kX).setVm vm').heap.size := by show _ < (withThrown W Zs text P1.m.cls kX).heap.size; rw [w3]; omega
  have hcell : ((withThrown W Zs text P1.m.cls kX).setVm vm').heap[(W.heap.size + 2)]? = some (freshCell P1.m.cls kX) := w4
  have X5 := ((((X4.stored hcell T.fCause.slot (.ref (W.heap.size + 2))).storedAgain ha T.fStack.slot u0.v).storedAgain ha T.fSupp.slot sen.v).storedAgain ha T.fStack.slot u0.v).storedAgain ha T.fMsg.slot (.ref (W.heap.size + 1))
  obtain ⟨g₁, hfrM⟩ := X5.frames_eq
  have hU : ((((withThrown W Zs text P1.m.cls kX).setVm vm').setCell (W.heap.size + 2) (plainBareV T.toThrowableT (freshCell P1.m.cls kX) (W.heap.size + 2) u0 sen (.ref (W.heap.size + 1)))).setTop g).pushFrame (.throwing (W.heap.size + 2)) = (((withThrown W Zs text P1.m.cls kX).setVm vm').setCell (W.heap.size + 2) (plainBareV T.toThrowableT (freshCell P1.m.cls kX) (W.heap.size + 2) u0 sen (.ref (W.heap.size + 1)))).setFrames (.throwing (W.heap.size + 2) :: .java g :: below) := by
    rw [State.pushFrame, State.frames_setTop _ hfrM, State.setTop_of_frames _ hfrM, State.setFrames_setFrames]
  have b1 : (bytesOf Zs.cB (stringToUtf16 text)).slots.size = (stringBytes (stringToUtf16 text)).size := by
    rw [(Cell.writeAll_facts _ _).2.2]; simp [bytes0]
  have b2 : (stringAt Zs.cS Zs.kS Zs.fv Zs.fc (stringToUtf16 text) W.heap.size).slots.size = 4 := by simp [string0, Cell.setSlot, hn4]
  have b3 : (freshCell P1.m.cls kX).slots.size = 6 := by simp [hn6]
  rw [b1, b2, b3] at X5
  have e9 : slots + (stringBytes (stringToUtf16 text)).size + 4 + 6 = slots + ((stringBytes (stringToUtf16 text)).size + 4 + 6) := by omega
  rw [e9] at X5
  simp only [List.append_assoc, List.cons_append, List.nil_append] at X5
  refine ⟨((withThrown W Zs text P1.m.cls kX).setVm vm').setCell (W.heap.size + 2) (plainBareV T.toThrowableT (freshCell P1.m.cls kX) (W.heap.size + 2) u0 sen (.ref (W.heap.size + 1))), W.heap.size + 2, _, fun target ht => st _ (by rw [X.tail, ← hU]; exact ht),
    X5.forget (fun y hy => ?_), heapAt_setCell_self _ ha, hfound, rfl⟩
  simp only [List.mem_cons, List.not_mem_nil, or_false] at hy
  have hge : s.heap.size ≤ W.heap.size := X.same.2.1
  rcases hy with rfl | rfl | rfl | rfl | rfl <;> exact Nat.le_trans hge (Nat.le_add_right _ 2)
set_option maxHeartbeats 1000000 in
/-- the machine throws NullPointerException, no traces kept: from its note over the frame g to 'throwing' over the same frame (follows the proof of Stand.vmThrowsNpe, Shelf42/KT2.lean; throwsNpeColdBareVAt, Shelf42/NT91.lean, called) -/
theorem vx_npeAt {p : Program} {l : Launch} {e : Env} {R : Room} {s : State} {m₀ : MethodId} {args : Array Value} {below : List Frame} {meth : Method} {c : Code} {W : State} {locs : List Loc} {cells slots : Nat}
    (X : Stand p l e R s m₀ args below meth c W locs cells slots) (hexec : p.tables.exec = Jvm.exec) (htr : e.platform.stackTraces = false) {n : Nat}
    (h : ∀ a ∈ Bundle.npeArmAtoms n, a.before args s = true)
    (hlocs : ∀ x ∈ locs, ∀ cell, s.heap[x.base]? = some cell → cell.vm.isStatics = false)
    {g : JFrame} (hg : g.method = m₀) (hsize : g.locals.size = c.maxLocals)
    (hRframes : 7 < R.frames) (hRlocals : 2 * g.monitorRoom + (g.stack.map fun v => v.category).sum + 10240 ≤ R.locals)
    (hRcells : cells + 1 ≤ R.cells) (hRslots : slots + n ≤ R.slots) (hlocks : meth.locks = false) :
    ∃ (S : State) (q : Addr) (ce : Cell), (∀ target, Steps p.tables e below ((S.setTop g).pushFrame (.throwing q)) target → Steps p.tables e below ((W.setTop g).pushFrame (.throwNew "java/lang/NullPointerException" none none)) target) ∧
      Stand p l e R s m₀ args below meth c S locs (cells + 1) (slots + n) ∧ S.heap[q]? = some ce ∧ s.vm.findClass "java/lang/NullPointerException" = some ce.cls ∧ ce.vm = .none := by
  have howns : e.platform.frameOwnsMonitors = true := by rw [X.admits.platform]
  have hfin : e.platform.finalization = false := by rw [X.admits.platform]
  have hpl : e.platform.magicAccessors = ({} : Platform).magicAccessors := by rw [X.admits.platform]
  have hpl2 : e.platform.arrayCloneIsPublic = true := by rw [X.admits.platform]
  have a' : ∀ x, x ∈ Bundle.npeArmAtoms n → x.holds args s none s [] = true := fun x hx => h x hx
  obtain ⟨T, Z, L, LZ, Y⟩ := ThrowableC.of_atoms (args := args) howns hfin hpl (fun x hx => h x (by simp [Bundle.npeArmAtoms, hx]))
  obtain ⟨N, LN, hcN, hnNF, hordN, hffS⟩ := NpeC.of_atoms (args := args) hpl hpl2 L Y (fun x hx => h x (by simp [Bundle.npeArmAtoms, hx]))
  obtain ⟨P1, L1, hP1m, hP1s⟩ := PassC.of_atoms (args := args) (s := s) hpl (X := Bundle.nN) (Y := Bundle.rN) (by decide) (by decide) LibCode.NullPointerException.Init0.at_0 LibCode.NullPointerException.Init0.at_1 LibCode.NullPointerException.Init0.at_4 (fun x hx => h x (by simp [Bundle.npeArmAtoms, hx]))
  obtain ⟨PR, LR, hPRm, hPRs⟩ := PassC.of_atoms (args := args) (s := s) hpl (X := Bundle.rN) (Y := Bundle.eN) (by decide) (by decide) LibCode.RuntimeException.Init0.at_0 LibCode.RuntimeException.Init0.at_1 LibCode.RuntimeException.Init0.at_4 (fun x hx => h x (by simp [Bundle.npeArmAtoms, hx]))
  obtain ⟨PE, LEx, hPEm, hPEs⟩ := PassC.of_atoms (args := args) (s := s) hpl (X := Bundle.eN) (Y := Bundle.tN) (by decide) (by decide) LibCode.Exception.Init0.at_0 LibCode.Exception.Init0.at_1 LibCode.Exception.Init0.at_4 (fun x hx => h x (by simp [Bundle.npeArmAtoms, hx]))
  have hfound : s.vm.findClass Bundle.nN = some P1.m.cls := findClass_of_methodNamed hP1m
  have ecls : N.cN = P1.m.cls := Option.some.inj (hcN.symm.trans hfound)
  have hk : s.vm.classes[P1.m.cls]? = some N.kN := by rw [← ecls]; exact LN.cls
  have hinit := Cond.initialized_spec hfound hk (a' (.initialized Bundle.nN) (by simp [Bundle.npeArmAtoms]))
  have hctor : N.kN.findMethod "<init>" "()V" = some P1.m.idx := findMethod_of_methodNamed hP1m hk
  obtain ⟨c1, k1, hc1, hk1, -, -, -, hn⟩ := Cond.instantiable_spec (a' (.instantiable Bundle.nN n) (by simp [Bundle.npeArmAtoms]))
  cases Option.some.inj (hc1.symm.trans hfound)
  cases Option.some.inj (hk1.symm.trans hk)
  have hfsz : (freshCell P1.m.cls N.kN).slots.size = n := by simp [hn]
  have hlink1 : P1.sup = PR.m := Option.some.inj (hP1s.symm.trans hPRm)
  have hlinkR : PR.sup = PE.m := Option.some.inj (hPRs.symm.trans hPEm)
  have hlinkE : PE.sup = Z.m T.toThrowableT := Option.some.inj (hPEs.symm.trans Y.init0)
  have hLs : ∀ P, P ∈ [PR, PE] → P.Links0 e.platform s := fun P hP => by
    simp only [List.mem_cons, List.not_mem_nil, or_false] at hP
    rcases hP with rfl | rfl
    · exact LR
    · exact LEx
  have hsel0 : selectMethod e.platform s.vm P1.m.cls T.fill0 = .method T.fill0 := by
    obtain ⟨c2, r2, m2, q1, q2, q3, q4, -⟩ := Cond.selects_spec (a' (.selects Bundle.nN Bundle.tFill0 Bundle.tFill0) (by simp [Bundle.npeArmAtoms]))
    cases Option.some.inj (q1.symm.trans hfound)
    cases Option.some.inj (q2.symm.trans (State.methodFound?_of_named Y.fill0 (by decide)))
    cases Option.some.inj (q3.symm.trans Y.fill0)
    rw [Launch.admits_selectMethod X.admits]; exact q4
  have hselF : selectMethod e.platform s.vm P1.m.cls T.fill = .method N.fill := by
    obtain ⟨c2, r2, m2, q1, q2, q3, q4, -⟩ := Cond.selects_spec (a' (.selects Bundle.nN Bundle.tFill Bundle.nFill) (by simp [Bundle.npeArmAtoms]))
    cases Option.some.inj (q1.symm.trans hfound)
    cases Option.some.inj (q2.symm.trans (State.methodFound?_of_named Y.fill (by decide)))
    cases Option.some.inj (q3.symm.trans hnNF)
    rw [Launch.admits_selectMethod X.admits]; exact q4
  obtain ⟨cellS0, hcS0, hiss⟩ := Y.statics
  obtain ⟨u0, hu0⟩ := Cond.staticRefV Y.unassigned L.unassignedStatic L.statics hcS0 hiss (a' (.isRef (.static Bundle.tN "UNASSIGNED_STACK" Bundle.steD)) (by simp [Bundle.npeArmAtoms]))
  obtain ⟨sen, hsen⟩ := Cond.staticRefV Y.sentinel L.sentinelStatic L.statics hcS0 hiss (a' (.isRef (.static Bundle.tN "SUPPRESSED_SENTINEL" Bundle.listD)) (by simp [Bundle.npeArmAtoms]))
  obtain ⟨ci198, i198, fB, hk198, hg198, ha198, hsB, -, hnB, htB, hffB⟩ := Cond.ownField (t := .object "java/lang/Object") Y.found L.cls (by decide +kernel) (a' (.fieldLink Bundle.tN 198 Bundle.tN "backtrace" Bundle.objD) (by simp [Bundle.npeArmAtoms])) (a' (.lays Bundle.tN Bundle.tN "backtrace" Bundle.objD) (by simp [Bundle.npeArmAtoms])) e.platform hpl
  obtain ⟨cellS, hcS', heS, -, hkeep⟩ := X.same.2.2.2.2.2 T.aS cellS0 hcS0
  have hcellS : W.heap[T.aS]? = some cellS := hcS'
  have hout' : ∀ i, (⟨T.aS, i⟩ : Loc) ∉ locs := fun i hmem => by
    have := hlocs _ hmem cellS0 hcS0
    rw [hiss] at this; cases this
  have hknownS : cellS.vm ≠ .unknown := by
    rw [heS]; intro hu
    rw [show cellS0.vm = .unknown from hu] at hiss
    cases hiss
  have hvU : cellS.slots[T.fUnassigned.slot]? = some u0.v := by rw [hkeep _ (hout' _)]; exact hu0
  have hvSen : cellS.slots[T.fSentinel.slot]? = some sen.v := by rw [hkeep _ (hout' _)]; exact hsen
  obtain ⟨tyC, dC, hdC, hdnC⟩ := Cond.laysAt hfound hk Y.cause (a' (.lays Bundle.nN Bundle.tN "cause" "Ljava/lang/Throwable;") (by simp [Bundle.npeArmAtoms]))
  obtain ⟨tyS, dS, hdS, hdnS⟩ := Cond.laysAt hfound hk Y.stack (a' (.lays Bundle.nN Bundle.tN "stackTrace" Bundle.steD) (by simp [Bundle.npeArmAtoms]))
  obtain ⟨tyP, dP, hdP, hdnP⟩ := Cond.laysAt hfound hk Y.supp (a' (.lays Bundle.nN Bundle.tN "suppressedExceptions" Bundle.listD) (by simp [Bundle.npeArmAtoms]))
  obtain ⟨tyX, dX, hdX, hdnX⟩ := Cond.laysAt hfound hk hffS (a' (.lays Bundle.nN Bundle.nN "extendedMessageState" "I") (by simp [Bundle.npeArmAtoms, Bundle.npeAtoms]))
  obtain ⟨hnX, htX⟩ := State.fieldFound?_type hffS (t := .int) (by decide +kernel)
  have xC := Cond.laysApart hdC hdX hdnC hdnX (by rw [hnX, Y.causeName]; decide)
  have xS := Cond.laysApart hdS hdX hdnS hdnX (by rw [hnX, Y.stackName]; decide)
  have xP := Cond.laysApart hdP hdX hdnP hdnX (by rw [hnX, Y.suppName]; decide)
  have hv0 : (freshCell P1.m.cls N.kN).slots[N.fState.slot]? = some (.int 0) := by
    have := fresh_default (c := P1.m.cls) tyX
    rw [htX] at this; exact this
  obtain ⟨tyB, dB, hdB, hdnB⟩ := Cond.laysAt hfound hk hffB (a' (.lays Bundle.nN Bundle.tN "backtrace" Bundle.objD) (by simp [Bundle.npeArmAtoms]))
  have bC := Cond.laysApart hdB hdC hdnB hdnC (by rw [hnB, Y.causeName]; decide)
  have bS := Cond.laysApart hdB hdS hdnB hdnS (by rw [hnB, Y.stackName]; decide)
  have bP := Cond.laysApart hdB hdP hdnB hdnP (by rw [hnB, Y.suppName]; decide)
  have bX := Cond.laysApart hdB hdX hdnB hdnX (by rw [hnB, hnX]; decide)
  have hbk : ((npeCell N.toNpeT (preparedCellV T.toThrowableT (freshCell P1.m.cls N.kN) W.heap.size u0 sen) W.cur).withEntry W.cur).slots[fB.slot]? = some .null := by
    have := fresh_default (c := P1.m.cls) tyB
    rw [htB] at this
    simpa [npeCell, preparedCellV, Cell.setSlot, Cell.withEntry, Array.getElem?_setIfInBounds, bC, bS, bP, bX, bC.symm, bS.symm, bP.symm, bX.symm, defaultValue] using this
  have tkC := Takes.of_laid (v := .ref W.heap.size) hk hordN tyC (by rw [Y.causeType]; rfl)
  have tkS := Takes.of_laid (v := u0.v) hk hordN tyS (by rw [Y.stackType]; exact fits_refV_array _ u0)
  have tkP := Takes.of_laid (v := sen.v) hk hordN tyP (by rw [Y.suppType]; exact fits_refV_object _ sen)
  have tkX := Takes.of_laid (v := .int 1) hk hordN tyX (by rw [htX]; rfl)
  have hskip : SkipFacts T e.platform s (fun u => u) u0 ((npeCell N.toNpeT (preparedCellV T.toThrowableT (freshCell P1.m.cls N.kN) W.heap.size u0 sen) W.cur).withEntry W.cur) := ⟨{ ci198 := ci198, i198 := i198, fBack := fB }, ⟨hk198, hg198, ha198, hsB⟩, hbk, fun _ _ => rfl⟩
  obtain ⟨vm', X3, st, -⟩ := X.throwsNpeColdBareVAt hexec hg hsize T L Z LZ N LN P1 L1 [PR, PE] hLs hlink1 ⟨hlinkR, hlinkE, trivial⟩ hfound hk hinit hordN hctor hsel0 hselF hcellS hknownS hvU hvSen
    hv0 xC xS xP tkC tkS tkP tkX Y.objLocals hskip (fun _ _ hA hW _ hroom _ hrest => L.nativeOff p htr hA hW hroom hrest) (by simpa using hRframes) hRlocals (by simp) hRcells (by rw [hn]; exact hRslots)
  have hlt : W.heap.size < ((W.pushCell (freshCell P1.m.cls N.kN)).setVm vm').heap.size := by
    show W.heap.size < (W.pushCell (freshCell P1.m.cls N.kN)).heap.size
    rw [State.heap_size_pushCell]; omega
  rw [hfsz] at X3
  obtain ⟨g₁, hfrM⟩ := X3.frames_eq
  have hU : ((((W.pushCell (freshCell P1.m.cls N.kN)).setVm vm').setCell W.heap.size (npeBareV T.toThrowableT N.toNpeT (freshCell P1.m.cls N.kN) W.heap.size u0 sen)).setTop g).pushFrame (.throwing W.heap.size) = (((W.pushCell (freshCell P1.m.cls N.kN)).setVm vm').setCell W.heap.size (npeBareV T.toThrowableT N.toNpeT (freshCell P1.m.cls N.kN) W.heap.size u0 sen)).setFrames (.throwing W.heap.size :: .java g :: below) := by
    rw [State.pushFrame, State.frames_setTop _ hfrM, State.setTop_of_frames _ hfrM, State.setFrames_setFrames]
  refine ⟨_, W.heap.size, _, fun target ht => st.trans (by rw [← hU]; exact ht), X3.forget (fun y hy => ?_), heapAt_setCell_self _ hlt, hfound, rfl⟩
  simp only [List.mem_cons, List.not_mem_nil, or_false] at hy
  have hge : s.heap.size ≤ W.heap.size := X.same.2.1
  rcases hy with rfl | rfl | rfl | rfl | rfl <;> exact hge
/-- the words of a machine's NullPointerException, but the four that speak of the heap -/
def vx_atN (n : Nat) : List Cond := (Bundle.npeArmAtoms n).filter vx_no
/-- the words of a machine's throw with a message, but the four that speak of the heap -/
def vx_atM (X : String) (names : List String) : List Cond := (Bundle.messageArmAtoms X names).filter vx_no
section
variable {p : Program} {l : Launch} {e : Env} {R : Room} {s : State} {m : MethodId} {args : Array Value} {below : List Frame} {meth : Method} {c : Code} {H : Heap} {locs : List Loc} {cells slots : Nat}
/-- a frame seen from a rebased start, seen from the first start again -/
theorem vx_back9 {T S : State} {R' : Room} {k n : Nat} (X : Stand p l e R s m args below meth c T locs cells slots) (Y : Stand p l e R' ((T.setVm s.vm).setFrames (.invoking m args :: below)) m args below meth c T [] 0 0) (Z : Stand p l e R' ((T.setVm s.vm).setFrames (.invoking m args :: below)) m args below meth c S [] k n) :
    Stand p l e R s m args below meth c S locs (cells + k) (slots + n) := by
  have hW0 : s.WarmedH ((T.setVm s.vm).setFrames (.invoking m args :: below)).vm := State.WarmedH.refl s
  refine { admits := X.admits, cas := X.cas, clock := X.clock, frames := X.frames, room := X.room, hears := X.hears, method := X.method, code := X.code, here := Z.here, tail := Z.tail, warmed := State.WarmedH.trans hW0 Z.warmed, limits := Z.limits.trans (Y.limits.symm.trans X.limits), bytes := Z.bytes.trans (Y.bytes.symm.trans X.bytes), same := ?_ }
  obtain ⟨e1, e2⟩ := Z.same
  rw [State.setFrames_setFrames] at e1
  have h2 : (T.setVm s.vm).sameButNew (S.setVm s.vm) [] k n := ⟨e1, e2⟩
  have h3 := X.same.trans h2
  rw [List.append_nil] at h3
  exact h3
/-- from the machine's note that E is thrown here with this text -/
def vx_Note (p : Program) (l : Launch) (e : Env) (R : Room) (s : State) (m : MethodId) (args : Array Value) (below : List Frame) (meth : Method) (c : Code) (H : Heap) (locs : List Loc) (cells slots : Nat) (Q : State → Prop) (g : JFrame) (E text : String) : Prop :=
  ∀ T : State, T.heap = H → Stand p l e R s m args below meth c T locs cells slots → ∃ t, Steps p.tables e below ((T.setTop g).pushFrame (.throwNew E (some text) none)) t ∧ Q t
theorem vx_vm {pc : Nat} {ls : Array Slot} {rest : List Value} {Q : State → Prop} (hexec : p.tables.exec = Jvm.exec) (hl : l.stackTraces = false) {cls text : String} {names : List String} {nb : Nat} {A : Nat → Prop}
    (hcls : Bundle.fit cls = true) (hnames : ∀ n ∈ names, Bundle.fit n = true) (hsoe : (cls == "java/lang/StackOverflowError") = false) (hoom : (cls == "java/lang/OutOfMemoryError") = false)
    (hat : ∀ w ∈ vx_atM cls names, w.before args s = true) (hgood : ∀ w ∈ vx_atM cls names, vx_ot w = true)
    (hU : vx_Zq Bundle.tN "UNASSIGNED_STACK" Bundle.steD A s s.heap) (hN : vx_Zq Bundle.tN "SUPPRESSED_SENTINEL" Bundle.listD A s s.heap) (hS : va_S A s.heap H locs) (hsize : ls.size = c.maxLocals)
    (htext : (text == notModelled) = false) (hnb : (stringBytes (stringToUtf16 text)).size ≤ nb) (hnb1 : nb ≤ 1000)
    (hRframes : names.length + 4 < R.frames) (hRlocals : (rest.map fun v => v.category).sum + 10240 ≤ R.locals) (hshort : 13 * names.length + 55 ≤ 10240) (hRcells : cells + 3 ≤ R.cells) (hRslots : slots + (nb + 10) ≤ R.slots) (hlocks : meth.locks = false)
    (k : ∀ (H1 : Heap) (q9 : Addr) (ce : Cell), H.size ≤ H1.size → (∀ q : Nat, q < H.size → H1[q]? = H[q]?) → va_S A s.heap H1 locs → H1[q9]? = some ce → ce.vm = .none → s.vm.findClass cls = some ce.cls → vx_W p l e R s m args below meth c H1 locs (cells + 3) (slots + (nb + 10)) Q (F0 m pc ls rest) q9) :
    vx_Note p l e R s m args below meth c H locs cells slots Q (F0 m pc ls rest) cls text := by
  intro T hT X
  have htr : e.platform.stackTraces = false := (show e.platform.stackTraces = l.stackTraces by rw [X.admits.platform]).trans hl
  have Y := vx_rebase X (R' := { frames := R.frames, locals := R.locals, cells := 3, slots := nb + 10 }) (Nat.le_refl _) (Nat.le_refl _) hRcells hRslots
  have hhp : ((T.setVm s.vm).setFrames (.invoking m args :: below)).heap = H := hT
  have hW0 : s.WarmedH ((T.setVm s.vm).setFrames (.invoking m args :: below)).vm := State.WarmedH.refl s
  have hat' : ∀ w ∈ vx_atM cls names, w.before args ((T.setVm s.vm).setFrames (.invoking m args :: below)) = true := fun w hw => vx_ot_at hW0 rfl (hgood w hw) (hat w hw)
  have hU' : vx_Zq Bundle.tN "UNASSIGNED_STACK" Bundle.steD A ((T.setVm s.vm).setFrames (.invoking m args :: below)) ((T.setVm s.vm).setFrames (.invoking m args :: below)).heap := by rw [hhp]; exact vx_Zq.moved hW0.alike (hU.kept hS.2.1)
  have hN' : vx_Zq Bundle.tN "SUPPRESSED_SENTINEL" Bundle.listD A ((T.setVm s.vm).setFrames (.invoking m args :: below)) ((T.setVm s.vm).setFrames (.invoking m args :: below)).heap := by rw [hhp]; exact vx_Zq.moved hW0.alike (hN.kept hS.2.1)
  obtain ⟨S, q, ce, st, Z, hce, hcl', hv⟩ := vx_vmAt Y hexec htr (cls := cls) (names := names) (text := text) hcls hnames hsoe hoom (vx_own hat' (vx_isRefq hU'.1) (vx_isRefq hN'.1) hU'.2.word hN'.2.word) (fun x hx => nomatch hx) htext
    (by rw [Launch.admits_arrayLengthLimit X.admits]; omega) (by rw [Launch.admits_maxHeapBytes X.admits]; simp only [componentBytes]; omega)
    (g := F0 m pc ls rest) rfl hsize hRframes (by show 2 * 0 + (rest.map fun v => v.category).sum + 10240 ≤ R.locals; omega) hshort (by show 0 + 3 ≤ 3; omega) (by show 0 + (_ + 4 + 6) ≤ nb + 10; omega) hlocks
  obtain ⟨f1, f2⟩ := vx_frame Z.same
  have f1' : H.size ≤ S.heap.size := by rw [← hT]; exact f1
  have f2' : ∀ q : Nat, q < H.size → S.heap[q]? = H[q]? := fun q hq => by
    rw [← hT]
    exact f2 q (by rw [← hT] at hq; exact hq) (fun z hz => nomatch hz)
  have X5 := vx_back9 X Y Z
  have X6 : Stand p l e R s m args below meth c S locs (cells + 3) (slots + (nb + 10)) := { X5 with same := X5.same.mono (by omega) (by omega) }
  obtain ⟨t, a1, b1⟩ := k S.heap q ce f1' f2' ⟨Nat.le_trans hS.1 f1', fun q h1 h2 => (f2' q (Nat.lt_of_lt_of_le h1 hS.1)).trans (hS.2.1 q h1 h2), hS.2.2⟩ hce hv hcl' S rfl X6
  exact ⟨t, st t a1, b1⟩
/-- from the machine's note that NullPointerException is thrown here -/
def vx_NoteN (p : Program) (l : Launch) (e : Env) (R : Room) (s : State) (m : MethodId) (args : Array Value) (below : List Frame) (meth : Method) (c : Code) (H : Heap) (locs : List Loc) (cells slots : Nat) (Q : State → Prop) (g : JFrame) : Prop :=
  ∀ T : State, T.heap = H → Stand p l e R s m args below meth c T locs cells slots → ∃ t, Steps p.tables e below ((T.setTop g).pushFrame (.throwNew "java/lang/NullPointerException" none none)) t ∧ Q t
theorem vx_npe {pc : Nat} {ls : Array Slot} {rest : List Value} {Q : State → Prop} (hexec : p.tables.exec = Jvm.exec) (hl : l.stackTraces = false) {nb : Nat} {A : Nat → Prop}
    (hat : ∀ w ∈ vx_atN nb, w.before args s = true) (hgood : ∀ w ∈ vx_atN nb, vx_ot w = true)
    (hU : vx_Zq Bundle.tN "UNASSIGNED_STACK" Bundle.steD A s s.heap) (hN : vx_Zq Bundle.tN "SUPPRESSED_SENTINEL" Bundle.listD A s s.heap) (hS : va_S A s.heap H locs) (hsize : ls.size = c.maxLocals)
    (hRframes : 7 < R.frames) (hRlocals : (rest.map fun v => v.category).sum + 10240 ≤ R.locals) (hRcells : cells + 1 ≤ R.cells) (hRslots : slots + nb ≤ R.slots) (hlocks : meth.locks = false)
    (k : ∀ (H1 : Heap) (q9 : Addr) (ce : Cell), H.size ≤ H1.size → (∀ q : Nat, q < H.size → H1[q]? = H[q]?) → va_S A s.heap H1 locs → H1[q9]? = some ce → ce.vm = .none → s.vm.findClass "java/lang/NullPointerException" = some ce.cls → vx_W p l e R s m args below meth c H1 locs (cells + 1) (slots + nb) Q (F0 m pc ls rest) q9) :
    vx_NoteN p l e R s m args below meth c H locs cells slots Q (F0 m pc ls rest) := by
  intro T hT X
  have htr : e.platform.stackTraces = false := (show e.platform.stackTraces = l.stackTraces by rw [X.admits.platform]).trans hl
  have Y := vx_rebase X (R' := { frames := R.frames, locals := R.locals, cells := 1, slots := nb }) (Nat.le_refl _) (Nat.le_refl _) hRcells hRslots
  have hhp : ((T.setVm s.vm).setFrames (.invoking m args :: below)).heap = H := hT
  have hW0 : s.WarmedH ((T.setVm s.vm).setFrames (.invoking m args :: below)).vm := State.WarmedH.refl s
  have hat' : ∀ w ∈ vx_atN nb, w.before args ((T.setVm s.vm).setFrames (.invoking m args :: below)) = true := fun w hw => vx_ot_at hW0 rfl (hgood w hw) (hat w hw)
  have hU' : vx_Zq Bundle.tN "UNASSIGNED_STACK" Bundle.steD A ((T.setVm s.vm).setFrames (.invoking m args :: below)) ((T.setVm s.vm).setFrames (.invoking m args :: below)).heap := by rw [hhp]; exact vx_Zq.moved hW0.alike (hU.kept hS.2.1)
  have hN' : vx_Zq Bundle.tN "SUPPRESSED_SENTINEL" Bundle.listD A ((T.setVm s.vm).setFrames (.invoking m args :: below)) ((T.setVm s.vm).setFrames (.invoking m args :: below)).heap := by rw [hhp]; exact vx_Zq.moved hW0.alike (hN.kept hS.2.1)
  obtain ⟨S, q, ce, st, Z, hce, hcl', hv⟩ := vx_npeAt Y hexec htr (n := nb) (vx_own hat' (vx_isRefq hU'.1) (vx_isRefq hN'.1) hU'.2.word hN'.2.word) (fun x hx => nomatch hx)
    (g := F0 m pc ls rest) rfl hsize hRframes (by show 2 * 0 + (rest.map fun v => v.category).sum + 10240 ≤ R.locals; omega) (by show 0 + 1 ≤ 1; omega) (by show 0 + nb ≤ nb; omega) hlocks
  obtain ⟨f1, f2⟩ := vx_frame Z.same
  have f1' : H.size ≤ S.heap.size := by rw [← hT]; exact f1
  have f2' : ∀ q : Nat, q < H.size → S.heap[q]? = H[q]? := fun q hq => by
    rw [← hT]
    exact f2 q (by rw [← hT] at hq; exact hq) (fun z hz => nomatch hz)
  have X5 := vx_back9 X Y Z
  have X6 : Stand p l e R s m args below meth c S locs (cells + 1) (slots + nb) := { X5 with same := X5.same.mono (by omega) (by omega) }
  obtain ⟨t, a1, b1⟩ := k S.heap q ce f1' f2' ⟨Nat.le_trans hS.1 f1', fun q h1 h2 => (f2' q (Nat.lt_of_lt_of_le h1 hS.1)).trans (hS.2.1 q h1 h2), hS.2.2⟩ hce hv hcl' S rfl X6
  exact ⟨t, st t a1, b1⟩
variable {Q : State → Prop} {cc : ByteArray} {pc : Nat} {ls : Array Slot} {rest : List Value}
theorem vx_idivZ (hexec : p.tables.exec = Jvm.exec) (hb : c.code = cc) {a b : Int32} (h0 : b = 0) (d : decode cc pc = .ok (.idiv, 1)) (k : vx_Note p l e R s m args below meth c H locs cells slots Q (F0 m pc ls rest) "java/lang/ArithmeticException" "/ by zero") :
    W p l e R s m args below meth c H locs cells slots Q (F0 m pc ls (.int b :: .int a :: rest)) := by
  intro T hT X
  obtain ⟨t, st, q⟩ := k T hT X
  exact ⟨t, X.idivZero hexec (g := F0 m pc ls (.int b :: .int a :: rest)) rfl (a := a) (rest := rest) (by rw [h0]) (by rw [hb]; exact d) t st, q⟩
theorem vx_iremZ (hexec : p.tables.exec = Jvm.exec) (hb : c.code = cc) {a b : Int32} (h0 : b = 0) (d : decode cc pc = .ok (.irem, 1)) (k : vx_Note p l e R s m args below meth c H locs cells slots Q (F0 m pc ls rest) "java/lang/ArithmeticException" "/ by zero") :
    W p l e R s m args below meth c H locs cells slots Q (F0 m pc ls (.int b :: .int a :: rest)) := by
  intro T hT X
  obtain ⟨t, st, q⟩ := k T hT X
  exact ⟨t, X.iremZero hexec (g := F0 m pc ls (.int b :: .int a :: rest)) rfl (a := a) (rest := rest) (by rw [h0]) (by rw [hb]; exact d) t st, q⟩
theorem vx_ldivZ (hexec : p.tables.exec = Jvm.exec) (hb : c.code = cc) {a b : Int64} (h0 : b = 0) (d : decode cc pc = .ok (.ldiv, 1)) (k : vx_Note p l e R s m args below meth c H locs cells slots Q (F0 m pc ls rest) "java/lang/ArithmeticException" "/ by zero") :
    W p l e R s m args below meth c H locs cells slots Q (F0 m pc ls (.long b :: .long a :: rest)) := by
  intro T hT X
  obtain ⟨t, st, q⟩ := k T hT X
  exact ⟨t, X.ldivZero hexec (g := F0 m pc ls (.long b :: .long a :: rest)) rfl (a := a) (rest := rest) (by rw [h0]) (by rw [hb]; exact d) t st, q⟩
theorem vx_lremZ (hexec : p.tables.exec = Jvm.exec) (hb : c.code = cc) {a b : Int64} (h0 : b = 0) (d : decode cc pc = .ok (.lrem, 1)) (k : vx_Note p l e R s m args below meth c H locs cells slots Q (F0 m pc ls rest) "java/lang/ArithmeticException" "/ by zero") :
    W p l e R s m args below meth c H locs cells slots Q (F0 m pc ls (.long b :: .long a :: rest)) := by
  intro T hT X
  obtain ⟨t, st, q⟩ := k T hT X
  exact ⟨t, X.lremZero hexec (g := F0 m pc ls (.long b :: .long a :: rest)) rfl (a := a) (rest := rest) (by rw [h0]) (by rw [hb]; exact d) t st, q⟩
theorem vx_ialdZ {D : va_G} {cl : List vw_C} {ws : va_W} {tys : List (ClassId × FieldType)} {a : Nat} (hexec : p.tables.exec = Jvm.exec) (hb : c.code = cc) (hK : va_K D cl tys s) (hP : va_P D cl ws H) (q0 t0 : Nat) {cA : ClassId} {n : Nat} {f : Nat → Int32} (ha : ws[q0]? = some (a, .inl (cA, n, .inl f))) (ht : tys[t0]? = some (cA, .int)) {i : Int32} (hout : ¬ vp_in i n) (hdg : decode cc pc = .ok (.iaload, 1))
    (k : ∀ tx : String, tx = (toString "Index " ++ toString i ++ toString " out of bounds for length " ++ toString n : String) → vx_Note p l e R s m args below meth c H locs cells slots Q (F0 m pc ls rest) "java/lang/ArrayIndexOutOfBoundsException" tx) : W p l e R s m args below meth c H locs cells slots Q (F0 m pc ls (.int i :: .ref a :: rest)) := by
  intro T hT X
  obtain ⟨t, st, q⟩ := k _ rfl T hT X
  refine ⟨t, ?_, q⟩
  have h1 := X.ialoadOut hexec (by rw [hT]; exact hP q0 _ ha) ((hK.2 t0 _ ht).1 n (fun j => .int (f j))) (j := i) (by show (i < 0 ∨ (arrV _ _ _).slots.size ≤ _); rw [arrV_size]; exact Classical.byContradiction hout) (g := F0 m pc ls (.int i :: .ref a :: rest)) rfl (rest := rest) rfl (by rw [hb]; exact hdg) t
  simp only [arrV_size] at h1
  exact h1 st
theorem vx_iastZ {D : va_G} {cl : List vw_C} {ws : va_W} {tys : List (ClassId × FieldType)} {a : Nat} (hexec : p.tables.exec = Jvm.exec) (hb : c.code = cc) (hK : va_K D cl tys s) (hP : va_P D cl ws H) (q0 t0 : Nat) {cA : ClassId} {n : Nat} {f : Nat → Int32} (ha : ws[q0]? = some (a, .inl (cA, n, .inl f))) (ht : tys[t0]? = some (cA, .int)) {i : Int32} {x : Int32} (hout : ¬ vp_in i n) (hdg : decode cc pc = .ok (.iastore, 1))
    (k : ∀ tx : String, tx = (toString "Index " ++ toString i ++ toString " out of bounds for length " ++ toString n : String) → vx_Note p l e R s m args below meth c H locs cells slots Q (F0 m pc ls rest) "java/lang/ArrayIndexOutOfBoundsException" tx) : W p l e R s m args below meth c H locs cells slots Q (F0 m pc ls (.int x :: .int i :: .ref a :: rest)) := by
  intro T hT X
  obtain ⟨t, st, q⟩ := k _ rfl T hT X
  refine ⟨t, ?_, q⟩
  have h1 := X.iastoreOut hexec (by rw [hT]; exact hP q0 _ ha) ((hK.2 t0 _ ht).1 n (fun j => .int (f j))) (j := i) (by show (i < 0 ∨ (arrV _ _ _).slots.size ≤ _); rw [arrV_size]; exact Classical.byContradiction hout) (g := F0 m pc ls (.int x :: .int i :: .ref a :: rest)) rfl (rest := rest) rfl (by rw [hb]; exact hdg) t
  simp only [arrV_size] at h1
  exact h1 st
theorem vx_baldZ {D : va_G} {cl : List vw_C} {ws : va_W} {tys : List (ClassId × FieldType)} {a : Nat} (hexec : p.tables.exec = Jvm.exec) (hb : c.code = cc) (hK : va_K D cl tys s) (hP : va_P D cl ws H) (q0 t0 : Nat) {cA : ClassId} {n : Nat} {f : Nat → Int32} (ha : ws[q0]? = some (a, .inl (cA, n, .inl f))) (ht : tys[t0]? = some (cA, .byte)) {i : Int32} (hout : ¬ vp_in i n) (hdg : decode cc pc = .ok (.baload, 1))
    (k : ∀ tx : String, tx = (toString "Index " ++ toString i ++ toString " out of bounds for length " ++ toString n : String) → vx_Note p l e R s m args below meth c H locs cells slots Q (F0 m pc ls rest) "java/lang/ArrayIndexOutOfBoundsException" tx) : W p l e R s m args below meth c H locs cells slots Q (F0 m pc ls (.int i :: .ref a :: rest)) := by
  intro T hT X
  obtain ⟨t, st, q⟩ := k _ rfl T hT X
  refine ⟨t, ?_, q⟩
  have h1 := X.baloadOut hexec (by rw [hT]; exact hP q0 _ ha) ((hK.2 t0 _ ht).1 n (fun j => .int (f j))) (j := i) (by show (i < 0 ∨ (arrV _ _ _).slots.size ≤ _); rw [arrV_size]; exact Classical.byContradiction hout) (g := F0 m pc ls (.int i :: .ref a :: rest)) rfl (rest := rest) rfl (by rw [hb]; exact hdg) t
  simp only [arrV_size] at h1
  exact h1 st
theorem vx_bastZ {D : va_G} {cl : List vw_C} {ws : va_W} {tys : List (ClassId × FieldType)} {a : Nat} (hexec : p.tables.exec = Jvm.exec) (hb : c.code = cc) (hK : va_K D cl tys s) (hP : va_P D cl ws H) (q0 t0 : Nat) {cA : ClassId} {n : Nat} {f : Nat → Int32} (ha : ws[q0]? = some (a, .inl (cA, n, .inl f))) (ht : tys[t0]? = some (cA, .byte)) {i : Int32} {x : Int32} (hout : ¬ vp_in i n) (hdg : decode cc pc = .ok (.bastore, 1))
    (k : ∀ tx : String, tx = (toString "Index " ++ toString i ++ toString " out of bounds for length " ++ toString n : String) → vx_Note p l e R s m args below meth c H locs cells slots Q (F0 m pc ls rest) "java/lang/ArrayIndexOutOfBoundsException" tx) : W p l e R s m args below meth c H locs cells slots Q (F0 m pc ls (.int x :: .int i :: .ref a :: rest)) := by
  intro T hT X
  obtain ⟨t, st, q⟩ := k _ rfl T hT X
  refine ⟨t, ?_, q⟩
  have h1 := X.bastoreOut hexec (by rw [hT]; exact hP q0 _ ha) ((hK.2 t0 _ ht).1 n (fun j => .int (f j))) (j := i) (by show (i < 0 ∨ (arrV _ _ _).slots.size ≤ _); rw [arrV_size]; exact Classical.byContradiction hout) (g := F0 m pc ls (.int x :: .int i :: .ref a :: rest)) rfl (rest := rest) rfl (by rw [hb]; exact hdg) t
  simp only [arrV_size] at h1
  exact h1 st
theorem vx_zaldZ {D : va_G} {cl : List vw_C} {ws : va_W} {tys : List (ClassId × FieldType)} {a : Nat} (hexec : p.tables.exec = Jvm.exec) (hb : c.code = cc) (hK : va_K D cl tys s) (hP : va_P D cl ws H) (q0 t0 : Nat) {cA : ClassId} {n : Nat} {f : Nat → Int32} (ha : ws[q0]? = some (a, .inl (cA, n, .inl f))) (ht : tys[t0]? = some (cA, .boolean)) {i : Int32} (hout : ¬ vp_in i n) (hdg : decode cc pc = .ok (.baload, 1))
    (k : ∀ tx : String, tx = (toString "Index " ++ toString i ++ toString " out of bounds for length " ++ toString n : String) → vx_Note p l e R s m args below meth c H locs cells slots Q (F0 m pc ls rest) "java/lang/ArrayIndexOutOfBoundsException" tx) : W p l e R s m args below meth c H locs cells slots Q (F0 m pc ls (.int i :: .ref a :: rest)) := by
  intro T hT X
  obtain ⟨t, st, q⟩ := k _ rfl T hT X
  refine ⟨t, ?_, q⟩
  have h1 := X.baloadOut hexec (by rw [hT]; exact hP q0 _ ha) ((hK.2 t0 _ ht).1 n (fun j => .int (f j))) (j := i) (by show (i < 0 ∨ (arrV _ _ _).slots.size ≤ _); rw [arrV_size]; exact Classical.byContradiction hout) (g := F0 m pc ls (.int i :: .ref a :: rest)) rfl (rest := rest) rfl (by rw [hb]; exact hdg) t
  simp only [arrV_size] at h1
  exact h1 st
theorem vx_zastZ {D : va_G} {cl : List vw_C} {ws : va_W} {tys : List (ClassId × FieldType)} {a : Nat} (hexec : p.tables.exec = Jvm.exec) (hb : c.code = cc) (hK : va_K D cl tys s) (hP : va_P D cl ws H) (q0 t0 : Nat) {cA : ClassId} {n : Nat} {f : Nat → Int32} (ha : ws[q0]? = some (a, .inl (cA, n, .inl f))) (ht : tys[t0]? = some (cA, .boolean)) {i : Int32} {x : Int32} (hout : ¬ vp_in i n) (hdg : decode cc pc = .ok (.bastore, 1))
    (k : ∀ tx : String, tx = (toString "Index " ++ toString i ++ toString " out of bounds for length " ++ toString n : String) → vx_Note p l e R s m args below meth c H locs cells slots Q (F0 m pc ls rest) "java/lang/ArrayIndexOutOfBoundsException" tx) : W p l e R s m args below meth c H locs cells slots Q (F0 m pc ls (.int x :: .int i :: .ref a :: rest)) := by
  intro T hT X
  obtain ⟨t, st, q⟩ := k _ rfl T hT X
  refine ⟨t, ?_, q⟩
  have h1 := X.bastoreOut hexec (by rw [hT]; exact hP q0 _ ha) ((hK.2 t0 _ ht).1 n (fun j => .int (f j))) (j := i) (by show (i < 0 ∨ (arrV _ _ _).slots.size ≤ _); rw [arrV_size]; exact Classical.byContradiction hout) (g := F0 m pc ls (.int x :: .int i :: .ref a :: rest)) rfl (rest := rest) rfl (by rw [hb]; exact hdg) t
  simp only [arrV_size] at h1
  exact h1 st
theorem vx_caldZ {D : va_G} {cl : List vw_C} {ws : va_W} {tys : List (ClassId × FieldType)} {a : Nat} (hexec : p.tables.exec = Jvm.exec) (hb : c.code = cc) (hK : va_K D cl tys s) (hP : va_P D cl ws H) (q0 t0 : Nat) {cA : ClassId} {n : Nat} {f : Nat → Int32} (ha : ws[q0]? = some (a, .inl (cA, n, .inl f))) (ht : tys[t0]? = some (cA, .char)) {i : Int32} (hout : ¬ vp_in i n) (hdg : decode cc pc = .ok (.caload, 1))
    (k : ∀ tx : String, tx = (toString "Index " ++ toString i ++ toString " out of bounds for length " ++ toString n : String) → vx_Note p l e R s m args below meth c H locs cells slots Q (F0 m pc ls rest) "java/lang/ArrayIndexOutOfBoundsException" tx) : W p l e R s m args below meth c H locs cells slots Q (F0 m pc ls (.int i :: .ref a :: rest)) := by
  intro T hT X
  obtain ⟨t, st, q⟩ := k _ rfl T hT X
  refine ⟨t, ?_, q⟩
  have h1 := X.caloadOut hexec (by rw [hT]; exact hP q0 _ ha) ((hK.2 t0 _ ht).1 n (fun j => .int (f j))) (j := i) (by show (i < 0 ∨ (arrV _ _ _).slots.size ≤ _); rw [arrV_size]; exact Classical.byContradiction hout) (g := F0 m pc ls (.int i :: .ref a :: rest)) rfl (rest := rest) rfl (by rw [hb]; exact hdg) t
  simp only [arrV_size] at h1
  exact h1 st
theorem vx_castZ {D : va_G} {cl : List vw_C} {ws : va_W} {tys : List (ClassId × FieldType)} {a : Nat} (hexec : p.tables.exec = Jvm.exec) (hb : c.code = cc) (hK : va_K D cl tys s) (hP : va_P D cl ws H) (q0 t0 : Nat) {cA : ClassId} {n : Nat} {f : Nat → Int32} (ha : ws[q0]? = some (a, .inl (cA, n, .inl f))) (ht : tys[t0]? = some (cA, .char)) {i : Int32} {x : Int32} (hout : ¬ vp_in i n) (hdg : decode cc pc = .ok (.castore, 1))
    (k : ∀ tx : String, tx = (toString "Index " ++ toString i ++ toString " out of bounds for length " ++ toString n : String) → vx_Note p l e R s m args below meth c H locs cells slots Q (F0 m pc ls rest) "java/lang/ArrayIndexOutOfBoundsException" tx) : W p l e R s m args below meth c H locs cells slots Q (F0 m pc ls (.int x :: .int i :: .ref a :: rest)) := by
  intro T hT X
  obtain ⟨t, st, q⟩ := k _ rfl T hT X
  refine ⟨t, ?_, q⟩
  have h1 := X.castoreOut hexec (by rw [hT]; exact hP q0 _ ha) ((hK.2 t0 _ ht).1 n (fun j => .int (f j))) (j := i) (by show (i < 0 ∨ (arrV _ _ _).slots.size ≤ _); rw [arrV_size]; exact Classical.byContradiction hout) (g := F0 m pc ls (.int x :: .int i :: .ref a :: rest)) rfl (rest := rest) rfl (by rw [hb]; exact hdg) t
  simp only [arrV_size] at h1
  exact h1 st
theorem vx_saldZ {D : va_G} {cl : List vw_C} {ws : va_W} {tys : List (ClassId × FieldType)} {a : Nat} (hexec : p.tables.exec = Jvm.exec) (hb : c.code = cc) (hK : va_K D cl tys s) (hP : va_P D cl ws H) (q0 t0 : Nat) {cA : ClassId} {n : Nat} {f : Nat → Int32} (ha : ws[q0]? = some (a, .inl (cA, n, .inl f))) (ht : tys[t0]? = some (cA, .short)) {i : Int32} (hout : ¬ vp_in i n) (hdg : decode cc pc = .ok (.saload, 1))
    (k : ∀ tx : String, tx = (toString "Index " ++ toString i ++ toString " out of bounds for length " ++ toString n : String) → vx_Note p l e R s m args below meth c H locs cells slots Q (F0 m pc ls rest) "java/lang/ArrayIndexOutOfBoundsException" tx) : W p l e R s m args below meth c H locs cells slots Q (F0 m pc ls (.int i :: .ref a :: rest)) := by
  intro T hT X
  obtain ⟨t, st, q⟩ := k _ rfl T hT X
  refine ⟨t, ?_, q⟩
  have h1 := X.saloadOut hexec (by rw [hT]; exact hP q0 _ ha) ((hK.2 t0 _ ht).1 n (fun j => .int (f j))) (j := i) (by show (i < 0 ∨ (arrV _ _ _).slots.size ≤ _); rw [arrV_size]; exact Classical.byContradiction hout) (g := F0 m pc ls (.int i :: .ref a :: rest)) rfl (rest := rest) rfl (by rw [hb]; exact hdg) t
  simp only [arrV_size] at h1
  exact h1 st
theorem vx_sastZ {D : va_G} {cl : List vw_C} {ws : va_W} {tys : List (ClassId × FieldType)} {a : Nat} (hexec : p.tables.exec = Jvm.exec) (hb : c.code = cc) (hK : va_K D cl tys s) (hP : va_P D cl ws H) (q0 t0 : Nat) {cA : ClassId} {n : Nat} {f : Nat → Int32} (ha : ws[q0]? = some (a, .inl (cA, n, .inl f))) (ht : tys[t0]? = some (cA, .short)) {i : Int32} {x : Int32} (hout : ¬ vp_in i n) (hdg : decode cc pc = .ok (.sastore, 1))
    (k : ∀ tx : String, tx = (toString "Index " ++ toString i ++ toString " out of bounds for length " ++ toString n : String) → vx_Note p l e R s m args below meth c H locs cells slots Q (F0 m pc ls rest) "java/lang/ArrayIndexOutOfBoundsException" tx) : W p l e R s m args below meth c H locs cells slots Q (F0 m pc ls (.int x :: .int i :: .ref a :: rest)) := by
  intro T hT X
  obtain ⟨t, st, q⟩ := k _ rfl T hT X
  refine ⟨t, ?_, q⟩
  have h1 := X.sastoreOut hexec (by rw [hT]; exact hP q0 _ ha) ((hK.2 t0 _ ht).1 n (fun j => .int (f j))) (j := i) (by show (i < 0 ∨ (arrV _ _ _).slots.size ≤ _); rw [arrV_size]; exact Classical.byContradiction hout) (g := F0 m pc ls (.int x :: .int i :: .ref a :: rest)) rfl (rest := rest) rfl (by rw [hb]; exact hdg) t
  simp only [arrV_size] at h1
  exact h1 st
theorem vx_laldZ {D : va_G} {cl : List vw_C} {ws : va_W} {tys : List (ClassId × FieldType)} {a : Nat} (hexec : p.tables.exec = Jvm.exec) (hb : c.code = cc) (hK : va_K D cl tys s) (hP : va_P D cl ws H) (q0 t0 : Nat) {cA : ClassId} {n : Nat} {f : Nat → Int64} (ha : ws[q0]? = some (a, .inl (cA, n, .inr (.inl f)))) (ht : tys[t0]? = some (cA, .long)) {i : Int32} (hout : ¬ vp_in i n) (hdg : decode cc pc = .ok (.laload, 1))
    (k : ∀ tx : String, tx = (toString "Index " ++ toString i ++ toString " out of bounds for length " ++ toString n : String) → vx_Note p l e R s m args below meth c H locs cells slots Q (F0 m pc ls rest) "java/lang/ArrayIndexOutOfBoundsException" tx) : W p l e R s m args below meth c H locs cells slots Q (F0 m pc ls (.int i :: .ref a :: rest)) := by
  intro T hT X
  obtain ⟨t, st, q⟩ := k _ rfl T hT X
  refine ⟨t, ?_, q⟩
  have h1 := X.laloadOut hexec (by rw [hT]; exact hP q0 _ ha) ((hK.2 t0 _ ht).1 n (fun j => .long (f j))) (j := i) (by show (i < 0 ∨ (arrV _ _ _).slots.size ≤ _); rw [arrV_size]; exact Classical.byContradiction hout) (g := F0 m pc ls (.int i :: .ref a :: rest)) rfl (rest := rest) rfl (by rw [hb]; exact hdg) t
  simp only [arrV_size] at h1
  exact h1 st
theorem vx_lastZ {D : va_G} {cl : List vw_C} {ws : va_W} {tys : List (ClassId × FieldType)} {a : Nat} (hexec : p.tables.exec = Jvm.exec) (hb : c.code = cc) (hK : va_K D cl tys s) (hP : va_P D cl ws H) (q0 t0 : Nat) {cA : ClassId} {n : Nat} {f : Nat → Int64} (ha : ws[q0]? = some (a, .inl (cA, n, .inr (.inl f)))) (ht : tys[t0]? = some (cA, .long)) {i : Int32} {x : Int64} (hout : ¬ vp_in i n) (hdg : decode cc pc = .ok (.lastore, 1))
    (k : ∀ tx : String, tx = (toString "Index " ++ toString i ++ toString " out of bounds for length " ++ toString n : String) → vx_Note p l e R s m args below meth c H locs cells slots Q (F0 m pc ls rest) "java/lang/ArrayIndexOutOfBoundsException" tx) : W p l e R s m args below meth c H locs cells slots Q (F0 m pc ls (.long x :: .int i :: .ref a :: rest)) := by
  intro T hT X
  obtain ⟨t, st, q⟩ := k _ rfl T hT X
  refine ⟨t, ?_, q⟩
  have h1 := X.lastoreOut hexec (by rw [hT]; exact hP q0 _ ha) ((hK.2 t0 _ ht).1 n (fun j => .long (f j))) (j := i) (by show (i < 0 ∨ (arrV _ _ _).slots.size ≤ _); rw [arrV_size]; exact Classical.byContradiction hout) (g := F0 m pc ls (.long x :: .int i :: .ref a :: rest)) rfl (rest := rest) rfl (by rw [hb]; exact hdg) t
  simp only [arrV_size] at h1
  exact h1 st
theorem vx_faldZ {D : va_G} {cl : List vw_C} {ws : va_W} {tys : List (ClassId × FieldType)} {a : Nat} (hexec : p.tables.exec = Jvm.exec) (hb : c.code = cc) (hK : va_K D cl tys s) (hP : va_P D cl ws H) (q0 t0 : Nat) {cA : ClassId} {n : Nat} {f : Nat → UInt32} (ha : ws[q0]? = some (a, .inl (cA, n, .inr (.inr (.inl f))))) (ht : tys[t0]? = some (cA, .float)) {i : Int32} (hout : ¬ vp_in i n) (hdg : decode cc pc = .ok (.faload, 1))
    (k : ∀ tx : String, tx = (toString "Index " ++ toString i ++ toString " out of bounds for length " ++ toString n : String) → vx_Note p l e R s m args below meth c H locs cells slots Q (F0 m pc ls rest) "java/lang/ArrayIndexOutOfBoundsException" tx) : W p l e R s m args below meth c H locs cells slots Q (F0 m pc ls (.int i :: .ref a :: rest)) := by
  intro T hT X
  obtain ⟨t, st, q⟩ := k _ rfl T hT X
  refine ⟨t, ?_, q⟩
  have h1 := X.faloadOut hexec (by rw [hT]; exact hP q0 _ ha) ((hK.2 t0 _ ht).1 n (fun j => .float (f j))) (j := i) (by show (i < 0 ∨ (arrV _ _ _).slots.size ≤ _); rw [arrV_size]; exact Classical.byContradiction hout) (g := F0 m pc ls (.int i :: .ref a :: rest)) rfl (rest := rest) rfl (by rw [hb]; exact hdg) t
  simp only [arrV_size] at h1
  exact h1 st
theorem vx_fastZ {D : va_G} {cl : List vw_C} {ws : va_W} {tys : List (ClassId × FieldType)} {a : Nat} (hexec : p.tables.exec = Jvm.exec) (hb : c.code = cc) (hK : va_K D cl tys s) (hP : va_P D cl ws H) (q0 t0 : Nat) {cA : ClassId} {n : Nat} {f : Nat → UInt32} (ha : ws[q0]? = some (a, .inl (cA, n, .inr (.inr (.inl f))))) (ht : tys[t0]? = some (cA, .float)) {i : Int32} {x : UInt32} (hout : ¬ vp_in i n) (hdg : decode cc pc = .ok (.fastore, 1))
    (k : ∀ tx : String, tx = (toString "Index " ++ toString i ++ toString " out of bounds for length " ++ toString n : String) → vx_Note p l e R s m args below meth c H locs cells slots Q (F0 m pc ls rest) "java/lang/ArrayIndexOutOfBoundsException" tx) : W p l e R s m args below meth c H locs cells slots Q (F0 m pc ls (.float x :: .int i :: .ref a :: rest)) := by
  intro T hT X
  obtain ⟨t, st, q⟩ := k _ rfl T hT X
  refine ⟨t, ?_, q⟩
  have h1 := X.fastoreOut hexec (by rw [hT]; exact hP q0 _ ha) ((hK.2 t0 _ ht).1 n (fun j => .float (f j))) (j := i) (by show (i < 0 ∨ (arrV _ _ _).slots.size ≤ _); rw [arrV_size]; exact Classical.byContradiction hout) (g := F0 m pc ls (.float x :: .int i :: .ref a :: rest)) rfl (rest := rest) rfl (by rw [hb]; exact hdg) t
  simp only [arrV_size] at h1
  exact h1 st
theorem vx_daldZ {D : va_G} {cl : List vw_C} {ws : va_W} {tys : List (ClassId × FieldType)} {a : Nat} (hexec : p.tables.exec = Jvm.exec) (hb : c.code = cc) (hK : va_K D cl tys s) (hP : va_P D cl ws H) (q0 t0 : Nat) {cA : ClassId} {n : Nat} {f : Nat → UInt64} (ha : ws[q0]? = some (a, .inl (cA, n, .inr (.inr (.inr (.inl f)))))) (ht : tys[t0]? = some (cA, .double)) {i : Int32} (hout : ¬ vp_in i n) (hdg : decode cc pc = .ok (.daload, 1))
    (k : ∀ tx : String, tx = (toString "Index " ++ toString i ++ toString " out of bounds for length " ++ toString n : String) → vx_Note p l e R s m args below meth c H locs cells slots Q (F0 m pc ls rest) "java/lang/ArrayIndexOutOfBoundsException" tx) : W p l e R s m args below meth c H locs cells slots Q (F0 m pc ls (.int i :: .ref a :: rest)) := by
  intro T hT X
  obtain ⟨t, st, q⟩ := k _ rfl T hT X
  refine ⟨t, ?_, q⟩
  have h1 := X.daloadOut hexec (by rw [hT]; exact hP q0 _ ha) ((hK.2 t0 _ ht).1 n (fun j => .double (f j))) (j := i) (by show (i < 0 ∨ (arrV _ _ _).slots.size ≤ _); rw [arrV_size]; exact Classical.byContradiction hout) (g := F0 m pc ls (.int i :: .ref a :: rest)) rfl (rest := rest) rfl (by rw [hb]; exact hdg) t
  simp only [arrV_size] at h1
  exact h1 st
theorem vx_dastZ {D : va_G} {cl : List vw_C} {ws : va_W} {tys : List (ClassId × FieldType)} {a : Nat} (hexec : p.tables.exec = Jvm.exec) (hb : c.code = cc) (hK : va_K D cl tys s) (hP : va_P D cl ws H) (q0 t0 : Nat) {cA : ClassId} {n : Nat} {f : Nat → UInt64} (ha : ws[q0]? = some (a, .inl (cA, n, .inr (.inr (.inr (.inl f)))))) (ht : tys[t0]? = some (cA, .double)) {i : Int32} {x : UInt64} (hout : ¬ vp_in i n) (hdg : decode cc pc = .ok (.dastore, 1))
    (k : ∀ tx : String, tx = (toString "Index " ++ toString i ++ toString " out of bounds for length " ++ toString n : String) → vx_Note p l e R s m args below meth c H locs cells slots Q (F0 m pc ls rest) "java/lang/ArrayIndexOutOfBoundsException" tx) : W p l e R s m args below meth c H locs cells slots Q (F0 m pc ls (.double x :: .int i :: .ref a :: rest)) := by
  intro T hT X
  obtain ⟨t, st, q⟩ := k _ rfl T hT X
  refine ⟨t, ?_, q⟩
  have h1 := X.dastoreOut hexec (by rw [hT]; exact hP q0 _ ha) ((hK.2 t0 _ ht).1 n (fun j => .double (f j))) (j := i) (by show (i < 0 ∨ (arrV _ _ _).slots.size ≤ _); rw [arrV_size]; exact Classical.byContradiction hout) (g := F0 m pc ls (.double x :: .int i :: .ref a :: rest)) rfl (rest := rest) rfl (by rw [hb]; exact hdg) t
  simp only [arrV_size] at h1
  exact h1 st
theorem vx_arraylengthN (hexec : p.tables.exec = Jvm.exec) (hb : c.code = cc) (hdg : decode cc pc = .ok (.arraylength, 1)) (k : vx_NoteN p l e R s m args below meth c H locs cells slots Q (F0 m pc ls rest)) : W p l e R s m args below meth c H locs cells slots Q (F0 m pc ls (.null :: rest)) := by
  intro T hT X
  obtain ⟨t, st, q⟩ := k T hT X
  exact ⟨t, X.arraylengthNull hexec (g := F0 m pc ls (.null :: rest)) rfl (rest := rest) rfl (by rw [hb]; exact hdg) t st, q⟩
theorem vx_ialoadN (hexec : p.tables.exec = Jvm.exec) (hb : c.code = cc) {i : Int32} (hdg : decode cc pc = .ok (.iaload, 1)) (k : vx_NoteN p l e R s m args below meth c H locs cells slots Q (F0 m pc ls rest)) : W p l e R s m args below meth c H locs cells slots Q (F0 m pc ls (.int i :: .null :: rest)) := by
  intro T hT X
  obtain ⟨t, st, q⟩ := k T hT X
  exact ⟨t, X.ialoadNull hexec (g := F0 m pc ls (.int i :: .null :: rest)) rfl (rest := rest) rfl (by rw [hb]; exact hdg) t st, q⟩
theorem vx_laloadN (hexec : p.tables.exec = Jvm.exec) (hb : c.code = cc) {i : Int32} (hdg : decode cc pc = .ok (.laload, 1)) (k : vx_NoteN p l e R s m args below meth c H locs cells slots Q (F0 m pc ls rest)) : W p l e R s m args below meth c H locs cells slots Q (F0 m pc ls (.int i :: .null :: rest)) := by
  intro T hT X
  obtain ⟨t, st, q⟩ := k T hT X
  exact ⟨t, X.laloadNull hexec (g := F0 m pc ls (.int i :: .null :: rest)) rfl (rest := rest) rfl (by rw [hb]; exact hdg) t st, q⟩
theorem vx_faloadN (hexec : p.tables.exec = Jvm.exec) (hb : c.code = cc) {i : Int32} (hdg : decode cc pc = .ok (.faload, 1)) (k : vx_NoteN p l e R s m args below meth c H locs cells slots Q (F0 m pc ls rest)) : W p l e R s m args below meth c H locs cells slots Q (F0 m pc ls (.int i :: .null :: rest)) := by
  intro T hT X
  obtain ⟨t, st, q⟩ := k T hT X
  exact ⟨t, X.faloadNull hexec (g := F0 m pc ls (.int i :: .null :: rest)) rfl (rest := rest) rfl (by rw [hb]; exact hdg) t st, q⟩
theorem vx_daloadN (hexec : p.tables.exec = Jvm.exec) (hb : c.code = cc) {i : Int32} (hdg : decode cc pc = .ok (.daload, 1)) (k : vx_NoteN p l e R s m args below meth c H locs cells slots Q (F0 m pc ls rest)) : W p l e R s m args below meth c H locs cells slots Q (F0 m pc ls (.int i :: .null :: rest)) := by
  intro T hT X
  obtain ⟨t, st, q⟩ := k T hT X
  exact ⟨t, X.daloadNull hexec (g := F0 m pc ls (.int i :: .null :: rest)) rfl (rest := rest) rfl (by rw [hb]; exact hdg) t st, q⟩
theorem vx_aaloadN (hexec : p.tables.exec = Jvm.exec) (hb : c.code = cc) {i : Int32} (hdg : decode cc pc = .ok (.aaload, 1)) (k : vx_NoteN p l e R s m args below meth c H locs cells slots Q (F0 m pc ls rest)) : W p l e R s m args below meth c H locs cells slots Q (F0 m pc ls (.int i :: .null :: rest)) := by
  intro T hT X
  obtain ⟨t, st, q⟩ := k T hT X
  exact ⟨t, X.aaloadNull hexec (g := F0 m pc ls (.int i :: .null :: rest)) rfl (rest := rest) rfl (by rw [hb]; exact hdg) t st, q⟩
theorem vx_baloadN (hexec : p.tables.exec = Jvm.exec) (hb : c.code = cc) {i : Int32} (hdg : decode cc pc = .ok (.baload, 1)) (k : vx_NoteN p l e R s m args below meth c H locs cells slots Q (F0 m pc ls rest)) : W p l e R s m args below meth c H locs cells slots Q (F0 m pc ls (.int i :: .null :: rest)) := by
  intro T hT X
  obtain ⟨t, st, q⟩ := k T hT X
  exact ⟨t, X.baloadNull hexec (g := F0 m pc ls (.int i :: .null :: rest)) rfl (rest := rest) rfl (by rw [hb]; exact hdg) t st, q⟩
theorem vx_caloadN (hexec : p.tables.exec = Jvm.exec) (hb : c.code = cc) {i : Int32} (hdg : decode cc pc = .ok (.caload, 1)) (k : vx_NoteN p l e R s m args below meth c H locs cells slots Q (F0 m pc ls rest)) : W p l e R s m args below meth c H locs cells slots Q (F0 m pc ls (.int i :: .null :: rest)) := by
  intro T hT X
  obtain ⟨t, st, q⟩ := k T hT X
  exact ⟨t, X.caloadNull hexec (g := F0 m pc ls (.int i :: .null :: rest)) rfl (rest := rest) rfl (by rw [hb]; exact hdg) t st, q⟩
theorem vx_saloadN (hexec : p.tables.exec = Jvm.exec) (hb : c.code = cc) {i : Int32} (hdg : decode cc pc = .ok (.saload, 1)) (k : vx_NoteN p l e R s m args below meth c H locs cells slots Q (F0 m pc ls rest)) : W p l e R s m args below meth c H locs cells slots Q (F0 m pc ls (.int i :: .null :: rest)) := by
  intro T hT X
  obtain ⟨t, st, q⟩ := k T hT X
  exact ⟨t, X.saloadNull hexec (g := F0 m pc ls (.int i :: .null :: rest)) rfl (rest := rest) rfl (by rw [hb]; exact hdg) t st, q⟩
theorem vx_iastoreN (hexec : p.tables.exec = Jvm.exec) (hb : c.code = cc) {x : Int32} {i : Int32} (hdg : decode cc pc = .ok (.iastore, 1)) (k : vx_NoteN p l e R s m args below meth c H locs cells slots Q (F0 m pc ls rest)) : W p l e R s m args below meth c H locs cells slots Q (F0 m pc ls (.int x :: .int i :: .null :: rest)) := by
  intro T hT X
  obtain ⟨t, st, q⟩ := k T hT X
  exact ⟨t, X.iastoreNull hexec (g := F0 m pc ls (.int x :: .int i :: .null :: rest)) rfl (rest := rest) rfl (by rw [hb]; exact hdg) t st, q⟩
theorem vx_lastoreN (hexec : p.tables.exec = Jvm.exec) (hb : c.code = cc) {x : Int64} {i : Int32} (hdg : decode cc pc = .ok (.lastore, 1)) (k : vx_NoteN p l e R s m args below meth c H locs cells slots Q (F0 m pc ls rest)) : W p l e R s m args below meth c H locs cells slots Q (F0 m pc ls (.long x :: .int i :: .null :: rest)) := by
  intro T hT X
  obtain ⟨t, st, q⟩ := k T hT X
  exact ⟨t, X.lastoreNull hexec (g := F0 m pc ls (.long x :: .int i :: .null :: rest)) rfl (rest := rest) rfl (by rw [hb]; exact hdg) t st, q⟩
theorem vx_fastoreN (hexec : p.tables.exec = Jvm.exec) (hb : c.code = cc) {x : UInt32} {i : Int32} (hdg : decode cc pc = .ok (.fastore, 1)) (k : vx_NoteN p l e R s m args below meth c H locs cells slots Q (F0 m pc ls rest)) : W p l e R s m args below meth c H locs cells slots Q (F0 m pc ls (.float x :: .int i :: .null :: rest)) := by
  intro T hT X
  obtain ⟨t, st, q⟩ := k T hT X
  exact ⟨t, X.fastoreNull hexec (g := F0 m pc ls (.float x :: .int i :: .null :: rest)) rfl (rest := rest) rfl (by rw [hb]; exact hdg) t st, q⟩
theorem vx_dastoreN (hexec : p.tables.exec = Jvm.exec) (hb : c.code = cc) {x : UInt64} {i : Int32} (hdg : decode cc pc = .ok (.dastore, 1)) (k : vx_NoteN p l e R s m args below meth c H locs cells slots Q (F0 m pc ls rest)) : W p l e R s m args below meth c H locs cells slots Q (F0 m pc ls (.double x :: .int i :: .null :: rest)) := by
  intro T hT X
  obtain ⟨t, st, q⟩ := k T hT X
  exact ⟨t, X.dastoreNull hexec (g := F0 m pc ls (.double x :: .int i :: .null :: rest)) rfl (rest := rest) rfl (by rw [hb]; exact hdg) t st, q⟩
theorem vx_bastoreN (hexec : p.tables.exec = Jvm.exec) (hb : c.code = cc) {x : Int32} {i : Int32} (hdg : decode cc pc = .ok (.bastore, 1)) (k : vx_NoteN p l e R s m args below meth c H locs cells slots Q (F0 m pc ls rest)) : W p l e R s m args below meth c H locs cells slots Q (F0 m pc ls (.int x :: .int i :: .null :: rest)) := by
  intro T hT X
  obtain ⟨t, st, q⟩ := k T hT X
  exact ⟨t, X.bastoreNull hexec (g := F0 m pc ls (.int x :: .int i :: .null :: rest)) rfl (rest := rest) rfl (by rw [hb]; exact hdg) t st, q⟩
theorem vx_castoreN (hexec : p.tables.exec = Jvm.exec) (hb : c.code = cc) {x : Int32} {i : Int32} (hdg : decode cc pc = .ok (.castore, 1)) (k : vx_NoteN p l e R s m args below meth c H locs cells slots Q (F0 m pc ls rest)) : W p l e R s m args below meth c H locs cells slots Q (F0 m pc ls (.int x :: .int i :: .null :: rest)) := by
  intro T hT X
  obtain ⟨t, st, q⟩ := k T hT X
  exact ⟨t, X.castoreNull hexec (g := F0 m pc ls (.int x :: .int i :: .null :: rest)) rfl (rest := rest) rfl (by rw [hb]; exact hdg) t st, q⟩
theorem vx_sastoreN (hexec : p.tables.exec = Jvm.exec) (hb : c.code = cc) {x : Int32} {i : Int32} (hdg : decode cc pc = .ok (.sastore, 1)) (k : vx_NoteN p l e R s m args below meth c H locs cells slots Q (F0 m pc ls rest)) : W p l e R s m args below meth c H locs cells slots Q (F0 m pc ls (.int x :: .int i :: .null :: rest)) := by
  intro T hT X
  obtain ⟨t, st, q⟩ := k T hT X
  exact ⟨t, X.sastoreNull hexec (g := F0 m pc ls (.int x :: .int i :: .null :: rest)) rfl (rest := rest) rfl (by rw [hb]; exact hdg) t st, q⟩
theorem vx_invokeN {own C : String} {index maxL : Nat} {y : MethodName} {bytes : ByteArray} {ret : Option FieldType} (hexec : p.tables.exec = Jvm.exec) (hb : c.code = cc) (hown : s.vm.findClass own = some m.cls) (hlink : (Cond.methodLink own index y).before args s = true) (hinst : (Cond.instanceMethod y).before args s = true) (hcode : (Cond.code y bytes maxL ret).before args s = true) (hsel : (Cond.selects C y y).before args s = true)
    (hx : y.cls ≠ "java/lang/invoke/MethodHandle" ∧ y.cls ≠ "java/lang/invoke/VarHandle") {As : List Value} (hlen : (parseMethodDescriptor y.desc).map (fun d => d.parameters.length) = some As.length) (hdg : decode cc pc = .ok (.invokevirtual index, 3))
    (k : vx_NoteN p l e R s m args below meth c H locs cells slots Q (F0 m pc ls rest)) {st0 : List Value} (hst : st0 = As.reverse ++ .null :: rest) : W p l e R s m args below meth c H locs cells slots Q (F0 m pc ls st0) := by
  intro T hT X
  obtain ⟨r0, r, hn, hrm, hstR, hsigR⟩ := va_Decl.of hinst hcode
  obtain ⟨c2, r2, m2, q1, q2, q3, q4, kP, hkP, hkPi⟩ := Cond.selects_spec hsel
  cases hn.symm.trans q3
  have hl9 : As.length = r.sig.parameters.length := by
    rw [hsigR] at hlen
    exact (Option.some.inj hlen).symm
  obtain ⟨vm', X1, st1⟩ := X.invokevirtualNull hexec hown hlink hn hrm hstR hkP hkPi hx (g := F0 m pc ls st0) rfl (argsL := As) (rest := rest) hl9 hst (by rw [hb]; exact hdg)
  obtain ⟨t, st, q⟩ := k (T.setVm vm') hT X1
  exact ⟨t, st1 t st, q⟩
theorem vx_newarrayZ {atype : ArrayType} (hexec : p.tables.exec = Jvm.exec) (hb : c.code = cc) {n : Int32} (h0 : n < 0) (hdg : decode cc pc = .ok (.newarray atype, 2)) (k : ∀ tx : String, tx = toString n → vx_Note p l e R s m args below meth c H locs cells slots Q (F0 m pc ls rest) "java/lang/NegativeArraySizeException" tx) : W p l e R s m args below meth c H locs cells slots Q (F0 m pc ls (.int n :: rest)) := by
  intro T hT X
  obtain ⟨t, st, q⟩ := k _ rfl T hT X
  exact ⟨t, X.newarrayNegative hexec (g := F0 m pc ls (.int n :: rest)) rfl h0 (rest := rest) rfl (by rw [hb]; exact hdg) t st, q⟩
end
end VXM
/-! ===== END ===== -/

def RX0 : String := "CensusLoom$Hiding"
def TX0 : u_T := fun k => match k with
  | _ => ("", "", "", false)
def tyX0 : Nat → FieldType := fun k => match k with
  | _ => .int
theorem nmX0 : ∀ a, a < 0 → ∀ b, b < 0 → a ≠ b → (TX0 a).2.1 ≠ (TX0 b).2.1 := by decide +kernel
theorem tyX0_ok : ∀ k, k < 0 → parseFieldDescriptor (TX0 k).2.2.1 = some (tyX0 k) := by decide +kernel
abbrev cX0_has : ByteArray := prog_2_method_2_code
def yX0_has : MethodName := ⟨RX0, "has", "(II)Z"⟩
abbrev cX0_blockEnd : ByteArray := prog_2_method_3_code
def yX0_blockEnd : MethodName := ⟨RX0, "blockEnd", "(I)I"⟩
abbrev cX0_groupEnd : ByteArray := prog_2_method_4_code
def yX0_groupEnd : MethodName := ⟨RX0, "groupEnd", "(I)I"⟩
abbrev cX0_endsOf : ByteArray := prog_2_method_5_code
def yX0_endsOf : MethodName := ⟨RX0, "endsOf", "(I)I"⟩
abbrev cX0_endsInBlock : ByteArray := prog_2_method_6_code
def yX0_endsInBlock : MethodName := ⟨RX0, "endsInBlock", "(II)I"⟩
abbrev cX0_smallCells : ByteArray := prog_2_method_7_code
def yX0_smallCells : MethodName := ⟨RX0, "smallCells", "([I)I"⟩
abbrev cX0_choose : ByteArray := prog_2_method_8_code
def yX0_choose : MethodName := ⟨RX0, "choose", "([I)I"⟩
abbrev cX0_firstFound : ByteArray := prog_2_method_9_code
def yX0_firstFound : MethodName := ⟨RX0, "firstFound", "(I)I"⟩
abbrev cX0_nextToHide : ByteArray := prog_2_method_10_code
def yX0_nextToHide : MethodName := ⟨RX0, "nextToHide", "([III)I"⟩
abbrev cX0_leastOf : ByteArray := prog_2_method_11_code
def yX0_leastOf : MethodName := ⟨RX0, "leastOf", "([II)I"⟩
abbrev cX0_tiedTo : ByteArray := prog_2_method_12_code
def yX0_tiedTo : MethodName := ⟨RX0, "tiedTo", "(II)I"⟩
abbrev cX0_isFound : ByteArray := prog_2_method_13_code
def yX0_isFound : MethodName := ⟨RX0, "isFound", "(II)Z"⟩
abbrev cX0_numberFound : ByteArray := prog_2_method_14_code
def yX0_numberFound : MethodName := ⟨RX0, "numberFound", "(I)I"⟩
abbrev cX0_numberWithoutWay : ByteArray := prog_2_method_15_code
def yX0_numberWithoutWay : MethodName := ⟨RX0, "numberWithoutWay", "(I)I"⟩
abbrev cX0_hasClosedWay : ByteArray := prog_2_method_16_code
def yX0_hasClosedWay : MethodName := ⟨RX0, "hasClosedWay", "(II)Z"⟩
abbrev cX0_besides : ByteArray := prog_2_method_17_code
def yX0_besides : MethodName := ⟨RX0, "besides", "(IZ)I"⟩
abbrev cX0_cellsOfBlock : ByteArray := prog_2_method_18_code
def yX0_cellsOfBlock : MethodName := ⟨RX0, "cellsOfBlock", "(I)I"⟩
abbrev cX0_cellsOfGroup : ByteArray := prog_2_method_19_code
def yX0_cellsOfGroup : MethodName := ⟨RX0, "cellsOfGroup", "(I)I"⟩
def RX1 : String := "CensusLoom$Links"
def TX1 : u_T := fun k => match k with
  | 0 => ("CensusLoom$Links", "people", "LCensusLoom$People;", true)
  | 1 => ("CensusLoom$Links", "decisions", "[C", true)
  | 2 => ("CensusLoom$Links", "namePoints", "I", false)
  | 3 => ("CensusLoom$Links", "yearPoints", "I", false)
  | 4 => ("CensusLoom$Links", "placePoints", "I", false)
  | 5 => ("CensusLoom$Links", "lower", "I", false)
  | _ => ("CensusLoom$Links", "upper", "I", false)
def tyX1 : Nat → FieldType := fun k => match k with
  | 0 => .object "CensusLoom$People"
  | 1 => .array .char
  | 2 => .int
  | 3 => .int
  | 4 => .int
  | 5 => .int
  | _ => .int
theorem nmX1 : ∀ a, a < 7 → ∀ b, b < 7 → a ≠ b → (TX1 a).2.1 ≠ (TX1 b).2.1 := by decide +kernel
theorem tyX1_ok : ∀ k, k < 7 → parseFieldDescriptor (TX1 k).2.2.1 = some (tyX1 k) := by decide +kernel
abbrev cX1_init : ByteArray := prog_3_method_1_code
def yX1_init : MethodName := ⟨RX1, "<init>", "(LCensusLoom$People;)V"⟩
abbrev cX1_changePoints : ByteArray := prog_3_method_2_code
def yX1_changePoints : MethodName := ⟨RX1, "changePoints", "(CI)I"⟩
abbrev cX1_bestScore : ByteArray := prog_3_method_3_code
def yX1_bestScore : MethodName := ⟨RX1, "bestScore", "()I"⟩
abbrev cX1_scoreOf : ByteArray := prog_3_method_4_code
def yX1_scoreOf : MethodName := ⟨RX1, "scoreOf", "(II)I"⟩
abbrev cX1_nameScore : ByteArray := prog_3_method_5_code
def yX1_nameScore : MethodName := ⟨RX1, "nameScore", "(II)I"⟩
abbrev cX1_yearScore : ByteArray := prog_3_method_6_code
def yX1_yearScore : MethodName := ⟨RX1, "yearScore", "(I)I"⟩
abbrev cX1_placeScore : ByteArray := prog_3_method_7_code
def yX1_placeScore : MethodName := ⟨RX1, "placeScore", "(ZZ)I"⟩
abbrev cX1_placeOfPair : ByteArray := prog_3_method_8_code
def yX1_placeOfPair : MethodName := ⟨RX1, "placeOfPair", "(II)I"⟩
abbrev cX1_isDecided : ByteArray := prog_3_method_9_code
def yX1_isDecided : MethodName := ⟨RX1, "isDecided", "(II)Z"⟩
abbrev cX1_putDecision : ByteArray := prog_3_method_10_code
def yX1_putDecision : MethodName := ⟨RX1, "putDecision", "(IIC)V"⟩
abbrev cX1_kindOf : ByteArray := prog_3_method_11_code
def yX1_kindOf : MethodName := ⟨RX1, "kindOf", "(II)C"⟩
def RX2 : String := "CensusLoom$Pairing"
def TX2 : u_T := fun k => match k with
  | 0 => ("CensusLoom$Pairing", "people", "LCensusLoom$People;", true)
  | 1 => ("CensusLoom$Pairing", "links", "LCensusLoom$Links;", true)
  | 2 => ("CensusLoom$Pairing", "tally", "LCensusLoom$Tally;", true)
  | 3 => ("CensusLoom$Pairing", "partner", "[I", true)
  | 4 => ("CensusLoom$Pairing", "linkedCensus", "[I", true)
  | 5 => ("CensusLoom$Pairing", "linkedCheck", "[I", true)
  | 6 => ("CensusLoom$Pairing", "linkedScore", "[I", true)
  | 7 => ("CensusLoom$Pairing", "linkedPairs", "I", false)
  | 8 => ("CensusLoom$Pairing", "size", "I", false)
  | _ => ("CensusLoom$Pairing", "scoreSum", "I", false)
def tyX2 : Nat → FieldType := fun k => match k with
  | 0 => .object "CensusLoom$People"
  | 1 => .object "CensusLoom$Links"
  | 2 => .object "CensusLoom$Tally"
  | 3 => .array .int
  | 4 => .array .int
  | 5 => .array .int
  | 6 => .array .int
  | 7 => .int
  | 8 => .int
  | _ => .int
theorem nmX2 : ∀ a, a < 10 → ∀ b, b < 10 → a ≠ b → (TX2 a).2.1 ≠ (TX2 b).2.1 := by decide +kernel
theorem tyX2_ok : ∀ k, k < 10 → parseFieldDescriptor (TX2 k).2.2.1 = some (tyX2 k) := by decide +kernel
abbrev cX2_init : ByteArray := prog_4_method_1_code
def yX2_init : MethodName := ⟨RX2, "<init>", "(LCensusLoom$People;LCensusLoom$Links;LCensusLoom$Tally;)V"⟩
abbrev cX2_renew : ByteArray := prog_4_method_2_code
def yX2_renew : MethodName := ⟨RX2, "renew", "()V"⟩
abbrev cX2_gatherLinked : ByteArray := prog_4_method_3_code
def yX2_gatherLinked : MethodName := ⟨RX2, "gatherLinked", "()V"⟩
abbrev cX2_takeWithScore : ByteArray := prog_4_method_4_code
def yX2_takeWithScore : MethodName := ⟨RX2, "takeWithScore", "(I)V"⟩
def RX3 : String := "CensusLoom$People"
def TX3 : u_T := fun k => match k with
  | 0 => ("CensusLoom$People", "places", "LCensusLoom$Places;", true)
  | 1 => ("CensusLoom$People", "isCensus", "[Z", true)
  | 2 => ("CensusLoom$People", "addresses", "[I", true)
  | 3 => ("CensusLoom$People", "names", "[I", true)
  | 4 => ("CensusLoom$People", "years", "[I", true)
  | _ => ("CensusLoom$People", "size", "I", false)
def tyX3 : Nat → FieldType := fun k => match k with
  | 0 => .object "CensusLoom$Places"
  | 1 => .array .boolean
  | 2 => .array .int
  | 3 => .array .int
  | 4 => .array .int
  | _ => .int
theorem nmX3 : ∀ a, a < 6 → ∀ b, b < 6 → a ≠ b → (TX3 a).2.1 ≠ (TX3 b).2.1 := by decide +kernel
theorem tyX3_ok : ∀ k, k < 6 → parseFieldDescriptor (TX3 k).2.2.1 = some (tyX3 k) := by decide +kernel
abbrev cX3_init : ByteArray := prog_5_method_1_code
def yX3_init : MethodName := ⟨RX3, "<init>", "(LCensusLoom$Places;)V"⟩
abbrev cX3_add : ByteArray := prog_5_method_2_code
def yX3_add : MethodName := ⟨RX3, "add", "(ZIII)I"⟩
abbrev cX3_blockAt : ByteArray := prog_5_method_3_code
def yX3_blockAt : MethodName := ⟨RX3, "blockAt", "(I)I"⟩
abbrev cX3_groupAt : ByteArray := prog_5_method_4_code
def yX3_groupAt : MethodName := ⟨RX3, "groupAt", "(I)I"⟩
def RX4 : String := "CensusLoom$Places"
def TX4 : u_T := fun k => match k with
  | 0 => ("CensusLoom$Places", "blockOfAddress", "[I", true)
  | 1 => ("CensusLoom$Places", "blocks", "I", false)
  | _ => ("CensusLoom$Places", "addresses", "I", false)
def tyX4 : Nat → FieldType := fun k => match k with
  | 0 => .array .int
  | 1 => .int
  | _ => .int
theorem nmX4 : ∀ a, a < 3 → ∀ b, b < 3 → a ≠ b → (TX4 a).2.1 ≠ (TX4 b).2.1 := by decide +kernel
theorem tyX4_ok : ∀ k, k < 3 → parseFieldDescriptor (TX4 k).2.2.1 = some (tyX4 k) := by decide +kernel
abbrev cX4_init : ByteArray := prog_6_method_1_code
def yX4_init : MethodName := ⟨RX4, "<init>", "()V"⟩
abbrev cX4_hasAddress : ByteArray := prog_6_method_2_code
def yX4_hasAddress : MethodName := ⟨RX4, "hasAddress", "(I)Z"⟩
abbrev cX4_openBlock : ByteArray := prog_6_method_3_code
def yX4_openBlock : MethodName := ⟨RX4, "openBlock", "()I"⟩
abbrev cX4_openAddress : ByteArray := prog_6_method_4_code
def yX4_openAddress : MethodName := ⟨RX4, "openAddress", "(I)I"⟩
abbrev cX4_move : ByteArray := prog_6_method_5_code
def yX4_move : MethodName := ⟨RX4, "move", "(III)I"⟩
def RX5 : String := "CensusLoom$Table"
def TX5 : u_T := fun k => match k with
  | 0 => ("CensusLoom$Table", "blocks", "I", true)
  | 1 => ("CensusLoom$Table", "counts", "[I", true)
  | 2 => ("CensusLoom$Table", "hidden", "I", true)
  | 3 => ("CensusLoom$Table", "line", "Ljava/lang/String;", true)
  | _ => ("CensusLoom$Table", "isUndone", "Z", false)
def tyX5 : Nat → FieldType := fun k => match k with
  | 0 => .int
  | 1 => .array .int
  | 2 => .int
  | 3 => .object "java/lang/String"
  | _ => .boolean
theorem nmX5 : ∀ a, a < 5 → ∀ b, b < 5 → a ≠ b → (TX5 a).2.1 ≠ (TX5 b).2.1 := by decide +kernel
theorem tyX5_ok : ∀ k, k < 5 → parseFieldDescriptor (TX5 k).2.2.1 = some (tyX5 k) := by decide +kernel
abbrev cX5_init : ByteArray := prog_7_method_1_code
def yX5_init : MethodName := ⟨RX5, "<init>", "(I[II)V"⟩
abbrev cX5_lineOf : ByteArray := prog_7_method_2_code
def yX5_lineOf : MethodName := ⟨RX5, "lineOf", "(I[II)Ljava/lang/String;"⟩
abbrev cX5_shows : ByteArray := prog_7_method_3_code
def yX5_shows : MethodName := ⟨RX5, "shows", "(I[I)Z"⟩
abbrev cX5_sumOfBlock : ByteArray := prog_7_method_4_code
def yX5_sumOfBlock : MethodName := ⟨RX5, "sumOfBlock", "(I)I"⟩
abbrev cX5_sumOfGroup : ByteArray := prog_7_method_5_code
def yX5_sumOfGroup : MethodName := ⟨RX5, "sumOfGroup", "(I)I"⟩
def RX6 : String := "CensusLoom$Tally"
def TX6 : u_T := fun k => match k with
  | 0 => ("CensusLoom$Tally", "people", "LCensusLoom$People;", true)
  | 1 => ("CensusLoom$Tally", "links", "LCensusLoom$Links;", true)
  | 2 => ("CensusLoom$Tally", "isRepeated", "[Z", true)
  | 3 => ("CensusLoom$Tally", "counts", "[I", true)
  | 4 => ("CensusLoom$Tally", "counted", "I", false)
  | _ => ("CensusLoom$Tally", "repeated", "I", false)
def tyX6 : Nat → FieldType := fun k => match k with
  | 0 => .object "CensusLoom$People"
  | 1 => .object "CensusLoom$Links"
  | 2 => .array .boolean
  | 3 => .array .int
  | 4 => .int
  | _ => .int
theorem nmX6 : ∀ a, a < 6 → ∀ b, b < 6 → a ≠ b → (TX6 a).2.1 ≠ (TX6 b).2.1 := by decide +kernel
theorem tyX6_ok : ∀ k, k < 6 → parseFieldDescriptor (TX6 k).2.2.1 = some (tyX6 k) := by decide +kernel
abbrev cX6_init : ByteArray := prog_8_method_1_code
def yX6_init : MethodName := ⟨RX6, "<init>", "(LCensusLoom$People;LCensusLoom$Links;)V"⟩
abbrev cX6_renew : ByteArray := prog_8_method_2_code
def yX6_renew : MethodName := ⟨RX6, "renew", "()V"⟩
abbrev cX6_repeatsEarlier : ByteArray := prog_8_method_3_code
def yX6_repeatsEarlier : MethodName := ⟨RX6, "repeatsEarlier", "(I)Z"⟩
abbrev cX6_isCounted : ByteArray := prog_8_method_4_code
def yX6_isCounted : MethodName := ⟨RX6, "isCounted", "(I)Z"⟩
abbrev cX6_hasCounts : ByteArray := prog_8_method_5_code
def yX6_hasCounts : MethodName := ⟨RX6, "hasCounts", "([I)Z"⟩
def RX7 : String := "CensusLoom"
def TX7 : u_T := fun k => match k with
  | 0 => ("CensusLoom", "places", "LCensusLoom$Places;", true)
  | 1 => ("CensusLoom", "people", "LCensusLoom$People;", true)
  | 2 => ("CensusLoom", "links", "LCensusLoom$Links;", true)
  | 3 => ("CensusLoom", "kept", "LCensusLoom$Tally;", true)
  | 4 => ("CensusLoom", "anew", "LCensusLoom$Tally;", true)
  | 5 => ("CensusLoom", "pairing", "LCensusLoom$Pairing;", true)
  | 6 => ("CensusLoom", "tables", "[LCensusLoom$Table;", true)
  | _ => ("CensusLoom", "told", "I", false)
def tyX7 : Nat → FieldType := fun k => match k with
  | 0 => .object "CensusLoom$Places"
  | 1 => .object "CensusLoom$People"
  | 2 => .object "CensusLoom$Links"
  | 3 => .object "CensusLoom$Tally"
  | 4 => .object "CensusLoom$Tally"
  | 5 => .object "CensusLoom$Pairing"
  | 6 => .array (.object "CensusLoom$Table")
  | _ => .int
theorem nmX7 : ∀ a, a < 8 → ∀ b, b < 8 → a ≠ b → (TX7 a).2.1 ≠ (TX7 b).2.1 := by decide +kernel
theorem tyX7_ok : ∀ k, k < 8 → parseFieldDescriptor (TX7 k).2.2.1 = some (tyX7 k) := by decide +kernel
abbrev cX7_init : ByteArray := prog_1_method_1_code
def yX7_init : MethodName := ⟨RX7, "<init>", "()V"⟩
abbrev cX7_addBlock : ByteArray := prog_1_method_2_code
def yX7_addBlock : MethodName := ⟨RX7, "addBlock", "()I"⟩
abbrev cX7_addAddress : ByteArray := prog_1_method_3_code
def yX7_addAddress : MethodName := ⟨RX7, "addAddress", "(I)I"⟩
abbrev cX7_split : ByteArray := prog_1_method_4_code
def yX7_split : MethodName := ⟨RX7, "split", "(II)I"⟩
abbrev cX7_join : ByteArray := prog_1_method_5_code
def yX7_join : MethodName := ⟨RX7, "join", "(II)I"⟩
abbrev cX7_addRecord : ByteArray := prog_1_method_6_code
def yX7_addRecord : MethodName := ⟨RX7, "addRecord", "(CIII)I"⟩
abbrev cX7_blockOf : ByteArray := prog_1_method_7_code
def yX7_blockOf : MethodName := ⟨RX7, "blockOf", "(I)I"⟩
abbrev cX7_setPoints : ByteArray := prog_1_method_8_code
def yX7_setPoints : MethodName := ⟨RX7, "setPoints", "(CI)I"⟩
abbrev cX7_setBounds : ByteArray := prog_1_method_9_code
def yX7_setBounds : MethodName := ⟨RX7, "setBounds", "(II)I"⟩
abbrev cX7_score : ByteArray := prog_1_method_10_code
def yX7_score : MethodName := ⟨RX7, "score", "(II)I"⟩
abbrev cX7_decide : ByteArray := prog_1_method_11_code
def yX7_decide : MethodName := ⟨RX7, "decide", "(IIZ)I"⟩
abbrev cX7_takeBack : ByteArray := prog_1_method_12_code
def yX7_takeBack : MethodName := ⟨RX7, "takeBack", "(II)I"⟩
abbrev cX7_link : ByteArray := prog_1_method_13_code
def yX7_link : MethodName := ⟨RX7, "link", "(II)C"⟩
abbrev cX7_openPairs : ByteArray := prog_1_method_14_code
def yX7_openPairs : MethodName := ⟨RX7, "openPairs", "()I"⟩
abbrev cX7_isDouble : ByteArray := prog_1_method_15_code
def yX7_isDouble : MethodName := ⟨RX7, "isDouble", "(I)Z"⟩
abbrev cX7_matchOf : ByteArray := prog_1_method_16_code
def yX7_matchOf : MethodName := ⟨RX7, "matchOf", "(I)I"⟩
abbrev cX7_matches : ByteArray := prog_1_method_17_code
def yX7_matches : MethodName := ⟨RX7, "matches", "()I"⟩
abbrev cX7_count : ByteArray := prog_1_method_18_code
def yX7_count : MethodName := ⟨RX7, "count", "(II)I"⟩
abbrev cX7_countAnew : ByteArray := prog_1_method_19_code
def yX7_countAnew : MethodName := ⟨RX7, "countAnew", "(II)I"⟩
abbrev cX7_estimate : ByteArray := prog_1_method_20_code
def yX7_estimate : MethodName := ⟨RX7, "estimate", "()J"⟩
abbrev cX7_doubleShare : ByteArray := prog_1_method_21_code
def yX7_doubleShare : MethodName := ⟨RX7, "doubleShare", "()F"⟩
abbrev cX7_meanScore : ByteArray := prog_1_method_22_code
def yX7_meanScore : MethodName := ⟨RX7, "meanScore", "()D"⟩
abbrev cX7_tell : ByteArray := prog_1_method_23_code
def yX7_tell : MethodName := ⟨RX7, "tell", "()I"⟩
abbrev cX7_stateOf : ByteArray := prog_1_method_24_code
def yX7_stateOf : MethodName := ⟨RX7, "stateOf", "(I)C"⟩
abbrev cX7_isHidden : ByteArray := prog_1_method_25_code
def yX7_isHidden : MethodName := ⟨RX7, "isHidden", "(III)Z"⟩
abbrev cX7_cell : ByteArray := prog_1_method_26_code
def yX7_cell : MethodName := ⟨RX7, "cell", "(III)I"⟩
abbrev cX7_blockSum : ByteArray := prog_1_method_27_code
def yX7_blockSum : MethodName := ⟨RX7, "blockSum", "(II)I"⟩
abbrev cX7_groupSum : ByteArray := prog_1_method_28_code
def yX7_groupSum : MethodName := ⟨RX7, "groupSum", "(II)I"⟩
abbrev cX7_holes : ByteArray := prog_1_method_29_code
def yX7_holes : MethodName := ⟨RX7, "holes", "(I)I"⟩
abbrev cX7_isAtRisk : ByteArray := prog_1_method_30_code
def yX7_isAtRisk : MethodName := ⟨RX7, "isAtRisk", "(III)Z"⟩
abbrev cX7_found : ByteArray := prog_1_method_31_code
def yX7_found : MethodName := ⟨RX7, "found", "(I)I"⟩
abbrev cX7_foundByWays : ByteArray := prog_1_method_32_code
def yX7_foundByWays : MethodName := ⟨RX7, "foundByWays", "(I)I"⟩
abbrev cX7_lineLength : ByteArray := prog_1_method_33_code
def yX7_lineLength : MethodName := ⟨RX7, "lineLength", "(I)I"⟩
abbrev cX7_lineAt : ByteArray := prog_1_method_34_code
def yX7_lineAt : MethodName := ⟨RX7, "lineAt", "(II)C"⟩
abbrev cX7_isSafe : ByteArray := prog_1_method_35_code
def yX7_isSafe : MethodName := ⟨RX7, "isSafe", "()Z"⟩
abbrev cX7_isSafeTable : ByteArray := prog_1_method_36_code
def yX7_isSafeTable : MethodName := ⟨RX7, "isSafeTable", "(LCensusLoom$Table;)Z"⟩
abbrev cX7_settle : ByteArray := prog_1_method_37_code
def yX7_settle : MethodName := ⟨RX7, "settle", "()I"⟩
abbrev cX7_needBlock : ByteArray := prog_1_method_38_code
def yX7_needBlock : MethodName := ⟨RX7, "needBlock", "(I)V"⟩
abbrev cX7_needAddress : ByteArray := prog_1_method_39_code
def yX7_needAddress : MethodName := ⟨RX7, "needAddress", "(I)V"⟩
abbrev cX7_needGroup : ByteArray := prog_1_method_40_code
def yX7_needGroup : MethodName := ⟨RX7, "needGroup", "(I)V"⟩
abbrev cX7_needRecord : ByteArray := prog_1_method_41_code
def yX7_needRecord : MethodName := ⟨RX7, "needRecord", "(I)V"⟩
abbrev cX7_needTwoRecords : ByteArray := prog_1_method_42_code
def yX7_needTwoRecords : MethodName := ⟨RX7, "needTwoRecords", "(II)V"⟩
abbrev cX7_toldTable : ByteArray := prog_1_method_43_code
def yX7_toldTable : MethodName := ⟨RX7, "toldTable", "(I)LCensusLoom$Table;"⟩
abbrev cX7_needBlockIn : ByteArray := prog_1_method_44_code
def yX7_needBlockIn : MethodName := ⟨RX7, "needBlockIn", "(LCensusLoom$Table;I)V"⟩
abbrev cX7_needCell : ByteArray := prog_1_method_45_code
def yX7_needCell : MethodName := ⟨RX7, "needCell", "(LCensusLoom$Table;II)V"⟩
def RX8 : String := "CensusLoomModel"
def TX8 : u_T := fun k => match k with
  | 0 => ("CensusLoomModel", "blocksOf", "[I", true)
  | 1 => ("CensusLoomModel", "addresses", "[I", true)
  | 2 => ("CensusLoomModel", "names", "[I", true)
  | 3 => ("CensusLoomModel", "years", "[I", true)
  | 4 => ("CensusLoomModel", "matched", "[I", true)
  | 5 => ("CensusLoomModel", "counts", "[I", true)
  | 6 => ("CensusLoomModel", "lists", "[C", true)
  | 7 => ("CensusLoomModel", "decisions", "[C", true)
  | 8 => ("CensusLoomModel", "areDoubles", "[Z", true)
  | 9 => ("CensusLoomModel", "areUndone", "[Z", true)
  | 10 => ("CensusLoomModel", "hidden", "[Z", true)
  | 11 => ("CensusLoomModel", "areReached", "[Z", true)
  | 12 => ("CensusLoomModel", "cells", "[I", true)
  | 13 => ("CensusLoomModel", "tableBlocks", "[I", true)
  | 14 => ("CensusLoomModel", "thrown", "I", false)
  | 15 => ("CensusLoomModel", "blocks", "I", false)
  | 16 => ("CensusLoomModel", "addressCount", "I", false)
  | 17 => ("CensusLoomModel", "records", "I", false)
  | 18 => ("CensusLoomModel", "tables", "I", false)
  | 19 => ("CensusLoomModel", "forName", "I", false)
  | 20 => ("CensusLoomModel", "forYear", "I", false)
  | 21 => ("CensusLoomModel", "forPlace", "I", false)
  | 22 => ("CensusLoomModel", "lower", "I", false)
  | 23 => ("CensusLoomModel", "upper", "I", false)
  | 24 => ("CensusLoomModel", "matchCount", "I", false)
  | _ => ("CensusLoomModel", "matchScores", "I", false)
def tyX8 : Nat → FieldType := fun k => match k with
  | 0 => .array .int
  | 1 => .array .int
  | 2 => .array .int
  | 3 => .array .int
  | 4 => .array .int
  | 5 => .array .int
  | 6 => .array .char
  | 7 => .array .char
  | 8 => .array .boolean
  | 9 => .array .boolean
  | 10 => .array .boolean
  | 11 => .array .boolean
  | 12 => .array .int
  | 13 => .array .int
  | 14 => .int
  | 15 => .int
  | 16 => .int
  | 17 => .int
  | 18 => .int
  | 19 => .int
  | 20 => .int
  | 21 => .int
  | 22 => .int
  | 23 => .int
  | 24 => .int
  | _ => .int
theorem nmX8 : ∀ a, a < 26 → ∀ b, b < 26 → a ≠ b → (TX8 a).2.1 ≠ (TX8 b).2.1 := by decide +kernel
theorem tyX8_ok : ∀ k, k < 26 → parseFieldDescriptor (TX8 k).2.2.1 = some (tyX8 k) := by decide +kernel
abbrev cX8_init : ByteArray := prog_10_method_1_code
def yX8_init : MethodName := ⟨RX8, "<init>", "()V"⟩
abbrev cX8_thrown : ByteArray := prog_10_method_2_code
def yX8_thrown : MethodName := ⟨RX8, "thrown", "()I"⟩
abbrev cX8_in : ByteArray := prog_10_method_3_code
def yX8_in : MethodName := ⟨RX8, "in", "(III)Z"⟩
abbrev cX8_plain : ByteArray := prog_10_method_4_code
def yX8_plain : MethodName := ⟨RX8, "plain", "(I)I"⟩
abbrev cX8_checked : ByteArray := prog_10_method_5_code
def yX8_checked : MethodName := ⟨RX8, "checked", "(Z)I"⟩
abbrev cX8_isBlock : ByteArray := prog_10_method_6_code
def yX8_isBlock : MethodName := ⟨RX8, "isBlock", "(I)Z"⟩
abbrev cX8_isRecord : ByteArray := prog_10_method_7_code
def yX8_isRecord : MethodName := ⟨RX8, "isRecord", "(I)Z"⟩
abbrev cX8_group : ByteArray := prog_10_method_8_code
def yX8_group : MethodName := ⟨RX8, "group", "(I)I"⟩
abbrev cX8_blockFor : ByteArray := prog_10_method_9_code
def yX8_blockFor : MethodName := ⟨RX8, "blockFor", "(I)I"⟩
abbrev cX8_scoreOf : ByteArray := prog_10_method_10_code
def yX8_scoreOf : MethodName := ⟨RX8, "scoreOf", "(II)I"⟩
abbrev cX8_linkOf : ByteArray := prog_10_method_11_code
def yX8_linkOf : MethodName := ⟨RX8, "linkOf", "(II)C"⟩
abbrev cX8_layDoubles : ByteArray := prog_10_method_12_code
def yX8_layDoubles : MethodName := ⟨RX8, "layDoubles", "()V"⟩
abbrev cX8_isCounted : ByteArray := prog_10_method_13_code
def yX8_isCounted : MethodName := ⟨RX8, "isCounted", "(I)Z"⟩
abbrev cX8_layCounts : ByteArray := prog_10_method_14_code
def yX8_layCounts : MethodName := ⟨RX8, "layCounts", "()V"⟩
abbrev cX8_layMatches : ByteArray := prog_10_method_15_code
def yX8_layMatches : MethodName := ⟨RX8, "layMatches", "()V"⟩
abbrev cX8_looks : ByteArray := prog_10_method_16_code
def yX8_looks : MethodName := ⟨RX8, "looks", "()I"⟩
abbrev cX8_addBlock : ByteArray := prog_10_method_17_code
def yX8_addBlock : MethodName := ⟨RX8, "addBlock", "()I"⟩
abbrev cX8_addAddress : ByteArray := prog_10_method_18_code
def yX8_addAddress : MethodName := ⟨RX8, "addAddress", "(I)I"⟩
abbrev cX8_split : ByteArray := prog_10_method_19_code
def yX8_split : MethodName := ⟨RX8, "split", "(II)I"⟩
abbrev cX8_join : ByteArray := prog_10_method_20_code
def yX8_join : MethodName := ⟨RX8, "join", "(II)I"⟩
abbrev cX8_addRecord : ByteArray := prog_10_method_21_code
def yX8_addRecord : MethodName := ⟨RX8, "addRecord", "(CIII)I"⟩
abbrev cX8_blockOf : ByteArray := prog_10_method_22_code
def yX8_blockOf : MethodName := ⟨RX8, "blockOf", "(I)I"⟩
abbrev cX8_setPoints : ByteArray := prog_10_method_23_code
def yX8_setPoints : MethodName := ⟨RX8, "setPoints", "(CI)I"⟩
abbrev cX8_setBounds : ByteArray := prog_10_method_24_code
def yX8_setBounds : MethodName := ⟨RX8, "setBounds", "(II)I"⟩
abbrev cX8_wrongPair : ByteArray := prog_10_method_25_code
def yX8_wrongPair : MethodName := ⟨RX8, "wrongPair", "(II)I"⟩
abbrev cX8_score : ByteArray := prog_10_method_26_code
def yX8_score : MethodName := ⟨RX8, "score", "(II)I"⟩
abbrev cX8_decides : ByteArray := prog_10_method_27_code
def yX8_decides : MethodName := ⟨RX8, "decides", "(IIC)V"⟩
abbrev cX8_decide : ByteArray := prog_10_method_28_code
def yX8_decide : MethodName := ⟨RX8, "decide", "(IIZ)I"⟩
abbrev cX8_takeBack : ByteArray := prog_10_method_29_code
def yX8_takeBack : MethodName := ⟨RX8, "takeBack", "(II)I"⟩
abbrev cX8_link : ByteArray := prog_10_method_30_code
def yX8_link : MethodName := ⟨RX8, "link", "(II)C"⟩
abbrev cX8_openPairs : ByteArray := prog_10_method_31_code
def yX8_openPairs : MethodName := ⟨RX8, "openPairs", "()I"⟩
abbrev cX8_isDouble : ByteArray := prog_10_method_32_code
def yX8_isDouble : MethodName := ⟨RX8, "isDouble", "(I)Z"⟩
abbrev cX8_matchOf : ByteArray := prog_10_method_33_code
def yX8_matchOf : MethodName := ⟨RX8, "matchOf", "(I)I"⟩
abbrev cX8_matches : ByteArray := prog_10_method_34_code
def yX8_matches : MethodName := ⟨RX8, "matches", "()I"⟩
abbrev cX8_count : ByteArray := prog_10_method_35_code
def yX8_count : MethodName := ⟨RX8, "count", "(II)I"⟩
abbrev cX8_countAnew : ByteArray := prog_10_method_36_code
def yX8_countAnew : MethodName := ⟨RX8, "countAnew", "(II)I"⟩
abbrev cX8_many : ByteArray := prog_10_method_37_code
def yX8_many : MethodName := ⟨RX8, "many", "(CZ)I"⟩
abbrev cX8_estimate : ByteArray := prog_10_method_38_code
def yX8_estimate : MethodName := ⟨RX8, "estimate", "()J"⟩
abbrev cX8_doubleShare : ByteArray := prog_10_method_39_code
def yX8_doubleShare : MethodName := ⟨RX8, "doubleShare", "()F"⟩
abbrev cX8_meanScore : ByteArray := prog_10_method_40_code
def yX8_meanScore : MethodName := ⟨RX8, "meanScore", "()D"⟩
abbrev cX8_isFound : ByteArray := prog_10_method_41_code
def yX8_isFound : MethodName := ⟨RX8, "isFound", "(II)Z"⟩
abbrev cX8_firstFound : ByteArray := prog_10_method_42_code
def yX8_firstFound : MethodName := ⟨RX8, "firstFound", "(I)I"⟩
abbrev cX8_canHide : ByteArray := prog_10_method_43_code
def yX8_canHide : MethodName := ⟨RX8, "canHide", "(II)Z"⟩
abbrev cX8_helps : ByteArray := prog_10_method_44_code
def yX8_helps : MethodName := ⟨RX8, "helps", "(III)Z"⟩
abbrev cX8_next : ByteArray := prog_10_method_45_code
def yX8_next : MethodName := ⟨RX8, "next", "(IIZ)I"⟩
abbrev cX8_hidesSmall : ByteArray := prog_10_method_46_code
def yX8_hidesSmall : MethodName := ⟨RX8, "hidesSmall", "(I)V"⟩
abbrev cX8_hides : ByteArray := prog_10_method_47_code
def yX8_hides : MethodName := ⟨RX8, "hides", "(I)Z"⟩
abbrev cX8_tell : ByteArray := prog_10_method_48_code
def yX8_tell : MethodName := ⟨RX8, "tell", "()I"⟩
abbrev cX8_isTable : ByteArray := prog_10_method_49_code
def yX8_isTable : MethodName := ⟨RX8, "isTable", "(I)Z"⟩
abbrev cX8_stateOf : ByteArray := prog_10_method_50_code
def yX8_stateOf : MethodName := ⟨RX8, "stateOf", "(I)C"⟩
abbrev cX8_wrongCell : ByteArray := prog_10_method_51_code
def yX8_wrongCell : MethodName := ⟨RX8, "wrongCell", "(III)I"⟩
abbrev cX8_place : ByteArray := prog_10_method_52_code
def yX8_place : MethodName := ⟨RX8, "place", "(III)I"⟩
abbrev cX8_isHidden : ByteArray := prog_10_method_53_code
def yX8_isHidden : MethodName := ⟨RX8, "isHidden", "(III)Z"⟩
abbrev cX8_cell : ByteArray := prog_10_method_54_code
def yX8_cell : MethodName := ⟨RX8, "cell", "(III)I"⟩
abbrev cX8_blockSum : ByteArray := prog_10_method_55_code
def yX8_blockSum : MethodName := ⟨RX8, "blockSum", "(II)I"⟩
abbrev cX8_groupSum : ByteArray := prog_10_method_56_code
def yX8_groupSum : MethodName := ⟨RX8, "groupSum", "(II)I"⟩
abbrev cX8_holes : ByteArray := prog_10_method_57_code
def yX8_holes : MethodName := ⟨RX8, "holes", "(I)I"⟩
abbrev cX8_isAtRisk : ByteArray := prog_10_method_58_code
def yX8_isAtRisk : MethodName := ⟨RX8, "isAtRisk", "(III)Z"⟩
abbrev cX8_found : ByteArray := prog_10_method_59_code
def yX8_found : MethodName := ⟨RX8, "found", "(I)I"⟩
abbrev cX8_foundByWays : ByteArray := prog_10_method_60_code
def yX8_foundByWays : MethodName := ⟨RX8, "foundByWays", "(I)I"⟩
abbrev cX8_line : ByteArray := prog_10_method_61_code
def yX8_line : MethodName := ⟨RX8, "line", "(I)Ljava/lang/String;"⟩
abbrev cX8_lineLength : ByteArray := prog_10_method_62_code
def yX8_lineLength : MethodName := ⟨RX8, "lineLength", "(I)I"⟩
abbrev cX8_lineAt : ByteArray := prog_10_method_63_code
def yX8_lineAt : MethodName := ⟨RX8, "lineAt", "(II)C"⟩
abbrev cX8_isSafe : ByteArray := prog_10_method_64_code
def yX8_isSafe : MethodName := ⟨RX8, "isSafe", "()Z"⟩
def RJx145de : String := "java/io/Serializable"
def TJx145de : u_T := fun k => match k with
  | _ => ("", "", "", false)
def tyJx145de : Nat → FieldType := fun k => match k with
  | _ => .int
theorem nmJx145de : ∀ a, a < 0 → ∀ b, b < 0 → a ≠ b → (TJx145de a).2.1 ≠ (TJx145de b).2.1 := by decide +kernel
theorem tyJx145de_ok : ∀ k, k < 0 → parseFieldDescriptor (TJx145de k).2.2.1 = some (tyJx145de k) := by decide +kernel
def RJ5 : String := "java/lang/AbstractStringBuilder"
def TJ5 : u_T := fun k => match k with
  | _ => ("", "", "", false)
def tyJ5 : Nat → FieldType := fun k => match k with
  | _ => .int
theorem nmJ5 : ∀ a, a < 0 → ∀ b, b < 0 → a ≠ b → (TJ5 a).2.1 ≠ (TJ5 b).2.1 := by decide +kernel
theorem tyJ5_ok : ∀ k, k < 0 → parseFieldDescriptor (TJ5 k).2.2.1 = some (tyJ5 k) := by decide +kernel
abbrev cJ5_init_d00df : ByteArray := prog_12_method_2_code
def yJ5_init_d00df : MethodName := ⟨RJ5, "<init>", "(I)V"⟩
abbrev cJ5_length_8abf5 : ByteArray := prog_12_method_6_code
def yJ5_length_8abf5 : MethodName := ⟨RJ5, "length", "()I"⟩
abbrev cJ5_ensureCapacityInternal_d00df : ByteArray := prog_12_method_9_code
def yJ5_ensureCapacityInternal_d00df : MethodName := ⟨RJ5, "ensureCapacityInternal", "(I)V"⟩
abbrev cJ5_newCapacity_0f7a4 : ByteArray := prog_12_method_10_code
def yJ5_newCapacity_0f7a4 : MethodName := ⟨RJ5, "newCapacity", "(I)I"⟩
abbrev cJ5_inflate_da8c8 : ByteArray := prog_12_method_11_code
def yJ5_inflate_da8c8 : MethodName := ⟨RJ5, "inflate", "()V"⟩
abbrev cJ5_append_cf1ce : ByteArray := prog_12_method_22_code
def yJ5_append_cf1ce : MethodName := ⟨RJ5, "append", "(Ljava/lang/String;)Ljava/lang/AbstractStringBuilder;"⟩
abbrev cJ5_appendNull_278bc : ByteArray := prog_12_method_26_code
def yJ5_appendNull_278bc : MethodName := ⟨RJ5, "appendNull", "()Ljava/lang/AbstractStringBuilder;"⟩
abbrev cJ5_append_3fe6f : ByteArray := prog_12_method_31_code
def yJ5_append_3fe6f : MethodName := ⟨RJ5, "append", "(C)Ljava/lang/AbstractStringBuilder;"⟩
abbrev cJ5_append_c97b9 : ByteArray := prog_12_method_32_code
def yJ5_append_c97b9 : MethodName := ⟨RJ5, "append", "(I)Ljava/lang/AbstractStringBuilder;"⟩
abbrev cJ5_getValue_6d5f1 : ByteArray := prog_12_method_64_code
def yJ5_getValue_6d5f1 : MethodName := ⟨RJ5, "getValue", "()[B"⟩
abbrev cJ5_isLatin1_aae02 : ByteArray := prog_12_method_68_code
def yJ5_isLatin1_aae02 : MethodName := ⟨RJ5, "isLatin1", "()Z"⟩
abbrev cJ5_inflateIfNeededFor_a7421 : ByteArray := prog_12_method_71_code
def yJ5_inflateIfNeededFor_a7421 : MethodName := ⟨RJ5, "inflateIfNeededFor", "(Ljava/lang/String;)V"⟩
abbrev cJ5_putStringAt_47b60 : ByteArray := prog_12_method_73_code
def yJ5_putStringAt_47b60 : MethodName := ⟨RJ5, "putStringAt", "(ILjava/lang/String;)V"⟩
def RJx2cfe8 : String := "java/lang/Appendable"
def TJx2cfe8 : u_T := fun k => match k with
  | _ => ("", "", "", false)
def tyJx2cfe8 : Nat → FieldType := fun k => match k with
  | _ => .int
theorem nmJx2cfe8 : ∀ a, a < 0 → ∀ b, b < 0 → a ≠ b → (TJx2cfe8 a).2.1 ≠ (TJx2cfe8 b).2.1 := by decide +kernel
theorem tyJx2cfe8_ok : ∀ k, k < 0 → parseFieldDescriptor (TJx2cfe8 k).2.2.1 = some (tyJx2cfe8 k) := by decide +kernel
def RJx00060 : String := "java/lang/ArrayIndexOutOfBoundsException"
def TJx00060 : u_T := fun k => match k with
  | 0 => ("java/lang/Throwable", "backtrace", "Ljava/lang/Object;", false)
  | 1 => ("java/lang/Throwable", "detailMessage", "Ljava/lang/String;", false)
  | 2 => ("java/lang/Throwable", "cause", "Ljava/lang/Throwable;", false)
  | 3 => ("java/lang/Throwable", "stackTrace", "[Ljava/lang/StackTraceElement;", false)
  | 4 => ("java/lang/Throwable", "depth", "I", false)
  | _ => ("java/lang/Throwable", "suppressedExceptions", "Ljava/util/List;", false)
def tyJx00060 : Nat → FieldType := fun k => match k with
  | 0 => .object "java/lang/Object"
  | 1 => .object "java/lang/String"
  | 2 => .object "java/lang/Throwable"
  | 3 => .array (.object "java/lang/StackTraceElement")
  | 4 => .int
  | _ => .object "java/util/List"
theorem nmJx00060 : ∀ a, a < 6 → ∀ b, b < 6 → a ≠ b → (TJx00060 a).2.1 ≠ (TJx00060 b).2.1 := by decide +kernel
theorem tyJx00060_ok : ∀ k, k < 6 → parseFieldDescriptor (TJx00060 k).2.2.1 = some (tyJx00060 k) := by decide +kernel
abbrev cJx00060_init_a7421 : ByteArray := prog_15_method_2_code
def yJx00060_init_a7421 : MethodName := ⟨RJx00060, "<init>", "(Ljava/lang/String;)V"⟩
def RJx9f9b0 : String := "java/lang/CharSequence"
def TJx9f9b0 : u_T := fun k => match k with
  | _ => ("", "", "", false)
def tyJx9f9b0 : Nat → FieldType := fun k => match k with
  | _ => .int
theorem nmJx9f9b0 : ∀ a, a < 0 → ∀ b, b < 0 → a ≠ b → (TJx9f9b0 a).2.1 ≠ (TJx9f9b0 b).2.1 := by decide +kernel
theorem tyJx9f9b0_ok : ∀ k, k < 0 → parseFieldDescriptor (TJx9f9b0 k).2.2.1 = some (tyJx9f9b0 k) := by decide +kernel
def RJx8e188 : String := "java/lang/Cloneable"
def TJx8e188 : u_T := fun k => match k with
  | _ => ("", "", "", false)
def tyJx8e188 : Nat → FieldType := fun k => match k with
  | _ => .int
theorem nmJx8e188 : ∀ a, a < 0 → ∀ b, b < 0 → a ≠ b → (TJx8e188 a).2.1 ≠ (TJx8e188 b).2.1 := by decide +kernel
theorem tyJx8e188_ok : ∀ k, k < 0 → parseFieldDescriptor (TJx8e188 k).2.2.1 = some (tyJx8e188 k) := by decide +kernel
def RJxb160c : String := "java/lang/Comparable"
def TJxb160c : u_T := fun k => match k with
  | _ => ("", "", "", false)
def tyJxb160c : Nat → FieldType := fun k => match k with
  | _ => .int
theorem nmJxb160c : ∀ a, a < 0 → ∀ b, b < 0 → a ≠ b → (TJxb160c a).2.1 ≠ (TJxb160c b).2.1 := by decide +kernel
theorem tyJxb160c_ok : ∀ k, k < 0 → parseFieldDescriptor (TJxb160c k).2.2.1 = some (tyJxb160c k) := by decide +kernel
def RJ6 : String := "java/lang/Integer"
def TJ6 : u_T := fun k => match k with
  | _ => ("", "", "", false)
def tyJ6 : Nat → FieldType := fun k => match k with
  | _ => .int
theorem nmJ6 : ∀ a, a < 0 → ∀ b, b < 0 → a ≠ b → (TJ6 a).2.1 ≠ (TJ6 b).2.1 := by decide +kernel
theorem tyJ6_ok : ∀ k, k < 0 → parseFieldDescriptor (TJ6 k).2.2.1 = some (tyJ6 k) := by decide +kernel
abbrev cJ6_getChars_ba4f3 : ByteArray := prog_23_method_12_code
def yJ6_getChars_ba4f3 : MethodName := ⟨RJ6, "getChars", "(II[B)I"⟩
abbrev cJ6_stringSize_0f7a4 : ByteArray := prog_23_method_13_code
def yJ6_stringSize_0f7a4 : MethodName := ⟨RJ6, "stringSize", "(I)I"⟩
abbrev cJ6_bitCount_0f7a4 : ByteArray := prog_23_method_49_code
def yJ6_bitCount_0f7a4 : MethodName := ⟨RJ6, "bitCount", "(I)I"⟩
def RJ9 : String := "java/lang/Math"
def TJ9 : u_T := fun k => match k with
  | _ => ("", "", "", false)
def tyJ9 : Nat → FieldType := fun k => match k with
  | _ => .int
theorem nmJ9 : ∀ a, a < 0 → ∀ b, b < 0 → a ≠ b → (TJ9 a).2.1 ≠ (TJ9 b).2.1 := by decide +kernel
theorem tyJ9_ok : ∀ k, k < 0 → parseFieldDescriptor (TJ9 k).2.2.1 = some (tyJ9 k) := by decide +kernel
abbrev cJ9_max_7cf53 : ByteArray := prog_24_method_65_code
def yJ9_max_7cf53 : MethodName := ⟨RJ9, "max", "(II)I"⟩
abbrev cJ9_min_7cf53 : ByteArray := prog_24_method_69_code
def yJ9_min_7cf53 : MethodName := ⟨RJ9, "min", "(II)I"⟩
def RJxd2413 : String := "java/lang/Number"
def TJxd2413 : u_T := fun k => match k with
  | _ => ("", "", "", false)
def tyJxd2413 : Nat → FieldType := fun k => match k with
  | _ => .int
theorem nmJxd2413 : ∀ a, a < 0 → ∀ b, b < 0 → a ≠ b → (TJxd2413 a).2.1 ≠ (TJxd2413 b).2.1 := by decide +kernel
theorem tyJxd2413_ok : ∀ k, k < 0 → parseFieldDescriptor (TJxd2413 k).2.2.1 = some (tyJxd2413 k) := by decide +kernel
def RJ0 : String := "java/lang/String"
def TJ0 : u_T := fun k => match k with
  | 0 => ("java/lang/String", "value", "[B", true)
  | 1 => ("java/lang/String", "coder", "B", true)
  | 2 => ("java/lang/String", "hash", "I", false)
  | _ => ("java/lang/String", "hashIsZero", "Z", false)
def tyJ0 : Nat → FieldType := fun k => match k with
  | 0 => .array .byte
  | 1 => .byte
  | 2 => .int
  | _ => .boolean
theorem nmJ0 : ∀ a, a < 4 → ∀ b, b < 4 → a ≠ b → (TJ0 a).2.1 ≠ (TJ0 b).2.1 := by decide +kernel
theorem tyJ0_ok : ∀ k, k < 4 → parseFieldDescriptor (TJ0 k).2.2.1 = some (tyJ0 k) := by decide +kernel
abbrev cJ0_init_81219 : ByteArray := prog_27_method_53_code
def yJ0_init_81219 : MethodName := ⟨RJ0, "<init>", "(Ljava/lang/StringBuilder;)V"⟩
abbrev cJ0_length_8abf5 : ByteArray := prog_27_method_54_code
def yJ0_length_8abf5 : MethodName := ⟨RJ0, "length", "()I"⟩
abbrev cJ0_charAt_5068e : ByteArray := prog_27_method_56_code
def yJ0_charAt_5068e : MethodName := ⟨RJ0, "charAt", "(I)C"⟩
abbrev cJ0_getBytes_840e7 : ByteArray := prog_27_method_147_code
def yJ0_getBytes_840e7 : MethodName := ⟨RJ0, "getBytes", "([BIB)V"⟩
abbrev cJ0_init_db425 : ByteArray := prog_27_method_150_code
def yJ0_init_db425 : MethodName := ⟨RJ0, "<init>", "(Ljava/lang/AbstractStringBuilder;Ljava/lang/Void;)V"⟩
abbrev cJ0_coder_7d493 : ByteArray := prog_27_method_152_code
def yJ0_coder_7d493 : MethodName := ⟨RJ0, "coder", "()B"⟩
abbrev cJ0_isLatin1_aae02 : ByteArray := prog_27_method_154_code
def yJ0_isLatin1_aae02 : MethodName := ⟨RJ0, "isLatin1", "()Z"⟩
abbrev cJ0_checkIndex_df160 : ByteArray := prog_27_method_155_code
def yJ0_checkIndex_df160 : MethodName := ⟨RJ0, "checkIndex", "(II)V"⟩
abbrev cJ0_checkBoundsOffCount_cabcc : ByteArray := prog_27_method_157_code
def yJ0_checkBoundsOffCount_cabcc : MethodName := ⟨RJ0, "checkBoundsOffCount", "(III)I"⟩
abbrev cJ0_checkBoundsBeginEnd_23922 : ByteArray := prog_27_method_158_code
def yJ0_checkBoundsBeginEnd_23922 : MethodName := ⟨RJ0, "checkBoundsBeginEnd", "(III)V"⟩
def RJ4 : String := "java/lang/StringBuilder"
def TJ4 : u_T := fun k => match k with
  | 0 => ("java/lang/AbstractStringBuilder", "value", "[B", false)
  | 1 => ("java/lang/AbstractStringBuilder", "coder", "B", false)
  | 2 => ("java/lang/AbstractStringBuilder", "maybeLatin1", "Z", false)
  | _ => ("java/lang/AbstractStringBuilder", "count", "I", false)
def tyJ4 : Nat → FieldType := fun k => match k with
  | 0 => .array .byte
  | 1 => .byte
  | 2 => .boolean
  | _ => .int
theorem nmJ4 : ∀ a, a < 4 → ∀ b, b < 4 → a ≠ b → (TJ4 a).2.1 ≠ (TJ4 b).2.1 := by decide +kernel
theorem tyJ4_ok : ∀ k, k < 4 → parseFieldDescriptor (TJ4 k).2.2.1 = some (tyJ4 k) := by decide +kernel
abbrev cJ4_init_da8c8 : ByteArray := prog_28_method_1_code
def yJ4_init_da8c8 : MethodName := ⟨RJ4, "<init>", "()V"⟩
abbrev cJ4_append_15ec4 : ByteArray := prog_28_method_7_code
def yJ4_append_15ec4 : MethodName := ⟨RJ4, "append", "(Ljava/lang/String;)Ljava/lang/StringBuilder;"⟩
abbrev cJ4_append_cf468 : ByteArray := prog_28_method_14_code
def yJ4_append_cf468 : MethodName := ⟨RJ4, "append", "(C)Ljava/lang/StringBuilder;"⟩
abbrev cJ4_append_bf812 : ByteArray := prog_28_method_15_code
def yJ4_append_bf812 : MethodName := ⟨RJ4, "append", "(I)Ljava/lang/StringBuilder;"⟩
abbrev cJ4_toString_0e30d : ByteArray := prog_28_method_42_code
def yJ4_toString_0e30d : MethodName := ⟨RJ4, "toString", "()Ljava/lang/String;"⟩
abbrev cJ4_length_8abf5 : ByteArray := prog_28_method_93_code
def yJ4_length_8abf5 : MethodName := ⟨RJ4, "length", "()I"⟩
def RJ1 : String := "java/lang/StringLatin1"
def TJ1 : u_T := fun k => match k with
  | _ => ("", "", "", false)
def tyJ1 : Nat → FieldType := fun k => match k with
  | _ => .int
theorem nmJ1 : ∀ a, a < 0 → ∀ b, b < 0 → a ≠ b → (TJ1 a).2.1 ≠ (TJ1 b).2.1 := by decide +kernel
theorem tyJ1_ok : ∀ k, k < 0 → parseFieldDescriptor (TJ1 k).2.2.1 = some (tyJ1 k) := by decide +kernel
abbrev cJ1_charAt_3b067 : ByteArray := prog_29_method_2_code
def yJ1_charAt_3b067 : MethodName := ⟨RJ1, "charAt", "([BI)C"⟩
abbrev cJ1_canEncode_fc78d : ByteArray := prog_29_method_3_code
def yJ1_canEncode_fc78d : MethodName := ⟨RJ1, "canEncode", "(C)Z"⟩
abbrev cJ1_inflate_0e8fd : ByteArray := prog_29_method_50_code
def yJ1_inflate_0e8fd : MethodName := ⟨RJ1, "inflate", "([BI[BII)V"⟩
def RJ2 : String := "java/lang/StringUTF16"
def TJ2 : u_T := fun k => match k with
  | _ => ("", "", "", false)
def tyJ2 : Nat → FieldType := fun k => match k with
  | _ => .int
theorem nmJ2 : ∀ a, a < 0 → ∀ b, b < 0 → a ≠ b → (TJ2 a).2.1 ≠ (TJ2 b).2.1 := by decide +kernel
theorem tyJ2_ok : ∀ k, k < 0 → parseFieldDescriptor (TJ2 k).2.2.1 = some (tyJ2 k) := by decide +kernel
abbrev cJ2_newBytesFor_77867 : ByteArray := prog_30_method_2_code
def yJ2_newBytesFor_77867 : MethodName := ⟨RJ2, "newBytesFor", "(I)[B"⟩
abbrev cJ2_newBytesLength_0f7a4 : ByteArray := prog_30_method_3_code
def yJ2_newBytesLength_0f7a4 : MethodName := ⟨RJ2, "newBytesLength", "(I)I"⟩
abbrev cJ2_putChar_b72d1 : ByteArray := prog_30_method_4_code
def yJ2_putChar_b72d1 : MethodName := ⟨RJ2, "putChar", "([BII)V"⟩
abbrev cJ2_getChar_3b067 : ByteArray := prog_30_method_5_code
def yJ2_getChar_3b067 : MethodName := ⟨RJ2, "getChar", "([BI)C"⟩
abbrev cJ2_length_9d52b : ByteArray := prog_30_method_6_code
def yJ2_length_9d52b : MethodName := ⟨RJ2, "length", "([B)I"⟩
abbrev cJ2_coderFromArrayLen_85cad : ByteArray := prog_30_method_15_code
def yJ2_coderFromArrayLen_85cad : MethodName := ⟨RJ2, "coderFromArrayLen", "([BI)B"⟩
abbrev cJ2_compress_39247 : ByteArray := prog_30_method_17_code
def yJ2_compress_39247 : MethodName := ⟨RJ2, "compress", "([BII)[B"⟩
abbrev cJ2_compress_5af95 : ByteArray := prog_30_method_22_code
def yJ2_compress_5af95 : MethodName := ⟨RJ2, "compress", "([BI[BII)I"⟩
abbrev cJ2_putCharSB_b72d1 : ByteArray := prog_30_method_71_code
def yJ2_putCharSB_b72d1 : MethodName := ⟨RJ2, "putCharSB", "([BII)V"⟩
abbrev cJ2_getChars_46870 : ByteArray := prog_30_method_77_code
def yJ2_getChars_46870 : MethodName := ⟨RJ2, "getChars", "(III[B)I"⟩
abbrev cJ2_putCharsAt_cd4e5 : ByteArray := prog_30_method_81_code
def yJ2_putCharsAt_cd4e5 : MethodName := ⟨RJ2, "putCharsAt", "([BICCCC)I"⟩
abbrev cJ2_charAt_3b067 : ByteArray := prog_30_method_83_code
def yJ2_charAt_3b067 : MethodName := ⟨RJ2, "charAt", "([BI)C"⟩
abbrev cJ2_inflate_0e8fd : ByteArray := prog_30_method_86_code
def yJ2_inflate_0e8fd : MethodName := ⟨RJ2, "inflate", "([BI[BII)V"⟩
abbrev cJ2_getChars_ba4f3 : ByteArray := prog_30_method_89_code
def yJ2_getChars_ba4f3 : MethodName := ⟨RJ2, "getChars", "(II[B)I"⟩
abbrev cJ2_checkIndex_2214a : ByteArray := prog_30_method_91_code
def yJ2_checkIndex_2214a : MethodName := ⟨RJ2, "checkIndex", "(I[B)V"⟩
abbrev cJ2_checkBoundsBeginEnd_d044e : ByteArray := prog_30_method_93_code
def yJ2_checkBoundsBeginEnd_d044e : MethodName := ⟨RJ2, "checkBoundsBeginEnd", "(II[B)V"⟩
abbrev cJ2_checkBoundsOffCount_d044e : ByteArray := prog_30_method_94_code
def yJ2_checkBoundsOffCount_d044e : MethodName := ⟨RJ2, "checkBoundsOffCount", "(II[B)V"⟩
def RJ10 : String := "java/lang/System"
def TJ10 : u_T := fun k => match k with
  | _ => ("", "", "", false)
def tyJ10 : Nat → FieldType := fun k => match k with
  | _ => .int
theorem nmJ10 : ∀ a, a < 0 → ∀ b, b < 0 → a ≠ b → (TJ10 a).2.1 ≠ (TJ10 b).2.1 := by decide +kernel
theorem tyJ10_ok : ∀ k, k < 0 → parseFieldDescriptor (TJ10 k).2.2.1 = some (tyJ10 k) := by decide +kernel
def RJxfd54e : String := "java/lang/constant/Constable"
def TJxfd54e : u_T := fun k => match k with
  | _ => ("", "", "", false)
def tyJxfd54e : Nat → FieldType := fun k => match k with
  | _ => .int
theorem nmJxfd54e : ∀ a, a < 0 → ∀ b, b < 0 → a ≠ b → (TJxfd54e a).2.1 ≠ (TJxfd54e b).2.1 := by decide +kernel
theorem tyJxfd54e_ok : ∀ k, k < 0 → parseFieldDescriptor (TJxfd54e k).2.2.1 = some (tyJxfd54e k) := by decide +kernel
def RJx3cf43 : String := "java/lang/constant/ConstantDesc"
def TJx3cf43 : u_T := fun k => match k with
  | _ => ("", "", "", false)
def tyJx3cf43 : Nat → FieldType := fun k => match k with
  | _ => .int
theorem nmJx3cf43 : ∀ a, a < 0 → ∀ b, b < 0 → a ≠ b → (TJx3cf43 a).2.1 ≠ (TJx3cf43 b).2.1 := by decide +kernel
theorem tyJx3cf43_ok : ∀ k, k < 0 → parseFieldDescriptor (TJx3cf43 k).2.2.1 = some (tyJx3cf43 k) := by decide +kernel
def RJ7 : String := "java/util/Arrays"
def TJ7 : u_T := fun k => match k with
  | _ => ("", "", "", false)
def tyJ7 : Nat → FieldType := fun k => match k with
  | _ => .int
theorem nmJ7 : ∀ a, a < 0 → ∀ b, b < 0 → a ≠ b → (TJ7 a).2.1 ≠ (TJ7 b).2.1 := by decide +kernel
theorem tyJ7_ok : ∀ k, k < 0 → parseFieldDescriptor (TJ7 k).2.2.1 = some (tyJ7 k) := by decide +kernel
abbrev cJ7_copyOf_9075b : ByteArray := prog_36_method_121_code
def yJ7_copyOf_9075b : MethodName := ⟨RJ7, "copyOf", "([BI)[B"⟩
abbrev cJ7_checkLength_df160 : ByteArray := prog_36_method_131_code
def yJ7_checkLength_df160 : MethodName := ⟨RJ7, "checkLength", "(II)V"⟩
abbrev cJ7_copyOfRange_39247 : ByteArray := prog_36_method_132_code
def yJ7_copyOfRange_39247 : MethodName := ⟨RJ7, "copyOfRange", "([BII)[B"⟩
abbrev cJ7_copyOfRangeByte_39247 : ByteArray := prog_36_method_133_code
def yJ7_copyOfRangeByte_39247 : MethodName := ⟨RJ7, "copyOfRangeByte", "([BII)[B"⟩
def RJ8 : String := "jdk/internal/util/ArraysSupport"
def TJ8 : u_T := fun k => match k with
  | _ => ("", "", "", false)
def tyJ8 : Nat → FieldType := fun k => match k with
  | _ => .int
theorem nmJ8 : ∀ a, a < 0 → ∀ b, b < 0 → a ≠ b → (TJ8 a).2.1 ≠ (TJ8 b).2.1 := by decide +kernel
theorem tyJ8_ok : ∀ k, k < 0 → parseFieldDescriptor (TJ8 k).2.2.1 = some (tyJ8 k) := by decide +kernel
abbrev cJ8_newLength_cabcc : ByteArray := prog_38_method_27_code
def yJ8_newLength_cabcc : MethodName := ⟨RJ8, "newLength", "(III)I"⟩
abbrev cJ8_hugeLength_7cf53 : ByteArray := prog_38_method_28_code
def yJ8_hugeLength_7cf53 : MethodName := ⟨RJ8, "hugeLength", "(II)I"⟩
def RJ3 : String := "jdk/internal/util/Preconditions"
def TJ3 : u_T := fun k => match k with
  | _ => ("", "", "", false)
def tyJ3 : Nat → FieldType := fun k => match k with
  | _ => .int
theorem nmJ3 : ∀ a, a < 0 → ∀ b, b < 0 → a ≠ b → (TJ3 a).2.1 ≠ (TJ3 b).2.1 := by decide +kernel
theorem tyJ3_ok : ∀ k, k < 0 → parseFieldDescriptor (TJ3 k).2.2.1 = some (tyJ3 k) := by decide +kernel
abbrev cJ3_checkIndex_8e157 : ByteArray := prog_39_method_11_code
def yJ3_checkIndex_8e157 : MethodName := ⟨RJ3, "checkIndex", "(IILjava/util/function/BiFunction;)I"⟩
abbrev cJ3_checkFromToIndex_8c36e : ByteArray := prog_39_method_12_code
def yJ3_checkFromToIndex_8c36e : MethodName := ⟨RJ3, "checkFromToIndex", "(IIILjava/util/function/BiFunction;)I"⟩
abbrev cJ3_checkFromIndexSize_8c36e : ByteArray := prog_39_method_13_code
def yJ3_checkFromIndexSize_8c36e : MethodName := ⟨RJ3, "checkFromIndexSize", "(IIILjava/util/function/BiFunction;)I"⟩
def RL : String := "CensusLoomLaw"
abbrev cL_addBlock : ByteArray := method_3_code
def yL_addBlock : MethodName := ⟨RL, "addBlock", "(LCensusLoom;[J)I"⟩
abbrev cL_addAddress : ByteArray := method_4_code
def yL_addAddress : MethodName := ⟨RL, "addAddress", "(LCensusLoom;I[J)I"⟩
abbrev cL_split : ByteArray := method_5_code
def yL_split : MethodName := ⟨RL, "split", "(LCensusLoom;II[J)I"⟩
abbrev cL_join : ByteArray := method_6_code
def yL_join : MethodName := ⟨RL, "join", "(LCensusLoom;II[J)I"⟩
abbrev cL_addRecord : ByteArray := method_7_code
def yL_addRecord : MethodName := ⟨RL, "addRecord", "(LCensusLoom;CIII[J)I"⟩
abbrev cL_blockOf : ByteArray := method_8_code
def yL_blockOf : MethodName := ⟨RL, "blockOf", "(LCensusLoom;I[J)I"⟩
abbrev cL_setPoints : ByteArray := method_9_code
def yL_setPoints : MethodName := ⟨RL, "setPoints", "(LCensusLoom;CI[J)I"⟩
abbrev cL_setBounds : ByteArray := method_10_code
def yL_setBounds : MethodName := ⟨RL, "setBounds", "(LCensusLoom;II[J)I"⟩
abbrev cL_score : ByteArray := method_11_code
def yL_score : MethodName := ⟨RL, "score", "(LCensusLoom;II[J)I"⟩
abbrev cL_decide : ByteArray := method_12_code
def yL_decide : MethodName := ⟨RL, "decide", "(LCensusLoom;IIZ[J)I"⟩
abbrev cL_takeBack : ByteArray := method_13_code
def yL_takeBack : MethodName := ⟨RL, "takeBack", "(LCensusLoom;II[J)I"⟩
abbrev cL_link : ByteArray := method_14_code
def yL_link : MethodName := ⟨RL, "link", "(LCensusLoom;II[J)I"⟩
abbrev cL_isDouble : ByteArray := method_15_code
def yL_isDouble : MethodName := ⟨RL, "isDouble", "(LCensusLoom;I[J)I"⟩
abbrev cL_matchOf : ByteArray := method_16_code
def yL_matchOf : MethodName := ⟨RL, "matchOf", "(LCensusLoom;I[J)I"⟩
abbrev cL_count : ByteArray := method_17_code
def yL_count : MethodName := ⟨RL, "count", "(LCensusLoom;II[J)I"⟩
abbrev cL_countAnew : ByteArray := method_18_code
def yL_countAnew : MethodName := ⟨RL, "countAnew", "(LCensusLoom;II[J)I"⟩
abbrev cL_estimate : ByteArray := method_19_code
def yL_estimate : MethodName := ⟨RL, "estimate", "(LCensusLoom;[J)I"⟩
abbrev cL_doubleShare : ByteArray := method_20_code
def yL_doubleShare : MethodName := ⟨RL, "doubleShare", "(LCensusLoom;[D)I"⟩
abbrev cL_meanScore : ByteArray := method_21_code
def yL_meanScore : MethodName := ⟨RL, "meanScore", "(LCensusLoom;[D)I"⟩
abbrev cL_tell : ByteArray := method_22_code
def yL_tell : MethodName := ⟨RL, "tell", "(LCensusLoom;[J)I"⟩
abbrev cL_stateOf : ByteArray := method_23_code
def yL_stateOf : MethodName := ⟨RL, "stateOf", "(LCensusLoom;I[J)I"⟩
abbrev cL_isHidden : ByteArray := method_24_code
def yL_isHidden : MethodName := ⟨RL, "isHidden", "(LCensusLoom;III[J)I"⟩
abbrev cL_cell : ByteArray := method_25_code
def yL_cell : MethodName := ⟨RL, "cell", "(LCensusLoom;III[J)I"⟩
abbrev cL_blockSum : ByteArray := method_26_code
def yL_blockSum : MethodName := ⟨RL, "blockSum", "(LCensusLoom;II[J)I"⟩
abbrev cL_groupSum : ByteArray := method_27_code
def yL_groupSum : MethodName := ⟨RL, "groupSum", "(LCensusLoom;II[J)I"⟩
abbrev cL_holes : ByteArray := method_28_code
def yL_holes : MethodName := ⟨RL, "holes", "(LCensusLoom;I[J)I"⟩
abbrev cL_isAtRisk : ByteArray := method_29_code
def yL_isAtRisk : MethodName := ⟨RL, "isAtRisk", "(LCensusLoom;III[J)I"⟩
abbrev cL_found : ByteArray := method_30_code
def yL_found : MethodName := ⟨RL, "found", "(LCensusLoom;I[J)I"⟩
abbrev cL_foundByWays : ByteArray := method_31_code
def yL_foundByWays : MethodName := ⟨RL, "foundByWays", "(LCensusLoom;I[J)I"⟩
abbrev cL_lineLength : ByteArray := method_32_code
def yL_lineLength : MethodName := ⟨RL, "lineLength", "(LCensusLoom;I[J)I"⟩
abbrev cL_lineAt : ByteArray := method_33_code
def yL_lineAt : MethodName := ⟨RL, "lineAt", "(LCensusLoom;II[J)I"⟩
abbrev cL_law : ByteArray := code
def yL_law : MethodName := ⟨RL, "law", "([I)Z"⟩
abbrev vwCl : List vw_C := [(RJ0, TJ0, 4), (RJ4, TJ4, 4), (RJx00060, TJx00060, 6), (RX1, TX1, 7), (RX2, TX2, 10), (RX3, TX3, 6), (RX4, TX4, 3), (RX5, TX5, 5), (RX6, TX6, 6), (RX7, TX7, 8), (RX8, TX8, 26)]
end
section
theorem dX0_has_0 : decode cX0_has 0 = .ok (.iload_n 0, 1) := by decide +kernel
theorem dX0_has_1 : decode cX0_has 1 = .ok (.iconst 1, 1) := by decide +kernel
theorem dX0_has_2 : decode cX0_has 2 = .ok (.iload_n 1, 1) := by decide +kernel
theorem dX0_has_3 : decode cX0_has 3 = .ok (.ishl, 1) := by decide +kernel
theorem dX0_has_4 : decode cX0_has 4 = .ok (.iand, 1) := by decide +kernel
theorem dX0_has_5 : decode cX0_has 5 = .ok (.ifCond .eq 7, 3) := by decide +kernel
theorem dX0_has_8 : decode cX0_has 8 = .ok (.iconst 1, 1) := by decide +kernel
theorem dX0_has_9 : decode cX0_has 9 = .ok (.goto 4, 3) := by decide +kernel
theorem dX0_has_12 : decode cX0_has 12 = .ok (.iconst 0, 1) := by decide +kernel
theorem dX0_has_13 : decode cX0_has 13 = .ok (.ireturn, 1) := by decide +kernel
theorem dX0_blockEnd_0 : decode cX0_blockEnd 0 = .ok (.iconst 1, 1) := by decide +kernel
theorem dX0_blockEnd_1 : decode cX0_blockEnd 1 = .ok (.iload_n 0, 1) := by decide +kernel
theorem dX0_blockEnd_2 : decode cX0_blockEnd 2 = .ok (.iconst 4, 1) := by decide +kernel
theorem dX0_blockEnd_3 : decode cX0_blockEnd 3 = .ok (.idiv, 1) := by decide +kernel
theorem dX0_blockEnd_4 : decode cX0_blockEnd 4 = .ok (.ishl, 1) := by decide +kernel
theorem dX0_blockEnd_5 : decode cX0_blockEnd 5 = .ok (.ireturn, 1) := by decide +kernel
theorem dX0_groupEnd_0 : decode cX0_groupEnd 0 = .ok (.iconst 1, 1) := by decide +kernel
theorem dX0_groupEnd_1 : decode cX0_groupEnd 1 = .ok (.bipush 6, 2) := by decide +kernel
theorem dX0_groupEnd_3 : decode cX0_groupEnd 3 = .ok (.iload_n 0, 1) := by decide +kernel
theorem dX0_groupEnd_4 : decode cX0_groupEnd 4 = .ok (.iconst 4, 1) := by decide +kernel
theorem dX0_groupEnd_5 : decode cX0_groupEnd 5 = .ok (.irem, 1) := by decide +kernel
theorem dX0_groupEnd_6 : decode cX0_groupEnd 6 = .ok (.iadd, 1) := by decide +kernel
theorem dX0_groupEnd_7 : decode cX0_groupEnd 7 = .ok (.ishl, 1) := by decide +kernel
theorem dX0_groupEnd_8 : decode cX0_groupEnd 8 = .ok (.ireturn, 1) := by decide +kernel
theorem dX0_endsOf_0 : decode cX0_endsOf 0 = .ok (.iload_n 0, 1) := by decide +kernel
theorem dX0_endsOf_1 : decode cX0_endsOf 1 = .ok (.invokestatic 9, 3) := by decide +kernel
theorem dX0_endsOf_4 : decode cX0_endsOf 4 = .ok (.iload_n 0, 1) := by decide +kernel
theorem dX0_endsOf_5 : decode cX0_endsOf 5 = .ok (.invokestatic 15, 3) := by decide +kernel
theorem dX0_endsOf_8 : decode cX0_endsOf 8 = .ok (.ior, 1) := by decide +kernel
theorem dX0_endsOf_9 : decode cX0_endsOf 9 = .ok (.ireturn, 1) := by decide +kernel
theorem dX0_endsInBlock_0 : decode cX0_endsInBlock 0 = .ok (.iload_n 0, 1) := by decide +kernel
theorem dX0_endsInBlock_1 : decode cX0_endsInBlock 1 = .ok (.iload_n 1, 1) := by decide +kernel
theorem dX0_endsInBlock_2 : decode cX0_endsInBlock 2 = .ok (.iconst 4, 1) := by decide +kernel
theorem dX0_endsInBlock_3 : decode cX0_endsInBlock 3 = .ok (.imul, 1) := by decide +kernel
theorem dX0_endsInBlock_4 : decode cX0_endsInBlock 4 = .ok (.ishr, 1) := by decide +kernel
theorem dX0_endsInBlock_5 : decode cX0_endsInBlock 5 = .ok (.bipush 15, 2) := by decide +kernel
theorem dX0_endsInBlock_7 : decode cX0_endsInBlock 7 = .ok (.iand, 1) := by decide +kernel
theorem dX0_endsInBlock_8 : decode cX0_endsInBlock 8 = .ok (.istore_n 2, 1) := by decide +kernel
theorem dX0_endsInBlock_9 : decode cX0_endsInBlock 9 = .ok (.iload_n 2, 1) := by decide +kernel
theorem dX0_endsInBlock_10 : decode cX0_endsInBlock 10 = .ok (.bipush 6, 2) := by decide +kernel
theorem dX0_endsInBlock_12 : decode cX0_endsInBlock 12 = .ok (.ishl, 1) := by decide +kernel
theorem dX0_endsInBlock_13 : decode cX0_endsInBlock 13 = .ok (.iconst 1, 1) := by decide +kernel
theorem dX0_endsInBlock_14 : decode cX0_endsInBlock 14 = .ok (.iload_n 1, 1) := by decide +kernel
theorem dX0_endsInBlock_15 : decode cX0_endsInBlock 15 = .ok (.ishl, 1) := by decide +kernel
theorem dX0_endsInBlock_16 : decode cX0_endsInBlock 16 = .ok (.ior, 1) := by decide +kernel
theorem dX0_endsInBlock_17 : decode cX0_endsInBlock 17 = .ok (.ireturn, 1) := by decide +kernel
theorem dX0_smallCells_0 : decode cX0_smallCells 0 = .ok (.iconst 0, 1) := by decide +kernel
theorem dX0_smallCells_1 : decode cX0_smallCells 1 = .ok (.istore_n 1, 1) := by decide +kernel
theorem dX0_smallCells_2 : decode cX0_smallCells 2 = .ok (.iconst 0, 1) := by decide +kernel
theorem dX0_smallCells_3 : decode cX0_smallCells 3 = .ok (.istore_n 2, 1) := by decide +kernel
theorem dX0_smallCells_4 : decode cX0_smallCells 4 = .ok (.iload_n 2, 1) := by decide +kernel
theorem dX0_smallCells_5 : decode cX0_smallCells 5 = .ok (.bipush 24, 2) := by decide +kernel
theorem dX0_smallCells_7 : decode cX0_smallCells 7 = .ok (.if_icmp .ge 28, 3) := by decide +kernel
theorem dX0_smallCells_10 : decode cX0_smallCells 10 = .ok (.aload_n 0, 1) := by decide +kernel
theorem dX0_smallCells_11 : decode cX0_smallCells 11 = .ok (.iload_n 2, 1) := by decide +kernel
theorem dX0_smallCells_12 : decode cX0_smallCells 12 = .ok (.iaload, 1) := by decide +kernel
theorem dX0_smallCells_13 : decode cX0_smallCells 13 = .ok (.ifCond .le 16, 3) := by decide +kernel
theorem dX0_smallCells_16 : decode cX0_smallCells 16 = .ok (.aload_n 0, 1) := by decide +kernel
theorem dX0_smallCells_17 : decode cX0_smallCells 17 = .ok (.iload_n 2, 1) := by decide +kernel
theorem dX0_smallCells_18 : decode cX0_smallCells 18 = .ok (.iaload, 1) := by decide +kernel
theorem dX0_smallCells_19 : decode cX0_smallCells 19 = .ok (.iconst 2, 1) := by decide +kernel
theorem dX0_smallCells_20 : decode cX0_smallCells 20 = .ok (.if_icmp .gt 9, 3) := by decide +kernel
theorem dX0_smallCells_23 : decode cX0_smallCells 23 = .ok (.iload_n 1, 1) := by decide +kernel
theorem dX0_smallCells_24 : decode cX0_smallCells 24 = .ok (.iconst 1, 1) := by decide +kernel
theorem dX0_smallCells_25 : decode cX0_smallCells 25 = .ok (.iload_n 2, 1) := by decide +kernel
theorem dX0_smallCells_26 : decode cX0_smallCells 26 = .ok (.ishl, 1) := by decide +kernel
theorem dX0_smallCells_27 : decode cX0_smallCells 27 = .ok (.ior, 1) := by decide +kernel
theorem dX0_smallCells_28 : decode cX0_smallCells 28 = .ok (.istore_n 1, 1) := by decide +kernel
theorem dX0_smallCells_29 : decode cX0_smallCells 29 = .ok (.iinc 2 1, 3) := by decide +kernel
theorem dX0_smallCells_32 : decode cX0_smallCells 32 = .ok (.goto (-28), 3) := by decide +kernel
theorem dX0_smallCells_35 : decode cX0_smallCells 35 = .ok (.iload_n 1, 1) := by decide +kernel
theorem dX0_smallCells_36 : decode cX0_smallCells 36 = .ok (.ireturn, 1) := by decide +kernel
theorem dX0_choose_0 : decode cX0_choose 0 = .ok (.aload_n 0, 1) := by decide +kernel
theorem dX0_choose_1 : decode cX0_choose 1 = .ok (.invokestatic 18, 3) := by decide +kernel
theorem dX0_choose_4 : decode cX0_choose 4 = .ok (.istore_n 1, 1) := by decide +kernel
theorem dX0_choose_5 : decode cX0_choose 5 = .ok (.iconst 0, 1) := by decide +kernel
theorem dX0_choose_6 : decode cX0_choose 6 = .ok (.istore_n 2, 1) := by decide +kernel
theorem dX0_choose_7 : decode cX0_choose 7 = .ok (.iload_n 2, 1) := by decide +kernel
theorem dX0_choose_8 : decode cX0_choose 8 = .ok (.bipush 24, 2) := by decide +kernel
theorem dX0_choose_10 : decode cX0_choose 10 = .ok (.if_icmp .gt 44, 3) := by decide +kernel
theorem dX0_choose_13 : decode cX0_choose 13 = .ok (.iload_n 1, 1) := by decide +kernel
theorem dX0_choose_14 : decode cX0_choose 14 = .ok (.invokestatic 22, 3) := by decide +kernel
theorem dX0_choose_17 : decode cX0_choose 17 = .ok (.istore_n 3, 1) := by decide +kernel
theorem dX0_choose_18 : decode cX0_choose 18 = .ok (.iload_n 3, 1) := by decide +kernel
theorem dX0_choose_19 : decode cX0_choose 19 = .ok (.iconst (-1), 1) := by decide +kernel
theorem dX0_choose_20 : decode cX0_choose 20 = .ok (.if_icmp .ne 5, 3) := by decide +kernel
theorem dX0_choose_23 : decode cX0_choose 23 = .ok (.iload_n 1, 1) := by decide +kernel
theorem dX0_choose_24 : decode cX0_choose 24 = .ok (.ireturn, 1) := by decide +kernel
theorem dX0_choose_25 : decode cX0_choose 25 = .ok (.aload_n 0, 1) := by decide +kernel
theorem dX0_choose_26 : decode cX0_choose 26 = .ok (.iload_n 1, 1) := by decide +kernel
theorem dX0_choose_27 : decode cX0_choose 27 = .ok (.iload_n 3, 1) := by decide +kernel
theorem dX0_choose_28 : decode cX0_choose 28 = .ok (.invokestatic 25, 3) := by decide +kernel
theorem dX0_choose_31 : decode cX0_choose 31 = .ok (.istore 4, 2) := by decide +kernel
theorem dX0_choose_33 : decode cX0_choose 33 = .ok (.iload 4, 2) := by decide +kernel
theorem dX0_choose_35 : decode cX0_choose 35 = .ok (.iconst (-1), 1) := by decide +kernel
theorem dX0_choose_36 : decode cX0_choose 36 = .ok (.if_icmp .ne 5, 3) := by decide +kernel
theorem dX0_choose_39 : decode cX0_choose 39 = .ok (.iconst (-1), 1) := by decide +kernel
theorem dX0_choose_40 : decode cX0_choose 40 = .ok (.ireturn, 1) := by decide +kernel
theorem dX0_choose_41 : decode cX0_choose 41 = .ok (.iload_n 1, 1) := by decide +kernel
theorem dX0_choose_42 : decode cX0_choose 42 = .ok (.iconst 1, 1) := by decide +kernel
theorem dX0_choose_43 : decode cX0_choose 43 = .ok (.iload 4, 2) := by decide +kernel
theorem dX0_choose_45 : decode cX0_choose 45 = .ok (.ishl, 1) := by decide +kernel
theorem dX0_choose_46 : decode cX0_choose 46 = .ok (.ior, 1) := by decide +kernel
theorem dX0_choose_47 : decode cX0_choose 47 = .ok (.istore_n 1, 1) := by decide +kernel
theorem dX0_choose_48 : decode cX0_choose 48 = .ok (.iinc 2 1, 3) := by decide +kernel
theorem dX0_choose_51 : decode cX0_choose 51 = .ok (.goto (-44), 3) := by decide +kernel
theorem dX0_choose_54 : decode cX0_choose 54 = .ok (.iconst (-1), 1) := by decide +kernel
theorem dX0_choose_55 : decode cX0_choose 55 = .ok (.ireturn, 1) := by decide +kernel
theorem dX0_firstFound_0 : decode cX0_firstFound 0 = .ok (.iconst 0, 1) := by decide +kernel
theorem dX0_firstFound_1 : decode cX0_firstFound 1 = .ok (.istore_n 1, 1) := by decide +kernel
theorem dX0_firstFound_2 : decode cX0_firstFound 2 = .ok (.iload_n 1, 1) := by decide +kernel
theorem dX0_firstFound_3 : decode cX0_firstFound 3 = .ok (.bipush 24, 2) := by decide +kernel
theorem dX0_firstFound_5 : decode cX0_firstFound 5 = .ok (.if_icmp .ge 27, 3) := by decide +kernel
theorem dX0_firstFound_8 : decode cX0_firstFound 8 = .ok (.iload_n 0, 1) := by decide +kernel
theorem dX0_firstFound_9 : decode cX0_firstFound 9 = .ok (.iload_n 1, 1) := by decide +kernel
theorem dX0_firstFound_10 : decode cX0_firstFound 10 = .ok (.invokestatic 29, 3) := by decide +kernel
theorem dX0_firstFound_13 : decode cX0_firstFound 13 = .ok (.ifCond .eq 13, 3) := by decide +kernel
theorem dX0_firstFound_16 : decode cX0_firstFound 16 = .ok (.iload_n 0, 1) := by decide +kernel
theorem dX0_firstFound_17 : decode cX0_firstFound 17 = .ok (.iload_n 1, 1) := by decide +kernel
theorem dX0_firstFound_18 : decode cX0_firstFound 18 = .ok (.invokestatic 33, 3) := by decide +kernel
theorem dX0_firstFound_21 : decode cX0_firstFound 21 = .ok (.ifCond .eq 5, 3) := by decide +kernel
theorem dX0_firstFound_24 : decode cX0_firstFound 24 = .ok (.iload_n 1, 1) := by decide +kernel
theorem dX0_firstFound_25 : decode cX0_firstFound 25 = .ok (.ireturn, 1) := by decide +kernel
theorem dX0_firstFound_26 : decode cX0_firstFound 26 = .ok (.iinc 1 1, 3) := by decide +kernel
theorem dX0_firstFound_29 : decode cX0_firstFound 29 = .ok (.goto (-27), 3) := by decide +kernel
theorem dX0_firstFound_32 : decode cX0_firstFound 32 = .ok (.iconst (-1), 1) := by decide +kernel
theorem dX0_firstFound_33 : decode cX0_firstFound 33 = .ok (.ireturn, 1) := by decide +kernel
theorem dX0_nextToHide_0 : decode cX0_nextToHide 0 = .ok (.iload_n 1, 1) := by decide +kernel
theorem dX0_nextToHide_1 : decode cX0_nextToHide 1 = .ok (.iconst 1, 1) := by decide +kernel
theorem dX0_nextToHide_2 : decode cX0_nextToHide 2 = .ok (.iload_n 2, 1) := by decide +kernel
theorem dX0_nextToHide_3 : decode cX0_nextToHide 3 = .ok (.ishl, 1) := by decide +kernel
theorem dX0_nextToHide_4 : decode cX0_nextToHide 4 = .ok (.iconst (-1), 1) := by decide +kernel
theorem dX0_nextToHide_5 : decode cX0_nextToHide 5 = .ok (.ixor, 1) := by decide +kernel
theorem dX0_nextToHide_6 : decode cX0_nextToHide 6 = .ok (.iand, 1) := by decide +kernel
theorem dX0_nextToHide_7 : decode cX0_nextToHide 7 = .ok (.istore_n 3, 1) := by decide +kernel
theorem dX0_nextToHide_8 : decode cX0_nextToHide 8 = .ok (.iload_n 2, 1) := by decide +kernel
theorem dX0_nextToHide_9 : decode cX0_nextToHide 9 = .ok (.invokestatic 9, 3) := by decide +kernel
theorem dX0_nextToHide_12 : decode cX0_nextToHide 12 = .ok (.iload_n 3, 1) := by decide +kernel
theorem dX0_nextToHide_13 : decode cX0_nextToHide 13 = .ok (.invokestatic 36, 3) := by decide +kernel
theorem dX0_nextToHide_16 : decode cX0_nextToHide 16 = .ok (.istore 4, 2) := by decide +kernel
theorem dX0_nextToHide_18 : decode cX0_nextToHide 18 = .ok (.iload_n 2, 1) := by decide +kernel
theorem dX0_nextToHide_19 : decode cX0_nextToHide 19 = .ok (.invokestatic 15, 3) := by decide +kernel
theorem dX0_nextToHide_22 : decode cX0_nextToHide 22 = .ok (.iload_n 3, 1) := by decide +kernel
theorem dX0_nextToHide_23 : decode cX0_nextToHide 23 = .ok (.invokestatic 36, 3) := by decide +kernel
theorem dX0_nextToHide_26 : decode cX0_nextToHide 26 = .ok (.istore 5, 2) := by decide +kernel
theorem dX0_nextToHide_28 : decode cX0_nextToHide 28 = .ok (.iconst 0, 1) := by decide +kernel
theorem dX0_nextToHide_29 : decode cX0_nextToHide 29 = .ok (.istore 6, 2) := by decide +kernel
theorem dX0_nextToHide_31 : decode cX0_nextToHide 31 = .ok (.iconst 0, 1) := by decide +kernel
theorem dX0_nextToHide_32 : decode cX0_nextToHide 32 = .ok (.istore 7, 2) := by decide +kernel
theorem dX0_nextToHide_34 : decode cX0_nextToHide 34 = .ok (.iconst 0, 1) := by decide +kernel
theorem dX0_nextToHide_35 : decode cX0_nextToHide 35 = .ok (.istore 8, 2) := by decide +kernel
theorem dX0_nextToHide_37 : decode cX0_nextToHide 37 = .ok (.iload 8, 2) := by decide +kernel
theorem dX0_nextToHide_39 : decode cX0_nextToHide 39 = .ok (.bipush 24, 2) := by decide +kernel
theorem dX0_nextToHide_41 : decode cX0_nextToHide 41 = .ok (.if_icmp .ge 65, 3) := by decide +kernel
theorem dX0_nextToHide_44 : decode cX0_nextToHide 44 = .ok (.aload_n 0, 1) := by decide +kernel
theorem dX0_nextToHide_45 : decode cX0_nextToHide 45 = .ok (.iload 8, 2) := by decide +kernel
theorem dX0_nextToHide_47 : decode cX0_nextToHide 47 = .ok (.iaload, 1) := by decide +kernel
theorem dX0_nextToHide_48 : decode cX0_nextToHide 48 = .ok (.ifCond .le 52, 3) := by decide +kernel
theorem dX0_nextToHide_51 : decode cX0_nextToHide 51 = .ok (.iload_n 1, 1) := by decide +kernel
theorem dX0_nextToHide_52 : decode cX0_nextToHide 52 = .ok (.iload 8, 2) := by decide +kernel
theorem dX0_nextToHide_54 : decode cX0_nextToHide 54 = .ok (.invokestatic 29, 3) := by decide +kernel
theorem dX0_nextToHide_57 : decode cX0_nextToHide 57 = .ok (.ifCond .ne 43, 3) := by decide +kernel
theorem dX0_nextToHide_60 : decode cX0_nextToHide 60 = .ok (.iload 6, 2) := by decide +kernel
theorem dX0_nextToHide_62 : decode cX0_nextToHide 62 = .ok (.iconst 1, 1) := by decide +kernel
theorem dX0_nextToHide_63 : decode cX0_nextToHide 63 = .ok (.iload 8, 2) := by decide +kernel
theorem dX0_nextToHide_65 : decode cX0_nextToHide 65 = .ok (.ishl, 1) := by decide +kernel
theorem dX0_nextToHide_66 : decode cX0_nextToHide 66 = .ok (.ior, 1) := by decide +kernel
theorem dX0_nextToHide_67 : decode cX0_nextToHide 67 = .ok (.istore 6, 2) := by decide +kernel
theorem dX0_nextToHide_69 : decode cX0_nextToHide 69 = .ok (.iload 8, 2) := by decide +kernel
theorem dX0_nextToHide_71 : decode cX0_nextToHide 71 = .ok (.invokestatic 40, 3) := by decide +kernel
theorem dX0_nextToHide_74 : decode cX0_nextToHide 74 = .ok (.iload 4, 2) := by decide +kernel
theorem dX0_nextToHide_76 : decode cX0_nextToHide 76 = .ok (.iand, 1) := by decide +kernel
theorem dX0_nextToHide_77 : decode cX0_nextToHide 77 = .ok (.ifCond .eq 23, 3) := by decide +kernel
theorem dX0_nextToHide_80 : decode cX0_nextToHide 80 = .ok (.iload 8, 2) := by decide +kernel
theorem dX0_nextToHide_82 : decode cX0_nextToHide 82 = .ok (.invokestatic 40, 3) := by decide +kernel
theorem dX0_nextToHide_85 : decode cX0_nextToHide 85 = .ok (.iload 5, 2) := by decide +kernel
theorem dX0_nextToHide_87 : decode cX0_nextToHide 87 = .ok (.iand, 1) := by decide +kernel
theorem dX0_nextToHide_88 : decode cX0_nextToHide 88 = .ok (.ifCond .eq 12, 3) := by decide +kernel
theorem dX0_nextToHide_91 : decode cX0_nextToHide 91 = .ok (.iload 7, 2) := by decide +kernel
theorem dX0_nextToHide_93 : decode cX0_nextToHide 93 = .ok (.iconst 1, 1) := by decide +kernel
theorem dX0_nextToHide_94 : decode cX0_nextToHide 94 = .ok (.iload 8, 2) := by decide +kernel
theorem dX0_nextToHide_96 : decode cX0_nextToHide 96 = .ok (.ishl, 1) := by decide +kernel
theorem dX0_nextToHide_97 : decode cX0_nextToHide 97 = .ok (.ior, 1) := by decide +kernel
theorem dX0_nextToHide_98 : decode cX0_nextToHide 98 = .ok (.istore 7, 2) := by decide +kernel
theorem dX0_nextToHide_100 : decode cX0_nextToHide 100 = .ok (.iinc 8 1, 3) := by decide +kernel
theorem dX0_nextToHide_103 : decode cX0_nextToHide 103 = .ok (.goto (-66), 3) := by decide +kernel
theorem dX0_nextToHide_106 : decode cX0_nextToHide 106 = .ok (.aload_n 0, 1) := by decide +kernel
theorem dX0_nextToHide_107 : decode cX0_nextToHide 107 = .ok (.iload 7, 2) := by decide +kernel
theorem dX0_nextToHide_109 : decode cX0_nextToHide 109 = .ok (.ifCond .eq 8, 3) := by decide +kernel
theorem dX0_nextToHide_112 : decode cX0_nextToHide 112 = .ok (.iload 7, 2) := by decide +kernel
theorem dX0_nextToHide_114 : decode cX0_nextToHide 114 = .ok (.goto 5, 3) := by decide +kernel
theorem dX0_nextToHide_117 : decode cX0_nextToHide 117 = .ok (.iload 6, 2) := by decide +kernel
theorem dX0_nextToHide_119 : decode cX0_nextToHide 119 = .ok (.invokestatic 43, 3) := by decide +kernel
theorem dX0_nextToHide_122 : decode cX0_nextToHide 122 = .ok (.ireturn, 1) := by decide +kernel
theorem dX0_leastOf_0 : decode cX0_leastOf 0 = .ok (.iconst (-1), 1) := by decide +kernel
theorem dX0_leastOf_1 : decode cX0_leastOf 1 = .ok (.istore_n 2, 1) := by decide +kernel
theorem dX0_leastOf_2 : decode cX0_leastOf 2 = .ok (.iconst 0, 1) := by decide +kernel
theorem dX0_leastOf_3 : decode cX0_leastOf 3 = .ok (.istore_n 3, 1) := by decide +kernel
theorem dX0_leastOf_4 : decode cX0_leastOf 4 = .ok (.iload_n 3, 1) := by decide +kernel
theorem dX0_leastOf_5 : decode cX0_leastOf 5 = .ok (.bipush 24, 2) := by decide +kernel
theorem dX0_leastOf_7 : decode cX0_leastOf 7 = .ok (.if_icmp .ge 33, 3) := by decide +kernel
theorem dX0_leastOf_10 : decode cX0_leastOf 10 = .ok (.iload_n 1, 1) := by decide +kernel
theorem dX0_leastOf_11 : decode cX0_leastOf 11 = .ok (.iload_n 3, 1) := by decide +kernel
theorem dX0_leastOf_12 : decode cX0_leastOf 12 = .ok (.invokestatic 29, 3) := by decide +kernel
theorem dX0_leastOf_15 : decode cX0_leastOf 15 = .ok (.ifCond .eq 19, 3) := by decide +kernel
theorem dX0_leastOf_18 : decode cX0_leastOf 18 = .ok (.iload_n 2, 1) := by decide +kernel
theorem dX0_leastOf_19 : decode cX0_leastOf 19 = .ok (.iconst (-1), 1) := by decide +kernel
theorem dX0_leastOf_20 : decode cX0_leastOf 20 = .ok (.if_icmp .eq 12, 3) := by decide +kernel
theorem dX0_leastOf_23 : decode cX0_leastOf 23 = .ok (.aload_n 0, 1) := by decide +kernel
theorem dX0_leastOf_24 : decode cX0_leastOf 24 = .ok (.iload_n 3, 1) := by decide +kernel
theorem dX0_leastOf_25 : decode cX0_leastOf 25 = .ok (.iaload, 1) := by decide +kernel
theorem dX0_leastOf_26 : decode cX0_leastOf 26 = .ok (.aload_n 0, 1) := by decide +kernel
theorem dX0_leastOf_27 : decode cX0_leastOf 27 = .ok (.iload_n 2, 1) := by decide +kernel
theorem dX0_leastOf_28 : decode cX0_leastOf 28 = .ok (.iaload, 1) := by decide +kernel
theorem dX0_leastOf_29 : decode cX0_leastOf 29 = .ok (.if_icmp .ge 5, 3) := by decide +kernel
theorem dX0_leastOf_32 : decode cX0_leastOf 32 = .ok (.iload_n 3, 1) := by decide +kernel
theorem dX0_leastOf_33 : decode cX0_leastOf 33 = .ok (.istore_n 2, 1) := by decide +kernel
theorem dX0_leastOf_34 : decode cX0_leastOf 34 = .ok (.iinc 3 1, 3) := by decide +kernel
theorem dX0_leastOf_37 : decode cX0_leastOf 37 = .ok (.goto (-33), 3) := by decide +kernel
theorem dX0_leastOf_40 : decode cX0_leastOf 40 = .ok (.iload_n 2, 1) := by decide +kernel
theorem dX0_leastOf_41 : decode cX0_leastOf 41 = .ok (.ireturn, 1) := by decide +kernel
theorem dX0_tiedTo_0 : decode cX0_tiedTo 0 = .ok (.iload_n 0, 1) := by decide +kernel
theorem dX0_tiedTo_1 : decode cX0_tiedTo 1 = .ok (.istore_n 2, 1) := by decide +kernel
theorem dX0_tiedTo_2 : decode cX0_tiedTo 2 = .ok (.iconst 0, 1) := by decide +kernel
theorem dX0_tiedTo_3 : decode cX0_tiedTo 3 = .ok (.istore_n 3, 1) := by decide +kernel
theorem dX0_tiedTo_4 : decode cX0_tiedTo 4 = .ok (.iload_n 3, 1) := by decide +kernel
theorem dX0_tiedTo_5 : decode cX0_tiedTo 5 = .ok (.bipush 10, 2) := by decide +kernel
theorem dX0_tiedTo_7 : decode cX0_tiedTo 7 = .ok (.if_icmp .ge 56, 3) := by decide +kernel
theorem dX0_tiedTo_10 : decode cX0_tiedTo 10 = .ok (.iload_n 2, 1) := by decide +kernel
theorem dX0_tiedTo_11 : decode cX0_tiedTo 11 = .ok (.istore 4, 2) := by decide +kernel
theorem dX0_tiedTo_13 : decode cX0_tiedTo 13 = .ok (.iconst 0, 1) := by decide +kernel
theorem dX0_tiedTo_14 : decode cX0_tiedTo 14 = .ok (.istore 5, 2) := by decide +kernel
theorem dX0_tiedTo_16 : decode cX0_tiedTo 16 = .ok (.iload 5, 2) := by decide +kernel
theorem dX0_tiedTo_18 : decode cX0_tiedTo 18 = .ok (.bipush 6, 2) := by decide +kernel
theorem dX0_tiedTo_20 : decode cX0_tiedTo 20 = .ok (.if_icmp .ge 29, 3) := by decide +kernel
theorem dX0_tiedTo_23 : decode cX0_tiedTo 23 = .ok (.iload_n 1, 1) := by decide +kernel
theorem dX0_tiedTo_24 : decode cX0_tiedTo 24 = .ok (.iload 5, 2) := by decide +kernel
theorem dX0_tiedTo_26 : decode cX0_tiedTo 26 = .ok (.invokestatic 47, 3) := by decide +kernel
theorem dX0_tiedTo_29 : decode cX0_tiedTo 29 = .ok (.istore 6, 2) := by decide +kernel
theorem dX0_tiedTo_31 : decode cX0_tiedTo 31 = .ok (.iload 6, 2) := by decide +kernel
theorem dX0_tiedTo_33 : decode cX0_tiedTo 33 = .ok (.iload_n 2, 1) := by decide +kernel
theorem dX0_tiedTo_34 : decode cX0_tiedTo 34 = .ok (.iand, 1) := by decide +kernel
theorem dX0_tiedTo_35 : decode cX0_tiedTo 35 = .ok (.ifCond .eq 8, 3) := by decide +kernel
theorem dX0_tiedTo_38 : decode cX0_tiedTo 38 = .ok (.iload_n 2, 1) := by decide +kernel
theorem dX0_tiedTo_39 : decode cX0_tiedTo 39 = .ok (.iload 6, 2) := by decide +kernel
theorem dX0_tiedTo_41 : decode cX0_tiedTo 41 = .ok (.ior, 1) := by decide +kernel
theorem dX0_tiedTo_42 : decode cX0_tiedTo 42 = .ok (.istore_n 2, 1) := by decide +kernel
theorem dX0_tiedTo_43 : decode cX0_tiedTo 43 = .ok (.iinc 5 1, 3) := by decide +kernel
theorem dX0_tiedTo_46 : decode cX0_tiedTo 46 = .ok (.goto (-30), 3) := by decide +kernel
theorem dX0_tiedTo_49 : decode cX0_tiedTo 49 = .ok (.iload_n 2, 1) := by decide +kernel
theorem dX0_tiedTo_50 : decode cX0_tiedTo 50 = .ok (.iload 4, 2) := by decide +kernel
theorem dX0_tiedTo_52 : decode cX0_tiedTo 52 = .ok (.if_icmp .ne 5, 3) := by decide +kernel
theorem dX0_tiedTo_55 : decode cX0_tiedTo 55 = .ok (.iload_n 2, 1) := by decide +kernel
theorem dX0_tiedTo_56 : decode cX0_tiedTo 56 = .ok (.ireturn, 1) := by decide +kernel
theorem dX0_tiedTo_57 : decode cX0_tiedTo 57 = .ok (.iinc 3 1, 3) := by decide +kernel
theorem dX0_tiedTo_60 : decode cX0_tiedTo 60 = .ok (.goto (-56), 3) := by decide +kernel
theorem dX0_tiedTo_63 : decode cX0_tiedTo 63 = .ok (.iload_n 2, 1) := by decide +kernel
theorem dX0_tiedTo_64 : decode cX0_tiedTo 64 = .ok (.ireturn, 1) := by decide +kernel
theorem dX0_isFound_0 : decode cX0_isFound 0 = .ok (.iload_n 1, 1) := by decide +kernel
theorem dX0_isFound_1 : decode cX0_isFound 1 = .ok (.invokestatic 9, 3) := by decide +kernel
theorem dX0_isFound_4 : decode cX0_isFound 4 = .ok (.iload_n 0, 1) := by decide +kernel
theorem dX0_isFound_5 : decode cX0_isFound 5 = .ok (.iconst 1, 1) := by decide +kernel
theorem dX0_isFound_6 : decode cX0_isFound 6 = .ok (.iload_n 1, 1) := by decide +kernel
theorem dX0_isFound_7 : decode cX0_isFound 7 = .ok (.ishl, 1) := by decide +kernel
theorem dX0_isFound_8 : decode cX0_isFound 8 = .ok (.iconst (-1), 1) := by decide +kernel
theorem dX0_isFound_9 : decode cX0_isFound 9 = .ok (.ixor, 1) := by decide +kernel
theorem dX0_isFound_10 : decode cX0_isFound 10 = .ok (.iand, 1) := by decide +kernel
theorem dX0_isFound_11 : decode cX0_isFound 11 = .ok (.invokestatic 36, 3) := by decide +kernel
theorem dX0_isFound_14 : decode cX0_isFound 14 = .ok (.istore_n 2, 1) := by decide +kernel
theorem dX0_isFound_15 : decode cX0_isFound 15 = .ok (.iload_n 2, 1) := by decide +kernel
theorem dX0_isFound_16 : decode cX0_isFound 16 = .ok (.iload_n 1, 1) := by decide +kernel
theorem dX0_isFound_17 : decode cX0_isFound 17 = .ok (.invokestatic 15, 3) := by decide +kernel
theorem dX0_isFound_20 : decode cX0_isFound 20 = .ok (.iand, 1) := by decide +kernel
theorem dX0_isFound_21 : decode cX0_isFound 21 = .ok (.ifCond .ne 7, 3) := by decide +kernel
theorem dX0_isFound_24 : decode cX0_isFound 24 = .ok (.iconst 1, 1) := by decide +kernel
theorem dX0_isFound_25 : decode cX0_isFound 25 = .ok (.goto 4, 3) := by decide +kernel
theorem dX0_isFound_28 : decode cX0_isFound 28 = .ok (.iconst 0, 1) := by decide +kernel
theorem dX0_isFound_29 : decode cX0_isFound 29 = .ok (.ireturn, 1) := by decide +kernel
theorem dX0_numberFound_0 : decode cX0_numberFound 0 = .ok (.iconst 0, 1) := by decide +kernel
theorem dX0_numberFound_1 : decode cX0_numberFound 1 = .ok (.istore_n 1, 1) := by decide +kernel
theorem dX0_numberFound_2 : decode cX0_numberFound 2 = .ok (.iconst 0, 1) := by decide +kernel
theorem dX0_numberFound_3 : decode cX0_numberFound 3 = .ok (.istore_n 2, 1) := by decide +kernel
theorem dX0_numberFound_4 : decode cX0_numberFound 4 = .ok (.iload_n 2, 1) := by decide +kernel
theorem dX0_numberFound_5 : decode cX0_numberFound 5 = .ok (.bipush 24, 2) := by decide +kernel
theorem dX0_numberFound_7 : decode cX0_numberFound 7 = .ok (.if_icmp .ge 28, 3) := by decide +kernel
theorem dX0_numberFound_10 : decode cX0_numberFound 10 = .ok (.iload_n 0, 1) := by decide +kernel
theorem dX0_numberFound_11 : decode cX0_numberFound 11 = .ok (.iload_n 2, 1) := by decide +kernel
theorem dX0_numberFound_12 : decode cX0_numberFound 12 = .ok (.invokestatic 29, 3) := by decide +kernel
theorem dX0_numberFound_15 : decode cX0_numberFound 15 = .ok (.ifCond .eq 14, 3) := by decide +kernel
theorem dX0_numberFound_18 : decode cX0_numberFound 18 = .ok (.iload_n 0, 1) := by decide +kernel
theorem dX0_numberFound_19 : decode cX0_numberFound 19 = .ok (.iload_n 2, 1) := by decide +kernel
theorem dX0_numberFound_20 : decode cX0_numberFound 20 = .ok (.invokestatic 33, 3) := by decide +kernel
theorem dX0_numberFound_23 : decode cX0_numberFound 23 = .ok (.ifCond .eq 6, 3) := by decide +kernel
theorem dX0_numberFound_26 : decode cX0_numberFound 26 = .ok (.iinc 1 1, 3) := by decide +kernel
theorem dX0_numberFound_29 : decode cX0_numberFound 29 = .ok (.iinc 2 1, 3) := by decide +kernel
theorem dX0_numberFound_32 : decode cX0_numberFound 32 = .ok (.goto (-28), 3) := by decide +kernel
theorem dX0_numberFound_35 : decode cX0_numberFound 35 = .ok (.iload_n 1, 1) := by decide +kernel
theorem dX0_numberFound_36 : decode cX0_numberFound 36 = .ok (.ireturn, 1) := by decide +kernel
theorem dX0_numberWithoutWay_0 : decode cX0_numberWithoutWay 0 = .ok (.iconst 0, 1) := by decide +kernel
theorem dX0_numberWithoutWay_1 : decode cX0_numberWithoutWay 1 = .ok (.istore_n 1, 1) := by decide +kernel
theorem dX0_numberWithoutWay_2 : decode cX0_numberWithoutWay 2 = .ok (.iconst 0, 1) := by decide +kernel
theorem dX0_numberWithoutWay_3 : decode cX0_numberWithoutWay 3 = .ok (.istore_n 2, 1) := by decide +kernel
theorem dX0_numberWithoutWay_4 : decode cX0_numberWithoutWay 4 = .ok (.iload_n 2, 1) := by decide +kernel
theorem dX0_numberWithoutWay_5 : decode cX0_numberWithoutWay 5 = .ok (.bipush 24, 2) := by decide +kernel
theorem dX0_numberWithoutWay_7 : decode cX0_numberWithoutWay 7 = .ok (.if_icmp .ge 28, 3) := by decide +kernel
theorem dX0_numberWithoutWay_10 : decode cX0_numberWithoutWay 10 = .ok (.iload_n 0, 1) := by decide +kernel
theorem dX0_numberWithoutWay_11 : decode cX0_numberWithoutWay 11 = .ok (.iload_n 2, 1) := by decide +kernel
theorem dX0_numberWithoutWay_12 : decode cX0_numberWithoutWay 12 = .ok (.invokestatic 29, 3) := by decide +kernel
theorem dX0_numberWithoutWay_15 : decode cX0_numberWithoutWay 15 = .ok (.ifCond .eq 14, 3) := by decide +kernel
theorem dX0_numberWithoutWay_18 : decode cX0_numberWithoutWay 18 = .ok (.iload_n 0, 1) := by decide +kernel
theorem dX0_numberWithoutWay_19 : decode cX0_numberWithoutWay 19 = .ok (.iload_n 2, 1) := by decide +kernel
theorem dX0_numberWithoutWay_20 : decode cX0_numberWithoutWay 20 = .ok (.invokestatic 50, 3) := by decide +kernel
theorem dX0_numberWithoutWay_23 : decode cX0_numberWithoutWay 23 = .ok (.ifCond .ne 6, 3) := by decide +kernel
theorem dX0_numberWithoutWay_26 : decode cX0_numberWithoutWay 26 = .ok (.iinc 1 1, 3) := by decide +kernel
theorem dX0_numberWithoutWay_29 : decode cX0_numberWithoutWay 29 = .ok (.iinc 2 1, 3) := by decide +kernel
theorem dX0_numberWithoutWay_32 : decode cX0_numberWithoutWay 32 = .ok (.goto (-28), 3) := by decide +kernel
theorem dX0_numberWithoutWay_35 : decode cX0_numberWithoutWay 35 = .ok (.iload_n 1, 1) := by decide +kernel
theorem dX0_numberWithoutWay_36 : decode cX0_numberWithoutWay 36 = .ok (.ireturn, 1) := by decide +kernel
theorem dX0_hasClosedWay_0 : decode cX0_hasClosedWay 0 = .ok (.iload_n 0, 1) := by decide +kernel
theorem dX0_hasClosedWay_1 : decode cX0_hasClosedWay 1 = .ok (.iconst 1, 1) := by decide +kernel
theorem dX0_hasClosedWay_2 : decode cX0_hasClosedWay 2 = .ok (.iload_n 1, 1) := by decide +kernel
theorem dX0_hasClosedWay_3 : decode cX0_hasClosedWay 3 = .ok (.ishl, 1) := by decide +kernel
theorem dX0_hasClosedWay_4 : decode cX0_hasClosedWay 4 = .ok (.iconst (-1), 1) := by decide +kernel
theorem dX0_hasClosedWay_5 : decode cX0_hasClosedWay 5 = .ok (.ixor, 1) := by decide +kernel
theorem dX0_hasClosedWay_6 : decode cX0_hasClosedWay 6 = .ok (.iand, 1) := by decide +kernel
theorem dX0_hasClosedWay_7 : decode cX0_hasClosedWay 7 = .ok (.istore_n 2, 1) := by decide +kernel
theorem dX0_hasClosedWay_8 : decode cX0_hasClosedWay 8 = .ok (.iconst 1, 1) := by decide +kernel
theorem dX0_hasClosedWay_9 : decode cX0_hasClosedWay 9 = .ok (.iload_n 1, 1) := by decide +kernel
theorem dX0_hasClosedWay_10 : decode cX0_hasClosedWay 10 = .ok (.ishl, 1) := by decide +kernel
theorem dX0_hasClosedWay_11 : decode cX0_hasClosedWay 11 = .ok (.istore_n 3, 1) := by decide +kernel
theorem dX0_hasClosedWay_12 : decode cX0_hasClosedWay 12 = .ok (.iconst 0, 1) := by decide +kernel
theorem dX0_hasClosedWay_13 : decode cX0_hasClosedWay 13 = .ok (.istore 4, 2) := by decide +kernel
theorem dX0_hasClosedWay_15 : decode cX0_hasClosedWay 15 = .ok (.iload 4, 2) := by decide +kernel
theorem dX0_hasClosedWay_17 : decode cX0_hasClosedWay 17 = .ok (.bipush 24, 2) := by decide +kernel
theorem dX0_hasClosedWay_19 : decode cX0_hasClosedWay 19 = .ok (.if_icmp .ge 58, 3) := by decide +kernel
theorem dX0_hasClosedWay_22 : decode cX0_hasClosedWay 22 = .ok (.iload_n 3, 1) := by decide +kernel
theorem dX0_hasClosedWay_23 : decode cX0_hasClosedWay 23 = .ok (.ifCond .eq 54, 3) := by decide +kernel
theorem dX0_hasClosedWay_26 : decode cX0_hasClosedWay 26 = .ok (.iload 4, 2) := by decide +kernel
theorem dX0_hasClosedWay_28 : decode cX0_hasClosedWay 28 = .ok (.iconst 2, 1) := by decide +kernel
theorem dX0_hasClosedWay_29 : decode cX0_hasClosedWay 29 = .ok (.irem, 1) := by decide +kernel
theorem dX0_hasClosedWay_30 : decode cX0_hasClosedWay 30 = .ok (.ifCond .ne 7, 3) := by decide +kernel
theorem dX0_hasClosedWay_33 : decode cX0_hasClosedWay 33 = .ok (.iconst 1, 1) := by decide +kernel
theorem dX0_hasClosedWay_34 : decode cX0_hasClosedWay 34 = .ok (.goto 4, 3) := by decide +kernel
theorem dX0_hasClosedWay_37 : decode cX0_hasClosedWay 37 = .ok (.iconst 0, 1) := by decide +kernel
theorem dX0_hasClosedWay_38 : decode cX0_hasClosedWay 38 = .ok (.istore 5, 2) := by decide +kernel
theorem dX0_hasClosedWay_40 : decode cX0_hasClosedWay 40 = .ok (.iload_n 3, 1) := by decide +kernel
theorem dX0_hasClosedWay_41 : decode cX0_hasClosedWay 41 = .ok (.iload 5, 2) := by decide +kernel
theorem dX0_hasClosedWay_43 : decode cX0_hasClosedWay 43 = .ok (.invokestatic 53, 3) := by decide +kernel
theorem dX0_hasClosedWay_46 : decode cX0_hasClosedWay 46 = .ok (.iload_n 2, 1) := by decide +kernel
theorem dX0_hasClosedWay_47 : decode cX0_hasClosedWay 47 = .ok (.iand, 1) := by decide +kernel
theorem dX0_hasClosedWay_48 : decode cX0_hasClosedWay 48 = .ok (.istore_n 3, 1) := by decide +kernel
theorem dX0_hasClosedWay_49 : decode cX0_hasClosedWay 49 = .ok (.iload_n 2, 1) := by decide +kernel
theorem dX0_hasClosedWay_50 : decode cX0_hasClosedWay 50 = .ok (.iload_n 3, 1) := by decide +kernel
theorem dX0_hasClosedWay_51 : decode cX0_hasClosedWay 51 = .ok (.iconst (-1), 1) := by decide +kernel
theorem dX0_hasClosedWay_52 : decode cX0_hasClosedWay 52 = .ok (.ixor, 1) := by decide +kernel
theorem dX0_hasClosedWay_53 : decode cX0_hasClosedWay 53 = .ok (.iand, 1) := by decide +kernel
theorem dX0_hasClosedWay_54 : decode cX0_hasClosedWay 54 = .ok (.istore_n 2, 1) := by decide +kernel
theorem dX0_hasClosedWay_55 : decode cX0_hasClosedWay 55 = .ok (.iload 5, 2) := by decide +kernel
theorem dX0_hasClosedWay_57 : decode cX0_hasClosedWay 57 = .ok (.ifCond .eq 14, 3) := by decide +kernel
theorem dX0_hasClosedWay_60 : decode cX0_hasClosedWay 60 = .ok (.iload_n 3, 1) := by decide +kernel
theorem dX0_hasClosedWay_61 : decode cX0_hasClosedWay 61 = .ok (.iload_n 1, 1) := by decide +kernel
theorem dX0_hasClosedWay_62 : decode cX0_hasClosedWay 62 = .ok (.invokestatic 57, 3) := by decide +kernel
theorem dX0_hasClosedWay_65 : decode cX0_hasClosedWay 65 = .ok (.iand, 1) := by decide +kernel
theorem dX0_hasClosedWay_66 : decode cX0_hasClosedWay 66 = .ok (.ifCond .eq 5, 3) := by decide +kernel
theorem dX0_hasClosedWay_69 : decode cX0_hasClosedWay 69 = .ok (.iconst 1, 1) := by decide +kernel
theorem dX0_hasClosedWay_70 : decode cX0_hasClosedWay 70 = .ok (.ireturn, 1) := by decide +kernel
theorem dX0_hasClosedWay_71 : decode cX0_hasClosedWay 71 = .ok (.iinc 4 1, 3) := by decide +kernel
theorem dX0_hasClosedWay_74 : decode cX0_hasClosedWay 74 = .ok (.goto (-59), 3) := by decide +kernel
theorem dX0_hasClosedWay_77 : decode cX0_hasClosedWay 77 = .ok (.iconst 0, 1) := by decide +kernel
theorem dX0_hasClosedWay_78 : decode cX0_hasClosedWay 78 = .ok (.ireturn, 1) := by decide +kernel
theorem dX0_besides_0 : decode cX0_besides 0 = .ok (.iconst 0, 1) := by decide +kernel
theorem dX0_besides_1 : decode cX0_besides 1 = .ok (.istore_n 2, 1) := by decide +kernel
theorem dX0_besides_2 : decode cX0_besides 2 = .ok (.iconst 0, 1) := by decide +kernel
theorem dX0_besides_3 : decode cX0_besides 3 = .ok (.istore_n 3, 1) := by decide +kernel
theorem dX0_besides_4 : decode cX0_besides 4 = .ok (.iload_n 3, 1) := by decide +kernel
theorem dX0_besides_5 : decode cX0_besides 5 = .ok (.bipush 24, 2) := by decide +kernel
theorem dX0_besides_7 : decode cX0_besides 7 = .ok (.if_icmp .ge 35, 3) := by decide +kernel
theorem dX0_besides_10 : decode cX0_besides 10 = .ok (.iload_n 0, 1) := by decide +kernel
theorem dX0_besides_11 : decode cX0_besides 11 = .ok (.iload_n 3, 1) := by decide +kernel
theorem dX0_besides_12 : decode cX0_besides 12 = .ok (.invokestatic 29, 3) := by decide +kernel
theorem dX0_besides_15 : decode cX0_besides 15 = .ok (.ifCond .eq 21, 3) := by decide +kernel
theorem dX0_besides_18 : decode cX0_besides 18 = .ok (.iload_n 2, 1) := by decide +kernel
theorem dX0_besides_19 : decode cX0_besides 19 = .ok (.iload_n 1, 1) := by decide +kernel
theorem dX0_besides_20 : decode cX0_besides 20 = .ok (.ifCond .eq 10, 3) := by decide +kernel
theorem dX0_besides_23 : decode cX0_besides 23 = .ok (.iload_n 3, 1) := by decide +kernel
theorem dX0_besides_24 : decode cX0_besides 24 = .ok (.invokestatic 60, 3) := by decide +kernel
theorem dX0_besides_27 : decode cX0_besides 27 = .ok (.goto 7, 3) := by decide +kernel
theorem dX0_besides_30 : decode cX0_besides 30 = .ok (.iload_n 3, 1) := by decide +kernel
theorem dX0_besides_31 : decode cX0_besides 31 = .ok (.invokestatic 57, 3) := by decide +kernel
theorem dX0_besides_34 : decode cX0_besides 34 = .ok (.ior, 1) := by decide +kernel
theorem dX0_besides_35 : decode cX0_besides 35 = .ok (.istore_n 2, 1) := by decide +kernel
theorem dX0_besides_36 : decode cX0_besides 36 = .ok (.iinc 3 1, 3) := by decide +kernel
theorem dX0_besides_39 : decode cX0_besides 39 = .ok (.goto (-35), 3) := by decide +kernel
theorem dX0_besides_42 : decode cX0_besides 42 = .ok (.iload_n 2, 1) := by decide +kernel
theorem dX0_besides_43 : decode cX0_besides 43 = .ok (.ireturn, 1) := by decide +kernel
theorem dX0_cellsOfBlock_0 : decode cX0_cellsOfBlock 0 = .ok (.bipush 15, 2) := by decide +kernel
theorem dX0_cellsOfBlock_2 : decode cX0_cellsOfBlock 2 = .ok (.iload_n 0, 1) := by decide +kernel
theorem dX0_cellsOfBlock_3 : decode cX0_cellsOfBlock 3 = .ok (.iload_n 0, 1) := by decide +kernel
theorem dX0_cellsOfBlock_4 : decode cX0_cellsOfBlock 4 = .ok (.iconst 4, 1) := by decide +kernel
theorem dX0_cellsOfBlock_5 : decode cX0_cellsOfBlock 5 = .ok (.irem, 1) := by decide +kernel
theorem dX0_cellsOfBlock_6 : decode cX0_cellsOfBlock 6 = .ok (.isub, 1) := by decide +kernel
theorem dX0_cellsOfBlock_7 : decode cX0_cellsOfBlock 7 = .ok (.ishl, 1) := by decide +kernel
theorem dX0_cellsOfBlock_8 : decode cX0_cellsOfBlock 8 = .ok (.ireturn, 1) := by decide +kernel
theorem dX0_cellsOfGroup_0 : decode cX0_cellsOfGroup 0 = .ok (.ldc 63, 2) := by decide +kernel
theorem dX0_cellsOfGroup_2 : decode cX0_cellsOfGroup 2 = .ok (.iload_n 0, 1) := by decide +kernel
theorem dX0_cellsOfGroup_3 : decode cX0_cellsOfGroup 3 = .ok (.iconst 4, 1) := by decide +kernel
theorem dX0_cellsOfGroup_4 : decode cX0_cellsOfGroup 4 = .ok (.irem, 1) := by decide +kernel
theorem dX0_cellsOfGroup_5 : decode cX0_cellsOfGroup 5 = .ok (.ishl, 1) := by decide +kernel
theorem dX0_cellsOfGroup_6 : decode cX0_cellsOfGroup 6 = .ok (.ireturn, 1) := by decide +kernel
theorem dX1_init_0 : decode cX1_init 0 = .ok (.aload_n 0, 1) := by decide +kernel
theorem dX1_init_1 : decode cX1_init 1 = .ok (.invokespecial 3, 3) := by decide +kernel
theorem dX1_init_4 : decode cX1_init 4 = .ok (.aload_n 0, 1) := by decide +kernel
theorem dX1_init_5 : decode cX1_init 5 = .ok (.sipush 1600, 3) := by decide +kernel
theorem dX1_init_8 : decode cX1_init 8 = .ok (.newarray .char, 2) := by decide +kernel
theorem dX1_init_10 : decode cX1_init 10 = .ok (.putfield 9, 3) := by decide +kernel
theorem dX1_init_13 : decode cX1_init 13 = .ok (.aload_n 0, 1) := by decide +kernel
theorem dX1_init_14 : decode cX1_init 14 = .ok (.iconst 5, 1) := by decide +kernel
theorem dX1_init_15 : decode cX1_init 15 = .ok (.putfield 15, 3) := by decide +kernel
theorem dX1_init_18 : decode cX1_init 18 = .ok (.aload_n 0, 1) := by decide +kernel
theorem dX1_init_19 : decode cX1_init 19 = .ok (.iconst 4, 1) := by decide +kernel
theorem dX1_init_20 : decode cX1_init 20 = .ok (.putfield 19, 3) := by decide +kernel
theorem dX1_init_23 : decode cX1_init 23 = .ok (.aload_n 0, 1) := by decide +kernel
theorem dX1_init_24 : decode cX1_init 24 = .ok (.iconst 3, 1) := by decide +kernel
theorem dX1_init_25 : decode cX1_init 25 = .ok (.putfield 22, 3) := by decide +kernel
theorem dX1_init_28 : decode cX1_init 28 = .ok (.aload_n 0, 1) := by decide +kernel
theorem dX1_init_29 : decode cX1_init 29 = .ok (.bipush 6, 2) := by decide +kernel
theorem dX1_init_31 : decode cX1_init 31 = .ok (.putfield 25, 3) := by decide +kernel
theorem dX1_init_34 : decode cX1_init 34 = .ok (.aload_n 0, 1) := by decide +kernel
theorem dX1_init_35 : decode cX1_init 35 = .ok (.bipush 9, 2) := by decide +kernel
theorem dX1_init_37 : decode cX1_init 37 = .ok (.putfield 28, 3) := by decide +kernel
theorem dX1_init_40 : decode cX1_init 40 = .ok (.aload_n 0, 1) := by decide +kernel
theorem dX1_init_41 : decode cX1_init 41 = .ok (.aload_n 1, 1) := by decide +kernel
theorem dX1_init_42 : decode cX1_init 42 = .ok (.putfield 31, 3) := by decide +kernel
theorem dX1_init_45 : decode cX1_init 45 = .ok (.iconst 0, 1) := by decide +kernel
theorem dX1_init_46 : decode cX1_init 46 = .ok (.istore_n 2, 1) := by decide +kernel
theorem dX1_init_47 : decode cX1_init 47 = .ok (.iload_n 2, 1) := by decide +kernel
theorem dX1_init_48 : decode cX1_init 48 = .ok (.aload_n 0, 1) := by decide +kernel
theorem dX1_init_49 : decode cX1_init 49 = .ok (.getfield 9, 3) := by decide +kernel
theorem dX1_init_52 : decode cX1_init 52 = .ok (.arraylength, 1) := by decide +kernel
theorem dX1_init_53 : decode cX1_init 53 = .ok (.if_icmp .ge 17, 3) := by decide +kernel
theorem dX1_init_56 : decode cX1_init 56 = .ok (.aload_n 0, 1) := by decide +kernel
theorem dX1_init_57 : decode cX1_init 57 = .ok (.getfield 9, 3) := by decide +kernel
theorem dX1_init_60 : decode cX1_init 60 = .ok (.iload_n 2, 1) := by decide +kernel
theorem dX1_init_61 : decode cX1_init 61 = .ok (.bipush 45, 2) := by decide +kernel
theorem dX1_init_63 : decode cX1_init 63 = .ok (.castore, 1) := by decide +kernel
theorem dX1_init_64 : decode cX1_init 64 = .ok (.iinc 2 1, 3) := by decide +kernel
theorem dX1_init_67 : decode cX1_init 67 = .ok (.goto (-20), 3) := by decide +kernel
theorem dX1_init_70 : decode cX1_init 70 = .ok (.return_, 1) := by decide +kernel
theorem dX1_changePoints_0 : decode cX1_changePoints 0 = .ok (.iload_n 1, 1) := by decide +kernel
theorem dX1_changePoints_1 : decode cX1_changePoints 1 = .ok (.bipush 110, 2) := by decide +kernel
theorem dX1_changePoints_3 : decode cX1_changePoints 3 = .ok (.if_icmp .ne 16, 3) := by decide +kernel
theorem dX1_changePoints_6 : decode cX1_changePoints 6 = .ok (.aload_n 0, 1) := by decide +kernel
theorem dX1_changePoints_7 : decode cX1_changePoints 7 = .ok (.getfield 15, 3) := by decide +kernel
theorem dX1_changePoints_10 : decode cX1_changePoints 10 = .ok (.istore_n 3, 1) := by decide +kernel
theorem dX1_changePoints_11 : decode cX1_changePoints 11 = .ok (.aload_n 0, 1) := by decide +kernel
theorem dX1_changePoints_12 : decode cX1_changePoints 12 = .ok (.iload_n 2, 1) := by decide +kernel
theorem dX1_changePoints_13 : decode cX1_changePoints 13 = .ok (.putfield 15, 3) := by decide +kernel
theorem dX1_changePoints_16 : decode cX1_changePoints 16 = .ok (.goto 32, 3) := by decide +kernel
theorem dX1_changePoints_19 : decode cX1_changePoints 19 = .ok (.iload_n 1, 1) := by decide +kernel
theorem dX1_changePoints_20 : decode cX1_changePoints 20 = .ok (.bipush 121, 2) := by decide +kernel
theorem dX1_changePoints_22 : decode cX1_changePoints 22 = .ok (.if_icmp .ne 16, 3) := by decide +kernel
theorem dX1_changePoints_25 : decode cX1_changePoints 25 = .ok (.aload_n 0, 1) := by decide +kernel
theorem dX1_changePoints_26 : decode cX1_changePoints 26 = .ok (.getfield 19, 3) := by decide +kernel
theorem dX1_changePoints_29 : decode cX1_changePoints 29 = .ok (.istore_n 3, 1) := by decide +kernel
theorem dX1_changePoints_30 : decode cX1_changePoints 30 = .ok (.aload_n 0, 1) := by decide +kernel
theorem dX1_changePoints_31 : decode cX1_changePoints 31 = .ok (.iload_n 2, 1) := by decide +kernel
theorem dX1_changePoints_32 : decode cX1_changePoints 32 = .ok (.putfield 19, 3) := by decide +kernel
theorem dX1_changePoints_35 : decode cX1_changePoints 35 = .ok (.goto 13, 3) := by decide +kernel
theorem dX1_changePoints_38 : decode cX1_changePoints 38 = .ok (.aload_n 0, 1) := by decide +kernel
theorem dX1_changePoints_39 : decode cX1_changePoints 39 = .ok (.getfield 22, 3) := by decide +kernel
theorem dX1_changePoints_42 : decode cX1_changePoints 42 = .ok (.istore_n 3, 1) := by decide +kernel
theorem dX1_changePoints_43 : decode cX1_changePoints 43 = .ok (.aload_n 0, 1) := by decide +kernel
theorem dX1_changePoints_44 : decode cX1_changePoints 44 = .ok (.iload_n 2, 1) := by decide +kernel
theorem dX1_changePoints_45 : decode cX1_changePoints 45 = .ok (.putfield 22, 3) := by decide +kernel
theorem dX1_changePoints_48 : decode cX1_changePoints 48 = .ok (.iload_n 3, 1) := by decide +kernel
theorem dX1_changePoints_49 : decode cX1_changePoints 49 = .ok (.ireturn, 1) := by decide +kernel
theorem dX1_bestScore_0 : decode cX1_bestScore 0 = .ok (.aload_n 0, 1) := by decide +kernel
theorem dX1_bestScore_1 : decode cX1_bestScore 1 = .ok (.getfield 15, 3) := by decide +kernel
theorem dX1_bestScore_4 : decode cX1_bestScore 4 = .ok (.aload_n 0, 1) := by decide +kernel
theorem dX1_bestScore_5 : decode cX1_bestScore 5 = .ok (.getfield 19, 3) := by decide +kernel
theorem dX1_bestScore_8 : decode cX1_bestScore 8 = .ok (.iadd, 1) := by decide +kernel
theorem dX1_bestScore_9 : decode cX1_bestScore 9 = .ok (.aload_n 0, 1) := by decide +kernel
theorem dX1_bestScore_10 : decode cX1_bestScore 10 = .ok (.getfield 22, 3) := by decide +kernel
theorem dX1_bestScore_13 : decode cX1_bestScore 13 = .ok (.iadd, 1) := by decide +kernel
theorem dX1_bestScore_14 : decode cX1_bestScore 14 = .ok (.ireturn, 1) := by decide +kernel
theorem dX1_scoreOf_0 : decode cX1_scoreOf 0 = .ok (.aload_n 0, 1) := by decide +kernel
theorem dX1_scoreOf_1 : decode cX1_scoreOf 1 = .ok (.getfield 31, 3) := by decide +kernel
theorem dX1_scoreOf_4 : decode cX1_scoreOf 4 = .ok (.getfield 35, 3) := by decide +kernel
theorem dX1_scoreOf_7 : decode cX1_scoreOf 7 = .ok (.iload_n 1, 1) := by decide +kernel
theorem dX1_scoreOf_8 : decode cX1_scoreOf 8 = .ok (.iaload, 1) := by decide +kernel
theorem dX1_scoreOf_9 : decode cX1_scoreOf 9 = .ok (.aload_n 0, 1) := by decide +kernel
theorem dX1_scoreOf_10 : decode cX1_scoreOf 10 = .ok (.getfield 31, 3) := by decide +kernel
theorem dX1_scoreOf_13 : decode cX1_scoreOf 13 = .ok (.getfield 35, 3) := by decide +kernel
theorem dX1_scoreOf_16 : decode cX1_scoreOf 16 = .ok (.iload_n 2, 1) := by decide +kernel
theorem dX1_scoreOf_17 : decode cX1_scoreOf 17 = .ok (.iaload, 1) := by decide +kernel
theorem dX1_scoreOf_18 : decode cX1_scoreOf 18 = .ok (.if_icmp .ne 7, 3) := by decide +kernel
theorem dX1_scoreOf_21 : decode cX1_scoreOf 21 = .ok (.iconst 1, 1) := by decide +kernel
theorem dX1_scoreOf_22 : decode cX1_scoreOf 22 = .ok (.goto 4, 3) := by decide +kernel
theorem dX1_scoreOf_25 : decode cX1_scoreOf 25 = .ok (.iconst 0, 1) := by decide +kernel
theorem dX1_scoreOf_26 : decode cX1_scoreOf 26 = .ok (.istore_n 3, 1) := by decide +kernel
theorem dX1_scoreOf_27 : decode cX1_scoreOf 27 = .ok (.aload_n 0, 1) := by decide +kernel
theorem dX1_scoreOf_28 : decode cX1_scoreOf 28 = .ok (.getfield 31, 3) := by decide +kernel
theorem dX1_scoreOf_31 : decode cX1_scoreOf 31 = .ok (.iload_n 1, 1) := by decide +kernel
theorem dX1_scoreOf_32 : decode cX1_scoreOf 32 = .ok (.invokevirtual 41, 3) := by decide +kernel
theorem dX1_scoreOf_35 : decode cX1_scoreOf 35 = .ok (.aload_n 0, 1) := by decide +kernel
theorem dX1_scoreOf_36 : decode cX1_scoreOf 36 = .ok (.getfield 31, 3) := by decide +kernel
theorem dX1_scoreOf_39 : decode cX1_scoreOf 39 = .ok (.iload_n 2, 1) := by decide +kernel
theorem dX1_scoreOf_40 : decode cX1_scoreOf 40 = .ok (.invokevirtual 41, 3) := by decide +kernel
theorem dX1_scoreOf_43 : decode cX1_scoreOf 43 = .ok (.if_icmp .ne 7, 3) := by decide +kernel
theorem dX1_scoreOf_46 : decode cX1_scoreOf 46 = .ok (.iconst 1, 1) := by decide +kernel
theorem dX1_scoreOf_47 : decode cX1_scoreOf 47 = .ok (.goto 4, 3) := by decide +kernel
theorem dX1_scoreOf_50 : decode cX1_scoreOf 50 = .ok (.iconst 0, 1) := by decide +kernel
theorem dX1_scoreOf_51 : decode cX1_scoreOf 51 = .ok (.istore 4, 2) := by decide +kernel
theorem dX1_scoreOf_53 : decode cX1_scoreOf 53 = .ok (.aload_n 0, 1) := by decide +kernel
theorem dX1_scoreOf_54 : decode cX1_scoreOf 54 = .ok (.aload_n 0, 1) := by decide +kernel
theorem dX1_scoreOf_55 : decode cX1_scoreOf 55 = .ok (.getfield 31, 3) := by decide +kernel
theorem dX1_scoreOf_58 : decode cX1_scoreOf 58 = .ok (.getfield 45, 3) := by decide +kernel
theorem dX1_scoreOf_61 : decode cX1_scoreOf 61 = .ok (.iload_n 1, 1) := by decide +kernel
theorem dX1_scoreOf_62 : decode cX1_scoreOf 62 = .ok (.iaload, 1) := by decide +kernel
theorem dX1_scoreOf_63 : decode cX1_scoreOf 63 = .ok (.aload_n 0, 1) := by decide +kernel
theorem dX1_scoreOf_64 : decode cX1_scoreOf 64 = .ok (.getfield 31, 3) := by decide +kernel
theorem dX1_scoreOf_67 : decode cX1_scoreOf 67 = .ok (.getfield 45, 3) := by decide +kernel
theorem dX1_scoreOf_70 : decode cX1_scoreOf 70 = .ok (.iload_n 2, 1) := by decide +kernel
theorem dX1_scoreOf_71 : decode cX1_scoreOf 71 = .ok (.iaload, 1) := by decide +kernel
theorem dX1_scoreOf_72 : decode cX1_scoreOf 72 = .ok (.invokevirtual 48, 3) := by decide +kernel
theorem dX1_scoreOf_75 : decode cX1_scoreOf 75 = .ok (.aload_n 0, 1) := by decide +kernel
theorem dX1_scoreOf_76 : decode cX1_scoreOf 76 = .ok (.aload_n 0, 1) := by decide +kernel
theorem dX1_scoreOf_77 : decode cX1_scoreOf 77 = .ok (.getfield 31, 3) := by decide +kernel
theorem dX1_scoreOf_80 : decode cX1_scoreOf 80 = .ok (.getfield 52, 3) := by decide +kernel
theorem dX1_scoreOf_83 : decode cX1_scoreOf 83 = .ok (.iload_n 1, 1) := by decide +kernel
theorem dX1_scoreOf_84 : decode cX1_scoreOf 84 = .ok (.iaload, 1) := by decide +kernel
theorem dX1_scoreOf_85 : decode cX1_scoreOf 85 = .ok (.aload_n 0, 1) := by decide +kernel
theorem dX1_scoreOf_86 : decode cX1_scoreOf 86 = .ok (.getfield 31, 3) := by decide +kernel
theorem dX1_scoreOf_89 : decode cX1_scoreOf 89 = .ok (.getfield 52, 3) := by decide +kernel
theorem dX1_scoreOf_92 : decode cX1_scoreOf 92 = .ok (.iload_n 2, 1) := by decide +kernel
theorem dX1_scoreOf_93 : decode cX1_scoreOf 93 = .ok (.iaload, 1) := by decide +kernel
theorem dX1_scoreOf_94 : decode cX1_scoreOf 94 = .ok (.isub, 1) := by decide +kernel
theorem dX1_scoreOf_95 : decode cX1_scoreOf 95 = .ok (.invokevirtual 55, 3) := by decide +kernel
theorem dX1_scoreOf_98 : decode cX1_scoreOf 98 = .ok (.iadd, 1) := by decide +kernel
theorem dX1_scoreOf_99 : decode cX1_scoreOf 99 = .ok (.aload_n 0, 1) := by decide +kernel
theorem dX1_scoreOf_100 : decode cX1_scoreOf 100 = .ok (.iload_n 3, 1) := by decide +kernel
theorem dX1_scoreOf_101 : decode cX1_scoreOf 101 = .ok (.iload 4, 2) := by decide +kernel
theorem dX1_scoreOf_103 : decode cX1_scoreOf 103 = .ok (.invokevirtual 58, 3) := by decide +kernel
theorem dX1_scoreOf_106 : decode cX1_scoreOf 106 = .ok (.iadd, 1) := by decide +kernel
theorem dX1_scoreOf_107 : decode cX1_scoreOf 107 = .ok (.ireturn, 1) := by decide +kernel
theorem dX1_nameScore_0 : decode cX1_nameScore 0 = .ok (.iload_n 1, 1) := by decide +kernel
theorem dX1_nameScore_1 : decode cX1_nameScore 1 = .ok (.iload_n 2, 1) := by decide +kernel
theorem dX1_nameScore_2 : decode cX1_nameScore 2 = .ok (.if_icmp .ne 8, 3) := by decide +kernel
theorem dX1_nameScore_5 : decode cX1_nameScore 5 = .ok (.aload_n 0, 1) := by decide +kernel
theorem dX1_nameScore_6 : decode cX1_nameScore 6 = .ok (.getfield 15, 3) := by decide +kernel
theorem dX1_nameScore_9 : decode cX1_nameScore 9 = .ok (.ireturn, 1) := by decide +kernel
theorem dX1_nameScore_10 : decode cX1_nameScore 10 = .ok (.iload_n 1, 1) := by decide +kernel
theorem dX1_nameScore_11 : decode cX1_nameScore 11 = .ok (.bipush 10, 2) := by decide +kernel
theorem dX1_nameScore_13 : decode cX1_nameScore 13 = .ok (.idiv, 1) := by decide +kernel
theorem dX1_nameScore_14 : decode cX1_nameScore 14 = .ok (.iload_n 2, 1) := by decide +kernel
theorem dX1_nameScore_15 : decode cX1_nameScore 15 = .ok (.bipush 10, 2) := by decide +kernel
theorem dX1_nameScore_17 : decode cX1_nameScore 17 = .ok (.idiv, 1) := by decide +kernel
theorem dX1_nameScore_18 : decode cX1_nameScore 18 = .ok (.if_icmp .ne 12, 3) := by decide +kernel
theorem dX1_nameScore_21 : decode cX1_nameScore 21 = .ok (.aload_n 0, 1) := by decide +kernel
theorem dX1_nameScore_22 : decode cX1_nameScore 22 = .ok (.getfield 15, 3) := by decide +kernel
theorem dX1_nameScore_25 : decode cX1_nameScore 25 = .ok (.iconst 2, 1) := by decide +kernel
theorem dX1_nameScore_26 : decode cX1_nameScore 26 = .ok (.idiv, 1) := by decide +kernel
theorem dX1_nameScore_27 : decode cX1_nameScore 27 = .ok (.goto 4, 3) := by decide +kernel
theorem dX1_nameScore_30 : decode cX1_nameScore 30 = .ok (.iconst 0, 1) := by decide +kernel
theorem dX1_nameScore_31 : decode cX1_nameScore 31 = .ok (.ireturn, 1) := by decide +kernel
theorem dX1_yearScore_0 : decode cX1_yearScore 0 = .ok (.iload_n 1, 1) := by decide +kernel
theorem dX1_yearScore_1 : decode cX1_yearScore 1 = .ok (.ifCond .ne 8, 3) := by decide +kernel
theorem dX1_yearScore_4 : decode cX1_yearScore 4 = .ok (.aload_n 0, 1) := by decide +kernel
theorem dX1_yearScore_5 : decode cX1_yearScore 5 = .ok (.getfield 19, 3) := by decide +kernel
theorem dX1_yearScore_8 : decode cX1_yearScore 8 = .ok (.ireturn, 1) := by decide +kernel
theorem dX1_yearScore_9 : decode cX1_yearScore 9 = .ok (.iload_n 1, 1) := by decide +kernel
theorem dX1_yearScore_10 : decode cX1_yearScore 10 = .ok (.iconst 1, 1) := by decide +kernel
theorem dX1_yearScore_11 : decode cX1_yearScore 11 = .ok (.if_icmp .eq 8, 3) := by decide +kernel
theorem dX1_yearScore_14 : decode cX1_yearScore 14 = .ok (.iload_n 1, 1) := by decide +kernel
theorem dX1_yearScore_15 : decode cX1_yearScore 15 = .ok (.iconst (-1), 1) := by decide +kernel
theorem dX1_yearScore_16 : decode cX1_yearScore 16 = .ok (.if_icmp .ne 12, 3) := by decide +kernel
theorem dX1_yearScore_19 : decode cX1_yearScore 19 = .ok (.aload_n 0, 1) := by decide +kernel
theorem dX1_yearScore_20 : decode cX1_yearScore 20 = .ok (.getfield 19, 3) := by decide +kernel
theorem dX1_yearScore_23 : decode cX1_yearScore 23 = .ok (.iconst 2, 1) := by decide +kernel
theorem dX1_yearScore_24 : decode cX1_yearScore 24 = .ok (.idiv, 1) := by decide +kernel
theorem dX1_yearScore_25 : decode cX1_yearScore 25 = .ok (.goto 4, 3) := by decide +kernel
theorem dX1_yearScore_28 : decode cX1_yearScore 28 = .ok (.iconst 0, 1) := by decide +kernel
theorem dX1_yearScore_29 : decode cX1_yearScore 29 = .ok (.ireturn, 1) := by decide +kernel
theorem dX1_placeScore_0 : decode cX1_placeScore 0 = .ok (.iload_n 1, 1) := by decide +kernel
theorem dX1_placeScore_1 : decode cX1_placeScore 1 = .ok (.ifCond .eq 8, 3) := by decide +kernel
theorem dX1_placeScore_4 : decode cX1_placeScore 4 = .ok (.aload_n 0, 1) := by decide +kernel
theorem dX1_placeScore_5 : decode cX1_placeScore 5 = .ok (.getfield 22, 3) := by decide +kernel
theorem dX1_placeScore_8 : decode cX1_placeScore 8 = .ok (.ireturn, 1) := by decide +kernel
theorem dX1_placeScore_9 : decode cX1_placeScore 9 = .ok (.iload_n 2, 1) := by decide +kernel
theorem dX1_placeScore_10 : decode cX1_placeScore 10 = .ok (.ifCond .eq 12, 3) := by decide +kernel
theorem dX1_placeScore_13 : decode cX1_placeScore 13 = .ok (.aload_n 0, 1) := by decide +kernel
theorem dX1_placeScore_14 : decode cX1_placeScore 14 = .ok (.getfield 22, 3) := by decide +kernel
theorem dX1_placeScore_17 : decode cX1_placeScore 17 = .ok (.iconst 2, 1) := by decide +kernel
theorem dX1_placeScore_18 : decode cX1_placeScore 18 = .ok (.idiv, 1) := by decide +kernel
theorem dX1_placeScore_19 : decode cX1_placeScore 19 = .ok (.goto 4, 3) := by decide +kernel
theorem dX1_placeScore_22 : decode cX1_placeScore 22 = .ok (.iconst 0, 1) := by decide +kernel
theorem dX1_placeScore_23 : decode cX1_placeScore 23 = .ok (.ireturn, 1) := by decide +kernel
theorem dX1_placeOfPair_0 : decode cX1_placeOfPair 0 = .ok (.iload_n 1, 1) := by decide +kernel
theorem dX1_placeOfPair_1 : decode cX1_placeOfPair 1 = .ok (.iload_n 2, 1) := by decide +kernel
theorem dX1_placeOfPair_2 : decode cX1_placeOfPair 2 = .ok (.invokestatic 62, 3) := by decide +kernel
theorem dX1_placeOfPair_5 : decode cX1_placeOfPair 5 = .ok (.bipush 40, 2) := by decide +kernel
theorem dX1_placeOfPair_7 : decode cX1_placeOfPair 7 = .ok (.imul, 1) := by decide +kernel
theorem dX1_placeOfPair_8 : decode cX1_placeOfPair 8 = .ok (.iload_n 1, 1) := by decide +kernel
theorem dX1_placeOfPair_9 : decode cX1_placeOfPair 9 = .ok (.iload_n 2, 1) := by decide +kernel
theorem dX1_placeOfPair_10 : decode cX1_placeOfPair 10 = .ok (.invokestatic 67, 3) := by decide +kernel
theorem dX1_placeOfPair_13 : decode cX1_placeOfPair 13 = .ok (.iadd, 1) := by decide +kernel
theorem dX1_placeOfPair_14 : decode cX1_placeOfPair 14 = .ok (.ireturn, 1) := by decide +kernel
theorem dX1_isDecided_0 : decode cX1_isDecided 0 = .ok (.aload_n 0, 1) := by decide +kernel
theorem dX1_isDecided_1 : decode cX1_isDecided 1 = .ok (.getfield 9, 3) := by decide +kernel
theorem dX1_isDecided_4 : decode cX1_isDecided 4 = .ok (.aload_n 0, 1) := by decide +kernel
theorem dX1_isDecided_5 : decode cX1_isDecided 5 = .ok (.iload_n 1, 1) := by decide +kernel
theorem dX1_isDecided_6 : decode cX1_isDecided 6 = .ok (.iload_n 2, 1) := by decide +kernel
theorem dX1_isDecided_7 : decode cX1_isDecided 7 = .ok (.invokevirtual 70, 3) := by decide +kernel
theorem dX1_isDecided_10 : decode cX1_isDecided 10 = .ok (.caload, 1) := by decide +kernel
theorem dX1_isDecided_11 : decode cX1_isDecided 11 = .ok (.bipush 45, 2) := by decide +kernel
theorem dX1_isDecided_13 : decode cX1_isDecided 13 = .ok (.if_icmp .eq 7, 3) := by decide +kernel
theorem dX1_isDecided_16 : decode cX1_isDecided 16 = .ok (.iconst 1, 1) := by decide +kernel
theorem dX1_isDecided_17 : decode cX1_isDecided 17 = .ok (.goto 4, 3) := by decide +kernel
theorem dX1_isDecided_20 : decode cX1_isDecided 20 = .ok (.iconst 0, 1) := by decide +kernel
theorem dX1_isDecided_21 : decode cX1_isDecided 21 = .ok (.ireturn, 1) := by decide +kernel
theorem dX1_putDecision_0 : decode cX1_putDecision 0 = .ok (.aload_n 0, 1) := by decide +kernel
theorem dX1_putDecision_1 : decode cX1_putDecision 1 = .ok (.getfield 9, 3) := by decide +kernel
theorem dX1_putDecision_4 : decode cX1_putDecision 4 = .ok (.aload_n 0, 1) := by decide +kernel
theorem dX1_putDecision_5 : decode cX1_putDecision 5 = .ok (.iload_n 1, 1) := by decide +kernel
theorem dX1_putDecision_6 : decode cX1_putDecision 6 = .ok (.iload_n 2, 1) := by decide +kernel
theorem dX1_putDecision_7 : decode cX1_putDecision 7 = .ok (.invokevirtual 70, 3) := by decide +kernel
theorem dX1_putDecision_10 : decode cX1_putDecision 10 = .ok (.iload_n 3, 1) := by decide +kernel
theorem dX1_putDecision_11 : decode cX1_putDecision 11 = .ok (.castore, 1) := by decide +kernel
theorem dX1_putDecision_12 : decode cX1_putDecision 12 = .ok (.return_, 1) := by decide +kernel
theorem dX1_kindOf_0 : decode cX1_kindOf 0 = .ok (.aload_n 0, 1) := by decide +kernel
theorem dX1_kindOf_1 : decode cX1_kindOf 1 = .ok (.getfield 9, 3) := by decide +kernel
theorem dX1_kindOf_4 : decode cX1_kindOf 4 = .ok (.aload_n 0, 1) := by decide +kernel
theorem dX1_kindOf_5 : decode cX1_kindOf 5 = .ok (.iload_n 1, 1) := by decide +kernel
theorem dX1_kindOf_6 : decode cX1_kindOf 6 = .ok (.iload_n 2, 1) := by decide +kernel
theorem dX1_kindOf_7 : decode cX1_kindOf 7 = .ok (.invokevirtual 70, 3) := by decide +kernel
theorem dX1_kindOf_10 : decode cX1_kindOf 10 = .ok (.caload, 1) := by decide +kernel
theorem dX1_kindOf_11 : decode cX1_kindOf 11 = .ok (.istore_n 3, 1) := by decide +kernel
theorem dX1_kindOf_12 : decode cX1_kindOf 12 = .ok (.iload_n 3, 1) := by decide +kernel
theorem dX1_kindOf_13 : decode cX1_kindOf 13 = .ok (.bipush 45, 2) := by decide +kernel
theorem dX1_kindOf_15 : decode cX1_kindOf 15 = .ok (.if_icmp .eq 5, 3) := by decide +kernel
theorem dX1_kindOf_18 : decode cX1_kindOf 18 = .ok (.iload_n 3, 1) := by decide +kernel
theorem dX1_kindOf_19 : decode cX1_kindOf 19 = .ok (.ireturn, 1) := by decide +kernel
theorem dX1_kindOf_20 : decode cX1_kindOf 20 = .ok (.aload_n 0, 1) := by decide +kernel
theorem dX1_kindOf_21 : decode cX1_kindOf 21 = .ok (.iload_n 1, 1) := by decide +kernel
theorem dX1_kindOf_22 : decode cX1_kindOf 22 = .ok (.iload_n 2, 1) := by decide +kernel
theorem dX1_kindOf_23 : decode cX1_kindOf 23 = .ok (.invokevirtual 73, 3) := by decide +kernel
theorem dX1_kindOf_26 : decode cX1_kindOf 26 = .ok (.istore 4, 2) := by decide +kernel
theorem dX1_kindOf_28 : decode cX1_kindOf 28 = .ok (.iload 4, 2) := by decide +kernel
theorem dX1_kindOf_30 : decode cX1_kindOf 30 = .ok (.aload_n 0, 1) := by decide +kernel
theorem dX1_kindOf_31 : decode cX1_kindOf 31 = .ok (.getfield 28, 3) := by decide +kernel
theorem dX1_kindOf_34 : decode cX1_kindOf 34 = .ok (.if_icmp .lt 6, 3) := by decide +kernel
theorem dX1_kindOf_37 : decode cX1_kindOf 37 = .ok (.bipush 121, 2) := by decide +kernel
theorem dX1_kindOf_39 : decode cX1_kindOf 39 = .ok (.ireturn, 1) := by decide +kernel
theorem dX1_kindOf_40 : decode cX1_kindOf 40 = .ok (.iload 4, 2) := by decide +kernel
theorem dX1_kindOf_42 : decode cX1_kindOf 42 = .ok (.aload_n 0, 1) := by decide +kernel
theorem dX1_kindOf_43 : decode cX1_kindOf 43 = .ok (.getfield 25, 3) := by decide +kernel
theorem dX1_kindOf_46 : decode cX1_kindOf 46 = .ok (.if_icmp .lt 8, 3) := by decide +kernel
theorem dX1_kindOf_49 : decode cX1_kindOf 49 = .ok (.bipush 63, 2) := by decide +kernel
theorem dX1_kindOf_51 : decode cX1_kindOf 51 = .ok (.goto 5, 3) := by decide +kernel
theorem dX1_kindOf_54 : decode cX1_kindOf 54 = .ok (.bipush 110, 2) := by decide +kernel
theorem dX1_kindOf_56 : decode cX1_kindOf 56 = .ok (.ireturn, 1) := by decide +kernel
theorem dX2_init_0 : decode cX2_init 0 = .ok (.aload_n 0, 1) := by decide +kernel
theorem dX2_init_1 : decode cX2_init 1 = .ok (.invokespecial 3, 3) := by decide +kernel
theorem dX2_init_4 : decode cX2_init 4 = .ok (.aload_n 0, 1) := by decide +kernel
theorem dX2_init_5 : decode cX2_init 5 = .ok (.bipush 40, 2) := by decide +kernel
theorem dX2_init_7 : decode cX2_init 7 = .ok (.newarray .int, 2) := by decide +kernel
theorem dX2_init_9 : decode cX2_init 9 = .ok (.putfield 9, 3) := by decide +kernel
theorem dX2_init_12 : decode cX2_init 12 = .ok (.aload_n 0, 1) := by decide +kernel
theorem dX2_init_13 : decode cX2_init 13 = .ok (.sipush 400, 3) := by decide +kernel
theorem dX2_init_16 : decode cX2_init 16 = .ok (.newarray .int, 2) := by decide +kernel
theorem dX2_init_18 : decode cX2_init 18 = .ok (.putfield 15, 3) := by decide +kernel
theorem dX2_init_21 : decode cX2_init 21 = .ok (.aload_n 0, 1) := by decide +kernel
theorem dX2_init_22 : decode cX2_init 22 = .ok (.sipush 400, 3) := by decide +kernel
theorem dX2_init_25 : decode cX2_init 25 = .ok (.newarray .int, 2) := by decide +kernel
theorem dX2_init_27 : decode cX2_init 27 = .ok (.putfield 18, 3) := by decide +kernel
theorem dX2_init_30 : decode cX2_init 30 = .ok (.aload_n 0, 1) := by decide +kernel
theorem dX2_init_31 : decode cX2_init 31 = .ok (.sipush 400, 3) := by decide +kernel
theorem dX2_init_34 : decode cX2_init 34 = .ok (.newarray .int, 2) := by decide +kernel
theorem dX2_init_36 : decode cX2_init 36 = .ok (.putfield 21, 3) := by decide +kernel
theorem dX2_init_39 : decode cX2_init 39 = .ok (.aload_n 0, 1) := by decide +kernel
theorem dX2_init_40 : decode cX2_init 40 = .ok (.iconst 0, 1) := by decide +kernel
theorem dX2_init_41 : decode cX2_init 41 = .ok (.putfield 24, 3) := by decide +kernel
theorem dX2_init_44 : decode cX2_init 44 = .ok (.aload_n 0, 1) := by decide +kernel
theorem dX2_init_45 : decode cX2_init 45 = .ok (.iconst 0, 1) := by decide +kernel
theorem dX2_init_46 : decode cX2_init 46 = .ok (.putfield 28, 3) := by decide +kernel
theorem dX2_init_49 : decode cX2_init 49 = .ok (.aload_n 0, 1) := by decide +kernel
theorem dX2_init_50 : decode cX2_init 50 = .ok (.iconst 0, 1) := by decide +kernel
theorem dX2_init_51 : decode cX2_init 51 = .ok (.putfield 31, 3) := by decide +kernel
theorem dX2_init_54 : decode cX2_init 54 = .ok (.aload_n 0, 1) := by decide +kernel
theorem dX2_init_55 : decode cX2_init 55 = .ok (.aload_n 1, 1) := by decide +kernel
theorem dX2_init_56 : decode cX2_init 56 = .ok (.putfield 34, 3) := by decide +kernel
theorem dX2_init_59 : decode cX2_init 59 = .ok (.aload_n 0, 1) := by decide +kernel
theorem dX2_init_60 : decode cX2_init 60 = .ok (.aload_n 2, 1) := by decide +kernel
theorem dX2_init_61 : decode cX2_init 61 = .ok (.putfield 38, 3) := by decide +kernel
theorem dX2_init_64 : decode cX2_init 64 = .ok (.aload_n 0, 1) := by decide +kernel
theorem dX2_init_65 : decode cX2_init 65 = .ok (.aload_n 3, 1) := by decide +kernel
theorem dX2_init_66 : decode cX2_init 66 = .ok (.putfield 42, 3) := by decide +kernel
theorem dX2_init_69 : decode cX2_init 69 = .ok (.return_, 1) := by decide +kernel
theorem dX2_renew_0 : decode cX2_renew 0 = .ok (.iconst 0, 1) := by decide +kernel
theorem dX2_renew_1 : decode cX2_renew 1 = .ok (.istore_n 1, 1) := by decide +kernel
theorem dX2_renew_2 : decode cX2_renew 2 = .ok (.iload_n 1, 1) := by decide +kernel
theorem dX2_renew_3 : decode cX2_renew 3 = .ok (.bipush 40, 2) := by decide +kernel
theorem dX2_renew_5 : decode cX2_renew 5 = .ok (.if_icmp .ge 16, 3) := by decide +kernel
theorem dX2_renew_8 : decode cX2_renew 8 = .ok (.aload_n 0, 1) := by decide +kernel
theorem dX2_renew_9 : decode cX2_renew 9 = .ok (.getfield 9, 3) := by decide +kernel
theorem dX2_renew_12 : decode cX2_renew 12 = .ok (.iload_n 1, 1) := by decide +kernel
theorem dX2_renew_13 : decode cX2_renew 13 = .ok (.iconst (-1), 1) := by decide +kernel
theorem dX2_renew_14 : decode cX2_renew 14 = .ok (.iastore, 1) := by decide +kernel
theorem dX2_renew_15 : decode cX2_renew 15 = .ok (.iinc 1 1, 3) := by decide +kernel
theorem dX2_renew_18 : decode cX2_renew 18 = .ok (.goto (-16), 3) := by decide +kernel
theorem dX2_renew_21 : decode cX2_renew 21 = .ok (.aload_n 0, 1) := by decide +kernel
theorem dX2_renew_22 : decode cX2_renew 22 = .ok (.iconst 0, 1) := by decide +kernel
theorem dX2_renew_23 : decode cX2_renew 23 = .ok (.putfield 28, 3) := by decide +kernel
theorem dX2_renew_26 : decode cX2_renew 26 = .ok (.aload_n 0, 1) := by decide +kernel
theorem dX2_renew_27 : decode cX2_renew 27 = .ok (.iconst 0, 1) := by decide +kernel
theorem dX2_renew_28 : decode cX2_renew 28 = .ok (.putfield 31, 3) := by decide +kernel
theorem dX2_renew_31 : decode cX2_renew 31 = .ok (.aload_n 0, 1) := by decide +kernel
theorem dX2_renew_32 : decode cX2_renew 32 = .ok (.invokevirtual 46, 3) := by decide +kernel
theorem dX2_renew_35 : decode cX2_renew 35 = .ok (.aload_n 0, 1) := by decide +kernel
theorem dX2_renew_36 : decode cX2_renew 36 = .ok (.getfield 38, 3) := by decide +kernel
theorem dX2_renew_39 : decode cX2_renew 39 = .ok (.invokevirtual 49, 3) := by decide +kernel
theorem dX2_renew_42 : decode cX2_renew 42 = .ok (.istore_n 1, 1) := by decide +kernel
theorem dX2_renew_43 : decode cX2_renew 43 = .ok (.iload_n 1, 1) := by decide +kernel
theorem dX2_renew_44 : decode cX2_renew 44 = .ok (.ifCond .lt 14, 3) := by decide +kernel
theorem dX2_renew_47 : decode cX2_renew 47 = .ok (.aload_n 0, 1) := by decide +kernel
theorem dX2_renew_48 : decode cX2_renew 48 = .ok (.iload_n 1, 1) := by decide +kernel
theorem dX2_renew_49 : decode cX2_renew 49 = .ok (.invokevirtual 55, 3) := by decide +kernel
theorem dX2_renew_52 : decode cX2_renew 52 = .ok (.iinc 1 (-1), 3) := by decide +kernel
theorem dX2_renew_55 : decode cX2_renew 55 = .ok (.goto (-12), 3) := by decide +kernel
theorem dX2_renew_58 : decode cX2_renew 58 = .ok (.return_, 1) := by decide +kernel
theorem dX2_gatherLinked_0 : decode cX2_gatherLinked 0 = .ok (.aload_n 0, 1) := by decide +kernel
theorem dX2_gatherLinked_1 : decode cX2_gatherLinked 1 = .ok (.iconst 0, 1) := by decide +kernel
theorem dX2_gatherLinked_2 : decode cX2_gatherLinked 2 = .ok (.putfield 24, 3) := by decide +kernel
theorem dX2_gatherLinked_5 : decode cX2_gatherLinked 5 = .ok (.iconst 0, 1) := by decide +kernel
theorem dX2_gatherLinked_6 : decode cX2_gatherLinked 6 = .ok (.istore_n 1, 1) := by decide +kernel
theorem dX2_gatherLinked_7 : decode cX2_gatherLinked 7 = .ok (.iload_n 1, 1) := by decide +kernel
theorem dX2_gatherLinked_8 : decode cX2_gatherLinked 8 = .ok (.aload_n 0, 1) := by decide +kernel
theorem dX2_gatherLinked_9 : decode cX2_gatherLinked 9 = .ok (.getfield 34, 3) := by decide +kernel
theorem dX2_gatherLinked_12 : decode cX2_gatherLinked 12 = .ok (.getfield 59, 3) := by decide +kernel
theorem dX2_gatherLinked_15 : decode cX2_gatherLinked 15 = .ok (.if_icmp .ge 126, 3) := by decide +kernel
theorem dX2_gatherLinked_18 : decode cX2_gatherLinked 18 = .ok (.aload_n 0, 1) := by decide +kernel
theorem dX2_gatherLinked_19 : decode cX2_gatherLinked 19 = .ok (.getfield 42, 3) := by decide +kernel
theorem dX2_gatherLinked_22 : decode cX2_gatherLinked 22 = .ok (.iload_n 1, 1) := by decide +kernel
theorem dX2_gatherLinked_23 : decode cX2_gatherLinked 23 = .ok (.invokevirtual 62, 3) := by decide +kernel
theorem dX2_gatherLinked_26 : decode cX2_gatherLinked 26 = .ok (.ifCond .ne 6, 3) := by decide +kernel
theorem dX2_gatherLinked_29 : decode cX2_gatherLinked 29 = .ok (.goto 106, 3) := by decide +kernel
theorem dX2_gatherLinked_32 : decode cX2_gatherLinked 32 = .ok (.iconst 0, 1) := by decide +kernel
theorem dX2_gatherLinked_33 : decode cX2_gatherLinked 33 = .ok (.istore_n 2, 1) := by decide +kernel
theorem dX2_gatherLinked_34 : decode cX2_gatherLinked 34 = .ok (.iload_n 2, 1) := by decide +kernel
theorem dX2_gatherLinked_35 : decode cX2_gatherLinked 35 = .ok (.aload_n 0, 1) := by decide +kernel
theorem dX2_gatherLinked_36 : decode cX2_gatherLinked 36 = .ok (.getfield 34, 3) := by decide +kernel
theorem dX2_gatherLinked_39 : decode cX2_gatherLinked 39 = .ok (.getfield 59, 3) := by decide +kernel
theorem dX2_gatherLinked_42 : decode cX2_gatherLinked 42 = .ok (.if_icmp .ge 93, 3) := by decide +kernel
theorem dX2_gatherLinked_45 : decode cX2_gatherLinked 45 = .ok (.aload_n 0, 1) := by decide +kernel
theorem dX2_gatherLinked_46 : decode cX2_gatherLinked 46 = .ok (.getfield 24, 3) := by decide +kernel
theorem dX2_gatherLinked_49 : decode cX2_gatherLinked 49 = .ok (.sipush 400, 3) := by decide +kernel
theorem dX2_gatherLinked_52 : decode cX2_gatherLinked 52 = .ok (.if_icmp .ge 83, 3) := by decide +kernel
theorem dX2_gatherLinked_55 : decode cX2_gatherLinked 55 = .ok (.aload_n 0, 1) := by decide +kernel
theorem dX2_gatherLinked_56 : decode cX2_gatherLinked 56 = .ok (.getfield 34, 3) := by decide +kernel
theorem dX2_gatherLinked_59 : decode cX2_gatherLinked 59 = .ok (.getfield 68, 3) := by decide +kernel
theorem dX2_gatherLinked_62 : decode cX2_gatherLinked 62 = .ok (.iload_n 2, 1) := by decide +kernel
theorem dX2_gatherLinked_63 : decode cX2_gatherLinked 63 = .ok (.baload, 1) := by decide +kernel
theorem dX2_gatherLinked_64 : decode cX2_gatherLinked 64 = .ok (.ifCond .ne 65, 3) := by decide +kernel
theorem dX2_gatherLinked_67 : decode cX2_gatherLinked 67 = .ok (.aload_n 0, 1) := by decide +kernel
theorem dX2_gatherLinked_68 : decode cX2_gatherLinked 68 = .ok (.getfield 38, 3) := by decide +kernel
theorem dX2_gatherLinked_71 : decode cX2_gatherLinked 71 = .ok (.iload_n 1, 1) := by decide +kernel
theorem dX2_gatherLinked_72 : decode cX2_gatherLinked 72 = .ok (.iload_n 2, 1) := by decide +kernel
theorem dX2_gatherLinked_73 : decode cX2_gatherLinked 73 = .ok (.invokevirtual 72, 3) := by decide +kernel
theorem dX2_gatherLinked_76 : decode cX2_gatherLinked 76 = .ok (.bipush 121, 2) := by decide +kernel
theorem dX2_gatherLinked_78 : decode cX2_gatherLinked 78 = .ok (.if_icmp .ne 51, 3) := by decide +kernel
theorem dX2_gatherLinked_81 : decode cX2_gatherLinked 81 = .ok (.aload_n 0, 1) := by decide +kernel
theorem dX2_gatherLinked_82 : decode cX2_gatherLinked 82 = .ok (.getfield 15, 3) := by decide +kernel
theorem dX2_gatherLinked_85 : decode cX2_gatherLinked 85 = .ok (.aload_n 0, 1) := by decide +kernel
theorem dX2_gatherLinked_86 : decode cX2_gatherLinked 86 = .ok (.getfield 24, 3) := by decide +kernel
theorem dX2_gatherLinked_89 : decode cX2_gatherLinked 89 = .ok (.iload_n 1, 1) := by decide +kernel
theorem dX2_gatherLinked_90 : decode cX2_gatherLinked 90 = .ok (.iastore, 1) := by decide +kernel
theorem dX2_gatherLinked_91 : decode cX2_gatherLinked 91 = .ok (.aload_n 0, 1) := by decide +kernel
theorem dX2_gatherLinked_92 : decode cX2_gatherLinked 92 = .ok (.getfield 18, 3) := by decide +kernel
theorem dX2_gatherLinked_95 : decode cX2_gatherLinked 95 = .ok (.aload_n 0, 1) := by decide +kernel
theorem dX2_gatherLinked_96 : decode cX2_gatherLinked 96 = .ok (.getfield 24, 3) := by decide +kernel
theorem dX2_gatherLinked_99 : decode cX2_gatherLinked 99 = .ok (.iload_n 2, 1) := by decide +kernel
theorem dX2_gatherLinked_100 : decode cX2_gatherLinked 100 = .ok (.iastore, 1) := by decide +kernel
theorem dX2_gatherLinked_101 : decode cX2_gatherLinked 101 = .ok (.aload_n 0, 1) := by decide +kernel
theorem dX2_gatherLinked_102 : decode cX2_gatherLinked 102 = .ok (.getfield 21, 3) := by decide +kernel
theorem dX2_gatherLinked_105 : decode cX2_gatherLinked 105 = .ok (.aload_n 0, 1) := by decide +kernel
theorem dX2_gatherLinked_106 : decode cX2_gatherLinked 106 = .ok (.getfield 24, 3) := by decide +kernel
theorem dX2_gatherLinked_109 : decode cX2_gatherLinked 109 = .ok (.aload_n 0, 1) := by decide +kernel
theorem dX2_gatherLinked_110 : decode cX2_gatherLinked 110 = .ok (.getfield 38, 3) := by decide +kernel
theorem dX2_gatherLinked_113 : decode cX2_gatherLinked 113 = .ok (.iload_n 1, 1) := by decide +kernel
theorem dX2_gatherLinked_114 : decode cX2_gatherLinked 114 = .ok (.iload_n 2, 1) := by decide +kernel
theorem dX2_gatherLinked_115 : decode cX2_gatherLinked 115 = .ok (.invokevirtual 76, 3) := by decide +kernel
theorem dX2_gatherLinked_118 : decode cX2_gatherLinked 118 = .ok (.iastore, 1) := by decide +kernel
theorem dX2_gatherLinked_119 : decode cX2_gatherLinked 119 = .ok (.aload_n 0, 1) := by decide +kernel
theorem dX2_gatherLinked_120 : decode cX2_gatherLinked 120 = .ok (.dup, 1) := by decide +kernel
theorem dX2_gatherLinked_121 : decode cX2_gatherLinked 121 = .ok (.getfield 24, 3) := by decide +kernel
theorem dX2_gatherLinked_124 : decode cX2_gatherLinked 124 = .ok (.iconst 1, 1) := by decide +kernel
theorem dX2_gatherLinked_125 : decode cX2_gatherLinked 125 = .ok (.iadd, 1) := by decide +kernel
theorem dX2_gatherLinked_126 : decode cX2_gatherLinked 126 = .ok (.putfield 24, 3) := by decide +kernel
theorem dX2_gatherLinked_129 : decode cX2_gatherLinked 129 = .ok (.iinc 2 1, 3) := by decide +kernel
theorem dX2_gatherLinked_132 : decode cX2_gatherLinked 132 = .ok (.goto (-98), 3) := by decide +kernel
theorem dX2_gatherLinked_135 : decode cX2_gatherLinked 135 = .ok (.iinc 1 1, 3) := by decide +kernel
theorem dX2_gatherLinked_138 : decode cX2_gatherLinked 138 = .ok (.goto (-131), 3) := by decide +kernel
theorem dX2_gatherLinked_141 : decode cX2_gatherLinked 141 = .ok (.return_, 1) := by decide +kernel
theorem dX2_takeWithScore_0 : decode cX2_takeWithScore 0 = .ok (.iconst 0, 1) := by decide +kernel
theorem dX2_takeWithScore_1 : decode cX2_takeWithScore 1 = .ok (.istore_n 2, 1) := by decide +kernel
theorem dX2_takeWithScore_2 : decode cX2_takeWithScore 2 = .ok (.iload_n 2, 1) := by decide +kernel
theorem dX2_takeWithScore_3 : decode cX2_takeWithScore 3 = .ok (.aload_n 0, 1) := by decide +kernel
theorem dX2_takeWithScore_4 : decode cX2_takeWithScore 4 = .ok (.getfield 24, 3) := by decide +kernel
theorem dX2_takeWithScore_7 : decode cX2_takeWithScore 7 = .ok (.if_icmp .ge 91, 3) := by decide +kernel
theorem dX2_takeWithScore_10 : decode cX2_takeWithScore 10 = .ok (.aload_n 0, 1) := by decide +kernel
theorem dX2_takeWithScore_11 : decode cX2_takeWithScore 11 = .ok (.getfield 15, 3) := by decide +kernel
theorem dX2_takeWithScore_14 : decode cX2_takeWithScore 14 = .ok (.iload_n 2, 1) := by decide +kernel
theorem dX2_takeWithScore_15 : decode cX2_takeWithScore 15 = .ok (.iaload, 1) := by decide +kernel
theorem dX2_takeWithScore_16 : decode cX2_takeWithScore 16 = .ok (.istore_n 3, 1) := by decide +kernel
theorem dX2_takeWithScore_17 : decode cX2_takeWithScore 17 = .ok (.aload_n 0, 1) := by decide +kernel
theorem dX2_takeWithScore_18 : decode cX2_takeWithScore 18 = .ok (.getfield 18, 3) := by decide +kernel
theorem dX2_takeWithScore_21 : decode cX2_takeWithScore 21 = .ok (.iload_n 2, 1) := by decide +kernel
theorem dX2_takeWithScore_22 : decode cX2_takeWithScore 22 = .ok (.iaload, 1) := by decide +kernel
theorem dX2_takeWithScore_23 : decode cX2_takeWithScore 23 = .ok (.istore 4, 2) := by decide +kernel
theorem dX2_takeWithScore_25 : decode cX2_takeWithScore 25 = .ok (.aload_n 0, 1) := by decide +kernel
theorem dX2_takeWithScore_26 : decode cX2_takeWithScore 26 = .ok (.getfield 21, 3) := by decide +kernel
theorem dX2_takeWithScore_29 : decode cX2_takeWithScore 29 = .ok (.iload_n 2, 1) := by decide +kernel
theorem dX2_takeWithScore_30 : decode cX2_takeWithScore 30 = .ok (.iaload, 1) := by decide +kernel
theorem dX2_takeWithScore_31 : decode cX2_takeWithScore 31 = .ok (.iload_n 1, 1) := by decide +kernel
theorem dX2_takeWithScore_32 : decode cX2_takeWithScore 32 = .ok (.if_icmp .ne 60, 3) := by decide +kernel
theorem dX2_takeWithScore_35 : decode cX2_takeWithScore 35 = .ok (.aload_n 0, 1) := by decide +kernel
theorem dX2_takeWithScore_36 : decode cX2_takeWithScore 36 = .ok (.getfield 9, 3) := by decide +kernel
theorem dX2_takeWithScore_39 : decode cX2_takeWithScore 39 = .ok (.iload_n 3, 1) := by decide +kernel
theorem dX2_takeWithScore_40 : decode cX2_takeWithScore 40 = .ok (.iaload, 1) := by decide +kernel
theorem dX2_takeWithScore_41 : decode cX2_takeWithScore 41 = .ok (.iconst (-1), 1) := by decide +kernel
theorem dX2_takeWithScore_42 : decode cX2_takeWithScore 42 = .ok (.if_icmp .ne 50, 3) := by decide +kernel
theorem dX2_takeWithScore_45 : decode cX2_takeWithScore 45 = .ok (.aload_n 0, 1) := by decide +kernel
theorem dX2_takeWithScore_46 : decode cX2_takeWithScore 46 = .ok (.getfield 9, 3) := by decide +kernel
theorem dX2_takeWithScore_49 : decode cX2_takeWithScore 49 = .ok (.iload 4, 2) := by decide +kernel
theorem dX2_takeWithScore_51 : decode cX2_takeWithScore 51 = .ok (.iaload, 1) := by decide +kernel
theorem dX2_takeWithScore_52 : decode cX2_takeWithScore 52 = .ok (.iconst (-1), 1) := by decide +kernel
theorem dX2_takeWithScore_53 : decode cX2_takeWithScore 53 = .ok (.if_icmp .ne 39, 3) := by decide +kernel
theorem dX2_takeWithScore_56 : decode cX2_takeWithScore 56 = .ok (.aload_n 0, 1) := by decide +kernel
theorem dX2_takeWithScore_57 : decode cX2_takeWithScore 57 = .ok (.getfield 9, 3) := by decide +kernel
theorem dX2_takeWithScore_60 : decode cX2_takeWithScore 60 = .ok (.iload_n 3, 1) := by decide +kernel
theorem dX2_takeWithScore_61 : decode cX2_takeWithScore 61 = .ok (.iload 4, 2) := by decide +kernel
theorem dX2_takeWithScore_63 : decode cX2_takeWithScore 63 = .ok (.iastore, 1) := by decide +kernel
theorem dX2_takeWithScore_64 : decode cX2_takeWithScore 64 = .ok (.aload_n 0, 1) := by decide +kernel
theorem dX2_takeWithScore_65 : decode cX2_takeWithScore 65 = .ok (.getfield 9, 3) := by decide +kernel
theorem dX2_takeWithScore_68 : decode cX2_takeWithScore 68 = .ok (.iload 4, 2) := by decide +kernel
theorem dX2_takeWithScore_70 : decode cX2_takeWithScore 70 = .ok (.iload_n 3, 1) := by decide +kernel
theorem dX2_takeWithScore_71 : decode cX2_takeWithScore 71 = .ok (.iastore, 1) := by decide +kernel
theorem dX2_takeWithScore_72 : decode cX2_takeWithScore 72 = .ok (.aload_n 0, 1) := by decide +kernel
theorem dX2_takeWithScore_73 : decode cX2_takeWithScore 73 = .ok (.dup, 1) := by decide +kernel
theorem dX2_takeWithScore_74 : decode cX2_takeWithScore 74 = .ok (.getfield 28, 3) := by decide +kernel
theorem dX2_takeWithScore_77 : decode cX2_takeWithScore 77 = .ok (.iconst 1, 1) := by decide +kernel
theorem dX2_takeWithScore_78 : decode cX2_takeWithScore 78 = .ok (.iadd, 1) := by decide +kernel
theorem dX2_takeWithScore_79 : decode cX2_takeWithScore 79 = .ok (.putfield 28, 3) := by decide +kernel
theorem dX2_takeWithScore_82 : decode cX2_takeWithScore 82 = .ok (.aload_n 0, 1) := by decide +kernel
theorem dX2_takeWithScore_83 : decode cX2_takeWithScore 83 = .ok (.dup, 1) := by decide +kernel
theorem dX2_takeWithScore_84 : decode cX2_takeWithScore 84 = .ok (.getfield 31, 3) := by decide +kernel
theorem dX2_takeWithScore_87 : decode cX2_takeWithScore 87 = .ok (.iload_n 1, 1) := by decide +kernel
theorem dX2_takeWithScore_88 : decode cX2_takeWithScore 88 = .ok (.iadd, 1) := by decide +kernel
theorem dX2_takeWithScore_89 : decode cX2_takeWithScore 89 = .ok (.putfield 31, 3) := by decide +kernel
theorem dX2_takeWithScore_92 : decode cX2_takeWithScore 92 = .ok (.iinc 2 1, 3) := by decide +kernel
theorem dX2_takeWithScore_95 : decode cX2_takeWithScore 95 = .ok (.goto (-93), 3) := by decide +kernel
theorem dX2_takeWithScore_98 : decode cX2_takeWithScore 98 = .ok (.return_, 1) := by decide +kernel
theorem dX3_init_0 : decode cX3_init 0 = .ok (.aload_n 0, 1) := by decide +kernel
theorem dX3_init_1 : decode cX3_init 1 = .ok (.invokespecial 3, 3) := by decide +kernel
theorem dX3_init_4 : decode cX3_init 4 = .ok (.aload_n 0, 1) := by decide +kernel
theorem dX3_init_5 : decode cX3_init 5 = .ok (.bipush 40, 2) := by decide +kernel
theorem dX3_init_7 : decode cX3_init 7 = .ok (.newarray .boolean, 2) := by decide +kernel
theorem dX3_init_9 : decode cX3_init 9 = .ok (.putfield 9, 3) := by decide +kernel
theorem dX3_init_12 : decode cX3_init 12 = .ok (.aload_n 0, 1) := by decide +kernel
theorem dX3_init_13 : decode cX3_init 13 = .ok (.bipush 40, 2) := by decide +kernel
theorem dX3_init_15 : decode cX3_init 15 = .ok (.newarray .int, 2) := by decide +kernel
theorem dX3_init_17 : decode cX3_init 17 = .ok (.putfield 15, 3) := by decide +kernel
theorem dX3_init_20 : decode cX3_init 20 = .ok (.aload_n 0, 1) := by decide +kernel
theorem dX3_init_21 : decode cX3_init 21 = .ok (.bipush 40, 2) := by decide +kernel
theorem dX3_init_23 : decode cX3_init 23 = .ok (.newarray .int, 2) := by decide +kernel
theorem dX3_init_25 : decode cX3_init 25 = .ok (.putfield 19, 3) := by decide +kernel
theorem dX3_init_28 : decode cX3_init 28 = .ok (.aload_n 0, 1) := by decide +kernel
theorem dX3_init_29 : decode cX3_init 29 = .ok (.bipush 40, 2) := by decide +kernel
theorem dX3_init_31 : decode cX3_init 31 = .ok (.newarray .int, 2) := by decide +kernel
theorem dX3_init_33 : decode cX3_init 33 = .ok (.putfield 22, 3) := by decide +kernel
theorem dX3_init_36 : decode cX3_init 36 = .ok (.aload_n 0, 1) := by decide +kernel
theorem dX3_init_37 : decode cX3_init 37 = .ok (.iconst 0, 1) := by decide +kernel
theorem dX3_init_38 : decode cX3_init 38 = .ok (.putfield 25, 3) := by decide +kernel
theorem dX3_init_41 : decode cX3_init 41 = .ok (.aload_n 0, 1) := by decide +kernel
theorem dX3_init_42 : decode cX3_init 42 = .ok (.aload_n 1, 1) := by decide +kernel
theorem dX3_init_43 : decode cX3_init 43 = .ok (.putfield 29, 3) := by decide +kernel
theorem dX3_init_46 : decode cX3_init 46 = .ok (.return_, 1) := by decide +kernel
theorem dX3_add_0 : decode cX3_add 0 = .ok (.aload_n 0, 1) := by decide +kernel
theorem dX3_add_1 : decode cX3_add 1 = .ok (.getfield 9, 3) := by decide +kernel
theorem dX3_add_4 : decode cX3_add 4 = .ok (.aload_n 0, 1) := by decide +kernel
theorem dX3_add_5 : decode cX3_add 5 = .ok (.getfield 25, 3) := by decide +kernel
theorem dX3_add_8 : decode cX3_add 8 = .ok (.iload_n 1, 1) := by decide +kernel
theorem dX3_add_9 : decode cX3_add 9 = .ok (.bastore, 1) := by decide +kernel
theorem dX3_add_10 : decode cX3_add 10 = .ok (.aload_n 0, 1) := by decide +kernel
theorem dX3_add_11 : decode cX3_add 11 = .ok (.getfield 15, 3) := by decide +kernel
theorem dX3_add_14 : decode cX3_add 14 = .ok (.aload_n 0, 1) := by decide +kernel
theorem dX3_add_15 : decode cX3_add 15 = .ok (.getfield 25, 3) := by decide +kernel
theorem dX3_add_18 : decode cX3_add 18 = .ok (.iload_n 2, 1) := by decide +kernel
theorem dX3_add_19 : decode cX3_add 19 = .ok (.iastore, 1) := by decide +kernel
theorem dX3_add_20 : decode cX3_add 20 = .ok (.aload_n 0, 1) := by decide +kernel
theorem dX3_add_21 : decode cX3_add 21 = .ok (.getfield 19, 3) := by decide +kernel
theorem dX3_add_24 : decode cX3_add 24 = .ok (.aload_n 0, 1) := by decide +kernel
theorem dX3_add_25 : decode cX3_add 25 = .ok (.getfield 25, 3) := by decide +kernel
theorem dX3_add_28 : decode cX3_add 28 = .ok (.iload_n 3, 1) := by decide +kernel
theorem dX3_add_29 : decode cX3_add 29 = .ok (.iastore, 1) := by decide +kernel
theorem dX3_add_30 : decode cX3_add 30 = .ok (.aload_n 0, 1) := by decide +kernel
theorem dX3_add_31 : decode cX3_add 31 = .ok (.getfield 22, 3) := by decide +kernel
theorem dX3_add_34 : decode cX3_add 34 = .ok (.aload_n 0, 1) := by decide +kernel
theorem dX3_add_35 : decode cX3_add 35 = .ok (.getfield 25, 3) := by decide +kernel
theorem dX3_add_38 : decode cX3_add 38 = .ok (.iload 4, 2) := by decide +kernel
theorem dX3_add_40 : decode cX3_add 40 = .ok (.iastore, 1) := by decide +kernel
theorem dX3_add_41 : decode cX3_add 41 = .ok (.aload_n 0, 1) := by decide +kernel
theorem dX3_add_42 : decode cX3_add 42 = .ok (.dup, 1) := by decide +kernel
theorem dX3_add_43 : decode cX3_add 43 = .ok (.getfield 25, 3) := by decide +kernel
theorem dX3_add_46 : decode cX3_add 46 = .ok (.iconst 1, 1) := by decide +kernel
theorem dX3_add_47 : decode cX3_add 47 = .ok (.iadd, 1) := by decide +kernel
theorem dX3_add_48 : decode cX3_add 48 = .ok (.putfield 25, 3) := by decide +kernel
theorem dX3_add_51 : decode cX3_add 51 = .ok (.aload_n 0, 1) := by decide +kernel
theorem dX3_add_52 : decode cX3_add 52 = .ok (.getfield 25, 3) := by decide +kernel
theorem dX3_add_55 : decode cX3_add 55 = .ok (.iconst 1, 1) := by decide +kernel
theorem dX3_add_56 : decode cX3_add 56 = .ok (.isub, 1) := by decide +kernel
theorem dX3_add_57 : decode cX3_add 57 = .ok (.ireturn, 1) := by decide +kernel
theorem dX3_blockAt_0 : decode cX3_blockAt 0 = .ok (.aload_n 0, 1) := by decide +kernel
theorem dX3_blockAt_1 : decode cX3_blockAt 1 = .ok (.getfield 29, 3) := by decide +kernel
theorem dX3_blockAt_4 : decode cX3_blockAt 4 = .ok (.getfield 33, 3) := by decide +kernel
theorem dX3_blockAt_7 : decode cX3_blockAt 7 = .ok (.aload_n 0, 1) := by decide +kernel
theorem dX3_blockAt_8 : decode cX3_blockAt 8 = .ok (.getfield 15, 3) := by decide +kernel
theorem dX3_blockAt_11 : decode cX3_blockAt 11 = .ok (.iload_n 1, 1) := by decide +kernel
theorem dX3_blockAt_12 : decode cX3_blockAt 12 = .ok (.iaload, 1) := by decide +kernel
theorem dX3_blockAt_13 : decode cX3_blockAt 13 = .ok (.iaload, 1) := by decide +kernel
theorem dX3_blockAt_14 : decode cX3_blockAt 14 = .ok (.ireturn, 1) := by decide +kernel
theorem dX3_groupAt_0 : decode cX3_groupAt 0 = .ok (.aload_n 0, 1) := by decide +kernel
theorem dX3_groupAt_1 : decode cX3_groupAt 1 = .ok (.getfield 22, 3) := by decide +kernel
theorem dX3_groupAt_4 : decode cX3_groupAt 4 = .ok (.iload_n 1, 1) := by decide +kernel
theorem dX3_groupAt_5 : decode cX3_groupAt 5 = .ok (.iaload, 1) := by decide +kernel
theorem dX3_groupAt_6 : decode cX3_groupAt 6 = .ok (.istore_n 2, 1) := by decide +kernel
theorem dX3_groupAt_7 : decode cX3_groupAt 7 = .ok (.iload_n 2, 1) := by decide +kernel
theorem dX3_groupAt_8 : decode cX3_groupAt 8 = .ok (.bipush 17, 2) := by decide +kernel
theorem dX3_groupAt_10 : decode cX3_groupAt 10 = .ok (.if_icmp .gt 5, 3) := by decide +kernel
theorem dX3_groupAt_13 : decode cX3_groupAt 13 = .ok (.iconst 0, 1) := by decide +kernel
theorem dX3_groupAt_14 : decode cX3_groupAt 14 = .ok (.ireturn, 1) := by decide +kernel
theorem dX3_groupAt_15 : decode cX3_groupAt 15 = .ok (.iload_n 2, 1) := by decide +kernel
theorem dX3_groupAt_16 : decode cX3_groupAt 16 = .ok (.bipush 39, 2) := by decide +kernel
theorem dX3_groupAt_18 : decode cX3_groupAt 18 = .ok (.if_icmp .gt 5, 3) := by decide +kernel
theorem dX3_groupAt_21 : decode cX3_groupAt 21 = .ok (.iconst 1, 1) := by decide +kernel
theorem dX3_groupAt_22 : decode cX3_groupAt 22 = .ok (.ireturn, 1) := by decide +kernel
theorem dX3_groupAt_23 : decode cX3_groupAt 23 = .ok (.iload_n 2, 1) := by decide +kernel
theorem dX3_groupAt_24 : decode cX3_groupAt 24 = .ok (.bipush 64, 2) := by decide +kernel
theorem dX3_groupAt_26 : decode cX3_groupAt 26 = .ok (.if_icmp .gt 7, 3) := by decide +kernel
theorem dX3_groupAt_29 : decode cX3_groupAt 29 = .ok (.iconst 2, 1) := by decide +kernel
theorem dX3_groupAt_30 : decode cX3_groupAt 30 = .ok (.goto 4, 3) := by decide +kernel
theorem dX3_groupAt_33 : decode cX3_groupAt 33 = .ok (.iconst 3, 1) := by decide +kernel
theorem dX3_groupAt_34 : decode cX3_groupAt 34 = .ok (.ireturn, 1) := by decide +kernel
theorem dX4_init_0 : decode cX4_init 0 = .ok (.aload_n 0, 1) := by decide +kernel
theorem dX4_init_1 : decode cX4_init 1 = .ok (.invokespecial 3, 3) := by decide +kernel
theorem dX4_init_4 : decode cX4_init 4 = .ok (.aload_n 0, 1) := by decide +kernel
theorem dX4_init_5 : decode cX4_init 5 = .ok (.bipush 20, 2) := by decide +kernel
theorem dX4_init_7 : decode cX4_init 7 = .ok (.newarray .int, 2) := by decide +kernel
theorem dX4_init_9 : decode cX4_init 9 = .ok (.putfield 9, 3) := by decide +kernel
theorem dX4_init_12 : decode cX4_init 12 = .ok (.aload_n 0, 1) := by decide +kernel
theorem dX4_init_13 : decode cX4_init 13 = .ok (.iconst 0, 1) := by decide +kernel
theorem dX4_init_14 : decode cX4_init 14 = .ok (.putfield 15, 3) := by decide +kernel
theorem dX4_init_17 : decode cX4_init 17 = .ok (.aload_n 0, 1) := by decide +kernel
theorem dX4_init_18 : decode cX4_init 18 = .ok (.iconst 0, 1) := by decide +kernel
theorem dX4_init_19 : decode cX4_init 19 = .ok (.putfield 19, 3) := by decide +kernel
theorem dX4_init_22 : decode cX4_init 22 = .ok (.return_, 1) := by decide +kernel
theorem dX4_hasAddress_0 : decode cX4_hasAddress 0 = .ok (.iload_n 1, 1) := by decide +kernel
theorem dX4_hasAddress_1 : decode cX4_hasAddress 1 = .ok (.ifCond .lt 15, 3) := by decide +kernel
theorem dX4_hasAddress_4 : decode cX4_hasAddress 4 = .ok (.iload_n 1, 1) := by decide +kernel
theorem dX4_hasAddress_5 : decode cX4_hasAddress 5 = .ok (.aload_n 0, 1) := by decide +kernel
theorem dX4_hasAddress_6 : decode cX4_hasAddress 6 = .ok (.getfield 19, 3) := by decide +kernel
theorem dX4_hasAddress_9 : decode cX4_hasAddress 9 = .ok (.if_icmp .ge 7, 3) := by decide +kernel
theorem dX4_hasAddress_12 : decode cX4_hasAddress 12 = .ok (.iconst 1, 1) := by decide +kernel
theorem dX4_hasAddress_13 : decode cX4_hasAddress 13 = .ok (.goto 4, 3) := by decide +kernel
theorem dX4_hasAddress_16 : decode cX4_hasAddress 16 = .ok (.iconst 0, 1) := by decide +kernel
theorem dX4_hasAddress_17 : decode cX4_hasAddress 17 = .ok (.ireturn, 1) := by decide +kernel
theorem dX4_openBlock_0 : decode cX4_openBlock 0 = .ok (.aload_n 0, 1) := by decide +kernel
theorem dX4_openBlock_1 : decode cX4_openBlock 1 = .ok (.dup, 1) := by decide +kernel
theorem dX4_openBlock_2 : decode cX4_openBlock 2 = .ok (.getfield 15, 3) := by decide +kernel
theorem dX4_openBlock_5 : decode cX4_openBlock 5 = .ok (.iconst 1, 1) := by decide +kernel
theorem dX4_openBlock_6 : decode cX4_openBlock 6 = .ok (.iadd, 1) := by decide +kernel
theorem dX4_openBlock_7 : decode cX4_openBlock 7 = .ok (.putfield 15, 3) := by decide +kernel
theorem dX4_openBlock_10 : decode cX4_openBlock 10 = .ok (.aload_n 0, 1) := by decide +kernel
theorem dX4_openBlock_11 : decode cX4_openBlock 11 = .ok (.getfield 15, 3) := by decide +kernel
theorem dX4_openBlock_14 : decode cX4_openBlock 14 = .ok (.iconst 1, 1) := by decide +kernel
theorem dX4_openBlock_15 : decode cX4_openBlock 15 = .ok (.isub, 1) := by decide +kernel
theorem dX4_openBlock_16 : decode cX4_openBlock 16 = .ok (.ireturn, 1) := by decide +kernel
theorem dX4_openAddress_0 : decode cX4_openAddress 0 = .ok (.aload_n 0, 1) := by decide +kernel
theorem dX4_openAddress_1 : decode cX4_openAddress 1 = .ok (.getfield 9, 3) := by decide +kernel
theorem dX4_openAddress_4 : decode cX4_openAddress 4 = .ok (.aload_n 0, 1) := by decide +kernel
theorem dX4_openAddress_5 : decode cX4_openAddress 5 = .ok (.getfield 19, 3) := by decide +kernel
theorem dX4_openAddress_8 : decode cX4_openAddress 8 = .ok (.iload_n 1, 1) := by decide +kernel
theorem dX4_openAddress_9 : decode cX4_openAddress 9 = .ok (.iastore, 1) := by decide +kernel
theorem dX4_openAddress_10 : decode cX4_openAddress 10 = .ok (.aload_n 0, 1) := by decide +kernel
theorem dX4_openAddress_11 : decode cX4_openAddress 11 = .ok (.dup, 1) := by decide +kernel
theorem dX4_openAddress_12 : decode cX4_openAddress 12 = .ok (.getfield 19, 3) := by decide +kernel
theorem dX4_openAddress_15 : decode cX4_openAddress 15 = .ok (.iconst 1, 1) := by decide +kernel
theorem dX4_openAddress_16 : decode cX4_openAddress 16 = .ok (.iadd, 1) := by decide +kernel
theorem dX4_openAddress_17 : decode cX4_openAddress 17 = .ok (.putfield 19, 3) := by decide +kernel
theorem dX4_openAddress_20 : decode cX4_openAddress 20 = .ok (.aload_n 0, 1) := by decide +kernel
theorem dX4_openAddress_21 : decode cX4_openAddress 21 = .ok (.getfield 19, 3) := by decide +kernel
theorem dX4_openAddress_24 : decode cX4_openAddress 24 = .ok (.iconst 1, 1) := by decide +kernel
theorem dX4_openAddress_25 : decode cX4_openAddress 25 = .ok (.isub, 1) := by decide +kernel
theorem dX4_openAddress_26 : decode cX4_openAddress 26 = .ok (.ireturn, 1) := by decide +kernel
theorem dX4_move_0 : decode cX4_move 0 = .ok (.iconst 0, 1) := by decide +kernel
theorem dX4_move_1 : decode cX4_move 1 = .ok (.istore 4, 2) := by decide +kernel
theorem dX4_move_3 : decode cX4_move 3 = .ok (.iload_n 2, 1) := by decide +kernel
theorem dX4_move_4 : decode cX4_move 4 = .ok (.istore 5, 2) := by decide +kernel
theorem dX4_move_6 : decode cX4_move 6 = .ok (.iload 5, 2) := by decide +kernel
theorem dX4_move_8 : decode cX4_move 8 = .ok (.aload_n 0, 1) := by decide +kernel
theorem dX4_move_9 : decode cX4_move 9 = .ok (.getfield 19, 3) := by decide +kernel
theorem dX4_move_12 : decode cX4_move 12 = .ok (.if_icmp .ge 31, 3) := by decide +kernel
theorem dX4_move_15 : decode cX4_move 15 = .ok (.aload_n 0, 1) := by decide +kernel
theorem dX4_move_16 : decode cX4_move 16 = .ok (.getfield 9, 3) := by decide +kernel
theorem dX4_move_19 : decode cX4_move 19 = .ok (.iload 5, 2) := by decide +kernel
theorem dX4_move_21 : decode cX4_move 21 = .ok (.iaload, 1) := by decide +kernel
theorem dX4_move_22 : decode cX4_move 22 = .ok (.iload_n 1, 1) := by decide +kernel
theorem dX4_move_23 : decode cX4_move 23 = .ok (.if_icmp .ne 14, 3) := by decide +kernel
theorem dX4_move_26 : decode cX4_move 26 = .ok (.aload_n 0, 1) := by decide +kernel
theorem dX4_move_27 : decode cX4_move 27 = .ok (.getfield 9, 3) := by decide +kernel
theorem dX4_move_30 : decode cX4_move 30 = .ok (.iload 5, 2) := by decide +kernel
theorem dX4_move_32 : decode cX4_move 32 = .ok (.iload_n 3, 1) := by decide +kernel
theorem dX4_move_33 : decode cX4_move 33 = .ok (.iastore, 1) := by decide +kernel
theorem dX4_move_34 : decode cX4_move 34 = .ok (.iinc 4 1, 3) := by decide +kernel
theorem dX4_move_37 : decode cX4_move 37 = .ok (.iinc 5 1, 3) := by decide +kernel
theorem dX4_move_40 : decode cX4_move 40 = .ok (.goto (-34), 3) := by decide +kernel
theorem dX4_move_43 : decode cX4_move 43 = .ok (.iload 4, 2) := by decide +kernel
theorem dX4_move_45 : decode cX4_move 45 = .ok (.ireturn, 1) := by decide +kernel
theorem dX5_init_0 : decode cX5_init 0 = .ok (.aload_n 0, 1) := by decide +kernel
theorem dX5_init_1 : decode cX5_init 1 = .ok (.invokespecial 3, 3) := by decide +kernel
theorem dX5_init_4 : decode cX5_init 4 = .ok (.aload_n 0, 1) := by decide +kernel
theorem dX5_init_5 : decode cX5_init 5 = .ok (.bipush 24, 2) := by decide +kernel
theorem dX5_init_7 : decode cX5_init 7 = .ok (.newarray .int, 2) := by decide +kernel
theorem dX5_init_9 : decode cX5_init 9 = .ok (.putfield 9, 3) := by decide +kernel
theorem dX5_init_12 : decode cX5_init 12 = .ok (.aload_n 0, 1) := by decide +kernel
theorem dX5_init_13 : decode cX5_init 13 = .ok (.iconst 0, 1) := by decide +kernel
theorem dX5_init_14 : decode cX5_init 14 = .ok (.putfield 15, 3) := by decide +kernel
theorem dX5_init_17 : decode cX5_init 17 = .ok (.aload_n 0, 1) := by decide +kernel
theorem dX5_init_18 : decode cX5_init 18 = .ok (.iload_n 1, 1) := by decide +kernel
theorem dX5_init_19 : decode cX5_init 19 = .ok (.putfield 19, 3) := by decide +kernel
theorem dX5_init_22 : decode cX5_init 22 = .ok (.aload_n 0, 1) := by decide +kernel
theorem dX5_init_23 : decode cX5_init 23 = .ok (.iload_n 3, 1) := by decide +kernel
theorem dX5_init_24 : decode cX5_init 24 = .ok (.putfield 23, 3) := by decide +kernel
theorem dX5_init_27 : decode cX5_init 27 = .ok (.iconst 0, 1) := by decide +kernel
theorem dX5_init_28 : decode cX5_init 28 = .ok (.istore 4, 2) := by decide +kernel
theorem dX5_init_30 : decode cX5_init 30 = .ok (.iload 4, 2) := by decide +kernel
theorem dX5_init_32 : decode cX5_init 32 = .ok (.bipush 24, 2) := by decide +kernel
theorem dX5_init_34 : decode cX5_init 34 = .ok (.if_icmp .ge 27, 3) := by decide +kernel
theorem dX5_init_37 : decode cX5_init 37 = .ok (.iload 4, 2) := by decide +kernel
theorem dX5_init_39 : decode cX5_init 39 = .ok (.aload_n 2, 1) := by decide +kernel
theorem dX5_init_40 : decode cX5_init 40 = .ok (.arraylength, 1) := by decide +kernel
theorem dX5_init_41 : decode cX5_init 41 = .ok (.if_icmp .ge 20, 3) := by decide +kernel
theorem dX5_init_44 : decode cX5_init 44 = .ok (.aload_n 0, 1) := by decide +kernel
theorem dX5_init_45 : decode cX5_init 45 = .ok (.getfield 9, 3) := by decide +kernel
theorem dX5_init_48 : decode cX5_init 48 = .ok (.iload 4, 2) := by decide +kernel
theorem dX5_init_50 : decode cX5_init 50 = .ok (.aload_n 2, 1) := by decide +kernel
theorem dX5_init_51 : decode cX5_init 51 = .ok (.iload 4, 2) := by decide +kernel
theorem dX5_init_53 : decode cX5_init 53 = .ok (.iaload, 1) := by decide +kernel
theorem dX5_init_54 : decode cX5_init 54 = .ok (.iastore, 1) := by decide +kernel
theorem dX5_init_55 : decode cX5_init 55 = .ok (.iinc 4 1, 3) := by decide +kernel
theorem dX5_init_58 : decode cX5_init 58 = .ok (.goto (-28), 3) := by decide +kernel
theorem dX5_init_61 : decode cX5_init 61 = .ok (.aload_n 0, 1) := by decide +kernel
theorem dX5_init_62 : decode cX5_init 62 = .ok (.iload_n 1, 1) := by decide +kernel
theorem dX5_init_63 : decode cX5_init 63 = .ok (.aload_n 0, 1) := by decide +kernel
theorem dX5_init_64 : decode cX5_init 64 = .ok (.getfield 9, 3) := by decide +kernel
theorem dX5_init_67 : decode cX5_init 67 = .ok (.iload_n 3, 1) := by decide +kernel
theorem dX5_init_68 : decode cX5_init 68 = .ok (.invokestatic 26, 3) := by decide +kernel
theorem dX5_init_71 : decode cX5_init 71 = .ok (.putfield 30, 3) := by decide +kernel
theorem dX5_init_74 : decode cX5_init 74 = .ok (.return_, 1) := by decide +kernel
theorem dX5_lineOf_0 : decode cX5_lineOf 0 = .ok (.new 34, 3) := by decide +kernel
theorem dX5_lineOf_3 : decode cX5_lineOf 3 = .ok (.dup, 1) := by decide +kernel
theorem dX5_lineOf_4 : decode cX5_lineOf 4 = .ok (.invokespecial 36, 3) := by decide +kernel
theorem dX5_lineOf_7 : decode cX5_lineOf 7 = .ok (.astore_n 3, 1) := by decide +kernel
theorem dX5_lineOf_8 : decode cX5_lineOf 8 = .ok (.iconst 0, 1) := by decide +kernel
theorem dX5_lineOf_9 : decode cX5_lineOf 9 = .ok (.istore 4, 2) := by decide +kernel
theorem dX5_lineOf_11 : decode cX5_lineOf 11 = .ok (.iload 4, 2) := by decide +kernel
theorem dX5_lineOf_13 : decode cX5_lineOf 13 = .ok (.iload_n 0, 1) := by decide +kernel
theorem dX5_lineOf_14 : decode cX5_lineOf 14 = .ok (.iconst 4, 1) := by decide +kernel
theorem dX5_lineOf_15 : decode cX5_lineOf 15 = .ok (.imul, 1) := by decide +kernel
theorem dX5_lineOf_16 : decode cX5_lineOf 16 = .ok (.if_icmp .ge 64, 3) := by decide +kernel
theorem dX5_lineOf_19 : decode cX5_lineOf 19 = .ok (.iload 4, 2) := by decide +kernel
theorem dX5_lineOf_21 : decode cX5_lineOf 21 = .ok (.aload_n 1, 1) := by decide +kernel
theorem dX5_lineOf_22 : decode cX5_lineOf 22 = .ok (.arraylength, 1) := by decide +kernel
theorem dX5_lineOf_23 : decode cX5_lineOf 23 = .ok (.if_icmp .ge 57, 3) := by decide +kernel
theorem dX5_lineOf_26 : decode cX5_lineOf 26 = .ok (.iload_n 2, 1) := by decide +kernel
theorem dX5_lineOf_27 : decode cX5_lineOf 27 = .ok (.iload 4, 2) := by decide +kernel
theorem dX5_lineOf_29 : decode cX5_lineOf 29 = .ok (.invokestatic 37, 3) := by decide +kernel
theorem dX5_lineOf_32 : decode cX5_lineOf 32 = .ok (.ifCond .eq 13, 3) := by decide +kernel
theorem dX5_lineOf_35 : decode cX5_lineOf 35 = .ok (.aload_n 3, 1) := by decide +kernel
theorem dX5_lineOf_36 : decode cX5_lineOf 36 = .ok (.bipush 120, 2) := by decide +kernel
theorem dX5_lineOf_38 : decode cX5_lineOf 38 = .ok (.invokevirtual 43, 3) := by decide +kernel
theorem dX5_lineOf_41 : decode cX5_lineOf 41 = .ok (.pop, 1) := by decide +kernel
theorem dX5_lineOf_42 : decode cX5_lineOf 42 = .ok (.goto 12, 3) := by decide +kernel
theorem dX5_lineOf_45 : decode cX5_lineOf 45 = .ok (.aload_n 3, 1) := by decide +kernel
theorem dX5_lineOf_46 : decode cX5_lineOf 46 = .ok (.aload_n 1, 1) := by decide +kernel
theorem dX5_lineOf_47 : decode cX5_lineOf 47 = .ok (.iload 4, 2) := by decide +kernel
theorem dX5_lineOf_49 : decode cX5_lineOf 49 = .ok (.iaload, 1) := by decide +kernel
theorem dX5_lineOf_50 : decode cX5_lineOf 50 = .ok (.invokevirtual 47, 3) := by decide +kernel
theorem dX5_lineOf_53 : decode cX5_lineOf 53 = .ok (.pop, 1) := by decide +kernel
theorem dX5_lineOf_54 : decode cX5_lineOf 54 = .ok (.aload_n 3, 1) := by decide +kernel
theorem dX5_lineOf_55 : decode cX5_lineOf 55 = .ok (.iload 4, 2) := by decide +kernel
theorem dX5_lineOf_57 : decode cX5_lineOf 57 = .ok (.iconst 4, 1) := by decide +kernel
theorem dX5_lineOf_58 : decode cX5_lineOf 58 = .ok (.irem, 1) := by decide +kernel
theorem dX5_lineOf_59 : decode cX5_lineOf 59 = .ok (.iconst 3, 1) := by decide +kernel
theorem dX5_lineOf_60 : decode cX5_lineOf 60 = .ok (.if_icmp .ne 8, 3) := by decide +kernel
theorem dX5_lineOf_63 : decode cX5_lineOf 63 = .ok (.bipush 59, 2) := by decide +kernel
theorem dX5_lineOf_65 : decode cX5_lineOf 65 = .ok (.goto 5, 3) := by decide +kernel
theorem dX5_lineOf_68 : decode cX5_lineOf 68 = .ok (.bipush 44, 2) := by decide +kernel
theorem dX5_lineOf_70 : decode cX5_lineOf 70 = .ok (.invokevirtual 43, 3) := by decide +kernel
theorem dX5_lineOf_73 : decode cX5_lineOf 73 = .ok (.pop, 1) := by decide +kernel
theorem dX5_lineOf_74 : decode cX5_lineOf 74 = .ok (.iinc 4 1, 3) := by decide +kernel
theorem dX5_lineOf_77 : decode cX5_lineOf 77 = .ok (.goto (-66), 3) := by decide +kernel
theorem dX5_lineOf_80 : decode cX5_lineOf 80 = .ok (.aload_n 3, 1) := by decide +kernel
theorem dX5_lineOf_81 : decode cX5_lineOf 81 = .ok (.invokevirtual 50, 3) := by decide +kernel
theorem dX5_lineOf_84 : decode cX5_lineOf 84 = .ok (.areturn, 1) := by decide +kernel
theorem dX5_shows_0 : decode cX5_shows 0 = .ok (.aload_n 0, 1) := by decide +kernel
theorem dX5_shows_1 : decode cX5_shows 1 = .ok (.getfield 19, 3) := by decide +kernel
theorem dX5_shows_4 : decode cX5_shows 4 = .ok (.iload_n 1, 1) := by decide +kernel
theorem dX5_shows_5 : decode cX5_shows 5 = .ok (.if_icmp .eq 5, 3) := by decide +kernel
theorem dX5_shows_8 : decode cX5_shows 8 = .ok (.iconst 0, 1) := by decide +kernel
theorem dX5_shows_9 : decode cX5_shows 9 = .ok (.ireturn, 1) := by decide +kernel
theorem dX5_shows_10 : decode cX5_shows 10 = .ok (.iconst 0, 1) := by decide +kernel
theorem dX5_shows_11 : decode cX5_shows 11 = .ok (.istore_n 3, 1) := by decide +kernel
theorem dX5_shows_12 : decode cX5_shows 12 = .ok (.iload_n 3, 1) := by decide +kernel
theorem dX5_shows_13 : decode cX5_shows 13 = .ok (.bipush 24, 2) := by decide +kernel
theorem dX5_shows_15 : decode cX5_shows 15 = .ok (.if_icmp .ge 23, 3) := by decide +kernel
theorem dX5_shows_18 : decode cX5_shows 18 = .ok (.aload_n 0, 1) := by decide +kernel
theorem dX5_shows_19 : decode cX5_shows 19 = .ok (.getfield 9, 3) := by decide +kernel
theorem dX5_shows_22 : decode cX5_shows 22 = .ok (.iload_n 3, 1) := by decide +kernel
theorem dX5_shows_23 : decode cX5_shows 23 = .ok (.iaload, 1) := by decide +kernel
theorem dX5_shows_24 : decode cX5_shows 24 = .ok (.aload_n 2, 1) := by decide +kernel
theorem dX5_shows_25 : decode cX5_shows 25 = .ok (.iload_n 3, 1) := by decide +kernel
theorem dX5_shows_26 : decode cX5_shows 26 = .ok (.iaload, 1) := by decide +kernel
theorem dX5_shows_27 : decode cX5_shows 27 = .ok (.if_icmp .eq 5, 3) := by decide +kernel
theorem dX5_shows_30 : decode cX5_shows 30 = .ok (.iconst 0, 1) := by decide +kernel
theorem dX5_shows_31 : decode cX5_shows 31 = .ok (.ireturn, 1) := by decide +kernel
theorem dX5_shows_32 : decode cX5_shows 32 = .ok (.iinc 3 1, 3) := by decide +kernel
theorem dX5_shows_35 : decode cX5_shows 35 = .ok (.goto (-23), 3) := by decide +kernel
theorem dX5_shows_38 : decode cX5_shows 38 = .ok (.iconst 1, 1) := by decide +kernel
theorem dX5_shows_39 : decode cX5_shows 39 = .ok (.ireturn, 1) := by decide +kernel
theorem dX5_sumOfBlock_0 : decode cX5_sumOfBlock 0 = .ok (.iconst 0, 1) := by decide +kernel
theorem dX5_sumOfBlock_1 : decode cX5_sumOfBlock 1 = .ok (.istore_n 2, 1) := by decide +kernel
theorem dX5_sumOfBlock_2 : decode cX5_sumOfBlock 2 = .ok (.iconst 0, 1) := by decide +kernel
theorem dX5_sumOfBlock_3 : decode cX5_sumOfBlock 3 = .ok (.istore_n 3, 1) := by decide +kernel
theorem dX5_sumOfBlock_4 : decode cX5_sumOfBlock 4 = .ok (.iload_n 3, 1) := by decide +kernel
theorem dX5_sumOfBlock_5 : decode cX5_sumOfBlock 5 = .ok (.iconst 4, 1) := by decide +kernel
theorem dX5_sumOfBlock_6 : decode cX5_sumOfBlock 6 = .ok (.if_icmp .ge 22, 3) := by decide +kernel
theorem dX5_sumOfBlock_9 : decode cX5_sumOfBlock 9 = .ok (.iload_n 2, 1) := by decide +kernel
theorem dX5_sumOfBlock_10 : decode cX5_sumOfBlock 10 = .ok (.aload_n 0, 1) := by decide +kernel
theorem dX5_sumOfBlock_11 : decode cX5_sumOfBlock 11 = .ok (.getfield 9, 3) := by decide +kernel
theorem dX5_sumOfBlock_14 : decode cX5_sumOfBlock 14 = .ok (.iload_n 1, 1) := by decide +kernel
theorem dX5_sumOfBlock_15 : decode cX5_sumOfBlock 15 = .ok (.iconst 4, 1) := by decide +kernel
theorem dX5_sumOfBlock_16 : decode cX5_sumOfBlock 16 = .ok (.imul, 1) := by decide +kernel
theorem dX5_sumOfBlock_17 : decode cX5_sumOfBlock 17 = .ok (.iload_n 3, 1) := by decide +kernel
theorem dX5_sumOfBlock_18 : decode cX5_sumOfBlock 18 = .ok (.iadd, 1) := by decide +kernel
theorem dX5_sumOfBlock_19 : decode cX5_sumOfBlock 19 = .ok (.iaload, 1) := by decide +kernel
theorem dX5_sumOfBlock_20 : decode cX5_sumOfBlock 20 = .ok (.iadd, 1) := by decide +kernel
theorem dX5_sumOfBlock_21 : decode cX5_sumOfBlock 21 = .ok (.istore_n 2, 1) := by decide +kernel
theorem dX5_sumOfBlock_22 : decode cX5_sumOfBlock 22 = .ok (.iinc 3 1, 3) := by decide +kernel
theorem dX5_sumOfBlock_25 : decode cX5_sumOfBlock 25 = .ok (.goto (-21), 3) := by decide +kernel
theorem dX5_sumOfBlock_28 : decode cX5_sumOfBlock 28 = .ok (.iload_n 2, 1) := by decide +kernel
theorem dX5_sumOfBlock_29 : decode cX5_sumOfBlock 29 = .ok (.ireturn, 1) := by decide +kernel
theorem dX5_sumOfGroup_0 : decode cX5_sumOfGroup 0 = .ok (.iconst 0, 1) := by decide +kernel
theorem dX5_sumOfGroup_1 : decode cX5_sumOfGroup 1 = .ok (.istore_n 2, 1) := by decide +kernel
theorem dX5_sumOfGroup_2 : decode cX5_sumOfGroup 2 = .ok (.iconst 0, 1) := by decide +kernel
theorem dX5_sumOfGroup_3 : decode cX5_sumOfGroup 3 = .ok (.istore_n 3, 1) := by decide +kernel
theorem dX5_sumOfGroup_4 : decode cX5_sumOfGroup 4 = .ok (.iload_n 3, 1) := by decide +kernel
theorem dX5_sumOfGroup_5 : decode cX5_sumOfGroup 5 = .ok (.bipush 6, 2) := by decide +kernel
theorem dX5_sumOfGroup_7 : decode cX5_sumOfGroup 7 = .ok (.if_icmp .ge 22, 3) := by decide +kernel
theorem dX5_sumOfGroup_10 : decode cX5_sumOfGroup 10 = .ok (.iload_n 2, 1) := by decide +kernel
theorem dX5_sumOfGroup_11 : decode cX5_sumOfGroup 11 = .ok (.aload_n 0, 1) := by decide +kernel
theorem dX5_sumOfGroup_12 : decode cX5_sumOfGroup 12 = .ok (.getfield 9, 3) := by decide +kernel
theorem dX5_sumOfGroup_15 : decode cX5_sumOfGroup 15 = .ok (.iload_n 3, 1) := by decide +kernel
theorem dX5_sumOfGroup_16 : decode cX5_sumOfGroup 16 = .ok (.iconst 4, 1) := by decide +kernel
theorem dX5_sumOfGroup_17 : decode cX5_sumOfGroup 17 = .ok (.imul, 1) := by decide +kernel
theorem dX5_sumOfGroup_18 : decode cX5_sumOfGroup 18 = .ok (.iload_n 1, 1) := by decide +kernel
theorem dX5_sumOfGroup_19 : decode cX5_sumOfGroup 19 = .ok (.iadd, 1) := by decide +kernel
theorem dX5_sumOfGroup_20 : decode cX5_sumOfGroup 20 = .ok (.iaload, 1) := by decide +kernel
theorem dX5_sumOfGroup_21 : decode cX5_sumOfGroup 21 = .ok (.iadd, 1) := by decide +kernel
theorem dX5_sumOfGroup_22 : decode cX5_sumOfGroup 22 = .ok (.istore_n 2, 1) := by decide +kernel
theorem dX5_sumOfGroup_23 : decode cX5_sumOfGroup 23 = .ok (.iinc 3 1, 3) := by decide +kernel
theorem dX5_sumOfGroup_26 : decode cX5_sumOfGroup 26 = .ok (.goto (-22), 3) := by decide +kernel
theorem dX5_sumOfGroup_29 : decode cX5_sumOfGroup 29 = .ok (.iload_n 2, 1) := by decide +kernel
theorem dX5_sumOfGroup_30 : decode cX5_sumOfGroup 30 = .ok (.ireturn, 1) := by decide +kernel
theorem dX6_init_0 : decode cX6_init 0 = .ok (.aload_n 0, 1) := by decide +kernel
theorem dX6_init_1 : decode cX6_init 1 = .ok (.invokespecial 3, 3) := by decide +kernel
theorem dX6_init_4 : decode cX6_init 4 = .ok (.aload_n 0, 1) := by decide +kernel
theorem dX6_init_5 : decode cX6_init 5 = .ok (.bipush 40, 2) := by decide +kernel
theorem dX6_init_7 : decode cX6_init 7 = .ok (.newarray .boolean, 2) := by decide +kernel
theorem dX6_init_9 : decode cX6_init 9 = .ok (.putfield 9, 3) := by decide +kernel
theorem dX6_init_12 : decode cX6_init 12 = .ok (.aload_n 0, 1) := by decide +kernel
theorem dX6_init_13 : decode cX6_init 13 = .ok (.bipush 24, 2) := by decide +kernel
theorem dX6_init_15 : decode cX6_init 15 = .ok (.newarray .int, 2) := by decide +kernel
theorem dX6_init_17 : decode cX6_init 17 = .ok (.putfield 15, 3) := by decide +kernel
theorem dX6_init_20 : decode cX6_init 20 = .ok (.aload_n 0, 1) := by decide +kernel
theorem dX6_init_21 : decode cX6_init 21 = .ok (.iconst 0, 1) := by decide +kernel
theorem dX6_init_22 : decode cX6_init 22 = .ok (.putfield 19, 3) := by decide +kernel
theorem dX6_init_25 : decode cX6_init 25 = .ok (.aload_n 0, 1) := by decide +kernel
theorem dX6_init_26 : decode cX6_init 26 = .ok (.iconst 0, 1) := by decide +kernel
theorem dX6_init_27 : decode cX6_init 27 = .ok (.putfield 23, 3) := by decide +kernel
theorem dX6_init_30 : decode cX6_init 30 = .ok (.aload_n 0, 1) := by decide +kernel
theorem dX6_init_31 : decode cX6_init 31 = .ok (.aload_n 1, 1) := by decide +kernel
theorem dX6_init_32 : decode cX6_init 32 = .ok (.putfield 26, 3) := by decide +kernel
theorem dX6_init_35 : decode cX6_init 35 = .ok (.aload_n 0, 1) := by decide +kernel
theorem dX6_init_36 : decode cX6_init 36 = .ok (.aload_n 2, 1) := by decide +kernel
theorem dX6_init_37 : decode cX6_init 37 = .ok (.putfield 30, 3) := by decide +kernel
theorem dX6_init_40 : decode cX6_init 40 = .ok (.return_, 1) := by decide +kernel
theorem dX6_renew_0 : decode cX6_renew 0 = .ok (.iconst 0, 1) := by decide +kernel
theorem dX6_renew_1 : decode cX6_renew 1 = .ok (.istore_n 1, 1) := by decide +kernel
theorem dX6_renew_2 : decode cX6_renew 2 = .ok (.iload_n 1, 1) := by decide +kernel
theorem dX6_renew_3 : decode cX6_renew 3 = .ok (.bipush 24, 2) := by decide +kernel
theorem dX6_renew_5 : decode cX6_renew 5 = .ok (.if_icmp .ge 16, 3) := by decide +kernel
theorem dX6_renew_8 : decode cX6_renew 8 = .ok (.aload_n 0, 1) := by decide +kernel
theorem dX6_renew_9 : decode cX6_renew 9 = .ok (.getfield 15, 3) := by decide +kernel
theorem dX6_renew_12 : decode cX6_renew 12 = .ok (.iload_n 1, 1) := by decide +kernel
theorem dX6_renew_13 : decode cX6_renew 13 = .ok (.iconst 0, 1) := by decide +kernel
theorem dX6_renew_14 : decode cX6_renew 14 = .ok (.iastore, 1) := by decide +kernel
theorem dX6_renew_15 : decode cX6_renew 15 = .ok (.iinc 1 1, 3) := by decide +kernel
theorem dX6_renew_18 : decode cX6_renew 18 = .ok (.goto (-16), 3) := by decide +kernel
theorem dX6_renew_21 : decode cX6_renew 21 = .ok (.aload_n 0, 1) := by decide +kernel
theorem dX6_renew_22 : decode cX6_renew 22 = .ok (.iconst 0, 1) := by decide +kernel
theorem dX6_renew_23 : decode cX6_renew 23 = .ok (.putfield 19, 3) := by decide +kernel
theorem dX6_renew_26 : decode cX6_renew 26 = .ok (.aload_n 0, 1) := by decide +kernel
theorem dX6_renew_27 : decode cX6_renew 27 = .ok (.iconst 0, 1) := by decide +kernel
theorem dX6_renew_28 : decode cX6_renew 28 = .ok (.putfield 23, 3) := by decide +kernel
theorem dX6_renew_31 : decode cX6_renew 31 = .ok (.iconst 0, 1) := by decide +kernel
theorem dX6_renew_32 : decode cX6_renew 32 = .ok (.istore_n 1, 1) := by decide +kernel
theorem dX6_renew_33 : decode cX6_renew 33 = .ok (.iload_n 1, 1) := by decide +kernel
theorem dX6_renew_34 : decode cX6_renew 34 = .ok (.aload_n 0, 1) := by decide +kernel
theorem dX6_renew_35 : decode cX6_renew 35 = .ok (.getfield 26, 3) := by decide +kernel
theorem dX6_renew_38 : decode cX6_renew 38 = .ok (.getfield 34, 3) := by decide +kernel
theorem dX6_renew_41 : decode cX6_renew 41 = .ok (.if_icmp .ge 112, 3) := by decide +kernel
theorem dX6_renew_44 : decode cX6_renew 44 = .ok (.aload_n 0, 1) := by decide +kernel
theorem dX6_renew_45 : decode cX6_renew 45 = .ok (.getfield 9, 3) := by decide +kernel
theorem dX6_renew_48 : decode cX6_renew 48 = .ok (.iload_n 1, 1) := by decide +kernel
theorem dX6_renew_49 : decode cX6_renew 49 = .ok (.aload_n 0, 1) := by decide +kernel
theorem dX6_renew_50 : decode cX6_renew 50 = .ok (.getfield 26, 3) := by decide +kernel
theorem dX6_renew_53 : decode cX6_renew 53 = .ok (.getfield 39, 3) := by decide +kernel
theorem dX6_renew_56 : decode cX6_renew 56 = .ok (.iload_n 1, 1) := by decide +kernel
theorem dX6_renew_57 : decode cX6_renew 57 = .ok (.baload, 1) := by decide +kernel
theorem dX6_renew_58 : decode cX6_renew 58 = .ok (.ifCond .eq 15, 3) := by decide +kernel
theorem dX6_renew_61 : decode cX6_renew 61 = .ok (.aload_n 0, 1) := by decide +kernel
theorem dX6_renew_62 : decode cX6_renew 62 = .ok (.iload_n 1, 1) := by decide +kernel
theorem dX6_renew_63 : decode cX6_renew 63 = .ok (.invokevirtual 42, 3) := by decide +kernel
theorem dX6_renew_66 : decode cX6_renew 66 = .ok (.ifCond .eq 7, 3) := by decide +kernel
theorem dX6_renew_69 : decode cX6_renew 69 = .ok (.iconst 1, 1) := by decide +kernel
theorem dX6_renew_70 : decode cX6_renew 70 = .ok (.goto 4, 3) := by decide +kernel
theorem dX6_renew_73 : decode cX6_renew 73 = .ok (.iconst 0, 1) := by decide +kernel
theorem dX6_renew_74 : decode cX6_renew 74 = .ok (.bastore, 1) := by decide +kernel
theorem dX6_renew_75 : decode cX6_renew 75 = .ok (.aload_n 0, 1) := by decide +kernel
theorem dX6_renew_76 : decode cX6_renew 76 = .ok (.getfield 9, 3) := by decide +kernel
theorem dX6_renew_79 : decode cX6_renew 79 = .ok (.iload_n 1, 1) := by decide +kernel
theorem dX6_renew_80 : decode cX6_renew 80 = .ok (.baload, 1) := by decide +kernel
theorem dX6_renew_81 : decode cX6_renew 81 = .ok (.ifCond .eq 16, 3) := by decide +kernel
theorem dX6_renew_84 : decode cX6_renew 84 = .ok (.aload_n 0, 1) := by decide +kernel
theorem dX6_renew_85 : decode cX6_renew 85 = .ok (.dup, 1) := by decide +kernel
theorem dX6_renew_86 : decode cX6_renew 86 = .ok (.getfield 23, 3) := by decide +kernel
theorem dX6_renew_89 : decode cX6_renew 89 = .ok (.iconst 1, 1) := by decide +kernel
theorem dX6_renew_90 : decode cX6_renew 90 = .ok (.iadd, 1) := by decide +kernel
theorem dX6_renew_91 : decode cX6_renew 91 = .ok (.putfield 23, 3) := by decide +kernel
theorem dX6_renew_94 : decode cX6_renew 94 = .ok (.goto 53, 3) := by decide +kernel
theorem dX6_renew_97 : decode cX6_renew 97 = .ok (.aload_n 0, 1) := by decide +kernel
theorem dX6_renew_98 : decode cX6_renew 98 = .ok (.getfield 26, 3) := by decide +kernel
theorem dX6_renew_101 : decode cX6_renew 101 = .ok (.getfield 39, 3) := by decide +kernel
theorem dX6_renew_104 : decode cX6_renew 104 = .ok (.iload_n 1, 1) := by decide +kernel
theorem dX6_renew_105 : decode cX6_renew 105 = .ok (.baload, 1) := by decide +kernel
theorem dX6_renew_106 : decode cX6_renew 106 = .ok (.ifCond .eq 41, 3) := by decide +kernel
theorem dX6_renew_109 : decode cX6_renew 109 = .ok (.aload_n 0, 1) := by decide +kernel
theorem dX6_renew_110 : decode cX6_renew 110 = .ok (.dup, 1) := by decide +kernel
theorem dX6_renew_111 : decode cX6_renew 111 = .ok (.getfield 19, 3) := by decide +kernel
theorem dX6_renew_114 : decode cX6_renew 114 = .ok (.iconst 1, 1) := by decide +kernel
theorem dX6_renew_115 : decode cX6_renew 115 = .ok (.iadd, 1) := by decide +kernel
theorem dX6_renew_116 : decode cX6_renew 116 = .ok (.putfield 19, 3) := by decide +kernel
theorem dX6_renew_119 : decode cX6_renew 119 = .ok (.aload_n 0, 1) := by decide +kernel
theorem dX6_renew_120 : decode cX6_renew 120 = .ok (.getfield 15, 3) := by decide +kernel
theorem dX6_renew_123 : decode cX6_renew 123 = .ok (.aload_n 0, 1) := by decide +kernel
theorem dX6_renew_124 : decode cX6_renew 124 = .ok (.getfield 26, 3) := by decide +kernel
theorem dX6_renew_127 : decode cX6_renew 127 = .ok (.iload_n 1, 1) := by decide +kernel
theorem dX6_renew_128 : decode cX6_renew 128 = .ok (.invokevirtual 46, 3) := by decide +kernel
theorem dX6_renew_131 : decode cX6_renew 131 = .ok (.iconst 4, 1) := by decide +kernel
theorem dX6_renew_132 : decode cX6_renew 132 = .ok (.imul, 1) := by decide +kernel
theorem dX6_renew_133 : decode cX6_renew 133 = .ok (.aload_n 0, 1) := by decide +kernel
theorem dX6_renew_134 : decode cX6_renew 134 = .ok (.getfield 26, 3) := by decide +kernel
theorem dX6_renew_137 : decode cX6_renew 137 = .ok (.iload_n 1, 1) := by decide +kernel
theorem dX6_renew_138 : decode cX6_renew 138 = .ok (.invokevirtual 50, 3) := by decide +kernel
theorem dX6_renew_141 : decode cX6_renew 141 = .ok (.iadd, 1) := by decide +kernel
theorem dX6_renew_142 : decode cX6_renew 142 = .ok (.dup2, 1) := by decide +kernel
theorem dX6_renew_143 : decode cX6_renew 143 = .ok (.iaload, 1) := by decide +kernel
theorem dX6_renew_144 : decode cX6_renew 144 = .ok (.iconst 1, 1) := by decide +kernel
theorem dX6_renew_145 : decode cX6_renew 145 = .ok (.iadd, 1) := by decide +kernel
theorem dX6_renew_146 : decode cX6_renew 146 = .ok (.iastore, 1) := by decide +kernel
theorem dX6_renew_147 : decode cX6_renew 147 = .ok (.iinc 1 1, 3) := by decide +kernel
theorem dX6_renew_150 : decode cX6_renew 150 = .ok (.goto (-117), 3) := by decide +kernel
theorem dX6_renew_153 : decode cX6_renew 153 = .ok (.return_, 1) := by decide +kernel
theorem dX6_repeatsEarlier_0 : decode cX6_repeatsEarlier 0 = .ok (.iconst 0, 1) := by decide +kernel
theorem dX6_repeatsEarlier_1 : decode cX6_repeatsEarlier 1 = .ok (.istore_n 2, 1) := by decide +kernel
theorem dX6_repeatsEarlier_2 : decode cX6_repeatsEarlier 2 = .ok (.iload_n 2, 1) := by decide +kernel
theorem dX6_repeatsEarlier_3 : decode cX6_repeatsEarlier 3 = .ok (.iload_n 1, 1) := by decide +kernel
theorem dX6_repeatsEarlier_4 : decode cX6_repeatsEarlier 4 = .ok (.if_icmp .ge 33, 3) := by decide +kernel
theorem dX6_repeatsEarlier_7 : decode cX6_repeatsEarlier 7 = .ok (.aload_n 0, 1) := by decide +kernel
theorem dX6_repeatsEarlier_8 : decode cX6_repeatsEarlier 8 = .ok (.iload_n 2, 1) := by decide +kernel
theorem dX6_repeatsEarlier_9 : decode cX6_repeatsEarlier 9 = .ok (.invokevirtual 53, 3) := by decide +kernel
theorem dX6_repeatsEarlier_12 : decode cX6_repeatsEarlier 12 = .ok (.ifCond .eq 19, 3) := by decide +kernel
theorem dX6_repeatsEarlier_15 : decode cX6_repeatsEarlier 15 = .ok (.aload_n 0, 1) := by decide +kernel
theorem dX6_repeatsEarlier_16 : decode cX6_repeatsEarlier 16 = .ok (.getfield 30, 3) := by decide +kernel
theorem dX6_repeatsEarlier_19 : decode cX6_repeatsEarlier 19 = .ok (.iload_n 2, 1) := by decide +kernel
theorem dX6_repeatsEarlier_20 : decode cX6_repeatsEarlier 20 = .ok (.iload_n 1, 1) := by decide +kernel
theorem dX6_repeatsEarlier_21 : decode cX6_repeatsEarlier 21 = .ok (.invokevirtual 56, 3) := by decide +kernel
theorem dX6_repeatsEarlier_24 : decode cX6_repeatsEarlier 24 = .ok (.bipush 121, 2) := by decide +kernel
theorem dX6_repeatsEarlier_26 : decode cX6_repeatsEarlier 26 = .ok (.if_icmp .ne 5, 3) := by decide +kernel
theorem dX6_repeatsEarlier_29 : decode cX6_repeatsEarlier 29 = .ok (.iconst 1, 1) := by decide +kernel
theorem dX6_repeatsEarlier_30 : decode cX6_repeatsEarlier 30 = .ok (.ireturn, 1) := by decide +kernel
theorem dX6_repeatsEarlier_31 : decode cX6_repeatsEarlier 31 = .ok (.iinc 2 1, 3) := by decide +kernel
theorem dX6_repeatsEarlier_34 : decode cX6_repeatsEarlier 34 = .ok (.goto (-32), 3) := by decide +kernel
theorem dX6_repeatsEarlier_37 : decode cX6_repeatsEarlier 37 = .ok (.iconst 0, 1) := by decide +kernel
theorem dX6_repeatsEarlier_38 : decode cX6_repeatsEarlier 38 = .ok (.ireturn, 1) := by decide +kernel
theorem dX6_isCounted_0 : decode cX6_isCounted 0 = .ok (.aload_n 0, 1) := by decide +kernel
theorem dX6_isCounted_1 : decode cX6_isCounted 1 = .ok (.getfield 26, 3) := by decide +kernel
theorem dX6_isCounted_4 : decode cX6_isCounted 4 = .ok (.getfield 39, 3) := by decide +kernel
theorem dX6_isCounted_7 : decode cX6_isCounted 7 = .ok (.iload_n 1, 1) := by decide +kernel
theorem dX6_isCounted_8 : decode cX6_isCounted 8 = .ok (.baload, 1) := by decide +kernel
theorem dX6_isCounted_9 : decode cX6_isCounted 9 = .ok (.ifCond .eq 16, 3) := by decide +kernel
theorem dX6_isCounted_12 : decode cX6_isCounted 12 = .ok (.aload_n 0, 1) := by decide +kernel
theorem dX6_isCounted_13 : decode cX6_isCounted 13 = .ok (.getfield 9, 3) := by decide +kernel
theorem dX6_isCounted_16 : decode cX6_isCounted 16 = .ok (.iload_n 1, 1) := by decide +kernel
theorem dX6_isCounted_17 : decode cX6_isCounted 17 = .ok (.baload, 1) := by decide +kernel
theorem dX6_isCounted_18 : decode cX6_isCounted 18 = .ok (.ifCond .ne 7, 3) := by decide +kernel
theorem dX6_isCounted_21 : decode cX6_isCounted 21 = .ok (.iconst 1, 1) := by decide +kernel
theorem dX6_isCounted_22 : decode cX6_isCounted 22 = .ok (.goto 4, 3) := by decide +kernel
theorem dX6_isCounted_25 : decode cX6_isCounted 25 = .ok (.iconst 0, 1) := by decide +kernel
theorem dX6_isCounted_26 : decode cX6_isCounted 26 = .ok (.ireturn, 1) := by decide +kernel
theorem dX6_hasCounts_0 : decode cX6_hasCounts 0 = .ok (.iconst 0, 1) := by decide +kernel
theorem dX6_hasCounts_1 : decode cX6_hasCounts 1 = .ok (.istore_n 2, 1) := by decide +kernel
theorem dX6_hasCounts_2 : decode cX6_hasCounts 2 = .ok (.iload_n 2, 1) := by decide +kernel
theorem dX6_hasCounts_3 : decode cX6_hasCounts 3 = .ok (.bipush 24, 2) := by decide +kernel
theorem dX6_hasCounts_5 : decode cX6_hasCounts 5 = .ok (.if_icmp .ge 23, 3) := by decide +kernel
theorem dX6_hasCounts_8 : decode cX6_hasCounts 8 = .ok (.aload_n 0, 1) := by decide +kernel
theorem dX6_hasCounts_9 : decode cX6_hasCounts 9 = .ok (.getfield 15, 3) := by decide +kernel
theorem dX6_hasCounts_12 : decode cX6_hasCounts 12 = .ok (.iload_n 2, 1) := by decide +kernel
theorem dX6_hasCounts_13 : decode cX6_hasCounts 13 = .ok (.iaload, 1) := by decide +kernel
theorem dX6_hasCounts_14 : decode cX6_hasCounts 14 = .ok (.aload_n 1, 1) := by decide +kernel
theorem dX6_hasCounts_15 : decode cX6_hasCounts 15 = .ok (.iload_n 2, 1) := by decide +kernel
theorem dX6_hasCounts_16 : decode cX6_hasCounts 16 = .ok (.iaload, 1) := by decide +kernel
theorem dX6_hasCounts_17 : decode cX6_hasCounts 17 = .ok (.if_icmp .eq 5, 3) := by decide +kernel
theorem dX6_hasCounts_20 : decode cX6_hasCounts 20 = .ok (.iconst 0, 1) := by decide +kernel
theorem dX6_hasCounts_21 : decode cX6_hasCounts 21 = .ok (.ireturn, 1) := by decide +kernel
theorem dX6_hasCounts_22 : decode cX6_hasCounts 22 = .ok (.iinc 2 1, 3) := by decide +kernel
theorem dX6_hasCounts_25 : decode cX6_hasCounts 25 = .ok (.goto (-23), 3) := by decide +kernel
theorem dX6_hasCounts_28 : decode cX6_hasCounts 28 = .ok (.iconst 1, 1) := by decide +kernel
theorem dX6_hasCounts_29 : decode cX6_hasCounts 29 = .ok (.ireturn, 1) := by decide +kernel
theorem dX7_init_0 : decode cX7_init 0 = .ok (.aload_n 0, 1) := by decide +kernel
theorem dX7_init_1 : decode cX7_init 1 = .ok (.invokespecial 3, 3) := by decide +kernel
theorem dX7_init_4 : decode cX7_init 4 = .ok (.aload_n 0, 1) := by decide +kernel
theorem dX7_init_5 : decode cX7_init 5 = .ok (.new 9, 3) := by decide +kernel
theorem dX7_init_8 : decode cX7_init 8 = .ok (.dup, 1) := by decide +kernel
theorem dX7_init_9 : decode cX7_init 9 = .ok (.invokespecial 11, 3) := by decide +kernel
theorem dX7_init_12 : decode cX7_init 12 = .ok (.putfield 12, 3) := by decide +kernel
theorem dX7_init_15 : decode cX7_init 15 = .ok (.aload_n 0, 1) := by decide +kernel
theorem dX7_init_16 : decode cX7_init 16 = .ok (.new 16, 3) := by decide +kernel
theorem dX7_init_19 : decode cX7_init 19 = .ok (.dup, 1) := by decide +kernel
theorem dX7_init_20 : decode cX7_init 20 = .ok (.aload_n 0, 1) := by decide +kernel
theorem dX7_init_21 : decode cX7_init 21 = .ok (.getfield 12, 3) := by decide +kernel
theorem dX7_init_24 : decode cX7_init 24 = .ok (.invokespecial 18, 3) := by decide +kernel
theorem dX7_init_27 : decode cX7_init 27 = .ok (.putfield 21, 3) := by decide +kernel
theorem dX7_init_30 : decode cX7_init 30 = .ok (.aload_n 0, 1) := by decide +kernel
theorem dX7_init_31 : decode cX7_init 31 = .ok (.new 25, 3) := by decide +kernel
theorem dX7_init_34 : decode cX7_init 34 = .ok (.dup, 1) := by decide +kernel
theorem dX7_init_35 : decode cX7_init 35 = .ok (.aload_n 0, 1) := by decide +kernel
theorem dX7_init_36 : decode cX7_init 36 = .ok (.getfield 21, 3) := by decide +kernel
theorem dX7_init_39 : decode cX7_init 39 = .ok (.invokespecial 27, 3) := by decide +kernel
theorem dX7_init_42 : decode cX7_init 42 = .ok (.putfield 30, 3) := by decide +kernel
theorem dX7_init_45 : decode cX7_init 45 = .ok (.aload_n 0, 1) := by decide +kernel
theorem dX7_init_46 : decode cX7_init 46 = .ok (.new 34, 3) := by decide +kernel
theorem dX7_init_49 : decode cX7_init 49 = .ok (.dup, 1) := by decide +kernel
theorem dX7_init_50 : decode cX7_init 50 = .ok (.aload_n 0, 1) := by decide +kernel
theorem dX7_init_51 : decode cX7_init 51 = .ok (.getfield 21, 3) := by decide +kernel
theorem dX7_init_54 : decode cX7_init 54 = .ok (.aload_n 0, 1) := by decide +kernel
theorem dX7_init_55 : decode cX7_init 55 = .ok (.getfield 30, 3) := by decide +kernel
theorem dX7_init_58 : decode cX7_init 58 = .ok (.invokespecial 36, 3) := by decide +kernel
theorem dX7_init_61 : decode cX7_init 61 = .ok (.putfield 39, 3) := by decide +kernel
theorem dX7_init_64 : decode cX7_init 64 = .ok (.aload_n 0, 1) := by decide +kernel
theorem dX7_init_65 : decode cX7_init 65 = .ok (.new 34, 3) := by decide +kernel
theorem dX7_init_68 : decode cX7_init 68 = .ok (.dup, 1) := by decide +kernel
theorem dX7_init_69 : decode cX7_init 69 = .ok (.aload_n 0, 1) := by decide +kernel
theorem dX7_init_70 : decode cX7_init 70 = .ok (.getfield 21, 3) := by decide +kernel
theorem dX7_init_73 : decode cX7_init 73 = .ok (.aload_n 0, 1) := by decide +kernel
theorem dX7_init_74 : decode cX7_init 74 = .ok (.getfield 30, 3) := by decide +kernel
theorem dX7_init_77 : decode cX7_init 77 = .ok (.invokespecial 36, 3) := by decide +kernel
theorem dX7_init_80 : decode cX7_init 80 = .ok (.putfield 43, 3) := by decide +kernel
theorem dX7_init_83 : decode cX7_init 83 = .ok (.aload_n 0, 1) := by decide +kernel
theorem dX7_init_84 : decode cX7_init 84 = .ok (.new 46, 3) := by decide +kernel
theorem dX7_init_87 : decode cX7_init 87 = .ok (.dup, 1) := by decide +kernel
theorem dX7_init_88 : decode cX7_init 88 = .ok (.aload_n 0, 1) := by decide +kernel
theorem dX7_init_89 : decode cX7_init 89 = .ok (.getfield 21, 3) := by decide +kernel
theorem dX7_init_92 : decode cX7_init 92 = .ok (.aload_n 0, 1) := by decide +kernel
theorem dX7_init_93 : decode cX7_init 93 = .ok (.getfield 30, 3) := by decide +kernel
theorem dX7_init_96 : decode cX7_init 96 = .ok (.aload_n 0, 1) := by decide +kernel
theorem dX7_init_97 : decode cX7_init 97 = .ok (.getfield 39, 3) := by decide +kernel
theorem dX7_init_100 : decode cX7_init 100 = .ok (.invokespecial 48, 3) := by decide +kernel
theorem dX7_init_103 : decode cX7_init 103 = .ok (.putfield 51, 3) := by decide +kernel
theorem dX7_init_106 : decode cX7_init 106 = .ok (.aload_n 0, 1) := by decide +kernel
theorem dX7_init_107 : decode cX7_init 107 = .ok (.bipush 8, 2) := by decide +kernel
theorem dX7_init_109 : decode cX7_init 109 = .ok (.anewarray 55, 3) := by decide +kernel
theorem dX7_init_112 : decode cX7_init 112 = .ok (.putfield 57, 3) := by decide +kernel
theorem dX7_init_115 : decode cX7_init 115 = .ok (.aload_n 0, 1) := by decide +kernel
theorem dX7_init_116 : decode cX7_init 116 = .ok (.iconst 0, 1) := by decide +kernel
theorem dX7_init_117 : decode cX7_init 117 = .ok (.putfield 61, 3) := by decide +kernel
theorem dX7_init_120 : decode cX7_init 120 = .ok (.return_, 1) := by decide +kernel
theorem dX7_addBlock_0 : decode cX7_addBlock 0 = .ok (.aload_n 0, 1) := by decide +kernel
theorem dX7_addBlock_1 : decode cX7_addBlock 1 = .ok (.getfield 12, 3) := by decide +kernel
theorem dX7_addBlock_4 : decode cX7_addBlock 4 = .ok (.getfield 65, 3) := by decide +kernel
theorem dX7_addBlock_7 : decode cX7_addBlock 7 = .ok (.bipush 6, 2) := by decide +kernel
theorem dX7_addBlock_9 : decode cX7_addBlock 9 = .ok (.if_icmp .lt 13, 3) := by decide +kernel
theorem dX7_addBlock_12 : decode cX7_addBlock 12 = .ok (.new 68, 3) := by decide +kernel
theorem dX7_addBlock_15 : decode cX7_addBlock 15 = .ok (.dup, 1) := by decide +kernel
theorem dX7_addBlock_16 : decode cX7_addBlock 16 = .ok (.ldc 70, 2) := by decide +kernel
theorem dX7_addBlock_18 : decode cX7_addBlock 18 = .ok (.invokespecial 72, 3) := by decide +kernel
theorem dX7_addBlock_21 : decode cX7_addBlock 21 = .ok (.athrow, 1) := by decide +kernel
theorem dX7_addBlock_22 : decode cX7_addBlock 22 = .ok (.aload_n 0, 1) := by decide +kernel
theorem dX7_addBlock_23 : decode cX7_addBlock 23 = .ok (.getfield 12, 3) := by decide +kernel
theorem dX7_addBlock_26 : decode cX7_addBlock 26 = .ok (.invokevirtual 75, 3) := by decide +kernel
theorem dX7_addBlock_29 : decode cX7_addBlock 29 = .ok (.istore_n 1, 1) := by decide +kernel
theorem dX7_addBlock_30 : decode cX7_addBlock 30 = .ok (.aload_n 0, 1) := by decide +kernel
theorem dX7_addBlock_31 : decode cX7_addBlock 31 = .ok (.invokevirtual 79, 3) := by decide +kernel
theorem dX7_addBlock_34 : decode cX7_addBlock 34 = .ok (.pop, 1) := by decide +kernel
theorem dX7_addBlock_35 : decode cX7_addBlock 35 = .ok (.iload_n 1, 1) := by decide +kernel
theorem dX7_addBlock_36 : decode cX7_addBlock 36 = .ok (.ireturn, 1) := by decide +kernel
theorem dX7_addAddress_0 : decode cX7_addAddress 0 = .ok (.aload_n 0, 1) := by decide +kernel
theorem dX7_addAddress_1 : decode cX7_addAddress 1 = .ok (.iload_n 1, 1) := by decide +kernel
theorem dX7_addAddress_2 : decode cX7_addAddress 2 = .ok (.invokevirtual 82, 3) := by decide +kernel
theorem dX7_addAddress_5 : decode cX7_addAddress 5 = .ok (.aload_n 0, 1) := by decide +kernel
theorem dX7_addAddress_6 : decode cX7_addAddress 6 = .ok (.getfield 12, 3) := by decide +kernel
theorem dX7_addAddress_9 : decode cX7_addAddress 9 = .ok (.getfield 86, 3) := by decide +kernel
theorem dX7_addAddress_12 : decode cX7_addAddress 12 = .ok (.bipush 20, 2) := by decide +kernel
theorem dX7_addAddress_14 : decode cX7_addAddress 14 = .ok (.if_icmp .lt 13, 3) := by decide +kernel
theorem dX7_addAddress_17 : decode cX7_addAddress 17 = .ok (.new 68, 3) := by decide +kernel
theorem dX7_addAddress_20 : decode cX7_addAddress 20 = .ok (.dup, 1) := by decide +kernel
theorem dX7_addAddress_21 : decode cX7_addAddress 21 = .ok (.ldc 89, 2) := by decide +kernel
theorem dX7_addAddress_23 : decode cX7_addAddress 23 = .ok (.invokespecial 72, 3) := by decide +kernel
theorem dX7_addAddress_26 : decode cX7_addAddress 26 = .ok (.athrow, 1) := by decide +kernel
theorem dX7_addAddress_27 : decode cX7_addAddress 27 = .ok (.aload_n 0, 1) := by decide +kernel
theorem dX7_addAddress_28 : decode cX7_addAddress 28 = .ok (.getfield 12, 3) := by decide +kernel
theorem dX7_addAddress_31 : decode cX7_addAddress 31 = .ok (.iload_n 1, 1) := by decide +kernel
theorem dX7_addAddress_32 : decode cX7_addAddress 32 = .ok (.invokevirtual 91, 3) := by decide +kernel
theorem dX7_addAddress_35 : decode cX7_addAddress 35 = .ok (.ireturn, 1) := by decide +kernel
theorem dX7_split_0 : decode cX7_split 0 = .ok (.aload_n 0, 1) := by decide +kernel
theorem dX7_split_1 : decode cX7_split 1 = .ok (.iload_n 1, 1) := by decide +kernel
theorem dX7_split_2 : decode cX7_split 2 = .ok (.invokevirtual 82, 3) := by decide +kernel
theorem dX7_split_5 : decode cX7_split 5 = .ok (.aload_n 0, 1) := by decide +kernel
theorem dX7_split_6 : decode cX7_split 6 = .ok (.getfield 12, 3) := by decide +kernel
theorem dX7_split_9 : decode cX7_split 9 = .ok (.iload_n 2, 1) := by decide +kernel
theorem dX7_split_10 : decode cX7_split 10 = .ok (.invokevirtual 95, 3) := by decide +kernel
theorem dX7_split_13 : decode cX7_split 13 = .ok (.ifCond .eq 16, 3) := by decide +kernel
theorem dX7_split_16 : decode cX7_split 16 = .ok (.aload_n 0, 1) := by decide +kernel
theorem dX7_split_17 : decode cX7_split 17 = .ok (.getfield 12, 3) := by decide +kernel
theorem dX7_split_20 : decode cX7_split 20 = .ok (.getfield 99, 3) := by decide +kernel
theorem dX7_split_23 : decode cX7_split 23 = .ok (.iload_n 2, 1) := by decide +kernel
theorem dX7_split_24 : decode cX7_split 24 = .ok (.iaload, 1) := by decide +kernel
theorem dX7_split_25 : decode cX7_split 25 = .ok (.iload_n 1, 1) := by decide +kernel
theorem dX7_split_26 : decode cX7_split 26 = .ok (.if_icmp .eq 13, 3) := by decide +kernel
theorem dX7_split_29 : decode cX7_split 29 = .ok (.new 103, 3) := by decide +kernel
theorem dX7_split_32 : decode cX7_split 32 = .ok (.dup, 1) := by decide +kernel
theorem dX7_split_33 : decode cX7_split 33 = .ok (.ldc 105, 2) := by decide +kernel
theorem dX7_split_35 : decode cX7_split 35 = .ok (.invokespecial 107, 3) := by decide +kernel
theorem dX7_split_38 : decode cX7_split 38 = .ok (.athrow, 1) := by decide +kernel
theorem dX7_split_39 : decode cX7_split 39 = .ok (.aload_n 0, 1) := by decide +kernel
theorem dX7_split_40 : decode cX7_split 40 = .ok (.getfield 12, 3) := by decide +kernel
theorem dX7_split_43 : decode cX7_split 43 = .ok (.getfield 65, 3) := by decide +kernel
theorem dX7_split_46 : decode cX7_split 46 = .ok (.bipush 6, 2) := by decide +kernel
theorem dX7_split_48 : decode cX7_split 48 = .ok (.if_icmp .lt 13, 3) := by decide +kernel
theorem dX7_split_51 : decode cX7_split 51 = .ok (.new 68, 3) := by decide +kernel
theorem dX7_split_54 : decode cX7_split 54 = .ok (.dup, 1) := by decide +kernel
theorem dX7_split_55 : decode cX7_split 55 = .ok (.ldc 70, 2) := by decide +kernel
theorem dX7_split_57 : decode cX7_split 57 = .ok (.invokespecial 72, 3) := by decide +kernel
theorem dX7_split_60 : decode cX7_split 60 = .ok (.athrow, 1) := by decide +kernel
theorem dX7_split_61 : decode cX7_split 61 = .ok (.aload_n 0, 1) := by decide +kernel
theorem dX7_split_62 : decode cX7_split 62 = .ok (.getfield 12, 3) := by decide +kernel
theorem dX7_split_65 : decode cX7_split 65 = .ok (.invokevirtual 75, 3) := by decide +kernel
theorem dX7_split_68 : decode cX7_split 68 = .ok (.istore_n 3, 1) := by decide +kernel
theorem dX7_split_69 : decode cX7_split 69 = .ok (.aload_n 0, 1) := by decide +kernel
theorem dX7_split_70 : decode cX7_split 70 = .ok (.getfield 12, 3) := by decide +kernel
theorem dX7_split_73 : decode cX7_split 73 = .ok (.iload_n 1, 1) := by decide +kernel
theorem dX7_split_74 : decode cX7_split 74 = .ok (.iload_n 2, 1) := by decide +kernel
theorem dX7_split_75 : decode cX7_split 75 = .ok (.iload_n 3, 1) := by decide +kernel
theorem dX7_split_76 : decode cX7_split 76 = .ok (.invokevirtual 108, 3) := by decide +kernel
theorem dX7_split_79 : decode cX7_split 79 = .ok (.pop, 1) := by decide +kernel
theorem dX7_split_80 : decode cX7_split 80 = .ok (.aload_n 0, 1) := by decide +kernel
theorem dX7_split_81 : decode cX7_split 81 = .ok (.invokevirtual 79, 3) := by decide +kernel
theorem dX7_split_84 : decode cX7_split 84 = .ok (.pop, 1) := by decide +kernel
theorem dX7_split_85 : decode cX7_split 85 = .ok (.iload_n 3, 1) := by decide +kernel
theorem dX7_split_86 : decode cX7_split 86 = .ok (.ireturn, 1) := by decide +kernel
theorem dX7_join_0 : decode cX7_join 0 = .ok (.aload_n 0, 1) := by decide +kernel
theorem dX7_join_1 : decode cX7_join 1 = .ok (.iload_n 1, 1) := by decide +kernel
theorem dX7_join_2 : decode cX7_join 2 = .ok (.invokevirtual 82, 3) := by decide +kernel
theorem dX7_join_5 : decode cX7_join 5 = .ok (.aload_n 0, 1) := by decide +kernel
theorem dX7_join_6 : decode cX7_join 6 = .ok (.iload_n 2, 1) := by decide +kernel
theorem dX7_join_7 : decode cX7_join 7 = .ok (.invokevirtual 82, 3) := by decide +kernel
theorem dX7_join_10 : decode cX7_join 10 = .ok (.iload_n 1, 1) := by decide +kernel
theorem dX7_join_11 : decode cX7_join 11 = .ok (.iload_n 2, 1) := by decide +kernel
theorem dX7_join_12 : decode cX7_join 12 = .ok (.if_icmp .ne 13, 3) := by decide +kernel
theorem dX7_join_15 : decode cX7_join 15 = .ok (.new 112, 3) := by decide +kernel
theorem dX7_join_18 : decode cX7_join 18 = .ok (.dup, 1) := by decide +kernel
theorem dX7_join_19 : decode cX7_join 19 = .ok (.ldc 114, 2) := by decide +kernel
theorem dX7_join_21 : decode cX7_join 21 = .ok (.invokespecial 116, 3) := by decide +kernel
theorem dX7_join_24 : decode cX7_join 24 = .ok (.athrow, 1) := by decide +kernel
theorem dX7_join_25 : decode cX7_join 25 = .ok (.aload_n 0, 1) := by decide +kernel
theorem dX7_join_26 : decode cX7_join 26 = .ok (.getfield 12, 3) := by decide +kernel
theorem dX7_join_29 : decode cX7_join 29 = .ok (.iload_n 1, 1) := by decide +kernel
theorem dX7_join_30 : decode cX7_join 30 = .ok (.iconst 0, 1) := by decide +kernel
theorem dX7_join_31 : decode cX7_join 31 = .ok (.iload_n 2, 1) := by decide +kernel
theorem dX7_join_32 : decode cX7_join 32 = .ok (.invokevirtual 108, 3) := by decide +kernel
theorem dX7_join_35 : decode cX7_join 35 = .ok (.istore_n 3, 1) := by decide +kernel
theorem dX7_join_36 : decode cX7_join 36 = .ok (.aload_n 0, 1) := by decide +kernel
theorem dX7_join_37 : decode cX7_join 37 = .ok (.invokevirtual 79, 3) := by decide +kernel
theorem dX7_join_40 : decode cX7_join 40 = .ok (.pop, 1) := by decide +kernel
theorem dX7_join_41 : decode cX7_join 41 = .ok (.iload_n 3, 1) := by decide +kernel
theorem dX7_join_42 : decode cX7_join 42 = .ok (.ireturn, 1) := by decide +kernel
theorem dX7_addRecord_0 : decode cX7_addRecord 0 = .ok (.iload_n 1, 1) := by decide +kernel
theorem dX7_addRecord_1 : decode cX7_addRecord 1 = .ok (.bipush 99, 2) := by decide +kernel
theorem dX7_addRecord_3 : decode cX7_addRecord 3 = .ok (.if_icmp .eq 19, 3) := by decide +kernel
theorem dX7_addRecord_6 : decode cX7_addRecord 6 = .ok (.iload_n 1, 1) := by decide +kernel
theorem dX7_addRecord_7 : decode cX7_addRecord 7 = .ok (.bipush 107, 2) := by decide +kernel
theorem dX7_addRecord_9 : decode cX7_addRecord 9 = .ok (.if_icmp .eq 13, 3) := by decide +kernel
theorem dX7_addRecord_12 : decode cX7_addRecord 12 = .ok (.new 112, 3) := by decide +kernel
theorem dX7_addRecord_15 : decode cX7_addRecord 15 = .ok (.dup, 1) := by decide +kernel
theorem dX7_addRecord_16 : decode cX7_addRecord 16 = .ok (.ldc 117, 2) := by decide +kernel
theorem dX7_addRecord_18 : decode cX7_addRecord 18 = .ok (.invokespecial 116, 3) := by decide +kernel
theorem dX7_addRecord_21 : decode cX7_addRecord 21 = .ok (.athrow, 1) := by decide +kernel
theorem dX7_addRecord_22 : decode cX7_addRecord 22 = .ok (.iload_n 3, 1) := by decide +kernel
theorem dX7_addRecord_23 : decode cX7_addRecord 23 = .ok (.ifCond .lt 22, 3) := by decide +kernel
theorem dX7_addRecord_26 : decode cX7_addRecord 26 = .ok (.iload_n 3, 1) := by decide +kernel
theorem dX7_addRecord_27 : decode cX7_addRecord 27 = .ok (.sipush 999, 3) := by decide +kernel
theorem dX7_addRecord_30 : decode cX7_addRecord 30 = .ok (.if_icmp .gt 15, 3) := by decide +kernel
theorem dX7_addRecord_33 : decode cX7_addRecord 33 = .ok (.iload 4, 2) := by decide +kernel
theorem dX7_addRecord_35 : decode cX7_addRecord 35 = .ok (.ifCond .lt 10, 3) := by decide +kernel
theorem dX7_addRecord_38 : decode cX7_addRecord 38 = .ok (.iload 4, 2) := by decide +kernel
theorem dX7_addRecord_40 : decode cX7_addRecord 40 = .ok (.bipush 120, 2) := by decide +kernel
theorem dX7_addRecord_42 : decode cX7_addRecord 42 = .ok (.if_icmp .le 13, 3) := by decide +kernel
theorem dX7_addRecord_45 : decode cX7_addRecord 45 = .ok (.new 112, 3) := by decide +kernel
theorem dX7_addRecord_48 : decode cX7_addRecord 48 = .ok (.dup, 1) := by decide +kernel
theorem dX7_addRecord_49 : decode cX7_addRecord 49 = .ok (.ldc 119, 2) := by decide +kernel
theorem dX7_addRecord_51 : decode cX7_addRecord 51 = .ok (.invokespecial 116, 3) := by decide +kernel
theorem dX7_addRecord_54 : decode cX7_addRecord 54 = .ok (.athrow, 1) := by decide +kernel
theorem dX7_addRecord_55 : decode cX7_addRecord 55 = .ok (.aload_n 0, 1) := by decide +kernel
theorem dX7_addRecord_56 : decode cX7_addRecord 56 = .ok (.iload_n 2, 1) := by decide +kernel
theorem dX7_addRecord_57 : decode cX7_addRecord 57 = .ok (.invokevirtual 121, 3) := by decide +kernel
theorem dX7_addRecord_60 : decode cX7_addRecord 60 = .ok (.aload_n 0, 1) := by decide +kernel
theorem dX7_addRecord_61 : decode cX7_addRecord 61 = .ok (.getfield 21, 3) := by decide +kernel
theorem dX7_addRecord_64 : decode cX7_addRecord 64 = .ok (.getfield 124, 3) := by decide +kernel
theorem dX7_addRecord_67 : decode cX7_addRecord 67 = .ok (.bipush 40, 2) := by decide +kernel
theorem dX7_addRecord_69 : decode cX7_addRecord 69 = .ok (.if_icmp .lt 13, 3) := by decide +kernel
theorem dX7_addRecord_72 : decode cX7_addRecord 72 = .ok (.new 68, 3) := by decide +kernel
theorem dX7_addRecord_75 : decode cX7_addRecord 75 = .ok (.dup, 1) := by decide +kernel
theorem dX7_addRecord_76 : decode cX7_addRecord 76 = .ok (.ldc 127, 2) := by decide +kernel
theorem dX7_addRecord_78 : decode cX7_addRecord 78 = .ok (.invokespecial 72, 3) := by decide +kernel
theorem dX7_addRecord_81 : decode cX7_addRecord 81 = .ok (.athrow, 1) := by decide +kernel
theorem dX7_addRecord_82 : decode cX7_addRecord 82 = .ok (.aload_n 0, 1) := by decide +kernel
theorem dX7_addRecord_83 : decode cX7_addRecord 83 = .ok (.getfield 21, 3) := by decide +kernel
theorem dX7_addRecord_86 : decode cX7_addRecord 86 = .ok (.iload_n 1, 1) := by decide +kernel
theorem dX7_addRecord_87 : decode cX7_addRecord 87 = .ok (.bipush 99, 2) := by decide +kernel
theorem dX7_addRecord_89 : decode cX7_addRecord 89 = .ok (.if_icmp .ne 7, 3) := by decide +kernel
theorem dX7_addRecord_92 : decode cX7_addRecord 92 = .ok (.iconst 1, 1) := by decide +kernel
theorem dX7_addRecord_93 : decode cX7_addRecord 93 = .ok (.goto 4, 3) := by decide +kernel
theorem dX7_addRecord_96 : decode cX7_addRecord 96 = .ok (.iconst 0, 1) := by decide +kernel
theorem dX7_addRecord_97 : decode cX7_addRecord 97 = .ok (.iload_n 2, 1) := by decide +kernel
theorem dX7_addRecord_98 : decode cX7_addRecord 98 = .ok (.iload_n 3, 1) := by decide +kernel
theorem dX7_addRecord_99 : decode cX7_addRecord 99 = .ok (.iload 4, 2) := by decide +kernel
theorem dX7_addRecord_101 : decode cX7_addRecord 101 = .ok (.invokevirtual 129, 3) := by decide +kernel
theorem dX7_addRecord_104 : decode cX7_addRecord 104 = .ok (.istore 5, 2) := by decide +kernel
theorem dX7_addRecord_106 : decode cX7_addRecord 106 = .ok (.aload_n 0, 1) := by decide +kernel
theorem dX7_addRecord_107 : decode cX7_addRecord 107 = .ok (.invokevirtual 79, 3) := by decide +kernel
theorem dX7_addRecord_110 : decode cX7_addRecord 110 = .ok (.pop, 1) := by decide +kernel
theorem dX7_addRecord_111 : decode cX7_addRecord 111 = .ok (.iload 5, 2) := by decide +kernel
theorem dX7_addRecord_113 : decode cX7_addRecord 113 = .ok (.ireturn, 1) := by decide +kernel
theorem dX7_blockOf_0 : decode cX7_blockOf 0 = .ok (.aload_n 0, 1) := by decide +kernel
theorem dX7_blockOf_1 : decode cX7_blockOf 1 = .ok (.iload_n 1, 1) := by decide +kernel
theorem dX7_blockOf_2 : decode cX7_blockOf 2 = .ok (.invokevirtual 121, 3) := by decide +kernel
theorem dX7_blockOf_5 : decode cX7_blockOf 5 = .ok (.aload_n 0, 1) := by decide +kernel
theorem dX7_blockOf_6 : decode cX7_blockOf 6 = .ok (.getfield 12, 3) := by decide +kernel
theorem dX7_blockOf_9 : decode cX7_blockOf 9 = .ok (.getfield 99, 3) := by decide +kernel
theorem dX7_blockOf_12 : decode cX7_blockOf 12 = .ok (.iload_n 1, 1) := by decide +kernel
theorem dX7_blockOf_13 : decode cX7_blockOf 13 = .ok (.iaload, 1) := by decide +kernel
theorem dX7_blockOf_14 : decode cX7_blockOf 14 = .ok (.ireturn, 1) := by decide +kernel
theorem dX7_setPoints_0 : decode cX7_setPoints 0 = .ok (.iload_n 1, 1) := by decide +kernel
theorem dX7_setPoints_1 : decode cX7_setPoints 1 = .ok (.bipush 110, 2) := by decide +kernel
theorem dX7_setPoints_3 : decode cX7_setPoints 3 = .ok (.if_icmp .eq 25, 3) := by decide +kernel
theorem dX7_setPoints_6 : decode cX7_setPoints 6 = .ok (.iload_n 1, 1) := by decide +kernel
theorem dX7_setPoints_7 : decode cX7_setPoints 7 = .ok (.bipush 121, 2) := by decide +kernel
theorem dX7_setPoints_9 : decode cX7_setPoints 9 = .ok (.if_icmp .eq 19, 3) := by decide +kernel
theorem dX7_setPoints_12 : decode cX7_setPoints 12 = .ok (.iload_n 1, 1) := by decide +kernel
theorem dX7_setPoints_13 : decode cX7_setPoints 13 = .ok (.bipush 112, 2) := by decide +kernel
theorem dX7_setPoints_15 : decode cX7_setPoints 15 = .ok (.if_icmp .eq 13, 3) := by decide +kernel
theorem dX7_setPoints_18 : decode cX7_setPoints 18 = .ok (.new 112, 3) := by decide +kernel
theorem dX7_setPoints_21 : decode cX7_setPoints 21 = .ok (.dup, 1) := by decide +kernel
theorem dX7_setPoints_22 : decode cX7_setPoints 22 = .ok (.ldc 133, 2) := by decide +kernel
theorem dX7_setPoints_24 : decode cX7_setPoints 24 = .ok (.invokespecial 116, 3) := by decide +kernel
theorem dX7_setPoints_27 : decode cX7_setPoints 27 = .ok (.athrow, 1) := by decide +kernel
theorem dX7_setPoints_28 : decode cX7_setPoints 28 = .ok (.iload_n 2, 1) := by decide +kernel
theorem dX7_setPoints_29 : decode cX7_setPoints 29 = .ok (.ifCond .lt 9, 3) := by decide +kernel
theorem dX7_setPoints_32 : decode cX7_setPoints 32 = .ok (.iload_n 2, 1) := by decide +kernel
theorem dX7_setPoints_33 : decode cX7_setPoints 33 = .ok (.bipush 9, 2) := by decide +kernel
theorem dX7_setPoints_35 : decode cX7_setPoints 35 = .ok (.if_icmp .le 13, 3) := by decide +kernel
theorem dX7_setPoints_38 : decode cX7_setPoints 38 = .ok (.new 112, 3) := by decide +kernel
theorem dX7_setPoints_41 : decode cX7_setPoints 41 = .ok (.dup, 1) := by decide +kernel
theorem dX7_setPoints_42 : decode cX7_setPoints 42 = .ok (.ldc 135, 2) := by decide +kernel
theorem dX7_setPoints_44 : decode cX7_setPoints 44 = .ok (.invokespecial 116, 3) := by decide +kernel
theorem dX7_setPoints_47 : decode cX7_setPoints 47 = .ok (.athrow, 1) := by decide +kernel
theorem dX7_setPoints_48 : decode cX7_setPoints 48 = .ok (.aload_n 0, 1) := by decide +kernel
theorem dX7_setPoints_49 : decode cX7_setPoints 49 = .ok (.getfield 30, 3) := by decide +kernel
theorem dX7_setPoints_52 : decode cX7_setPoints 52 = .ok (.iload_n 1, 1) := by decide +kernel
theorem dX7_setPoints_53 : decode cX7_setPoints 53 = .ok (.iload_n 2, 1) := by decide +kernel
theorem dX7_setPoints_54 : decode cX7_setPoints 54 = .ok (.invokevirtual 137, 3) := by decide +kernel
theorem dX7_setPoints_57 : decode cX7_setPoints 57 = .ok (.istore_n 3, 1) := by decide +kernel
theorem dX7_setPoints_58 : decode cX7_setPoints 58 = .ok (.aload_n 0, 1) := by decide +kernel
theorem dX7_setPoints_59 : decode cX7_setPoints 59 = .ok (.invokevirtual 79, 3) := by decide +kernel
theorem dX7_setPoints_62 : decode cX7_setPoints 62 = .ok (.pop, 1) := by decide +kernel
theorem dX7_setPoints_63 : decode cX7_setPoints 63 = .ok (.iload_n 3, 1) := by decide +kernel
theorem dX7_setPoints_64 : decode cX7_setPoints 64 = .ok (.ireturn, 1) := by decide +kernel
theorem dX7_setBounds_0 : decode cX7_setBounds 0 = .ok (.iload_n 1, 1) := by decide +kernel
theorem dX7_setBounds_1 : decode cX7_setBounds 1 = .ok (.ifCond .lt 20, 3) := by decide +kernel
theorem dX7_setBounds_4 : decode cX7_setBounds 4 = .ok (.iload_n 1, 1) := by decide +kernel
theorem dX7_setBounds_5 : decode cX7_setBounds 5 = .ok (.bipush 30, 2) := by decide +kernel
theorem dX7_setBounds_7 : decode cX7_setBounds 7 = .ok (.if_icmp .gt 14, 3) := by decide +kernel
theorem dX7_setBounds_10 : decode cX7_setBounds 10 = .ok (.iload_n 2, 1) := by decide +kernel
theorem dX7_setBounds_11 : decode cX7_setBounds 11 = .ok (.iload_n 1, 1) := by decide +kernel
theorem dX7_setBounds_12 : decode cX7_setBounds 12 = .ok (.if_icmp .lt 9, 3) := by decide +kernel
theorem dX7_setBounds_15 : decode cX7_setBounds 15 = .ok (.iload_n 2, 1) := by decide +kernel
theorem dX7_setBounds_16 : decode cX7_setBounds 16 = .ok (.bipush 30, 2) := by decide +kernel
theorem dX7_setBounds_18 : decode cX7_setBounds 18 = .ok (.if_icmp .le 13, 3) := by decide +kernel
theorem dX7_setBounds_21 : decode cX7_setBounds 21 = .ok (.new 112, 3) := by decide +kernel
theorem dX7_setBounds_24 : decode cX7_setBounds 24 = .ok (.dup, 1) := by decide +kernel
theorem dX7_setBounds_25 : decode cX7_setBounds 25 = .ok (.ldc 141, 2) := by decide +kernel
theorem dX7_setBounds_27 : decode cX7_setBounds 27 = .ok (.invokespecial 116, 3) := by decide +kernel
theorem dX7_setBounds_30 : decode cX7_setBounds 30 = .ok (.athrow, 1) := by decide +kernel
theorem dX7_setBounds_31 : decode cX7_setBounds 31 = .ok (.aload_n 0, 1) := by decide +kernel
theorem dX7_setBounds_32 : decode cX7_setBounds 32 = .ok (.getfield 30, 3) := by decide +kernel
theorem dX7_setBounds_35 : decode cX7_setBounds 35 = .ok (.getfield 143, 3) := by decide +kernel
theorem dX7_setBounds_38 : decode cX7_setBounds 38 = .ok (.istore_n 3, 1) := by decide +kernel
theorem dX7_setBounds_39 : decode cX7_setBounds 39 = .ok (.aload_n 0, 1) := by decide +kernel
theorem dX7_setBounds_40 : decode cX7_setBounds 40 = .ok (.getfield 30, 3) := by decide +kernel
theorem dX7_setBounds_43 : decode cX7_setBounds 43 = .ok (.iload_n 1, 1) := by decide +kernel
theorem dX7_setBounds_44 : decode cX7_setBounds 44 = .ok (.putfield 146, 3) := by decide +kernel
theorem dX7_setBounds_47 : decode cX7_setBounds 47 = .ok (.aload_n 0, 1) := by decide +kernel
theorem dX7_setBounds_48 : decode cX7_setBounds 48 = .ok (.getfield 30, 3) := by decide +kernel
theorem dX7_setBounds_51 : decode cX7_setBounds 51 = .ok (.iload_n 2, 1) := by decide +kernel
theorem dX7_setBounds_52 : decode cX7_setBounds 52 = .ok (.putfield 143, 3) := by decide +kernel
theorem dX7_setBounds_55 : decode cX7_setBounds 55 = .ok (.aload_n 0, 1) := by decide +kernel
theorem dX7_setBounds_56 : decode cX7_setBounds 56 = .ok (.invokevirtual 79, 3) := by decide +kernel
theorem dX7_setBounds_59 : decode cX7_setBounds 59 = .ok (.pop, 1) := by decide +kernel
theorem dX7_setBounds_60 : decode cX7_setBounds 60 = .ok (.iload_n 3, 1) := by decide +kernel
theorem dX7_setBounds_61 : decode cX7_setBounds 61 = .ok (.ireturn, 1) := by decide +kernel
theorem dX7_score_0 : decode cX7_score 0 = .ok (.aload_n 0, 1) := by decide +kernel
theorem dX7_score_1 : decode cX7_score 1 = .ok (.iload_n 1, 1) := by decide +kernel
theorem dX7_score_2 : decode cX7_score 2 = .ok (.iload_n 2, 1) := by decide +kernel
theorem dX7_score_3 : decode cX7_score 3 = .ok (.invokevirtual 149, 3) := by decide +kernel
theorem dX7_score_6 : decode cX7_score 6 = .ok (.aload_n 0, 1) := by decide +kernel
theorem dX7_score_7 : decode cX7_score 7 = .ok (.getfield 30, 3) := by decide +kernel
theorem dX7_score_10 : decode cX7_score 10 = .ok (.iload_n 1, 1) := by decide +kernel
theorem dX7_score_11 : decode cX7_score 11 = .ok (.iload_n 2, 1) := by decide +kernel
theorem dX7_score_12 : decode cX7_score 12 = .ok (.invokevirtual 153, 3) := by decide +kernel
theorem dX7_score_15 : decode cX7_score 15 = .ok (.ireturn, 1) := by decide +kernel
theorem dX7_decide_0 : decode cX7_decide 0 = .ok (.aload_n 0, 1) := by decide +kernel
theorem dX7_decide_1 : decode cX7_decide 1 = .ok (.iload_n 1, 1) := by decide +kernel
theorem dX7_decide_2 : decode cX7_decide 2 = .ok (.iload_n 2, 1) := by decide +kernel
theorem dX7_decide_3 : decode cX7_decide 3 = .ok (.invokevirtual 149, 3) := by decide +kernel
theorem dX7_decide_6 : decode cX7_decide 6 = .ok (.aload_n 0, 1) := by decide +kernel
theorem dX7_decide_7 : decode cX7_decide 7 = .ok (.getfield 21, 3) := by decide +kernel
theorem dX7_decide_10 : decode cX7_decide 10 = .ok (.getfield 157, 3) := by decide +kernel
theorem dX7_decide_13 : decode cX7_decide 13 = .ok (.iload_n 1, 1) := by decide +kernel
theorem dX7_decide_14 : decode cX7_decide 14 = .ok (.baload, 1) := by decide +kernel
theorem dX7_decide_15 : decode cX7_decide 15 = .ok (.ifCond .ne 25, 3) := by decide +kernel
theorem dX7_decide_18 : decode cX7_decide 18 = .ok (.aload_n 0, 1) := by decide +kernel
theorem dX7_decide_19 : decode cX7_decide 19 = .ok (.getfield 21, 3) := by decide +kernel
theorem dX7_decide_22 : decode cX7_decide 22 = .ok (.getfield 157, 3) := by decide +kernel
theorem dX7_decide_25 : decode cX7_decide 25 = .ok (.iload_n 2, 1) := by decide +kernel
theorem dX7_decide_26 : decode cX7_decide 26 = .ok (.baload, 1) := by decide +kernel
theorem dX7_decide_27 : decode cX7_decide 27 = .ok (.ifCond .ne 13, 3) := by decide +kernel
theorem dX7_decide_30 : decode cX7_decide 30 = .ok (.new 161, 3) := by decide +kernel
theorem dX7_decide_33 : decode cX7_decide 33 = .ok (.dup, 1) := by decide +kernel
theorem dX7_decide_34 : decode cX7_decide 34 = .ok (.ldc 163, 2) := by decide +kernel
theorem dX7_decide_36 : decode cX7_decide 36 = .ok (.invokespecial 165, 3) := by decide +kernel
theorem dX7_decide_39 : decode cX7_decide 39 = .ok (.athrow, 1) := by decide +kernel
theorem dX7_decide_40 : decode cX7_decide 40 = .ok (.aload_n 0, 1) := by decide +kernel
theorem dX7_decide_41 : decode cX7_decide 41 = .ok (.getfield 30, 3) := by decide +kernel
theorem dX7_decide_44 : decode cX7_decide 44 = .ok (.iload_n 1, 1) := by decide +kernel
theorem dX7_decide_45 : decode cX7_decide 45 = .ok (.iload_n 2, 1) := by decide +kernel
theorem dX7_decide_46 : decode cX7_decide 46 = .ok (.iload_n 3, 1) := by decide +kernel
theorem dX7_decide_47 : decode cX7_decide 47 = .ok (.ifCond .eq 8, 3) := by decide +kernel
theorem dX7_decide_50 : decode cX7_decide 50 = .ok (.bipush 121, 2) := by decide +kernel
theorem dX7_decide_52 : decode cX7_decide 52 = .ok (.goto 5, 3) := by decide +kernel
theorem dX7_decide_55 : decode cX7_decide 55 = .ok (.bipush 110, 2) := by decide +kernel
theorem dX7_decide_57 : decode cX7_decide 57 = .ok (.invokevirtual 166, 3) := by decide +kernel
theorem dX7_decide_60 : decode cX7_decide 60 = .ok (.aload_n 0, 1) := by decide +kernel
theorem dX7_decide_61 : decode cX7_decide 61 = .ok (.invokevirtual 79, 3) := by decide +kernel
theorem dX7_decide_64 : decode cX7_decide 64 = .ok (.ireturn, 1) := by decide +kernel
theorem dX7_takeBack_0 : decode cX7_takeBack 0 = .ok (.aload_n 0, 1) := by decide +kernel
theorem dX7_takeBack_1 : decode cX7_takeBack 1 = .ok (.iload_n 1, 1) := by decide +kernel
theorem dX7_takeBack_2 : decode cX7_takeBack 2 = .ok (.invokevirtual 170, 3) := by decide +kernel
theorem dX7_takeBack_5 : decode cX7_takeBack 5 = .ok (.aload_n 0, 1) := by decide +kernel
theorem dX7_takeBack_6 : decode cX7_takeBack 6 = .ok (.iload_n 2, 1) := by decide +kernel
theorem dX7_takeBack_7 : decode cX7_takeBack 7 = .ok (.invokevirtual 170, 3) := by decide +kernel
theorem dX7_takeBack_10 : decode cX7_takeBack 10 = .ok (.aload_n 0, 1) := by decide +kernel
theorem dX7_takeBack_11 : decode cX7_takeBack 11 = .ok (.getfield 30, 3) := by decide +kernel
theorem dX7_takeBack_14 : decode cX7_takeBack 14 = .ok (.iload_n 1, 1) := by decide +kernel
theorem dX7_takeBack_15 : decode cX7_takeBack 15 = .ok (.iload_n 2, 1) := by decide +kernel
theorem dX7_takeBack_16 : decode cX7_takeBack 16 = .ok (.invokevirtual 173, 3) := by decide +kernel
theorem dX7_takeBack_19 : decode cX7_takeBack 19 = .ok (.ifCond .ne 13, 3) := by decide +kernel
theorem dX7_takeBack_22 : decode cX7_takeBack 22 = .ok (.new 68, 3) := by decide +kernel
theorem dX7_takeBack_25 : decode cX7_takeBack 25 = .ok (.dup, 1) := by decide +kernel
theorem dX7_takeBack_26 : decode cX7_takeBack 26 = .ok (.ldc 177, 2) := by decide +kernel
theorem dX7_takeBack_28 : decode cX7_takeBack 28 = .ok (.invokespecial 72, 3) := by decide +kernel
theorem dX7_takeBack_31 : decode cX7_takeBack 31 = .ok (.athrow, 1) := by decide +kernel
theorem dX7_takeBack_32 : decode cX7_takeBack 32 = .ok (.aload_n 0, 1) := by decide +kernel
theorem dX7_takeBack_33 : decode cX7_takeBack 33 = .ok (.getfield 30, 3) := by decide +kernel
theorem dX7_takeBack_36 : decode cX7_takeBack 36 = .ok (.iload_n 1, 1) := by decide +kernel
theorem dX7_takeBack_37 : decode cX7_takeBack 37 = .ok (.iload_n 2, 1) := by decide +kernel
theorem dX7_takeBack_38 : decode cX7_takeBack 38 = .ok (.bipush 45, 2) := by decide +kernel
theorem dX7_takeBack_40 : decode cX7_takeBack 40 = .ok (.invokevirtual 166, 3) := by decide +kernel
theorem dX7_takeBack_43 : decode cX7_takeBack 43 = .ok (.aload_n 0, 1) := by decide +kernel
theorem dX7_takeBack_44 : decode cX7_takeBack 44 = .ok (.invokevirtual 79, 3) := by decide +kernel
theorem dX7_takeBack_47 : decode cX7_takeBack 47 = .ok (.ireturn, 1) := by decide +kernel
theorem dX7_link_0 : decode cX7_link 0 = .ok (.aload_n 0, 1) := by decide +kernel
theorem dX7_link_1 : decode cX7_link 1 = .ok (.iload_n 1, 1) := by decide +kernel
theorem dX7_link_2 : decode cX7_link 2 = .ok (.iload_n 2, 1) := by decide +kernel
theorem dX7_link_3 : decode cX7_link 3 = .ok (.invokevirtual 149, 3) := by decide +kernel
theorem dX7_link_6 : decode cX7_link 6 = .ok (.aload_n 0, 1) := by decide +kernel
theorem dX7_link_7 : decode cX7_link 7 = .ok (.getfield 30, 3) := by decide +kernel
theorem dX7_link_10 : decode cX7_link 10 = .ok (.iload_n 1, 1) := by decide +kernel
theorem dX7_link_11 : decode cX7_link 11 = .ok (.iload_n 2, 1) := by decide +kernel
theorem dX7_link_12 : decode cX7_link 12 = .ok (.invokevirtual 179, 3) := by decide +kernel
theorem dX7_link_15 : decode cX7_link 15 = .ok (.ireturn, 1) := by decide +kernel
theorem dX7_openPairs_0 : decode cX7_openPairs 0 = .ok (.iconst 0, 1) := by decide +kernel
theorem dX7_openPairs_1 : decode cX7_openPairs 1 = .ok (.istore_n 1, 1) := by decide +kernel
theorem dX7_openPairs_2 : decode cX7_openPairs 2 = .ok (.iconst 0, 1) := by decide +kernel
theorem dX7_openPairs_3 : decode cX7_openPairs 3 = .ok (.istore_n 2, 1) := by decide +kernel
theorem dX7_openPairs_4 : decode cX7_openPairs 4 = .ok (.iload_n 2, 1) := by decide +kernel
theorem dX7_openPairs_5 : decode cX7_openPairs 5 = .ok (.aload_n 0, 1) := by decide +kernel
theorem dX7_openPairs_6 : decode cX7_openPairs 6 = .ok (.getfield 21, 3) := by decide +kernel
theorem dX7_openPairs_9 : decode cX7_openPairs 9 = .ok (.getfield 124, 3) := by decide +kernel
theorem dX7_openPairs_12 : decode cX7_openPairs 12 = .ok (.if_icmp .ge 83, 3) := by decide +kernel
theorem dX7_openPairs_15 : decode cX7_openPairs 15 = .ok (.iload_n 2, 1) := by decide +kernel
theorem dX7_openPairs_16 : decode cX7_openPairs 16 = .ok (.iconst 1, 1) := by decide +kernel
theorem dX7_openPairs_17 : decode cX7_openPairs 17 = .ok (.iadd, 1) := by decide +kernel
theorem dX7_openPairs_18 : decode cX7_openPairs 18 = .ok (.istore_n 3, 1) := by decide +kernel
theorem dX7_openPairs_19 : decode cX7_openPairs 19 = .ok (.iload_n 3, 1) := by decide +kernel
theorem dX7_openPairs_20 : decode cX7_openPairs 20 = .ok (.aload_n 0, 1) := by decide +kernel
theorem dX7_openPairs_21 : decode cX7_openPairs 21 = .ok (.getfield 21, 3) := by decide +kernel
theorem dX7_openPairs_24 : decode cX7_openPairs 24 = .ok (.getfield 124, 3) := by decide +kernel
theorem dX7_openPairs_27 : decode cX7_openPairs 27 = .ok (.if_icmp .ge 62, 3) := by decide +kernel
theorem dX7_openPairs_30 : decode cX7_openPairs 30 = .ok (.aload_n 0, 1) := by decide +kernel
theorem dX7_openPairs_31 : decode cX7_openPairs 31 = .ok (.getfield 21, 3) := by decide +kernel
theorem dX7_openPairs_34 : decode cX7_openPairs 34 = .ok (.getfield 157, 3) := by decide +kernel
theorem dX7_openPairs_37 : decode cX7_openPairs 37 = .ok (.iload_n 2, 1) := by decide +kernel
theorem dX7_openPairs_38 : decode cX7_openPairs 38 = .ok (.baload, 1) := by decide +kernel
theorem dX7_openPairs_39 : decode cX7_openPairs 39 = .ok (.ifCond .ne 15, 3) := by decide +kernel
theorem dX7_openPairs_42 : decode cX7_openPairs 42 = .ok (.aload_n 0, 1) := by decide +kernel
theorem dX7_openPairs_43 : decode cX7_openPairs 43 = .ok (.getfield 21, 3) := by decide +kernel
theorem dX7_openPairs_46 : decode cX7_openPairs 46 = .ok (.getfield 157, 3) := by decide +kernel
theorem dX7_openPairs_49 : decode cX7_openPairs 49 = .ok (.iload_n 3, 1) := by decide +kernel
theorem dX7_openPairs_50 : decode cX7_openPairs 50 = .ok (.baload, 1) := by decide +kernel
theorem dX7_openPairs_51 : decode cX7_openPairs 51 = .ok (.ifCond .eq 7, 3) := by decide +kernel
theorem dX7_openPairs_54 : decode cX7_openPairs 54 = .ok (.iconst 1, 1) := by decide +kernel
theorem dX7_openPairs_55 : decode cX7_openPairs 55 = .ok (.goto 4, 3) := by decide +kernel
theorem dX7_openPairs_58 : decode cX7_openPairs 58 = .ok (.iconst 0, 1) := by decide +kernel
theorem dX7_openPairs_59 : decode cX7_openPairs 59 = .ok (.istore 4, 2) := by decide +kernel
theorem dX7_openPairs_61 : decode cX7_openPairs 61 = .ok (.iload 4, 2) := by decide +kernel
theorem dX7_openPairs_63 : decode cX7_openPairs 63 = .ok (.ifCond .eq 20, 3) := by decide +kernel
theorem dX7_openPairs_66 : decode cX7_openPairs 66 = .ok (.aload_n 0, 1) := by decide +kernel
theorem dX7_openPairs_67 : decode cX7_openPairs 67 = .ok (.getfield 30, 3) := by decide +kernel
theorem dX7_openPairs_70 : decode cX7_openPairs 70 = .ok (.iload_n 2, 1) := by decide +kernel
theorem dX7_openPairs_71 : decode cX7_openPairs 71 = .ok (.iload_n 3, 1) := by decide +kernel
theorem dX7_openPairs_72 : decode cX7_openPairs 72 = .ok (.invokevirtual 179, 3) := by decide +kernel
theorem dX7_openPairs_75 : decode cX7_openPairs 75 = .ok (.bipush 63, 2) := by decide +kernel
theorem dX7_openPairs_77 : decode cX7_openPairs 77 = .ok (.if_icmp .ne 6, 3) := by decide +kernel
theorem dX7_openPairs_80 : decode cX7_openPairs 80 = .ok (.iinc 1 1, 3) := by decide +kernel
theorem dX7_openPairs_83 : decode cX7_openPairs 83 = .ok (.iinc 3 1, 3) := by decide +kernel
theorem dX7_openPairs_86 : decode cX7_openPairs 86 = .ok (.goto (-67), 3) := by decide +kernel
theorem dX7_openPairs_89 : decode cX7_openPairs 89 = .ok (.iinc 2 1, 3) := by decide +kernel
theorem dX7_openPairs_92 : decode cX7_openPairs 92 = .ok (.goto (-88), 3) := by decide +kernel
theorem dX7_openPairs_95 : decode cX7_openPairs 95 = .ok (.iload_n 1, 1) := by decide +kernel
theorem dX7_openPairs_96 : decode cX7_openPairs 96 = .ok (.ireturn, 1) := by decide +kernel
theorem dX7_isDouble_0 : decode cX7_isDouble 0 = .ok (.aload_n 0, 1) := by decide +kernel
theorem dX7_isDouble_1 : decode cX7_isDouble 1 = .ok (.iload_n 1, 1) := by decide +kernel
theorem dX7_isDouble_2 : decode cX7_isDouble 2 = .ok (.invokevirtual 170, 3) := by decide +kernel
theorem dX7_isDouble_5 : decode cX7_isDouble 5 = .ok (.aload_n 0, 1) := by decide +kernel
theorem dX7_isDouble_6 : decode cX7_isDouble 6 = .ok (.getfield 39, 3) := by decide +kernel
theorem dX7_isDouble_9 : decode cX7_isDouble 9 = .ok (.getfield 183, 3) := by decide +kernel
theorem dX7_isDouble_12 : decode cX7_isDouble 12 = .ok (.iload_n 1, 1) := by decide +kernel
theorem dX7_isDouble_13 : decode cX7_isDouble 13 = .ok (.baload, 1) := by decide +kernel
theorem dX7_isDouble_14 : decode cX7_isDouble 14 = .ok (.ireturn, 1) := by decide +kernel
theorem dX7_matchOf_0 : decode cX7_matchOf 0 = .ok (.aload_n 0, 1) := by decide +kernel
theorem dX7_matchOf_1 : decode cX7_matchOf 1 = .ok (.iload_n 1, 1) := by decide +kernel
theorem dX7_matchOf_2 : decode cX7_matchOf 2 = .ok (.invokevirtual 170, 3) := by decide +kernel
theorem dX7_matchOf_5 : decode cX7_matchOf 5 = .ok (.aload_n 0, 1) := by decide +kernel
theorem dX7_matchOf_6 : decode cX7_matchOf 6 = .ok (.getfield 51, 3) := by decide +kernel
theorem dX7_matchOf_9 : decode cX7_matchOf 9 = .ok (.getfield 186, 3) := by decide +kernel
theorem dX7_matchOf_12 : decode cX7_matchOf 12 = .ok (.iload_n 1, 1) := by decide +kernel
theorem dX7_matchOf_13 : decode cX7_matchOf 13 = .ok (.iaload, 1) := by decide +kernel
theorem dX7_matchOf_14 : decode cX7_matchOf 14 = .ok (.iconst (-1), 1) := by decide +kernel
theorem dX7_matchOf_15 : decode cX7_matchOf 15 = .ok (.if_icmp .ne 13, 3) := by decide +kernel
theorem dX7_matchOf_18 : decode cX7_matchOf 18 = .ok (.new 68, 3) := by decide +kernel
theorem dX7_matchOf_21 : decode cX7_matchOf 21 = .ok (.dup, 1) := by decide +kernel
theorem dX7_matchOf_22 : decode cX7_matchOf 22 = .ok (.ldc 189, 2) := by decide +kernel
theorem dX7_matchOf_24 : decode cX7_matchOf 24 = .ok (.invokespecial 72, 3) := by decide +kernel
theorem dX7_matchOf_27 : decode cX7_matchOf 27 = .ok (.athrow, 1) := by decide +kernel
theorem dX7_matchOf_28 : decode cX7_matchOf 28 = .ok (.aload_n 0, 1) := by decide +kernel
theorem dX7_matchOf_29 : decode cX7_matchOf 29 = .ok (.getfield 51, 3) := by decide +kernel
theorem dX7_matchOf_32 : decode cX7_matchOf 32 = .ok (.getfield 186, 3) := by decide +kernel
theorem dX7_matchOf_35 : decode cX7_matchOf 35 = .ok (.iload_n 1, 1) := by decide +kernel
theorem dX7_matchOf_36 : decode cX7_matchOf 36 = .ok (.iaload, 1) := by decide +kernel
theorem dX7_matchOf_37 : decode cX7_matchOf 37 = .ok (.ireturn, 1) := by decide +kernel
theorem dX7_matches_0 : decode cX7_matches 0 = .ok (.aload_n 0, 1) := by decide +kernel
theorem dX7_matches_1 : decode cX7_matches 1 = .ok (.getfield 51, 3) := by decide +kernel
theorem dX7_matches_4 : decode cX7_matches 4 = .ok (.getfield 191, 3) := by decide +kernel
theorem dX7_matches_7 : decode cX7_matches 7 = .ok (.ireturn, 1) := by decide +kernel
theorem dX7_count_0 : decode cX7_count 0 = .ok (.aload_n 0, 1) := by decide +kernel
theorem dX7_count_1 : decode cX7_count 1 = .ok (.iload_n 1, 1) := by decide +kernel
theorem dX7_count_2 : decode cX7_count 2 = .ok (.invokevirtual 82, 3) := by decide +kernel
theorem dX7_count_5 : decode cX7_count 5 = .ok (.aload_n 0, 1) := by decide +kernel
theorem dX7_count_6 : decode cX7_count 6 = .ok (.iload_n 2, 1) := by decide +kernel
theorem dX7_count_7 : decode cX7_count 7 = .ok (.invokevirtual 192, 3) := by decide +kernel
theorem dX7_count_10 : decode cX7_count 10 = .ok (.aload_n 0, 1) := by decide +kernel
theorem dX7_count_11 : decode cX7_count 11 = .ok (.getfield 39, 3) := by decide +kernel
theorem dX7_count_14 : decode cX7_count 14 = .ok (.getfield 195, 3) := by decide +kernel
theorem dX7_count_17 : decode cX7_count 17 = .ok (.iload_n 1, 1) := by decide +kernel
theorem dX7_count_18 : decode cX7_count 18 = .ok (.iconst 4, 1) := by decide +kernel
theorem dX7_count_19 : decode cX7_count 19 = .ok (.imul, 1) := by decide +kernel
theorem dX7_count_20 : decode cX7_count 20 = .ok (.iload_n 2, 1) := by decide +kernel
theorem dX7_count_21 : decode cX7_count 21 = .ok (.iadd, 1) := by decide +kernel
theorem dX7_count_22 : decode cX7_count 22 = .ok (.iaload, 1) := by decide +kernel
theorem dX7_count_23 : decode cX7_count 23 = .ok (.ireturn, 1) := by decide +kernel
theorem dX7_countAnew_0 : decode cX7_countAnew 0 = .ok (.aload_n 0, 1) := by decide +kernel
theorem dX7_countAnew_1 : decode cX7_countAnew 1 = .ok (.iload_n 1, 1) := by decide +kernel
theorem dX7_countAnew_2 : decode cX7_countAnew 2 = .ok (.invokevirtual 82, 3) := by decide +kernel
theorem dX7_countAnew_5 : decode cX7_countAnew 5 = .ok (.aload_n 0, 1) := by decide +kernel
theorem dX7_countAnew_6 : decode cX7_countAnew 6 = .ok (.iload_n 2, 1) := by decide +kernel
theorem dX7_countAnew_7 : decode cX7_countAnew 7 = .ok (.invokevirtual 192, 3) := by decide +kernel
theorem dX7_countAnew_10 : decode cX7_countAnew 10 = .ok (.aload_n 0, 1) := by decide +kernel
theorem dX7_countAnew_11 : decode cX7_countAnew 11 = .ok (.getfield 43, 3) := by decide +kernel
theorem dX7_countAnew_14 : decode cX7_countAnew 14 = .ok (.invokevirtual 198, 3) := by decide +kernel
theorem dX7_countAnew_17 : decode cX7_countAnew 17 = .ok (.aload_n 0, 1) := by decide +kernel
theorem dX7_countAnew_18 : decode cX7_countAnew 18 = .ok (.getfield 43, 3) := by decide +kernel
theorem dX7_countAnew_21 : decode cX7_countAnew 21 = .ok (.getfield 195, 3) := by decide +kernel
theorem dX7_countAnew_24 : decode cX7_countAnew 24 = .ok (.iload_n 1, 1) := by decide +kernel
theorem dX7_countAnew_25 : decode cX7_countAnew 25 = .ok (.iconst 4, 1) := by decide +kernel
theorem dX7_countAnew_26 : decode cX7_countAnew 26 = .ok (.imul, 1) := by decide +kernel
theorem dX7_countAnew_27 : decode cX7_countAnew 27 = .ok (.iload_n 2, 1) := by decide +kernel
theorem dX7_countAnew_28 : decode cX7_countAnew 28 = .ok (.iadd, 1) := by decide +kernel
theorem dX7_countAnew_29 : decode cX7_countAnew 29 = .ok (.iaload, 1) := by decide +kernel
theorem dX7_countAnew_30 : decode cX7_countAnew 30 = .ok (.ireturn, 1) := by decide +kernel
theorem dX7_estimate_0 : decode cX7_estimate 0 = .ok (.aload_n 0, 1) := by decide +kernel
theorem dX7_estimate_1 : decode cX7_estimate 1 = .ok (.getfield 51, 3) := by decide +kernel
theorem dX7_estimate_4 : decode cX7_estimate 4 = .ok (.getfield 191, 3) := by decide +kernel
theorem dX7_estimate_7 : decode cX7_estimate 7 = .ok (.ifCond .ne 13, 3) := by decide +kernel
theorem dX7_estimate_10 : decode cX7_estimate 10 = .ok (.new 201, 3) := by decide +kernel
theorem dX7_estimate_13 : decode cX7_estimate 13 = .ok (.dup, 1) := by decide +kernel
theorem dX7_estimate_14 : decode cX7_estimate 14 = .ok (.ldc 203, 2) := by decide +kernel
theorem dX7_estimate_16 : decode cX7_estimate 16 = .ok (.invokespecial 205, 3) := by decide +kernel
theorem dX7_estimate_19 : decode cX7_estimate 19 = .ok (.athrow, 1) := by decide +kernel
theorem dX7_estimate_20 : decode cX7_estimate 20 = .ok (.aload_n 0, 1) := by decide +kernel
theorem dX7_estimate_21 : decode cX7_estimate 21 = .ok (.getfield 21, 3) := by decide +kernel
theorem dX7_estimate_24 : decode cX7_estimate 24 = .ok (.getfield 124, 3) := by decide +kernel
theorem dX7_estimate_27 : decode cX7_estimate 27 = .ok (.aload_n 0, 1) := by decide +kernel
theorem dX7_estimate_28 : decode cX7_estimate 28 = .ok (.getfield 39, 3) := by decide +kernel
theorem dX7_estimate_31 : decode cX7_estimate 31 = .ok (.getfield 206, 3) := by decide +kernel
theorem dX7_estimate_34 : decode cX7_estimate 34 = .ok (.isub, 1) := by decide +kernel
theorem dX7_estimate_35 : decode cX7_estimate 35 = .ok (.aload_n 0, 1) := by decide +kernel
theorem dX7_estimate_36 : decode cX7_estimate 36 = .ok (.getfield 39, 3) := by decide +kernel
theorem dX7_estimate_39 : decode cX7_estimate 39 = .ok (.getfield 209, 3) := by decide +kernel
theorem dX7_estimate_42 : decode cX7_estimate 42 = .ok (.isub, 1) := by decide +kernel
theorem dX7_estimate_43 : decode cX7_estimate 43 = .ok (.istore_n 1, 1) := by decide +kernel
theorem dX7_estimate_44 : decode cX7_estimate 44 = .ok (.aload_n 0, 1) := by decide +kernel
theorem dX7_estimate_45 : decode cX7_estimate 45 = .ok (.getfield 39, 3) := by decide +kernel
theorem dX7_estimate_48 : decode cX7_estimate 48 = .ok (.getfield 206, 3) := by decide +kernel
theorem dX7_estimate_51 : decode cX7_estimate 51 = .ok (.i2l, 1) := by decide +kernel
theorem dX7_estimate_52 : decode cX7_estimate 52 = .ok (.iload_n 1, 1) := by decide +kernel
theorem dX7_estimate_53 : decode cX7_estimate 53 = .ok (.i2l, 1) := by decide +kernel
theorem dX7_estimate_54 : decode cX7_estimate 54 = .ok (.lmul, 1) := by decide +kernel
theorem dX7_estimate_55 : decode cX7_estimate 55 = .ok (.aload_n 0, 1) := by decide +kernel
theorem dX7_estimate_56 : decode cX7_estimate 56 = .ok (.getfield 51, 3) := by decide +kernel
theorem dX7_estimate_59 : decode cX7_estimate 59 = .ok (.getfield 191, 3) := by decide +kernel
theorem dX7_estimate_62 : decode cX7_estimate 62 = .ok (.i2l, 1) := by decide +kernel
theorem dX7_estimate_63 : decode cX7_estimate 63 = .ok (.ldiv, 1) := by decide +kernel
theorem dX7_estimate_64 : decode cX7_estimate 64 = .ok (.lreturn, 1) := by decide +kernel
theorem dX7_doubleShare_0 : decode cX7_doubleShare 0 = .ok (.aload_n 0, 1) := by decide +kernel
theorem dX7_doubleShare_1 : decode cX7_doubleShare 1 = .ok (.getfield 39, 3) := by decide +kernel
theorem dX7_doubleShare_4 : decode cX7_doubleShare 4 = .ok (.getfield 206, 3) := by decide +kernel
theorem dX7_doubleShare_7 : decode cX7_doubleShare 7 = .ok (.aload_n 0, 1) := by decide +kernel
theorem dX7_doubleShare_8 : decode cX7_doubleShare 8 = .ok (.getfield 39, 3) := by decide +kernel
theorem dX7_doubleShare_11 : decode cX7_doubleShare 11 = .ok (.getfield 209, 3) := by decide +kernel
theorem dX7_doubleShare_14 : decode cX7_doubleShare 14 = .ok (.iadd, 1) := by decide +kernel
theorem dX7_doubleShare_15 : decode cX7_doubleShare 15 = .ok (.istore_n 1, 1) := by decide +kernel
theorem dX7_doubleShare_16 : decode cX7_doubleShare 16 = .ok (.iload_n 1, 1) := by decide +kernel
theorem dX7_doubleShare_17 : decode cX7_doubleShare 17 = .ok (.ifCond .ne 13, 3) := by decide +kernel
theorem dX7_doubleShare_20 : decode cX7_doubleShare 20 = .ok (.new 201, 3) := by decide +kernel
theorem dX7_doubleShare_23 : decode cX7_doubleShare 23 = .ok (.dup, 1) := by decide +kernel
theorem dX7_doubleShare_24 : decode cX7_doubleShare 24 = .ok (.ldc 212, 2) := by decide +kernel
theorem dX7_doubleShare_26 : decode cX7_doubleShare 26 = .ok (.invokespecial 205, 3) := by decide +kernel
theorem dX7_doubleShare_29 : decode cX7_doubleShare 29 = .ok (.athrow, 1) := by decide +kernel
theorem dX7_doubleShare_30 : decode cX7_doubleShare 30 = .ok (.aload_n 0, 1) := by decide +kernel
theorem dX7_doubleShare_31 : decode cX7_doubleShare 31 = .ok (.getfield 39, 3) := by decide +kernel
theorem dX7_doubleShare_34 : decode cX7_doubleShare 34 = .ok (.getfield 209, 3) := by decide +kernel
theorem dX7_doubleShare_37 : decode cX7_doubleShare 37 = .ok (.i2f, 1) := by decide +kernel
theorem dX7_doubleShare_38 : decode cX7_doubleShare 38 = .ok (.iload_n 1, 1) := by decide +kernel
theorem dX7_doubleShare_39 : decode cX7_doubleShare 39 = .ok (.i2f, 1) := by decide +kernel
theorem dX7_doubleShare_40 : decode cX7_doubleShare 40 = .ok (.fdiv, 1) := by decide +kernel
theorem dX7_doubleShare_41 : decode cX7_doubleShare 41 = .ok (.freturn, 1) := by decide +kernel
theorem dX7_meanScore_0 : decode cX7_meanScore 0 = .ok (.aload_n 0, 1) := by decide +kernel
theorem dX7_meanScore_1 : decode cX7_meanScore 1 = .ok (.getfield 51, 3) := by decide +kernel
theorem dX7_meanScore_4 : decode cX7_meanScore 4 = .ok (.getfield 191, 3) := by decide +kernel
theorem dX7_meanScore_7 : decode cX7_meanScore 7 = .ok (.ifCond .ne 13, 3) := by decide +kernel
theorem dX7_meanScore_10 : decode cX7_meanScore 10 = .ok (.new 201, 3) := by decide +kernel
theorem dX7_meanScore_13 : decode cX7_meanScore 13 = .ok (.dup, 1) := by decide +kernel
theorem dX7_meanScore_14 : decode cX7_meanScore 14 = .ok (.ldc 203, 2) := by decide +kernel
theorem dX7_meanScore_16 : decode cX7_meanScore 16 = .ok (.invokespecial 205, 3) := by decide +kernel
theorem dX7_meanScore_19 : decode cX7_meanScore 19 = .ok (.athrow, 1) := by decide +kernel
theorem dX7_meanScore_20 : decode cX7_meanScore 20 = .ok (.aload_n 0, 1) := by decide +kernel
theorem dX7_meanScore_21 : decode cX7_meanScore 21 = .ok (.getfield 51, 3) := by decide +kernel
theorem dX7_meanScore_24 : decode cX7_meanScore 24 = .ok (.getfield 214, 3) := by decide +kernel
theorem dX7_meanScore_27 : decode cX7_meanScore 27 = .ok (.i2d, 1) := by decide +kernel
theorem dX7_meanScore_28 : decode cX7_meanScore 28 = .ok (.aload_n 0, 1) := by decide +kernel
theorem dX7_meanScore_29 : decode cX7_meanScore 29 = .ok (.getfield 51, 3) := by decide +kernel
theorem dX7_meanScore_32 : decode cX7_meanScore 32 = .ok (.getfield 191, 3) := by decide +kernel
theorem dX7_meanScore_35 : decode cX7_meanScore 35 = .ok (.i2d, 1) := by decide +kernel
theorem dX7_meanScore_36 : decode cX7_meanScore 36 = .ok (.ddiv, 1) := by decide +kernel
theorem dX7_meanScore_37 : decode cX7_meanScore 37 = .ok (.dreturn, 1) := by decide +kernel
theorem dX7_tell_0 : decode cX7_tell 0 = .ok (.aload_n 0, 1) := by decide +kernel
theorem dX7_tell_1 : decode cX7_tell 1 = .ok (.getfield 12, 3) := by decide +kernel
theorem dX7_tell_4 : decode cX7_tell 4 = .ok (.getfield 65, 3) := by decide +kernel
theorem dX7_tell_7 : decode cX7_tell 7 = .ok (.iconst 2, 1) := by decide +kernel
theorem dX7_tell_8 : decode cX7_tell 8 = .ok (.if_icmp .ge 13, 3) := by decide +kernel
theorem dX7_tell_11 : decode cX7_tell 11 = .ok (.new 68, 3) := by decide +kernel
theorem dX7_tell_14 : decode cX7_tell 14 = .ok (.dup, 1) := by decide +kernel
theorem dX7_tell_15 : decode cX7_tell 15 = .ok (.ldc 217, 2) := by decide +kernel
theorem dX7_tell_17 : decode cX7_tell 17 = .ok (.invokespecial 72, 3) := by decide +kernel
theorem dX7_tell_20 : decode cX7_tell 20 = .ok (.athrow, 1) := by decide +kernel
theorem dX7_tell_21 : decode cX7_tell 21 = .ok (.aload_n 0, 1) := by decide +kernel
theorem dX7_tell_22 : decode cX7_tell 22 = .ok (.getfield 61, 3) := by decide +kernel
theorem dX7_tell_25 : decode cX7_tell 25 = .ok (.bipush 8, 2) := by decide +kernel
theorem dX7_tell_27 : decode cX7_tell 27 = .ok (.if_icmp .lt 13, 3) := by decide +kernel
theorem dX7_tell_30 : decode cX7_tell 30 = .ok (.new 68, 3) := by decide +kernel
theorem dX7_tell_33 : decode cX7_tell 33 = .ok (.dup, 1) := by decide +kernel
theorem dX7_tell_34 : decode cX7_tell 34 = .ok (.ldc 219, 2) := by decide +kernel
theorem dX7_tell_36 : decode cX7_tell 36 = .ok (.invokespecial 72, 3) := by decide +kernel
theorem dX7_tell_39 : decode cX7_tell 39 = .ok (.athrow, 1) := by decide +kernel
theorem dX7_tell_40 : decode cX7_tell 40 = .ok (.aload_n 0, 1) := by decide +kernel
theorem dX7_tell_41 : decode cX7_tell 41 = .ok (.getfield 39, 3) := by decide +kernel
theorem dX7_tell_44 : decode cX7_tell 44 = .ok (.getfield 195, 3) := by decide +kernel
theorem dX7_tell_47 : decode cX7_tell 47 = .ok (.invokestatic 221, 3) := by decide +kernel
theorem dX7_tell_50 : decode cX7_tell 50 = .ok (.istore_n 1, 1) := by decide +kernel
theorem dX7_tell_51 : decode cX7_tell 51 = .ok (.iload_n 1, 1) := by decide +kernel
theorem dX7_tell_52 : decode cX7_tell 52 = .ok (.iconst (-1), 1) := by decide +kernel
theorem dX7_tell_53 : decode cX7_tell 53 = .ok (.if_icmp .ne 13, 3) := by decide +kernel
theorem dX7_tell_56 : decode cX7_tell 56 = .ok (.new 161, 3) := by decide +kernel
theorem dX7_tell_59 : decode cX7_tell 59 = .ok (.dup, 1) := by decide +kernel
theorem dX7_tell_60 : decode cX7_tell 60 = .ok (.ldc 227, 2) := by decide +kernel
theorem dX7_tell_62 : decode cX7_tell 62 = .ok (.invokespecial 165, 3) := by decide +kernel
theorem dX7_tell_65 : decode cX7_tell 65 = .ok (.athrow, 1) := by decide +kernel
theorem dX7_tell_66 : decode cX7_tell 66 = .ok (.aload_n 0, 1) := by decide +kernel
theorem dX7_tell_67 : decode cX7_tell 67 = .ok (.getfield 57, 3) := by decide +kernel
theorem dX7_tell_70 : decode cX7_tell 70 = .ok (.aload_n 0, 1) := by decide +kernel
theorem dX7_tell_71 : decode cX7_tell 71 = .ok (.getfield 61, 3) := by decide +kernel
theorem dX7_tell_74 : decode cX7_tell 74 = .ok (.new 55, 3) := by decide +kernel
theorem dX7_tell_77 : decode cX7_tell 77 = .ok (.dup, 1) := by decide +kernel
theorem dX7_tell_78 : decode cX7_tell 78 = .ok (.aload_n 0, 1) := by decide +kernel
theorem dX7_tell_79 : decode cX7_tell 79 = .ok (.getfield 12, 3) := by decide +kernel
theorem dX7_tell_82 : decode cX7_tell 82 = .ok (.getfield 65, 3) := by decide +kernel
theorem dX7_tell_85 : decode cX7_tell 85 = .ok (.aload_n 0, 1) := by decide +kernel
theorem dX7_tell_86 : decode cX7_tell 86 = .ok (.getfield 39, 3) := by decide +kernel
theorem dX7_tell_89 : decode cX7_tell 89 = .ok (.getfield 195, 3) := by decide +kernel
theorem dX7_tell_92 : decode cX7_tell 92 = .ok (.iload_n 1, 1) := by decide +kernel
theorem dX7_tell_93 : decode cX7_tell 93 = .ok (.invokespecial 229, 3) := by decide +kernel
theorem dX7_tell_96 : decode cX7_tell 96 = .ok (.aastore, 1) := by decide +kernel
theorem dX7_tell_97 : decode cX7_tell 97 = .ok (.aload_n 0, 1) := by decide +kernel
theorem dX7_tell_98 : decode cX7_tell 98 = .ok (.dup, 1) := by decide +kernel
theorem dX7_tell_99 : decode cX7_tell 99 = .ok (.getfield 61, 3) := by decide +kernel
theorem dX7_tell_102 : decode cX7_tell 102 = .ok (.iconst 1, 1) := by decide +kernel
theorem dX7_tell_103 : decode cX7_tell 103 = .ok (.iadd, 1) := by decide +kernel
theorem dX7_tell_104 : decode cX7_tell 104 = .ok (.putfield 61, 3) := by decide +kernel
theorem dX7_tell_107 : decode cX7_tell 107 = .ok (.aload_n 0, 1) := by decide +kernel
theorem dX7_tell_108 : decode cX7_tell 108 = .ok (.getfield 61, 3) := by decide +kernel
theorem dX7_tell_111 : decode cX7_tell 111 = .ok (.iconst 1, 1) := by decide +kernel
theorem dX7_tell_112 : decode cX7_tell 112 = .ok (.isub, 1) := by decide +kernel
theorem dX7_tell_113 : decode cX7_tell 113 = .ok (.ireturn, 1) := by decide +kernel
theorem dX7_stateOf_0 : decode cX7_stateOf 0 = .ok (.aload_n 0, 1) := by decide +kernel
theorem dX7_stateOf_1 : decode cX7_stateOf 1 = .ok (.iload_n 1, 1) := by decide +kernel
theorem dX7_stateOf_2 : decode cX7_stateOf 2 = .ok (.invokevirtual 232, 3) := by decide +kernel
theorem dX7_stateOf_5 : decode cX7_stateOf 5 = .ok (.getfield 236, 3) := by decide +kernel
theorem dX7_stateOf_8 : decode cX7_stateOf 8 = .ok (.ifCond .eq 8, 3) := by decide +kernel
theorem dX7_stateOf_11 : decode cX7_stateOf 11 = .ok (.bipush 117, 2) := by decide +kernel
theorem dX7_stateOf_13 : decode cX7_stateOf 13 = .ok (.goto 5, 3) := by decide +kernel
theorem dX7_stateOf_16 : decode cX7_stateOf 16 = .ok (.bipush 116, 2) := by decide +kernel
theorem dX7_stateOf_18 : decode cX7_stateOf 18 = .ok (.ireturn, 1) := by decide +kernel
theorem dX7_isHidden_0 : decode cX7_isHidden 0 = .ok (.aload_n 0, 1) := by decide +kernel
theorem dX7_isHidden_1 : decode cX7_isHidden 1 = .ok (.iload_n 1, 1) := by decide +kernel
theorem dX7_isHidden_2 : decode cX7_isHidden 2 = .ok (.invokevirtual 232, 3) := by decide +kernel
theorem dX7_isHidden_5 : decode cX7_isHidden 5 = .ok (.astore 4, 2) := by decide +kernel
theorem dX7_isHidden_7 : decode cX7_isHidden 7 = .ok (.aload_n 0, 1) := by decide +kernel
theorem dX7_isHidden_8 : decode cX7_isHidden 8 = .ok (.aload 4, 2) := by decide +kernel
theorem dX7_isHidden_10 : decode cX7_isHidden 10 = .ok (.iload_n 2, 1) := by decide +kernel
theorem dX7_isHidden_11 : decode cX7_isHidden 11 = .ok (.iload_n 3, 1) := by decide +kernel
theorem dX7_isHidden_12 : decode cX7_isHidden 12 = .ok (.invokevirtual 240, 3) := by decide +kernel
theorem dX7_isHidden_15 : decode cX7_isHidden 15 = .ok (.aload 4, 2) := by decide +kernel
theorem dX7_isHidden_17 : decode cX7_isHidden 17 = .ok (.getfield 244, 3) := by decide +kernel
theorem dX7_isHidden_20 : decode cX7_isHidden 20 = .ok (.iload_n 2, 1) := by decide +kernel
theorem dX7_isHidden_21 : decode cX7_isHidden 21 = .ok (.iconst 4, 1) := by decide +kernel
theorem dX7_isHidden_22 : decode cX7_isHidden 22 = .ok (.imul, 1) := by decide +kernel
theorem dX7_isHidden_23 : decode cX7_isHidden 23 = .ok (.iload_n 3, 1) := by decide +kernel
theorem dX7_isHidden_24 : decode cX7_isHidden 24 = .ok (.iadd, 1) := by decide +kernel
theorem dX7_isHidden_25 : decode cX7_isHidden 25 = .ok (.invokestatic 247, 3) := by decide +kernel
theorem dX7_isHidden_28 : decode cX7_isHidden 28 = .ok (.ireturn, 1) := by decide +kernel
theorem dX7_cell_0 : decode cX7_cell 0 = .ok (.aload_n 0, 1) := by decide +kernel
theorem dX7_cell_1 : decode cX7_cell 1 = .ok (.iload_n 1, 1) := by decide +kernel
theorem dX7_cell_2 : decode cX7_cell 2 = .ok (.invokevirtual 232, 3) := by decide +kernel
theorem dX7_cell_5 : decode cX7_cell 5 = .ok (.astore 4, 2) := by decide +kernel
theorem dX7_cell_7 : decode cX7_cell 7 = .ok (.aload_n 0, 1) := by decide +kernel
theorem dX7_cell_8 : decode cX7_cell 8 = .ok (.aload 4, 2) := by decide +kernel
theorem dX7_cell_10 : decode cX7_cell 10 = .ok (.iload_n 2, 1) := by decide +kernel
theorem dX7_cell_11 : decode cX7_cell 11 = .ok (.iload_n 3, 1) := by decide +kernel
theorem dX7_cell_12 : decode cX7_cell 12 = .ok (.invokevirtual 240, 3) := by decide +kernel
theorem dX7_cell_15 : decode cX7_cell 15 = .ok (.aload 4, 2) := by decide +kernel
theorem dX7_cell_17 : decode cX7_cell 17 = .ok (.getfield 244, 3) := by decide +kernel
theorem dX7_cell_20 : decode cX7_cell 20 = .ok (.iload_n 2, 1) := by decide +kernel
theorem dX7_cell_21 : decode cX7_cell 21 = .ok (.iconst 4, 1) := by decide +kernel
theorem dX7_cell_22 : decode cX7_cell 22 = .ok (.imul, 1) := by decide +kernel
theorem dX7_cell_23 : decode cX7_cell 23 = .ok (.iload_n 3, 1) := by decide +kernel
theorem dX7_cell_24 : decode cX7_cell 24 = .ok (.iadd, 1) := by decide +kernel
theorem dX7_cell_25 : decode cX7_cell 25 = .ok (.invokestatic 247, 3) := by decide +kernel
theorem dX7_cell_28 : decode cX7_cell 28 = .ok (.ifCond .eq 13, 3) := by decide +kernel
theorem dX7_cell_31 : decode cX7_cell 31 = .ok (.new 161, 3) := by decide +kernel
theorem dX7_cell_34 : decode cX7_cell 34 = .ok (.dup, 1) := by decide +kernel
theorem dX7_cell_35 : decode cX7_cell 35 = .ok (.ldc 250, 2) := by decide +kernel
theorem dX7_cell_37 : decode cX7_cell 37 = .ok (.invokespecial 165, 3) := by decide +kernel
theorem dX7_cell_40 : decode cX7_cell 40 = .ok (.athrow, 1) := by decide +kernel
theorem dX7_cell_41 : decode cX7_cell 41 = .ok (.aload 4, 2) := by decide +kernel
theorem dX7_cell_43 : decode cX7_cell 43 = .ok (.getfield 252, 3) := by decide +kernel
theorem dX7_cell_46 : decode cX7_cell 46 = .ok (.iload_n 2, 1) := by decide +kernel
theorem dX7_cell_47 : decode cX7_cell 47 = .ok (.iconst 4, 1) := by decide +kernel
theorem dX7_cell_48 : decode cX7_cell 48 = .ok (.imul, 1) := by decide +kernel
theorem dX7_cell_49 : decode cX7_cell 49 = .ok (.iload_n 3, 1) := by decide +kernel
theorem dX7_cell_50 : decode cX7_cell 50 = .ok (.iadd, 1) := by decide +kernel
theorem dX7_cell_51 : decode cX7_cell 51 = .ok (.iaload, 1) := by decide +kernel
theorem dX7_cell_52 : decode cX7_cell 52 = .ok (.ireturn, 1) := by decide +kernel
theorem dX7_blockSum_0 : decode cX7_blockSum 0 = .ok (.aload_n 0, 1) := by decide +kernel
theorem dX7_blockSum_1 : decode cX7_blockSum 1 = .ok (.iload_n 1, 1) := by decide +kernel
theorem dX7_blockSum_2 : decode cX7_blockSum 2 = .ok (.invokevirtual 232, 3) := by decide +kernel
theorem dX7_blockSum_5 : decode cX7_blockSum 5 = .ok (.astore_n 3, 1) := by decide +kernel
theorem dX7_blockSum_6 : decode cX7_blockSum 6 = .ok (.aload_n 0, 1) := by decide +kernel
theorem dX7_blockSum_7 : decode cX7_blockSum 7 = .ok (.aload_n 3, 1) := by decide +kernel
theorem dX7_blockSum_8 : decode cX7_blockSum 8 = .ok (.iload_n 2, 1) := by decide +kernel
theorem dX7_blockSum_9 : decode cX7_blockSum 9 = .ok (.invokevirtual 253, 3) := by decide +kernel
theorem dX7_blockSum_12 : decode cX7_blockSum 12 = .ok (.aload_n 3, 1) := by decide +kernel
theorem dX7_blockSum_13 : decode cX7_blockSum 13 = .ok (.iload_n 2, 1) := by decide +kernel
theorem dX7_blockSum_14 : decode cX7_blockSum 14 = .ok (.invokevirtual 257, 3) := by decide +kernel
theorem dX7_blockSum_17 : decode cX7_blockSum 17 = .ok (.ireturn, 1) := by decide +kernel
theorem dX7_groupSum_0 : decode cX7_groupSum 0 = .ok (.aload_n 0, 1) := by decide +kernel
theorem dX7_groupSum_1 : decode cX7_groupSum 1 = .ok (.iload_n 1, 1) := by decide +kernel
theorem dX7_groupSum_2 : decode cX7_groupSum 2 = .ok (.invokevirtual 232, 3) := by decide +kernel
theorem dX7_groupSum_5 : decode cX7_groupSum 5 = .ok (.astore_n 3, 1) := by decide +kernel
theorem dX7_groupSum_6 : decode cX7_groupSum 6 = .ok (.aload_n 0, 1) := by decide +kernel
theorem dX7_groupSum_7 : decode cX7_groupSum 7 = .ok (.iload_n 2, 1) := by decide +kernel
theorem dX7_groupSum_8 : decode cX7_groupSum 8 = .ok (.invokevirtual 192, 3) := by decide +kernel
theorem dX7_groupSum_11 : decode cX7_groupSum 11 = .ok (.aload_n 3, 1) := by decide +kernel
theorem dX7_groupSum_12 : decode cX7_groupSum 12 = .ok (.iload_n 2, 1) := by decide +kernel
theorem dX7_groupSum_13 : decode cX7_groupSum 13 = .ok (.invokevirtual 260, 3) := by decide +kernel
theorem dX7_groupSum_16 : decode cX7_groupSum 16 = .ok (.ireturn, 1) := by decide +kernel
theorem dX7_holes_0 : decode cX7_holes 0 = .ok (.aload_n 0, 1) := by decide +kernel
theorem dX7_holes_1 : decode cX7_holes 1 = .ok (.iload_n 1, 1) := by decide +kernel
theorem dX7_holes_2 : decode cX7_holes 2 = .ok (.invokevirtual 232, 3) := by decide +kernel
theorem dX7_holes_5 : decode cX7_holes 5 = .ok (.getfield 244, 3) := by decide +kernel
theorem dX7_holes_8 : decode cX7_holes 8 = .ok (.invokestatic 263, 3) := by decide +kernel
theorem dX7_holes_11 : decode cX7_holes 11 = .ok (.ireturn, 1) := by decide +kernel
theorem dX7_isAtRisk_0 : decode cX7_isAtRisk 0 = .ok (.aload_n 0, 1) := by decide +kernel
theorem dX7_isAtRisk_1 : decode cX7_isAtRisk 1 = .ok (.iload_n 1, 1) := by decide +kernel
theorem dX7_isAtRisk_2 : decode cX7_isAtRisk 2 = .ok (.invokevirtual 232, 3) := by decide +kernel
theorem dX7_isAtRisk_5 : decode cX7_isAtRisk 5 = .ok (.astore 4, 2) := by decide +kernel
theorem dX7_isAtRisk_7 : decode cX7_isAtRisk 7 = .ok (.aload_n 0, 1) := by decide +kernel
theorem dX7_isAtRisk_8 : decode cX7_isAtRisk 8 = .ok (.aload 4, 2) := by decide +kernel
theorem dX7_isAtRisk_10 : decode cX7_isAtRisk 10 = .ok (.iload_n 2, 1) := by decide +kernel
theorem dX7_isAtRisk_11 : decode cX7_isAtRisk 11 = .ok (.iload_n 3, 1) := by decide +kernel
theorem dX7_isAtRisk_12 : decode cX7_isAtRisk 12 = .ok (.invokevirtual 240, 3) := by decide +kernel
theorem dX7_isAtRisk_15 : decode cX7_isAtRisk 15 = .ok (.aload 4, 2) := by decide +kernel
theorem dX7_isAtRisk_17 : decode cX7_isAtRisk 17 = .ok (.getfield 252, 3) := by decide +kernel
theorem dX7_isAtRisk_20 : decode cX7_isAtRisk 20 = .ok (.invokestatic 268, 3) := by decide +kernel
theorem dX7_isAtRisk_23 : decode cX7_isAtRisk 23 = .ok (.istore 5, 2) := by decide +kernel
theorem dX7_isAtRisk_25 : decode cX7_isAtRisk 25 = .ok (.iload 5, 2) := by decide +kernel
theorem dX7_isAtRisk_27 : decode cX7_isAtRisk 27 = .ok (.iload_n 2, 1) := by decide +kernel
theorem dX7_isAtRisk_28 : decode cX7_isAtRisk 28 = .ok (.iconst 4, 1) := by decide +kernel
theorem dX7_isAtRisk_29 : decode cX7_isAtRisk 29 = .ok (.imul, 1) := by decide +kernel
theorem dX7_isAtRisk_30 : decode cX7_isAtRisk 30 = .ok (.iload_n 3, 1) := by decide +kernel
theorem dX7_isAtRisk_31 : decode cX7_isAtRisk 31 = .ok (.iadd, 1) := by decide +kernel
theorem dX7_isAtRisk_32 : decode cX7_isAtRisk 32 = .ok (.invokestatic 247, 3) := by decide +kernel
theorem dX7_isAtRisk_35 : decode cX7_isAtRisk 35 = .ok (.ifCond .ne 14, 3) := by decide +kernel
theorem dX7_isAtRisk_38 : decode cX7_isAtRisk 38 = .ok (.new 161, 3) := by decide +kernel
theorem dX7_isAtRisk_41 : decode cX7_isAtRisk 41 = .ok (.dup, 1) := by decide +kernel
theorem dX7_isAtRisk_42 : decode cX7_isAtRisk 42 = .ok (.ldc_w 271, 3) := by decide +kernel
theorem dX7_isAtRisk_45 : decode cX7_isAtRisk 45 = .ok (.invokespecial 165, 3) := by decide +kernel
theorem dX7_isAtRisk_48 : decode cX7_isAtRisk 48 = .ok (.athrow, 1) := by decide +kernel
theorem dX7_isAtRisk_49 : decode cX7_isAtRisk 49 = .ok (.iload 5, 2) := by decide +kernel
theorem dX7_isAtRisk_51 : decode cX7_isAtRisk 51 = .ok (.iload_n 2, 1) := by decide +kernel
theorem dX7_isAtRisk_52 : decode cX7_isAtRisk 52 = .ok (.iconst 4, 1) := by decide +kernel
theorem dX7_isAtRisk_53 : decode cX7_isAtRisk 53 = .ok (.imul, 1) := by decide +kernel
theorem dX7_isAtRisk_54 : decode cX7_isAtRisk 54 = .ok (.iload_n 3, 1) := by decide +kernel
theorem dX7_isAtRisk_55 : decode cX7_isAtRisk 55 = .ok (.iadd, 1) := by decide +kernel
theorem dX7_isAtRisk_56 : decode cX7_isAtRisk 56 = .ok (.invokestatic 273, 3) := by decide +kernel
theorem dX7_isAtRisk_59 : decode cX7_isAtRisk 59 = .ok (.ireturn, 1) := by decide +kernel
theorem dX7_found_0 : decode cX7_found 0 = .ok (.aload_n 0, 1) := by decide +kernel
theorem dX7_found_1 : decode cX7_found 1 = .ok (.iload_n 1, 1) := by decide +kernel
theorem dX7_found_2 : decode cX7_found 2 = .ok (.invokevirtual 232, 3) := by decide +kernel
theorem dX7_found_5 : decode cX7_found 5 = .ok (.getfield 244, 3) := by decide +kernel
theorem dX7_found_8 : decode cX7_found 8 = .ok (.invokestatic 276, 3) := by decide +kernel
theorem dX7_found_11 : decode cX7_found 11 = .ok (.ireturn, 1) := by decide +kernel
theorem dX7_foundByWays_0 : decode cX7_foundByWays 0 = .ok (.aload_n 0, 1) := by decide +kernel
theorem dX7_foundByWays_1 : decode cX7_foundByWays 1 = .ok (.iload_n 1, 1) := by decide +kernel
theorem dX7_foundByWays_2 : decode cX7_foundByWays 2 = .ok (.invokevirtual 232, 3) := by decide +kernel
theorem dX7_foundByWays_5 : decode cX7_foundByWays 5 = .ok (.getfield 244, 3) := by decide +kernel
theorem dX7_foundByWays_8 : decode cX7_foundByWays 8 = .ok (.invokestatic 279, 3) := by decide +kernel
theorem dX7_foundByWays_11 : decode cX7_foundByWays 11 = .ok (.ireturn, 1) := by decide +kernel
theorem dX7_lineLength_0 : decode cX7_lineLength 0 = .ok (.aload_n 0, 1) := by decide +kernel
theorem dX7_lineLength_1 : decode cX7_lineLength 1 = .ok (.iload_n 1, 1) := by decide +kernel
theorem dX7_lineLength_2 : decode cX7_lineLength 2 = .ok (.invokevirtual 232, 3) := by decide +kernel
theorem dX7_lineLength_5 : decode cX7_lineLength 5 = .ok (.getfield 282, 3) := by decide +kernel
theorem dX7_lineLength_8 : decode cX7_lineLength 8 = .ok (.invokevirtual 286, 3) := by decide +kernel
theorem dX7_lineLength_11 : decode cX7_lineLength 11 = .ok (.ireturn, 1) := by decide +kernel
theorem dX7_lineAt_0 : decode cX7_lineAt 0 = .ok (.aload_n 0, 1) := by decide +kernel
theorem dX7_lineAt_1 : decode cX7_lineAt 1 = .ok (.iload_n 1, 1) := by decide +kernel
theorem dX7_lineAt_2 : decode cX7_lineAt 2 = .ok (.invokevirtual 232, 3) := by decide +kernel
theorem dX7_lineAt_5 : decode cX7_lineAt 5 = .ok (.getfield 282, 3) := by decide +kernel
theorem dX7_lineAt_8 : decode cX7_lineAt 8 = .ok (.astore_n 3, 1) := by decide +kernel
theorem dX7_lineAt_9 : decode cX7_lineAt 9 = .ok (.iload_n 2, 1) := by decide +kernel
theorem dX7_lineAt_10 : decode cX7_lineAt 10 = .ok (.ifCond .lt 11, 3) := by decide +kernel
theorem dX7_lineAt_13 : decode cX7_lineAt 13 = .ok (.iload_n 2, 1) := by decide +kernel
theorem dX7_lineAt_14 : decode cX7_lineAt 14 = .ok (.aload_n 3, 1) := by decide +kernel
theorem dX7_lineAt_15 : decode cX7_lineAt 15 = .ok (.invokevirtual 286, 3) := by decide +kernel
theorem dX7_lineAt_18 : decode cX7_lineAt 18 = .ok (.if_icmp .lt 14, 3) := by decide +kernel
theorem dX7_lineAt_21 : decode cX7_lineAt 21 = .ok (.new 291, 3) := by decide +kernel
theorem dX7_lineAt_24 : decode cX7_lineAt 24 = .ok (.dup, 1) := by decide +kernel
theorem dX7_lineAt_25 : decode cX7_lineAt 25 = .ok (.ldc_w 293, 3) := by decide +kernel
theorem dX7_lineAt_28 : decode cX7_lineAt 28 = .ok (.invokespecial 295, 3) := by decide +kernel
theorem dX7_lineAt_31 : decode cX7_lineAt 31 = .ok (.athrow, 1) := by decide +kernel
theorem dX7_lineAt_32 : decode cX7_lineAt 32 = .ok (.aload_n 3, 1) := by decide +kernel
theorem dX7_lineAt_33 : decode cX7_lineAt 33 = .ok (.iload_n 2, 1) := by decide +kernel
theorem dX7_lineAt_34 : decode cX7_lineAt 34 = .ok (.invokevirtual 296, 3) := by decide +kernel
theorem dX7_lineAt_37 : decode cX7_lineAt 37 = .ok (.ireturn, 1) := by decide +kernel
theorem dX7_isSafe_0 : decode cX7_isSafe 0 = .ok (.aload_n 0, 1) := by decide +kernel
theorem dX7_isSafe_1 : decode cX7_isSafe 1 = .ok (.getfield 43, 3) := by decide +kernel
theorem dX7_isSafe_4 : decode cX7_isSafe 4 = .ok (.invokevirtual 198, 3) := by decide +kernel
theorem dX7_isSafe_7 : decode cX7_isSafe 7 = .ok (.aload_n 0, 1) := by decide +kernel
theorem dX7_isSafe_8 : decode cX7_isSafe 8 = .ok (.getfield 43, 3) := by decide +kernel
theorem dX7_isSafe_11 : decode cX7_isSafe 11 = .ok (.aload_n 0, 1) := by decide +kernel
theorem dX7_isSafe_12 : decode cX7_isSafe 12 = .ok (.getfield 39, 3) := by decide +kernel
theorem dX7_isSafe_15 : decode cX7_isSafe 15 = .ok (.getfield 195, 3) := by decide +kernel
theorem dX7_isSafe_18 : decode cX7_isSafe 18 = .ok (.invokevirtual 300, 3) := by decide +kernel
theorem dX7_isSafe_21 : decode cX7_isSafe 21 = .ok (.ifCond .ne 5, 3) := by decide +kernel
theorem dX7_isSafe_24 : decode cX7_isSafe 24 = .ok (.iconst 0, 1) := by decide +kernel
theorem dX7_isSafe_25 : decode cX7_isSafe 25 = .ok (.ireturn, 1) := by decide +kernel
theorem dX7_isSafe_26 : decode cX7_isSafe 26 = .ok (.iconst 0, 1) := by decide +kernel
theorem dX7_isSafe_27 : decode cX7_isSafe 27 = .ok (.istore_n 1, 1) := by decide +kernel
theorem dX7_isSafe_28 : decode cX7_isSafe 28 = .ok (.iload_n 1, 1) := by decide +kernel
theorem dX7_isSafe_29 : decode cX7_isSafe 29 = .ok (.aload_n 0, 1) := by decide +kernel
theorem dX7_isSafe_30 : decode cX7_isSafe 30 = .ok (.getfield 61, 3) := by decide +kernel
theorem dX7_isSafe_33 : decode cX7_isSafe 33 = .ok (.if_icmp .ge 24, 3) := by decide +kernel
theorem dX7_isSafe_36 : decode cX7_isSafe 36 = .ok (.aload_n 0, 1) := by decide +kernel
theorem dX7_isSafe_37 : decode cX7_isSafe 37 = .ok (.aload_n 0, 1) := by decide +kernel
theorem dX7_isSafe_38 : decode cX7_isSafe 38 = .ok (.getfield 57, 3) := by decide +kernel
theorem dX7_isSafe_41 : decode cX7_isSafe 41 = .ok (.iload_n 1, 1) := by decide +kernel
theorem dX7_isSafe_42 : decode cX7_isSafe 42 = .ok (.aaload, 1) := by decide +kernel
theorem dX7_isSafe_43 : decode cX7_isSafe 43 = .ok (.invokevirtual 304, 3) := by decide +kernel
theorem dX7_isSafe_46 : decode cX7_isSafe 46 = .ok (.ifCond .ne 5, 3) := by decide +kernel
theorem dX7_isSafe_49 : decode cX7_isSafe 49 = .ok (.iconst 0, 1) := by decide +kernel
theorem dX7_isSafe_50 : decode cX7_isSafe 50 = .ok (.ireturn, 1) := by decide +kernel
theorem dX7_isSafe_51 : decode cX7_isSafe 51 = .ok (.iinc 1 1, 3) := by decide +kernel
theorem dX7_isSafe_54 : decode cX7_isSafe 54 = .ok (.goto (-26), 3) := by decide +kernel
theorem dX7_isSafe_57 : decode cX7_isSafe 57 = .ok (.iconst 1, 1) := by decide +kernel
theorem dX7_isSafe_58 : decode cX7_isSafe 58 = .ok (.ireturn, 1) := by decide +kernel
theorem dX7_isSafeTable_0 : decode cX7_isSafeTable 0 = .ok (.aload_n 1, 1) := by decide +kernel
theorem dX7_isSafeTable_1 : decode cX7_isSafeTable 1 = .ok (.ifnonnull 5, 3) := by decide +kernel
theorem dX7_isSafeTable_4 : decode cX7_isSafeTable 4 = .ok (.iconst 0, 1) := by decide +kernel
theorem dX7_isSafeTable_5 : decode cX7_isSafeTable 5 = .ok (.ireturn, 1) := by decide +kernel
theorem dX7_isSafeTable_6 : decode cX7_isSafeTable 6 = .ok (.aload_n 1, 1) := by decide +kernel
theorem dX7_isSafeTable_7 : decode cX7_isSafeTable 7 = .ok (.getfield 244, 3) := by decide +kernel
theorem dX7_isSafeTable_10 : decode cX7_isSafeTable 10 = .ok (.invokestatic 276, 3) := by decide +kernel
theorem dX7_isSafeTable_13 : decode cX7_isSafeTable 13 = .ok (.ifCond .ne 17, 3) := by decide +kernel
theorem dX7_isSafeTable_16 : decode cX7_isSafeTable 16 = .ok (.aload_n 1, 1) := by decide +kernel
theorem dX7_isSafeTable_17 : decode cX7_isSafeTable 17 = .ok (.getfield 244, 3) := by decide +kernel
theorem dX7_isSafeTable_20 : decode cX7_isSafeTable 20 = .ok (.invokestatic 279, 3) := by decide +kernel
theorem dX7_isSafeTable_23 : decode cX7_isSafeTable 23 = .ok (.ifCond .ne 7, 3) := by decide +kernel
theorem dX7_isSafeTable_26 : decode cX7_isSafeTable 26 = .ok (.iconst 1, 1) := by decide +kernel
theorem dX7_isSafeTable_27 : decode cX7_isSafeTable 27 = .ok (.goto 4, 3) := by decide +kernel
theorem dX7_isSafeTable_30 : decode cX7_isSafeTable 30 = .ok (.iconst 0, 1) := by decide +kernel
theorem dX7_isSafeTable_31 : decode cX7_isSafeTable 31 = .ok (.istore_n 2, 1) := by decide +kernel
theorem dX7_isSafeTable_32 : decode cX7_isSafeTable 32 = .ok (.iload_n 2, 1) := by decide +kernel
theorem dX7_isSafeTable_33 : decode cX7_isSafeTable 33 = .ok (.ifCond .eq 35, 3) := by decide +kernel
theorem dX7_isSafeTable_36 : decode cX7_isSafeTable 36 = .ok (.aload_n 1, 1) := by decide +kernel
theorem dX7_isSafeTable_37 : decode cX7_isSafeTable 37 = .ok (.getfield 236, 3) := by decide +kernel
theorem dX7_isSafeTable_40 : decode cX7_isSafeTable 40 = .ok (.ifCond .ne 24, 3) := by decide +kernel
theorem dX7_isSafeTable_43 : decode cX7_isSafeTable 43 = .ok (.aload_n 1, 1) := by decide +kernel
theorem dX7_isSafeTable_44 : decode cX7_isSafeTable 44 = .ok (.aload_n 0, 1) := by decide +kernel
theorem dX7_isSafeTable_45 : decode cX7_isSafeTable 45 = .ok (.getfield 12, 3) := by decide +kernel
theorem dX7_isSafeTable_48 : decode cX7_isSafeTable 48 = .ok (.getfield 65, 3) := by decide +kernel
theorem dX7_isSafeTable_51 : decode cX7_isSafeTable 51 = .ok (.aload_n 0, 1) := by decide +kernel
theorem dX7_isSafeTable_52 : decode cX7_isSafeTable 52 = .ok (.getfield 39, 3) := by decide +kernel
theorem dX7_isSafeTable_55 : decode cX7_isSafeTable 55 = .ok (.getfield 195, 3) := by decide +kernel
theorem dX7_isSafeTable_58 : decode cX7_isSafeTable 58 = .ok (.invokevirtual 308, 3) := by decide +kernel
theorem dX7_isSafeTable_61 : decode cX7_isSafeTable 61 = .ok (.ifCond .eq 7, 3) := by decide +kernel
theorem dX7_isSafeTable_64 : decode cX7_isSafeTable 64 = .ok (.iconst 1, 1) := by decide +kernel
theorem dX7_isSafeTable_65 : decode cX7_isSafeTable 65 = .ok (.goto 4, 3) := by decide +kernel
theorem dX7_isSafeTable_68 : decode cX7_isSafeTable 68 = .ok (.iconst 0, 1) := by decide +kernel
theorem dX7_isSafeTable_69 : decode cX7_isSafeTable 69 = .ok (.ireturn, 1) := by decide +kernel
theorem dX7_settle_0 : decode cX7_settle 0 = .ok (.aload_n 0, 1) := by decide +kernel
theorem dX7_settle_1 : decode cX7_settle 1 = .ok (.getfield 39, 3) := by decide +kernel
theorem dX7_settle_4 : decode cX7_settle 4 = .ok (.invokevirtual 198, 3) := by decide +kernel
theorem dX7_settle_7 : decode cX7_settle 7 = .ok (.aload_n 0, 1) := by decide +kernel
theorem dX7_settle_8 : decode cX7_settle 8 = .ok (.getfield 51, 3) := by decide +kernel
theorem dX7_settle_11 : decode cX7_settle 11 = .ok (.invokevirtual 312, 3) := by decide +kernel
theorem dX7_settle_14 : decode cX7_settle 14 = .ok (.iconst 0, 1) := by decide +kernel
theorem dX7_settle_15 : decode cX7_settle 15 = .ok (.istore_n 1, 1) := by decide +kernel
theorem dX7_settle_16 : decode cX7_settle 16 = .ok (.iconst 0, 1) := by decide +kernel
theorem dX7_settle_17 : decode cX7_settle 17 = .ok (.istore_n 2, 1) := by decide +kernel
theorem dX7_settle_18 : decode cX7_settle 18 = .ok (.iload_n 2, 1) := by decide +kernel
theorem dX7_settle_19 : decode cX7_settle 19 = .ok (.aload_n 0, 1) := by decide +kernel
theorem dX7_settle_20 : decode cX7_settle 20 = .ok (.getfield 61, 3) := by decide +kernel
theorem dX7_settle_23 : decode cX7_settle 23 = .ok (.if_icmp .ge 56, 3) := by decide +kernel
theorem dX7_settle_26 : decode cX7_settle 26 = .ok (.aload_n 0, 1) := by decide +kernel
theorem dX7_settle_27 : decode cX7_settle 27 = .ok (.getfield 57, 3) := by decide +kernel
theorem dX7_settle_30 : decode cX7_settle 30 = .ok (.iload_n 2, 1) := by decide +kernel
theorem dX7_settle_31 : decode cX7_settle 31 = .ok (.aaload, 1) := by decide +kernel
theorem dX7_settle_32 : decode cX7_settle 32 = .ok (.astore_n 3, 1) := by decide +kernel
theorem dX7_settle_33 : decode cX7_settle 33 = .ok (.aload_n 3, 1) := by decide +kernel
theorem dX7_settle_34 : decode cX7_settle 34 = .ok (.ifnull 39, 3) := by decide +kernel
theorem dX7_settle_37 : decode cX7_settle 37 = .ok (.aload_n 3, 1) := by decide +kernel
theorem dX7_settle_38 : decode cX7_settle 38 = .ok (.getfield 236, 3) := by decide +kernel
theorem dX7_settle_41 : decode cX7_settle 41 = .ok (.ifCond .ne 32, 3) := by decide +kernel
theorem dX7_settle_44 : decode cX7_settle 44 = .ok (.aload_n 3, 1) := by decide +kernel
theorem dX7_settle_45 : decode cX7_settle 45 = .ok (.aload_n 0, 1) := by decide +kernel
theorem dX7_settle_46 : decode cX7_settle 46 = .ok (.getfield 12, 3) := by decide +kernel
theorem dX7_settle_49 : decode cX7_settle 49 = .ok (.getfield 65, 3) := by decide +kernel
theorem dX7_settle_52 : decode cX7_settle 52 = .ok (.aload_n 0, 1) := by decide +kernel
theorem dX7_settle_53 : decode cX7_settle 53 = .ok (.getfield 39, 3) := by decide +kernel
theorem dX7_settle_56 : decode cX7_settle 56 = .ok (.getfield 195, 3) := by decide +kernel
theorem dX7_settle_59 : decode cX7_settle 59 = .ok (.invokevirtual 308, 3) := by decide +kernel
theorem dX7_settle_62 : decode cX7_settle 62 = .ok (.ifCond .ne 11, 3) := by decide +kernel
theorem dX7_settle_65 : decode cX7_settle 65 = .ok (.aload_n 3, 1) := by decide +kernel
theorem dX7_settle_66 : decode cX7_settle 66 = .ok (.iconst 1, 1) := by decide +kernel
theorem dX7_settle_67 : decode cX7_settle 67 = .ok (.putfield 236, 3) := by decide +kernel
theorem dX7_settle_70 : decode cX7_settle 70 = .ok (.iinc 1 1, 3) := by decide +kernel
theorem dX7_settle_73 : decode cX7_settle 73 = .ok (.iinc 2 1, 3) := by decide +kernel
theorem dX7_settle_76 : decode cX7_settle 76 = .ok (.goto (-58), 3) := by decide +kernel
theorem dX7_settle_79 : decode cX7_settle 79 = .ok (.iload_n 1, 1) := by decide +kernel
theorem dX7_settle_80 : decode cX7_settle 80 = .ok (.ireturn, 1) := by decide +kernel
theorem dX7_needBlock_0 : decode cX7_needBlock 0 = .ok (.iload_n 1, 1) := by decide +kernel
theorem dX7_needBlock_1 : decode cX7_needBlock 1 = .ok (.ifCond .lt 14, 3) := by decide +kernel
theorem dX7_needBlock_4 : decode cX7_needBlock 4 = .ok (.iload_n 1, 1) := by decide +kernel
theorem dX7_needBlock_5 : decode cX7_needBlock 5 = .ok (.aload_n 0, 1) := by decide +kernel
theorem dX7_needBlock_6 : decode cX7_needBlock 6 = .ok (.getfield 12, 3) := by decide +kernel
theorem dX7_needBlock_9 : decode cX7_needBlock 9 = .ok (.getfield 65, 3) := by decide +kernel
theorem dX7_needBlock_12 : decode cX7_needBlock 12 = .ok (.if_icmp .lt 14, 3) := by decide +kernel
theorem dX7_needBlock_15 : decode cX7_needBlock 15 = .ok (.new 291, 3) := by decide +kernel
theorem dX7_needBlock_18 : decode cX7_needBlock 18 = .ok (.dup, 1) := by decide +kernel
theorem dX7_needBlock_19 : decode cX7_needBlock 19 = .ok (.ldc_w 313, 3) := by decide +kernel
theorem dX7_needBlock_22 : decode cX7_needBlock 22 = .ok (.invokespecial 295, 3) := by decide +kernel
theorem dX7_needBlock_25 : decode cX7_needBlock 25 = .ok (.athrow, 1) := by decide +kernel
theorem dX7_needBlock_26 : decode cX7_needBlock 26 = .ok (.return_, 1) := by decide +kernel
theorem dX7_needAddress_0 : decode cX7_needAddress 0 = .ok (.aload_n 0, 1) := by decide +kernel
theorem dX7_needAddress_1 : decode cX7_needAddress 1 = .ok (.getfield 12, 3) := by decide +kernel
theorem dX7_needAddress_4 : decode cX7_needAddress 4 = .ok (.iload_n 1, 1) := by decide +kernel
theorem dX7_needAddress_5 : decode cX7_needAddress 5 = .ok (.invokevirtual 95, 3) := by decide +kernel
theorem dX7_needAddress_8 : decode cX7_needAddress 8 = .ok (.ifCond .ne 14, 3) := by decide +kernel
theorem dX7_needAddress_11 : decode cX7_needAddress 11 = .ok (.new 291, 3) := by decide +kernel
theorem dX7_needAddress_14 : decode cX7_needAddress 14 = .ok (.dup, 1) := by decide +kernel
theorem dX7_needAddress_15 : decode cX7_needAddress 15 = .ok (.ldc_w 315, 3) := by decide +kernel
theorem dX7_needAddress_18 : decode cX7_needAddress 18 = .ok (.invokespecial 295, 3) := by decide +kernel
theorem dX7_needAddress_21 : decode cX7_needAddress 21 = .ok (.athrow, 1) := by decide +kernel
theorem dX7_needAddress_22 : decode cX7_needAddress 22 = .ok (.return_, 1) := by decide +kernel
theorem dX7_needGroup_0 : decode cX7_needGroup 0 = .ok (.iload_n 1, 1) := by decide +kernel
theorem dX7_needGroup_1 : decode cX7_needGroup 1 = .ok (.ifCond .lt 8, 3) := by decide +kernel
theorem dX7_needGroup_4 : decode cX7_needGroup 4 = .ok (.iload_n 1, 1) := by decide +kernel
theorem dX7_needGroup_5 : decode cX7_needGroup 5 = .ok (.iconst 4, 1) := by decide +kernel
theorem dX7_needGroup_6 : decode cX7_needGroup 6 = .ok (.if_icmp .lt 14, 3) := by decide +kernel
theorem dX7_needGroup_9 : decode cX7_needGroup 9 = .ok (.new 112, 3) := by decide +kernel
theorem dX7_needGroup_12 : decode cX7_needGroup 12 = .ok (.dup, 1) := by decide +kernel
theorem dX7_needGroup_13 : decode cX7_needGroup 13 = .ok (.ldc_w 317, 3) := by decide +kernel
theorem dX7_needGroup_16 : decode cX7_needGroup 16 = .ok (.invokespecial 116, 3) := by decide +kernel
theorem dX7_needGroup_19 : decode cX7_needGroup 19 = .ok (.athrow, 1) := by decide +kernel
theorem dX7_needGroup_20 : decode cX7_needGroup 20 = .ok (.return_, 1) := by decide +kernel
theorem dX7_needRecord_0 : decode cX7_needRecord 0 = .ok (.iload_n 1, 1) := by decide +kernel
theorem dX7_needRecord_1 : decode cX7_needRecord 1 = .ok (.ifCond .lt 14, 3) := by decide +kernel
theorem dX7_needRecord_4 : decode cX7_needRecord 4 = .ok (.iload_n 1, 1) := by decide +kernel
theorem dX7_needRecord_5 : decode cX7_needRecord 5 = .ok (.aload_n 0, 1) := by decide +kernel
theorem dX7_needRecord_6 : decode cX7_needRecord 6 = .ok (.getfield 21, 3) := by decide +kernel
theorem dX7_needRecord_9 : decode cX7_needRecord 9 = .ok (.getfield 124, 3) := by decide +kernel
theorem dX7_needRecord_12 : decode cX7_needRecord 12 = .ok (.if_icmp .lt 14, 3) := by decide +kernel
theorem dX7_needRecord_15 : decode cX7_needRecord 15 = .ok (.new 103, 3) := by decide +kernel
theorem dX7_needRecord_18 : decode cX7_needRecord 18 = .ok (.dup, 1) := by decide +kernel
theorem dX7_needRecord_19 : decode cX7_needRecord 19 = .ok (.ldc_w 319, 3) := by decide +kernel
theorem dX7_needRecord_22 : decode cX7_needRecord 22 = .ok (.invokespecial 107, 3) := by decide +kernel
theorem dX7_needRecord_25 : decode cX7_needRecord 25 = .ok (.athrow, 1) := by decide +kernel
theorem dX7_needRecord_26 : decode cX7_needRecord 26 = .ok (.return_, 1) := by decide +kernel
theorem dX7_needTwoRecords_0 : decode cX7_needTwoRecords 0 = .ok (.aload_n 0, 1) := by decide +kernel
theorem dX7_needTwoRecords_1 : decode cX7_needTwoRecords 1 = .ok (.iload_n 1, 1) := by decide +kernel
theorem dX7_needTwoRecords_2 : decode cX7_needTwoRecords 2 = .ok (.invokevirtual 170, 3) := by decide +kernel
theorem dX7_needTwoRecords_5 : decode cX7_needTwoRecords 5 = .ok (.aload_n 0, 1) := by decide +kernel
theorem dX7_needTwoRecords_6 : decode cX7_needTwoRecords 6 = .ok (.iload_n 2, 1) := by decide +kernel
theorem dX7_needTwoRecords_7 : decode cX7_needTwoRecords 7 = .ok (.invokevirtual 170, 3) := by decide +kernel
theorem dX7_needTwoRecords_10 : decode cX7_needTwoRecords 10 = .ok (.iload_n 1, 1) := by decide +kernel
theorem dX7_needTwoRecords_11 : decode cX7_needTwoRecords 11 = .ok (.iload_n 2, 1) := by decide +kernel
theorem dX7_needTwoRecords_12 : decode cX7_needTwoRecords 12 = .ok (.if_icmp .ne 14, 3) := by decide +kernel
theorem dX7_needTwoRecords_15 : decode cX7_needTwoRecords 15 = .ok (.new 112, 3) := by decide +kernel
theorem dX7_needTwoRecords_18 : decode cX7_needTwoRecords 18 = .ok (.dup, 1) := by decide +kernel
theorem dX7_needTwoRecords_19 : decode cX7_needTwoRecords 19 = .ok (.ldc_w 321, 3) := by decide +kernel
theorem dX7_needTwoRecords_22 : decode cX7_needTwoRecords 22 = .ok (.invokespecial 116, 3) := by decide +kernel
theorem dX7_needTwoRecords_25 : decode cX7_needTwoRecords 25 = .ok (.athrow, 1) := by decide +kernel
theorem dX7_needTwoRecords_26 : decode cX7_needTwoRecords 26 = .ok (.return_, 1) := by decide +kernel
theorem dX7_toldTable_0 : decode cX7_toldTable 0 = .ok (.iload_n 1, 1) := by decide +kernel
theorem dX7_toldTable_1 : decode cX7_toldTable 1 = .ok (.ifCond .lt 20, 3) := by decide +kernel
theorem dX7_toldTable_4 : decode cX7_toldTable 4 = .ok (.iload_n 1, 1) := by decide +kernel
theorem dX7_toldTable_5 : decode cX7_toldTable 5 = .ok (.aload_n 0, 1) := by decide +kernel
theorem dX7_toldTable_6 : decode cX7_toldTable 6 = .ok (.getfield 61, 3) := by decide +kernel
theorem dX7_toldTable_9 : decode cX7_toldTable 9 = .ok (.if_icmp .ge 12, 3) := by decide +kernel
theorem dX7_toldTable_12 : decode cX7_toldTable 12 = .ok (.aload_n 0, 1) := by decide +kernel
theorem dX7_toldTable_13 : decode cX7_toldTable 13 = .ok (.getfield 57, 3) := by decide +kernel
theorem dX7_toldTable_16 : decode cX7_toldTable 16 = .ok (.iload_n 1, 1) := by decide +kernel
theorem dX7_toldTable_17 : decode cX7_toldTable 17 = .ok (.aaload, 1) := by decide +kernel
theorem dX7_toldTable_18 : decode cX7_toldTable 18 = .ok (.goto 4, 3) := by decide +kernel
theorem dX7_toldTable_21 : decode cX7_toldTable 21 = .ok (.aconst_null, 1) := by decide +kernel
theorem dX7_toldTable_22 : decode cX7_toldTable 22 = .ok (.astore_n 2, 1) := by decide +kernel
theorem dX7_toldTable_23 : decode cX7_toldTable 23 = .ok (.aload_n 2, 1) := by decide +kernel
theorem dX7_toldTable_24 : decode cX7_toldTable 24 = .ok (.ifnonnull 14, 3) := by decide +kernel
theorem dX7_toldTable_27 : decode cX7_toldTable 27 = .ok (.new 103, 3) := by decide +kernel
theorem dX7_toldTable_30 : decode cX7_toldTable 30 = .ok (.dup, 1) := by decide +kernel
theorem dX7_toldTable_31 : decode cX7_toldTable 31 = .ok (.ldc_w 323, 3) := by decide +kernel
theorem dX7_toldTable_34 : decode cX7_toldTable 34 = .ok (.invokespecial 107, 3) := by decide +kernel
theorem dX7_toldTable_37 : decode cX7_toldTable 37 = .ok (.athrow, 1) := by decide +kernel
theorem dX7_toldTable_38 : decode cX7_toldTable 38 = .ok (.aload_n 2, 1) := by decide +kernel
theorem dX7_toldTable_39 : decode cX7_toldTable 39 = .ok (.areturn, 1) := by decide +kernel
theorem dX7_needBlockIn_0 : decode cX7_needBlockIn 0 = .ok (.iload_n 2, 1) := by decide +kernel
theorem dX7_needBlockIn_1 : decode cX7_needBlockIn 1 = .ok (.ifCond .lt 11, 3) := by decide +kernel
theorem dX7_needBlockIn_4 : decode cX7_needBlockIn 4 = .ok (.iload_n 2, 1) := by decide +kernel
theorem dX7_needBlockIn_5 : decode cX7_needBlockIn 5 = .ok (.aload_n 1, 1) := by decide +kernel
theorem dX7_needBlockIn_6 : decode cX7_needBlockIn 6 = .ok (.getfield 325, 3) := by decide +kernel
theorem dX7_needBlockIn_9 : decode cX7_needBlockIn 9 = .ok (.if_icmp .lt 14, 3) := by decide +kernel
theorem dX7_needBlockIn_12 : decode cX7_needBlockIn 12 = .ok (.new 291, 3) := by decide +kernel
theorem dX7_needBlockIn_15 : decode cX7_needBlockIn 15 = .ok (.dup, 1) := by decide +kernel
theorem dX7_needBlockIn_16 : decode cX7_needBlockIn 16 = .ok (.ldc_w 326, 3) := by decide +kernel
theorem dX7_needBlockIn_19 : decode cX7_needBlockIn 19 = .ok (.invokespecial 295, 3) := by decide +kernel
theorem dX7_needBlockIn_22 : decode cX7_needBlockIn 22 = .ok (.athrow, 1) := by decide +kernel
theorem dX7_needBlockIn_23 : decode cX7_needBlockIn 23 = .ok (.return_, 1) := by decide +kernel
theorem dX7_needCell_0 : decode cX7_needCell 0 = .ok (.aload_n 0, 1) := by decide +kernel
theorem dX7_needCell_1 : decode cX7_needCell 1 = .ok (.aload_n 1, 1) := by decide +kernel
theorem dX7_needCell_2 : decode cX7_needCell 2 = .ok (.iload_n 2, 1) := by decide +kernel
theorem dX7_needCell_3 : decode cX7_needCell 3 = .ok (.invokevirtual 253, 3) := by decide +kernel
theorem dX7_needCell_6 : decode cX7_needCell 6 = .ok (.aload_n 0, 1) := by decide +kernel
theorem dX7_needCell_7 : decode cX7_needCell 7 = .ok (.iload_n 3, 1) := by decide +kernel
theorem dX7_needCell_8 : decode cX7_needCell 8 = .ok (.invokevirtual 192, 3) := by decide +kernel
theorem dX7_needCell_11 : decode cX7_needCell 11 = .ok (.return_, 1) := by decide +kernel
theorem dX8_init_0 : decode cX8_init 0 = .ok (.aload_n 0, 1) := by decide +kernel
theorem dX8_init_1 : decode cX8_init 1 = .ok (.invokespecial 1, 3) := by decide +kernel
theorem dX8_init_4 : decode cX8_init 4 = .ok (.aload_n 0, 1) := by decide +kernel
theorem dX8_init_5 : decode cX8_init 5 = .ok (.bipush 20, 2) := by decide +kernel
theorem dX8_init_7 : decode cX8_init 7 = .ok (.newarray .int, 2) := by decide +kernel
theorem dX8_init_9 : decode cX8_init 9 = .ok (.putfield 7, 3) := by decide +kernel
theorem dX8_init_12 : decode cX8_init 12 = .ok (.aload_n 0, 1) := by decide +kernel
theorem dX8_init_13 : decode cX8_init 13 = .ok (.bipush 40, 2) := by decide +kernel
theorem dX8_init_15 : decode cX8_init 15 = .ok (.newarray .int, 2) := by decide +kernel
theorem dX8_init_17 : decode cX8_init 17 = .ok (.putfield 13, 3) := by decide +kernel
theorem dX8_init_20 : decode cX8_init 20 = .ok (.aload_n 0, 1) := by decide +kernel
theorem dX8_init_21 : decode cX8_init 21 = .ok (.bipush 40, 2) := by decide +kernel
theorem dX8_init_23 : decode cX8_init 23 = .ok (.newarray .int, 2) := by decide +kernel
theorem dX8_init_25 : decode cX8_init 25 = .ok (.putfield 16, 3) := by decide +kernel
theorem dX8_init_28 : decode cX8_init 28 = .ok (.aload_n 0, 1) := by decide +kernel
theorem dX8_init_29 : decode cX8_init 29 = .ok (.bipush 40, 2) := by decide +kernel
theorem dX8_init_31 : decode cX8_init 31 = .ok (.newarray .int, 2) := by decide +kernel
theorem dX8_init_33 : decode cX8_init 33 = .ok (.putfield 19, 3) := by decide +kernel
theorem dX8_init_36 : decode cX8_init 36 = .ok (.aload_n 0, 1) := by decide +kernel
theorem dX8_init_37 : decode cX8_init 37 = .ok (.bipush 40, 2) := by decide +kernel
theorem dX8_init_39 : decode cX8_init 39 = .ok (.newarray .int, 2) := by decide +kernel
theorem dX8_init_41 : decode cX8_init 41 = .ok (.putfield 22, 3) := by decide +kernel
theorem dX8_init_44 : decode cX8_init 44 = .ok (.aload_n 0, 1) := by decide +kernel
theorem dX8_init_45 : decode cX8_init 45 = .ok (.bipush 24, 2) := by decide +kernel
theorem dX8_init_47 : decode cX8_init 47 = .ok (.newarray .int, 2) := by decide +kernel
theorem dX8_init_49 : decode cX8_init 49 = .ok (.putfield 25, 3) := by decide +kernel
theorem dX8_init_52 : decode cX8_init 52 = .ok (.aload_n 0, 1) := by decide +kernel
theorem dX8_init_53 : decode cX8_init 53 = .ok (.bipush 40, 2) := by decide +kernel
theorem dX8_init_55 : decode cX8_init 55 = .ok (.newarray .char, 2) := by decide +kernel
theorem dX8_init_57 : decode cX8_init 57 = .ok (.putfield 28, 3) := by decide +kernel
theorem dX8_init_60 : decode cX8_init 60 = .ok (.aload_n 0, 1) := by decide +kernel
theorem dX8_init_61 : decode cX8_init 61 = .ok (.sipush 1600, 3) := by decide +kernel
theorem dX8_init_64 : decode cX8_init 64 = .ok (.newarray .char, 2) := by decide +kernel
theorem dX8_init_66 : decode cX8_init 66 = .ok (.putfield 32, 3) := by decide +kernel
theorem dX8_init_69 : decode cX8_init 69 = .ok (.aload_n 0, 1) := by decide +kernel
theorem dX8_init_70 : decode cX8_init 70 = .ok (.bipush 40, 2) := by decide +kernel
theorem dX8_init_72 : decode cX8_init 72 = .ok (.newarray .boolean, 2) := by decide +kernel
theorem dX8_init_74 : decode cX8_init 74 = .ok (.putfield 35, 3) := by decide +kernel
theorem dX8_init_77 : decode cX8_init 77 = .ok (.aload_n 0, 1) := by decide +kernel
theorem dX8_init_78 : decode cX8_init 78 = .ok (.bipush 8, 2) := by decide +kernel
theorem dX8_init_80 : decode cX8_init 80 = .ok (.newarray .boolean, 2) := by decide +kernel
theorem dX8_init_82 : decode cX8_init 82 = .ok (.putfield 39, 3) := by decide +kernel
theorem dX8_init_85 : decode cX8_init 85 = .ok (.aload_n 0, 1) := by decide +kernel
theorem dX8_init_86 : decode cX8_init 86 = .ok (.sipush 192, 3) := by decide +kernel
theorem dX8_init_89 : decode cX8_init 89 = .ok (.newarray .boolean, 2) := by decide +kernel
theorem dX8_init_91 : decode cX8_init 91 = .ok (.putfield 42, 3) := by decide +kernel
theorem dX8_init_94 : decode cX8_init 94 = .ok (.aload_n 0, 1) := by decide +kernel
theorem dX8_init_95 : decode cX8_init 95 = .ok (.bipush 10, 2) := by decide +kernel
theorem dX8_init_97 : decode cX8_init 97 = .ok (.newarray .boolean, 2) := by decide +kernel
theorem dX8_init_99 : decode cX8_init 99 = .ok (.putfield 45, 3) := by decide +kernel
theorem dX8_init_102 : decode cX8_init 102 = .ok (.aload_n 0, 1) := by decide +kernel
theorem dX8_init_103 : decode cX8_init 103 = .ok (.sipush 192, 3) := by decide +kernel
theorem dX8_init_106 : decode cX8_init 106 = .ok (.newarray .int, 2) := by decide +kernel
theorem dX8_init_108 : decode cX8_init 108 = .ok (.putfield 48, 3) := by decide +kernel
theorem dX8_init_111 : decode cX8_init 111 = .ok (.aload_n 0, 1) := by decide +kernel
theorem dX8_init_112 : decode cX8_init 112 = .ok (.bipush 8, 2) := by decide +kernel
theorem dX8_init_114 : decode cX8_init 114 = .ok (.newarray .int, 2) := by decide +kernel
theorem dX8_init_116 : decode cX8_init 116 = .ok (.putfield 51, 3) := by decide +kernel
theorem dX8_init_119 : decode cX8_init 119 = .ok (.aload_n 0, 1) := by decide +kernel
theorem dX8_init_120 : decode cX8_init 120 = .ok (.iconst 0, 1) := by decide +kernel
theorem dX8_init_121 : decode cX8_init 121 = .ok (.putfield 54, 3) := by decide +kernel
theorem dX8_init_124 : decode cX8_init 124 = .ok (.aload_n 0, 1) := by decide +kernel
theorem dX8_init_125 : decode cX8_init 125 = .ok (.iconst 0, 1) := by decide +kernel
theorem dX8_init_126 : decode cX8_init 126 = .ok (.putfield 58, 3) := by decide +kernel
theorem dX8_init_129 : decode cX8_init 129 = .ok (.aload_n 0, 1) := by decide +kernel
theorem dX8_init_130 : decode cX8_init 130 = .ok (.iconst 0, 1) := by decide +kernel
theorem dX8_init_131 : decode cX8_init 131 = .ok (.putfield 61, 3) := by decide +kernel
theorem dX8_init_134 : decode cX8_init 134 = .ok (.aload_n 0, 1) := by decide +kernel
theorem dX8_init_135 : decode cX8_init 135 = .ok (.iconst 0, 1) := by decide +kernel
theorem dX8_init_136 : decode cX8_init 136 = .ok (.putfield 64, 3) := by decide +kernel
theorem dX8_init_139 : decode cX8_init 139 = .ok (.aload_n 0, 1) := by decide +kernel
theorem dX8_init_140 : decode cX8_init 140 = .ok (.iconst 0, 1) := by decide +kernel
theorem dX8_init_141 : decode cX8_init 141 = .ok (.putfield 67, 3) := by decide +kernel
theorem dX8_init_144 : decode cX8_init 144 = .ok (.aload_n 0, 1) := by decide +kernel
theorem dX8_init_145 : decode cX8_init 145 = .ok (.iconst 5, 1) := by decide +kernel
theorem dX8_init_146 : decode cX8_init 146 = .ok (.putfield 70, 3) := by decide +kernel
theorem dX8_init_149 : decode cX8_init 149 = .ok (.aload_n 0, 1) := by decide +kernel
theorem dX8_init_150 : decode cX8_init 150 = .ok (.iconst 4, 1) := by decide +kernel
theorem dX8_init_151 : decode cX8_init 151 = .ok (.putfield 73, 3) := by decide +kernel
theorem dX8_init_154 : decode cX8_init 154 = .ok (.aload_n 0, 1) := by decide +kernel
theorem dX8_init_155 : decode cX8_init 155 = .ok (.iconst 3, 1) := by decide +kernel
theorem dX8_init_156 : decode cX8_init 156 = .ok (.putfield 76, 3) := by decide +kernel
theorem dX8_init_159 : decode cX8_init 159 = .ok (.aload_n 0, 1) := by decide +kernel
theorem dX8_init_160 : decode cX8_init 160 = .ok (.bipush 6, 2) := by decide +kernel
theorem dX8_init_162 : decode cX8_init 162 = .ok (.putfield 79, 3) := by decide +kernel
theorem dX8_init_165 : decode cX8_init 165 = .ok (.aload_n 0, 1) := by decide +kernel
theorem dX8_init_166 : decode cX8_init 166 = .ok (.bipush 9, 2) := by decide +kernel
theorem dX8_init_168 : decode cX8_init 168 = .ok (.putfield 82, 3) := by decide +kernel
theorem dX8_init_171 : decode cX8_init 171 = .ok (.aload_n 0, 1) := by decide +kernel
theorem dX8_init_172 : decode cX8_init 172 = .ok (.iconst 0, 1) := by decide +kernel
theorem dX8_init_173 : decode cX8_init 173 = .ok (.putfield 85, 3) := by decide +kernel
theorem dX8_init_176 : decode cX8_init 176 = .ok (.aload_n 0, 1) := by decide +kernel
theorem dX8_init_177 : decode cX8_init 177 = .ok (.iconst 0, 1) := by decide +kernel
theorem dX8_init_178 : decode cX8_init 178 = .ok (.putfield 88, 3) := by decide +kernel
theorem dX8_init_181 : decode cX8_init 181 = .ok (.return_, 1) := by decide +kernel
theorem dX8_thrown_0 : decode cX8_thrown 0 = .ok (.aload_n 0, 1) := by decide +kernel
theorem dX8_thrown_1 : decode cX8_thrown 1 = .ok (.getfield 54, 3) := by decide +kernel
theorem dX8_thrown_4 : decode cX8_thrown 4 = .ok (.ireturn, 1) := by decide +kernel
theorem dX8_in_0 : decode cX8_in 0 = .ok (.iload_n 0, 1) := by decide +kernel
theorem dX8_in_1 : decode cX8_in 1 = .ok (.iload_n 1, 1) := by decide +kernel
theorem dX8_in_2 : decode cX8_in 2 = .ok (.if_icmp .lt 12, 3) := by decide +kernel
theorem dX8_in_5 : decode cX8_in 5 = .ok (.iload_n 0, 1) := by decide +kernel
theorem dX8_in_6 : decode cX8_in 6 = .ok (.iload_n 2, 1) := by decide +kernel
theorem dX8_in_7 : decode cX8_in 7 = .ok (.if_icmp .gt 7, 3) := by decide +kernel
theorem dX8_in_10 : decode cX8_in 10 = .ok (.iconst 1, 1) := by decide +kernel
theorem dX8_in_11 : decode cX8_in 11 = .ok (.goto 4, 3) := by decide +kernel
theorem dX8_in_14 : decode cX8_in 14 = .ok (.iconst 0, 1) := by decide +kernel
theorem dX8_in_15 : decode cX8_in 15 = .ok (.ireturn, 1) := by decide +kernel
theorem dX8_plain_0 : decode cX8_plain 0 = .ok (.aload_n 0, 1) := by decide +kernel
theorem dX8_plain_1 : decode cX8_plain 1 = .ok (.iconst 0, 1) := by decide +kernel
theorem dX8_plain_2 : decode cX8_plain 2 = .ok (.putfield 54, 3) := by decide +kernel
theorem dX8_plain_5 : decode cX8_plain 5 = .ok (.iload_n 1, 1) := by decide +kernel
theorem dX8_plain_6 : decode cX8_plain 6 = .ok (.ireturn, 1) := by decide +kernel
theorem dX8_checked_0 : decode cX8_checked 0 = .ok (.aload_n 0, 1) := by decide +kernel
theorem dX8_checked_1 : decode cX8_checked 1 = .ok (.iload_n 1, 1) := by decide +kernel
theorem dX8_checked_2 : decode cX8_checked 2 = .ok (.ifCond .eq 7, 3) := by decide +kernel
theorem dX8_checked_5 : decode cX8_checked 5 = .ok (.iconst 0, 1) := by decide +kernel
theorem dX8_checked_6 : decode cX8_checked 6 = .ok (.goto 4, 3) := by decide +kernel
theorem dX8_checked_9 : decode cX8_checked 9 = .ok (.iconst 1, 1) := by decide +kernel
theorem dX8_checked_10 : decode cX8_checked 10 = .ok (.putfield 54, 3) := by decide +kernel
theorem dX8_checked_13 : decode cX8_checked 13 = .ok (.aload_n 0, 1) := by decide +kernel
theorem dX8_checked_14 : decode cX8_checked 14 = .ok (.getfield 54, 3) := by decide +kernel
theorem dX8_checked_17 : decode cX8_checked 17 = .ok (.ireturn, 1) := by decide +kernel
theorem dX8_isBlock_0 : decode cX8_isBlock 0 = .ok (.iload_n 1, 1) := by decide +kernel
theorem dX8_isBlock_1 : decode cX8_isBlock 1 = .ok (.iconst 0, 1) := by decide +kernel
theorem dX8_isBlock_2 : decode cX8_isBlock 2 = .ok (.aload_n 0, 1) := by decide +kernel
theorem dX8_isBlock_3 : decode cX8_isBlock 3 = .ok (.getfield 58, 3) := by decide +kernel
theorem dX8_isBlock_6 : decode cX8_isBlock 6 = .ok (.iconst 1, 1) := by decide +kernel
theorem dX8_isBlock_7 : decode cX8_isBlock 7 = .ok (.isub, 1) := by decide +kernel
theorem dX8_isBlock_8 : decode cX8_isBlock 8 = .ok (.invokestatic 91, 3) := by decide +kernel
theorem dX8_isBlock_11 : decode cX8_isBlock 11 = .ok (.ireturn, 1) := by decide +kernel
theorem dX8_isRecord_0 : decode cX8_isRecord 0 = .ok (.iload_n 1, 1) := by decide +kernel
theorem dX8_isRecord_1 : decode cX8_isRecord 1 = .ok (.iconst 0, 1) := by decide +kernel
theorem dX8_isRecord_2 : decode cX8_isRecord 2 = .ok (.aload_n 0, 1) := by decide +kernel
theorem dX8_isRecord_3 : decode cX8_isRecord 3 = .ok (.getfield 64, 3) := by decide +kernel
theorem dX8_isRecord_6 : decode cX8_isRecord 6 = .ok (.iconst 1, 1) := by decide +kernel
theorem dX8_isRecord_7 : decode cX8_isRecord 7 = .ok (.isub, 1) := by decide +kernel
theorem dX8_isRecord_8 : decode cX8_isRecord 8 = .ok (.invokestatic 91, 3) := by decide +kernel
theorem dX8_isRecord_11 : decode cX8_isRecord 11 = .ok (.ireturn, 1) := by decide +kernel
theorem dX8_group_0 : decode cX8_group 0 = .ok (.iload_n 0, 1) := by decide +kernel
theorem dX8_group_1 : decode cX8_group 1 = .ok (.bipush 17, 2) := by decide +kernel
theorem dX8_group_3 : decode cX8_group 3 = .ok (.if_icmp .gt 5, 3) := by decide +kernel
theorem dX8_group_6 : decode cX8_group 6 = .ok (.iconst 0, 1) := by decide +kernel
theorem dX8_group_7 : decode cX8_group 7 = .ok (.ireturn, 1) := by decide +kernel
theorem dX8_group_8 : decode cX8_group 8 = .ok (.iload_n 0, 1) := by decide +kernel
theorem dX8_group_9 : decode cX8_group 9 = .ok (.bipush 39, 2) := by decide +kernel
theorem dX8_group_11 : decode cX8_group 11 = .ok (.if_icmp .gt 5, 3) := by decide +kernel
theorem dX8_group_14 : decode cX8_group 14 = .ok (.iconst 1, 1) := by decide +kernel
theorem dX8_group_15 : decode cX8_group 15 = .ok (.ireturn, 1) := by decide +kernel
theorem dX8_group_16 : decode cX8_group 16 = .ok (.iload_n 0, 1) := by decide +kernel
theorem dX8_group_17 : decode cX8_group 17 = .ok (.bipush 64, 2) := by decide +kernel
theorem dX8_group_19 : decode cX8_group 19 = .ok (.if_icmp .gt 7, 3) := by decide +kernel
theorem dX8_group_22 : decode cX8_group 22 = .ok (.iconst 2, 1) := by decide +kernel
theorem dX8_group_23 : decode cX8_group 23 = .ok (.goto 4, 3) := by decide +kernel
theorem dX8_group_26 : decode cX8_group 26 = .ok (.iconst 3, 1) := by decide +kernel
theorem dX8_group_27 : decode cX8_group 27 = .ok (.ireturn, 1) := by decide +kernel
theorem dX8_blockFor_0 : decode cX8_blockFor 0 = .ok (.aload_n 0, 1) := by decide +kernel
theorem dX8_blockFor_1 : decode cX8_blockFor 1 = .ok (.getfield 7, 3) := by decide +kernel
theorem dX8_blockFor_4 : decode cX8_blockFor 4 = .ok (.aload_n 0, 1) := by decide +kernel
theorem dX8_blockFor_5 : decode cX8_blockFor 5 = .ok (.getfield 13, 3) := by decide +kernel
theorem dX8_blockFor_8 : decode cX8_blockFor 8 = .ok (.iload_n 1, 1) := by decide +kernel
theorem dX8_blockFor_9 : decode cX8_blockFor 9 = .ok (.iaload, 1) := by decide +kernel
theorem dX8_blockFor_10 : decode cX8_blockFor 10 = .ok (.iaload, 1) := by decide +kernel
theorem dX8_blockFor_11 : decode cX8_blockFor 11 = .ok (.ireturn, 1) := by decide +kernel
theorem dX8_scoreOf_0 : decode cX8_scoreOf 0 = .ok (.iconst 0, 1) := by decide +kernel
theorem dX8_scoreOf_1 : decode cX8_scoreOf 1 = .ok (.istore_n 3, 1) := by decide +kernel
theorem dX8_scoreOf_2 : decode cX8_scoreOf 2 = .ok (.aload_n 0, 1) := by decide +kernel
theorem dX8_scoreOf_3 : decode cX8_scoreOf 3 = .ok (.getfield 16, 3) := by decide +kernel
theorem dX8_scoreOf_6 : decode cX8_scoreOf 6 = .ok (.iload_n 1, 1) := by decide +kernel
theorem dX8_scoreOf_7 : decode cX8_scoreOf 7 = .ok (.iaload, 1) := by decide +kernel
theorem dX8_scoreOf_8 : decode cX8_scoreOf 8 = .ok (.aload_n 0, 1) := by decide +kernel
theorem dX8_scoreOf_9 : decode cX8_scoreOf 9 = .ok (.getfield 16, 3) := by decide +kernel
theorem dX8_scoreOf_12 : decode cX8_scoreOf 12 = .ok (.iload_n 2, 1) := by decide +kernel
theorem dX8_scoreOf_13 : decode cX8_scoreOf 13 = .ok (.iaload, 1) := by decide +kernel
theorem dX8_scoreOf_14 : decode cX8_scoreOf 14 = .ok (.if_icmp .ne 13, 3) := by decide +kernel
theorem dX8_scoreOf_17 : decode cX8_scoreOf 17 = .ok (.iload_n 3, 1) := by decide +kernel
theorem dX8_scoreOf_18 : decode cX8_scoreOf 18 = .ok (.aload_n 0, 1) := by decide +kernel
theorem dX8_scoreOf_19 : decode cX8_scoreOf 19 = .ok (.getfield 70, 3) := by decide +kernel
theorem dX8_scoreOf_22 : decode cX8_scoreOf 22 = .ok (.iadd, 1) := by decide +kernel
theorem dX8_scoreOf_23 : decode cX8_scoreOf 23 = .ok (.istore_n 3, 1) := by decide +kernel
theorem dX8_scoreOf_24 : decode cX8_scoreOf 24 = .ok (.goto 33, 3) := by decide +kernel
theorem dX8_scoreOf_27 : decode cX8_scoreOf 27 = .ok (.aload_n 0, 1) := by decide +kernel
theorem dX8_scoreOf_28 : decode cX8_scoreOf 28 = .ok (.getfield 16, 3) := by decide +kernel
theorem dX8_scoreOf_31 : decode cX8_scoreOf 31 = .ok (.iload_n 1, 1) := by decide +kernel
theorem dX8_scoreOf_32 : decode cX8_scoreOf 32 = .ok (.iaload, 1) := by decide +kernel
theorem dX8_scoreOf_33 : decode cX8_scoreOf 33 = .ok (.bipush 10, 2) := by decide +kernel
theorem dX8_scoreOf_35 : decode cX8_scoreOf 35 = .ok (.idiv, 1) := by decide +kernel
theorem dX8_scoreOf_36 : decode cX8_scoreOf 36 = .ok (.aload_n 0, 1) := by decide +kernel
theorem dX8_scoreOf_37 : decode cX8_scoreOf 37 = .ok (.getfield 16, 3) := by decide +kernel
theorem dX8_scoreOf_40 : decode cX8_scoreOf 40 = .ok (.iload_n 2, 1) := by decide +kernel
theorem dX8_scoreOf_41 : decode cX8_scoreOf 41 = .ok (.iaload, 1) := by decide +kernel
theorem dX8_scoreOf_42 : decode cX8_scoreOf 42 = .ok (.bipush 10, 2) := by decide +kernel
theorem dX8_scoreOf_44 : decode cX8_scoreOf 44 = .ok (.idiv, 1) := by decide +kernel
theorem dX8_scoreOf_45 : decode cX8_scoreOf 45 = .ok (.if_icmp .ne 12, 3) := by decide +kernel
theorem dX8_scoreOf_48 : decode cX8_scoreOf 48 = .ok (.iload_n 3, 1) := by decide +kernel
theorem dX8_scoreOf_49 : decode cX8_scoreOf 49 = .ok (.aload_n 0, 1) := by decide +kernel
theorem dX8_scoreOf_50 : decode cX8_scoreOf 50 = .ok (.getfield 70, 3) := by decide +kernel
theorem dX8_scoreOf_53 : decode cX8_scoreOf 53 = .ok (.iconst 2, 1) := by decide +kernel
theorem dX8_scoreOf_54 : decode cX8_scoreOf 54 = .ok (.idiv, 1) := by decide +kernel
theorem dX8_scoreOf_55 : decode cX8_scoreOf 55 = .ok (.iadd, 1) := by decide +kernel
theorem dX8_scoreOf_56 : decode cX8_scoreOf 56 = .ok (.istore_n 3, 1) := by decide +kernel
theorem dX8_scoreOf_57 : decode cX8_scoreOf 57 = .ok (.aload_n 0, 1) := by decide +kernel
theorem dX8_scoreOf_58 : decode cX8_scoreOf 58 = .ok (.getfield 19, 3) := by decide +kernel
theorem dX8_scoreOf_61 : decode cX8_scoreOf 61 = .ok (.iload_n 1, 1) := by decide +kernel
theorem dX8_scoreOf_62 : decode cX8_scoreOf 62 = .ok (.iaload, 1) := by decide +kernel
theorem dX8_scoreOf_63 : decode cX8_scoreOf 63 = .ok (.aload_n 0, 1) := by decide +kernel
theorem dX8_scoreOf_64 : decode cX8_scoreOf 64 = .ok (.getfield 19, 3) := by decide +kernel
theorem dX8_scoreOf_67 : decode cX8_scoreOf 67 = .ok (.iload_n 2, 1) := by decide +kernel
theorem dX8_scoreOf_68 : decode cX8_scoreOf 68 = .ok (.iaload, 1) := by decide +kernel
theorem dX8_scoreOf_69 : decode cX8_scoreOf 69 = .ok (.isub, 1) := by decide +kernel
theorem dX8_scoreOf_70 : decode cX8_scoreOf 70 = .ok (.istore 4, 2) := by decide +kernel
theorem dX8_scoreOf_72 : decode cX8_scoreOf 72 = .ok (.iload 4, 2) := by decide +kernel
theorem dX8_scoreOf_74 : decode cX8_scoreOf 74 = .ok (.ifCond .ne 13, 3) := by decide +kernel
theorem dX8_scoreOf_77 : decode cX8_scoreOf 77 = .ok (.iload_n 3, 1) := by decide +kernel
theorem dX8_scoreOf_78 : decode cX8_scoreOf 78 = .ok (.aload_n 0, 1) := by decide +kernel
theorem dX8_scoreOf_79 : decode cX8_scoreOf 79 = .ok (.getfield 73, 3) := by decide +kernel
theorem dX8_scoreOf_82 : decode cX8_scoreOf 82 = .ok (.iadd, 1) := by decide +kernel
theorem dX8_scoreOf_83 : decode cX8_scoreOf 83 = .ok (.istore_n 3, 1) := by decide +kernel
theorem dX8_scoreOf_84 : decode cX8_scoreOf 84 = .ok (.goto 24, 3) := by decide +kernel
theorem dX8_scoreOf_87 : decode cX8_scoreOf 87 = .ok (.iload 4, 2) := by decide +kernel
theorem dX8_scoreOf_89 : decode cX8_scoreOf 89 = .ok (.iconst 1, 1) := by decide +kernel
theorem dX8_scoreOf_90 : decode cX8_scoreOf 90 = .ok (.if_icmp .eq 9, 3) := by decide +kernel
theorem dX8_scoreOf_93 : decode cX8_scoreOf 93 = .ok (.iload 4, 2) := by decide +kernel
theorem dX8_scoreOf_95 : decode cX8_scoreOf 95 = .ok (.iconst (-1), 1) := by decide +kernel
theorem dX8_scoreOf_96 : decode cX8_scoreOf 96 = .ok (.if_icmp .ne 12, 3) := by decide +kernel
theorem dX8_scoreOf_99 : decode cX8_scoreOf 99 = .ok (.iload_n 3, 1) := by decide +kernel
theorem dX8_scoreOf_100 : decode cX8_scoreOf 100 = .ok (.aload_n 0, 1) := by decide +kernel
theorem dX8_scoreOf_101 : decode cX8_scoreOf 101 = .ok (.getfield 73, 3) := by decide +kernel
theorem dX8_scoreOf_104 : decode cX8_scoreOf 104 = .ok (.iconst 2, 1) := by decide +kernel
theorem dX8_scoreOf_105 : decode cX8_scoreOf 105 = .ok (.idiv, 1) := by decide +kernel
theorem dX8_scoreOf_106 : decode cX8_scoreOf 106 = .ok (.iadd, 1) := by decide +kernel
theorem dX8_scoreOf_107 : decode cX8_scoreOf 107 = .ok (.istore_n 3, 1) := by decide +kernel
theorem dX8_scoreOf_108 : decode cX8_scoreOf 108 = .ok (.aload_n 0, 1) := by decide +kernel
theorem dX8_scoreOf_109 : decode cX8_scoreOf 109 = .ok (.getfield 13, 3) := by decide +kernel
theorem dX8_scoreOf_112 : decode cX8_scoreOf 112 = .ok (.iload_n 1, 1) := by decide +kernel
theorem dX8_scoreOf_113 : decode cX8_scoreOf 113 = .ok (.iaload, 1) := by decide +kernel
theorem dX8_scoreOf_114 : decode cX8_scoreOf 114 = .ok (.aload_n 0, 1) := by decide +kernel
theorem dX8_scoreOf_115 : decode cX8_scoreOf 115 = .ok (.getfield 13, 3) := by decide +kernel
theorem dX8_scoreOf_118 : decode cX8_scoreOf 118 = .ok (.iload_n 2, 1) := by decide +kernel
theorem dX8_scoreOf_119 : decode cX8_scoreOf 119 = .ok (.iaload, 1) := by decide +kernel
theorem dX8_scoreOf_120 : decode cX8_scoreOf 120 = .ok (.if_icmp .ne 10, 3) := by decide +kernel
theorem dX8_scoreOf_123 : decode cX8_scoreOf 123 = .ok (.iload_n 3, 1) := by decide +kernel
theorem dX8_scoreOf_124 : decode cX8_scoreOf 124 = .ok (.aload_n 0, 1) := by decide +kernel
theorem dX8_scoreOf_125 : decode cX8_scoreOf 125 = .ok (.getfield 76, 3) := by decide +kernel
theorem dX8_scoreOf_128 : decode cX8_scoreOf 128 = .ok (.iadd, 1) := by decide +kernel
theorem dX8_scoreOf_129 : decode cX8_scoreOf 129 = .ok (.ireturn, 1) := by decide +kernel
theorem dX8_scoreOf_130 : decode cX8_scoreOf 130 = .ok (.aload_n 0, 1) := by decide +kernel
theorem dX8_scoreOf_131 : decode cX8_scoreOf 131 = .ok (.iload_n 1, 1) := by decide +kernel
theorem dX8_scoreOf_132 : decode cX8_scoreOf 132 = .ok (.invokevirtual 95, 3) := by decide +kernel
theorem dX8_scoreOf_135 : decode cX8_scoreOf 135 = .ok (.aload_n 0, 1) := by decide +kernel
theorem dX8_scoreOf_136 : decode cX8_scoreOf 136 = .ok (.iload_n 2, 1) := by decide +kernel
theorem dX8_scoreOf_137 : decode cX8_scoreOf 137 = .ok (.invokevirtual 95, 3) := by decide +kernel
theorem dX8_scoreOf_140 : decode cX8_scoreOf 140 = .ok (.if_icmp .ne 14, 3) := by decide +kernel
theorem dX8_scoreOf_143 : decode cX8_scoreOf 143 = .ok (.iload_n 3, 1) := by decide +kernel
theorem dX8_scoreOf_144 : decode cX8_scoreOf 144 = .ok (.aload_n 0, 1) := by decide +kernel
theorem dX8_scoreOf_145 : decode cX8_scoreOf 145 = .ok (.getfield 76, 3) := by decide +kernel
theorem dX8_scoreOf_148 : decode cX8_scoreOf 148 = .ok (.iconst 2, 1) := by decide +kernel
theorem dX8_scoreOf_149 : decode cX8_scoreOf 149 = .ok (.idiv, 1) := by decide +kernel
theorem dX8_scoreOf_150 : decode cX8_scoreOf 150 = .ok (.iadd, 1) := by decide +kernel
theorem dX8_scoreOf_151 : decode cX8_scoreOf 151 = .ok (.goto 4, 3) := by decide +kernel
theorem dX8_scoreOf_154 : decode cX8_scoreOf 154 = .ok (.iload_n 3, 1) := by decide +kernel
theorem dX8_scoreOf_155 : decode cX8_scoreOf 155 = .ok (.ireturn, 1) := by decide +kernel
theorem dX8_linkOf_0 : decode cX8_linkOf 0 = .ok (.aload_n 0, 1) := by decide +kernel
theorem dX8_linkOf_1 : decode cX8_linkOf 1 = .ok (.getfield 32, 3) := by decide +kernel
theorem dX8_linkOf_4 : decode cX8_linkOf 4 = .ok (.bipush 40, 2) := by decide +kernel
theorem dX8_linkOf_6 : decode cX8_linkOf 6 = .ok (.iload_n 1, 1) := by decide +kernel
theorem dX8_linkOf_7 : decode cX8_linkOf 7 = .ok (.imul, 1) := by decide +kernel
theorem dX8_linkOf_8 : decode cX8_linkOf 8 = .ok (.iload_n 2, 1) := by decide +kernel
theorem dX8_linkOf_9 : decode cX8_linkOf 9 = .ok (.iadd, 1) := by decide +kernel
theorem dX8_linkOf_10 : decode cX8_linkOf 10 = .ok (.caload, 1) := by decide +kernel
theorem dX8_linkOf_11 : decode cX8_linkOf 11 = .ok (.istore_n 3, 1) := by decide +kernel
theorem dX8_linkOf_12 : decode cX8_linkOf 12 = .ok (.iload_n 3, 1) := by decide +kernel
theorem dX8_linkOf_13 : decode cX8_linkOf 13 = .ok (.ifCond .eq 5, 3) := by decide +kernel
theorem dX8_linkOf_16 : decode cX8_linkOf 16 = .ok (.iload_n 3, 1) := by decide +kernel
theorem dX8_linkOf_17 : decode cX8_linkOf 17 = .ok (.ireturn, 1) := by decide +kernel
theorem dX8_linkOf_18 : decode cX8_linkOf 18 = .ok (.aload_n 0, 1) := by decide +kernel
theorem dX8_linkOf_19 : decode cX8_linkOf 19 = .ok (.iload_n 1, 1) := by decide +kernel
theorem dX8_linkOf_20 : decode cX8_linkOf 20 = .ok (.iload_n 2, 1) := by decide +kernel
theorem dX8_linkOf_21 : decode cX8_linkOf 21 = .ok (.invokevirtual 99, 3) := by decide +kernel
theorem dX8_linkOf_24 : decode cX8_linkOf 24 = .ok (.istore 4, 2) := by decide +kernel
theorem dX8_linkOf_26 : decode cX8_linkOf 26 = .ok (.iload 4, 2) := by decide +kernel
theorem dX8_linkOf_28 : decode cX8_linkOf 28 = .ok (.aload_n 0, 1) := by decide +kernel
theorem dX8_linkOf_29 : decode cX8_linkOf 29 = .ok (.getfield 82, 3) := by decide +kernel
theorem dX8_linkOf_32 : decode cX8_linkOf 32 = .ok (.if_icmp .lt 6, 3) := by decide +kernel
theorem dX8_linkOf_35 : decode cX8_linkOf 35 = .ok (.bipush 121, 2) := by decide +kernel
theorem dX8_linkOf_37 : decode cX8_linkOf 37 = .ok (.ireturn, 1) := by decide +kernel
theorem dX8_linkOf_38 : decode cX8_linkOf 38 = .ok (.iload 4, 2) := by decide +kernel
theorem dX8_linkOf_40 : decode cX8_linkOf 40 = .ok (.aload_n 0, 1) := by decide +kernel
theorem dX8_linkOf_41 : decode cX8_linkOf 41 = .ok (.getfield 79, 3) := by decide +kernel
theorem dX8_linkOf_44 : decode cX8_linkOf 44 = .ok (.if_icmp .lt 8, 3) := by decide +kernel
theorem dX8_linkOf_47 : decode cX8_linkOf 47 = .ok (.bipush 63, 2) := by decide +kernel
theorem dX8_linkOf_49 : decode cX8_linkOf 49 = .ok (.goto 5, 3) := by decide +kernel
theorem dX8_linkOf_52 : decode cX8_linkOf 52 = .ok (.bipush 110, 2) := by decide +kernel
theorem dX8_linkOf_54 : decode cX8_linkOf 54 = .ok (.ireturn, 1) := by decide +kernel
theorem dX8_layDoubles_0 : decode cX8_layDoubles 0 = .ok (.iconst 0, 1) := by decide +kernel
theorem dX8_layDoubles_1 : decode cX8_layDoubles 1 = .ok (.istore_n 1, 1) := by decide +kernel
theorem dX8_layDoubles_2 : decode cX8_layDoubles 2 = .ok (.iload_n 1, 1) := by decide +kernel
theorem dX8_layDoubles_3 : decode cX8_layDoubles 3 = .ok (.aload_n 0, 1) := by decide +kernel
theorem dX8_layDoubles_4 : decode cX8_layDoubles 4 = .ok (.getfield 64, 3) := by decide +kernel
theorem dX8_layDoubles_7 : decode cX8_layDoubles 7 = .ok (.if_icmp .ge 78, 3) := by decide +kernel
theorem dX8_layDoubles_10 : decode cX8_layDoubles 10 = .ok (.aload_n 0, 1) := by decide +kernel
theorem dX8_layDoubles_11 : decode cX8_layDoubles 11 = .ok (.getfield 35, 3) := by decide +kernel
theorem dX8_layDoubles_14 : decode cX8_layDoubles 14 = .ok (.iload_n 1, 1) := by decide +kernel
theorem dX8_layDoubles_15 : decode cX8_layDoubles 15 = .ok (.iconst 0, 1) := by decide +kernel
theorem dX8_layDoubles_16 : decode cX8_layDoubles 16 = .ok (.bastore, 1) := by decide +kernel
theorem dX8_layDoubles_17 : decode cX8_layDoubles 17 = .ok (.iconst 0, 1) := by decide +kernel
theorem dX8_layDoubles_18 : decode cX8_layDoubles 18 = .ok (.istore_n 2, 1) := by decide +kernel
theorem dX8_layDoubles_19 : decode cX8_layDoubles 19 = .ok (.iload_n 2, 1) := by decide +kernel
theorem dX8_layDoubles_20 : decode cX8_layDoubles 20 = .ok (.iload_n 1, 1) := by decide +kernel
theorem dX8_layDoubles_21 : decode cX8_layDoubles 21 = .ok (.if_icmp .ge 58, 3) := by decide +kernel
theorem dX8_layDoubles_24 : decode cX8_layDoubles 24 = .ok (.aload_n 0, 1) := by decide +kernel
theorem dX8_layDoubles_25 : decode cX8_layDoubles 25 = .ok (.getfield 28, 3) := by decide +kernel
theorem dX8_layDoubles_28 : decode cX8_layDoubles 28 = .ok (.iload_n 1, 1) := by decide +kernel
theorem dX8_layDoubles_29 : decode cX8_layDoubles 29 = .ok (.caload, 1) := by decide +kernel
theorem dX8_layDoubles_30 : decode cX8_layDoubles 30 = .ok (.bipush 99, 2) := by decide +kernel
theorem dX8_layDoubles_32 : decode cX8_layDoubles 32 = .ok (.if_icmp .ne 47, 3) := by decide +kernel
theorem dX8_layDoubles_35 : decode cX8_layDoubles 35 = .ok (.aload_n 0, 1) := by decide +kernel
theorem dX8_layDoubles_36 : decode cX8_layDoubles 36 = .ok (.getfield 28, 3) := by decide +kernel
theorem dX8_layDoubles_39 : decode cX8_layDoubles 39 = .ok (.iload_n 2, 1) := by decide +kernel
theorem dX8_layDoubles_40 : decode cX8_layDoubles 40 = .ok (.caload, 1) := by decide +kernel
theorem dX8_layDoubles_41 : decode cX8_layDoubles 41 = .ok (.bipush 99, 2) := by decide +kernel
theorem dX8_layDoubles_43 : decode cX8_layDoubles 43 = .ok (.if_icmp .ne 30, 3) := by decide +kernel
theorem dX8_layDoubles_46 : decode cX8_layDoubles 46 = .ok (.aload_n 0, 1) := by decide +kernel
theorem dX8_layDoubles_47 : decode cX8_layDoubles 47 = .ok (.getfield 35, 3) := by decide +kernel
theorem dX8_layDoubles_50 : decode cX8_layDoubles 50 = .ok (.iload_n 2, 1) := by decide +kernel
theorem dX8_layDoubles_51 : decode cX8_layDoubles 51 = .ok (.baload, 1) := by decide +kernel
theorem dX8_layDoubles_52 : decode cX8_layDoubles 52 = .ok (.ifCond .ne 21, 3) := by decide +kernel
theorem dX8_layDoubles_55 : decode cX8_layDoubles 55 = .ok (.aload_n 0, 1) := by decide +kernel
theorem dX8_layDoubles_56 : decode cX8_layDoubles 56 = .ok (.iload_n 1, 1) := by decide +kernel
theorem dX8_layDoubles_57 : decode cX8_layDoubles 57 = .ok (.iload_n 2, 1) := by decide +kernel
theorem dX8_layDoubles_58 : decode cX8_layDoubles 58 = .ok (.invokevirtual 103, 3) := by decide +kernel
theorem dX8_layDoubles_61 : decode cX8_layDoubles 61 = .ok (.bipush 121, 2) := by decide +kernel
theorem dX8_layDoubles_63 : decode cX8_layDoubles 63 = .ok (.if_icmp .ne 10, 3) := by decide +kernel
theorem dX8_layDoubles_66 : decode cX8_layDoubles 66 = .ok (.aload_n 0, 1) := by decide +kernel
theorem dX8_layDoubles_67 : decode cX8_layDoubles 67 = .ok (.getfield 35, 3) := by decide +kernel
theorem dX8_layDoubles_70 : decode cX8_layDoubles 70 = .ok (.iload_n 1, 1) := by decide +kernel
theorem dX8_layDoubles_71 : decode cX8_layDoubles 71 = .ok (.iconst 1, 1) := by decide +kernel
theorem dX8_layDoubles_72 : decode cX8_layDoubles 72 = .ok (.bastore, 1) := by decide +kernel
theorem dX8_layDoubles_73 : decode cX8_layDoubles 73 = .ok (.iinc 2 1, 3) := by decide +kernel
theorem dX8_layDoubles_76 : decode cX8_layDoubles 76 = .ok (.goto (-57), 3) := by decide +kernel
theorem dX8_layDoubles_79 : decode cX8_layDoubles 79 = .ok (.iinc 1 1, 3) := by decide +kernel
theorem dX8_layDoubles_82 : decode cX8_layDoubles 82 = .ok (.goto (-80), 3) := by decide +kernel
theorem dX8_layDoubles_85 : decode cX8_layDoubles 85 = .ok (.return_, 1) := by decide +kernel
theorem dX8_isCounted_0 : decode cX8_isCounted 0 = .ok (.aload_n 0, 1) := by decide +kernel
theorem dX8_isCounted_1 : decode cX8_isCounted 1 = .ok (.getfield 28, 3) := by decide +kernel
theorem dX8_isCounted_4 : decode cX8_isCounted 4 = .ok (.iload_n 1, 1) := by decide +kernel
theorem dX8_isCounted_5 : decode cX8_isCounted 5 = .ok (.caload, 1) := by decide +kernel
theorem dX8_isCounted_6 : decode cX8_isCounted 6 = .ok (.bipush 99, 2) := by decide +kernel
theorem dX8_isCounted_8 : decode cX8_isCounted 8 = .ok (.if_icmp .ne 16, 3) := by decide +kernel
theorem dX8_isCounted_11 : decode cX8_isCounted 11 = .ok (.aload_n 0, 1) := by decide +kernel
theorem dX8_isCounted_12 : decode cX8_isCounted 12 = .ok (.getfield 35, 3) := by decide +kernel
theorem dX8_isCounted_15 : decode cX8_isCounted 15 = .ok (.iload_n 1, 1) := by decide +kernel
theorem dX8_isCounted_16 : decode cX8_isCounted 16 = .ok (.baload, 1) := by decide +kernel
theorem dX8_isCounted_17 : decode cX8_isCounted 17 = .ok (.ifCond .ne 7, 3) := by decide +kernel
theorem dX8_isCounted_20 : decode cX8_isCounted 20 = .ok (.iconst 1, 1) := by decide +kernel
theorem dX8_isCounted_21 : decode cX8_isCounted 21 = .ok (.goto 4, 3) := by decide +kernel
theorem dX8_isCounted_24 : decode cX8_isCounted 24 = .ok (.iconst 0, 1) := by decide +kernel
theorem dX8_isCounted_25 : decode cX8_isCounted 25 = .ok (.ireturn, 1) := by decide +kernel
theorem dX8_layCounts_0 : decode cX8_layCounts 0 = .ok (.aload_n 0, 1) := by decide +kernel
theorem dX8_layCounts_1 : decode cX8_layCounts 1 = .ok (.invokevirtual 107, 3) := by decide +kernel
theorem dX8_layCounts_4 : decode cX8_layCounts 4 = .ok (.iconst 0, 1) := by decide +kernel
theorem dX8_layCounts_5 : decode cX8_layCounts 5 = .ok (.istore_n 1, 1) := by decide +kernel
theorem dX8_layCounts_6 : decode cX8_layCounts 6 = .ok (.iload_n 1, 1) := by decide +kernel
theorem dX8_layCounts_7 : decode cX8_layCounts 7 = .ok (.bipush 24, 2) := by decide +kernel
theorem dX8_layCounts_9 : decode cX8_layCounts 9 = .ok (.if_icmp .ge 16, 3) := by decide +kernel
theorem dX8_layCounts_12 : decode cX8_layCounts 12 = .ok (.aload_n 0, 1) := by decide +kernel
theorem dX8_layCounts_13 : decode cX8_layCounts 13 = .ok (.getfield 25, 3) := by decide +kernel
theorem dX8_layCounts_16 : decode cX8_layCounts 16 = .ok (.iload_n 1, 1) := by decide +kernel
theorem dX8_layCounts_17 : decode cX8_layCounts 17 = .ok (.iconst 0, 1) := by decide +kernel
theorem dX8_layCounts_18 : decode cX8_layCounts 18 = .ok (.iastore, 1) := by decide +kernel
theorem dX8_layCounts_19 : decode cX8_layCounts 19 = .ok (.iinc 1 1, 3) := by decide +kernel
theorem dX8_layCounts_22 : decode cX8_layCounts 22 = .ok (.goto (-16), 3) := by decide +kernel
theorem dX8_layCounts_25 : decode cX8_layCounts 25 = .ok (.iconst 0, 1) := by decide +kernel
theorem dX8_layCounts_26 : decode cX8_layCounts 26 = .ok (.istore_n 1, 1) := by decide +kernel
theorem dX8_layCounts_27 : decode cX8_layCounts 27 = .ok (.iload_n 1, 1) := by decide +kernel
theorem dX8_layCounts_28 : decode cX8_layCounts 28 = .ok (.aload_n 0, 1) := by decide +kernel
theorem dX8_layCounts_29 : decode cX8_layCounts 29 = .ok (.getfield 64, 3) := by decide +kernel
theorem dX8_layCounts_32 : decode cX8_layCounts 32 = .ok (.if_icmp .ge 43, 3) := by decide +kernel
theorem dX8_layCounts_35 : decode cX8_layCounts 35 = .ok (.aload_n 0, 1) := by decide +kernel
theorem dX8_layCounts_36 : decode cX8_layCounts 36 = .ok (.iload_n 1, 1) := by decide +kernel
theorem dX8_layCounts_37 : decode cX8_layCounts 37 = .ok (.invokevirtual 110, 3) := by decide +kernel
theorem dX8_layCounts_40 : decode cX8_layCounts 40 = .ok (.ifCond .eq 29, 3) := by decide +kernel
theorem dX8_layCounts_43 : decode cX8_layCounts 43 = .ok (.aload_n 0, 1) := by decide +kernel
theorem dX8_layCounts_44 : decode cX8_layCounts 44 = .ok (.getfield 25, 3) := by decide +kernel
theorem dX8_layCounts_47 : decode cX8_layCounts 47 = .ok (.iconst 4, 1) := by decide +kernel
theorem dX8_layCounts_48 : decode cX8_layCounts 48 = .ok (.aload_n 0, 1) := by decide +kernel
theorem dX8_layCounts_49 : decode cX8_layCounts 49 = .ok (.iload_n 1, 1) := by decide +kernel
theorem dX8_layCounts_50 : decode cX8_layCounts 50 = .ok (.invokevirtual 95, 3) := by decide +kernel
theorem dX8_layCounts_53 : decode cX8_layCounts 53 = .ok (.imul, 1) := by decide +kernel
theorem dX8_layCounts_54 : decode cX8_layCounts 54 = .ok (.aload_n 0, 1) := by decide +kernel
theorem dX8_layCounts_55 : decode cX8_layCounts 55 = .ok (.getfield 19, 3) := by decide +kernel
theorem dX8_layCounts_58 : decode cX8_layCounts 58 = .ok (.iload_n 1, 1) := by decide +kernel
theorem dX8_layCounts_59 : decode cX8_layCounts 59 = .ok (.iaload, 1) := by decide +kernel
theorem dX8_layCounts_60 : decode cX8_layCounts 60 = .ok (.invokestatic 114, 3) := by decide +kernel
theorem dX8_layCounts_63 : decode cX8_layCounts 63 = .ok (.iadd, 1) := by decide +kernel
theorem dX8_layCounts_64 : decode cX8_layCounts 64 = .ok (.dup2, 1) := by decide +kernel
theorem dX8_layCounts_65 : decode cX8_layCounts 65 = .ok (.iaload, 1) := by decide +kernel
theorem dX8_layCounts_66 : decode cX8_layCounts 66 = .ok (.iconst 1, 1) := by decide +kernel
theorem dX8_layCounts_67 : decode cX8_layCounts 67 = .ok (.iadd, 1) := by decide +kernel
theorem dX8_layCounts_68 : decode cX8_layCounts 68 = .ok (.iastore, 1) := by decide +kernel
theorem dX8_layCounts_69 : decode cX8_layCounts 69 = .ok (.iinc 1 1, 3) := by decide +kernel
theorem dX8_layCounts_72 : decode cX8_layCounts 72 = .ok (.goto (-45), 3) := by decide +kernel
theorem dX8_layCounts_75 : decode cX8_layCounts 75 = .ok (.return_, 1) := by decide +kernel
theorem dX8_layMatches_0 : decode cX8_layMatches 0 = .ok (.aload_n 0, 1) := by decide +kernel
theorem dX8_layMatches_1 : decode cX8_layMatches 1 = .ok (.invokevirtual 107, 3) := by decide +kernel
theorem dX8_layMatches_4 : decode cX8_layMatches 4 = .ok (.aload_n 0, 1) := by decide +kernel
theorem dX8_layMatches_5 : decode cX8_layMatches 5 = .ok (.iconst 0, 1) := by decide +kernel
theorem dX8_layMatches_6 : decode cX8_layMatches 6 = .ok (.putfield 85, 3) := by decide +kernel
theorem dX8_layMatches_9 : decode cX8_layMatches 9 = .ok (.aload_n 0, 1) := by decide +kernel
theorem dX8_layMatches_10 : decode cX8_layMatches 10 = .ok (.iconst 0, 1) := by decide +kernel
theorem dX8_layMatches_11 : decode cX8_layMatches 11 = .ok (.putfield 88, 3) := by decide +kernel
theorem dX8_layMatches_14 : decode cX8_layMatches 14 = .ok (.iconst 0, 1) := by decide +kernel
theorem dX8_layMatches_15 : decode cX8_layMatches 15 = .ok (.istore_n 1, 1) := by decide +kernel
theorem dX8_layMatches_16 : decode cX8_layMatches 16 = .ok (.iload_n 1, 1) := by decide +kernel
theorem dX8_layMatches_17 : decode cX8_layMatches 17 = .ok (.aload_n 0, 1) := by decide +kernel
theorem dX8_layMatches_18 : decode cX8_layMatches 18 = .ok (.getfield 64, 3) := by decide +kernel
theorem dX8_layMatches_21 : decode cX8_layMatches 21 = .ok (.if_icmp .ge 16, 3) := by decide +kernel
theorem dX8_layMatches_24 : decode cX8_layMatches 24 = .ok (.aload_n 0, 1) := by decide +kernel
theorem dX8_layMatches_25 : decode cX8_layMatches 25 = .ok (.getfield 22, 3) := by decide +kernel
theorem dX8_layMatches_28 : decode cX8_layMatches 28 = .ok (.iload_n 1, 1) := by decide +kernel
theorem dX8_layMatches_29 : decode cX8_layMatches 29 = .ok (.iconst (-1), 1) := by decide +kernel
theorem dX8_layMatches_30 : decode cX8_layMatches 30 = .ok (.iastore, 1) := by decide +kernel
theorem dX8_layMatches_31 : decode cX8_layMatches 31 = .ok (.iinc 1 1, 3) := by decide +kernel
theorem dX8_layMatches_34 : decode cX8_layMatches 34 = .ok (.goto (-18), 3) := by decide +kernel
theorem dX8_layMatches_37 : decode cX8_layMatches 37 = .ok (.bipush 27, 2) := by decide +kernel
theorem dX8_layMatches_39 : decode cX8_layMatches 39 = .ok (.istore_n 1, 1) := by decide +kernel
theorem dX8_layMatches_40 : decode cX8_layMatches 40 = .ok (.iload_n 1, 1) := by decide +kernel
theorem dX8_layMatches_41 : decode cX8_layMatches 41 = .ok (.ifCond .lt 136, 3) := by decide +kernel
theorem dX8_layMatches_44 : decode cX8_layMatches 44 = .ok (.iconst 0, 1) := by decide +kernel
theorem dX8_layMatches_45 : decode cX8_layMatches 45 = .ok (.istore_n 2, 1) := by decide +kernel
theorem dX8_layMatches_46 : decode cX8_layMatches 46 = .ok (.iload_n 2, 1) := by decide +kernel
theorem dX8_layMatches_47 : decode cX8_layMatches 47 = .ok (.aload_n 0, 1) := by decide +kernel
theorem dX8_layMatches_48 : decode cX8_layMatches 48 = .ok (.getfield 64, 3) := by decide +kernel
theorem dX8_layMatches_51 : decode cX8_layMatches 51 = .ok (.if_icmp .ge 120, 3) := by decide +kernel
theorem dX8_layMatches_54 : decode cX8_layMatches 54 = .ok (.iconst 0, 1) := by decide +kernel
theorem dX8_layMatches_55 : decode cX8_layMatches 55 = .ok (.istore_n 3, 1) := by decide +kernel
theorem dX8_layMatches_56 : decode cX8_layMatches 56 = .ok (.iload_n 3, 1) := by decide +kernel
theorem dX8_layMatches_57 : decode cX8_layMatches 57 = .ok (.aload_n 0, 1) := by decide +kernel
theorem dX8_layMatches_58 : decode cX8_layMatches 58 = .ok (.getfield 64, 3) := by decide +kernel
theorem dX8_layMatches_61 : decode cX8_layMatches 61 = .ok (.if_icmp .ge 104, 3) := by decide +kernel
theorem dX8_layMatches_64 : decode cX8_layMatches 64 = .ok (.aload_n 0, 1) := by decide +kernel
theorem dX8_layMatches_65 : decode cX8_layMatches 65 = .ok (.iload_n 2, 1) := by decide +kernel
theorem dX8_layMatches_66 : decode cX8_layMatches 66 = .ok (.invokevirtual 110, 3) := by decide +kernel
theorem dX8_layMatches_69 : decode cX8_layMatches 69 = .ok (.ifCond .eq 90, 3) := by decide +kernel
theorem dX8_layMatches_72 : decode cX8_layMatches 72 = .ok (.aload_n 0, 1) := by decide +kernel
theorem dX8_layMatches_73 : decode cX8_layMatches 73 = .ok (.getfield 28, 3) := by decide +kernel
theorem dX8_layMatches_76 : decode cX8_layMatches 76 = .ok (.iload_n 3, 1) := by decide +kernel
theorem dX8_layMatches_77 : decode cX8_layMatches 77 = .ok (.caload, 1) := by decide +kernel
theorem dX8_layMatches_78 : decode cX8_layMatches 78 = .ok (.bipush 107, 2) := by decide +kernel
theorem dX8_layMatches_80 : decode cX8_layMatches 80 = .ok (.if_icmp .ne 79, 3) := by decide +kernel
theorem dX8_layMatches_83 : decode cX8_layMatches 83 = .ok (.aload_n 0, 1) := by decide +kernel
theorem dX8_layMatches_84 : decode cX8_layMatches 84 = .ok (.getfield 22, 3) := by decide +kernel
theorem dX8_layMatches_87 : decode cX8_layMatches 87 = .ok (.iload_n 2, 1) := by decide +kernel
theorem dX8_layMatches_88 : decode cX8_layMatches 88 = .ok (.iaload, 1) := by decide +kernel
theorem dX8_layMatches_89 : decode cX8_layMatches 89 = .ok (.ifCond .ge 70, 3) := by decide +kernel
theorem dX8_layMatches_92 : decode cX8_layMatches 92 = .ok (.aload_n 0, 1) := by decide +kernel
theorem dX8_layMatches_93 : decode cX8_layMatches 93 = .ok (.getfield 22, 3) := by decide +kernel
theorem dX8_layMatches_96 : decode cX8_layMatches 96 = .ok (.iload_n 3, 1) := by decide +kernel
theorem dX8_layMatches_97 : decode cX8_layMatches 97 = .ok (.iaload, 1) := by decide +kernel
theorem dX8_layMatches_98 : decode cX8_layMatches 98 = .ok (.ifCond .ge 61, 3) := by decide +kernel
theorem dX8_layMatches_101 : decode cX8_layMatches 101 = .ok (.aload_n 0, 1) := by decide +kernel
theorem dX8_layMatches_102 : decode cX8_layMatches 102 = .ok (.iload_n 2, 1) := by decide +kernel
theorem dX8_layMatches_103 : decode cX8_layMatches 103 = .ok (.iload_n 3, 1) := by decide +kernel
theorem dX8_layMatches_104 : decode cX8_layMatches 104 = .ok (.invokevirtual 99, 3) := by decide +kernel
theorem dX8_layMatches_107 : decode cX8_layMatches 107 = .ok (.iload_n 1, 1) := by decide +kernel
theorem dX8_layMatches_108 : decode cX8_layMatches 108 = .ok (.if_icmp .ne 51, 3) := by decide +kernel
theorem dX8_layMatches_111 : decode cX8_layMatches 111 = .ok (.aload_n 0, 1) := by decide +kernel
theorem dX8_layMatches_112 : decode cX8_layMatches 112 = .ok (.iload_n 2, 1) := by decide +kernel
theorem dX8_layMatches_113 : decode cX8_layMatches 113 = .ok (.iload_n 3, 1) := by decide +kernel
theorem dX8_layMatches_114 : decode cX8_layMatches 114 = .ok (.invokevirtual 103, 3) := by decide +kernel
theorem dX8_layMatches_117 : decode cX8_layMatches 117 = .ok (.bipush 121, 2) := by decide +kernel
theorem dX8_layMatches_119 : decode cX8_layMatches 119 = .ok (.if_icmp .eq 6, 3) := by decide +kernel
theorem dX8_layMatches_122 : decode cX8_layMatches 122 = .ok (.goto 37, 3) := by decide +kernel
theorem dX8_layMatches_125 : decode cX8_layMatches 125 = .ok (.aload_n 0, 1) := by decide +kernel
theorem dX8_layMatches_126 : decode cX8_layMatches 126 = .ok (.getfield 22, 3) := by decide +kernel
theorem dX8_layMatches_129 : decode cX8_layMatches 129 = .ok (.iload_n 2, 1) := by decide +kernel
theorem dX8_layMatches_130 : decode cX8_layMatches 130 = .ok (.iload_n 3, 1) := by decide +kernel
theorem dX8_layMatches_131 : decode cX8_layMatches 131 = .ok (.iastore, 1) := by decide +kernel
theorem dX8_layMatches_132 : decode cX8_layMatches 132 = .ok (.aload_n 0, 1) := by decide +kernel
theorem dX8_layMatches_133 : decode cX8_layMatches 133 = .ok (.getfield 22, 3) := by decide +kernel
theorem dX8_layMatches_136 : decode cX8_layMatches 136 = .ok (.iload_n 3, 1) := by decide +kernel
theorem dX8_layMatches_137 : decode cX8_layMatches 137 = .ok (.iload_n 2, 1) := by decide +kernel
theorem dX8_layMatches_138 : decode cX8_layMatches 138 = .ok (.iastore, 1) := by decide +kernel
theorem dX8_layMatches_139 : decode cX8_layMatches 139 = .ok (.aload_n 0, 1) := by decide +kernel
theorem dX8_layMatches_140 : decode cX8_layMatches 140 = .ok (.dup, 1) := by decide +kernel
theorem dX8_layMatches_141 : decode cX8_layMatches 141 = .ok (.getfield 85, 3) := by decide +kernel
theorem dX8_layMatches_144 : decode cX8_layMatches 144 = .ok (.iconst 1, 1) := by decide +kernel
theorem dX8_layMatches_145 : decode cX8_layMatches 145 = .ok (.iadd, 1) := by decide +kernel
theorem dX8_layMatches_146 : decode cX8_layMatches 146 = .ok (.putfield 85, 3) := by decide +kernel
theorem dX8_layMatches_149 : decode cX8_layMatches 149 = .ok (.aload_n 0, 1) := by decide +kernel
theorem dX8_layMatches_150 : decode cX8_layMatches 150 = .ok (.dup, 1) := by decide +kernel
theorem dX8_layMatches_151 : decode cX8_layMatches 151 = .ok (.getfield 88, 3) := by decide +kernel
theorem dX8_layMatches_154 : decode cX8_layMatches 154 = .ok (.iload_n 1, 1) := by decide +kernel
theorem dX8_layMatches_155 : decode cX8_layMatches 155 = .ok (.iadd, 1) := by decide +kernel
theorem dX8_layMatches_156 : decode cX8_layMatches 156 = .ok (.putfield 88, 3) := by decide +kernel
theorem dX8_layMatches_159 : decode cX8_layMatches 159 = .ok (.iinc 3 1, 3) := by decide +kernel
theorem dX8_layMatches_162 : decode cX8_layMatches 162 = .ok (.goto (-106), 3) := by decide +kernel
theorem dX8_layMatches_165 : decode cX8_layMatches 165 = .ok (.iinc 2 1, 3) := by decide +kernel
theorem dX8_layMatches_168 : decode cX8_layMatches 168 = .ok (.goto (-122), 3) := by decide +kernel
theorem dX8_layMatches_171 : decode cX8_layMatches 171 = .ok (.iinc 1 (-1), 3) := by decide +kernel
theorem dX8_layMatches_174 : decode cX8_layMatches 174 = .ok (.goto (-134), 3) := by decide +kernel
theorem dX8_layMatches_177 : decode cX8_layMatches 177 = .ok (.return_, 1) := by decide +kernel
theorem dX8_looks_0 : decode cX8_looks 0 = .ok (.aload_n 0, 1) := by decide +kernel
theorem dX8_looks_1 : decode cX8_looks 1 = .ok (.invokevirtual 117, 3) := by decide +kernel
theorem dX8_looks_4 : decode cX8_looks 4 = .ok (.iconst 0, 1) := by decide +kernel
theorem dX8_looks_5 : decode cX8_looks 5 = .ok (.istore_n 1, 1) := by decide +kernel
theorem dX8_looks_6 : decode cX8_looks 6 = .ok (.iconst 0, 1) := by decide +kernel
theorem dX8_looks_7 : decode cX8_looks 7 = .ok (.istore_n 2, 1) := by decide +kernel
theorem dX8_looks_8 : decode cX8_looks 8 = .ok (.iload_n 2, 1) := by decide +kernel
theorem dX8_looks_9 : decode cX8_looks 9 = .ok (.aload_n 0, 1) := by decide +kernel
theorem dX8_looks_10 : decode cX8_looks 10 = .ok (.getfield 67, 3) := by decide +kernel
theorem dX8_looks_13 : decode cX8_looks 13 = .ok (.if_icmp .ge 100, 3) := by decide +kernel
theorem dX8_looks_16 : decode cX8_looks 16 = .ok (.aload_n 0, 1) := by decide +kernel
theorem dX8_looks_17 : decode cX8_looks 17 = .ok (.getfield 51, 3) := by decide +kernel
theorem dX8_looks_20 : decode cX8_looks 20 = .ok (.iload_n 2, 1) := by decide +kernel
theorem dX8_looks_21 : decode cX8_looks 21 = .ok (.iaload, 1) := by decide +kernel
theorem dX8_looks_22 : decode cX8_looks 22 = .ok (.aload_n 0, 1) := by decide +kernel
theorem dX8_looks_23 : decode cX8_looks 23 = .ok (.getfield 58, 3) := by decide +kernel
theorem dX8_looks_26 : decode cX8_looks 26 = .ok (.if_icmp .ne 7, 3) := by decide +kernel
theorem dX8_looks_29 : decode cX8_looks 29 = .ok (.iconst 1, 1) := by decide +kernel
theorem dX8_looks_30 : decode cX8_looks 30 = .ok (.goto 4, 3) := by decide +kernel
theorem dX8_looks_33 : decode cX8_looks 33 = .ok (.iconst 0, 1) := by decide +kernel
theorem dX8_looks_34 : decode cX8_looks 34 = .ok (.istore_n 3, 1) := by decide +kernel
theorem dX8_looks_35 : decode cX8_looks 35 = .ok (.iconst 0, 1) := by decide +kernel
theorem dX8_looks_36 : decode cX8_looks 36 = .ok (.istore 4, 2) := by decide +kernel
theorem dX8_looks_38 : decode cX8_looks 38 = .ok (.iload 4, 2) := by decide +kernel
theorem dX8_looks_40 : decode cX8_looks 40 = .ok (.bipush 24, 2) := by decide +kernel
theorem dX8_looks_42 : decode cX8_looks 42 = .ok (.if_icmp .ge 39, 3) := by decide +kernel
theorem dX8_looks_45 : decode cX8_looks 45 = .ok (.iload_n 3, 1) := by decide +kernel
theorem dX8_looks_46 : decode cX8_looks 46 = .ok (.aload_n 0, 1) := by decide +kernel
theorem dX8_looks_47 : decode cX8_looks 47 = .ok (.getfield 48, 3) := by decide +kernel
theorem dX8_looks_50 : decode cX8_looks 50 = .ok (.bipush 24, 2) := by decide +kernel
theorem dX8_looks_52 : decode cX8_looks 52 = .ok (.iload_n 2, 1) := by decide +kernel
theorem dX8_looks_53 : decode cX8_looks 53 = .ok (.imul, 1) := by decide +kernel
theorem dX8_looks_54 : decode cX8_looks 54 = .ok (.iload 4, 2) := by decide +kernel
theorem dX8_looks_56 : decode cX8_looks 56 = .ok (.iadd, 1) := by decide +kernel
theorem dX8_looks_57 : decode cX8_looks 57 = .ok (.iaload, 1) := by decide +kernel
theorem dX8_looks_58 : decode cX8_looks 58 = .ok (.aload_n 0, 1) := by decide +kernel
theorem dX8_looks_59 : decode cX8_looks 59 = .ok (.getfield 25, 3) := by decide +kernel
theorem dX8_looks_62 : decode cX8_looks 62 = .ok (.iload 4, 2) := by decide +kernel
theorem dX8_looks_64 : decode cX8_looks 64 = .ok (.iaload, 1) := by decide +kernel
theorem dX8_looks_65 : decode cX8_looks 65 = .ok (.if_icmp .ne 7, 3) := by decide +kernel
theorem dX8_looks_68 : decode cX8_looks 68 = .ok (.iconst 1, 1) := by decide +kernel
theorem dX8_looks_69 : decode cX8_looks 69 = .ok (.goto 4, 3) := by decide +kernel
theorem dX8_looks_72 : decode cX8_looks 72 = .ok (.iconst 0, 1) := by decide +kernel
theorem dX8_looks_73 : decode cX8_looks 73 = .ok (.iand, 1) := by decide +kernel
theorem dX8_looks_74 : decode cX8_looks 74 = .ok (.istore_n 3, 1) := by decide +kernel
theorem dX8_looks_75 : decode cX8_looks 75 = .ok (.iinc 4 1, 3) := by decide +kernel
theorem dX8_looks_78 : decode cX8_looks 78 = .ok (.goto (-40), 3) := by decide +kernel
theorem dX8_looks_81 : decode cX8_looks 81 = .ok (.iload_n 3, 1) := by decide +kernel
theorem dX8_looks_82 : decode cX8_looks 82 = .ok (.ifCond .ne 25, 3) := by decide +kernel
theorem dX8_looks_85 : decode cX8_looks 85 = .ok (.aload_n 0, 1) := by decide +kernel
theorem dX8_looks_86 : decode cX8_looks 86 = .ok (.getfield 39, 3) := by decide +kernel
theorem dX8_looks_89 : decode cX8_looks 89 = .ok (.iload_n 2, 1) := by decide +kernel
theorem dX8_looks_90 : decode cX8_looks 90 = .ok (.baload, 1) := by decide +kernel
theorem dX8_looks_91 : decode cX8_looks 91 = .ok (.ifCond .eq 6, 3) := by decide +kernel
theorem dX8_looks_94 : decode cX8_looks 94 = .ok (.goto 13, 3) := by decide +kernel
theorem dX8_looks_97 : decode cX8_looks 97 = .ok (.aload_n 0, 1) := by decide +kernel
theorem dX8_looks_98 : decode cX8_looks 98 = .ok (.getfield 39, 3) := by decide +kernel
theorem dX8_looks_101 : decode cX8_looks 101 = .ok (.iload_n 2, 1) := by decide +kernel
theorem dX8_looks_102 : decode cX8_looks 102 = .ok (.iconst 1, 1) := by decide +kernel
theorem dX8_looks_103 : decode cX8_looks 103 = .ok (.bastore, 1) := by decide +kernel
theorem dX8_looks_104 : decode cX8_looks 104 = .ok (.iinc 1 1, 3) := by decide +kernel
theorem dX8_looks_107 : decode cX8_looks 107 = .ok (.iinc 2 1, 3) := by decide +kernel
theorem dX8_looks_110 : decode cX8_looks 110 = .ok (.goto (-102), 3) := by decide +kernel
theorem dX8_looks_113 : decode cX8_looks 113 = .ok (.iload_n 1, 1) := by decide +kernel
theorem dX8_looks_114 : decode cX8_looks 114 = .ok (.ireturn, 1) := by decide +kernel
theorem dX8_addBlock_0 : decode cX8_addBlock 0 = .ok (.aload_n 0, 1) := by decide +kernel
theorem dX8_addBlock_1 : decode cX8_addBlock 1 = .ok (.aload_n 0, 1) := by decide +kernel
theorem dX8_addBlock_2 : decode cX8_addBlock 2 = .ok (.getfield 58, 3) := by decide +kernel
theorem dX8_addBlock_5 : decode cX8_addBlock 5 = .ok (.bipush 6, 2) := by decide +kernel
theorem dX8_addBlock_7 : decode cX8_addBlock 7 = .ok (.if_icmp .ge 7, 3) := by decide +kernel
theorem dX8_addBlock_10 : decode cX8_addBlock 10 = .ok (.iconst 1, 1) := by decide +kernel
theorem dX8_addBlock_11 : decode cX8_addBlock 11 = .ok (.goto 4, 3) := by decide +kernel
theorem dX8_addBlock_14 : decode cX8_addBlock 14 = .ok (.iconst 0, 1) := by decide +kernel
theorem dX8_addBlock_15 : decode cX8_addBlock 15 = .ok (.invokevirtual 120, 3) := by decide +kernel
theorem dX8_addBlock_18 : decode cX8_addBlock 18 = .ok (.ifCond .le 5, 3) := by decide +kernel
theorem dX8_addBlock_21 : decode cX8_addBlock 21 = .ok (.iconst 0, 1) := by decide +kernel
theorem dX8_addBlock_22 : decode cX8_addBlock 22 = .ok (.ireturn, 1) := by decide +kernel
theorem dX8_addBlock_23 : decode cX8_addBlock 23 = .ok (.aload_n 0, 1) := by decide +kernel
theorem dX8_addBlock_24 : decode cX8_addBlock 24 = .ok (.dup, 1) := by decide +kernel
theorem dX8_addBlock_25 : decode cX8_addBlock 25 = .ok (.getfield 58, 3) := by decide +kernel
theorem dX8_addBlock_28 : decode cX8_addBlock 28 = .ok (.iconst 1, 1) := by decide +kernel
theorem dX8_addBlock_29 : decode cX8_addBlock 29 = .ok (.iadd, 1) := by decide +kernel
theorem dX8_addBlock_30 : decode cX8_addBlock 30 = .ok (.putfield 58, 3) := by decide +kernel
theorem dX8_addBlock_33 : decode cX8_addBlock 33 = .ok (.aload_n 0, 1) := by decide +kernel
theorem dX8_addBlock_34 : decode cX8_addBlock 34 = .ok (.invokevirtual 124, 3) := by decide +kernel
theorem dX8_addBlock_37 : decode cX8_addBlock 37 = .ok (.istore_n 1, 1) := by decide +kernel
theorem dX8_addBlock_38 : decode cX8_addBlock 38 = .ok (.aload_n 0, 1) := by decide +kernel
theorem dX8_addBlock_39 : decode cX8_addBlock 39 = .ok (.getfield 58, 3) := by decide +kernel
theorem dX8_addBlock_42 : decode cX8_addBlock 42 = .ok (.iconst 1, 1) := by decide +kernel
theorem dX8_addBlock_43 : decode cX8_addBlock 43 = .ok (.isub, 1) := by decide +kernel
theorem dX8_addBlock_44 : decode cX8_addBlock 44 = .ok (.ireturn, 1) := by decide +kernel
theorem dX8_addAddress_0 : decode cX8_addAddress 0 = .ok (.aload_n 0, 1) := by decide +kernel
theorem dX8_addAddress_1 : decode cX8_addAddress 1 = .ok (.aload_n 0, 1) := by decide +kernel
theorem dX8_addAddress_2 : decode cX8_addAddress 2 = .ok (.iload_n 1, 1) := by decide +kernel
theorem dX8_addAddress_3 : decode cX8_addAddress 3 = .ok (.invokevirtual 128, 3) := by decide +kernel
theorem dX8_addAddress_6 : decode cX8_addAddress 6 = .ok (.ifCond .ne 7, 3) := by decide +kernel
theorem dX8_addAddress_9 : decode cX8_addAddress 9 = .ok (.iconst 1, 1) := by decide +kernel
theorem dX8_addAddress_10 : decode cX8_addAddress 10 = .ok (.goto 17, 3) := by decide +kernel
theorem dX8_addAddress_13 : decode cX8_addAddress 13 = .ok (.aload_n 0, 1) := by decide +kernel
theorem dX8_addAddress_14 : decode cX8_addAddress 14 = .ok (.getfield 61, 3) := by decide +kernel
theorem dX8_addAddress_17 : decode cX8_addAddress 17 = .ok (.bipush 20, 2) := by decide +kernel
theorem dX8_addAddress_19 : decode cX8_addAddress 19 = .ok (.if_icmp .ne 7, 3) := by decide +kernel
theorem dX8_addAddress_22 : decode cX8_addAddress 22 = .ok (.iconst 2, 1) := by decide +kernel
theorem dX8_addAddress_23 : decode cX8_addAddress 23 = .ok (.goto 4, 3) := by decide +kernel
theorem dX8_addAddress_26 : decode cX8_addAddress 26 = .ok (.iconst 0, 1) := by decide +kernel
theorem dX8_addAddress_27 : decode cX8_addAddress 27 = .ok (.putfield 54, 3) := by decide +kernel
theorem dX8_addAddress_30 : decode cX8_addAddress 30 = .ok (.aload_n 0, 1) := by decide +kernel
theorem dX8_addAddress_31 : decode cX8_addAddress 31 = .ok (.getfield 54, 3) := by decide +kernel
theorem dX8_addAddress_34 : decode cX8_addAddress 34 = .ok (.ifCond .le 5, 3) := by decide +kernel
theorem dX8_addAddress_37 : decode cX8_addAddress 37 = .ok (.iconst 0, 1) := by decide +kernel
theorem dX8_addAddress_38 : decode cX8_addAddress 38 = .ok (.ireturn, 1) := by decide +kernel
theorem dX8_addAddress_39 : decode cX8_addAddress 39 = .ok (.aload_n 0, 1) := by decide +kernel
theorem dX8_addAddress_40 : decode cX8_addAddress 40 = .ok (.getfield 7, 3) := by decide +kernel
theorem dX8_addAddress_43 : decode cX8_addAddress 43 = .ok (.aload_n 0, 1) := by decide +kernel
theorem dX8_addAddress_44 : decode cX8_addAddress 44 = .ok (.getfield 61, 3) := by decide +kernel
theorem dX8_addAddress_47 : decode cX8_addAddress 47 = .ok (.iload_n 1, 1) := by decide +kernel
theorem dX8_addAddress_48 : decode cX8_addAddress 48 = .ok (.iastore, 1) := by decide +kernel
theorem dX8_addAddress_49 : decode cX8_addAddress 49 = .ok (.aload_n 0, 1) := by decide +kernel
theorem dX8_addAddress_50 : decode cX8_addAddress 50 = .ok (.dup, 1) := by decide +kernel
theorem dX8_addAddress_51 : decode cX8_addAddress 51 = .ok (.getfield 61, 3) := by decide +kernel
theorem dX8_addAddress_54 : decode cX8_addAddress 54 = .ok (.iconst 1, 1) := by decide +kernel
theorem dX8_addAddress_55 : decode cX8_addAddress 55 = .ok (.iadd, 1) := by decide +kernel
theorem dX8_addAddress_56 : decode cX8_addAddress 56 = .ok (.putfield 61, 3) := by decide +kernel
theorem dX8_addAddress_59 : decode cX8_addAddress 59 = .ok (.aload_n 0, 1) := by decide +kernel
theorem dX8_addAddress_60 : decode cX8_addAddress 60 = .ok (.getfield 61, 3) := by decide +kernel
theorem dX8_addAddress_63 : decode cX8_addAddress 63 = .ok (.iconst 1, 1) := by decide +kernel
theorem dX8_addAddress_64 : decode cX8_addAddress 64 = .ok (.isub, 1) := by decide +kernel
theorem dX8_addAddress_65 : decode cX8_addAddress 65 = .ok (.ireturn, 1) := by decide +kernel
theorem dX8_split_0 : decode cX8_split 0 = .ok (.aload_n 0, 1) := by decide +kernel
theorem dX8_split_1 : decode cX8_split 1 = .ok (.aload_n 0, 1) := by decide +kernel
theorem dX8_split_2 : decode cX8_split 2 = .ok (.iload_n 1, 1) := by decide +kernel
theorem dX8_split_3 : decode cX8_split 3 = .ok (.invokevirtual 128, 3) := by decide +kernel
theorem dX8_split_6 : decode cX8_split 6 = .ok (.ifCond .ne 7, 3) := by decide +kernel
theorem dX8_split_9 : decode cX8_split 9 = .ok (.iconst 1, 1) := by decide +kernel
theorem dX8_split_10 : decode cX8_split 10 = .ok (.goto 45, 3) := by decide +kernel
theorem dX8_split_13 : decode cX8_split 13 = .ok (.iload_n 2, 1) := by decide +kernel
theorem dX8_split_14 : decode cX8_split 14 = .ok (.iconst 0, 1) := by decide +kernel
theorem dX8_split_15 : decode cX8_split 15 = .ok (.aload_n 0, 1) := by decide +kernel
theorem dX8_split_16 : decode cX8_split 16 = .ok (.getfield 61, 3) := by decide +kernel
theorem dX8_split_19 : decode cX8_split 19 = .ok (.iconst 1, 1) := by decide +kernel
theorem dX8_split_20 : decode cX8_split 20 = .ok (.isub, 1) := by decide +kernel
theorem dX8_split_21 : decode cX8_split 21 = .ok (.invokestatic 91, 3) := by decide +kernel
theorem dX8_split_24 : decode cX8_split 24 = .ok (.ifCond .eq 13, 3) := by decide +kernel
theorem dX8_split_27 : decode cX8_split 27 = .ok (.aload_n 0, 1) := by decide +kernel
theorem dX8_split_28 : decode cX8_split 28 = .ok (.getfield 7, 3) := by decide +kernel
theorem dX8_split_31 : decode cX8_split 31 = .ok (.iload_n 2, 1) := by decide +kernel
theorem dX8_split_32 : decode cX8_split 32 = .ok (.iaload, 1) := by decide +kernel
theorem dX8_split_33 : decode cX8_split 33 = .ok (.iload_n 1, 1) := by decide +kernel
theorem dX8_split_34 : decode cX8_split 34 = .ok (.if_icmp .eq 7, 3) := by decide +kernel
theorem dX8_split_37 : decode cX8_split 37 = .ok (.iconst 2, 1) := by decide +kernel
theorem dX8_split_38 : decode cX8_split 38 = .ok (.goto 17, 3) := by decide +kernel
theorem dX8_split_41 : decode cX8_split 41 = .ok (.aload_n 0, 1) := by decide +kernel
theorem dX8_split_42 : decode cX8_split 42 = .ok (.getfield 58, 3) := by decide +kernel
theorem dX8_split_45 : decode cX8_split 45 = .ok (.bipush 6, 2) := by decide +kernel
theorem dX8_split_47 : decode cX8_split 47 = .ok (.if_icmp .ne 7, 3) := by decide +kernel
theorem dX8_split_50 : decode cX8_split 50 = .ok (.iconst 3, 1) := by decide +kernel
theorem dX8_split_51 : decode cX8_split 51 = .ok (.goto 4, 3) := by decide +kernel
theorem dX8_split_54 : decode cX8_split 54 = .ok (.iconst 0, 1) := by decide +kernel
theorem dX8_split_55 : decode cX8_split 55 = .ok (.putfield 54, 3) := by decide +kernel
theorem dX8_split_58 : decode cX8_split 58 = .ok (.aload_n 0, 1) := by decide +kernel
theorem dX8_split_59 : decode cX8_split 59 = .ok (.getfield 54, 3) := by decide +kernel
theorem dX8_split_62 : decode cX8_split 62 = .ok (.ifCond .le 5, 3) := by decide +kernel
theorem dX8_split_65 : decode cX8_split 65 = .ok (.iconst 0, 1) := by decide +kernel
theorem dX8_split_66 : decode cX8_split 66 = .ok (.ireturn, 1) := by decide +kernel
theorem dX8_split_67 : decode cX8_split 67 = .ok (.iload_n 2, 1) := by decide +kernel
theorem dX8_split_68 : decode cX8_split 68 = .ok (.istore_n 3, 1) := by decide +kernel
theorem dX8_split_69 : decode cX8_split 69 = .ok (.iload_n 3, 1) := by decide +kernel
theorem dX8_split_70 : decode cX8_split 70 = .ok (.aload_n 0, 1) := by decide +kernel
theorem dX8_split_71 : decode cX8_split 71 = .ok (.getfield 61, 3) := by decide +kernel
theorem dX8_split_74 : decode cX8_split 74 = .ok (.if_icmp .ge 29, 3) := by decide +kernel
theorem dX8_split_77 : decode cX8_split 77 = .ok (.aload_n 0, 1) := by decide +kernel
theorem dX8_split_78 : decode cX8_split 78 = .ok (.getfield 7, 3) := by decide +kernel
theorem dX8_split_81 : decode cX8_split 81 = .ok (.iload_n 3, 1) := by decide +kernel
theorem dX8_split_82 : decode cX8_split 82 = .ok (.iaload, 1) := by decide +kernel
theorem dX8_split_83 : decode cX8_split 83 = .ok (.iload_n 1, 1) := by decide +kernel
theorem dX8_split_84 : decode cX8_split 84 = .ok (.if_icmp .ne 13, 3) := by decide +kernel
theorem dX8_split_87 : decode cX8_split 87 = .ok (.aload_n 0, 1) := by decide +kernel
theorem dX8_split_88 : decode cX8_split 88 = .ok (.getfield 7, 3) := by decide +kernel
theorem dX8_split_91 : decode cX8_split 91 = .ok (.iload_n 3, 1) := by decide +kernel
theorem dX8_split_92 : decode cX8_split 92 = .ok (.aload_n 0, 1) := by decide +kernel
theorem dX8_split_93 : decode cX8_split 93 = .ok (.getfield 58, 3) := by decide +kernel
theorem dX8_split_96 : decode cX8_split 96 = .ok (.iastore, 1) := by decide +kernel
theorem dX8_split_97 : decode cX8_split 97 = .ok (.iinc 3 1, 3) := by decide +kernel
theorem dX8_split_100 : decode cX8_split 100 = .ok (.goto (-31), 3) := by decide +kernel
theorem dX8_split_103 : decode cX8_split 103 = .ok (.aload_n 0, 1) := by decide +kernel
theorem dX8_split_104 : decode cX8_split 104 = .ok (.dup, 1) := by decide +kernel
theorem dX8_split_105 : decode cX8_split 105 = .ok (.getfield 58, 3) := by decide +kernel
theorem dX8_split_108 : decode cX8_split 108 = .ok (.iconst 1, 1) := by decide +kernel
theorem dX8_split_109 : decode cX8_split 109 = .ok (.iadd, 1) := by decide +kernel
theorem dX8_split_110 : decode cX8_split 110 = .ok (.putfield 58, 3) := by decide +kernel
theorem dX8_split_113 : decode cX8_split 113 = .ok (.aload_n 0, 1) := by decide +kernel
theorem dX8_split_114 : decode cX8_split 114 = .ok (.invokevirtual 124, 3) := by decide +kernel
theorem dX8_split_117 : decode cX8_split 117 = .ok (.istore_n 3, 1) := by decide +kernel
theorem dX8_split_118 : decode cX8_split 118 = .ok (.aload_n 0, 1) := by decide +kernel
theorem dX8_split_119 : decode cX8_split 119 = .ok (.getfield 58, 3) := by decide +kernel
theorem dX8_split_122 : decode cX8_split 122 = .ok (.iconst 1, 1) := by decide +kernel
theorem dX8_split_123 : decode cX8_split 123 = .ok (.isub, 1) := by decide +kernel
theorem dX8_split_124 : decode cX8_split 124 = .ok (.ireturn, 1) := by decide +kernel
theorem dX8_join_0 : decode cX8_join 0 = .ok (.aload_n 0, 1) := by decide +kernel
theorem dX8_join_1 : decode cX8_join 1 = .ok (.aload_n 0, 1) := by decide +kernel
theorem dX8_join_2 : decode cX8_join 2 = .ok (.iload_n 1, 1) := by decide +kernel
theorem dX8_join_3 : decode cX8_join 3 = .ok (.invokevirtual 128, 3) := by decide +kernel
theorem dX8_join_6 : decode cX8_join 6 = .ok (.ifCond .eq 11, 3) := by decide +kernel
theorem dX8_join_9 : decode cX8_join 9 = .ok (.aload_n 0, 1) := by decide +kernel
theorem dX8_join_10 : decode cX8_join 10 = .ok (.iload_n 2, 1) := by decide +kernel
theorem dX8_join_11 : decode cX8_join 11 = .ok (.invokevirtual 128, 3) := by decide +kernel
theorem dX8_join_14 : decode cX8_join 14 = .ok (.ifCond .ne 7, 3) := by decide +kernel
theorem dX8_join_17 : decode cX8_join 17 = .ok (.iconst 1, 1) := by decide +kernel
theorem dX8_join_18 : decode cX8_join 18 = .ok (.goto 13, 3) := by decide +kernel
theorem dX8_join_21 : decode cX8_join 21 = .ok (.iload_n 1, 1) := by decide +kernel
theorem dX8_join_22 : decode cX8_join 22 = .ok (.iload_n 2, 1) := by decide +kernel
theorem dX8_join_23 : decode cX8_join 23 = .ok (.if_icmp .ne 7, 3) := by decide +kernel
theorem dX8_join_26 : decode cX8_join 26 = .ok (.iconst 2, 1) := by decide +kernel
theorem dX8_join_27 : decode cX8_join 27 = .ok (.goto 4, 3) := by decide +kernel
theorem dX8_join_30 : decode cX8_join 30 = .ok (.iconst 0, 1) := by decide +kernel
theorem dX8_join_31 : decode cX8_join 31 = .ok (.putfield 54, 3) := by decide +kernel
theorem dX8_join_34 : decode cX8_join 34 = .ok (.aload_n 0, 1) := by decide +kernel
theorem dX8_join_35 : decode cX8_join 35 = .ok (.getfield 54, 3) := by decide +kernel
theorem dX8_join_38 : decode cX8_join 38 = .ok (.ifCond .le 5, 3) := by decide +kernel
theorem dX8_join_41 : decode cX8_join 41 = .ok (.iconst 0, 1) := by decide +kernel
theorem dX8_join_42 : decode cX8_join 42 = .ok (.ireturn, 1) := by decide +kernel
theorem dX8_join_43 : decode cX8_join 43 = .ok (.iconst 0, 1) := by decide +kernel
theorem dX8_join_44 : decode cX8_join 44 = .ok (.istore_n 3, 1) := by decide +kernel
theorem dX8_join_45 : decode cX8_join 45 = .ok (.iconst 0, 1) := by decide +kernel
theorem dX8_join_46 : decode cX8_join 46 = .ok (.istore 4, 2) := by decide +kernel
theorem dX8_join_48 : decode cX8_join 48 = .ok (.iload 4, 2) := by decide +kernel
theorem dX8_join_50 : decode cX8_join 50 = .ok (.aload_n 0, 1) := by decide +kernel
theorem dX8_join_51 : decode cX8_join 51 = .ok (.getfield 61, 3) := by decide +kernel
theorem dX8_join_54 : decode cX8_join 54 = .ok (.if_icmp .ge 34, 3) := by decide +kernel
theorem dX8_join_57 : decode cX8_join 57 = .ok (.aload_n 0, 1) := by decide +kernel
theorem dX8_join_58 : decode cX8_join 58 = .ok (.getfield 7, 3) := by decide +kernel
theorem dX8_join_61 : decode cX8_join 61 = .ok (.iload 4, 2) := by decide +kernel
theorem dX8_join_63 : decode cX8_join 63 = .ok (.iaload, 1) := by decide +kernel
theorem dX8_join_64 : decode cX8_join 64 = .ok (.iload_n 1, 1) := by decide +kernel
theorem dX8_join_65 : decode cX8_join 65 = .ok (.if_icmp .eq 6, 3) := by decide +kernel
theorem dX8_join_68 : decode cX8_join 68 = .ok (.goto 14, 3) := by decide +kernel
theorem dX8_join_71 : decode cX8_join 71 = .ok (.aload_n 0, 1) := by decide +kernel
theorem dX8_join_72 : decode cX8_join 72 = .ok (.getfield 7, 3) := by decide +kernel
theorem dX8_join_75 : decode cX8_join 75 = .ok (.iload 4, 2) := by decide +kernel
theorem dX8_join_77 : decode cX8_join 77 = .ok (.iload_n 2, 1) := by decide +kernel
theorem dX8_join_78 : decode cX8_join 78 = .ok (.iastore, 1) := by decide +kernel
theorem dX8_join_79 : decode cX8_join 79 = .ok (.iinc 3 1, 3) := by decide +kernel
theorem dX8_join_82 : decode cX8_join 82 = .ok (.iinc 4 1, 3) := by decide +kernel
theorem dX8_join_85 : decode cX8_join 85 = .ok (.goto (-37), 3) := by decide +kernel
theorem dX8_join_88 : decode cX8_join 88 = .ok (.aload_n 0, 1) := by decide +kernel
theorem dX8_join_89 : decode cX8_join 89 = .ok (.invokevirtual 124, 3) := by decide +kernel
theorem dX8_join_92 : decode cX8_join 92 = .ok (.istore 4, 2) := by decide +kernel
theorem dX8_join_94 : decode cX8_join 94 = .ok (.iload_n 3, 1) := by decide +kernel
theorem dX8_join_95 : decode cX8_join 95 = .ok (.ireturn, 1) := by decide +kernel
theorem dX8_addRecord_0 : decode cX8_addRecord 0 = .ok (.aload_n 0, 1) := by decide +kernel
theorem dX8_addRecord_1 : decode cX8_addRecord 1 = .ok (.iload_n 1, 1) := by decide +kernel
theorem dX8_addRecord_2 : decode cX8_addRecord 2 = .ok (.bipush 99, 2) := by decide +kernel
theorem dX8_addRecord_4 : decode cX8_addRecord 4 = .ok (.if_icmp .eq 9, 3) := by decide +kernel
theorem dX8_addRecord_7 : decode cX8_addRecord 7 = .ok (.iload_n 1, 1) := by decide +kernel
theorem dX8_addRecord_8 : decode cX8_addRecord 8 = .ok (.bipush 107, 2) := by decide +kernel
theorem dX8_addRecord_10 : decode cX8_addRecord 10 = .ok (.if_icmp .ne 25, 3) := by decide +kernel
theorem dX8_addRecord_13 : decode cX8_addRecord 13 = .ok (.iload_n 3, 1) := by decide +kernel
theorem dX8_addRecord_14 : decode cX8_addRecord 14 = .ok (.iconst 0, 1) := by decide +kernel
theorem dX8_addRecord_15 : decode cX8_addRecord 15 = .ok (.sipush 999, 3) := by decide +kernel
theorem dX8_addRecord_18 : decode cX8_addRecord 18 = .ok (.invokestatic 91, 3) := by decide +kernel
theorem dX8_addRecord_21 : decode cX8_addRecord 21 = .ok (.ifCond .eq 14, 3) := by decide +kernel
theorem dX8_addRecord_24 : decode cX8_addRecord 24 = .ok (.iload 4, 2) := by decide +kernel
theorem dX8_addRecord_26 : decode cX8_addRecord 26 = .ok (.iconst 0, 1) := by decide +kernel
theorem dX8_addRecord_27 : decode cX8_addRecord 27 = .ok (.bipush 120, 2) := by decide +kernel
theorem dX8_addRecord_29 : decode cX8_addRecord 29 = .ok (.invokestatic 91, 3) := by decide +kernel
theorem dX8_addRecord_32 : decode cX8_addRecord 32 = .ok (.ifCond .ne 7, 3) := by decide +kernel
theorem dX8_addRecord_35 : decode cX8_addRecord 35 = .ok (.iconst 1, 1) := by decide +kernel
theorem dX8_addRecord_36 : decode cX8_addRecord 36 = .ok (.goto 35, 3) := by decide +kernel
theorem dX8_addRecord_39 : decode cX8_addRecord 39 = .ok (.iload_n 2, 1) := by decide +kernel
theorem dX8_addRecord_40 : decode cX8_addRecord 40 = .ok (.iconst 0, 1) := by decide +kernel
theorem dX8_addRecord_41 : decode cX8_addRecord 41 = .ok (.aload_n 0, 1) := by decide +kernel
theorem dX8_addRecord_42 : decode cX8_addRecord 42 = .ok (.getfield 61, 3) := by decide +kernel
theorem dX8_addRecord_45 : decode cX8_addRecord 45 = .ok (.iconst 1, 1) := by decide +kernel
theorem dX8_addRecord_46 : decode cX8_addRecord 46 = .ok (.isub, 1) := by decide +kernel
theorem dX8_addRecord_47 : decode cX8_addRecord 47 = .ok (.invokestatic 91, 3) := by decide +kernel
theorem dX8_addRecord_50 : decode cX8_addRecord 50 = .ok (.ifCond .ne 7, 3) := by decide +kernel
theorem dX8_addRecord_53 : decode cX8_addRecord 53 = .ok (.iconst 2, 1) := by decide +kernel
theorem dX8_addRecord_54 : decode cX8_addRecord 54 = .ok (.goto 17, 3) := by decide +kernel
theorem dX8_addRecord_57 : decode cX8_addRecord 57 = .ok (.aload_n 0, 1) := by decide +kernel
theorem dX8_addRecord_58 : decode cX8_addRecord 58 = .ok (.getfield 64, 3) := by decide +kernel
theorem dX8_addRecord_61 : decode cX8_addRecord 61 = .ok (.bipush 40, 2) := by decide +kernel
theorem dX8_addRecord_63 : decode cX8_addRecord 63 = .ok (.if_icmp .ne 7, 3) := by decide +kernel
theorem dX8_addRecord_66 : decode cX8_addRecord 66 = .ok (.iconst 3, 1) := by decide +kernel
theorem dX8_addRecord_67 : decode cX8_addRecord 67 = .ok (.goto 4, 3) := by decide +kernel
theorem dX8_addRecord_70 : decode cX8_addRecord 70 = .ok (.iconst 0, 1) := by decide +kernel
theorem dX8_addRecord_71 : decode cX8_addRecord 71 = .ok (.putfield 54, 3) := by decide +kernel
theorem dX8_addRecord_74 : decode cX8_addRecord 74 = .ok (.aload_n 0, 1) := by decide +kernel
theorem dX8_addRecord_75 : decode cX8_addRecord 75 = .ok (.getfield 54, 3) := by decide +kernel
theorem dX8_addRecord_78 : decode cX8_addRecord 78 = .ok (.ifCond .le 5, 3) := by decide +kernel
theorem dX8_addRecord_81 : decode cX8_addRecord 81 = .ok (.iconst 0, 1) := by decide +kernel
theorem dX8_addRecord_82 : decode cX8_addRecord 82 = .ok (.ireturn, 1) := by decide +kernel
theorem dX8_addRecord_83 : decode cX8_addRecord 83 = .ok (.aload_n 0, 1) := by decide +kernel
theorem dX8_addRecord_84 : decode cX8_addRecord 84 = .ok (.getfield 28, 3) := by decide +kernel
theorem dX8_addRecord_87 : decode cX8_addRecord 87 = .ok (.aload_n 0, 1) := by decide +kernel
theorem dX8_addRecord_88 : decode cX8_addRecord 88 = .ok (.getfield 64, 3) := by decide +kernel
theorem dX8_addRecord_91 : decode cX8_addRecord 91 = .ok (.iload_n 1, 1) := by decide +kernel
theorem dX8_addRecord_92 : decode cX8_addRecord 92 = .ok (.castore, 1) := by decide +kernel
theorem dX8_addRecord_93 : decode cX8_addRecord 93 = .ok (.aload_n 0, 1) := by decide +kernel
theorem dX8_addRecord_94 : decode cX8_addRecord 94 = .ok (.getfield 13, 3) := by decide +kernel
theorem dX8_addRecord_97 : decode cX8_addRecord 97 = .ok (.aload_n 0, 1) := by decide +kernel
theorem dX8_addRecord_98 : decode cX8_addRecord 98 = .ok (.getfield 64, 3) := by decide +kernel
theorem dX8_addRecord_101 : decode cX8_addRecord 101 = .ok (.iload_n 2, 1) := by decide +kernel
theorem dX8_addRecord_102 : decode cX8_addRecord 102 = .ok (.iastore, 1) := by decide +kernel
theorem dX8_addRecord_103 : decode cX8_addRecord 103 = .ok (.aload_n 0, 1) := by decide +kernel
theorem dX8_addRecord_104 : decode cX8_addRecord 104 = .ok (.getfield 16, 3) := by decide +kernel
theorem dX8_addRecord_107 : decode cX8_addRecord 107 = .ok (.aload_n 0, 1) := by decide +kernel
theorem dX8_addRecord_108 : decode cX8_addRecord 108 = .ok (.getfield 64, 3) := by decide +kernel
theorem dX8_addRecord_111 : decode cX8_addRecord 111 = .ok (.iload_n 3, 1) := by decide +kernel
theorem dX8_addRecord_112 : decode cX8_addRecord 112 = .ok (.iastore, 1) := by decide +kernel
theorem dX8_addRecord_113 : decode cX8_addRecord 113 = .ok (.aload_n 0, 1) := by decide +kernel
theorem dX8_addRecord_114 : decode cX8_addRecord 114 = .ok (.getfield 19, 3) := by decide +kernel
theorem dX8_addRecord_117 : decode cX8_addRecord 117 = .ok (.aload_n 0, 1) := by decide +kernel
theorem dX8_addRecord_118 : decode cX8_addRecord 118 = .ok (.getfield 64, 3) := by decide +kernel
theorem dX8_addRecord_121 : decode cX8_addRecord 121 = .ok (.iload 4, 2) := by decide +kernel
theorem dX8_addRecord_123 : decode cX8_addRecord 123 = .ok (.iastore, 1) := by decide +kernel
theorem dX8_addRecord_124 : decode cX8_addRecord 124 = .ok (.aload_n 0, 1) := by decide +kernel
theorem dX8_addRecord_125 : decode cX8_addRecord 125 = .ok (.dup, 1) := by decide +kernel
theorem dX8_addRecord_126 : decode cX8_addRecord 126 = .ok (.getfield 64, 3) := by decide +kernel
theorem dX8_addRecord_129 : decode cX8_addRecord 129 = .ok (.iconst 1, 1) := by decide +kernel
theorem dX8_addRecord_130 : decode cX8_addRecord 130 = .ok (.iadd, 1) := by decide +kernel
theorem dX8_addRecord_131 : decode cX8_addRecord 131 = .ok (.putfield 64, 3) := by decide +kernel
theorem dX8_addRecord_134 : decode cX8_addRecord 134 = .ok (.aload_n 0, 1) := by decide +kernel
theorem dX8_addRecord_135 : decode cX8_addRecord 135 = .ok (.invokevirtual 124, 3) := by decide +kernel
theorem dX8_addRecord_138 : decode cX8_addRecord 138 = .ok (.istore 5, 2) := by decide +kernel
theorem dX8_addRecord_140 : decode cX8_addRecord 140 = .ok (.aload_n 0, 1) := by decide +kernel
theorem dX8_addRecord_141 : decode cX8_addRecord 141 = .ok (.getfield 64, 3) := by decide +kernel
theorem dX8_addRecord_144 : decode cX8_addRecord 144 = .ok (.iconst 1, 1) := by decide +kernel
theorem dX8_addRecord_145 : decode cX8_addRecord 145 = .ok (.isub, 1) := by decide +kernel
theorem dX8_addRecord_146 : decode cX8_addRecord 146 = .ok (.ireturn, 1) := by decide +kernel
theorem dX8_blockOf_0 : decode cX8_blockOf 0 = .ok (.aload_n 0, 1) := by decide +kernel
theorem dX8_blockOf_1 : decode cX8_blockOf 1 = .ok (.iload_n 1, 1) := by decide +kernel
theorem dX8_blockOf_2 : decode cX8_blockOf 2 = .ok (.iconst 0, 1) := by decide +kernel
theorem dX8_blockOf_3 : decode cX8_blockOf 3 = .ok (.aload_n 0, 1) := by decide +kernel
theorem dX8_blockOf_4 : decode cX8_blockOf 4 = .ok (.getfield 61, 3) := by decide +kernel
theorem dX8_blockOf_7 : decode cX8_blockOf 7 = .ok (.iconst 1, 1) := by decide +kernel
theorem dX8_blockOf_8 : decode cX8_blockOf 8 = .ok (.isub, 1) := by decide +kernel
theorem dX8_blockOf_9 : decode cX8_blockOf 9 = .ok (.invokestatic 91, 3) := by decide +kernel
theorem dX8_blockOf_12 : decode cX8_blockOf 12 = .ok (.invokevirtual 120, 3) := by decide +kernel
theorem dX8_blockOf_15 : decode cX8_blockOf 15 = .ok (.ifCond .le 7, 3) := by decide +kernel
theorem dX8_blockOf_18 : decode cX8_blockOf 18 = .ok (.iconst 0, 1) := by decide +kernel
theorem dX8_blockOf_19 : decode cX8_blockOf 19 = .ok (.goto 9, 3) := by decide +kernel
theorem dX8_blockOf_22 : decode cX8_blockOf 22 = .ok (.aload_n 0, 1) := by decide +kernel
theorem dX8_blockOf_23 : decode cX8_blockOf 23 = .ok (.getfield 7, 3) := by decide +kernel
theorem dX8_blockOf_26 : decode cX8_blockOf 26 = .ok (.iload_n 1, 1) := by decide +kernel
theorem dX8_blockOf_27 : decode cX8_blockOf 27 = .ok (.iaload, 1) := by decide +kernel
theorem dX8_blockOf_28 : decode cX8_blockOf 28 = .ok (.ireturn, 1) := by decide +kernel
theorem dX8_setPoints_0 : decode cX8_setPoints 0 = .ok (.aload_n 0, 1) := by decide +kernel
theorem dX8_setPoints_1 : decode cX8_setPoints 1 = .ok (.iload_n 1, 1) := by decide +kernel
theorem dX8_setPoints_2 : decode cX8_setPoints 2 = .ok (.bipush 110, 2) := by decide +kernel
theorem dX8_setPoints_4 : decode cX8_setPoints 4 = .ok (.if_icmp .eq 15, 3) := by decide +kernel
theorem dX8_setPoints_7 : decode cX8_setPoints 7 = .ok (.iload_n 1, 1) := by decide +kernel
theorem dX8_setPoints_8 : decode cX8_setPoints 8 = .ok (.bipush 121, 2) := by decide +kernel
theorem dX8_setPoints_10 : decode cX8_setPoints 10 = .ok (.if_icmp .eq 9, 3) := by decide +kernel
theorem dX8_setPoints_13 : decode cX8_setPoints 13 = .ok (.iload_n 1, 1) := by decide +kernel
theorem dX8_setPoints_14 : decode cX8_setPoints 14 = .ok (.bipush 112, 2) := by decide +kernel
theorem dX8_setPoints_16 : decode cX8_setPoints 16 = .ok (.if_icmp .ne 17, 3) := by decide +kernel
theorem dX8_setPoints_19 : decode cX8_setPoints 19 = .ok (.iload_n 2, 1) := by decide +kernel
theorem dX8_setPoints_20 : decode cX8_setPoints 20 = .ok (.iconst 0, 1) := by decide +kernel
theorem dX8_setPoints_21 : decode cX8_setPoints 21 = .ok (.bipush 9, 2) := by decide +kernel
theorem dX8_setPoints_23 : decode cX8_setPoints 23 = .ok (.invokestatic 91, 3) := by decide +kernel
theorem dX8_setPoints_26 : decode cX8_setPoints 26 = .ok (.ifCond .eq 7, 3) := by decide +kernel
theorem dX8_setPoints_29 : decode cX8_setPoints 29 = .ok (.iconst 1, 1) := by decide +kernel
theorem dX8_setPoints_30 : decode cX8_setPoints 30 = .ok (.goto 4, 3) := by decide +kernel
theorem dX8_setPoints_33 : decode cX8_setPoints 33 = .ok (.iconst 0, 1) := by decide +kernel
theorem dX8_setPoints_34 : decode cX8_setPoints 34 = .ok (.invokevirtual 120, 3) := by decide +kernel
theorem dX8_setPoints_37 : decode cX8_setPoints 37 = .ok (.ifCond .le 5, 3) := by decide +kernel
theorem dX8_setPoints_40 : decode cX8_setPoints 40 = .ok (.iconst 0, 1) := by decide +kernel
theorem dX8_setPoints_41 : decode cX8_setPoints 41 = .ok (.ireturn, 1) := by decide +kernel
theorem dX8_setPoints_42 : decode cX8_setPoints 42 = .ok (.iload_n 1, 1) := by decide +kernel
theorem dX8_setPoints_43 : decode cX8_setPoints 43 = .ok (.bipush 110, 2) := by decide +kernel
theorem dX8_setPoints_45 : decode cX8_setPoints 45 = .ok (.if_icmp .ne 10, 3) := by decide +kernel
theorem dX8_setPoints_48 : decode cX8_setPoints 48 = .ok (.aload_n 0, 1) := by decide +kernel
theorem dX8_setPoints_49 : decode cX8_setPoints 49 = .ok (.getfield 70, 3) := by decide +kernel
theorem dX8_setPoints_52 : decode cX8_setPoints 52 = .ok (.goto 20, 3) := by decide +kernel
theorem dX8_setPoints_55 : decode cX8_setPoints 55 = .ok (.iload_n 1, 1) := by decide +kernel
theorem dX8_setPoints_56 : decode cX8_setPoints 56 = .ok (.bipush 121, 2) := by decide +kernel
theorem dX8_setPoints_58 : decode cX8_setPoints 58 = .ok (.if_icmp .ne 10, 3) := by decide +kernel
theorem dX8_setPoints_61 : decode cX8_setPoints 61 = .ok (.aload_n 0, 1) := by decide +kernel
theorem dX8_setPoints_62 : decode cX8_setPoints 62 = .ok (.getfield 73, 3) := by decide +kernel
theorem dX8_setPoints_65 : decode cX8_setPoints 65 = .ok (.goto 7, 3) := by decide +kernel
theorem dX8_setPoints_68 : decode cX8_setPoints 68 = .ok (.aload_n 0, 1) := by decide +kernel
theorem dX8_setPoints_69 : decode cX8_setPoints 69 = .ok (.getfield 76, 3) := by decide +kernel
theorem dX8_setPoints_72 : decode cX8_setPoints 72 = .ok (.istore_n 3, 1) := by decide +kernel
theorem dX8_setPoints_73 : decode cX8_setPoints 73 = .ok (.iload_n 1, 1) := by decide +kernel
theorem dX8_setPoints_74 : decode cX8_setPoints 74 = .ok (.bipush 110, 2) := by decide +kernel
theorem dX8_setPoints_76 : decode cX8_setPoints 76 = .ok (.if_icmp .ne 8, 3) := by decide +kernel
theorem dX8_setPoints_79 : decode cX8_setPoints 79 = .ok (.aload_n 0, 1) := by decide +kernel
theorem dX8_setPoints_80 : decode cX8_setPoints 80 = .ok (.iload_n 2, 1) := by decide +kernel
theorem dX8_setPoints_81 : decode cX8_setPoints 81 = .ok (.putfield 70, 3) := by decide +kernel
theorem dX8_setPoints_84 : decode cX8_setPoints 84 = .ok (.iload_n 1, 1) := by decide +kernel
theorem dX8_setPoints_85 : decode cX8_setPoints 85 = .ok (.bipush 121, 2) := by decide +kernel
theorem dX8_setPoints_87 : decode cX8_setPoints 87 = .ok (.if_icmp .ne 8, 3) := by decide +kernel
theorem dX8_setPoints_90 : decode cX8_setPoints 90 = .ok (.aload_n 0, 1) := by decide +kernel
theorem dX8_setPoints_91 : decode cX8_setPoints 91 = .ok (.iload_n 2, 1) := by decide +kernel
theorem dX8_setPoints_92 : decode cX8_setPoints 92 = .ok (.putfield 73, 3) := by decide +kernel
theorem dX8_setPoints_95 : decode cX8_setPoints 95 = .ok (.iload_n 1, 1) := by decide +kernel
theorem dX8_setPoints_96 : decode cX8_setPoints 96 = .ok (.bipush 112, 2) := by decide +kernel
theorem dX8_setPoints_98 : decode cX8_setPoints 98 = .ok (.if_icmp .ne 8, 3) := by decide +kernel
theorem dX8_setPoints_101 : decode cX8_setPoints 101 = .ok (.aload_n 0, 1) := by decide +kernel
theorem dX8_setPoints_102 : decode cX8_setPoints 102 = .ok (.iload_n 2, 1) := by decide +kernel
theorem dX8_setPoints_103 : decode cX8_setPoints 103 = .ok (.putfield 76, 3) := by decide +kernel
theorem dX8_setPoints_106 : decode cX8_setPoints 106 = .ok (.aload_n 0, 1) := by decide +kernel
theorem dX8_setPoints_107 : decode cX8_setPoints 107 = .ok (.invokevirtual 124, 3) := by decide +kernel
theorem dX8_setPoints_110 : decode cX8_setPoints 110 = .ok (.istore 4, 2) := by decide +kernel
theorem dX8_setPoints_112 : decode cX8_setPoints 112 = .ok (.iload_n 3, 1) := by decide +kernel
theorem dX8_setPoints_113 : decode cX8_setPoints 113 = .ok (.ireturn, 1) := by decide +kernel
theorem dX8_setBounds_0 : decode cX8_setBounds 0 = .ok (.aload_n 0, 1) := by decide +kernel
theorem dX8_setBounds_1 : decode cX8_setBounds 1 = .ok (.iload_n 1, 1) := by decide +kernel
theorem dX8_setBounds_2 : decode cX8_setBounds 2 = .ok (.iconst 0, 1) := by decide +kernel
theorem dX8_setBounds_3 : decode cX8_setBounds 3 = .ok (.bipush 30, 2) := by decide +kernel
theorem dX8_setBounds_5 : decode cX8_setBounds 5 = .ok (.invokestatic 91, 3) := by decide +kernel
theorem dX8_setBounds_8 : decode cX8_setBounds 8 = .ok (.ifCond .eq 17, 3) := by decide +kernel
theorem dX8_setBounds_11 : decode cX8_setBounds 11 = .ok (.iload_n 2, 1) := by decide +kernel
theorem dX8_setBounds_12 : decode cX8_setBounds 12 = .ok (.iload_n 1, 1) := by decide +kernel
theorem dX8_setBounds_13 : decode cX8_setBounds 13 = .ok (.bipush 30, 2) := by decide +kernel
theorem dX8_setBounds_15 : decode cX8_setBounds 15 = .ok (.invokestatic 91, 3) := by decide +kernel
theorem dX8_setBounds_18 : decode cX8_setBounds 18 = .ok (.ifCond .eq 7, 3) := by decide +kernel
theorem dX8_setBounds_21 : decode cX8_setBounds 21 = .ok (.iconst 1, 1) := by decide +kernel
theorem dX8_setBounds_22 : decode cX8_setBounds 22 = .ok (.goto 4, 3) := by decide +kernel
theorem dX8_setBounds_25 : decode cX8_setBounds 25 = .ok (.iconst 0, 1) := by decide +kernel
theorem dX8_setBounds_26 : decode cX8_setBounds 26 = .ok (.invokevirtual 120, 3) := by decide +kernel
theorem dX8_setBounds_29 : decode cX8_setBounds 29 = .ok (.ifCond .le 5, 3) := by decide +kernel
theorem dX8_setBounds_32 : decode cX8_setBounds 32 = .ok (.iconst 0, 1) := by decide +kernel
theorem dX8_setBounds_33 : decode cX8_setBounds 33 = .ok (.ireturn, 1) := by decide +kernel
theorem dX8_setBounds_34 : decode cX8_setBounds 34 = .ok (.aload_n 0, 1) := by decide +kernel
theorem dX8_setBounds_35 : decode cX8_setBounds 35 = .ok (.getfield 82, 3) := by decide +kernel
theorem dX8_setBounds_38 : decode cX8_setBounds 38 = .ok (.istore_n 3, 1) := by decide +kernel
theorem dX8_setBounds_39 : decode cX8_setBounds 39 = .ok (.aload_n 0, 1) := by decide +kernel
theorem dX8_setBounds_40 : decode cX8_setBounds 40 = .ok (.iload_n 1, 1) := by decide +kernel
theorem dX8_setBounds_41 : decode cX8_setBounds 41 = .ok (.putfield 79, 3) := by decide +kernel
theorem dX8_setBounds_44 : decode cX8_setBounds 44 = .ok (.aload_n 0, 1) := by decide +kernel
theorem dX8_setBounds_45 : decode cX8_setBounds 45 = .ok (.iload_n 2, 1) := by decide +kernel
theorem dX8_setBounds_46 : decode cX8_setBounds 46 = .ok (.putfield 82, 3) := by decide +kernel
theorem dX8_setBounds_49 : decode cX8_setBounds 49 = .ok (.aload_n 0, 1) := by decide +kernel
theorem dX8_setBounds_50 : decode cX8_setBounds 50 = .ok (.invokevirtual 124, 3) := by decide +kernel
theorem dX8_setBounds_53 : decode cX8_setBounds 53 = .ok (.istore 4, 2) := by decide +kernel
theorem dX8_setBounds_55 : decode cX8_setBounds 55 = .ok (.iload_n 3, 1) := by decide +kernel
theorem dX8_setBounds_56 : decode cX8_setBounds 56 = .ok (.ireturn, 1) := by decide +kernel
theorem dX8_wrongPair_0 : decode cX8_wrongPair 0 = .ok (.aload_n 0, 1) := by decide +kernel
theorem dX8_wrongPair_1 : decode cX8_wrongPair 1 = .ok (.iload_n 1, 1) := by decide +kernel
theorem dX8_wrongPair_2 : decode cX8_wrongPair 2 = .ok (.invokevirtual 131, 3) := by decide +kernel
theorem dX8_wrongPair_5 : decode cX8_wrongPair 5 = .ok (.ifCond .eq 11, 3) := by decide +kernel
theorem dX8_wrongPair_8 : decode cX8_wrongPair 8 = .ok (.aload_n 0, 1) := by decide +kernel
theorem dX8_wrongPair_9 : decode cX8_wrongPair 9 = .ok (.iload_n 2, 1) := by decide +kernel
theorem dX8_wrongPair_10 : decode cX8_wrongPair 10 = .ok (.invokevirtual 131, 3) := by decide +kernel
theorem dX8_wrongPair_13 : decode cX8_wrongPair 13 = .ok (.ifCond .ne 7, 3) := by decide +kernel
theorem dX8_wrongPair_16 : decode cX8_wrongPair 16 = .ok (.iconst 1, 1) := by decide +kernel
theorem dX8_wrongPair_17 : decode cX8_wrongPair 17 = .ok (.goto 13, 3) := by decide +kernel
theorem dX8_wrongPair_20 : decode cX8_wrongPair 20 = .ok (.iload_n 1, 1) := by decide +kernel
theorem dX8_wrongPair_21 : decode cX8_wrongPair 21 = .ok (.iload_n 2, 1) := by decide +kernel
theorem dX8_wrongPair_22 : decode cX8_wrongPair 22 = .ok (.if_icmp .ne 7, 3) := by decide +kernel
theorem dX8_wrongPair_25 : decode cX8_wrongPair 25 = .ok (.iconst 2, 1) := by decide +kernel
theorem dX8_wrongPair_26 : decode cX8_wrongPair 26 = .ok (.goto 4, 3) := by decide +kernel
theorem dX8_wrongPair_29 : decode cX8_wrongPair 29 = .ok (.iconst 0, 1) := by decide +kernel
theorem dX8_wrongPair_30 : decode cX8_wrongPair 30 = .ok (.ireturn, 1) := by decide +kernel
theorem dX8_score_0 : decode cX8_score 0 = .ok (.aload_n 0, 1) := by decide +kernel
theorem dX8_score_1 : decode cX8_score 1 = .ok (.aload_n 0, 1) := by decide +kernel
theorem dX8_score_2 : decode cX8_score 2 = .ok (.iload_n 1, 1) := by decide +kernel
theorem dX8_score_3 : decode cX8_score 3 = .ok (.iload_n 2, 1) := by decide +kernel
theorem dX8_score_4 : decode cX8_score 4 = .ok (.invokevirtual 134, 3) := by decide +kernel
theorem dX8_score_7 : decode cX8_score 7 = .ok (.putfield 54, 3) := by decide +kernel
theorem dX8_score_10 : decode cX8_score 10 = .ok (.aload_n 0, 1) := by decide +kernel
theorem dX8_score_11 : decode cX8_score 11 = .ok (.getfield 54, 3) := by decide +kernel
theorem dX8_score_14 : decode cX8_score 14 = .ok (.ifCond .le 7, 3) := by decide +kernel
theorem dX8_score_17 : decode cX8_score 17 = .ok (.iconst 0, 1) := by decide +kernel
theorem dX8_score_18 : decode cX8_score 18 = .ok (.goto 9, 3) := by decide +kernel
theorem dX8_score_21 : decode cX8_score 21 = .ok (.aload_n 0, 1) := by decide +kernel
theorem dX8_score_22 : decode cX8_score 22 = .ok (.iload_n 1, 1) := by decide +kernel
theorem dX8_score_23 : decode cX8_score 23 = .ok (.iload_n 2, 1) := by decide +kernel
theorem dX8_score_24 : decode cX8_score 24 = .ok (.invokevirtual 99, 3) := by decide +kernel
theorem dX8_score_27 : decode cX8_score 27 = .ok (.ireturn, 1) := by decide +kernel
theorem dX8_decides_0 : decode cX8_decides 0 = .ok (.aload_n 0, 1) := by decide +kernel
theorem dX8_decides_1 : decode cX8_decides 1 = .ok (.getfield 32, 3) := by decide +kernel
theorem dX8_decides_4 : decode cX8_decides 4 = .ok (.bipush 40, 2) := by decide +kernel
theorem dX8_decides_6 : decode cX8_decides 6 = .ok (.iload_n 1, 1) := by decide +kernel
theorem dX8_decides_7 : decode cX8_decides 7 = .ok (.imul, 1) := by decide +kernel
theorem dX8_decides_8 : decode cX8_decides 8 = .ok (.iload_n 2, 1) := by decide +kernel
theorem dX8_decides_9 : decode cX8_decides 9 = .ok (.iadd, 1) := by decide +kernel
theorem dX8_decides_10 : decode cX8_decides 10 = .ok (.iload_n 3, 1) := by decide +kernel
theorem dX8_decides_11 : decode cX8_decides 11 = .ok (.castore, 1) := by decide +kernel
theorem dX8_decides_12 : decode cX8_decides 12 = .ok (.aload_n 0, 1) := by decide +kernel
theorem dX8_decides_13 : decode cX8_decides 13 = .ok (.getfield 32, 3) := by decide +kernel
theorem dX8_decides_16 : decode cX8_decides 16 = .ok (.bipush 40, 2) := by decide +kernel
theorem dX8_decides_18 : decode cX8_decides 18 = .ok (.iload_n 2, 1) := by decide +kernel
theorem dX8_decides_19 : decode cX8_decides 19 = .ok (.imul, 1) := by decide +kernel
theorem dX8_decides_20 : decode cX8_decides 20 = .ok (.iload_n 1, 1) := by decide +kernel
theorem dX8_decides_21 : decode cX8_decides 21 = .ok (.iadd, 1) := by decide +kernel
theorem dX8_decides_22 : decode cX8_decides 22 = .ok (.iload_n 3, 1) := by decide +kernel
theorem dX8_decides_23 : decode cX8_decides 23 = .ok (.castore, 1) := by decide +kernel
theorem dX8_decides_24 : decode cX8_decides 24 = .ok (.return_, 1) := by decide +kernel
theorem dX8_decide_0 : decode cX8_decide 0 = .ok (.aload_n 0, 1) := by decide +kernel
theorem dX8_decide_1 : decode cX8_decide 1 = .ok (.aload_n 0, 1) := by decide +kernel
theorem dX8_decide_2 : decode cX8_decide 2 = .ok (.iload_n 1, 1) := by decide +kernel
theorem dX8_decide_3 : decode cX8_decide 3 = .ok (.iload_n 2, 1) := by decide +kernel
theorem dX8_decide_4 : decode cX8_decide 4 = .ok (.invokevirtual 134, 3) := by decide +kernel
theorem dX8_decide_7 : decode cX8_decide 7 = .ok (.putfield 54, 3) := by decide +kernel
theorem dX8_decide_10 : decode cX8_decide 10 = .ok (.aload_n 0, 1) := by decide +kernel
theorem dX8_decide_11 : decode cX8_decide 11 = .ok (.getfield 54, 3) := by decide +kernel
theorem dX8_decide_14 : decode cX8_decide 14 = .ok (.ifCond .ne 30, 3) := by decide +kernel
theorem dX8_decide_17 : decode cX8_decide 17 = .ok (.aload_n 0, 1) := by decide +kernel
theorem dX8_decide_18 : decode cX8_decide 18 = .ok (.getfield 28, 3) := by decide +kernel
theorem dX8_decide_21 : decode cX8_decide 21 = .ok (.iload_n 1, 1) := by decide +kernel
theorem dX8_decide_22 : decode cX8_decide 22 = .ok (.caload, 1) := by decide +kernel
theorem dX8_decide_23 : decode cX8_decide 23 = .ok (.bipush 107, 2) := by decide +kernel
theorem dX8_decide_25 : decode cX8_decide 25 = .ok (.if_icmp .ne 19, 3) := by decide +kernel
theorem dX8_decide_28 : decode cX8_decide 28 = .ok (.aload_n 0, 1) := by decide +kernel
theorem dX8_decide_29 : decode cX8_decide 29 = .ok (.getfield 28, 3) := by decide +kernel
theorem dX8_decide_32 : decode cX8_decide 32 = .ok (.iload_n 2, 1) := by decide +kernel
theorem dX8_decide_33 : decode cX8_decide 33 = .ok (.caload, 1) := by decide +kernel
theorem dX8_decide_34 : decode cX8_decide 34 = .ok (.bipush 107, 2) := by decide +kernel
theorem dX8_decide_36 : decode cX8_decide 36 = .ok (.if_icmp .ne 8, 3) := by decide +kernel
theorem dX8_decide_39 : decode cX8_decide 39 = .ok (.aload_n 0, 1) := by decide +kernel
theorem dX8_decide_40 : decode cX8_decide 40 = .ok (.iconst 3, 1) := by decide +kernel
theorem dX8_decide_41 : decode cX8_decide 41 = .ok (.putfield 54, 3) := by decide +kernel
theorem dX8_decide_44 : decode cX8_decide 44 = .ok (.aload_n 0, 1) := by decide +kernel
theorem dX8_decide_45 : decode cX8_decide 45 = .ok (.getfield 54, 3) := by decide +kernel
theorem dX8_decide_48 : decode cX8_decide 48 = .ok (.ifCond .le 5, 3) := by decide +kernel
theorem dX8_decide_51 : decode cX8_decide 51 = .ok (.iconst 0, 1) := by decide +kernel
theorem dX8_decide_52 : decode cX8_decide 52 = .ok (.ireturn, 1) := by decide +kernel
theorem dX8_decide_53 : decode cX8_decide 53 = .ok (.aload_n 0, 1) := by decide +kernel
theorem dX8_decide_54 : decode cX8_decide 54 = .ok (.iload_n 1, 1) := by decide +kernel
theorem dX8_decide_55 : decode cX8_decide 55 = .ok (.iload_n 2, 1) := by decide +kernel
theorem dX8_decide_56 : decode cX8_decide 56 = .ok (.iload_n 3, 1) := by decide +kernel
theorem dX8_decide_57 : decode cX8_decide 57 = .ok (.ifCond .eq 8, 3) := by decide +kernel
theorem dX8_decide_60 : decode cX8_decide 60 = .ok (.bipush 121, 2) := by decide +kernel
theorem dX8_decide_62 : decode cX8_decide 62 = .ok (.goto 5, 3) := by decide +kernel
theorem dX8_decide_65 : decode cX8_decide 65 = .ok (.bipush 110, 2) := by decide +kernel
theorem dX8_decide_67 : decode cX8_decide 67 = .ok (.invokevirtual 137, 3) := by decide +kernel
theorem dX8_decide_70 : decode cX8_decide 70 = .ok (.aload_n 0, 1) := by decide +kernel
theorem dX8_decide_71 : decode cX8_decide 71 = .ok (.invokevirtual 124, 3) := by decide +kernel
theorem dX8_decide_74 : decode cX8_decide 74 = .ok (.ireturn, 1) := by decide +kernel
theorem dX8_takeBack_0 : decode cX8_takeBack 0 = .ok (.aload_n 0, 1) := by decide +kernel
theorem dX8_takeBack_1 : decode cX8_takeBack 1 = .ok (.aload_n 0, 1) := by decide +kernel
theorem dX8_takeBack_2 : decode cX8_takeBack 2 = .ok (.iload_n 1, 1) := by decide +kernel
theorem dX8_takeBack_3 : decode cX8_takeBack 3 = .ok (.invokevirtual 131, 3) := by decide +kernel
theorem dX8_takeBack_6 : decode cX8_takeBack 6 = .ok (.ifCond .eq 11, 3) := by decide +kernel
theorem dX8_takeBack_9 : decode cX8_takeBack 9 = .ok (.aload_n 0, 1) := by decide +kernel
theorem dX8_takeBack_10 : decode cX8_takeBack 10 = .ok (.iload_n 2, 1) := by decide +kernel
theorem dX8_takeBack_11 : decode cX8_takeBack 11 = .ok (.invokevirtual 131, 3) := by decide +kernel
theorem dX8_takeBack_14 : decode cX8_takeBack 14 = .ok (.ifCond .ne 7, 3) := by decide +kernel
theorem dX8_takeBack_17 : decode cX8_takeBack 17 = .ok (.iconst 1, 1) := by decide +kernel
theorem dX8_takeBack_18 : decode cX8_takeBack 18 = .ok (.goto 22, 3) := by decide +kernel
theorem dX8_takeBack_21 : decode cX8_takeBack 21 = .ok (.aload_n 0, 1) := by decide +kernel
theorem dX8_takeBack_22 : decode cX8_takeBack 22 = .ok (.getfield 32, 3) := by decide +kernel
theorem dX8_takeBack_25 : decode cX8_takeBack 25 = .ok (.bipush 40, 2) := by decide +kernel
theorem dX8_takeBack_27 : decode cX8_takeBack 27 = .ok (.iload_n 1, 1) := by decide +kernel
theorem dX8_takeBack_28 : decode cX8_takeBack 28 = .ok (.imul, 1) := by decide +kernel
theorem dX8_takeBack_29 : decode cX8_takeBack 29 = .ok (.iload_n 2, 1) := by decide +kernel
theorem dX8_takeBack_30 : decode cX8_takeBack 30 = .ok (.iadd, 1) := by decide +kernel
theorem dX8_takeBack_31 : decode cX8_takeBack 31 = .ok (.caload, 1) := by decide +kernel
theorem dX8_takeBack_32 : decode cX8_takeBack 32 = .ok (.ifCond .ne 7, 3) := by decide +kernel
theorem dX8_takeBack_35 : decode cX8_takeBack 35 = .ok (.iconst 2, 1) := by decide +kernel
theorem dX8_takeBack_36 : decode cX8_takeBack 36 = .ok (.goto 4, 3) := by decide +kernel
theorem dX8_takeBack_39 : decode cX8_takeBack 39 = .ok (.iconst 0, 1) := by decide +kernel
theorem dX8_takeBack_40 : decode cX8_takeBack 40 = .ok (.putfield 54, 3) := by decide +kernel
theorem dX8_takeBack_43 : decode cX8_takeBack 43 = .ok (.aload_n 0, 1) := by decide +kernel
theorem dX8_takeBack_44 : decode cX8_takeBack 44 = .ok (.getfield 54, 3) := by decide +kernel
theorem dX8_takeBack_47 : decode cX8_takeBack 47 = .ok (.ifCond .le 5, 3) := by decide +kernel
theorem dX8_takeBack_50 : decode cX8_takeBack 50 = .ok (.iconst 0, 1) := by decide +kernel
theorem dX8_takeBack_51 : decode cX8_takeBack 51 = .ok (.ireturn, 1) := by decide +kernel
theorem dX8_takeBack_52 : decode cX8_takeBack 52 = .ok (.aload_n 0, 1) := by decide +kernel
theorem dX8_takeBack_53 : decode cX8_takeBack 53 = .ok (.iload_n 1, 1) := by decide +kernel
theorem dX8_takeBack_54 : decode cX8_takeBack 54 = .ok (.iload_n 2, 1) := by decide +kernel
theorem dX8_takeBack_55 : decode cX8_takeBack 55 = .ok (.iconst 0, 1) := by decide +kernel
theorem dX8_takeBack_56 : decode cX8_takeBack 56 = .ok (.invokevirtual 137, 3) := by decide +kernel
theorem dX8_takeBack_59 : decode cX8_takeBack 59 = .ok (.aload_n 0, 1) := by decide +kernel
theorem dX8_takeBack_60 : decode cX8_takeBack 60 = .ok (.invokevirtual 124, 3) := by decide +kernel
theorem dX8_takeBack_63 : decode cX8_takeBack 63 = .ok (.ireturn, 1) := by decide +kernel
theorem dX8_link_0 : decode cX8_link 0 = .ok (.aload_n 0, 1) := by decide +kernel
theorem dX8_link_1 : decode cX8_link 1 = .ok (.aload_n 0, 1) := by decide +kernel
theorem dX8_link_2 : decode cX8_link 2 = .ok (.iload_n 1, 1) := by decide +kernel
theorem dX8_link_3 : decode cX8_link 3 = .ok (.iload_n 2, 1) := by decide +kernel
theorem dX8_link_4 : decode cX8_link 4 = .ok (.invokevirtual 134, 3) := by decide +kernel
theorem dX8_link_7 : decode cX8_link 7 = .ok (.putfield 54, 3) := by decide +kernel
theorem dX8_link_10 : decode cX8_link 10 = .ok (.aload_n 0, 1) := by decide +kernel
theorem dX8_link_11 : decode cX8_link 11 = .ok (.getfield 54, 3) := by decide +kernel
theorem dX8_link_14 : decode cX8_link 14 = .ok (.ifCond .le 8, 3) := by decide +kernel
theorem dX8_link_17 : decode cX8_link 17 = .ok (.bipush 32, 2) := by decide +kernel
theorem dX8_link_19 : decode cX8_link 19 = .ok (.goto 9, 3) := by decide +kernel
theorem dX8_link_22 : decode cX8_link 22 = .ok (.aload_n 0, 1) := by decide +kernel
theorem dX8_link_23 : decode cX8_link 23 = .ok (.iload_n 1, 1) := by decide +kernel
theorem dX8_link_24 : decode cX8_link 24 = .ok (.iload_n 2, 1) := by decide +kernel
theorem dX8_link_25 : decode cX8_link 25 = .ok (.invokevirtual 103, 3) := by decide +kernel
theorem dX8_link_28 : decode cX8_link 28 = .ok (.ireturn, 1) := by decide +kernel
theorem dX8_openPairs_0 : decode cX8_openPairs 0 = .ok (.iconst 0, 1) := by decide +kernel
theorem dX8_openPairs_1 : decode cX8_openPairs 1 = .ok (.istore_n 1, 1) := by decide +kernel
theorem dX8_openPairs_2 : decode cX8_openPairs 2 = .ok (.iconst 0, 1) := by decide +kernel
theorem dX8_openPairs_3 : decode cX8_openPairs 3 = .ok (.istore_n 2, 1) := by decide +kernel
theorem dX8_openPairs_4 : decode cX8_openPairs 4 = .ok (.iload_n 2, 1) := by decide +kernel
theorem dX8_openPairs_5 : decode cX8_openPairs 5 = .ok (.aload_n 0, 1) := by decide +kernel
theorem dX8_openPairs_6 : decode cX8_openPairs 6 = .ok (.getfield 64, 3) := by decide +kernel
theorem dX8_openPairs_9 : decode cX8_openPairs 9 = .ok (.if_icmp .ge 63, 3) := by decide +kernel
theorem dX8_openPairs_12 : decode cX8_openPairs 12 = .ok (.iconst 0, 1) := by decide +kernel
theorem dX8_openPairs_13 : decode cX8_openPairs 13 = .ok (.istore_n 3, 1) := by decide +kernel
theorem dX8_openPairs_14 : decode cX8_openPairs 14 = .ok (.iload_n 3, 1) := by decide +kernel
theorem dX8_openPairs_15 : decode cX8_openPairs 15 = .ok (.iload_n 2, 1) := by decide +kernel
theorem dX8_openPairs_16 : decode cX8_openPairs 16 = .ok (.if_icmp .ge 50, 3) := by decide +kernel
theorem dX8_openPairs_19 : decode cX8_openPairs 19 = .ok (.iload_n 1, 1) := by decide +kernel
theorem dX8_openPairs_20 : decode cX8_openPairs 20 = .ok (.aload_n 0, 1) := by decide +kernel
theorem dX8_openPairs_21 : decode cX8_openPairs 21 = .ok (.getfield 28, 3) := by decide +kernel
theorem dX8_openPairs_24 : decode cX8_openPairs 24 = .ok (.iload_n 2, 1) := by decide +kernel
theorem dX8_openPairs_25 : decode cX8_openPairs 25 = .ok (.caload, 1) := by decide +kernel
theorem dX8_openPairs_26 : decode cX8_openPairs 26 = .ok (.bipush 99, 2) := by decide +kernel
theorem dX8_openPairs_28 : decode cX8_openPairs 28 = .ok (.if_icmp .eq 14, 3) := by decide +kernel
theorem dX8_openPairs_31 : decode cX8_openPairs 31 = .ok (.aload_n 0, 1) := by decide +kernel
theorem dX8_openPairs_32 : decode cX8_openPairs 32 = .ok (.getfield 28, 3) := by decide +kernel
theorem dX8_openPairs_35 : decode cX8_openPairs 35 = .ok (.iload_n 3, 1) := by decide +kernel
theorem dX8_openPairs_36 : decode cX8_openPairs 36 = .ok (.caload, 1) := by decide +kernel
theorem dX8_openPairs_37 : decode cX8_openPairs 37 = .ok (.bipush 99, 2) := by decide +kernel
theorem dX8_openPairs_39 : decode cX8_openPairs 39 = .ok (.if_icmp .ne 18, 3) := by decide +kernel
theorem dX8_openPairs_42 : decode cX8_openPairs 42 = .ok (.aload_n 0, 1) := by decide +kernel
theorem dX8_openPairs_43 : decode cX8_openPairs 43 = .ok (.iload_n 2, 1) := by decide +kernel
theorem dX8_openPairs_44 : decode cX8_openPairs 44 = .ok (.iload_n 3, 1) := by decide +kernel
theorem dX8_openPairs_45 : decode cX8_openPairs 45 = .ok (.invokevirtual 103, 3) := by decide +kernel
theorem dX8_openPairs_48 : decode cX8_openPairs 48 = .ok (.bipush 63, 2) := by decide +kernel
theorem dX8_openPairs_50 : decode cX8_openPairs 50 = .ok (.if_icmp .ne 7, 3) := by decide +kernel
theorem dX8_openPairs_53 : decode cX8_openPairs 53 = .ok (.iconst 1, 1) := by decide +kernel
theorem dX8_openPairs_54 : decode cX8_openPairs 54 = .ok (.goto 4, 3) := by decide +kernel
theorem dX8_openPairs_57 : decode cX8_openPairs 57 = .ok (.iconst 0, 1) := by decide +kernel
theorem dX8_openPairs_58 : decode cX8_openPairs 58 = .ok (.iadd, 1) := by decide +kernel
theorem dX8_openPairs_59 : decode cX8_openPairs 59 = .ok (.istore_n 1, 1) := by decide +kernel
theorem dX8_openPairs_60 : decode cX8_openPairs 60 = .ok (.iinc 3 1, 3) := by decide +kernel
theorem dX8_openPairs_63 : decode cX8_openPairs 63 = .ok (.goto (-49), 3) := by decide +kernel
theorem dX8_openPairs_66 : decode cX8_openPairs 66 = .ok (.iinc 2 1, 3) := by decide +kernel
theorem dX8_openPairs_69 : decode cX8_openPairs 69 = .ok (.goto (-65), 3) := by decide +kernel
theorem dX8_openPairs_72 : decode cX8_openPairs 72 = .ok (.aload_n 0, 1) := by decide +kernel
theorem dX8_openPairs_73 : decode cX8_openPairs 73 = .ok (.iload_n 1, 1) := by decide +kernel
theorem dX8_openPairs_74 : decode cX8_openPairs 74 = .ok (.invokevirtual 141, 3) := by decide +kernel
theorem dX8_openPairs_77 : decode cX8_openPairs 77 = .ok (.ireturn, 1) := by decide +kernel
theorem dX8_isDouble_0 : decode cX8_isDouble 0 = .ok (.aload_n 0, 1) := by decide +kernel
theorem dX8_isDouble_1 : decode cX8_isDouble 1 = .ok (.invokevirtual 107, 3) := by decide +kernel
theorem dX8_isDouble_4 : decode cX8_isDouble 4 = .ok (.aload_n 0, 1) := by decide +kernel
theorem dX8_isDouble_5 : decode cX8_isDouble 5 = .ok (.aload_n 0, 1) := by decide +kernel
theorem dX8_isDouble_6 : decode cX8_isDouble 6 = .ok (.iload_n 1, 1) := by decide +kernel
theorem dX8_isDouble_7 : decode cX8_isDouble 7 = .ok (.invokevirtual 131, 3) := by decide +kernel
theorem dX8_isDouble_10 : decode cX8_isDouble 10 = .ok (.invokevirtual 120, 3) := by decide +kernel
theorem dX8_isDouble_13 : decode cX8_isDouble 13 = .ok (.ifCond .ne 16, 3) := by decide +kernel
theorem dX8_isDouble_16 : decode cX8_isDouble 16 = .ok (.aload_n 0, 1) := by decide +kernel
theorem dX8_isDouble_17 : decode cX8_isDouble 17 = .ok (.getfield 35, 3) := by decide +kernel
theorem dX8_isDouble_20 : decode cX8_isDouble 20 = .ok (.iload_n 1, 1) := by decide +kernel
theorem dX8_isDouble_21 : decode cX8_isDouble 21 = .ok (.baload, 1) := by decide +kernel
theorem dX8_isDouble_22 : decode cX8_isDouble 22 = .ok (.ifCond .eq 7, 3) := by decide +kernel
theorem dX8_isDouble_25 : decode cX8_isDouble 25 = .ok (.iconst 1, 1) := by decide +kernel
theorem dX8_isDouble_26 : decode cX8_isDouble 26 = .ok (.goto 4, 3) := by decide +kernel
theorem dX8_isDouble_29 : decode cX8_isDouble 29 = .ok (.iconst 0, 1) := by decide +kernel
theorem dX8_isDouble_30 : decode cX8_isDouble 30 = .ok (.ireturn, 1) := by decide +kernel
theorem dX8_matchOf_0 : decode cX8_matchOf 0 = .ok (.aload_n 0, 1) := by decide +kernel
theorem dX8_matchOf_1 : decode cX8_matchOf 1 = .ok (.invokevirtual 144, 3) := by decide +kernel
theorem dX8_matchOf_4 : decode cX8_matchOf 4 = .ok (.aload_n 0, 1) := by decide +kernel
theorem dX8_matchOf_5 : decode cX8_matchOf 5 = .ok (.aload_n 0, 1) := by decide +kernel
theorem dX8_matchOf_6 : decode cX8_matchOf 6 = .ok (.iload_n 1, 1) := by decide +kernel
theorem dX8_matchOf_7 : decode cX8_matchOf 7 = .ok (.invokevirtual 131, 3) := by decide +kernel
theorem dX8_matchOf_10 : decode cX8_matchOf 10 = .ok (.ifCond .ne 7, 3) := by decide +kernel
theorem dX8_matchOf_13 : decode cX8_matchOf 13 = .ok (.iconst 1, 1) := by decide +kernel
theorem dX8_matchOf_14 : decode cX8_matchOf 14 = .ok (.goto 17, 3) := by decide +kernel
theorem dX8_matchOf_17 : decode cX8_matchOf 17 = .ok (.aload_n 0, 1) := by decide +kernel
theorem dX8_matchOf_18 : decode cX8_matchOf 18 = .ok (.getfield 22, 3) := by decide +kernel
theorem dX8_matchOf_21 : decode cX8_matchOf 21 = .ok (.iload_n 1, 1) := by decide +kernel
theorem dX8_matchOf_22 : decode cX8_matchOf 22 = .ok (.iaload, 1) := by decide +kernel
theorem dX8_matchOf_23 : decode cX8_matchOf 23 = .ok (.ifCond .ge 7, 3) := by decide +kernel
theorem dX8_matchOf_26 : decode cX8_matchOf 26 = .ok (.iconst 2, 1) := by decide +kernel
theorem dX8_matchOf_27 : decode cX8_matchOf 27 = .ok (.goto 4, 3) := by decide +kernel
theorem dX8_matchOf_30 : decode cX8_matchOf 30 = .ok (.iconst 0, 1) := by decide +kernel
theorem dX8_matchOf_31 : decode cX8_matchOf 31 = .ok (.putfield 54, 3) := by decide +kernel
theorem dX8_matchOf_34 : decode cX8_matchOf 34 = .ok (.aload_n 0, 1) := by decide +kernel
theorem dX8_matchOf_35 : decode cX8_matchOf 35 = .ok (.getfield 54, 3) := by decide +kernel
theorem dX8_matchOf_38 : decode cX8_matchOf 38 = .ok (.ifCond .le 7, 3) := by decide +kernel
theorem dX8_matchOf_41 : decode cX8_matchOf 41 = .ok (.iconst 0, 1) := by decide +kernel
theorem dX8_matchOf_42 : decode cX8_matchOf 42 = .ok (.goto 9, 3) := by decide +kernel
theorem dX8_matchOf_45 : decode cX8_matchOf 45 = .ok (.aload_n 0, 1) := by decide +kernel
theorem dX8_matchOf_46 : decode cX8_matchOf 46 = .ok (.getfield 22, 3) := by decide +kernel
theorem dX8_matchOf_49 : decode cX8_matchOf 49 = .ok (.iload_n 1, 1) := by decide +kernel
theorem dX8_matchOf_50 : decode cX8_matchOf 50 = .ok (.iaload, 1) := by decide +kernel
theorem dX8_matchOf_51 : decode cX8_matchOf 51 = .ok (.ireturn, 1) := by decide +kernel
theorem dX8_matches_0 : decode cX8_matches 0 = .ok (.aload_n 0, 1) := by decide +kernel
theorem dX8_matches_1 : decode cX8_matches 1 = .ok (.invokevirtual 144, 3) := by decide +kernel
theorem dX8_matches_4 : decode cX8_matches 4 = .ok (.aload_n 0, 1) := by decide +kernel
theorem dX8_matches_5 : decode cX8_matches 5 = .ok (.aload_n 0, 1) := by decide +kernel
theorem dX8_matches_6 : decode cX8_matches 6 = .ok (.getfield 85, 3) := by decide +kernel
theorem dX8_matches_9 : decode cX8_matches 9 = .ok (.invokevirtual 141, 3) := by decide +kernel
theorem dX8_matches_12 : decode cX8_matches 12 = .ok (.ireturn, 1) := by decide +kernel
theorem dX8_count_0 : decode cX8_count 0 = .ok (.aload_n 0, 1) := by decide +kernel
theorem dX8_count_1 : decode cX8_count 1 = .ok (.invokevirtual 117, 3) := by decide +kernel
theorem dX8_count_4 : decode cX8_count 4 = .ok (.aload_n 0, 1) := by decide +kernel
theorem dX8_count_5 : decode cX8_count 5 = .ok (.aload_n 0, 1) := by decide +kernel
theorem dX8_count_6 : decode cX8_count 6 = .ok (.iload_n 1, 1) := by decide +kernel
theorem dX8_count_7 : decode cX8_count 7 = .ok (.invokevirtual 128, 3) := by decide +kernel
theorem dX8_count_10 : decode cX8_count 10 = .ok (.ifCond .ne 7, 3) := by decide +kernel
theorem dX8_count_13 : decode cX8_count 13 = .ok (.iconst 1, 1) := by decide +kernel
theorem dX8_count_14 : decode cX8_count 14 = .ok (.goto 17, 3) := by decide +kernel
theorem dX8_count_17 : decode cX8_count 17 = .ok (.iload_n 2, 1) := by decide +kernel
theorem dX8_count_18 : decode cX8_count 18 = .ok (.iconst 0, 1) := by decide +kernel
theorem dX8_count_19 : decode cX8_count 19 = .ok (.iconst 3, 1) := by decide +kernel
theorem dX8_count_20 : decode cX8_count 20 = .ok (.invokestatic 91, 3) := by decide +kernel
theorem dX8_count_23 : decode cX8_count 23 = .ok (.ifCond .ne 7, 3) := by decide +kernel
theorem dX8_count_26 : decode cX8_count 26 = .ok (.iconst 2, 1) := by decide +kernel
theorem dX8_count_27 : decode cX8_count 27 = .ok (.goto 4, 3) := by decide +kernel
theorem dX8_count_30 : decode cX8_count 30 = .ok (.iconst 0, 1) := by decide +kernel
theorem dX8_count_31 : decode cX8_count 31 = .ok (.putfield 54, 3) := by decide +kernel
theorem dX8_count_34 : decode cX8_count 34 = .ok (.aload_n 0, 1) := by decide +kernel
theorem dX8_count_35 : decode cX8_count 35 = .ok (.getfield 54, 3) := by decide +kernel
theorem dX8_count_38 : decode cX8_count 38 = .ok (.ifCond .le 7, 3) := by decide +kernel
theorem dX8_count_41 : decode cX8_count 41 = .ok (.iconst 0, 1) := by decide +kernel
theorem dX8_count_42 : decode cX8_count 42 = .ok (.goto 13, 3) := by decide +kernel
theorem dX8_count_45 : decode cX8_count 45 = .ok (.aload_n 0, 1) := by decide +kernel
theorem dX8_count_46 : decode cX8_count 46 = .ok (.getfield 25, 3) := by decide +kernel
theorem dX8_count_49 : decode cX8_count 49 = .ok (.iconst 4, 1) := by decide +kernel
theorem dX8_count_50 : decode cX8_count 50 = .ok (.iload_n 1, 1) := by decide +kernel
theorem dX8_count_51 : decode cX8_count 51 = .ok (.imul, 1) := by decide +kernel
theorem dX8_count_52 : decode cX8_count 52 = .ok (.iload_n 2, 1) := by decide +kernel
theorem dX8_count_53 : decode cX8_count 53 = .ok (.iadd, 1) := by decide +kernel
theorem dX8_count_54 : decode cX8_count 54 = .ok (.iaload, 1) := by decide +kernel
theorem dX8_count_55 : decode cX8_count 55 = .ok (.ireturn, 1) := by decide +kernel
theorem dX8_countAnew_0 : decode cX8_countAnew 0 = .ok (.aload_n 0, 1) := by decide +kernel
theorem dX8_countAnew_1 : decode cX8_countAnew 1 = .ok (.iload_n 1, 1) := by decide +kernel
theorem dX8_countAnew_2 : decode cX8_countAnew 2 = .ok (.iload_n 2, 1) := by decide +kernel
theorem dX8_countAnew_3 : decode cX8_countAnew 3 = .ok (.invokevirtual 147, 3) := by decide +kernel
theorem dX8_countAnew_6 : decode cX8_countAnew 6 = .ok (.ireturn, 1) := by decide +kernel
theorem dX8_many_0 : decode cX8_many 0 = .ok (.iconst 0, 1) := by decide +kernel
theorem dX8_many_1 : decode cX8_many 1 = .ok (.istore_n 3, 1) := by decide +kernel
theorem dX8_many_2 : decode cX8_many 2 = .ok (.iconst 0, 1) := by decide +kernel
theorem dX8_many_3 : decode cX8_many 3 = .ok (.istore 4, 2) := by decide +kernel
theorem dX8_many_5 : decode cX8_many 5 = .ok (.iload 4, 2) := by decide +kernel
theorem dX8_many_7 : decode cX8_many 7 = .ok (.aload_n 0, 1) := by decide +kernel
theorem dX8_many_8 : decode cX8_many 8 = .ok (.getfield 64, 3) := by decide +kernel
theorem dX8_many_11 : decode cX8_many 11 = .ok (.if_icmp .ge 39, 3) := by decide +kernel
theorem dX8_many_14 : decode cX8_many 14 = .ok (.iload_n 3, 1) := by decide +kernel
theorem dX8_many_15 : decode cX8_many 15 = .ok (.aload_n 0, 1) := by decide +kernel
theorem dX8_many_16 : decode cX8_many 16 = .ok (.getfield 28, 3) := by decide +kernel
theorem dX8_many_19 : decode cX8_many 19 = .ok (.iload 4, 2) := by decide +kernel
theorem dX8_many_21 : decode cX8_many 21 = .ok (.caload, 1) := by decide +kernel
theorem dX8_many_22 : decode cX8_many 22 = .ok (.iload_n 1, 1) := by decide +kernel
theorem dX8_many_23 : decode cX8_many 23 = .ok (.if_icmp .ne 18, 3) := by decide +kernel
theorem dX8_many_26 : decode cX8_many 26 = .ok (.aload_n 0, 1) := by decide +kernel
theorem dX8_many_27 : decode cX8_many 27 = .ok (.getfield 35, 3) := by decide +kernel
theorem dX8_many_30 : decode cX8_many 30 = .ok (.iload 4, 2) := by decide +kernel
theorem dX8_many_32 : decode cX8_many 32 = .ok (.baload, 1) := by decide +kernel
theorem dX8_many_33 : decode cX8_many 33 = .ok (.iload_n 2, 1) := by decide +kernel
theorem dX8_many_34 : decode cX8_many 34 = .ok (.if_icmp .ne 7, 3) := by decide +kernel
theorem dX8_many_37 : decode cX8_many 37 = .ok (.iconst 1, 1) := by decide +kernel
theorem dX8_many_38 : decode cX8_many 38 = .ok (.goto 4, 3) := by decide +kernel
theorem dX8_many_41 : decode cX8_many 41 = .ok (.iconst 0, 1) := by decide +kernel
theorem dX8_many_42 : decode cX8_many 42 = .ok (.iadd, 1) := by decide +kernel
theorem dX8_many_43 : decode cX8_many 43 = .ok (.istore_n 3, 1) := by decide +kernel
theorem dX8_many_44 : decode cX8_many 44 = .ok (.iinc 4 1, 3) := by decide +kernel
theorem dX8_many_47 : decode cX8_many 47 = .ok (.goto (-42), 3) := by decide +kernel
theorem dX8_many_50 : decode cX8_many 50 = .ok (.iload_n 3, 1) := by decide +kernel
theorem dX8_many_51 : decode cX8_many 51 = .ok (.ireturn, 1) := by decide +kernel
theorem dX8_estimate_0 : decode cX8_estimate 0 = .ok (.aload_n 0, 1) := by decide +kernel
theorem dX8_estimate_1 : decode cX8_estimate 1 = .ok (.invokevirtual 144, 3) := by decide +kernel
theorem dX8_estimate_4 : decode cX8_estimate 4 = .ok (.aload_n 0, 1) := by decide +kernel
theorem dX8_estimate_5 : decode cX8_estimate 5 = .ok (.aload_n 0, 1) := by decide +kernel
theorem dX8_estimate_6 : decode cX8_estimate 6 = .ok (.getfield 85, 3) := by decide +kernel
theorem dX8_estimate_9 : decode cX8_estimate 9 = .ok (.ifCond .le 7, 3) := by decide +kernel
theorem dX8_estimate_12 : decode cX8_estimate 12 = .ok (.iconst 1, 1) := by decide +kernel
theorem dX8_estimate_13 : decode cX8_estimate 13 = .ok (.goto 4, 3) := by decide +kernel
theorem dX8_estimate_16 : decode cX8_estimate 16 = .ok (.iconst 0, 1) := by decide +kernel
theorem dX8_estimate_17 : decode cX8_estimate 17 = .ok (.invokevirtual 120, 3) := by decide +kernel
theorem dX8_estimate_20 : decode cX8_estimate 20 = .ok (.ifCond .le 7, 3) := by decide +kernel
theorem dX8_estimate_23 : decode cX8_estimate 23 = .ok (.lconst 0, 1) := by decide +kernel
theorem dX8_estimate_24 : decode cX8_estimate 24 = .ok (.goto 26, 3) := by decide +kernel
theorem dX8_estimate_27 : decode cX8_estimate 27 = .ok (.aload_n 0, 1) := by decide +kernel
theorem dX8_estimate_28 : decode cX8_estimate 28 = .ok (.bipush 99, 2) := by decide +kernel
theorem dX8_estimate_30 : decode cX8_estimate 30 = .ok (.iconst 0, 1) := by decide +kernel
theorem dX8_estimate_31 : decode cX8_estimate 31 = .ok (.invokevirtual 150, 3) := by decide +kernel
theorem dX8_estimate_34 : decode cX8_estimate 34 = .ok (.i2l, 1) := by decide +kernel
theorem dX8_estimate_35 : decode cX8_estimate 35 = .ok (.aload_n 0, 1) := by decide +kernel
theorem dX8_estimate_36 : decode cX8_estimate 36 = .ok (.bipush 107, 2) := by decide +kernel
theorem dX8_estimate_38 : decode cX8_estimate 38 = .ok (.iconst 0, 1) := by decide +kernel
theorem dX8_estimate_39 : decode cX8_estimate 39 = .ok (.invokevirtual 150, 3) := by decide +kernel
theorem dX8_estimate_42 : decode cX8_estimate 42 = .ok (.i2l, 1) := by decide +kernel
theorem dX8_estimate_43 : decode cX8_estimate 43 = .ok (.lmul, 1) := by decide +kernel
theorem dX8_estimate_44 : decode cX8_estimate 44 = .ok (.aload_n 0, 1) := by decide +kernel
theorem dX8_estimate_45 : decode cX8_estimate 45 = .ok (.getfield 85, 3) := by decide +kernel
theorem dX8_estimate_48 : decode cX8_estimate 48 = .ok (.i2l, 1) := by decide +kernel
theorem dX8_estimate_49 : decode cX8_estimate 49 = .ok (.ldiv, 1) := by decide +kernel
theorem dX8_estimate_50 : decode cX8_estimate 50 = .ok (.lreturn, 1) := by decide +kernel
theorem dX8_doubleShare_0 : decode cX8_doubleShare 0 = .ok (.aload_n 0, 1) := by decide +kernel
theorem dX8_doubleShare_1 : decode cX8_doubleShare 1 = .ok (.invokevirtual 107, 3) := by decide +kernel
theorem dX8_doubleShare_4 : decode cX8_doubleShare 4 = .ok (.aload_n 0, 1) := by decide +kernel
theorem dX8_doubleShare_5 : decode cX8_doubleShare 5 = .ok (.bipush 99, 2) := by decide +kernel
theorem dX8_doubleShare_7 : decode cX8_doubleShare 7 = .ok (.iconst 1, 1) := by decide +kernel
theorem dX8_doubleShare_8 : decode cX8_doubleShare 8 = .ok (.invokevirtual 150, 3) := by decide +kernel
theorem dX8_doubleShare_11 : decode cX8_doubleShare 11 = .ok (.aload_n 0, 1) := by decide +kernel
theorem dX8_doubleShare_12 : decode cX8_doubleShare 12 = .ok (.bipush 99, 2) := by decide +kernel
theorem dX8_doubleShare_14 : decode cX8_doubleShare 14 = .ok (.iconst 0, 1) := by decide +kernel
theorem dX8_doubleShare_15 : decode cX8_doubleShare 15 = .ok (.invokevirtual 150, 3) := by decide +kernel
theorem dX8_doubleShare_18 : decode cX8_doubleShare 18 = .ok (.iadd, 1) := by decide +kernel
theorem dX8_doubleShare_19 : decode cX8_doubleShare 19 = .ok (.istore_n 1, 1) := by decide +kernel
theorem dX8_doubleShare_20 : decode cX8_doubleShare 20 = .ok (.aload_n 0, 1) := by decide +kernel
theorem dX8_doubleShare_21 : decode cX8_doubleShare 21 = .ok (.iload_n 1, 1) := by decide +kernel
theorem dX8_doubleShare_22 : decode cX8_doubleShare 22 = .ok (.ifCond .le 7, 3) := by decide +kernel
theorem dX8_doubleShare_25 : decode cX8_doubleShare 25 = .ok (.iconst 1, 1) := by decide +kernel
theorem dX8_doubleShare_26 : decode cX8_doubleShare 26 = .ok (.goto 4, 3) := by decide +kernel
theorem dX8_doubleShare_29 : decode cX8_doubleShare 29 = .ok (.iconst 0, 1) := by decide +kernel
theorem dX8_doubleShare_30 : decode cX8_doubleShare 30 = .ok (.invokevirtual 120, 3) := by decide +kernel
theorem dX8_doubleShare_33 : decode cX8_doubleShare 33 = .ok (.ifCond .le 7, 3) := by decide +kernel
theorem dX8_doubleShare_36 : decode cX8_doubleShare 36 = .ok (.fconst 0, 1) := by decide +kernel
theorem dX8_doubleShare_37 : decode cX8_doubleShare 37 = .ok (.goto 14, 3) := by decide +kernel
theorem dX8_doubleShare_40 : decode cX8_doubleShare 40 = .ok (.aload_n 0, 1) := by decide +kernel
theorem dX8_doubleShare_41 : decode cX8_doubleShare 41 = .ok (.bipush 99, 2) := by decide +kernel
theorem dX8_doubleShare_43 : decode cX8_doubleShare 43 = .ok (.iconst 1, 1) := by decide +kernel
theorem dX8_doubleShare_44 : decode cX8_doubleShare 44 = .ok (.invokevirtual 150, 3) := by decide +kernel
theorem dX8_doubleShare_47 : decode cX8_doubleShare 47 = .ok (.i2f, 1) := by decide +kernel
theorem dX8_doubleShare_48 : decode cX8_doubleShare 48 = .ok (.iload_n 1, 1) := by decide +kernel
theorem dX8_doubleShare_49 : decode cX8_doubleShare 49 = .ok (.i2f, 1) := by decide +kernel
theorem dX8_doubleShare_50 : decode cX8_doubleShare 50 = .ok (.fdiv, 1) := by decide +kernel
theorem dX8_doubleShare_51 : decode cX8_doubleShare 51 = .ok (.freturn, 1) := by decide +kernel
theorem dX8_meanScore_0 : decode cX8_meanScore 0 = .ok (.aload_n 0, 1) := by decide +kernel
theorem dX8_meanScore_1 : decode cX8_meanScore 1 = .ok (.invokevirtual 144, 3) := by decide +kernel
theorem dX8_meanScore_4 : decode cX8_meanScore 4 = .ok (.aload_n 0, 1) := by decide +kernel
theorem dX8_meanScore_5 : decode cX8_meanScore 5 = .ok (.aload_n 0, 1) := by decide +kernel
theorem dX8_meanScore_6 : decode cX8_meanScore 6 = .ok (.getfield 85, 3) := by decide +kernel
theorem dX8_meanScore_9 : decode cX8_meanScore 9 = .ok (.ifCond .le 7, 3) := by decide +kernel
theorem dX8_meanScore_12 : decode cX8_meanScore 12 = .ok (.iconst 1, 1) := by decide +kernel
theorem dX8_meanScore_13 : decode cX8_meanScore 13 = .ok (.goto 4, 3) := by decide +kernel
theorem dX8_meanScore_16 : decode cX8_meanScore 16 = .ok (.iconst 0, 1) := by decide +kernel
theorem dX8_meanScore_17 : decode cX8_meanScore 17 = .ok (.invokevirtual 120, 3) := by decide +kernel
theorem dX8_meanScore_20 : decode cX8_meanScore 20 = .ok (.ifCond .le 7, 3) := by decide +kernel
theorem dX8_meanScore_23 : decode cX8_meanScore 23 = .ok (.dconst 0, 1) := by decide +kernel
theorem dX8_meanScore_24 : decode cX8_meanScore 24 = .ok (.goto 14, 3) := by decide +kernel
theorem dX8_meanScore_27 : decode cX8_meanScore 27 = .ok (.aload_n 0, 1) := by decide +kernel
theorem dX8_meanScore_28 : decode cX8_meanScore 28 = .ok (.getfield 88, 3) := by decide +kernel
theorem dX8_meanScore_31 : decode cX8_meanScore 31 = .ok (.i2d, 1) := by decide +kernel
theorem dX8_meanScore_32 : decode cX8_meanScore 32 = .ok (.aload_n 0, 1) := by decide +kernel
theorem dX8_meanScore_33 : decode cX8_meanScore 33 = .ok (.getfield 85, 3) := by decide +kernel
theorem dX8_meanScore_36 : decode cX8_meanScore 36 = .ok (.i2d, 1) := by decide +kernel
theorem dX8_meanScore_37 : decode cX8_meanScore 37 = .ok (.ddiv, 1) := by decide +kernel
theorem dX8_meanScore_38 : decode cX8_meanScore 38 = .ok (.dreturn, 1) := by decide +kernel
theorem dX8_isFound_0 : decode cX8_isFound 0 = .ok (.iconst 0, 1) := by decide +kernel
theorem dX8_isFound_1 : decode cX8_isFound 1 = .ok (.istore_n 3, 1) := by decide +kernel
theorem dX8_isFound_2 : decode cX8_isFound 2 = .ok (.iload_n 3, 1) := by decide +kernel
theorem dX8_isFound_3 : decode cX8_isFound 3 = .ok (.bipush 10, 2) := by decide +kernel
theorem dX8_isFound_5 : decode cX8_isFound 5 = .ok (.if_icmp .ge 27, 3) := by decide +kernel
theorem dX8_isFound_8 : decode cX8_isFound 8 = .ok (.aload_n 0, 1) := by decide +kernel
theorem dX8_isFound_9 : decode cX8_isFound 9 = .ok (.getfield 45, 3) := by decide +kernel
theorem dX8_isFound_12 : decode cX8_isFound 12 = .ok (.iload_n 3, 1) := by decide +kernel
theorem dX8_isFound_13 : decode cX8_isFound 13 = .ok (.iload_n 3, 1) := by decide +kernel
theorem dX8_isFound_14 : decode cX8_isFound 14 = .ok (.iload_n 2, 1) := by decide +kernel
theorem dX8_isFound_15 : decode cX8_isFound 15 = .ok (.iconst 4, 1) := by decide +kernel
theorem dX8_isFound_16 : decode cX8_isFound 16 = .ok (.idiv, 1) := by decide +kernel
theorem dX8_isFound_17 : decode cX8_isFound 17 = .ok (.if_icmp .ne 7, 3) := by decide +kernel
theorem dX8_isFound_20 : decode cX8_isFound 20 = .ok (.iconst 1, 1) := by decide +kernel
theorem dX8_isFound_21 : decode cX8_isFound 21 = .ok (.goto 4, 3) := by decide +kernel
theorem dX8_isFound_24 : decode cX8_isFound 24 = .ok (.iconst 0, 1) := by decide +kernel
theorem dX8_isFound_25 : decode cX8_isFound 25 = .ok (.bastore, 1) := by decide +kernel
theorem dX8_isFound_26 : decode cX8_isFound 26 = .ok (.iinc 3 1, 3) := by decide +kernel
theorem dX8_isFound_29 : decode cX8_isFound 29 = .ok (.goto (-27), 3) := by decide +kernel
theorem dX8_isFound_32 : decode cX8_isFound 32 = .ok (.iconst 0, 1) := by decide +kernel
theorem dX8_isFound_33 : decode cX8_isFound 33 = .ok (.istore_n 3, 1) := by decide +kernel
theorem dX8_isFound_34 : decode cX8_isFound 34 = .ok (.iload_n 3, 1) := by decide +kernel
theorem dX8_isFound_35 : decode cX8_isFound 35 = .ok (.bipush 10, 2) := by decide +kernel
theorem dX8_isFound_37 : decode cX8_isFound 37 = .ok (.if_icmp .ge 108, 3) := by decide +kernel
theorem dX8_isFound_40 : decode cX8_isFound 40 = .ok (.iconst 0, 1) := by decide +kernel
theorem dX8_isFound_41 : decode cX8_isFound 41 = .ok (.istore 4, 2) := by decide +kernel
theorem dX8_isFound_43 : decode cX8_isFound 43 = .ok (.iload 4, 2) := by decide +kernel
theorem dX8_isFound_45 : decode cX8_isFound 45 = .ok (.bipush 24, 2) := by decide +kernel
theorem dX8_isFound_47 : decode cX8_isFound 47 = .ok (.if_icmp .ge 92, 3) := by decide +kernel
theorem dX8_isFound_50 : decode cX8_isFound 50 = .ok (.iload 4, 2) := by decide +kernel
theorem dX8_isFound_52 : decode cX8_isFound 52 = .ok (.iload_n 2, 1) := by decide +kernel
theorem dX8_isFound_53 : decode cX8_isFound 53 = .ok (.if_icmp .eq 80, 3) := by decide +kernel
theorem dX8_isFound_56 : decode cX8_isFound 56 = .ok (.aload_n 0, 1) := by decide +kernel
theorem dX8_isFound_57 : decode cX8_isFound 57 = .ok (.getfield 42, 3) := by decide +kernel
theorem dX8_isFound_60 : decode cX8_isFound 60 = .ok (.bipush 24, 2) := by decide +kernel
theorem dX8_isFound_62 : decode cX8_isFound 62 = .ok (.iload_n 1, 1) := by decide +kernel
theorem dX8_isFound_63 : decode cX8_isFound 63 = .ok (.imul, 1) := by decide +kernel
theorem dX8_isFound_64 : decode cX8_isFound 64 = .ok (.iload 4, 2) := by decide +kernel
theorem dX8_isFound_66 : decode cX8_isFound 66 = .ok (.iadd, 1) := by decide +kernel
theorem dX8_isFound_67 : decode cX8_isFound 67 = .ok (.baload, 1) := by decide +kernel
theorem dX8_isFound_68 : decode cX8_isFound 68 = .ok (.ifCond .ne 6, 3) := by decide +kernel
theorem dX8_isFound_71 : decode cX8_isFound 71 = .ok (.goto 62, 3) := by decide +kernel
theorem dX8_isFound_74 : decode cX8_isFound 74 = .ok (.aload_n 0, 1) := by decide +kernel
theorem dX8_isFound_75 : decode cX8_isFound 75 = .ok (.getfield 45, 3) := by decide +kernel
theorem dX8_isFound_78 : decode cX8_isFound 78 = .ok (.iload 4, 2) := by decide +kernel
theorem dX8_isFound_80 : decode cX8_isFound 80 = .ok (.iconst 4, 1) := by decide +kernel
theorem dX8_isFound_81 : decode cX8_isFound 81 = .ok (.idiv, 1) := by decide +kernel
theorem dX8_isFound_82 : decode cX8_isFound 82 = .ok (.baload, 1) := by decide +kernel
theorem dX8_isFound_83 : decode cX8_isFound 83 = .ok (.ifCond .ne 18, 3) := by decide +kernel
theorem dX8_isFound_86 : decode cX8_isFound 86 = .ok (.aload_n 0, 1) := by decide +kernel
theorem dX8_isFound_87 : decode cX8_isFound 87 = .ok (.getfield 45, 3) := by decide +kernel
theorem dX8_isFound_90 : decode cX8_isFound 90 = .ok (.bipush 6, 2) := by decide +kernel
theorem dX8_isFound_92 : decode cX8_isFound 92 = .ok (.iload 4, 2) := by decide +kernel
theorem dX8_isFound_94 : decode cX8_isFound 94 = .ok (.iconst 4, 1) := by decide +kernel
theorem dX8_isFound_95 : decode cX8_isFound 95 = .ok (.irem, 1) := by decide +kernel
theorem dX8_isFound_96 : decode cX8_isFound 96 = .ok (.iadd, 1) := by decide +kernel
theorem dX8_isFound_97 : decode cX8_isFound 97 = .ok (.baload, 1) := by decide +kernel
theorem dX8_isFound_98 : decode cX8_isFound 98 = .ok (.ifCond .eq 7, 3) := by decide +kernel
theorem dX8_isFound_101 : decode cX8_isFound 101 = .ok (.iconst 1, 1) := by decide +kernel
theorem dX8_isFound_102 : decode cX8_isFound 102 = .ok (.goto 4, 3) := by decide +kernel
theorem dX8_isFound_105 : decode cX8_isFound 105 = .ok (.iconst 0, 1) := by decide +kernel
theorem dX8_isFound_106 : decode cX8_isFound 106 = .ok (.istore 5, 2) := by decide +kernel
theorem dX8_isFound_108 : decode cX8_isFound 108 = .ok (.aload_n 0, 1) := by decide +kernel
theorem dX8_isFound_109 : decode cX8_isFound 109 = .ok (.getfield 45, 3) := by decide +kernel
theorem dX8_isFound_112 : decode cX8_isFound 112 = .ok (.iload 4, 2) := by decide +kernel
theorem dX8_isFound_114 : decode cX8_isFound 114 = .ok (.iconst 4, 1) := by decide +kernel
theorem dX8_isFound_115 : decode cX8_isFound 115 = .ok (.idiv, 1) := by decide +kernel
theorem dX8_isFound_116 : decode cX8_isFound 116 = .ok (.iload 5, 2) := by decide +kernel
theorem dX8_isFound_118 : decode cX8_isFound 118 = .ok (.bastore, 1) := by decide +kernel
theorem dX8_isFound_119 : decode cX8_isFound 119 = .ok (.aload_n 0, 1) := by decide +kernel
theorem dX8_isFound_120 : decode cX8_isFound 120 = .ok (.getfield 45, 3) := by decide +kernel
theorem dX8_isFound_123 : decode cX8_isFound 123 = .ok (.bipush 6, 2) := by decide +kernel
theorem dX8_isFound_125 : decode cX8_isFound 125 = .ok (.iload 4, 2) := by decide +kernel
theorem dX8_isFound_127 : decode cX8_isFound 127 = .ok (.iconst 4, 1) := by decide +kernel
theorem dX8_isFound_128 : decode cX8_isFound 128 = .ok (.irem, 1) := by decide +kernel
theorem dX8_isFound_129 : decode cX8_isFound 129 = .ok (.iadd, 1) := by decide +kernel
theorem dX8_isFound_130 : decode cX8_isFound 130 = .ok (.iload 5, 2) := by decide +kernel
theorem dX8_isFound_132 : decode cX8_isFound 132 = .ok (.bastore, 1) := by decide +kernel
theorem dX8_isFound_133 : decode cX8_isFound 133 = .ok (.iinc 4 1, 3) := by decide +kernel
theorem dX8_isFound_136 : decode cX8_isFound 136 = .ok (.goto (-93), 3) := by decide +kernel
theorem dX8_isFound_139 : decode cX8_isFound 139 = .ok (.iinc 3 1, 3) := by decide +kernel
theorem dX8_isFound_142 : decode cX8_isFound 142 = .ok (.goto (-108), 3) := by decide +kernel
theorem dX8_isFound_145 : decode cX8_isFound 145 = .ok (.aload_n 0, 1) := by decide +kernel
theorem dX8_isFound_146 : decode cX8_isFound 146 = .ok (.getfield 45, 3) := by decide +kernel
theorem dX8_isFound_149 : decode cX8_isFound 149 = .ok (.bipush 6, 2) := by decide +kernel
theorem dX8_isFound_151 : decode cX8_isFound 151 = .ok (.iload_n 2, 1) := by decide +kernel
theorem dX8_isFound_152 : decode cX8_isFound 152 = .ok (.iconst 4, 1) := by decide +kernel
theorem dX8_isFound_153 : decode cX8_isFound 153 = .ok (.irem, 1) := by decide +kernel
theorem dX8_isFound_154 : decode cX8_isFound 154 = .ok (.iadd, 1) := by decide +kernel
theorem dX8_isFound_155 : decode cX8_isFound 155 = .ok (.baload, 1) := by decide +kernel
theorem dX8_isFound_156 : decode cX8_isFound 156 = .ok (.ifCond .ne 7, 3) := by decide +kernel
theorem dX8_isFound_159 : decode cX8_isFound 159 = .ok (.iconst 1, 1) := by decide +kernel
theorem dX8_isFound_160 : decode cX8_isFound 160 = .ok (.goto 4, 3) := by decide +kernel
theorem dX8_isFound_163 : decode cX8_isFound 163 = .ok (.iconst 0, 1) := by decide +kernel
theorem dX8_isFound_164 : decode cX8_isFound 164 = .ok (.ireturn, 1) := by decide +kernel
theorem dX8_firstFound_0 : decode cX8_firstFound 0 = .ok (.iconst 0, 1) := by decide +kernel
theorem dX8_firstFound_1 : decode cX8_firstFound 1 = .ok (.istore_n 2, 1) := by decide +kernel
theorem dX8_firstFound_2 : decode cX8_firstFound 2 = .ok (.iload_n 2, 1) := by decide +kernel
theorem dX8_firstFound_3 : decode cX8_firstFound 3 = .ok (.bipush 24, 2) := by decide +kernel
theorem dX8_firstFound_5 : decode cX8_firstFound 5 = .ok (.if_icmp .ge 34, 3) := by decide +kernel
theorem dX8_firstFound_8 : decode cX8_firstFound 8 = .ok (.aload_n 0, 1) := by decide +kernel
theorem dX8_firstFound_9 : decode cX8_firstFound 9 = .ok (.getfield 42, 3) := by decide +kernel
theorem dX8_firstFound_12 : decode cX8_firstFound 12 = .ok (.bipush 24, 2) := by decide +kernel
theorem dX8_firstFound_14 : decode cX8_firstFound 14 = .ok (.iload_n 1, 1) := by decide +kernel
theorem dX8_firstFound_15 : decode cX8_firstFound 15 = .ok (.imul, 1) := by decide +kernel
theorem dX8_firstFound_16 : decode cX8_firstFound 16 = .ok (.iload_n 2, 1) := by decide +kernel
theorem dX8_firstFound_17 : decode cX8_firstFound 17 = .ok (.iadd, 1) := by decide +kernel
theorem dX8_firstFound_18 : decode cX8_firstFound 18 = .ok (.baload, 1) := by decide +kernel
theorem dX8_firstFound_19 : decode cX8_firstFound 19 = .ok (.ifCond .eq 14, 3) := by decide +kernel
theorem dX8_firstFound_22 : decode cX8_firstFound 22 = .ok (.aload_n 0, 1) := by decide +kernel
theorem dX8_firstFound_23 : decode cX8_firstFound 23 = .ok (.iload_n 1, 1) := by decide +kernel
theorem dX8_firstFound_24 : decode cX8_firstFound 24 = .ok (.iload_n 2, 1) := by decide +kernel
theorem dX8_firstFound_25 : decode cX8_firstFound 25 = .ok (.invokevirtual 154, 3) := by decide +kernel
theorem dX8_firstFound_28 : decode cX8_firstFound 28 = .ok (.ifCond .eq 5, 3) := by decide +kernel
theorem dX8_firstFound_31 : decode cX8_firstFound 31 = .ok (.iload_n 2, 1) := by decide +kernel
theorem dX8_firstFound_32 : decode cX8_firstFound 32 = .ok (.ireturn, 1) := by decide +kernel
theorem dX8_firstFound_33 : decode cX8_firstFound 33 = .ok (.iinc 2 1, 3) := by decide +kernel
theorem dX8_firstFound_36 : decode cX8_firstFound 36 = .ok (.goto (-34), 3) := by decide +kernel
theorem dX8_firstFound_39 : decode cX8_firstFound 39 = .ok (.iconst (-1), 1) := by decide +kernel
theorem dX8_firstFound_40 : decode cX8_firstFound 40 = .ok (.ireturn, 1) := by decide +kernel
theorem dX8_canHide_0 : decode cX8_canHide 0 = .ok (.aload_n 0, 1) := by decide +kernel
theorem dX8_canHide_1 : decode cX8_canHide 1 = .ok (.getfield 48, 3) := by decide +kernel
theorem dX8_canHide_4 : decode cX8_canHide 4 = .ok (.bipush 24, 2) := by decide +kernel
theorem dX8_canHide_6 : decode cX8_canHide 6 = .ok (.iload_n 1, 1) := by decide +kernel
theorem dX8_canHide_7 : decode cX8_canHide 7 = .ok (.imul, 1) := by decide +kernel
theorem dX8_canHide_8 : decode cX8_canHide 8 = .ok (.iload_n 2, 1) := by decide +kernel
theorem dX8_canHide_9 : decode cX8_canHide 9 = .ok (.iadd, 1) := by decide +kernel
theorem dX8_canHide_10 : decode cX8_canHide 10 = .ok (.iaload, 1) := by decide +kernel
theorem dX8_canHide_11 : decode cX8_canHide 11 = .ok (.ifCond .le 21, 3) := by decide +kernel
theorem dX8_canHide_14 : decode cX8_canHide 14 = .ok (.aload_n 0, 1) := by decide +kernel
theorem dX8_canHide_15 : decode cX8_canHide 15 = .ok (.getfield 42, 3) := by decide +kernel
theorem dX8_canHide_18 : decode cX8_canHide 18 = .ok (.bipush 24, 2) := by decide +kernel
theorem dX8_canHide_20 : decode cX8_canHide 20 = .ok (.iload_n 1, 1) := by decide +kernel
theorem dX8_canHide_21 : decode cX8_canHide 21 = .ok (.imul, 1) := by decide +kernel
theorem dX8_canHide_22 : decode cX8_canHide 22 = .ok (.iload_n 2, 1) := by decide +kernel
theorem dX8_canHide_23 : decode cX8_canHide 23 = .ok (.iadd, 1) := by decide +kernel
theorem dX8_canHide_24 : decode cX8_canHide 24 = .ok (.baload, 1) := by decide +kernel
theorem dX8_canHide_25 : decode cX8_canHide 25 = .ok (.ifCond .ne 7, 3) := by decide +kernel
theorem dX8_canHide_28 : decode cX8_canHide 28 = .ok (.iconst 1, 1) := by decide +kernel
theorem dX8_canHide_29 : decode cX8_canHide 29 = .ok (.goto 4, 3) := by decide +kernel
theorem dX8_canHide_32 : decode cX8_canHide 32 = .ok (.iconst 0, 1) := by decide +kernel
theorem dX8_canHide_33 : decode cX8_canHide 33 = .ok (.ireturn, 1) := by decide +kernel
theorem dX8_helps_0 : decode cX8_helps 0 = .ok (.aload_n 0, 1) := by decide +kernel
theorem dX8_helps_1 : decode cX8_helps 1 = .ok (.getfield 42, 3) := by decide +kernel
theorem dX8_helps_4 : decode cX8_helps 4 = .ok (.bipush 24, 2) := by decide +kernel
theorem dX8_helps_6 : decode cX8_helps 6 = .ok (.iload_n 1, 1) := by decide +kernel
theorem dX8_helps_7 : decode cX8_helps 7 = .ok (.imul, 1) := by decide +kernel
theorem dX8_helps_8 : decode cX8_helps 8 = .ok (.iload_n 2, 1) := by decide +kernel
theorem dX8_helps_9 : decode cX8_helps 9 = .ok (.iadd, 1) := by decide +kernel
theorem dX8_helps_10 : decode cX8_helps 10 = .ok (.iconst 1, 1) := by decide +kernel
theorem dX8_helps_11 : decode cX8_helps 11 = .ok (.bastore, 1) := by decide +kernel
theorem dX8_helps_12 : decode cX8_helps 12 = .ok (.aload_n 0, 1) := by decide +kernel
theorem dX8_helps_13 : decode cX8_helps 13 = .ok (.iload_n 1, 1) := by decide +kernel
theorem dX8_helps_14 : decode cX8_helps 14 = .ok (.iload_n 3, 1) := by decide +kernel
theorem dX8_helps_15 : decode cX8_helps 15 = .ok (.invokevirtual 154, 3) := by decide +kernel
theorem dX8_helps_18 : decode cX8_helps 18 = .ok (.ifCond .ne 7, 3) := by decide +kernel
theorem dX8_helps_21 : decode cX8_helps 21 = .ok (.iconst 1, 1) := by decide +kernel
theorem dX8_helps_22 : decode cX8_helps 22 = .ok (.goto 4, 3) := by decide +kernel
theorem dX8_helps_25 : decode cX8_helps 25 = .ok (.iconst 0, 1) := by decide +kernel
theorem dX8_helps_26 : decode cX8_helps 26 = .ok (.istore 4, 2) := by decide +kernel
theorem dX8_helps_28 : decode cX8_helps 28 = .ok (.aload_n 0, 1) := by decide +kernel
theorem dX8_helps_29 : decode cX8_helps 29 = .ok (.getfield 42, 3) := by decide +kernel
theorem dX8_helps_32 : decode cX8_helps 32 = .ok (.bipush 24, 2) := by decide +kernel
theorem dX8_helps_34 : decode cX8_helps 34 = .ok (.iload_n 1, 1) := by decide +kernel
theorem dX8_helps_35 : decode cX8_helps 35 = .ok (.imul, 1) := by decide +kernel
theorem dX8_helps_36 : decode cX8_helps 36 = .ok (.iload_n 2, 1) := by decide +kernel
theorem dX8_helps_37 : decode cX8_helps 37 = .ok (.iadd, 1) := by decide +kernel
theorem dX8_helps_38 : decode cX8_helps 38 = .ok (.iconst 0, 1) := by decide +kernel
theorem dX8_helps_39 : decode cX8_helps 39 = .ok (.bastore, 1) := by decide +kernel
theorem dX8_helps_40 : decode cX8_helps 40 = .ok (.iload 4, 2) := by decide +kernel
theorem dX8_helps_42 : decode cX8_helps 42 = .ok (.ireturn, 1) := by decide +kernel
theorem dX8_next_0 : decode cX8_next 0 = .ok (.iconst (-1), 1) := by decide +kernel
theorem dX8_next_1 : decode cX8_next 1 = .ok (.istore 4, 2) := by decide +kernel
theorem dX8_next_3 : decode cX8_next 3 = .ok (.iconst 0, 1) := by decide +kernel
theorem dX8_next_4 : decode cX8_next 4 = .ok (.istore 5, 2) := by decide +kernel
theorem dX8_next_6 : decode cX8_next 6 = .ok (.iload 5, 2) := by decide +kernel
theorem dX8_next_8 : decode cX8_next 8 = .ok (.bipush 24, 2) := by decide +kernel
theorem dX8_next_10 : decode cX8_next 10 = .ok (.if_icmp .ge 73, 3) := by decide +kernel
theorem dX8_next_13 : decode cX8_next 13 = .ok (.aload_n 0, 1) := by decide +kernel
theorem dX8_next_14 : decode cX8_next 14 = .ok (.iload_n 1, 1) := by decide +kernel
theorem dX8_next_15 : decode cX8_next 15 = .ok (.iload 5, 2) := by decide +kernel
theorem dX8_next_17 : decode cX8_next 17 = .ok (.invokevirtual 158, 3) := by decide +kernel
theorem dX8_next_20 : decode cX8_next 20 = .ok (.ifCond .eq 57, 3) := by decide +kernel
theorem dX8_next_23 : decode cX8_next 23 = .ok (.iload_n 3, 1) := by decide +kernel
theorem dX8_next_24 : decode cX8_next 24 = .ok (.ifCond .eq 17, 3) := by decide +kernel
theorem dX8_next_27 : decode cX8_next 27 = .ok (.aload_n 0, 1) := by decide +kernel
theorem dX8_next_28 : decode cX8_next 28 = .ok (.iload_n 1, 1) := by decide +kernel
theorem dX8_next_29 : decode cX8_next 29 = .ok (.iload 5, 2) := by decide +kernel
theorem dX8_next_31 : decode cX8_next 31 = .ok (.iload_n 2, 1) := by decide +kernel
theorem dX8_next_32 : decode cX8_next 32 = .ok (.invokevirtual 161, 3) := by decide +kernel
theorem dX8_next_35 : decode cX8_next 35 = .ok (.ifCond .ne 6, 3) := by decide +kernel
theorem dX8_next_38 : decode cX8_next 38 = .ok (.goto 39, 3) := by decide +kernel
theorem dX8_next_41 : decode cX8_next 41 = .ok (.iload 4, 2) := by decide +kernel
theorem dX8_next_43 : decode cX8_next 43 = .ok (.ifCond .lt 30, 3) := by decide +kernel
theorem dX8_next_46 : decode cX8_next 46 = .ok (.aload_n 0, 1) := by decide +kernel
theorem dX8_next_47 : decode cX8_next 47 = .ok (.getfield 48, 3) := by decide +kernel
theorem dX8_next_50 : decode cX8_next 50 = .ok (.bipush 24, 2) := by decide +kernel
theorem dX8_next_52 : decode cX8_next 52 = .ok (.iload_n 1, 1) := by decide +kernel
theorem dX8_next_53 : decode cX8_next 53 = .ok (.imul, 1) := by decide +kernel
theorem dX8_next_54 : decode cX8_next 54 = .ok (.iload 5, 2) := by decide +kernel
theorem dX8_next_56 : decode cX8_next 56 = .ok (.iadd, 1) := by decide +kernel
theorem dX8_next_57 : decode cX8_next 57 = .ok (.iaload, 1) := by decide +kernel
theorem dX8_next_58 : decode cX8_next 58 = .ok (.aload_n 0, 1) := by decide +kernel
theorem dX8_next_59 : decode cX8_next 59 = .ok (.getfield 48, 3) := by decide +kernel
theorem dX8_next_62 : decode cX8_next 62 = .ok (.bipush 24, 2) := by decide +kernel
theorem dX8_next_64 : decode cX8_next 64 = .ok (.iload_n 1, 1) := by decide +kernel
theorem dX8_next_65 : decode cX8_next 65 = .ok (.imul, 1) := by decide +kernel
theorem dX8_next_66 : decode cX8_next 66 = .ok (.iload 4, 2) := by decide +kernel
theorem dX8_next_68 : decode cX8_next 68 = .ok (.iadd, 1) := by decide +kernel
theorem dX8_next_69 : decode cX8_next 69 = .ok (.iaload, 1) := by decide +kernel
theorem dX8_next_70 : decode cX8_next 70 = .ok (.if_icmp .ge 7, 3) := by decide +kernel
theorem dX8_next_73 : decode cX8_next 73 = .ok (.iload 5, 2) := by decide +kernel
theorem dX8_next_75 : decode cX8_next 75 = .ok (.istore 4, 2) := by decide +kernel
theorem dX8_next_77 : decode cX8_next 77 = .ok (.iinc 5 1, 3) := by decide +kernel
theorem dX8_next_80 : decode cX8_next 80 = .ok (.goto (-74), 3) := by decide +kernel
theorem dX8_next_83 : decode cX8_next 83 = .ok (.iload 4, 2) := by decide +kernel
theorem dX8_next_85 : decode cX8_next 85 = .ok (.ireturn, 1) := by decide +kernel
theorem dX8_hidesSmall_0 : decode cX8_hidesSmall 0 = .ok (.iconst 0, 1) := by decide +kernel
theorem dX8_hidesSmall_1 : decode cX8_hidesSmall 1 = .ok (.istore_n 2, 1) := by decide +kernel
theorem dX8_hidesSmall_2 : decode cX8_hidesSmall 2 = .ok (.iload_n 2, 1) := by decide +kernel
theorem dX8_hidesSmall_3 : decode cX8_hidesSmall 3 = .ok (.bipush 24, 2) := by decide +kernel
theorem dX8_hidesSmall_5 : decode cX8_hidesSmall 5 = .ok (.if_icmp .ge 36, 3) := by decide +kernel
theorem dX8_hidesSmall_8 : decode cX8_hidesSmall 8 = .ok (.aload_n 0, 1) := by decide +kernel
theorem dX8_hidesSmall_9 : decode cX8_hidesSmall 9 = .ok (.getfield 42, 3) := by decide +kernel
theorem dX8_hidesSmall_12 : decode cX8_hidesSmall 12 = .ok (.bipush 24, 2) := by decide +kernel
theorem dX8_hidesSmall_14 : decode cX8_hidesSmall 14 = .ok (.iload_n 1, 1) := by decide +kernel
theorem dX8_hidesSmall_15 : decode cX8_hidesSmall 15 = .ok (.imul, 1) := by decide +kernel
theorem dX8_hidesSmall_16 : decode cX8_hidesSmall 16 = .ok (.iload_n 2, 1) := by decide +kernel
theorem dX8_hidesSmall_17 : decode cX8_hidesSmall 17 = .ok (.iadd, 1) := by decide +kernel
theorem dX8_hidesSmall_18 : decode cX8_hidesSmall 18 = .ok (.aload_n 0, 1) := by decide +kernel
theorem dX8_hidesSmall_19 : decode cX8_hidesSmall 19 = .ok (.getfield 48, 3) := by decide +kernel
theorem dX8_hidesSmall_22 : decode cX8_hidesSmall 22 = .ok (.bipush 24, 2) := by decide +kernel
theorem dX8_hidesSmall_24 : decode cX8_hidesSmall 24 = .ok (.iload_n 1, 1) := by decide +kernel
theorem dX8_hidesSmall_25 : decode cX8_hidesSmall 25 = .ok (.imul, 1) := by decide +kernel
theorem dX8_hidesSmall_26 : decode cX8_hidesSmall 26 = .ok (.iload_n 2, 1) := by decide +kernel
theorem dX8_hidesSmall_27 : decode cX8_hidesSmall 27 = .ok (.iadd, 1) := by decide +kernel
theorem dX8_hidesSmall_28 : decode cX8_hidesSmall 28 = .ok (.iaload, 1) := by decide +kernel
theorem dX8_hidesSmall_29 : decode cX8_hidesSmall 29 = .ok (.iconst 1, 1) := by decide +kernel
theorem dX8_hidesSmall_30 : decode cX8_hidesSmall 30 = .ok (.iconst 2, 1) := by decide +kernel
theorem dX8_hidesSmall_31 : decode cX8_hidesSmall 31 = .ok (.invokestatic 91, 3) := by decide +kernel
theorem dX8_hidesSmall_34 : decode cX8_hidesSmall 34 = .ok (.bastore, 1) := by decide +kernel
theorem dX8_hidesSmall_35 : decode cX8_hidesSmall 35 = .ok (.iinc 2 1, 3) := by decide +kernel
theorem dX8_hidesSmall_38 : decode cX8_hidesSmall 38 = .ok (.goto (-36), 3) := by decide +kernel
theorem dX8_hidesSmall_41 : decode cX8_hidesSmall 41 = .ok (.return_, 1) := by decide +kernel
theorem dX8_hides_0 : decode cX8_hides 0 = .ok (.aload_n 0, 1) := by decide +kernel
theorem dX8_hides_1 : decode cX8_hides 1 = .ok (.iload_n 1, 1) := by decide +kernel
theorem dX8_hides_2 : decode cX8_hides 2 = .ok (.invokevirtual 164, 3) := by decide +kernel
theorem dX8_hides_5 : decode cX8_hides 5 = .ok (.aload_n 0, 1) := by decide +kernel
theorem dX8_hides_6 : decode cX8_hides 6 = .ok (.iload_n 1, 1) := by decide +kernel
theorem dX8_hides_7 : decode cX8_hides 7 = .ok (.invokevirtual 168, 3) := by decide +kernel
theorem dX8_hides_10 : decode cX8_hides 10 = .ok (.istore_n 2, 1) := by decide +kernel
theorem dX8_hides_11 : decode cX8_hides 11 = .ok (.iload_n 2, 1) := by decide +kernel
theorem dX8_hides_12 : decode cX8_hides 12 = .ok (.ifCond .lt 50, 3) := by decide +kernel
theorem dX8_hides_15 : decode cX8_hides 15 = .ok (.aload_n 0, 1) := by decide +kernel
theorem dX8_hides_16 : decode cX8_hides 16 = .ok (.iload_n 1, 1) := by decide +kernel
theorem dX8_hides_17 : decode cX8_hides 17 = .ok (.iload_n 2, 1) := by decide +kernel
theorem dX8_hides_18 : decode cX8_hides 18 = .ok (.iconst 1, 1) := by decide +kernel
theorem dX8_hides_19 : decode cX8_hides 19 = .ok (.invokevirtual 171, 3) := by decide +kernel
theorem dX8_hides_22 : decode cX8_hides 22 = .ok (.istore_n 3, 1) := by decide +kernel
theorem dX8_hides_23 : decode cX8_hides 23 = .ok (.iload_n 3, 1) := by decide +kernel
theorem dX8_hides_24 : decode cX8_hides 24 = .ok (.ifCond .ge 11, 3) := by decide +kernel
theorem dX8_hides_27 : decode cX8_hides 27 = .ok (.aload_n 0, 1) := by decide +kernel
theorem dX8_hides_28 : decode cX8_hides 28 = .ok (.iload_n 1, 1) := by decide +kernel
theorem dX8_hides_29 : decode cX8_hides 29 = .ok (.iload_n 2, 1) := by decide +kernel
theorem dX8_hides_30 : decode cX8_hides 30 = .ok (.iconst 0, 1) := by decide +kernel
theorem dX8_hides_31 : decode cX8_hides 31 = .ok (.invokevirtual 171, 3) := by decide +kernel
theorem dX8_hides_34 : decode cX8_hides 34 = .ok (.istore_n 3, 1) := by decide +kernel
theorem dX8_hides_35 : decode cX8_hides 35 = .ok (.iload_n 3, 1) := by decide +kernel
theorem dX8_hides_36 : decode cX8_hides 36 = .ok (.ifCond .ge 5, 3) := by decide +kernel
theorem dX8_hides_39 : decode cX8_hides 39 = .ok (.iconst 0, 1) := by decide +kernel
theorem dX8_hides_40 : decode cX8_hides 40 = .ok (.ireturn, 1) := by decide +kernel
theorem dX8_hides_41 : decode cX8_hides 41 = .ok (.aload_n 0, 1) := by decide +kernel
theorem dX8_hides_42 : decode cX8_hides 42 = .ok (.getfield 42, 3) := by decide +kernel
theorem dX8_hides_45 : decode cX8_hides 45 = .ok (.bipush 24, 2) := by decide +kernel
theorem dX8_hides_47 : decode cX8_hides 47 = .ok (.iload_n 1, 1) := by decide +kernel
theorem dX8_hides_48 : decode cX8_hides 48 = .ok (.imul, 1) := by decide +kernel
theorem dX8_hides_49 : decode cX8_hides 49 = .ok (.iload_n 3, 1) := by decide +kernel
theorem dX8_hides_50 : decode cX8_hides 50 = .ok (.iadd, 1) := by decide +kernel
theorem dX8_hides_51 : decode cX8_hides 51 = .ok (.iconst 1, 1) := by decide +kernel
theorem dX8_hides_52 : decode cX8_hides 52 = .ok (.bastore, 1) := by decide +kernel
theorem dX8_hides_53 : decode cX8_hides 53 = .ok (.aload_n 0, 1) := by decide +kernel
theorem dX8_hides_54 : decode cX8_hides 54 = .ok (.iload_n 1, 1) := by decide +kernel
theorem dX8_hides_55 : decode cX8_hides 55 = .ok (.invokevirtual 168, 3) := by decide +kernel
theorem dX8_hides_58 : decode cX8_hides 58 = .ok (.istore_n 2, 1) := by decide +kernel
theorem dX8_hides_59 : decode cX8_hides 59 = .ok (.goto (-48), 3) := by decide +kernel
theorem dX8_hides_62 : decode cX8_hides 62 = .ok (.iconst 1, 1) := by decide +kernel
theorem dX8_hides_63 : decode cX8_hides 63 = .ok (.ireturn, 1) := by decide +kernel
theorem dX8_tell_0 : decode cX8_tell 0 = .ok (.aload_n 0, 1) := by decide +kernel
theorem dX8_tell_1 : decode cX8_tell 1 = .ok (.aload_n 0, 1) := by decide +kernel
theorem dX8_tell_2 : decode cX8_tell 2 = .ok (.getfield 58, 3) := by decide +kernel
theorem dX8_tell_5 : decode cX8_tell 5 = .ok (.iconst 2, 1) := by decide +kernel
theorem dX8_tell_6 : decode cX8_tell 6 = .ok (.if_icmp .lt 12, 3) := by decide +kernel
theorem dX8_tell_9 : decode cX8_tell 9 = .ok (.aload_n 0, 1) := by decide +kernel
theorem dX8_tell_10 : decode cX8_tell 10 = .ok (.getfield 67, 3) := by decide +kernel
theorem dX8_tell_13 : decode cX8_tell 13 = .ok (.bipush 8, 2) := by decide +kernel
theorem dX8_tell_15 : decode cX8_tell 15 = .ok (.if_icmp .ne 7, 3) := by decide +kernel
theorem dX8_tell_18 : decode cX8_tell 18 = .ok (.iconst 1, 1) := by decide +kernel
theorem dX8_tell_19 : decode cX8_tell 19 = .ok (.goto 4, 3) := by decide +kernel
theorem dX8_tell_22 : decode cX8_tell 22 = .ok (.iconst 0, 1) := by decide +kernel
theorem dX8_tell_23 : decode cX8_tell 23 = .ok (.putfield 54, 3) := by decide +kernel
theorem dX8_tell_26 : decode cX8_tell 26 = .ok (.aload_n 0, 1) := by decide +kernel
theorem dX8_tell_27 : decode cX8_tell 27 = .ok (.getfield 54, 3) := by decide +kernel
theorem dX8_tell_30 : decode cX8_tell 30 = .ok (.ifCond .le 5, 3) := by decide +kernel
theorem dX8_tell_33 : decode cX8_tell 33 = .ok (.iconst 0, 1) := by decide +kernel
theorem dX8_tell_34 : decode cX8_tell 34 = .ok (.ireturn, 1) := by decide +kernel
theorem dX8_tell_35 : decode cX8_tell 35 = .ok (.aload_n 0, 1) := by decide +kernel
theorem dX8_tell_36 : decode cX8_tell 36 = .ok (.invokevirtual 117, 3) := by decide +kernel
theorem dX8_tell_39 : decode cX8_tell 39 = .ok (.iconst 0, 1) := by decide +kernel
theorem dX8_tell_40 : decode cX8_tell 40 = .ok (.istore_n 1, 1) := by decide +kernel
theorem dX8_tell_41 : decode cX8_tell 41 = .ok (.iload_n 1, 1) := by decide +kernel
theorem dX8_tell_42 : decode cX8_tell 42 = .ok (.bipush 24, 2) := by decide +kernel
theorem dX8_tell_44 : decode cX8_tell 44 = .ok (.if_icmp .ge 29, 3) := by decide +kernel
theorem dX8_tell_47 : decode cX8_tell 47 = .ok (.aload_n 0, 1) := by decide +kernel
theorem dX8_tell_48 : decode cX8_tell 48 = .ok (.getfield 48, 3) := by decide +kernel
theorem dX8_tell_51 : decode cX8_tell 51 = .ok (.bipush 24, 2) := by decide +kernel
theorem dX8_tell_53 : decode cX8_tell 53 = .ok (.aload_n 0, 1) := by decide +kernel
theorem dX8_tell_54 : decode cX8_tell 54 = .ok (.getfield 67, 3) := by decide +kernel
theorem dX8_tell_57 : decode cX8_tell 57 = .ok (.imul, 1) := by decide +kernel
theorem dX8_tell_58 : decode cX8_tell 58 = .ok (.iload_n 1, 1) := by decide +kernel
theorem dX8_tell_59 : decode cX8_tell 59 = .ok (.iadd, 1) := by decide +kernel
theorem dX8_tell_60 : decode cX8_tell 60 = .ok (.aload_n 0, 1) := by decide +kernel
theorem dX8_tell_61 : decode cX8_tell 61 = .ok (.getfield 25, 3) := by decide +kernel
theorem dX8_tell_64 : decode cX8_tell 64 = .ok (.iload_n 1, 1) := by decide +kernel
theorem dX8_tell_65 : decode cX8_tell 65 = .ok (.iaload, 1) := by decide +kernel
theorem dX8_tell_66 : decode cX8_tell 66 = .ok (.iastore, 1) := by decide +kernel
theorem dX8_tell_67 : decode cX8_tell 67 = .ok (.iinc 1 1, 3) := by decide +kernel
theorem dX8_tell_70 : decode cX8_tell 70 = .ok (.goto (-29), 3) := by decide +kernel
theorem dX8_tell_73 : decode cX8_tell 73 = .ok (.aload_n 0, 1) := by decide +kernel
theorem dX8_tell_74 : decode cX8_tell 74 = .ok (.aload_n 0, 1) := by decide +kernel
theorem dX8_tell_75 : decode cX8_tell 75 = .ok (.aload_n 0, 1) := by decide +kernel
theorem dX8_tell_76 : decode cX8_tell 76 = .ok (.getfield 67, 3) := by decide +kernel
theorem dX8_tell_79 : decode cX8_tell 79 = .ok (.invokevirtual 175, 3) := by decide +kernel
theorem dX8_tell_82 : decode cX8_tell 82 = .ok (.ifCond .eq 7, 3) := by decide +kernel
theorem dX8_tell_85 : decode cX8_tell 85 = .ok (.iconst 0, 1) := by decide +kernel
theorem dX8_tell_86 : decode cX8_tell 86 = .ok (.goto 4, 3) := by decide +kernel
theorem dX8_tell_89 : decode cX8_tell 89 = .ok (.iconst 2, 1) := by decide +kernel
theorem dX8_tell_90 : decode cX8_tell 90 = .ok (.putfield 54, 3) := by decide +kernel
theorem dX8_tell_93 : decode cX8_tell 93 = .ok (.aload_n 0, 1) := by decide +kernel
theorem dX8_tell_94 : decode cX8_tell 94 = .ok (.getfield 54, 3) := by decide +kernel
theorem dX8_tell_97 : decode cX8_tell 97 = .ok (.ifCond .le 5, 3) := by decide +kernel
theorem dX8_tell_100 : decode cX8_tell 100 = .ok (.iconst 0, 1) := by decide +kernel
theorem dX8_tell_101 : decode cX8_tell 101 = .ok (.ireturn, 1) := by decide +kernel
theorem dX8_tell_102 : decode cX8_tell 102 = .ok (.aload_n 0, 1) := by decide +kernel
theorem dX8_tell_103 : decode cX8_tell 103 = .ok (.getfield 51, 3) := by decide +kernel
theorem dX8_tell_106 : decode cX8_tell 106 = .ok (.aload_n 0, 1) := by decide +kernel
theorem dX8_tell_107 : decode cX8_tell 107 = .ok (.getfield 67, 3) := by decide +kernel
theorem dX8_tell_110 : decode cX8_tell 110 = .ok (.aload_n 0, 1) := by decide +kernel
theorem dX8_tell_111 : decode cX8_tell 111 = .ok (.getfield 58, 3) := by decide +kernel
theorem dX8_tell_114 : decode cX8_tell 114 = .ok (.iastore, 1) := by decide +kernel
theorem dX8_tell_115 : decode cX8_tell 115 = .ok (.aload_n 0, 1) := by decide +kernel
theorem dX8_tell_116 : decode cX8_tell 116 = .ok (.dup, 1) := by decide +kernel
theorem dX8_tell_117 : decode cX8_tell 117 = .ok (.getfield 67, 3) := by decide +kernel
theorem dX8_tell_120 : decode cX8_tell 120 = .ok (.iconst 1, 1) := by decide +kernel
theorem dX8_tell_121 : decode cX8_tell 121 = .ok (.iadd, 1) := by decide +kernel
theorem dX8_tell_122 : decode cX8_tell 122 = .ok (.putfield 67, 3) := by decide +kernel
theorem dX8_tell_125 : decode cX8_tell 125 = .ok (.aload_n 0, 1) := by decide +kernel
theorem dX8_tell_126 : decode cX8_tell 126 = .ok (.getfield 67, 3) := by decide +kernel
theorem dX8_tell_129 : decode cX8_tell 129 = .ok (.iconst 1, 1) := by decide +kernel
theorem dX8_tell_130 : decode cX8_tell 130 = .ok (.isub, 1) := by decide +kernel
theorem dX8_tell_131 : decode cX8_tell 131 = .ok (.ireturn, 1) := by decide +kernel
theorem dX8_isTable_0 : decode cX8_isTable 0 = .ok (.iload_n 1, 1) := by decide +kernel
theorem dX8_isTable_1 : decode cX8_isTable 1 = .ok (.iconst 0, 1) := by decide +kernel
theorem dX8_isTable_2 : decode cX8_isTable 2 = .ok (.aload_n 0, 1) := by decide +kernel
theorem dX8_isTable_3 : decode cX8_isTable 3 = .ok (.getfield 67, 3) := by decide +kernel
theorem dX8_isTable_6 : decode cX8_isTable 6 = .ok (.iconst 1, 1) := by decide +kernel
theorem dX8_isTable_7 : decode cX8_isTable 7 = .ok (.isub, 1) := by decide +kernel
theorem dX8_isTable_8 : decode cX8_isTable 8 = .ok (.invokestatic 91, 3) := by decide +kernel
theorem dX8_isTable_11 : decode cX8_isTable 11 = .ok (.ireturn, 1) := by decide +kernel
theorem dX8_stateOf_0 : decode cX8_stateOf 0 = .ok (.aload_n 0, 1) := by decide +kernel
theorem dX8_stateOf_1 : decode cX8_stateOf 1 = .ok (.aload_n 0, 1) := by decide +kernel
theorem dX8_stateOf_2 : decode cX8_stateOf 2 = .ok (.iload_n 1, 1) := by decide +kernel
theorem dX8_stateOf_3 : decode cX8_stateOf 3 = .ok (.invokevirtual 178, 3) := by decide +kernel
theorem dX8_stateOf_6 : decode cX8_stateOf 6 = .ok (.invokevirtual 120, 3) := by decide +kernel
theorem dX8_stateOf_9 : decode cX8_stateOf 9 = .ok (.ifCond .gt 12, 3) := by decide +kernel
theorem dX8_stateOf_12 : decode cX8_stateOf 12 = .ok (.aload_n 0, 1) := by decide +kernel
theorem dX8_stateOf_13 : decode cX8_stateOf 13 = .ok (.getfield 39, 3) := by decide +kernel
theorem dX8_stateOf_16 : decode cX8_stateOf 16 = .ok (.iload_n 1, 1) := by decide +kernel
theorem dX8_stateOf_17 : decode cX8_stateOf 17 = .ok (.baload, 1) := by decide +kernel
theorem dX8_stateOf_18 : decode cX8_stateOf 18 = .ok (.ifCond .ne 8, 3) := by decide +kernel
theorem dX8_stateOf_21 : decode cX8_stateOf 21 = .ok (.bipush 116, 2) := by decide +kernel
theorem dX8_stateOf_23 : decode cX8_stateOf 23 = .ok (.goto 5, 3) := by decide +kernel
theorem dX8_stateOf_26 : decode cX8_stateOf 26 = .ok (.bipush 117, 2) := by decide +kernel
theorem dX8_stateOf_28 : decode cX8_stateOf 28 = .ok (.ireturn, 1) := by decide +kernel
theorem dX8_wrongCell_0 : decode cX8_wrongCell 0 = .ok (.aload_n 0, 1) := by decide +kernel
theorem dX8_wrongCell_1 : decode cX8_wrongCell 1 = .ok (.iload_n 1, 1) := by decide +kernel
theorem dX8_wrongCell_2 : decode cX8_wrongCell 2 = .ok (.invokevirtual 178, 3) := by decide +kernel
theorem dX8_wrongCell_5 : decode cX8_wrongCell 5 = .ok (.ifCond .ne 7, 3) := by decide +kernel
theorem dX8_wrongCell_8 : decode cX8_wrongCell 8 = .ok (.iconst 1, 1) := by decide +kernel
theorem dX8_wrongCell_9 : decode cX8_wrongCell 9 = .ok (.goto 37, 3) := by decide +kernel
theorem dX8_wrongCell_12 : decode cX8_wrongCell 12 = .ok (.iload_n 2, 1) := by decide +kernel
theorem dX8_wrongCell_13 : decode cX8_wrongCell 13 = .ok (.iconst 0, 1) := by decide +kernel
theorem dX8_wrongCell_14 : decode cX8_wrongCell 14 = .ok (.aload_n 0, 1) := by decide +kernel
theorem dX8_wrongCell_15 : decode cX8_wrongCell 15 = .ok (.getfield 51, 3) := by decide +kernel
theorem dX8_wrongCell_18 : decode cX8_wrongCell 18 = .ok (.iload_n 1, 1) := by decide +kernel
theorem dX8_wrongCell_19 : decode cX8_wrongCell 19 = .ok (.iaload, 1) := by decide +kernel
theorem dX8_wrongCell_20 : decode cX8_wrongCell 20 = .ok (.iconst 1, 1) := by decide +kernel
theorem dX8_wrongCell_21 : decode cX8_wrongCell 21 = .ok (.isub, 1) := by decide +kernel
theorem dX8_wrongCell_22 : decode cX8_wrongCell 22 = .ok (.invokestatic 91, 3) := by decide +kernel
theorem dX8_wrongCell_25 : decode cX8_wrongCell 25 = .ok (.ifCond .ne 7, 3) := by decide +kernel
theorem dX8_wrongCell_28 : decode cX8_wrongCell 28 = .ok (.iconst 2, 1) := by decide +kernel
theorem dX8_wrongCell_29 : decode cX8_wrongCell 29 = .ok (.goto 17, 3) := by decide +kernel
theorem dX8_wrongCell_32 : decode cX8_wrongCell 32 = .ok (.iload_n 3, 1) := by decide +kernel
theorem dX8_wrongCell_33 : decode cX8_wrongCell 33 = .ok (.iconst 0, 1) := by decide +kernel
theorem dX8_wrongCell_34 : decode cX8_wrongCell 34 = .ok (.iconst 3, 1) := by decide +kernel
theorem dX8_wrongCell_35 : decode cX8_wrongCell 35 = .ok (.invokestatic 91, 3) := by decide +kernel
theorem dX8_wrongCell_38 : decode cX8_wrongCell 38 = .ok (.ifCond .ne 7, 3) := by decide +kernel
theorem dX8_wrongCell_41 : decode cX8_wrongCell 41 = .ok (.iconst 3, 1) := by decide +kernel
theorem dX8_wrongCell_42 : decode cX8_wrongCell 42 = .ok (.goto 4, 3) := by decide +kernel
theorem dX8_wrongCell_45 : decode cX8_wrongCell 45 = .ok (.iconst 0, 1) := by decide +kernel
theorem dX8_wrongCell_46 : decode cX8_wrongCell 46 = .ok (.ireturn, 1) := by decide +kernel
theorem dX8_place_0 : decode cX8_place 0 = .ok (.bipush 24, 2) := by decide +kernel
theorem dX8_place_2 : decode cX8_place 2 = .ok (.iload_n 0, 1) := by decide +kernel
theorem dX8_place_3 : decode cX8_place 3 = .ok (.imul, 1) := by decide +kernel
theorem dX8_place_4 : decode cX8_place 4 = .ok (.iconst 4, 1) := by decide +kernel
theorem dX8_place_5 : decode cX8_place 5 = .ok (.iload_n 1, 1) := by decide +kernel
theorem dX8_place_6 : decode cX8_place 6 = .ok (.imul, 1) := by decide +kernel
theorem dX8_place_7 : decode cX8_place 7 = .ok (.iadd, 1) := by decide +kernel
theorem dX8_place_8 : decode cX8_place 8 = .ok (.iload_n 2, 1) := by decide +kernel
theorem dX8_place_9 : decode cX8_place 9 = .ok (.iadd, 1) := by decide +kernel
theorem dX8_place_10 : decode cX8_place 10 = .ok (.ireturn, 1) := by decide +kernel
theorem dX8_isHidden_0 : decode cX8_isHidden 0 = .ok (.aload_n 0, 1) := by decide +kernel
theorem dX8_isHidden_1 : decode cX8_isHidden 1 = .ok (.aload_n 0, 1) := by decide +kernel
theorem dX8_isHidden_2 : decode cX8_isHidden 2 = .ok (.iload_n 1, 1) := by decide +kernel
theorem dX8_isHidden_3 : decode cX8_isHidden 3 = .ok (.iload_n 2, 1) := by decide +kernel
theorem dX8_isHidden_4 : decode cX8_isHidden 4 = .ok (.iload_n 3, 1) := by decide +kernel
theorem dX8_isHidden_5 : decode cX8_isHidden 5 = .ok (.invokevirtual 181, 3) := by decide +kernel
theorem dX8_isHidden_8 : decode cX8_isHidden 8 = .ok (.putfield 54, 3) := by decide +kernel
theorem dX8_isHidden_11 : decode cX8_isHidden 11 = .ok (.aload_n 0, 1) := by decide +kernel
theorem dX8_isHidden_12 : decode cX8_isHidden 12 = .ok (.getfield 54, 3) := by decide +kernel
theorem dX8_isHidden_15 : decode cX8_isHidden 15 = .ok (.ifCond .ne 21, 3) := by decide +kernel
theorem dX8_isHidden_18 : decode cX8_isHidden 18 = .ok (.aload_n 0, 1) := by decide +kernel
theorem dX8_isHidden_19 : decode cX8_isHidden 19 = .ok (.getfield 42, 3) := by decide +kernel
theorem dX8_isHidden_22 : decode cX8_isHidden 22 = .ok (.iload_n 1, 1) := by decide +kernel
theorem dX8_isHidden_23 : decode cX8_isHidden 23 = .ok (.iload_n 2, 1) := by decide +kernel
theorem dX8_isHidden_24 : decode cX8_isHidden 24 = .ok (.iload_n 3, 1) := by decide +kernel
theorem dX8_isHidden_25 : decode cX8_isHidden 25 = .ok (.invokestatic 185, 3) := by decide +kernel
theorem dX8_isHidden_28 : decode cX8_isHidden 28 = .ok (.baload, 1) := by decide +kernel
theorem dX8_isHidden_29 : decode cX8_isHidden 29 = .ok (.ifCond .eq 7, 3) := by decide +kernel
theorem dX8_isHidden_32 : decode cX8_isHidden 32 = .ok (.iconst 1, 1) := by decide +kernel
theorem dX8_isHidden_33 : decode cX8_isHidden 33 = .ok (.goto 4, 3) := by decide +kernel
theorem dX8_isHidden_36 : decode cX8_isHidden 36 = .ok (.iconst 0, 1) := by decide +kernel
theorem dX8_isHidden_37 : decode cX8_isHidden 37 = .ok (.ireturn, 1) := by decide +kernel
theorem dX8_cell_0 : decode cX8_cell 0 = .ok (.aload_n 0, 1) := by decide +kernel
theorem dX8_cell_1 : decode cX8_cell 1 = .ok (.aload_n 0, 1) := by decide +kernel
theorem dX8_cell_2 : decode cX8_cell 2 = .ok (.iload_n 1, 1) := by decide +kernel
theorem dX8_cell_3 : decode cX8_cell 3 = .ok (.iload_n 2, 1) := by decide +kernel
theorem dX8_cell_4 : decode cX8_cell 4 = .ok (.iload_n 3, 1) := by decide +kernel
theorem dX8_cell_5 : decode cX8_cell 5 = .ok (.invokevirtual 181, 3) := by decide +kernel
theorem dX8_cell_8 : decode cX8_cell 8 = .ok (.putfield 54, 3) := by decide +kernel
theorem dX8_cell_11 : decode cX8_cell 11 = .ok (.aload_n 0, 1) := by decide +kernel
theorem dX8_cell_12 : decode cX8_cell 12 = .ok (.getfield 54, 3) := by decide +kernel
theorem dX8_cell_15 : decode cX8_cell 15 = .ok (.ifCond .ne 22, 3) := by decide +kernel
theorem dX8_cell_18 : decode cX8_cell 18 = .ok (.aload_n 0, 1) := by decide +kernel
theorem dX8_cell_19 : decode cX8_cell 19 = .ok (.getfield 42, 3) := by decide +kernel
theorem dX8_cell_22 : decode cX8_cell 22 = .ok (.iload_n 1, 1) := by decide +kernel
theorem dX8_cell_23 : decode cX8_cell 23 = .ok (.iload_n 2, 1) := by decide +kernel
theorem dX8_cell_24 : decode cX8_cell 24 = .ok (.iload_n 3, 1) := by decide +kernel
theorem dX8_cell_25 : decode cX8_cell 25 = .ok (.invokestatic 185, 3) := by decide +kernel
theorem dX8_cell_28 : decode cX8_cell 28 = .ok (.baload, 1) := by decide +kernel
theorem dX8_cell_29 : decode cX8_cell 29 = .ok (.ifCond .eq 8, 3) := by decide +kernel
theorem dX8_cell_32 : decode cX8_cell 32 = .ok (.aload_n 0, 1) := by decide +kernel
theorem dX8_cell_33 : decode cX8_cell 33 = .ok (.iconst 4, 1) := by decide +kernel
theorem dX8_cell_34 : decode cX8_cell 34 = .ok (.putfield 54, 3) := by decide +kernel
theorem dX8_cell_37 : decode cX8_cell 37 = .ok (.aload_n 0, 1) := by decide +kernel
theorem dX8_cell_38 : decode cX8_cell 38 = .ok (.getfield 54, 3) := by decide +kernel
theorem dX8_cell_41 : decode cX8_cell 41 = .ok (.ifCond .le 7, 3) := by decide +kernel
theorem dX8_cell_44 : decode cX8_cell 44 = .ok (.iconst 0, 1) := by decide +kernel
theorem dX8_cell_45 : decode cX8_cell 45 = .ok (.goto 14, 3) := by decide +kernel
theorem dX8_cell_48 : decode cX8_cell 48 = .ok (.aload_n 0, 1) := by decide +kernel
theorem dX8_cell_49 : decode cX8_cell 49 = .ok (.getfield 48, 3) := by decide +kernel
theorem dX8_cell_52 : decode cX8_cell 52 = .ok (.iload_n 1, 1) := by decide +kernel
theorem dX8_cell_53 : decode cX8_cell 53 = .ok (.iload_n 2, 1) := by decide +kernel
theorem dX8_cell_54 : decode cX8_cell 54 = .ok (.iload_n 3, 1) := by decide +kernel
theorem dX8_cell_55 : decode cX8_cell 55 = .ok (.invokestatic 185, 3) := by decide +kernel
theorem dX8_cell_58 : decode cX8_cell 58 = .ok (.iaload, 1) := by decide +kernel
theorem dX8_cell_59 : decode cX8_cell 59 = .ok (.ireturn, 1) := by decide +kernel
theorem dX8_blockSum_0 : decode cX8_blockSum 0 = .ok (.aload_n 0, 1) := by decide +kernel
theorem dX8_blockSum_1 : decode cX8_blockSum 1 = .ok (.aload_n 0, 1) := by decide +kernel
theorem dX8_blockSum_2 : decode cX8_blockSum 2 = .ok (.iload_n 1, 1) := by decide +kernel
theorem dX8_blockSum_3 : decode cX8_blockSum 3 = .ok (.iload_n 2, 1) := by decide +kernel
theorem dX8_blockSum_4 : decode cX8_blockSum 4 = .ok (.iconst 0, 1) := by decide +kernel
theorem dX8_blockSum_5 : decode cX8_blockSum 5 = .ok (.invokevirtual 181, 3) := by decide +kernel
theorem dX8_blockSum_8 : decode cX8_blockSum 8 = .ok (.putfield 54, 3) := by decide +kernel
theorem dX8_blockSum_11 : decode cX8_blockSum 11 = .ok (.aload_n 0, 1) := by decide +kernel
theorem dX8_blockSum_12 : decode cX8_blockSum 12 = .ok (.getfield 54, 3) := by decide +kernel
theorem dX8_blockSum_15 : decode cX8_blockSum 15 = .ok (.ifCond .le 5, 3) := by decide +kernel
theorem dX8_blockSum_18 : decode cX8_blockSum 18 = .ok (.iconst 0, 1) := by decide +kernel
theorem dX8_blockSum_19 : decode cX8_blockSum 19 = .ok (.ireturn, 1) := by decide +kernel
theorem dX8_blockSum_20 : decode cX8_blockSum 20 = .ok (.iconst 0, 1) := by decide +kernel
theorem dX8_blockSum_21 : decode cX8_blockSum 21 = .ok (.istore_n 3, 1) := by decide +kernel
theorem dX8_blockSum_22 : decode cX8_blockSum 22 = .ok (.iconst 0, 1) := by decide +kernel
theorem dX8_blockSum_23 : decode cX8_blockSum 23 = .ok (.istore 4, 2) := by decide +kernel
theorem dX8_blockSum_25 : decode cX8_blockSum 25 = .ok (.iload 4, 2) := by decide +kernel
theorem dX8_blockSum_27 : decode cX8_blockSum 27 = .ok (.iconst 4, 1) := by decide +kernel
theorem dX8_blockSum_28 : decode cX8_blockSum 28 = .ok (.if_icmp .ge 24, 3) := by decide +kernel
theorem dX8_blockSum_31 : decode cX8_blockSum 31 = .ok (.iload_n 3, 1) := by decide +kernel
theorem dX8_blockSum_32 : decode cX8_blockSum 32 = .ok (.aload_n 0, 1) := by decide +kernel
theorem dX8_blockSum_33 : decode cX8_blockSum 33 = .ok (.getfield 48, 3) := by decide +kernel
theorem dX8_blockSum_36 : decode cX8_blockSum 36 = .ok (.iload_n 1, 1) := by decide +kernel
theorem dX8_blockSum_37 : decode cX8_blockSum 37 = .ok (.iload_n 2, 1) := by decide +kernel
theorem dX8_blockSum_38 : decode cX8_blockSum 38 = .ok (.iload 4, 2) := by decide +kernel
theorem dX8_blockSum_40 : decode cX8_blockSum 40 = .ok (.invokestatic 185, 3) := by decide +kernel
theorem dX8_blockSum_43 : decode cX8_blockSum 43 = .ok (.iaload, 1) := by decide +kernel
theorem dX8_blockSum_44 : decode cX8_blockSum 44 = .ok (.iadd, 1) := by decide +kernel
theorem dX8_blockSum_45 : decode cX8_blockSum 45 = .ok (.istore_n 3, 1) := by decide +kernel
theorem dX8_blockSum_46 : decode cX8_blockSum 46 = .ok (.iinc 4 1, 3) := by decide +kernel
theorem dX8_blockSum_49 : decode cX8_blockSum 49 = .ok (.goto (-24), 3) := by decide +kernel
theorem dX8_blockSum_52 : decode cX8_blockSum 52 = .ok (.iload_n 3, 1) := by decide +kernel
theorem dX8_blockSum_53 : decode cX8_blockSum 53 = .ok (.ireturn, 1) := by decide +kernel
theorem dX8_groupSum_0 : decode cX8_groupSum 0 = .ok (.aload_n 0, 1) := by decide +kernel
theorem dX8_groupSum_1 : decode cX8_groupSum 1 = .ok (.aload_n 0, 1) := by decide +kernel
theorem dX8_groupSum_2 : decode cX8_groupSum 2 = .ok (.iload_n 1, 1) := by decide +kernel
theorem dX8_groupSum_3 : decode cX8_groupSum 3 = .ok (.invokevirtual 178, 3) := by decide +kernel
theorem dX8_groupSum_6 : decode cX8_groupSum 6 = .ok (.ifCond .ne 7, 3) := by decide +kernel
theorem dX8_groupSum_9 : decode cX8_groupSum 9 = .ok (.iconst 1, 1) := by decide +kernel
theorem dX8_groupSum_10 : decode cX8_groupSum 10 = .ok (.goto 17, 3) := by decide +kernel
theorem dX8_groupSum_13 : decode cX8_groupSum 13 = .ok (.iload_n 2, 1) := by decide +kernel
theorem dX8_groupSum_14 : decode cX8_groupSum 14 = .ok (.iconst 0, 1) := by decide +kernel
theorem dX8_groupSum_15 : decode cX8_groupSum 15 = .ok (.iconst 3, 1) := by decide +kernel
theorem dX8_groupSum_16 : decode cX8_groupSum 16 = .ok (.invokestatic 91, 3) := by decide +kernel
theorem dX8_groupSum_19 : decode cX8_groupSum 19 = .ok (.ifCond .ne 7, 3) := by decide +kernel
theorem dX8_groupSum_22 : decode cX8_groupSum 22 = .ok (.iconst 2, 1) := by decide +kernel
theorem dX8_groupSum_23 : decode cX8_groupSum 23 = .ok (.goto 4, 3) := by decide +kernel
theorem dX8_groupSum_26 : decode cX8_groupSum 26 = .ok (.iconst 0, 1) := by decide +kernel
theorem dX8_groupSum_27 : decode cX8_groupSum 27 = .ok (.putfield 54, 3) := by decide +kernel
theorem dX8_groupSum_30 : decode cX8_groupSum 30 = .ok (.aload_n 0, 1) := by decide +kernel
theorem dX8_groupSum_31 : decode cX8_groupSum 31 = .ok (.getfield 54, 3) := by decide +kernel
theorem dX8_groupSum_34 : decode cX8_groupSum 34 = .ok (.ifCond .le 5, 3) := by decide +kernel
theorem dX8_groupSum_37 : decode cX8_groupSum 37 = .ok (.iconst 0, 1) := by decide +kernel
theorem dX8_groupSum_38 : decode cX8_groupSum 38 = .ok (.ireturn, 1) := by decide +kernel
theorem dX8_groupSum_39 : decode cX8_groupSum 39 = .ok (.iconst 0, 1) := by decide +kernel
theorem dX8_groupSum_40 : decode cX8_groupSum 40 = .ok (.istore_n 3, 1) := by decide +kernel
theorem dX8_groupSum_41 : decode cX8_groupSum 41 = .ok (.iconst 0, 1) := by decide +kernel
theorem dX8_groupSum_42 : decode cX8_groupSum 42 = .ok (.istore 4, 2) := by decide +kernel
theorem dX8_groupSum_44 : decode cX8_groupSum 44 = .ok (.iload 4, 2) := by decide +kernel
theorem dX8_groupSum_46 : decode cX8_groupSum 46 = .ok (.bipush 6, 2) := by decide +kernel
theorem dX8_groupSum_48 : decode cX8_groupSum 48 = .ok (.if_icmp .ge 24, 3) := by decide +kernel
theorem dX8_groupSum_51 : decode cX8_groupSum 51 = .ok (.iload_n 3, 1) := by decide +kernel
theorem dX8_groupSum_52 : decode cX8_groupSum 52 = .ok (.aload_n 0, 1) := by decide +kernel
theorem dX8_groupSum_53 : decode cX8_groupSum 53 = .ok (.getfield 48, 3) := by decide +kernel
theorem dX8_groupSum_56 : decode cX8_groupSum 56 = .ok (.iload_n 1, 1) := by decide +kernel
theorem dX8_groupSum_57 : decode cX8_groupSum 57 = .ok (.iload 4, 2) := by decide +kernel
theorem dX8_groupSum_59 : decode cX8_groupSum 59 = .ok (.iload_n 2, 1) := by decide +kernel
theorem dX8_groupSum_60 : decode cX8_groupSum 60 = .ok (.invokestatic 185, 3) := by decide +kernel
theorem dX8_groupSum_63 : decode cX8_groupSum 63 = .ok (.iaload, 1) := by decide +kernel
theorem dX8_groupSum_64 : decode cX8_groupSum 64 = .ok (.iadd, 1) := by decide +kernel
theorem dX8_groupSum_65 : decode cX8_groupSum 65 = .ok (.istore_n 3, 1) := by decide +kernel
theorem dX8_groupSum_66 : decode cX8_groupSum 66 = .ok (.iinc 4 1, 3) := by decide +kernel
theorem dX8_groupSum_69 : decode cX8_groupSum 69 = .ok (.goto (-25), 3) := by decide +kernel
theorem dX8_groupSum_72 : decode cX8_groupSum 72 = .ok (.iload_n 3, 1) := by decide +kernel
theorem dX8_groupSum_73 : decode cX8_groupSum 73 = .ok (.ireturn, 1) := by decide +kernel
theorem dX8_holes_0 : decode cX8_holes 0 = .ok (.aload_n 0, 1) := by decide +kernel
theorem dX8_holes_1 : decode cX8_holes 1 = .ok (.aload_n 0, 1) := by decide +kernel
theorem dX8_holes_2 : decode cX8_holes 2 = .ok (.iload_n 1, 1) := by decide +kernel
theorem dX8_holes_3 : decode cX8_holes 3 = .ok (.invokevirtual 178, 3) := by decide +kernel
theorem dX8_holes_6 : decode cX8_holes 6 = .ok (.invokevirtual 120, 3) := by decide +kernel
theorem dX8_holes_9 : decode cX8_holes 9 = .ok (.ifCond .le 5, 3) := by decide +kernel
theorem dX8_holes_12 : decode cX8_holes 12 = .ok (.iconst 0, 1) := by decide +kernel
theorem dX8_holes_13 : decode cX8_holes 13 = .ok (.ireturn, 1) := by decide +kernel
theorem dX8_holes_14 : decode cX8_holes 14 = .ok (.iconst 0, 1) := by decide +kernel
theorem dX8_holes_15 : decode cX8_holes 15 = .ok (.istore_n 2, 1) := by decide +kernel
theorem dX8_holes_16 : decode cX8_holes 16 = .ok (.iconst 0, 1) := by decide +kernel
theorem dX8_holes_17 : decode cX8_holes 17 = .ok (.istore_n 3, 1) := by decide +kernel
theorem dX8_holes_18 : decode cX8_holes 18 = .ok (.iload_n 3, 1) := by decide +kernel
theorem dX8_holes_19 : decode cX8_holes 19 = .ok (.bipush 24, 2) := by decide +kernel
theorem dX8_holes_21 : decode cX8_holes 21 = .ok (.if_icmp .ge 31, 3) := by decide +kernel
theorem dX8_holes_24 : decode cX8_holes 24 = .ok (.iload_n 2, 1) := by decide +kernel
theorem dX8_holes_25 : decode cX8_holes 25 = .ok (.aload_n 0, 1) := by decide +kernel
theorem dX8_holes_26 : decode cX8_holes 26 = .ok (.getfield 42, 3) := by decide +kernel
theorem dX8_holes_29 : decode cX8_holes 29 = .ok (.bipush 24, 2) := by decide +kernel
theorem dX8_holes_31 : decode cX8_holes 31 = .ok (.iload_n 1, 1) := by decide +kernel
theorem dX8_holes_32 : decode cX8_holes 32 = .ok (.imul, 1) := by decide +kernel
theorem dX8_holes_33 : decode cX8_holes 33 = .ok (.iload_n 3, 1) := by decide +kernel
theorem dX8_holes_34 : decode cX8_holes 34 = .ok (.iadd, 1) := by decide +kernel
theorem dX8_holes_35 : decode cX8_holes 35 = .ok (.baload, 1) := by decide +kernel
theorem dX8_holes_36 : decode cX8_holes 36 = .ok (.ifCond .eq 7, 3) := by decide +kernel
theorem dX8_holes_39 : decode cX8_holes 39 = .ok (.iconst 1, 1) := by decide +kernel
theorem dX8_holes_40 : decode cX8_holes 40 = .ok (.goto 4, 3) := by decide +kernel
theorem dX8_holes_43 : decode cX8_holes 43 = .ok (.iconst 0, 1) := by decide +kernel
theorem dX8_holes_44 : decode cX8_holes 44 = .ok (.iadd, 1) := by decide +kernel
theorem dX8_holes_45 : decode cX8_holes 45 = .ok (.istore_n 2, 1) := by decide +kernel
theorem dX8_holes_46 : decode cX8_holes 46 = .ok (.iinc 3 1, 3) := by decide +kernel
theorem dX8_holes_49 : decode cX8_holes 49 = .ok (.goto (-31), 3) := by decide +kernel
theorem dX8_holes_52 : decode cX8_holes 52 = .ok (.iload_n 2, 1) := by decide +kernel
theorem dX8_holes_53 : decode cX8_holes 53 = .ok (.ireturn, 1) := by decide +kernel
theorem dX8_isAtRisk_0 : decode cX8_isAtRisk 0 = .ok (.aload_n 0, 1) := by decide +kernel
theorem dX8_isAtRisk_1 : decode cX8_isAtRisk 1 = .ok (.aload_n 0, 1) := by decide +kernel
theorem dX8_isAtRisk_2 : decode cX8_isAtRisk 2 = .ok (.iload_n 1, 1) := by decide +kernel
theorem dX8_isAtRisk_3 : decode cX8_isAtRisk 3 = .ok (.iload_n 2, 1) := by decide +kernel
theorem dX8_isAtRisk_4 : decode cX8_isAtRisk 4 = .ok (.iload_n 3, 1) := by decide +kernel
theorem dX8_isAtRisk_5 : decode cX8_isAtRisk 5 = .ok (.invokevirtual 181, 3) := by decide +kernel
theorem dX8_isAtRisk_8 : decode cX8_isAtRisk 8 = .ok (.putfield 54, 3) := by decide +kernel
theorem dX8_isAtRisk_11 : decode cX8_isAtRisk 11 = .ok (.aload_n 0, 1) := by decide +kernel
theorem dX8_isAtRisk_12 : decode cX8_isAtRisk 12 = .ok (.getfield 54, 3) := by decide +kernel
theorem dX8_isAtRisk_15 : decode cX8_isAtRisk 15 = .ok (.ifCond .ne 27, 3) := by decide +kernel
theorem dX8_isAtRisk_18 : decode cX8_isAtRisk 18 = .ok (.aload_n 0, 1) := by decide +kernel
theorem dX8_isAtRisk_19 : decode cX8_isAtRisk 19 = .ok (.getfield 48, 3) := by decide +kernel
theorem dX8_isAtRisk_22 : decode cX8_isAtRisk 22 = .ok (.iload_n 1, 1) := by decide +kernel
theorem dX8_isAtRisk_23 : decode cX8_isAtRisk 23 = .ok (.iload_n 2, 1) := by decide +kernel
theorem dX8_isAtRisk_24 : decode cX8_isAtRisk 24 = .ok (.iload_n 3, 1) := by decide +kernel
theorem dX8_isAtRisk_25 : decode cX8_isAtRisk 25 = .ok (.invokestatic 185, 3) := by decide +kernel
theorem dX8_isAtRisk_28 : decode cX8_isAtRisk 28 = .ok (.iaload, 1) := by decide +kernel
theorem dX8_isAtRisk_29 : decode cX8_isAtRisk 29 = .ok (.iconst 1, 1) := by decide +kernel
theorem dX8_isAtRisk_30 : decode cX8_isAtRisk 30 = .ok (.iconst 2, 1) := by decide +kernel
theorem dX8_isAtRisk_31 : decode cX8_isAtRisk 31 = .ok (.invokestatic 91, 3) := by decide +kernel
theorem dX8_isAtRisk_34 : decode cX8_isAtRisk 34 = .ok (.ifCond .ne 8, 3) := by decide +kernel
theorem dX8_isAtRisk_37 : decode cX8_isAtRisk 37 = .ok (.aload_n 0, 1) := by decide +kernel
theorem dX8_isAtRisk_38 : decode cX8_isAtRisk 38 = .ok (.iconst 4, 1) := by decide +kernel
theorem dX8_isAtRisk_39 : decode cX8_isAtRisk 39 = .ok (.putfield 54, 3) := by decide +kernel
theorem dX8_isAtRisk_42 : decode cX8_isAtRisk 42 = .ok (.aload_n 0, 1) := by decide +kernel
theorem dX8_isAtRisk_43 : decode cX8_isAtRisk 43 = .ok (.getfield 54, 3) := by decide +kernel
theorem dX8_isAtRisk_46 : decode cX8_isAtRisk 46 = .ok (.ifCond .le 5, 3) := by decide +kernel
theorem dX8_isAtRisk_49 : decode cX8_isAtRisk 49 = .ok (.iconst 0, 1) := by decide +kernel
theorem dX8_isAtRisk_50 : decode cX8_isAtRisk 50 = .ok (.ireturn, 1) := by decide +kernel
theorem dX8_isAtRisk_51 : decode cX8_isAtRisk 51 = .ok (.aload_n 0, 1) := by decide +kernel
theorem dX8_isAtRisk_52 : decode cX8_isAtRisk 52 = .ok (.iload_n 1, 1) := by decide +kernel
theorem dX8_isAtRisk_53 : decode cX8_isAtRisk 53 = .ok (.invokevirtual 164, 3) := by decide +kernel
theorem dX8_isAtRisk_56 : decode cX8_isAtRisk 56 = .ok (.aload_n 0, 1) := by decide +kernel
theorem dX8_isAtRisk_57 : decode cX8_isAtRisk 57 = .ok (.iload_n 1, 1) := by decide +kernel
theorem dX8_isAtRisk_58 : decode cX8_isAtRisk 58 = .ok (.iconst 4, 1) := by decide +kernel
theorem dX8_isAtRisk_59 : decode cX8_isAtRisk 59 = .ok (.iload_n 2, 1) := by decide +kernel
theorem dX8_isAtRisk_60 : decode cX8_isAtRisk 60 = .ok (.imul, 1) := by decide +kernel
theorem dX8_isAtRisk_61 : decode cX8_isAtRisk 61 = .ok (.iload_n 3, 1) := by decide +kernel
theorem dX8_isAtRisk_62 : decode cX8_isAtRisk 62 = .ok (.iadd, 1) := by decide +kernel
theorem dX8_isAtRisk_63 : decode cX8_isAtRisk 63 = .ok (.invokevirtual 154, 3) := by decide +kernel
theorem dX8_isAtRisk_66 : decode cX8_isAtRisk 66 = .ok (.istore 4, 2) := by decide +kernel
theorem dX8_isAtRisk_68 : decode cX8_isAtRisk 68 = .ok (.aload_n 0, 1) := by decide +kernel
theorem dX8_isAtRisk_69 : decode cX8_isAtRisk 69 = .ok (.iload_n 1, 1) := by decide +kernel
theorem dX8_isAtRisk_70 : decode cX8_isAtRisk 70 = .ok (.invokevirtual 175, 3) := by decide +kernel
theorem dX8_isAtRisk_73 : decode cX8_isAtRisk 73 = .ok (.istore 5, 2) := by decide +kernel
theorem dX8_isAtRisk_75 : decode cX8_isAtRisk 75 = .ok (.iload 4, 2) := by decide +kernel
theorem dX8_isAtRisk_77 : decode cX8_isAtRisk 77 = .ok (.ireturn, 1) := by decide +kernel
theorem dX8_found_0 : decode cX8_found 0 = .ok (.aload_n 0, 1) := by decide +kernel
theorem dX8_found_1 : decode cX8_found 1 = .ok (.aload_n 0, 1) := by decide +kernel
theorem dX8_found_2 : decode cX8_found 2 = .ok (.iload_n 1, 1) := by decide +kernel
theorem dX8_found_3 : decode cX8_found 3 = .ok (.invokevirtual 178, 3) := by decide +kernel
theorem dX8_found_6 : decode cX8_found 6 = .ok (.invokevirtual 120, 3) := by decide +kernel
theorem dX8_found_9 : decode cX8_found 9 = .ok (.ifCond .gt 11, 3) := by decide +kernel
theorem dX8_found_12 : decode cX8_found 12 = .ok (.aload_n 0, 1) := by decide +kernel
theorem dX8_found_13 : decode cX8_found 13 = .ok (.iload_n 1, 1) := by decide +kernel
theorem dX8_found_14 : decode cX8_found 14 = .ok (.invokevirtual 168, 3) := by decide +kernel
theorem dX8_found_17 : decode cX8_found 17 = .ok (.ifCond .ge 7, 3) := by decide +kernel
theorem dX8_found_20 : decode cX8_found 20 = .ok (.iconst 0, 1) := by decide +kernel
theorem dX8_found_21 : decode cX8_found 21 = .ok (.goto 4, 3) := by decide +kernel
theorem dX8_found_24 : decode cX8_found 24 = .ok (.iconst 1, 1) := by decide +kernel
theorem dX8_found_25 : decode cX8_found 25 = .ok (.ireturn, 1) := by decide +kernel
theorem dX8_foundByWays_0 : decode cX8_foundByWays 0 = .ok (.aload_n 0, 1) := by decide +kernel
theorem dX8_foundByWays_1 : decode cX8_foundByWays 1 = .ok (.iload_n 1, 1) := by decide +kernel
theorem dX8_foundByWays_2 : decode cX8_foundByWays 2 = .ok (.invokevirtual 188, 3) := by decide +kernel
theorem dX8_foundByWays_5 : decode cX8_foundByWays 5 = .ok (.ireturn, 1) := by decide +kernel
theorem dX8_line_0 : decode cX8_line 0 = .ok (.new 191, 3) := by decide +kernel
theorem dX8_line_3 : decode cX8_line 3 = .ok (.dup, 1) := by decide +kernel
theorem dX8_line_4 : decode cX8_line 4 = .ok (.invokespecial 193, 3) := by decide +kernel
theorem dX8_line_7 : decode cX8_line 7 = .ok (.astore_n 2, 1) := by decide +kernel
theorem dX8_line_8 : decode cX8_line 8 = .ok (.iconst 0, 1) := by decide +kernel
theorem dX8_line_9 : decode cX8_line 9 = .ok (.istore_n 3, 1) := by decide +kernel
theorem dX8_line_10 : decode cX8_line 10 = .ok (.iload_n 3, 1) := by decide +kernel
theorem dX8_line_11 : decode cX8_line 11 = .ok (.iconst 4, 1) := by decide +kernel
theorem dX8_line_12 : decode cX8_line 12 = .ok (.aload_n 0, 1) := by decide +kernel
theorem dX8_line_13 : decode cX8_line 13 = .ok (.getfield 51, 3) := by decide +kernel
theorem dX8_line_16 : decode cX8_line 16 = .ok (.iload_n 1, 1) := by decide +kernel
theorem dX8_line_17 : decode cX8_line 17 = .ok (.iaload, 1) := by decide +kernel
theorem dX8_line_18 : decode cX8_line 18 = .ok (.imul, 1) := by decide +kernel
theorem dX8_line_19 : decode cX8_line 19 = .ok (.if_icmp .ge 76, 3) := by decide +kernel
theorem dX8_line_22 : decode cX8_line 22 = .ok (.iload_n 3, 1) := by decide +kernel
theorem dX8_line_23 : decode cX8_line 23 = .ok (.iconst 4, 1) := by decide +kernel
theorem dX8_line_24 : decode cX8_line 24 = .ok (.irem, 1) := by decide +kernel
theorem dX8_line_25 : decode cX8_line 25 = .ok (.ifCond .le 10, 3) := by decide +kernel
theorem dX8_line_28 : decode cX8_line 28 = .ok (.aload_n 2, 1) := by decide +kernel
theorem dX8_line_29 : decode cX8_line 29 = .ok (.bipush 44, 2) := by decide +kernel
theorem dX8_line_31 : decode cX8_line 31 = .ok (.invokevirtual 194, 3) := by decide +kernel
theorem dX8_line_34 : decode cX8_line 34 = .ok (.pop, 1) := by decide +kernel
theorem dX8_line_35 : decode cX8_line 35 = .ok (.aload_n 0, 1) := by decide +kernel
theorem dX8_line_36 : decode cX8_line 36 = .ok (.getfield 42, 3) := by decide +kernel
theorem dX8_line_39 : decode cX8_line 39 = .ok (.bipush 24, 2) := by decide +kernel
theorem dX8_line_41 : decode cX8_line 41 = .ok (.iload_n 1, 1) := by decide +kernel
theorem dX8_line_42 : decode cX8_line 42 = .ok (.imul, 1) := by decide +kernel
theorem dX8_line_43 : decode cX8_line 43 = .ok (.iload_n 3, 1) := by decide +kernel
theorem dX8_line_44 : decode cX8_line 44 = .ok (.iadd, 1) := by decide +kernel
theorem dX8_line_45 : decode cX8_line 45 = .ok (.baload, 1) := by decide +kernel
theorem dX8_line_46 : decode cX8_line 46 = .ok (.ifCond .eq 13, 3) := by decide +kernel
theorem dX8_line_49 : decode cX8_line 49 = .ok (.aload_n 2, 1) := by decide +kernel
theorem dX8_line_50 : decode cX8_line 50 = .ok (.bipush 120, 2) := by decide +kernel
theorem dX8_line_52 : decode cX8_line 52 = .ok (.invokevirtual 194, 3) := by decide +kernel
theorem dX8_line_55 : decode cX8_line 55 = .ok (.pop, 1) := by decide +kernel
theorem dX8_line_56 : decode cX8_line 56 = .ok (.goto 19, 3) := by decide +kernel
theorem dX8_line_59 : decode cX8_line 59 = .ok (.aload_n 2, 1) := by decide +kernel
theorem dX8_line_60 : decode cX8_line 60 = .ok (.aload_n 0, 1) := by decide +kernel
theorem dX8_line_61 : decode cX8_line 61 = .ok (.getfield 48, 3) := by decide +kernel
theorem dX8_line_64 : decode cX8_line 64 = .ok (.bipush 24, 2) := by decide +kernel
theorem dX8_line_66 : decode cX8_line 66 = .ok (.iload_n 1, 1) := by decide +kernel
theorem dX8_line_67 : decode cX8_line 67 = .ok (.imul, 1) := by decide +kernel
theorem dX8_line_68 : decode cX8_line 68 = .ok (.iload_n 3, 1) := by decide +kernel
theorem dX8_line_69 : decode cX8_line 69 = .ok (.iadd, 1) := by decide +kernel
theorem dX8_line_70 : decode cX8_line 70 = .ok (.iaload, 1) := by decide +kernel
theorem dX8_line_71 : decode cX8_line 71 = .ok (.invokevirtual 198, 3) := by decide +kernel
theorem dX8_line_74 : decode cX8_line 74 = .ok (.pop, 1) := by decide +kernel
theorem dX8_line_75 : decode cX8_line 75 = .ok (.iload_n 3, 1) := by decide +kernel
theorem dX8_line_76 : decode cX8_line 76 = .ok (.iconst 4, 1) := by decide +kernel
theorem dX8_line_77 : decode cX8_line 77 = .ok (.irem, 1) := by decide +kernel
theorem dX8_line_78 : decode cX8_line 78 = .ok (.iconst 3, 1) := by decide +kernel
theorem dX8_line_79 : decode cX8_line 79 = .ok (.if_icmp .ne 10, 3) := by decide +kernel
theorem dX8_line_82 : decode cX8_line 82 = .ok (.aload_n 2, 1) := by decide +kernel
theorem dX8_line_83 : decode cX8_line 83 = .ok (.bipush 59, 2) := by decide +kernel
theorem dX8_line_85 : decode cX8_line 85 = .ok (.invokevirtual 194, 3) := by decide +kernel
theorem dX8_line_88 : decode cX8_line 88 = .ok (.pop, 1) := by decide +kernel
theorem dX8_line_89 : decode cX8_line 89 = .ok (.iinc 3 1, 3) := by decide +kernel
theorem dX8_line_92 : decode cX8_line 92 = .ok (.goto (-82), 3) := by decide +kernel
theorem dX8_line_95 : decode cX8_line 95 = .ok (.aload_n 2, 1) := by decide +kernel
theorem dX8_line_96 : decode cX8_line 96 = .ok (.invokevirtual 201, 3) := by decide +kernel
theorem dX8_line_99 : decode cX8_line 99 = .ok (.areturn, 1) := by decide +kernel
theorem dX8_lineLength_0 : decode cX8_lineLength 0 = .ok (.aload_n 0, 1) := by decide +kernel
theorem dX8_lineLength_1 : decode cX8_lineLength 1 = .ok (.aload_n 0, 1) := by decide +kernel
theorem dX8_lineLength_2 : decode cX8_lineLength 2 = .ok (.iload_n 1, 1) := by decide +kernel
theorem dX8_lineLength_3 : decode cX8_lineLength 3 = .ok (.invokevirtual 178, 3) := by decide +kernel
theorem dX8_lineLength_6 : decode cX8_lineLength 6 = .ok (.invokevirtual 120, 3) := by decide +kernel
theorem dX8_lineLength_9 : decode cX8_lineLength 9 = .ok (.ifCond .le 7, 3) := by decide +kernel
theorem dX8_lineLength_12 : decode cX8_lineLength 12 = .ok (.iconst 0, 1) := by decide +kernel
theorem dX8_lineLength_13 : decode cX8_lineLength 13 = .ok (.goto 11, 3) := by decide +kernel
theorem dX8_lineLength_16 : decode cX8_lineLength 16 = .ok (.aload_n 0, 1) := by decide +kernel
theorem dX8_lineLength_17 : decode cX8_lineLength 17 = .ok (.iload_n 1, 1) := by decide +kernel
theorem dX8_lineLength_18 : decode cX8_lineLength 18 = .ok (.invokevirtual 205, 3) := by decide +kernel
theorem dX8_lineLength_21 : decode cX8_lineLength 21 = .ok (.invokevirtual 209, 3) := by decide +kernel
theorem dX8_lineLength_24 : decode cX8_lineLength 24 = .ok (.ireturn, 1) := by decide +kernel
theorem dX8_lineAt_0 : decode cX8_lineAt 0 = .ok (.aload_n 0, 1) := by decide +kernel
theorem dX8_lineAt_1 : decode cX8_lineAt 1 = .ok (.aload_n 0, 1) := by decide +kernel
theorem dX8_lineAt_2 : decode cX8_lineAt 2 = .ok (.iload_n 1, 1) := by decide +kernel
theorem dX8_lineAt_3 : decode cX8_lineAt 3 = .ok (.invokevirtual 178, 3) := by decide +kernel
theorem dX8_lineAt_6 : decode cX8_lineAt 6 = .ok (.ifCond .ne 7, 3) := by decide +kernel
theorem dX8_lineAt_9 : decode cX8_lineAt 9 = .ok (.iconst 1, 1) := by decide +kernel
theorem dX8_lineAt_10 : decode cX8_lineAt 10 = .ok (.goto 26, 3) := by decide +kernel
theorem dX8_lineAt_13 : decode cX8_lineAt 13 = .ok (.iload_n 2, 1) := by decide +kernel
theorem dX8_lineAt_14 : decode cX8_lineAt 14 = .ok (.iconst 0, 1) := by decide +kernel
theorem dX8_lineAt_15 : decode cX8_lineAt 15 = .ok (.aload_n 0, 1) := by decide +kernel
theorem dX8_lineAt_16 : decode cX8_lineAt 16 = .ok (.iload_n 1, 1) := by decide +kernel
theorem dX8_lineAt_17 : decode cX8_lineAt 17 = .ok (.invokevirtual 205, 3) := by decide +kernel
theorem dX8_lineAt_20 : decode cX8_lineAt 20 = .ok (.invokevirtual 209, 3) := by decide +kernel
theorem dX8_lineAt_23 : decode cX8_lineAt 23 = .ok (.iconst 1, 1) := by decide +kernel
theorem dX8_lineAt_24 : decode cX8_lineAt 24 = .ok (.isub, 1) := by decide +kernel
theorem dX8_lineAt_25 : decode cX8_lineAt 25 = .ok (.invokestatic 91, 3) := by decide +kernel
theorem dX8_lineAt_28 : decode cX8_lineAt 28 = .ok (.ifCond .ne 7, 3) := by decide +kernel
theorem dX8_lineAt_31 : decode cX8_lineAt 31 = .ok (.iconst 2, 1) := by decide +kernel
theorem dX8_lineAt_32 : decode cX8_lineAt 32 = .ok (.goto 4, 3) := by decide +kernel
theorem dX8_lineAt_35 : decode cX8_lineAt 35 = .ok (.iconst 0, 1) := by decide +kernel
theorem dX8_lineAt_36 : decode cX8_lineAt 36 = .ok (.putfield 54, 3) := by decide +kernel
theorem dX8_lineAt_39 : decode cX8_lineAt 39 = .ok (.aload_n 0, 1) := by decide +kernel
theorem dX8_lineAt_40 : decode cX8_lineAt 40 = .ok (.getfield 54, 3) := by decide +kernel
theorem dX8_lineAt_43 : decode cX8_lineAt 43 = .ok (.ifCond .le 8, 3) := by decide +kernel
theorem dX8_lineAt_46 : decode cX8_lineAt 46 = .ok (.bipush 32, 2) := by decide +kernel
theorem dX8_lineAt_48 : decode cX8_lineAt 48 = .ok (.goto 12, 3) := by decide +kernel
theorem dX8_lineAt_51 : decode cX8_lineAt 51 = .ok (.aload_n 0, 1) := by decide +kernel
theorem dX8_lineAt_52 : decode cX8_lineAt 52 = .ok (.iload_n 1, 1) := by decide +kernel
theorem dX8_lineAt_53 : decode cX8_lineAt 53 = .ok (.invokevirtual 205, 3) := by decide +kernel
theorem dX8_lineAt_56 : decode cX8_lineAt 56 = .ok (.iload_n 2, 1) := by decide +kernel
theorem dX8_lineAt_57 : decode cX8_lineAt 57 = .ok (.invokevirtual 214, 3) := by decide +kernel
theorem dX8_lineAt_60 : decode cX8_lineAt 60 = .ok (.ireturn, 1) := by decide +kernel
theorem dX8_isSafe_0 : decode cX8_isSafe 0 = .ok (.aload_n 0, 1) := by decide +kernel
theorem dX8_isSafe_1 : decode cX8_isSafe 1 = .ok (.iconst 0, 1) := by decide +kernel
theorem dX8_isSafe_2 : decode cX8_isSafe 2 = .ok (.putfield 54, 3) := by decide +kernel
theorem dX8_isSafe_5 : decode cX8_isSafe 5 = .ok (.iconst 1, 1) := by decide +kernel
theorem dX8_isSafe_6 : decode cX8_isSafe 6 = .ok (.ireturn, 1) := by decide +kernel
theorem dL_addBlock_0 : decode cL_addBlock 0 = .ok (.aload_n 1, 1) := by decide +kernel
theorem dL_addBlock_1 : decode cL_addBlock 1 = .ok (.iconst 0, 1) := by decide +kernel
theorem dL_addBlock_2 : decode cL_addBlock 2 = .ok (.aload_n 0, 1) := by decide +kernel
theorem dL_addBlock_3 : decode cL_addBlock 3 = .ok (.invokevirtual 7, 3) := by decide +kernel
theorem dL_addBlock_6 : decode cL_addBlock 6 = .ok (.i2l, 1) := by decide +kernel
theorem dL_addBlock_7 : decode cL_addBlock 7 = .ok (.lastore, 1) := by decide +kernel
theorem dL_addBlock_8 : decode cL_addBlock 8 = .ok (.goto 6, 3) := by decide +kernel
theorem dL_addBlock_11 : decode cL_addBlock 11 = .ok (.astore_n 2, 1) := by decide +kernel
theorem dL_addBlock_12 : decode cL_addBlock 12 = .ok (.iconst 1, 1) := by decide +kernel
theorem dL_addBlock_13 : decode cL_addBlock 13 = .ok (.ireturn, 1) := by decide +kernel
theorem dL_addBlock_14 : decode cL_addBlock 14 = .ok (.iconst 0, 1) := by decide +kernel
theorem dL_addBlock_15 : decode cL_addBlock 15 = .ok (.ireturn, 1) := by decide +kernel
theorem dL_addAddress_0 : decode cL_addAddress 0 = .ok (.aload_n 2, 1) := by decide +kernel
theorem dL_addAddress_1 : decode cL_addAddress 1 = .ok (.iconst 0, 1) := by decide +kernel
theorem dL_addAddress_2 : decode cL_addAddress 2 = .ok (.aload_n 0, 1) := by decide +kernel
theorem dL_addAddress_3 : decode cL_addAddress 3 = .ok (.iload_n 1, 1) := by decide +kernel
theorem dL_addAddress_4 : decode cL_addAddress 4 = .ok (.invokevirtual 15, 3) := by decide +kernel
theorem dL_addAddress_7 : decode cL_addAddress 7 = .ok (.i2l, 1) := by decide +kernel
theorem dL_addAddress_8 : decode cL_addAddress 8 = .ok (.lastore, 1) := by decide +kernel
theorem dL_addAddress_9 : decode cL_addAddress 9 = .ok (.goto 9, 3) := by decide +kernel
theorem dL_addAddress_12 : decode cL_addAddress 12 = .ok (.astore_n 3, 1) := by decide +kernel
theorem dL_addAddress_13 : decode cL_addAddress 13 = .ok (.iconst 1, 1) := by decide +kernel
theorem dL_addAddress_14 : decode cL_addAddress 14 = .ok (.ireturn, 1) := by decide +kernel
theorem dL_addAddress_15 : decode cL_addAddress 15 = .ok (.astore_n 3, 1) := by decide +kernel
theorem dL_addAddress_16 : decode cL_addAddress 16 = .ok (.iconst 2, 1) := by decide +kernel
theorem dL_addAddress_17 : decode cL_addAddress 17 = .ok (.ireturn, 1) := by decide +kernel
theorem dL_addAddress_18 : decode cL_addAddress 18 = .ok (.iconst 0, 1) := by decide +kernel
theorem dL_addAddress_19 : decode cL_addAddress 19 = .ok (.ireturn, 1) := by decide +kernel
theorem dL_split_0 : decode cL_split 0 = .ok (.aload_n 3, 1) := by decide +kernel
theorem dL_split_1 : decode cL_split 1 = .ok (.iconst 0, 1) := by decide +kernel
theorem dL_split_2 : decode cL_split 2 = .ok (.aload_n 0, 1) := by decide +kernel
theorem dL_split_3 : decode cL_split 3 = .ok (.iload_n 1, 1) := by decide +kernel
theorem dL_split_4 : decode cL_split 4 = .ok (.iload_n 2, 1) := by decide +kernel
theorem dL_split_5 : decode cL_split 5 = .ok (.invokevirtual 21, 3) := by decide +kernel
theorem dL_split_8 : decode cL_split 8 = .ok (.i2l, 1) := by decide +kernel
theorem dL_split_9 : decode cL_split 9 = .ok (.lastore, 1) := by decide +kernel
theorem dL_split_10 : decode cL_split 10 = .ok (.goto 15, 3) := by decide +kernel
theorem dL_split_13 : decode cL_split 13 = .ok (.astore 4, 2) := by decide +kernel
theorem dL_split_15 : decode cL_split 15 = .ok (.iconst 1, 1) := by decide +kernel
theorem dL_split_16 : decode cL_split 16 = .ok (.ireturn, 1) := by decide +kernel
theorem dL_split_17 : decode cL_split 17 = .ok (.astore 4, 2) := by decide +kernel
theorem dL_split_19 : decode cL_split 19 = .ok (.iconst 2, 1) := by decide +kernel
theorem dL_split_20 : decode cL_split 20 = .ok (.ireturn, 1) := by decide +kernel
theorem dL_split_21 : decode cL_split 21 = .ok (.astore 4, 2) := by decide +kernel
theorem dL_split_23 : decode cL_split 23 = .ok (.iconst 3, 1) := by decide +kernel
theorem dL_split_24 : decode cL_split 24 = .ok (.ireturn, 1) := by decide +kernel
theorem dL_split_25 : decode cL_split 25 = .ok (.iconst 0, 1) := by decide +kernel
theorem dL_split_26 : decode cL_split 26 = .ok (.ireturn, 1) := by decide +kernel
theorem dL_join_0 : decode cL_join 0 = .ok (.aload_n 3, 1) := by decide +kernel
theorem dL_join_1 : decode cL_join 1 = .ok (.iconst 0, 1) := by decide +kernel
theorem dL_join_2 : decode cL_join 2 = .ok (.aload_n 0, 1) := by decide +kernel
theorem dL_join_3 : decode cL_join 3 = .ok (.iload_n 1, 1) := by decide +kernel
theorem dL_join_4 : decode cL_join 4 = .ok (.iload_n 2, 1) := by decide +kernel
theorem dL_join_5 : decode cL_join 5 = .ok (.invokevirtual 27, 3) := by decide +kernel
theorem dL_join_8 : decode cL_join 8 = .ok (.i2l, 1) := by decide +kernel
theorem dL_join_9 : decode cL_join 9 = .ok (.lastore, 1) := by decide +kernel
theorem dL_join_10 : decode cL_join 10 = .ok (.goto 11, 3) := by decide +kernel
theorem dL_join_13 : decode cL_join 13 = .ok (.astore 4, 2) := by decide +kernel
theorem dL_join_15 : decode cL_join 15 = .ok (.iconst 1, 1) := by decide +kernel
theorem dL_join_16 : decode cL_join 16 = .ok (.ireturn, 1) := by decide +kernel
theorem dL_join_17 : decode cL_join 17 = .ok (.astore 4, 2) := by decide +kernel
theorem dL_join_19 : decode cL_join 19 = .ok (.iconst 2, 1) := by decide +kernel
theorem dL_join_20 : decode cL_join 20 = .ok (.ireturn, 1) := by decide +kernel
theorem dL_join_21 : decode cL_join 21 = .ok (.iconst 0, 1) := by decide +kernel
theorem dL_join_22 : decode cL_join 22 = .ok (.ireturn, 1) := by decide +kernel
theorem dL_addRecord_0 : decode cL_addRecord 0 = .ok (.aload 5, 2) := by decide +kernel
theorem dL_addRecord_2 : decode cL_addRecord 2 = .ok (.iconst 0, 1) := by decide +kernel
theorem dL_addRecord_3 : decode cL_addRecord 3 = .ok (.aload_n 0, 1) := by decide +kernel
theorem dL_addRecord_4 : decode cL_addRecord 4 = .ok (.iload_n 1, 1) := by decide +kernel
theorem dL_addRecord_5 : decode cL_addRecord 5 = .ok (.iload_n 2, 1) := by decide +kernel
theorem dL_addRecord_6 : decode cL_addRecord 6 = .ok (.iload_n 3, 1) := by decide +kernel
theorem dL_addRecord_7 : decode cL_addRecord 7 = .ok (.iload 4, 2) := by decide +kernel
theorem dL_addRecord_9 : decode cL_addRecord 9 = .ok (.invokevirtual 32, 3) := by decide +kernel
theorem dL_addRecord_12 : decode cL_addRecord 12 = .ok (.i2l, 1) := by decide +kernel
theorem dL_addRecord_13 : decode cL_addRecord 13 = .ok (.lastore, 1) := by decide +kernel
theorem dL_addRecord_14 : decode cL_addRecord 14 = .ok (.goto 15, 3) := by decide +kernel
theorem dL_addRecord_17 : decode cL_addRecord 17 = .ok (.astore 6, 2) := by decide +kernel
theorem dL_addRecord_19 : decode cL_addRecord 19 = .ok (.iconst 1, 1) := by decide +kernel
theorem dL_addRecord_20 : decode cL_addRecord 20 = .ok (.ireturn, 1) := by decide +kernel
theorem dL_addRecord_21 : decode cL_addRecord 21 = .ok (.astore 6, 2) := by decide +kernel
theorem dL_addRecord_23 : decode cL_addRecord 23 = .ok (.iconst 2, 1) := by decide +kernel
theorem dL_addRecord_24 : decode cL_addRecord 24 = .ok (.ireturn, 1) := by decide +kernel
theorem dL_addRecord_25 : decode cL_addRecord 25 = .ok (.astore 6, 2) := by decide +kernel
theorem dL_addRecord_27 : decode cL_addRecord 27 = .ok (.iconst 3, 1) := by decide +kernel
theorem dL_addRecord_28 : decode cL_addRecord 28 = .ok (.ireturn, 1) := by decide +kernel
theorem dL_addRecord_29 : decode cL_addRecord 29 = .ok (.iconst 0, 1) := by decide +kernel
theorem dL_addRecord_30 : decode cL_addRecord 30 = .ok (.ireturn, 1) := by decide +kernel
theorem dL_blockOf_0 : decode cL_blockOf 0 = .ok (.aload_n 2, 1) := by decide +kernel
theorem dL_blockOf_1 : decode cL_blockOf 1 = .ok (.iconst 0, 1) := by decide +kernel
theorem dL_blockOf_2 : decode cL_blockOf 2 = .ok (.aload_n 0, 1) := by decide +kernel
theorem dL_blockOf_3 : decode cL_blockOf 3 = .ok (.iload_n 1, 1) := by decide +kernel
theorem dL_blockOf_4 : decode cL_blockOf 4 = .ok (.invokevirtual 36, 3) := by decide +kernel
theorem dL_blockOf_7 : decode cL_blockOf 7 = .ok (.i2l, 1) := by decide +kernel
theorem dL_blockOf_8 : decode cL_blockOf 8 = .ok (.lastore, 1) := by decide +kernel
theorem dL_blockOf_9 : decode cL_blockOf 9 = .ok (.goto 6, 3) := by decide +kernel
theorem dL_blockOf_12 : decode cL_blockOf 12 = .ok (.astore_n 3, 1) := by decide +kernel
theorem dL_blockOf_13 : decode cL_blockOf 13 = .ok (.iconst 1, 1) := by decide +kernel
theorem dL_blockOf_14 : decode cL_blockOf 14 = .ok (.ireturn, 1) := by decide +kernel
theorem dL_blockOf_15 : decode cL_blockOf 15 = .ok (.iconst 0, 1) := by decide +kernel
theorem dL_blockOf_16 : decode cL_blockOf 16 = .ok (.ireturn, 1) := by decide +kernel
theorem dL_setPoints_0 : decode cL_setPoints 0 = .ok (.aload_n 3, 1) := by decide +kernel
theorem dL_setPoints_1 : decode cL_setPoints 1 = .ok (.iconst 0, 1) := by decide +kernel
theorem dL_setPoints_2 : decode cL_setPoints 2 = .ok (.aload_n 0, 1) := by decide +kernel
theorem dL_setPoints_3 : decode cL_setPoints 3 = .ok (.iload_n 1, 1) := by decide +kernel
theorem dL_setPoints_4 : decode cL_setPoints 4 = .ok (.iload_n 2, 1) := by decide +kernel
theorem dL_setPoints_5 : decode cL_setPoints 5 = .ok (.invokevirtual 39, 3) := by decide +kernel
theorem dL_setPoints_8 : decode cL_setPoints 8 = .ok (.i2l, 1) := by decide +kernel
theorem dL_setPoints_9 : decode cL_setPoints 9 = .ok (.lastore, 1) := by decide +kernel
theorem dL_setPoints_10 : decode cL_setPoints 10 = .ok (.goto 7, 3) := by decide +kernel
theorem dL_setPoints_13 : decode cL_setPoints 13 = .ok (.astore 4, 2) := by decide +kernel
theorem dL_setPoints_15 : decode cL_setPoints 15 = .ok (.iconst 1, 1) := by decide +kernel
theorem dL_setPoints_16 : decode cL_setPoints 16 = .ok (.ireturn, 1) := by decide +kernel
theorem dL_setPoints_17 : decode cL_setPoints 17 = .ok (.iconst 0, 1) := by decide +kernel
theorem dL_setPoints_18 : decode cL_setPoints 18 = .ok (.ireturn, 1) := by decide +kernel
theorem dL_setBounds_0 : decode cL_setBounds 0 = .ok (.aload_n 3, 1) := by decide +kernel
theorem dL_setBounds_1 : decode cL_setBounds 1 = .ok (.iconst 0, 1) := by decide +kernel
theorem dL_setBounds_2 : decode cL_setBounds 2 = .ok (.aload_n 0, 1) := by decide +kernel
theorem dL_setBounds_3 : decode cL_setBounds 3 = .ok (.iload_n 1, 1) := by decide +kernel
theorem dL_setBounds_4 : decode cL_setBounds 4 = .ok (.iload_n 2, 1) := by decide +kernel
theorem dL_setBounds_5 : decode cL_setBounds 5 = .ok (.invokevirtual 43, 3) := by decide +kernel
theorem dL_setBounds_8 : decode cL_setBounds 8 = .ok (.i2l, 1) := by decide +kernel
theorem dL_setBounds_9 : decode cL_setBounds 9 = .ok (.lastore, 1) := by decide +kernel
theorem dL_setBounds_10 : decode cL_setBounds 10 = .ok (.goto 7, 3) := by decide +kernel
theorem dL_setBounds_13 : decode cL_setBounds 13 = .ok (.astore 4, 2) := by decide +kernel
theorem dL_setBounds_15 : decode cL_setBounds 15 = .ok (.iconst 1, 1) := by decide +kernel
theorem dL_setBounds_16 : decode cL_setBounds 16 = .ok (.ireturn, 1) := by decide +kernel
theorem dL_setBounds_17 : decode cL_setBounds 17 = .ok (.iconst 0, 1) := by decide +kernel
theorem dL_setBounds_18 : decode cL_setBounds 18 = .ok (.ireturn, 1) := by decide +kernel
theorem dL_score_0 : decode cL_score 0 = .ok (.aload_n 3, 1) := by decide +kernel
theorem dL_score_1 : decode cL_score 1 = .ok (.iconst 0, 1) := by decide +kernel
theorem dL_score_2 : decode cL_score 2 = .ok (.aload_n 0, 1) := by decide +kernel
theorem dL_score_3 : decode cL_score 3 = .ok (.iload_n 1, 1) := by decide +kernel
theorem dL_score_4 : decode cL_score 4 = .ok (.iload_n 2, 1) := by decide +kernel
theorem dL_score_5 : decode cL_score 5 = .ok (.invokevirtual 46, 3) := by decide +kernel
theorem dL_score_8 : decode cL_score 8 = .ok (.i2l, 1) := by decide +kernel
theorem dL_score_9 : decode cL_score 9 = .ok (.lastore, 1) := by decide +kernel
theorem dL_score_10 : decode cL_score 10 = .ok (.goto 11, 3) := by decide +kernel
theorem dL_score_13 : decode cL_score 13 = .ok (.astore 4, 2) := by decide +kernel
theorem dL_score_15 : decode cL_score 15 = .ok (.iconst 1, 1) := by decide +kernel
theorem dL_score_16 : decode cL_score 16 = .ok (.ireturn, 1) := by decide +kernel
theorem dL_score_17 : decode cL_score 17 = .ok (.astore 4, 2) := by decide +kernel
theorem dL_score_19 : decode cL_score 19 = .ok (.iconst 2, 1) := by decide +kernel
theorem dL_score_20 : decode cL_score 20 = .ok (.ireturn, 1) := by decide +kernel
theorem dL_score_21 : decode cL_score 21 = .ok (.iconst 0, 1) := by decide +kernel
theorem dL_score_22 : decode cL_score 22 = .ok (.ireturn, 1) := by decide +kernel
theorem dL_decide_0 : decode cL_decide 0 = .ok (.aload 4, 2) := by decide +kernel
theorem dL_decide_2 : decode cL_decide 2 = .ok (.iconst 0, 1) := by decide +kernel
theorem dL_decide_3 : decode cL_decide 3 = .ok (.aload_n 0, 1) := by decide +kernel
theorem dL_decide_4 : decode cL_decide 4 = .ok (.iload_n 1, 1) := by decide +kernel
theorem dL_decide_5 : decode cL_decide 5 = .ok (.iload_n 2, 1) := by decide +kernel
theorem dL_decide_6 : decode cL_decide 6 = .ok (.iload_n 3, 1) := by decide +kernel
theorem dL_decide_7 : decode cL_decide 7 = .ok (.invokevirtual 49, 3) := by decide +kernel
theorem dL_decide_10 : decode cL_decide 10 = .ok (.i2l, 1) := by decide +kernel
theorem dL_decide_11 : decode cL_decide 11 = .ok (.lastore, 1) := by decide +kernel
theorem dL_decide_12 : decode cL_decide 12 = .ok (.goto 15, 3) := by decide +kernel
theorem dL_decide_15 : decode cL_decide 15 = .ok (.astore 5, 2) := by decide +kernel
theorem dL_decide_17 : decode cL_decide 17 = .ok (.iconst 1, 1) := by decide +kernel
theorem dL_decide_18 : decode cL_decide 18 = .ok (.ireturn, 1) := by decide +kernel
theorem dL_decide_19 : decode cL_decide 19 = .ok (.astore 5, 2) := by decide +kernel
theorem dL_decide_21 : decode cL_decide 21 = .ok (.iconst 2, 1) := by decide +kernel
theorem dL_decide_22 : decode cL_decide 22 = .ok (.ireturn, 1) := by decide +kernel
theorem dL_decide_23 : decode cL_decide 23 = .ok (.astore 5, 2) := by decide +kernel
theorem dL_decide_25 : decode cL_decide 25 = .ok (.iconst 3, 1) := by decide +kernel
theorem dL_decide_26 : decode cL_decide 26 = .ok (.ireturn, 1) := by decide +kernel
theorem dL_decide_27 : decode cL_decide 27 = .ok (.iconst 0, 1) := by decide +kernel
theorem dL_decide_28 : decode cL_decide 28 = .ok (.ireturn, 1) := by decide +kernel
theorem dL_takeBack_0 : decode cL_takeBack 0 = .ok (.aload_n 3, 1) := by decide +kernel
theorem dL_takeBack_1 : decode cL_takeBack 1 = .ok (.iconst 0, 1) := by decide +kernel
theorem dL_takeBack_2 : decode cL_takeBack 2 = .ok (.aload_n 0, 1) := by decide +kernel
theorem dL_takeBack_3 : decode cL_takeBack 3 = .ok (.iload_n 1, 1) := by decide +kernel
theorem dL_takeBack_4 : decode cL_takeBack 4 = .ok (.iload_n 2, 1) := by decide +kernel
theorem dL_takeBack_5 : decode cL_takeBack 5 = .ok (.invokevirtual 55, 3) := by decide +kernel
theorem dL_takeBack_8 : decode cL_takeBack 8 = .ok (.i2l, 1) := by decide +kernel
theorem dL_takeBack_9 : decode cL_takeBack 9 = .ok (.lastore, 1) := by decide +kernel
theorem dL_takeBack_10 : decode cL_takeBack 10 = .ok (.goto 11, 3) := by decide +kernel
theorem dL_takeBack_13 : decode cL_takeBack 13 = .ok (.astore 4, 2) := by decide +kernel
theorem dL_takeBack_15 : decode cL_takeBack 15 = .ok (.iconst 1, 1) := by decide +kernel
theorem dL_takeBack_16 : decode cL_takeBack 16 = .ok (.ireturn, 1) := by decide +kernel
theorem dL_takeBack_17 : decode cL_takeBack 17 = .ok (.astore 4, 2) := by decide +kernel
theorem dL_takeBack_19 : decode cL_takeBack 19 = .ok (.iconst 2, 1) := by decide +kernel
theorem dL_takeBack_20 : decode cL_takeBack 20 = .ok (.ireturn, 1) := by decide +kernel
theorem dL_takeBack_21 : decode cL_takeBack 21 = .ok (.iconst 0, 1) := by decide +kernel
theorem dL_takeBack_22 : decode cL_takeBack 22 = .ok (.ireturn, 1) := by decide +kernel
theorem dL_link_0 : decode cL_link 0 = .ok (.aload_n 3, 1) := by decide +kernel
theorem dL_link_1 : decode cL_link 1 = .ok (.iconst 0, 1) := by decide +kernel
theorem dL_link_2 : decode cL_link 2 = .ok (.aload_n 0, 1) := by decide +kernel
theorem dL_link_3 : decode cL_link 3 = .ok (.iload_n 1, 1) := by decide +kernel
theorem dL_link_4 : decode cL_link 4 = .ok (.iload_n 2, 1) := by decide +kernel
theorem dL_link_5 : decode cL_link 5 = .ok (.invokevirtual 58, 3) := by decide +kernel
theorem dL_link_8 : decode cL_link 8 = .ok (.i2l, 1) := by decide +kernel
theorem dL_link_9 : decode cL_link 9 = .ok (.lastore, 1) := by decide +kernel
theorem dL_link_10 : decode cL_link 10 = .ok (.goto 11, 3) := by decide +kernel
theorem dL_link_13 : decode cL_link 13 = .ok (.astore 4, 2) := by decide +kernel
theorem dL_link_15 : decode cL_link 15 = .ok (.iconst 1, 1) := by decide +kernel
theorem dL_link_16 : decode cL_link 16 = .ok (.ireturn, 1) := by decide +kernel
theorem dL_link_17 : decode cL_link 17 = .ok (.astore 4, 2) := by decide +kernel
theorem dL_link_19 : decode cL_link 19 = .ok (.iconst 2, 1) := by decide +kernel
theorem dL_link_20 : decode cL_link 20 = .ok (.ireturn, 1) := by decide +kernel
theorem dL_link_21 : decode cL_link 21 = .ok (.iconst 0, 1) := by decide +kernel
theorem dL_link_22 : decode cL_link 22 = .ok (.ireturn, 1) := by decide +kernel
theorem dL_isDouble_0 : decode cL_isDouble 0 = .ok (.aload_n 2, 1) := by decide +kernel
theorem dL_isDouble_1 : decode cL_isDouble 1 = .ok (.iconst 0, 1) := by decide +kernel
theorem dL_isDouble_2 : decode cL_isDouble 2 = .ok (.aload_n 0, 1) := by decide +kernel
theorem dL_isDouble_3 : decode cL_isDouble 3 = .ok (.iload_n 1, 1) := by decide +kernel
theorem dL_isDouble_4 : decode cL_isDouble 4 = .ok (.invokevirtual 62, 3) := by decide +kernel
theorem dL_isDouble_7 : decode cL_isDouble 7 = .ok (.ifCond .eq 7, 3) := by decide +kernel
theorem dL_isDouble_10 : decode cL_isDouble 10 = .ok (.lconst 1, 1) := by decide +kernel
theorem dL_isDouble_11 : decode cL_isDouble 11 = .ok (.goto 4, 3) := by decide +kernel
theorem dL_isDouble_14 : decode cL_isDouble 14 = .ok (.lconst 0, 1) := by decide +kernel
theorem dL_isDouble_15 : decode cL_isDouble 15 = .ok (.lastore, 1) := by decide +kernel
theorem dL_isDouble_16 : decode cL_isDouble 16 = .ok (.goto 6, 3) := by decide +kernel
theorem dL_isDouble_19 : decode cL_isDouble 19 = .ok (.astore_n 3, 1) := by decide +kernel
theorem dL_isDouble_20 : decode cL_isDouble 20 = .ok (.iconst 1, 1) := by decide +kernel
theorem dL_isDouble_21 : decode cL_isDouble 21 = .ok (.ireturn, 1) := by decide +kernel
theorem dL_isDouble_22 : decode cL_isDouble 22 = .ok (.iconst 0, 1) := by decide +kernel
theorem dL_isDouble_23 : decode cL_isDouble 23 = .ok (.ireturn, 1) := by decide +kernel
theorem dL_matchOf_0 : decode cL_matchOf 0 = .ok (.aload_n 2, 1) := by decide +kernel
theorem dL_matchOf_1 : decode cL_matchOf 1 = .ok (.iconst 0, 1) := by decide +kernel
theorem dL_matchOf_2 : decode cL_matchOf 2 = .ok (.aload_n 0, 1) := by decide +kernel
theorem dL_matchOf_3 : decode cL_matchOf 3 = .ok (.iload_n 1, 1) := by decide +kernel
theorem dL_matchOf_4 : decode cL_matchOf 4 = .ok (.invokevirtual 66, 3) := by decide +kernel
theorem dL_matchOf_7 : decode cL_matchOf 7 = .ok (.i2l, 1) := by decide +kernel
theorem dL_matchOf_8 : decode cL_matchOf 8 = .ok (.lastore, 1) := by decide +kernel
theorem dL_matchOf_9 : decode cL_matchOf 9 = .ok (.goto 9, 3) := by decide +kernel
theorem dL_matchOf_12 : decode cL_matchOf 12 = .ok (.astore_n 3, 1) := by decide +kernel
theorem dL_matchOf_13 : decode cL_matchOf 13 = .ok (.iconst 1, 1) := by decide +kernel
theorem dL_matchOf_14 : decode cL_matchOf 14 = .ok (.ireturn, 1) := by decide +kernel
theorem dL_matchOf_15 : decode cL_matchOf 15 = .ok (.astore_n 3, 1) := by decide +kernel
theorem dL_matchOf_16 : decode cL_matchOf 16 = .ok (.iconst 2, 1) := by decide +kernel
theorem dL_matchOf_17 : decode cL_matchOf 17 = .ok (.ireturn, 1) := by decide +kernel
theorem dL_matchOf_18 : decode cL_matchOf 18 = .ok (.iconst 0, 1) := by decide +kernel
theorem dL_matchOf_19 : decode cL_matchOf 19 = .ok (.ireturn, 1) := by decide +kernel
theorem dL_count_0 : decode cL_count 0 = .ok (.aload_n 3, 1) := by decide +kernel
theorem dL_count_1 : decode cL_count 1 = .ok (.iconst 0, 1) := by decide +kernel
theorem dL_count_2 : decode cL_count 2 = .ok (.aload_n 0, 1) := by decide +kernel
theorem dL_count_3 : decode cL_count 3 = .ok (.iload_n 1, 1) := by decide +kernel
theorem dL_count_4 : decode cL_count 4 = .ok (.iload_n 2, 1) := by decide +kernel
theorem dL_count_5 : decode cL_count 5 = .ok (.invokevirtual 69, 3) := by decide +kernel
theorem dL_count_8 : decode cL_count 8 = .ok (.i2l, 1) := by decide +kernel
theorem dL_count_9 : decode cL_count 9 = .ok (.lastore, 1) := by decide +kernel
theorem dL_count_10 : decode cL_count 10 = .ok (.goto 11, 3) := by decide +kernel
theorem dL_count_13 : decode cL_count 13 = .ok (.astore 4, 2) := by decide +kernel
theorem dL_count_15 : decode cL_count 15 = .ok (.iconst 1, 1) := by decide +kernel
theorem dL_count_16 : decode cL_count 16 = .ok (.ireturn, 1) := by decide +kernel
theorem dL_count_17 : decode cL_count 17 = .ok (.astore 4, 2) := by decide +kernel
theorem dL_count_19 : decode cL_count 19 = .ok (.iconst 2, 1) := by decide +kernel
theorem dL_count_20 : decode cL_count 20 = .ok (.ireturn, 1) := by decide +kernel
theorem dL_count_21 : decode cL_count 21 = .ok (.iconst 0, 1) := by decide +kernel
theorem dL_count_22 : decode cL_count 22 = .ok (.ireturn, 1) := by decide +kernel
theorem dL_countAnew_0 : decode cL_countAnew 0 = .ok (.aload_n 3, 1) := by decide +kernel
theorem dL_countAnew_1 : decode cL_countAnew 1 = .ok (.iconst 0, 1) := by decide +kernel
theorem dL_countAnew_2 : decode cL_countAnew 2 = .ok (.aload_n 0, 1) := by decide +kernel
theorem dL_countAnew_3 : decode cL_countAnew 3 = .ok (.iload_n 1, 1) := by decide +kernel
theorem dL_countAnew_4 : decode cL_countAnew 4 = .ok (.iload_n 2, 1) := by decide +kernel
theorem dL_countAnew_5 : decode cL_countAnew 5 = .ok (.invokevirtual 72, 3) := by decide +kernel
theorem dL_countAnew_8 : decode cL_countAnew 8 = .ok (.i2l, 1) := by decide +kernel
theorem dL_countAnew_9 : decode cL_countAnew 9 = .ok (.lastore, 1) := by decide +kernel
theorem dL_countAnew_10 : decode cL_countAnew 10 = .ok (.goto 11, 3) := by decide +kernel
theorem dL_countAnew_13 : decode cL_countAnew 13 = .ok (.astore 4, 2) := by decide +kernel
theorem dL_countAnew_15 : decode cL_countAnew 15 = .ok (.iconst 1, 1) := by decide +kernel
theorem dL_countAnew_16 : decode cL_countAnew 16 = .ok (.ireturn, 1) := by decide +kernel
theorem dL_countAnew_17 : decode cL_countAnew 17 = .ok (.astore 4, 2) := by decide +kernel
theorem dL_countAnew_19 : decode cL_countAnew 19 = .ok (.iconst 2, 1) := by decide +kernel
theorem dL_countAnew_20 : decode cL_countAnew 20 = .ok (.ireturn, 1) := by decide +kernel
theorem dL_countAnew_21 : decode cL_countAnew 21 = .ok (.iconst 0, 1) := by decide +kernel
theorem dL_countAnew_22 : decode cL_countAnew 22 = .ok (.ireturn, 1) := by decide +kernel
theorem dL_estimate_0 : decode cL_estimate 0 = .ok (.aload_n 1, 1) := by decide +kernel
theorem dL_estimate_1 : decode cL_estimate 1 = .ok (.iconst 0, 1) := by decide +kernel
theorem dL_estimate_2 : decode cL_estimate 2 = .ok (.aload_n 0, 1) := by decide +kernel
theorem dL_estimate_3 : decode cL_estimate 3 = .ok (.invokevirtual 75, 3) := by decide +kernel
theorem dL_estimate_6 : decode cL_estimate 6 = .ok (.lastore, 1) := by decide +kernel
theorem dL_estimate_7 : decode cL_estimate 7 = .ok (.goto 6, 3) := by decide +kernel
theorem dL_estimate_10 : decode cL_estimate 10 = .ok (.astore_n 2, 1) := by decide +kernel
theorem dL_estimate_11 : decode cL_estimate 11 = .ok (.iconst 1, 1) := by decide +kernel
theorem dL_estimate_12 : decode cL_estimate 12 = .ok (.ireturn, 1) := by decide +kernel
theorem dL_estimate_13 : decode cL_estimate 13 = .ok (.iconst 0, 1) := by decide +kernel
theorem dL_estimate_14 : decode cL_estimate 14 = .ok (.ireturn, 1) := by decide +kernel
theorem dL_doubleShare_0 : decode cL_doubleShare 0 = .ok (.aload_n 1, 1) := by decide +kernel
theorem dL_doubleShare_1 : decode cL_doubleShare 1 = .ok (.iconst 0, 1) := by decide +kernel
theorem dL_doubleShare_2 : decode cL_doubleShare 2 = .ok (.aload_n 0, 1) := by decide +kernel
theorem dL_doubleShare_3 : decode cL_doubleShare 3 = .ok (.invokevirtual 81, 3) := by decide +kernel
theorem dL_doubleShare_6 : decode cL_doubleShare 6 = .ok (.f2d, 1) := by decide +kernel
theorem dL_doubleShare_7 : decode cL_doubleShare 7 = .ok (.dastore, 1) := by decide +kernel
theorem dL_doubleShare_8 : decode cL_doubleShare 8 = .ok (.goto 6, 3) := by decide +kernel
theorem dL_doubleShare_11 : decode cL_doubleShare 11 = .ok (.astore_n 2, 1) := by decide +kernel
theorem dL_doubleShare_12 : decode cL_doubleShare 12 = .ok (.iconst 1, 1) := by decide +kernel
theorem dL_doubleShare_13 : decode cL_doubleShare 13 = .ok (.ireturn, 1) := by decide +kernel
theorem dL_doubleShare_14 : decode cL_doubleShare 14 = .ok (.iconst 0, 1) := by decide +kernel
theorem dL_doubleShare_15 : decode cL_doubleShare 15 = .ok (.ireturn, 1) := by decide +kernel
theorem dL_meanScore_0 : decode cL_meanScore 0 = .ok (.aload_n 1, 1) := by decide +kernel
theorem dL_meanScore_1 : decode cL_meanScore 1 = .ok (.iconst 0, 1) := by decide +kernel
theorem dL_meanScore_2 : decode cL_meanScore 2 = .ok (.aload_n 0, 1) := by decide +kernel
theorem dL_meanScore_3 : decode cL_meanScore 3 = .ok (.invokevirtual 85, 3) := by decide +kernel
theorem dL_meanScore_6 : decode cL_meanScore 6 = .ok (.dastore, 1) := by decide +kernel
theorem dL_meanScore_7 : decode cL_meanScore 7 = .ok (.goto 6, 3) := by decide +kernel
theorem dL_meanScore_10 : decode cL_meanScore 10 = .ok (.astore_n 2, 1) := by decide +kernel
theorem dL_meanScore_11 : decode cL_meanScore 11 = .ok (.iconst 1, 1) := by decide +kernel
theorem dL_meanScore_12 : decode cL_meanScore 12 = .ok (.ireturn, 1) := by decide +kernel
theorem dL_meanScore_13 : decode cL_meanScore 13 = .ok (.iconst 0, 1) := by decide +kernel
theorem dL_meanScore_14 : decode cL_meanScore 14 = .ok (.ireturn, 1) := by decide +kernel
theorem dL_tell_0 : decode cL_tell 0 = .ok (.aload_n 1, 1) := by decide +kernel
theorem dL_tell_1 : decode cL_tell 1 = .ok (.iconst 0, 1) := by decide +kernel
theorem dL_tell_2 : decode cL_tell 2 = .ok (.aload_n 0, 1) := by decide +kernel
theorem dL_tell_3 : decode cL_tell 3 = .ok (.invokevirtual 89, 3) := by decide +kernel
theorem dL_tell_6 : decode cL_tell 6 = .ok (.i2l, 1) := by decide +kernel
theorem dL_tell_7 : decode cL_tell 7 = .ok (.lastore, 1) := by decide +kernel
theorem dL_tell_8 : decode cL_tell 8 = .ok (.goto 9, 3) := by decide +kernel
theorem dL_tell_11 : decode cL_tell 11 = .ok (.astore_n 2, 1) := by decide +kernel
theorem dL_tell_12 : decode cL_tell 12 = .ok (.iconst 1, 1) := by decide +kernel
theorem dL_tell_13 : decode cL_tell 13 = .ok (.ireturn, 1) := by decide +kernel
theorem dL_tell_14 : decode cL_tell 14 = .ok (.astore_n 2, 1) := by decide +kernel
theorem dL_tell_15 : decode cL_tell 15 = .ok (.iconst 2, 1) := by decide +kernel
theorem dL_tell_16 : decode cL_tell 16 = .ok (.ireturn, 1) := by decide +kernel
theorem dL_tell_17 : decode cL_tell 17 = .ok (.iconst 0, 1) := by decide +kernel
theorem dL_tell_18 : decode cL_tell 18 = .ok (.ireturn, 1) := by decide +kernel
theorem dL_stateOf_0 : decode cL_stateOf 0 = .ok (.aload_n 2, 1) := by decide +kernel
theorem dL_stateOf_1 : decode cL_stateOf 1 = .ok (.iconst 0, 1) := by decide +kernel
theorem dL_stateOf_2 : decode cL_stateOf 2 = .ok (.aload_n 0, 1) := by decide +kernel
theorem dL_stateOf_3 : decode cL_stateOf 3 = .ok (.iload_n 1, 1) := by decide +kernel
theorem dL_stateOf_4 : decode cL_stateOf 4 = .ok (.invokevirtual 92, 3) := by decide +kernel
theorem dL_stateOf_7 : decode cL_stateOf 7 = .ok (.i2l, 1) := by decide +kernel
theorem dL_stateOf_8 : decode cL_stateOf 8 = .ok (.lastore, 1) := by decide +kernel
theorem dL_stateOf_9 : decode cL_stateOf 9 = .ok (.goto 6, 3) := by decide +kernel
theorem dL_stateOf_12 : decode cL_stateOf 12 = .ok (.astore_n 3, 1) := by decide +kernel
theorem dL_stateOf_13 : decode cL_stateOf 13 = .ok (.iconst 1, 1) := by decide +kernel
theorem dL_stateOf_14 : decode cL_stateOf 14 = .ok (.ireturn, 1) := by decide +kernel
theorem dL_stateOf_15 : decode cL_stateOf 15 = .ok (.iconst 0, 1) := by decide +kernel
theorem dL_stateOf_16 : decode cL_stateOf 16 = .ok (.ireturn, 1) := by decide +kernel
theorem dL_isHidden_0 : decode cL_isHidden 0 = .ok (.aload 4, 2) := by decide +kernel
theorem dL_isHidden_2 : decode cL_isHidden 2 = .ok (.iconst 0, 1) := by decide +kernel
theorem dL_isHidden_3 : decode cL_isHidden 3 = .ok (.aload_n 0, 1) := by decide +kernel
theorem dL_isHidden_4 : decode cL_isHidden 4 = .ok (.iload_n 1, 1) := by decide +kernel
theorem dL_isHidden_5 : decode cL_isHidden 5 = .ok (.iload_n 2, 1) := by decide +kernel
theorem dL_isHidden_6 : decode cL_isHidden 6 = .ok (.iload_n 3, 1) := by decide +kernel
theorem dL_isHidden_7 : decode cL_isHidden 7 = .ok (.invokevirtual 96, 3) := by decide +kernel
theorem dL_isHidden_10 : decode cL_isHidden 10 = .ok (.ifCond .eq 7, 3) := by decide +kernel
theorem dL_isHidden_13 : decode cL_isHidden 13 = .ok (.lconst 1, 1) := by decide +kernel
theorem dL_isHidden_14 : decode cL_isHidden 14 = .ok (.goto 4, 3) := by decide +kernel
theorem dL_isHidden_17 : decode cL_isHidden 17 = .ok (.lconst 0, 1) := by decide +kernel
theorem dL_isHidden_18 : decode cL_isHidden 18 = .ok (.lastore, 1) := by decide +kernel
theorem dL_isHidden_19 : decode cL_isHidden 19 = .ok (.goto 15, 3) := by decide +kernel
theorem dL_isHidden_22 : decode cL_isHidden 22 = .ok (.astore 5, 2) := by decide +kernel
theorem dL_isHidden_24 : decode cL_isHidden 24 = .ok (.iconst 1, 1) := by decide +kernel
theorem dL_isHidden_25 : decode cL_isHidden 25 = .ok (.ireturn, 1) := by decide +kernel
theorem dL_isHidden_26 : decode cL_isHidden 26 = .ok (.astore 5, 2) := by decide +kernel
theorem dL_isHidden_28 : decode cL_isHidden 28 = .ok (.iconst 2, 1) := by decide +kernel
theorem dL_isHidden_29 : decode cL_isHidden 29 = .ok (.ireturn, 1) := by decide +kernel
theorem dL_isHidden_30 : decode cL_isHidden 30 = .ok (.astore 5, 2) := by decide +kernel
theorem dL_isHidden_32 : decode cL_isHidden 32 = .ok (.iconst 3, 1) := by decide +kernel
theorem dL_isHidden_33 : decode cL_isHidden 33 = .ok (.ireturn, 1) := by decide +kernel
theorem dL_isHidden_34 : decode cL_isHidden 34 = .ok (.iconst 0, 1) := by decide +kernel
theorem dL_isHidden_35 : decode cL_isHidden 35 = .ok (.ireturn, 1) := by decide +kernel
theorem dL_cell_0 : decode cL_cell 0 = .ok (.aload 4, 2) := by decide +kernel
theorem dL_cell_2 : decode cL_cell 2 = .ok (.iconst 0, 1) := by decide +kernel
theorem dL_cell_3 : decode cL_cell 3 = .ok (.aload_n 0, 1) := by decide +kernel
theorem dL_cell_4 : decode cL_cell 4 = .ok (.iload_n 1, 1) := by decide +kernel
theorem dL_cell_5 : decode cL_cell 5 = .ok (.iload_n 2, 1) := by decide +kernel
theorem dL_cell_6 : decode cL_cell 6 = .ok (.iload_n 3, 1) := by decide +kernel
theorem dL_cell_7 : decode cL_cell 7 = .ok (.invokevirtual 100, 3) := by decide +kernel
theorem dL_cell_10 : decode cL_cell 10 = .ok (.i2l, 1) := by decide +kernel
theorem dL_cell_11 : decode cL_cell 11 = .ok (.lastore, 1) := by decide +kernel
theorem dL_cell_12 : decode cL_cell 12 = .ok (.goto 19, 3) := by decide +kernel
theorem dL_cell_15 : decode cL_cell 15 = .ok (.astore 5, 2) := by decide +kernel
theorem dL_cell_17 : decode cL_cell 17 = .ok (.iconst 1, 1) := by decide +kernel
theorem dL_cell_18 : decode cL_cell 18 = .ok (.ireturn, 1) := by decide +kernel
theorem dL_cell_19 : decode cL_cell 19 = .ok (.astore 5, 2) := by decide +kernel
theorem dL_cell_21 : decode cL_cell 21 = .ok (.iconst 2, 1) := by decide +kernel
theorem dL_cell_22 : decode cL_cell 22 = .ok (.ireturn, 1) := by decide +kernel
theorem dL_cell_23 : decode cL_cell 23 = .ok (.astore 5, 2) := by decide +kernel
theorem dL_cell_25 : decode cL_cell 25 = .ok (.iconst 3, 1) := by decide +kernel
theorem dL_cell_26 : decode cL_cell 26 = .ok (.ireturn, 1) := by decide +kernel
theorem dL_cell_27 : decode cL_cell 27 = .ok (.astore 5, 2) := by decide +kernel
theorem dL_cell_29 : decode cL_cell 29 = .ok (.iconst 4, 1) := by decide +kernel
theorem dL_cell_30 : decode cL_cell 30 = .ok (.ireturn, 1) := by decide +kernel
theorem dL_cell_31 : decode cL_cell 31 = .ok (.iconst 0, 1) := by decide +kernel
theorem dL_cell_32 : decode cL_cell 32 = .ok (.ireturn, 1) := by decide +kernel
theorem dL_blockSum_0 : decode cL_blockSum 0 = .ok (.aload_n 3, 1) := by decide +kernel
theorem dL_blockSum_1 : decode cL_blockSum 1 = .ok (.iconst 0, 1) := by decide +kernel
theorem dL_blockSum_2 : decode cL_blockSum 2 = .ok (.aload_n 0, 1) := by decide +kernel
theorem dL_blockSum_3 : decode cL_blockSum 3 = .ok (.iload_n 1, 1) := by decide +kernel
theorem dL_blockSum_4 : decode cL_blockSum 4 = .ok (.iload_n 2, 1) := by decide +kernel
theorem dL_blockSum_5 : decode cL_blockSum 5 = .ok (.invokevirtual 104, 3) := by decide +kernel
theorem dL_blockSum_8 : decode cL_blockSum 8 = .ok (.i2l, 1) := by decide +kernel
theorem dL_blockSum_9 : decode cL_blockSum 9 = .ok (.lastore, 1) := by decide +kernel
theorem dL_blockSum_10 : decode cL_blockSum 10 = .ok (.goto 11, 3) := by decide +kernel
theorem dL_blockSum_13 : decode cL_blockSum 13 = .ok (.astore 4, 2) := by decide +kernel
theorem dL_blockSum_15 : decode cL_blockSum 15 = .ok (.iconst 1, 1) := by decide +kernel
theorem dL_blockSum_16 : decode cL_blockSum 16 = .ok (.ireturn, 1) := by decide +kernel
theorem dL_blockSum_17 : decode cL_blockSum 17 = .ok (.astore 4, 2) := by decide +kernel
theorem dL_blockSum_19 : decode cL_blockSum 19 = .ok (.iconst 2, 1) := by decide +kernel
theorem dL_blockSum_20 : decode cL_blockSum 20 = .ok (.ireturn, 1) := by decide +kernel
theorem dL_blockSum_21 : decode cL_blockSum 21 = .ok (.iconst 0, 1) := by decide +kernel
theorem dL_blockSum_22 : decode cL_blockSum 22 = .ok (.ireturn, 1) := by decide +kernel
theorem dL_groupSum_0 : decode cL_groupSum 0 = .ok (.aload_n 3, 1) := by decide +kernel
theorem dL_groupSum_1 : decode cL_groupSum 1 = .ok (.iconst 0, 1) := by decide +kernel
theorem dL_groupSum_2 : decode cL_groupSum 2 = .ok (.aload_n 0, 1) := by decide +kernel
theorem dL_groupSum_3 : decode cL_groupSum 3 = .ok (.iload_n 1, 1) := by decide +kernel
theorem dL_groupSum_4 : decode cL_groupSum 4 = .ok (.iload_n 2, 1) := by decide +kernel
theorem dL_groupSum_5 : decode cL_groupSum 5 = .ok (.invokevirtual 107, 3) := by decide +kernel
theorem dL_groupSum_8 : decode cL_groupSum 8 = .ok (.i2l, 1) := by decide +kernel
theorem dL_groupSum_9 : decode cL_groupSum 9 = .ok (.lastore, 1) := by decide +kernel
theorem dL_groupSum_10 : decode cL_groupSum 10 = .ok (.goto 11, 3) := by decide +kernel
theorem dL_groupSum_13 : decode cL_groupSum 13 = .ok (.astore 4, 2) := by decide +kernel
theorem dL_groupSum_15 : decode cL_groupSum 15 = .ok (.iconst 1, 1) := by decide +kernel
theorem dL_groupSum_16 : decode cL_groupSum 16 = .ok (.ireturn, 1) := by decide +kernel
theorem dL_groupSum_17 : decode cL_groupSum 17 = .ok (.astore 4, 2) := by decide +kernel
theorem dL_groupSum_19 : decode cL_groupSum 19 = .ok (.iconst 2, 1) := by decide +kernel
theorem dL_groupSum_20 : decode cL_groupSum 20 = .ok (.ireturn, 1) := by decide +kernel
theorem dL_groupSum_21 : decode cL_groupSum 21 = .ok (.iconst 0, 1) := by decide +kernel
theorem dL_groupSum_22 : decode cL_groupSum 22 = .ok (.ireturn, 1) := by decide +kernel
theorem dL_holes_0 : decode cL_holes 0 = .ok (.aload_n 2, 1) := by decide +kernel
theorem dL_holes_1 : decode cL_holes 1 = .ok (.iconst 0, 1) := by decide +kernel
theorem dL_holes_2 : decode cL_holes 2 = .ok (.aload_n 0, 1) := by decide +kernel
theorem dL_holes_3 : decode cL_holes 3 = .ok (.iload_n 1, 1) := by decide +kernel
theorem dL_holes_4 : decode cL_holes 4 = .ok (.invokevirtual 110, 3) := by decide +kernel
theorem dL_holes_7 : decode cL_holes 7 = .ok (.i2l, 1) := by decide +kernel
theorem dL_holes_8 : decode cL_holes 8 = .ok (.lastore, 1) := by decide +kernel
theorem dL_holes_9 : decode cL_holes 9 = .ok (.goto 6, 3) := by decide +kernel
theorem dL_holes_12 : decode cL_holes 12 = .ok (.astore_n 3, 1) := by decide +kernel
theorem dL_holes_13 : decode cL_holes 13 = .ok (.iconst 1, 1) := by decide +kernel
theorem dL_holes_14 : decode cL_holes 14 = .ok (.ireturn, 1) := by decide +kernel
theorem dL_holes_15 : decode cL_holes 15 = .ok (.iconst 0, 1) := by decide +kernel
theorem dL_holes_16 : decode cL_holes 16 = .ok (.ireturn, 1) := by decide +kernel
theorem dL_isAtRisk_0 : decode cL_isAtRisk 0 = .ok (.aload 4, 2) := by decide +kernel
theorem dL_isAtRisk_2 : decode cL_isAtRisk 2 = .ok (.iconst 0, 1) := by decide +kernel
theorem dL_isAtRisk_3 : decode cL_isAtRisk 3 = .ok (.aload_n 0, 1) := by decide +kernel
theorem dL_isAtRisk_4 : decode cL_isAtRisk 4 = .ok (.iload_n 1, 1) := by decide +kernel
theorem dL_isAtRisk_5 : decode cL_isAtRisk 5 = .ok (.iload_n 2, 1) := by decide +kernel
theorem dL_isAtRisk_6 : decode cL_isAtRisk 6 = .ok (.iload_n 3, 1) := by decide +kernel
theorem dL_isAtRisk_7 : decode cL_isAtRisk 7 = .ok (.invokevirtual 113, 3) := by decide +kernel
theorem dL_isAtRisk_10 : decode cL_isAtRisk 10 = .ok (.ifCond .eq 7, 3) := by decide +kernel
theorem dL_isAtRisk_13 : decode cL_isAtRisk 13 = .ok (.lconst 1, 1) := by decide +kernel
theorem dL_isAtRisk_14 : decode cL_isAtRisk 14 = .ok (.goto 4, 3) := by decide +kernel
theorem dL_isAtRisk_17 : decode cL_isAtRisk 17 = .ok (.lconst 0, 1) := by decide +kernel
theorem dL_isAtRisk_18 : decode cL_isAtRisk 18 = .ok (.lastore, 1) := by decide +kernel
theorem dL_isAtRisk_19 : decode cL_isAtRisk 19 = .ok (.goto 19, 3) := by decide +kernel
theorem dL_isAtRisk_22 : decode cL_isAtRisk 22 = .ok (.astore 5, 2) := by decide +kernel
theorem dL_isAtRisk_24 : decode cL_isAtRisk 24 = .ok (.iconst 1, 1) := by decide +kernel
theorem dL_isAtRisk_25 : decode cL_isAtRisk 25 = .ok (.ireturn, 1) := by decide +kernel
theorem dL_isAtRisk_26 : decode cL_isAtRisk 26 = .ok (.astore 5, 2) := by decide +kernel
theorem dL_isAtRisk_28 : decode cL_isAtRisk 28 = .ok (.iconst 2, 1) := by decide +kernel
theorem dL_isAtRisk_29 : decode cL_isAtRisk 29 = .ok (.ireturn, 1) := by decide +kernel
theorem dL_isAtRisk_30 : decode cL_isAtRisk 30 = .ok (.astore 5, 2) := by decide +kernel
theorem dL_isAtRisk_32 : decode cL_isAtRisk 32 = .ok (.iconst 3, 1) := by decide +kernel
theorem dL_isAtRisk_33 : decode cL_isAtRisk 33 = .ok (.ireturn, 1) := by decide +kernel
theorem dL_isAtRisk_34 : decode cL_isAtRisk 34 = .ok (.astore 5, 2) := by decide +kernel
theorem dL_isAtRisk_36 : decode cL_isAtRisk 36 = .ok (.iconst 4, 1) := by decide +kernel
theorem dL_isAtRisk_37 : decode cL_isAtRisk 37 = .ok (.ireturn, 1) := by decide +kernel
theorem dL_isAtRisk_38 : decode cL_isAtRisk 38 = .ok (.iconst 0, 1) := by decide +kernel
theorem dL_isAtRisk_39 : decode cL_isAtRisk 39 = .ok (.ireturn, 1) := by decide +kernel
theorem dL_found_0 : decode cL_found 0 = .ok (.aload_n 2, 1) := by decide +kernel
theorem dL_found_1 : decode cL_found 1 = .ok (.iconst 0, 1) := by decide +kernel
theorem dL_found_2 : decode cL_found 2 = .ok (.aload_n 0, 1) := by decide +kernel
theorem dL_found_3 : decode cL_found 3 = .ok (.iload_n 1, 1) := by decide +kernel
theorem dL_found_4 : decode cL_found 4 = .ok (.invokevirtual 116, 3) := by decide +kernel
theorem dL_found_7 : decode cL_found 7 = .ok (.i2l, 1) := by decide +kernel
theorem dL_found_8 : decode cL_found 8 = .ok (.lastore, 1) := by decide +kernel
theorem dL_found_9 : decode cL_found 9 = .ok (.goto 6, 3) := by decide +kernel
theorem dL_found_12 : decode cL_found 12 = .ok (.astore_n 3, 1) := by decide +kernel
theorem dL_found_13 : decode cL_found 13 = .ok (.iconst 1, 1) := by decide +kernel
theorem dL_found_14 : decode cL_found 14 = .ok (.ireturn, 1) := by decide +kernel
theorem dL_found_15 : decode cL_found 15 = .ok (.iconst 0, 1) := by decide +kernel
theorem dL_found_16 : decode cL_found 16 = .ok (.ireturn, 1) := by decide +kernel
theorem dL_foundByWays_0 : decode cL_foundByWays 0 = .ok (.aload_n 2, 1) := by decide +kernel
theorem dL_foundByWays_1 : decode cL_foundByWays 1 = .ok (.iconst 0, 1) := by decide +kernel
theorem dL_foundByWays_2 : decode cL_foundByWays 2 = .ok (.aload_n 0, 1) := by decide +kernel
theorem dL_foundByWays_3 : decode cL_foundByWays 3 = .ok (.iload_n 1, 1) := by decide +kernel
theorem dL_foundByWays_4 : decode cL_foundByWays 4 = .ok (.invokevirtual 119, 3) := by decide +kernel
theorem dL_foundByWays_7 : decode cL_foundByWays 7 = .ok (.i2l, 1) := by decide +kernel
theorem dL_foundByWays_8 : decode cL_foundByWays 8 = .ok (.lastore, 1) := by decide +kernel
theorem dL_foundByWays_9 : decode cL_foundByWays 9 = .ok (.goto 6, 3) := by decide +kernel
theorem dL_foundByWays_12 : decode cL_foundByWays 12 = .ok (.astore_n 3, 1) := by decide +kernel
theorem dL_foundByWays_13 : decode cL_foundByWays 13 = .ok (.iconst 1, 1) := by decide +kernel
theorem dL_foundByWays_14 : decode cL_foundByWays 14 = .ok (.ireturn, 1) := by decide +kernel
theorem dL_foundByWays_15 : decode cL_foundByWays 15 = .ok (.iconst 0, 1) := by decide +kernel
theorem dL_foundByWays_16 : decode cL_foundByWays 16 = .ok (.ireturn, 1) := by decide +kernel
theorem dL_lineLength_0 : decode cL_lineLength 0 = .ok (.aload_n 2, 1) := by decide +kernel
theorem dL_lineLength_1 : decode cL_lineLength 1 = .ok (.iconst 0, 1) := by decide +kernel
theorem dL_lineLength_2 : decode cL_lineLength 2 = .ok (.aload_n 0, 1) := by decide +kernel
theorem dL_lineLength_3 : decode cL_lineLength 3 = .ok (.iload_n 1, 1) := by decide +kernel
theorem dL_lineLength_4 : decode cL_lineLength 4 = .ok (.invokevirtual 122, 3) := by decide +kernel
theorem dL_lineLength_7 : decode cL_lineLength 7 = .ok (.i2l, 1) := by decide +kernel
theorem dL_lineLength_8 : decode cL_lineLength 8 = .ok (.lastore, 1) := by decide +kernel
theorem dL_lineLength_9 : decode cL_lineLength 9 = .ok (.goto 6, 3) := by decide +kernel
theorem dL_lineLength_12 : decode cL_lineLength 12 = .ok (.astore_n 3, 1) := by decide +kernel
theorem dL_lineLength_13 : decode cL_lineLength 13 = .ok (.iconst 1, 1) := by decide +kernel
theorem dL_lineLength_14 : decode cL_lineLength 14 = .ok (.ireturn, 1) := by decide +kernel
theorem dL_lineLength_15 : decode cL_lineLength 15 = .ok (.iconst 0, 1) := by decide +kernel
theorem dL_lineLength_16 : decode cL_lineLength 16 = .ok (.ireturn, 1) := by decide +kernel
theorem dL_lineAt_0 : decode cL_lineAt 0 = .ok (.aload_n 3, 1) := by decide +kernel
theorem dL_lineAt_1 : decode cL_lineAt 1 = .ok (.iconst 0, 1) := by decide +kernel
theorem dL_lineAt_2 : decode cL_lineAt 2 = .ok (.aload_n 0, 1) := by decide +kernel
theorem dL_lineAt_3 : decode cL_lineAt 3 = .ok (.iload_n 1, 1) := by decide +kernel
theorem dL_lineAt_4 : decode cL_lineAt 4 = .ok (.iload_n 2, 1) := by decide +kernel
theorem dL_lineAt_5 : decode cL_lineAt 5 = .ok (.invokevirtual 125, 3) := by decide +kernel
theorem dL_lineAt_8 : decode cL_lineAt 8 = .ok (.i2l, 1) := by decide +kernel
theorem dL_lineAt_9 : decode cL_lineAt 9 = .ok (.lastore, 1) := by decide +kernel
theorem dL_lineAt_10 : decode cL_lineAt 10 = .ok (.goto 11, 3) := by decide +kernel
theorem dL_lineAt_13 : decode cL_lineAt 13 = .ok (.astore 4, 2) := by decide +kernel
theorem dL_lineAt_15 : decode cL_lineAt 15 = .ok (.iconst 1, 1) := by decide +kernel
theorem dL_lineAt_16 : decode cL_lineAt 16 = .ok (.ireturn, 1) := by decide +kernel
theorem dL_lineAt_17 : decode cL_lineAt 17 = .ok (.astore 4, 2) := by decide +kernel
theorem dL_lineAt_19 : decode cL_lineAt 19 = .ok (.iconst 2, 1) := by decide +kernel
theorem dL_lineAt_20 : decode cL_lineAt 20 = .ok (.ireturn, 1) := by decide +kernel
theorem dL_lineAt_21 : decode cL_lineAt 21 = .ok (.iconst 0, 1) := by decide +kernel
theorem dL_lineAt_22 : decode cL_lineAt 22 = .ok (.ireturn, 1) := by decide +kernel
theorem dL_law_0 : decode cL_law 0 = .ok (.new 8, 3) := by decide +kernel
theorem dL_law_3 : decode cL_law 3 = .ok (.dup, 1) := by decide +kernel
theorem dL_law_4 : decode cL_law 4 = .ok (.invokespecial 128, 3) := by decide +kernel
theorem dL_law_7 : decode cL_law 7 = .ok (.astore_n 1, 1) := by decide +kernel
theorem dL_law_8 : decode cL_law 8 = .ok (.new 129, 3) := by decide +kernel
theorem dL_law_11 : decode cL_law 11 = .ok (.dup, 1) := by decide +kernel
theorem dL_law_12 : decode cL_law 12 = .ok (.invokespecial 131, 3) := by decide +kernel
theorem dL_law_15 : decode cL_law 15 = .ok (.astore_n 2, 1) := by decide +kernel
theorem dL_law_16 : decode cL_law 16 = .ok (.iconst 1, 1) := by decide +kernel
theorem dL_law_17 : decode cL_law 17 = .ok (.newarray .long, 2) := by decide +kernel
theorem dL_law_19 : decode cL_law 19 = .ok (.astore_n 3, 1) := by decide +kernel
theorem dL_law_20 : decode cL_law 20 = .ok (.iconst 1, 1) := by decide +kernel
theorem dL_law_21 : decode cL_law 21 = .ok (.newarray .double, 2) := by decide +kernel
theorem dL_law_23 : decode cL_law 23 = .ok (.astore 4, 2) := by decide +kernel
theorem dL_law_25 : decode cL_law 25 = .ok (.iconst 0, 1) := by decide +kernel
theorem dL_law_26 : decode cL_law 26 = .ok (.istore 5, 2) := by decide +kernel
theorem dL_law_28 : decode cL_law 28 = .ok (.iload 5, 2) := by decide +kernel
theorem dL_law_30 : decode cL_law 30 = .ok (.aload_n 0, 1) := by decide +kernel
theorem dL_law_31 : decode cL_law 31 = .ok (.arraylength, 1) := by decide +kernel
theorem dL_law_32 : decode cL_law 32 = .ok (.iconst 5, 1) := by decide +kernel
theorem dL_law_33 : decode cL_law 33 = .ok (.isub, 1) := by decide +kernel
theorem dL_law_34 : decode cL_law 34 = .ok (.if_icmp .gt 2242, 3) := by decide +kernel
theorem dL_law_37 : decode cL_law 37 = .ok (.aload_n 0, 1) := by decide +kernel
theorem dL_law_38 : decode cL_law 38 = .ok (.iload 5, 2) := by decide +kernel
theorem dL_law_40 : decode cL_law 40 = .ok (.iaload, 1) := by decide +kernel
theorem dL_law_41 : decode cL_law 41 = .ok (.bipush 63, 2) := by decide +kernel
theorem dL_law_43 : decode cL_law 43 = .ok (.iand, 1) := by decide +kernel
theorem dL_law_44 : decode cL_law 44 = .ok (.tableswitch 2226 0 33 #[152, 196, 252, 320, 388, 482, 538, 608, 676, 744, 840, 908, 976, 989, 1052, 1108, 1121, 1189, 1257, 1300, 1366, 1431, 1475, 1531, 1618, 1698, 1766, 1834, 1890, 1977, 2033, 2089, 2145, 2213], 152) := by decide +kernel
theorem dL_law_196 : decode cL_law 196 = .ok (.aload_n 1, 1) := by decide +kernel
theorem dL_law_197 : decode cL_law 197 = .ok (.aload_n 3, 1) := by decide +kernel
theorem dL_law_198 : decode cL_law 198 = .ok (.invokestatic 132, 3) := by decide +kernel
theorem dL_law_201 : decode cL_law 201 = .ok (.istore 6, 2) := by decide +kernel
theorem dL_law_203 : decode cL_law 203 = .ok (.aload_n 2, 1) := by decide +kernel
theorem dL_law_204 : decode cL_law 204 = .ok (.invokevirtual 137, 3) := by decide +kernel
theorem dL_law_207 : decode cL_law 207 = .ok (.istore 7, 2) := by decide +kernel
theorem dL_law_209 : decode cL_law 209 = .ok (.aload_n 2, 1) := by decide +kernel
theorem dL_law_210 : decode cL_law 210 = .ok (.invokevirtual 138, 3) := by decide +kernel
theorem dL_law_213 : decode cL_law 213 = .ok (.iload 6, 2) := by decide +kernel
theorem dL_law_215 : decode cL_law 215 = .ok (.if_icmp .eq 5, 3) := by decide +kernel
theorem dL_law_218 : decode cL_law 218 = .ok (.iconst 0, 1) := by decide +kernel
theorem dL_law_219 : decode cL_law 219 = .ok (.ireturn, 1) := by decide +kernel
theorem dL_law_220 : decode cL_law 220 = .ok (.iload 6, 2) := by decide +kernel
theorem dL_law_222 : decode cL_law 222 = .ok (.ifCond .ne 15, 3) := by decide +kernel
theorem dL_law_225 : decode cL_law 225 = .ok (.aload_n 3, 1) := by decide +kernel
theorem dL_law_226 : decode cL_law 226 = .ok (.iconst 0, 1) := by decide +kernel
theorem dL_law_227 : decode cL_law 227 = .ok (.laload, 1) := by decide +kernel
theorem dL_law_228 : decode cL_law 228 = .ok (.iload 7, 2) := by decide +kernel
theorem dL_law_230 : decode cL_law 230 = .ok (.i2l, 1) := by decide +kernel
theorem dL_law_231 : decode cL_law 231 = .ok (.lcmp, 1) := by decide +kernel
theorem dL_law_232 : decode cL_law 232 = .ok (.ifCond .eq 5, 3) := by decide +kernel
theorem dL_law_235 : decode cL_law 235 = .ok (.iconst 0, 1) := by decide +kernel
theorem dL_law_236 : decode cL_law 236 = .ok (.ireturn, 1) := by decide +kernel
theorem dL_law_237 : decode cL_law 237 = .ok (.goto 2033, 3) := by decide +kernel
theorem dL_law_240 : decode cL_law 240 = .ok (.aload_n 1, 1) := by decide +kernel
theorem dL_law_241 : decode cL_law 241 = .ok (.aload_n 0, 1) := by decide +kernel
theorem dL_law_242 : decode cL_law 242 = .ok (.iload 5, 2) := by decide +kernel
theorem dL_law_244 : decode cL_law 244 = .ok (.iconst 1, 1) := by decide +kernel
theorem dL_law_245 : decode cL_law 245 = .ok (.iadd, 1) := by decide +kernel
theorem dL_law_246 : decode cL_law 246 = .ok (.iaload, 1) := by decide +kernel
theorem dL_law_247 : decode cL_law 247 = .ok (.aload_n 3, 1) := by decide +kernel
theorem dL_law_248 : decode cL_law 248 = .ok (.invokestatic 141, 3) := by decide +kernel
theorem dL_law_251 : decode cL_law 251 = .ok (.istore 6, 2) := by decide +kernel
theorem dL_law_253 : decode cL_law 253 = .ok (.aload_n 2, 1) := by decide +kernel
theorem dL_law_254 : decode cL_law 254 = .ok (.aload_n 0, 1) := by decide +kernel
theorem dL_law_255 : decode cL_law 255 = .ok (.iload 5, 2) := by decide +kernel
theorem dL_law_257 : decode cL_law 257 = .ok (.iconst 1, 1) := by decide +kernel
theorem dL_law_258 : decode cL_law 258 = .ok (.iadd, 1) := by decide +kernel
theorem dL_law_259 : decode cL_law 259 = .ok (.iaload, 1) := by decide +kernel
theorem dL_law_260 : decode cL_law 260 = .ok (.invokevirtual 144, 3) := by decide +kernel
theorem dL_law_263 : decode cL_law 263 = .ok (.istore 7, 2) := by decide +kernel
theorem dL_law_265 : decode cL_law 265 = .ok (.aload_n 2, 1) := by decide +kernel
theorem dL_law_266 : decode cL_law 266 = .ok (.invokevirtual 138, 3) := by decide +kernel
theorem dL_law_269 : decode cL_law 269 = .ok (.iload 6, 2) := by decide +kernel
theorem dL_law_271 : decode cL_law 271 = .ok (.if_icmp .eq 5, 3) := by decide +kernel
theorem dL_law_274 : decode cL_law 274 = .ok (.iconst 0, 1) := by decide +kernel
theorem dL_law_275 : decode cL_law 275 = .ok (.ireturn, 1) := by decide +kernel
theorem dL_law_276 : decode cL_law 276 = .ok (.iload 6, 2) := by decide +kernel
theorem dL_law_278 : decode cL_law 278 = .ok (.ifCond .ne 15, 3) := by decide +kernel
theorem dL_law_281 : decode cL_law 281 = .ok (.aload_n 3, 1) := by decide +kernel
theorem dL_law_282 : decode cL_law 282 = .ok (.iconst 0, 1) := by decide +kernel
theorem dL_law_283 : decode cL_law 283 = .ok (.laload, 1) := by decide +kernel
theorem dL_law_284 : decode cL_law 284 = .ok (.iload 7, 2) := by decide +kernel
theorem dL_law_286 : decode cL_law 286 = .ok (.i2l, 1) := by decide +kernel
theorem dL_law_287 : decode cL_law 287 = .ok (.lcmp, 1) := by decide +kernel
theorem dL_law_288 : decode cL_law 288 = .ok (.ifCond .eq 5, 3) := by decide +kernel
theorem dL_law_291 : decode cL_law 291 = .ok (.iconst 0, 1) := by decide +kernel
theorem dL_law_292 : decode cL_law 292 = .ok (.ireturn, 1) := by decide +kernel
theorem dL_law_293 : decode cL_law 293 = .ok (.goto 1977, 3) := by decide +kernel
theorem dL_law_296 : decode cL_law 296 = .ok (.aload_n 1, 1) := by decide +kernel
theorem dL_law_297 : decode cL_law 297 = .ok (.aload_n 0, 1) := by decide +kernel
theorem dL_law_298 : decode cL_law 298 = .ok (.iload 5, 2) := by decide +kernel
theorem dL_law_300 : decode cL_law 300 = .ok (.iconst 1, 1) := by decide +kernel
theorem dL_law_301 : decode cL_law 301 = .ok (.iadd, 1) := by decide +kernel
theorem dL_law_302 : decode cL_law 302 = .ok (.iaload, 1) := by decide +kernel
theorem dL_law_303 : decode cL_law 303 = .ok (.aload_n 0, 1) := by decide +kernel
theorem dL_law_304 : decode cL_law 304 = .ok (.iload 5, 2) := by decide +kernel
theorem dL_law_306 : decode cL_law 306 = .ok (.iconst 2, 1) := by decide +kernel
theorem dL_law_307 : decode cL_law 307 = .ok (.iadd, 1) := by decide +kernel
theorem dL_law_308 : decode cL_law 308 = .ok (.iaload, 1) := by decide +kernel
theorem dL_law_309 : decode cL_law 309 = .ok (.aload_n 3, 1) := by decide +kernel
theorem dL_law_310 : decode cL_law 310 = .ok (.invokestatic 145, 3) := by decide +kernel
theorem dL_law_313 : decode cL_law 313 = .ok (.istore 6, 2) := by decide +kernel
theorem dL_law_315 : decode cL_law 315 = .ok (.aload_n 2, 1) := by decide +kernel
theorem dL_law_316 : decode cL_law 316 = .ok (.aload_n 0, 1) := by decide +kernel
theorem dL_law_317 : decode cL_law 317 = .ok (.iload 5, 2) := by decide +kernel
theorem dL_law_319 : decode cL_law 319 = .ok (.iconst 1, 1) := by decide +kernel
theorem dL_law_320 : decode cL_law 320 = .ok (.iadd, 1) := by decide +kernel
theorem dL_law_321 : decode cL_law 321 = .ok (.iaload, 1) := by decide +kernel
theorem dL_law_322 : decode cL_law 322 = .ok (.aload_n 0, 1) := by decide +kernel
theorem dL_law_323 : decode cL_law 323 = .ok (.iload 5, 2) := by decide +kernel
theorem dL_law_325 : decode cL_law 325 = .ok (.iconst 2, 1) := by decide +kernel
theorem dL_law_326 : decode cL_law 326 = .ok (.iadd, 1) := by decide +kernel
theorem dL_law_327 : decode cL_law 327 = .ok (.iaload, 1) := by decide +kernel
theorem dL_law_328 : decode cL_law 328 = .ok (.invokevirtual 148, 3) := by decide +kernel
theorem dL_law_331 : decode cL_law 331 = .ok (.istore 7, 2) := by decide +kernel
theorem dL_law_333 : decode cL_law 333 = .ok (.aload_n 2, 1) := by decide +kernel
theorem dL_law_334 : decode cL_law 334 = .ok (.invokevirtual 138, 3) := by decide +kernel
theorem dL_law_337 : decode cL_law 337 = .ok (.iload 6, 2) := by decide +kernel
theorem dL_law_339 : decode cL_law 339 = .ok (.if_icmp .eq 5, 3) := by decide +kernel
theorem dL_law_342 : decode cL_law 342 = .ok (.iconst 0, 1) := by decide +kernel
theorem dL_law_343 : decode cL_law 343 = .ok (.ireturn, 1) := by decide +kernel
theorem dL_law_344 : decode cL_law 344 = .ok (.iload 6, 2) := by decide +kernel
theorem dL_law_346 : decode cL_law 346 = .ok (.ifCond .ne 15, 3) := by decide +kernel
theorem dL_law_349 : decode cL_law 349 = .ok (.aload_n 3, 1) := by decide +kernel
theorem dL_law_350 : decode cL_law 350 = .ok (.iconst 0, 1) := by decide +kernel
theorem dL_law_351 : decode cL_law 351 = .ok (.laload, 1) := by decide +kernel
theorem dL_law_352 : decode cL_law 352 = .ok (.iload 7, 2) := by decide +kernel
theorem dL_law_354 : decode cL_law 354 = .ok (.i2l, 1) := by decide +kernel
theorem dL_law_355 : decode cL_law 355 = .ok (.lcmp, 1) := by decide +kernel
theorem dL_law_356 : decode cL_law 356 = .ok (.ifCond .eq 5, 3) := by decide +kernel
theorem dL_law_359 : decode cL_law 359 = .ok (.iconst 0, 1) := by decide +kernel
theorem dL_law_360 : decode cL_law 360 = .ok (.ireturn, 1) := by decide +kernel
theorem dL_law_361 : decode cL_law 361 = .ok (.goto 1909, 3) := by decide +kernel
theorem dL_law_364 : decode cL_law 364 = .ok (.aload_n 1, 1) := by decide +kernel
theorem dL_law_365 : decode cL_law 365 = .ok (.aload_n 0, 1) := by decide +kernel
theorem dL_law_366 : decode cL_law 366 = .ok (.iload 5, 2) := by decide +kernel
theorem dL_law_368 : decode cL_law 368 = .ok (.iconst 1, 1) := by decide +kernel
theorem dL_law_369 : decode cL_law 369 = .ok (.iadd, 1) := by decide +kernel
theorem dL_law_370 : decode cL_law 370 = .ok (.iaload, 1) := by decide +kernel
theorem dL_law_371 : decode cL_law 371 = .ok (.aload_n 0, 1) := by decide +kernel
theorem dL_law_372 : decode cL_law 372 = .ok (.iload 5, 2) := by decide +kernel
theorem dL_law_374 : decode cL_law 374 = .ok (.iconst 2, 1) := by decide +kernel
theorem dL_law_375 : decode cL_law 375 = .ok (.iadd, 1) := by decide +kernel
theorem dL_law_376 : decode cL_law 376 = .ok (.iaload, 1) := by decide +kernel
theorem dL_law_377 : decode cL_law 377 = .ok (.aload_n 3, 1) := by decide +kernel
theorem dL_law_378 : decode cL_law 378 = .ok (.invokestatic 149, 3) := by decide +kernel
theorem dL_law_381 : decode cL_law 381 = .ok (.istore 6, 2) := by decide +kernel
theorem dL_law_383 : decode cL_law 383 = .ok (.aload_n 2, 1) := by decide +kernel
theorem dL_law_384 : decode cL_law 384 = .ok (.aload_n 0, 1) := by decide +kernel
theorem dL_law_385 : decode cL_law 385 = .ok (.iload 5, 2) := by decide +kernel
theorem dL_law_387 : decode cL_law 387 = .ok (.iconst 1, 1) := by decide +kernel
theorem dL_law_388 : decode cL_law 388 = .ok (.iadd, 1) := by decide +kernel
theorem dL_law_389 : decode cL_law 389 = .ok (.iaload, 1) := by decide +kernel
theorem dL_law_390 : decode cL_law 390 = .ok (.aload_n 0, 1) := by decide +kernel
theorem dL_law_391 : decode cL_law 391 = .ok (.iload 5, 2) := by decide +kernel
theorem dL_law_393 : decode cL_law 393 = .ok (.iconst 2, 1) := by decide +kernel
theorem dL_law_394 : decode cL_law 394 = .ok (.iadd, 1) := by decide +kernel
theorem dL_law_395 : decode cL_law 395 = .ok (.iaload, 1) := by decide +kernel
theorem dL_law_396 : decode cL_law 396 = .ok (.invokevirtual 151, 3) := by decide +kernel
theorem dL_law_399 : decode cL_law 399 = .ok (.istore 7, 2) := by decide +kernel
theorem dL_law_401 : decode cL_law 401 = .ok (.aload_n 2, 1) := by decide +kernel
theorem dL_law_402 : decode cL_law 402 = .ok (.invokevirtual 138, 3) := by decide +kernel
theorem dL_law_405 : decode cL_law 405 = .ok (.iload 6, 2) := by decide +kernel
theorem dL_law_407 : decode cL_law 407 = .ok (.if_icmp .eq 5, 3) := by decide +kernel
theorem dL_law_410 : decode cL_law 410 = .ok (.iconst 0, 1) := by decide +kernel
theorem dL_law_411 : decode cL_law 411 = .ok (.ireturn, 1) := by decide +kernel
theorem dL_law_412 : decode cL_law 412 = .ok (.iload 6, 2) := by decide +kernel
theorem dL_law_414 : decode cL_law 414 = .ok (.ifCond .ne 15, 3) := by decide +kernel
theorem dL_law_417 : decode cL_law 417 = .ok (.aload_n 3, 1) := by decide +kernel
theorem dL_law_418 : decode cL_law 418 = .ok (.iconst 0, 1) := by decide +kernel
theorem dL_law_419 : decode cL_law 419 = .ok (.laload, 1) := by decide +kernel
theorem dL_law_420 : decode cL_law 420 = .ok (.iload 7, 2) := by decide +kernel
theorem dL_law_422 : decode cL_law 422 = .ok (.i2l, 1) := by decide +kernel
theorem dL_law_423 : decode cL_law 423 = .ok (.lcmp, 1) := by decide +kernel
theorem dL_law_424 : decode cL_law 424 = .ok (.ifCond .eq 5, 3) := by decide +kernel
theorem dL_law_427 : decode cL_law 427 = .ok (.iconst 0, 1) := by decide +kernel
theorem dL_law_428 : decode cL_law 428 = .ok (.ireturn, 1) := by decide +kernel
theorem dL_law_429 : decode cL_law 429 = .ok (.goto 1841, 3) := by decide +kernel
theorem dL_law_432 : decode cL_law 432 = .ok (.aload_n 1, 1) := by decide +kernel
theorem dL_law_433 : decode cL_law 433 = .ok (.aload_n 0, 1) := by decide +kernel
theorem dL_law_434 : decode cL_law 434 = .ok (.iload 5, 2) := by decide +kernel
theorem dL_law_436 : decode cL_law 436 = .ok (.iconst 1, 1) := by decide +kernel
theorem dL_law_437 : decode cL_law 437 = .ok (.iadd, 1) := by decide +kernel
theorem dL_law_438 : decode cL_law 438 = .ok (.iaload, 1) := by decide +kernel
theorem dL_law_439 : decode cL_law 439 = .ok (.i2c, 1) := by decide +kernel
theorem dL_law_440 : decode cL_law 440 = .ok (.aload_n 0, 1) := by decide +kernel
theorem dL_law_441 : decode cL_law 441 = .ok (.iload 5, 2) := by decide +kernel
theorem dL_law_443 : decode cL_law 443 = .ok (.iconst 2, 1) := by decide +kernel
theorem dL_law_444 : decode cL_law 444 = .ok (.iadd, 1) := by decide +kernel
theorem dL_law_445 : decode cL_law 445 = .ok (.iaload, 1) := by decide +kernel
theorem dL_law_446 : decode cL_law 446 = .ok (.aload_n 0, 1) := by decide +kernel
theorem dL_law_447 : decode cL_law 447 = .ok (.iload 5, 2) := by decide +kernel
theorem dL_law_449 : decode cL_law 449 = .ok (.iconst 3, 1) := by decide +kernel
theorem dL_law_450 : decode cL_law 450 = .ok (.iadd, 1) := by decide +kernel
theorem dL_law_451 : decode cL_law 451 = .ok (.iaload, 1) := by decide +kernel
theorem dL_law_452 : decode cL_law 452 = .ok (.aload_n 0, 1) := by decide +kernel
theorem dL_law_453 : decode cL_law 453 = .ok (.iload 5, 2) := by decide +kernel
theorem dL_law_455 : decode cL_law 455 = .ok (.iconst 4, 1) := by decide +kernel
theorem dL_law_456 : decode cL_law 456 = .ok (.iadd, 1) := by decide +kernel
theorem dL_law_457 : decode cL_law 457 = .ok (.iaload, 1) := by decide +kernel
theorem dL_law_458 : decode cL_law 458 = .ok (.aload_n 3, 1) := by decide +kernel
theorem dL_law_459 : decode cL_law 459 = .ok (.invokestatic 152, 3) := by decide +kernel
theorem dL_law_462 : decode cL_law 462 = .ok (.istore 6, 2) := by decide +kernel
theorem dL_law_464 : decode cL_law 464 = .ok (.aload_n 2, 1) := by decide +kernel
theorem dL_law_465 : decode cL_law 465 = .ok (.aload_n 0, 1) := by decide +kernel
theorem dL_law_466 : decode cL_law 466 = .ok (.iload 5, 2) := by decide +kernel
theorem dL_law_468 : decode cL_law 468 = .ok (.iconst 1, 1) := by decide +kernel
theorem dL_law_469 : decode cL_law 469 = .ok (.iadd, 1) := by decide +kernel
theorem dL_law_470 : decode cL_law 470 = .ok (.iaload, 1) := by decide +kernel
theorem dL_law_471 : decode cL_law 471 = .ok (.i2c, 1) := by decide +kernel
theorem dL_law_472 : decode cL_law 472 = .ok (.aload_n 0, 1) := by decide +kernel
theorem dL_law_473 : decode cL_law 473 = .ok (.iload 5, 2) := by decide +kernel
theorem dL_law_475 : decode cL_law 475 = .ok (.iconst 2, 1) := by decide +kernel
theorem dL_law_476 : decode cL_law 476 = .ok (.iadd, 1) := by decide +kernel
theorem dL_law_477 : decode cL_law 477 = .ok (.iaload, 1) := by decide +kernel
theorem dL_law_478 : decode cL_law 478 = .ok (.aload_n 0, 1) := by decide +kernel
theorem dL_law_479 : decode cL_law 479 = .ok (.iload 5, 2) := by decide +kernel
theorem dL_law_481 : decode cL_law 481 = .ok (.iconst 3, 1) := by decide +kernel
theorem dL_law_482 : decode cL_law 482 = .ok (.iadd, 1) := by decide +kernel
theorem dL_law_483 : decode cL_law 483 = .ok (.iaload, 1) := by decide +kernel
theorem dL_law_484 : decode cL_law 484 = .ok (.aload_n 0, 1) := by decide +kernel
theorem dL_law_485 : decode cL_law 485 = .ok (.iload 5, 2) := by decide +kernel
theorem dL_law_487 : decode cL_law 487 = .ok (.iconst 4, 1) := by decide +kernel
theorem dL_law_488 : decode cL_law 488 = .ok (.iadd, 1) := by decide +kernel
theorem dL_law_489 : decode cL_law 489 = .ok (.iaload, 1) := by decide +kernel
theorem dL_law_490 : decode cL_law 490 = .ok (.invokevirtual 155, 3) := by decide +kernel
theorem dL_law_493 : decode cL_law 493 = .ok (.istore 7, 2) := by decide +kernel
theorem dL_law_495 : decode cL_law 495 = .ok (.aload_n 2, 1) := by decide +kernel
theorem dL_law_496 : decode cL_law 496 = .ok (.invokevirtual 138, 3) := by decide +kernel
theorem dL_law_499 : decode cL_law 499 = .ok (.iload 6, 2) := by decide +kernel
theorem dL_law_501 : decode cL_law 501 = .ok (.if_icmp .eq 5, 3) := by decide +kernel
theorem dL_law_504 : decode cL_law 504 = .ok (.iconst 0, 1) := by decide +kernel
theorem dL_law_505 : decode cL_law 505 = .ok (.ireturn, 1) := by decide +kernel
theorem dL_law_506 : decode cL_law 506 = .ok (.iload 6, 2) := by decide +kernel
theorem dL_law_508 : decode cL_law 508 = .ok (.ifCond .ne 15, 3) := by decide +kernel
theorem dL_law_511 : decode cL_law 511 = .ok (.aload_n 3, 1) := by decide +kernel
theorem dL_law_512 : decode cL_law 512 = .ok (.iconst 0, 1) := by decide +kernel
theorem dL_law_513 : decode cL_law 513 = .ok (.laload, 1) := by decide +kernel
theorem dL_law_514 : decode cL_law 514 = .ok (.iload 7, 2) := by decide +kernel
theorem dL_law_516 : decode cL_law 516 = .ok (.i2l, 1) := by decide +kernel
theorem dL_law_517 : decode cL_law 517 = .ok (.lcmp, 1) := by decide +kernel
theorem dL_law_518 : decode cL_law 518 = .ok (.ifCond .eq 5, 3) := by decide +kernel
theorem dL_law_521 : decode cL_law 521 = .ok (.iconst 0, 1) := by decide +kernel
theorem dL_law_522 : decode cL_law 522 = .ok (.ireturn, 1) := by decide +kernel
theorem dL_law_523 : decode cL_law 523 = .ok (.goto 1747, 3) := by decide +kernel
theorem dL_law_526 : decode cL_law 526 = .ok (.aload_n 1, 1) := by decide +kernel
theorem dL_law_527 : decode cL_law 527 = .ok (.aload_n 0, 1) := by decide +kernel
theorem dL_law_528 : decode cL_law 528 = .ok (.iload 5, 2) := by decide +kernel
theorem dL_law_530 : decode cL_law 530 = .ok (.iconst 1, 1) := by decide +kernel
theorem dL_law_531 : decode cL_law 531 = .ok (.iadd, 1) := by decide +kernel
theorem dL_law_532 : decode cL_law 532 = .ok (.iaload, 1) := by decide +kernel
theorem dL_law_533 : decode cL_law 533 = .ok (.aload_n 3, 1) := by decide +kernel
theorem dL_law_534 : decode cL_law 534 = .ok (.invokestatic 156, 3) := by decide +kernel
theorem dL_law_537 : decode cL_law 537 = .ok (.istore 6, 2) := by decide +kernel
theorem dL_law_539 : decode cL_law 539 = .ok (.aload_n 2, 1) := by decide +kernel
theorem dL_law_540 : decode cL_law 540 = .ok (.aload_n 0, 1) := by decide +kernel
theorem dL_law_541 : decode cL_law 541 = .ok (.iload 5, 2) := by decide +kernel
theorem dL_law_543 : decode cL_law 543 = .ok (.iconst 1, 1) := by decide +kernel
theorem dL_law_544 : decode cL_law 544 = .ok (.iadd, 1) := by decide +kernel
theorem dL_law_545 : decode cL_law 545 = .ok (.iaload, 1) := by decide +kernel
theorem dL_law_546 : decode cL_law 546 = .ok (.invokevirtual 158, 3) := by decide +kernel
theorem dL_law_549 : decode cL_law 549 = .ok (.istore 7, 2) := by decide +kernel
theorem dL_law_551 : decode cL_law 551 = .ok (.aload_n 2, 1) := by decide +kernel
theorem dL_law_552 : decode cL_law 552 = .ok (.invokevirtual 138, 3) := by decide +kernel
theorem dL_law_555 : decode cL_law 555 = .ok (.iload 6, 2) := by decide +kernel
theorem dL_law_557 : decode cL_law 557 = .ok (.if_icmp .eq 5, 3) := by decide +kernel
theorem dL_law_560 : decode cL_law 560 = .ok (.iconst 0, 1) := by decide +kernel
theorem dL_law_561 : decode cL_law 561 = .ok (.ireturn, 1) := by decide +kernel
theorem dL_law_562 : decode cL_law 562 = .ok (.iload 6, 2) := by decide +kernel
theorem dL_law_564 : decode cL_law 564 = .ok (.ifCond .ne 15, 3) := by decide +kernel
theorem dL_law_567 : decode cL_law 567 = .ok (.aload_n 3, 1) := by decide +kernel
theorem dL_law_568 : decode cL_law 568 = .ok (.iconst 0, 1) := by decide +kernel
theorem dL_law_569 : decode cL_law 569 = .ok (.laload, 1) := by decide +kernel
theorem dL_law_570 : decode cL_law 570 = .ok (.iload 7, 2) := by decide +kernel
theorem dL_law_572 : decode cL_law 572 = .ok (.i2l, 1) := by decide +kernel
theorem dL_law_573 : decode cL_law 573 = .ok (.lcmp, 1) := by decide +kernel
theorem dL_law_574 : decode cL_law 574 = .ok (.ifCond .eq 5, 3) := by decide +kernel
theorem dL_law_577 : decode cL_law 577 = .ok (.iconst 0, 1) := by decide +kernel
theorem dL_law_578 : decode cL_law 578 = .ok (.ireturn, 1) := by decide +kernel
theorem dL_law_579 : decode cL_law 579 = .ok (.goto 1691, 3) := by decide +kernel
theorem dL_law_582 : decode cL_law 582 = .ok (.aload_n 1, 1) := by decide +kernel
theorem dL_law_583 : decode cL_law 583 = .ok (.aload_n 0, 1) := by decide +kernel
theorem dL_law_584 : decode cL_law 584 = .ok (.iload 5, 2) := by decide +kernel
theorem dL_law_586 : decode cL_law 586 = .ok (.iconst 1, 1) := by decide +kernel
theorem dL_law_587 : decode cL_law 587 = .ok (.iadd, 1) := by decide +kernel
theorem dL_law_588 : decode cL_law 588 = .ok (.iaload, 1) := by decide +kernel
theorem dL_law_589 : decode cL_law 589 = .ok (.i2c, 1) := by decide +kernel
theorem dL_law_590 : decode cL_law 590 = .ok (.aload_n 0, 1) := by decide +kernel
theorem dL_law_591 : decode cL_law 591 = .ok (.iload 5, 2) := by decide +kernel
theorem dL_law_593 : decode cL_law 593 = .ok (.iconst 2, 1) := by decide +kernel
theorem dL_law_594 : decode cL_law 594 = .ok (.iadd, 1) := by decide +kernel
theorem dL_law_595 : decode cL_law 595 = .ok (.iaload, 1) := by decide +kernel
theorem dL_law_596 : decode cL_law 596 = .ok (.aload_n 3, 1) := by decide +kernel
theorem dL_law_597 : decode cL_law 597 = .ok (.invokestatic 159, 3) := by decide +kernel
theorem dL_law_600 : decode cL_law 600 = .ok (.istore 6, 2) := by decide +kernel
theorem dL_law_602 : decode cL_law 602 = .ok (.aload_n 2, 1) := by decide +kernel
theorem dL_law_603 : decode cL_law 603 = .ok (.aload_n 0, 1) := by decide +kernel
theorem dL_law_604 : decode cL_law 604 = .ok (.iload 5, 2) := by decide +kernel
theorem dL_law_606 : decode cL_law 606 = .ok (.iconst 1, 1) := by decide +kernel
theorem dL_law_607 : decode cL_law 607 = .ok (.iadd, 1) := by decide +kernel
theorem dL_law_608 : decode cL_law 608 = .ok (.iaload, 1) := by decide +kernel
theorem dL_law_609 : decode cL_law 609 = .ok (.i2c, 1) := by decide +kernel
theorem dL_law_610 : decode cL_law 610 = .ok (.aload_n 0, 1) := by decide +kernel
theorem dL_law_611 : decode cL_law 611 = .ok (.iload 5, 2) := by decide +kernel
theorem dL_law_613 : decode cL_law 613 = .ok (.iconst 2, 1) := by decide +kernel
theorem dL_law_614 : decode cL_law 614 = .ok (.iadd, 1) := by decide +kernel
theorem dL_law_615 : decode cL_law 615 = .ok (.iaload, 1) := by decide +kernel
theorem dL_law_616 : decode cL_law 616 = .ok (.invokevirtual 162, 3) := by decide +kernel
theorem dL_law_619 : decode cL_law 619 = .ok (.istore 7, 2) := by decide +kernel
theorem dL_law_621 : decode cL_law 621 = .ok (.aload_n 2, 1) := by decide +kernel
theorem dL_law_622 : decode cL_law 622 = .ok (.invokevirtual 138, 3) := by decide +kernel
theorem dL_law_625 : decode cL_law 625 = .ok (.iload 6, 2) := by decide +kernel
theorem dL_law_627 : decode cL_law 627 = .ok (.if_icmp .eq 5, 3) := by decide +kernel
theorem dL_law_630 : decode cL_law 630 = .ok (.iconst 0, 1) := by decide +kernel
theorem dL_law_631 : decode cL_law 631 = .ok (.ireturn, 1) := by decide +kernel
theorem dL_law_632 : decode cL_law 632 = .ok (.iload 6, 2) := by decide +kernel
theorem dL_law_634 : decode cL_law 634 = .ok (.ifCond .ne 15, 3) := by decide +kernel
theorem dL_law_637 : decode cL_law 637 = .ok (.aload_n 3, 1) := by decide +kernel
theorem dL_law_638 : decode cL_law 638 = .ok (.iconst 0, 1) := by decide +kernel
theorem dL_law_639 : decode cL_law 639 = .ok (.laload, 1) := by decide +kernel
theorem dL_law_640 : decode cL_law 640 = .ok (.iload 7, 2) := by decide +kernel
theorem dL_law_642 : decode cL_law 642 = .ok (.i2l, 1) := by decide +kernel
theorem dL_law_643 : decode cL_law 643 = .ok (.lcmp, 1) := by decide +kernel
theorem dL_law_644 : decode cL_law 644 = .ok (.ifCond .eq 5, 3) := by decide +kernel
theorem dL_law_647 : decode cL_law 647 = .ok (.iconst 0, 1) := by decide +kernel
theorem dL_law_648 : decode cL_law 648 = .ok (.ireturn, 1) := by decide +kernel
theorem dL_law_649 : decode cL_law 649 = .ok (.goto 1621, 3) := by decide +kernel
theorem dL_law_652 : decode cL_law 652 = .ok (.aload_n 1, 1) := by decide +kernel
theorem dL_law_653 : decode cL_law 653 = .ok (.aload_n 0, 1) := by decide +kernel
theorem dL_law_654 : decode cL_law 654 = .ok (.iload 5, 2) := by decide +kernel
theorem dL_law_656 : decode cL_law 656 = .ok (.iconst 1, 1) := by decide +kernel
theorem dL_law_657 : decode cL_law 657 = .ok (.iadd, 1) := by decide +kernel
theorem dL_law_658 : decode cL_law 658 = .ok (.iaload, 1) := by decide +kernel
theorem dL_law_659 : decode cL_law 659 = .ok (.aload_n 0, 1) := by decide +kernel
theorem dL_law_660 : decode cL_law 660 = .ok (.iload 5, 2) := by decide +kernel
theorem dL_law_662 : decode cL_law 662 = .ok (.iconst 2, 1) := by decide +kernel
theorem dL_law_663 : decode cL_law 663 = .ok (.iadd, 1) := by decide +kernel
theorem dL_law_664 : decode cL_law 664 = .ok (.iaload, 1) := by decide +kernel
theorem dL_law_665 : decode cL_law 665 = .ok (.aload_n 3, 1) := by decide +kernel
theorem dL_law_666 : decode cL_law 666 = .ok (.invokestatic 163, 3) := by decide +kernel
theorem dL_law_669 : decode cL_law 669 = .ok (.istore 6, 2) := by decide +kernel
theorem dL_law_671 : decode cL_law 671 = .ok (.aload_n 2, 1) := by decide +kernel
theorem dL_law_672 : decode cL_law 672 = .ok (.aload_n 0, 1) := by decide +kernel
theorem dL_law_673 : decode cL_law 673 = .ok (.iload 5, 2) := by decide +kernel
theorem dL_law_675 : decode cL_law 675 = .ok (.iconst 1, 1) := by decide +kernel
theorem dL_law_676 : decode cL_law 676 = .ok (.iadd, 1) := by decide +kernel
theorem dL_law_677 : decode cL_law 677 = .ok (.iaload, 1) := by decide +kernel
theorem dL_law_678 : decode cL_law 678 = .ok (.aload_n 0, 1) := by decide +kernel
theorem dL_law_679 : decode cL_law 679 = .ok (.iload 5, 2) := by decide +kernel
theorem dL_law_681 : decode cL_law 681 = .ok (.iconst 2, 1) := by decide +kernel
theorem dL_law_682 : decode cL_law 682 = .ok (.iadd, 1) := by decide +kernel
theorem dL_law_683 : decode cL_law 683 = .ok (.iaload, 1) := by decide +kernel
theorem dL_law_684 : decode cL_law 684 = .ok (.invokevirtual 165, 3) := by decide +kernel
theorem dL_law_687 : decode cL_law 687 = .ok (.istore 7, 2) := by decide +kernel
theorem dL_law_689 : decode cL_law 689 = .ok (.aload_n 2, 1) := by decide +kernel
theorem dL_law_690 : decode cL_law 690 = .ok (.invokevirtual 138, 3) := by decide +kernel
theorem dL_law_693 : decode cL_law 693 = .ok (.iload 6, 2) := by decide +kernel
theorem dL_law_695 : decode cL_law 695 = .ok (.if_icmp .eq 5, 3) := by decide +kernel
theorem dL_law_698 : decode cL_law 698 = .ok (.iconst 0, 1) := by decide +kernel
theorem dL_law_699 : decode cL_law 699 = .ok (.ireturn, 1) := by decide +kernel
theorem dL_law_700 : decode cL_law 700 = .ok (.iload 6, 2) := by decide +kernel
theorem dL_law_702 : decode cL_law 702 = .ok (.ifCond .ne 15, 3) := by decide +kernel
theorem dL_law_705 : decode cL_law 705 = .ok (.aload_n 3, 1) := by decide +kernel
theorem dL_law_706 : decode cL_law 706 = .ok (.iconst 0, 1) := by decide +kernel
theorem dL_law_707 : decode cL_law 707 = .ok (.laload, 1) := by decide +kernel
theorem dL_law_708 : decode cL_law 708 = .ok (.iload 7, 2) := by decide +kernel
theorem dL_law_710 : decode cL_law 710 = .ok (.i2l, 1) := by decide +kernel
theorem dL_law_711 : decode cL_law 711 = .ok (.lcmp, 1) := by decide +kernel
theorem dL_law_712 : decode cL_law 712 = .ok (.ifCond .eq 5, 3) := by decide +kernel
theorem dL_law_715 : decode cL_law 715 = .ok (.iconst 0, 1) := by decide +kernel
theorem dL_law_716 : decode cL_law 716 = .ok (.ireturn, 1) := by decide +kernel
theorem dL_law_717 : decode cL_law 717 = .ok (.goto 1553, 3) := by decide +kernel
theorem dL_law_720 : decode cL_law 720 = .ok (.aload_n 1, 1) := by decide +kernel
theorem dL_law_721 : decode cL_law 721 = .ok (.aload_n 0, 1) := by decide +kernel
theorem dL_law_722 : decode cL_law 722 = .ok (.iload 5, 2) := by decide +kernel
theorem dL_law_724 : decode cL_law 724 = .ok (.iconst 1, 1) := by decide +kernel
theorem dL_law_725 : decode cL_law 725 = .ok (.iadd, 1) := by decide +kernel
theorem dL_law_726 : decode cL_law 726 = .ok (.iaload, 1) := by decide +kernel
theorem dL_law_727 : decode cL_law 727 = .ok (.aload_n 0, 1) := by decide +kernel
theorem dL_law_728 : decode cL_law 728 = .ok (.iload 5, 2) := by decide +kernel
theorem dL_law_730 : decode cL_law 730 = .ok (.iconst 2, 1) := by decide +kernel
theorem dL_law_731 : decode cL_law 731 = .ok (.iadd, 1) := by decide +kernel
theorem dL_law_732 : decode cL_law 732 = .ok (.iaload, 1) := by decide +kernel
theorem dL_law_733 : decode cL_law 733 = .ok (.aload_n 3, 1) := by decide +kernel
theorem dL_law_734 : decode cL_law 734 = .ok (.invokestatic 166, 3) := by decide +kernel
theorem dL_law_737 : decode cL_law 737 = .ok (.istore 6, 2) := by decide +kernel
theorem dL_law_739 : decode cL_law 739 = .ok (.aload_n 2, 1) := by decide +kernel
theorem dL_law_740 : decode cL_law 740 = .ok (.aload_n 0, 1) := by decide +kernel
theorem dL_law_741 : decode cL_law 741 = .ok (.iload 5, 2) := by decide +kernel
theorem dL_law_743 : decode cL_law 743 = .ok (.iconst 1, 1) := by decide +kernel
theorem dL_law_744 : decode cL_law 744 = .ok (.iadd, 1) := by decide +kernel
theorem dL_law_745 : decode cL_law 745 = .ok (.iaload, 1) := by decide +kernel
theorem dL_law_746 : decode cL_law 746 = .ok (.aload_n 0, 1) := by decide +kernel
theorem dL_law_747 : decode cL_law 747 = .ok (.iload 5, 2) := by decide +kernel
theorem dL_law_749 : decode cL_law 749 = .ok (.iconst 2, 1) := by decide +kernel
theorem dL_law_750 : decode cL_law 750 = .ok (.iadd, 1) := by decide +kernel
theorem dL_law_751 : decode cL_law 751 = .ok (.iaload, 1) := by decide +kernel
theorem dL_law_752 : decode cL_law 752 = .ok (.invokevirtual 168, 3) := by decide +kernel
theorem dL_law_755 : decode cL_law 755 = .ok (.istore 7, 2) := by decide +kernel
theorem dL_law_757 : decode cL_law 757 = .ok (.aload_n 2, 1) := by decide +kernel
theorem dL_law_758 : decode cL_law 758 = .ok (.invokevirtual 138, 3) := by decide +kernel
theorem dL_law_761 : decode cL_law 761 = .ok (.iload 6, 2) := by decide +kernel
theorem dL_law_763 : decode cL_law 763 = .ok (.if_icmp .eq 5, 3) := by decide +kernel
theorem dL_law_766 : decode cL_law 766 = .ok (.iconst 0, 1) := by decide +kernel
theorem dL_law_767 : decode cL_law 767 = .ok (.ireturn, 1) := by decide +kernel
theorem dL_law_768 : decode cL_law 768 = .ok (.iload 6, 2) := by decide +kernel
theorem dL_law_770 : decode cL_law 770 = .ok (.ifCond .ne 15, 3) := by decide +kernel
theorem dL_law_773 : decode cL_law 773 = .ok (.aload_n 3, 1) := by decide +kernel
theorem dL_law_774 : decode cL_law 774 = .ok (.iconst 0, 1) := by decide +kernel
theorem dL_law_775 : decode cL_law 775 = .ok (.laload, 1) := by decide +kernel
theorem dL_law_776 : decode cL_law 776 = .ok (.iload 7, 2) := by decide +kernel
theorem dL_law_778 : decode cL_law 778 = .ok (.i2l, 1) := by decide +kernel
theorem dL_law_779 : decode cL_law 779 = .ok (.lcmp, 1) := by decide +kernel
theorem dL_law_780 : decode cL_law 780 = .ok (.ifCond .eq 5, 3) := by decide +kernel
theorem dL_law_783 : decode cL_law 783 = .ok (.iconst 0, 1) := by decide +kernel
theorem dL_law_784 : decode cL_law 784 = .ok (.ireturn, 1) := by decide +kernel
theorem dL_law_785 : decode cL_law 785 = .ok (.goto 1485, 3) := by decide +kernel
theorem dL_law_788 : decode cL_law 788 = .ok (.aload_n 1, 1) := by decide +kernel
theorem dL_law_789 : decode cL_law 789 = .ok (.aload_n 0, 1) := by decide +kernel
theorem dL_law_790 : decode cL_law 790 = .ok (.iload 5, 2) := by decide +kernel
theorem dL_law_792 : decode cL_law 792 = .ok (.iconst 1, 1) := by decide +kernel
theorem dL_law_793 : decode cL_law 793 = .ok (.iadd, 1) := by decide +kernel
theorem dL_law_794 : decode cL_law 794 = .ok (.iaload, 1) := by decide +kernel
theorem dL_law_795 : decode cL_law 795 = .ok (.aload_n 0, 1) := by decide +kernel
theorem dL_law_796 : decode cL_law 796 = .ok (.iload 5, 2) := by decide +kernel
theorem dL_law_798 : decode cL_law 798 = .ok (.iconst 2, 1) := by decide +kernel
theorem dL_law_799 : decode cL_law 799 = .ok (.iadd, 1) := by decide +kernel
theorem dL_law_800 : decode cL_law 800 = .ok (.iaload, 1) := by decide +kernel
theorem dL_law_801 : decode cL_law 801 = .ok (.aload_n 0, 1) := by decide +kernel
theorem dL_law_802 : decode cL_law 802 = .ok (.iload 5, 2) := by decide +kernel
theorem dL_law_804 : decode cL_law 804 = .ok (.iconst 3, 1) := by decide +kernel
theorem dL_law_805 : decode cL_law 805 = .ok (.iadd, 1) := by decide +kernel
theorem dL_law_806 : decode cL_law 806 = .ok (.iaload, 1) := by decide +kernel
theorem dL_law_807 : decode cL_law 807 = .ok (.ifCond .eq 7, 3) := by decide +kernel
theorem dL_law_810 : decode cL_law 810 = .ok (.iconst 1, 1) := by decide +kernel
theorem dL_law_811 : decode cL_law 811 = .ok (.goto 4, 3) := by decide +kernel
theorem dL_law_814 : decode cL_law 814 = .ok (.iconst 0, 1) := by decide +kernel
theorem dL_law_815 : decode cL_law 815 = .ok (.aload_n 3, 1) := by decide +kernel
theorem dL_law_816 : decode cL_law 816 = .ok (.invokestatic 169, 3) := by decide +kernel
theorem dL_law_819 : decode cL_law 819 = .ok (.istore 6, 2) := by decide +kernel
theorem dL_law_821 : decode cL_law 821 = .ok (.aload_n 2, 1) := by decide +kernel
theorem dL_law_822 : decode cL_law 822 = .ok (.aload_n 0, 1) := by decide +kernel
theorem dL_law_823 : decode cL_law 823 = .ok (.iload 5, 2) := by decide +kernel
theorem dL_law_825 : decode cL_law 825 = .ok (.iconst 1, 1) := by decide +kernel
theorem dL_law_826 : decode cL_law 826 = .ok (.iadd, 1) := by decide +kernel
theorem dL_law_827 : decode cL_law 827 = .ok (.iaload, 1) := by decide +kernel
theorem dL_law_828 : decode cL_law 828 = .ok (.aload_n 0, 1) := by decide +kernel
theorem dL_law_829 : decode cL_law 829 = .ok (.iload 5, 2) := by decide +kernel
theorem dL_law_831 : decode cL_law 831 = .ok (.iconst 2, 1) := by decide +kernel
theorem dL_law_832 : decode cL_law 832 = .ok (.iadd, 1) := by decide +kernel
theorem dL_law_833 : decode cL_law 833 = .ok (.iaload, 1) := by decide +kernel
theorem dL_law_834 : decode cL_law 834 = .ok (.aload_n 0, 1) := by decide +kernel
theorem dL_law_835 : decode cL_law 835 = .ok (.iload 5, 2) := by decide +kernel
theorem dL_law_837 : decode cL_law 837 = .ok (.iconst 3, 1) := by decide +kernel
theorem dL_law_838 : decode cL_law 838 = .ok (.iadd, 1) := by decide +kernel
theorem dL_law_839 : decode cL_law 839 = .ok (.iaload, 1) := by decide +kernel
theorem dL_law_840 : decode cL_law 840 = .ok (.ifCond .eq 7, 3) := by decide +kernel
theorem dL_law_843 : decode cL_law 843 = .ok (.iconst 1, 1) := by decide +kernel
theorem dL_law_844 : decode cL_law 844 = .ok (.goto 4, 3) := by decide +kernel
theorem dL_law_847 : decode cL_law 847 = .ok (.iconst 0, 1) := by decide +kernel
theorem dL_law_848 : decode cL_law 848 = .ok (.invokevirtual 172, 3) := by decide +kernel
theorem dL_law_851 : decode cL_law 851 = .ok (.istore 7, 2) := by decide +kernel
theorem dL_law_853 : decode cL_law 853 = .ok (.aload_n 2, 1) := by decide +kernel
theorem dL_law_854 : decode cL_law 854 = .ok (.invokevirtual 138, 3) := by decide +kernel
theorem dL_law_857 : decode cL_law 857 = .ok (.iload 6, 2) := by decide +kernel
theorem dL_law_859 : decode cL_law 859 = .ok (.if_icmp .eq 5, 3) := by decide +kernel
theorem dL_law_862 : decode cL_law 862 = .ok (.iconst 0, 1) := by decide +kernel
theorem dL_law_863 : decode cL_law 863 = .ok (.ireturn, 1) := by decide +kernel
theorem dL_law_864 : decode cL_law 864 = .ok (.iload 6, 2) := by decide +kernel
theorem dL_law_866 : decode cL_law 866 = .ok (.ifCond .ne 15, 3) := by decide +kernel
theorem dL_law_869 : decode cL_law 869 = .ok (.aload_n 3, 1) := by decide +kernel
theorem dL_law_870 : decode cL_law 870 = .ok (.iconst 0, 1) := by decide +kernel
theorem dL_law_871 : decode cL_law 871 = .ok (.laload, 1) := by decide +kernel
theorem dL_law_872 : decode cL_law 872 = .ok (.iload 7, 2) := by decide +kernel
theorem dL_law_874 : decode cL_law 874 = .ok (.i2l, 1) := by decide +kernel
theorem dL_law_875 : decode cL_law 875 = .ok (.lcmp, 1) := by decide +kernel
theorem dL_law_876 : decode cL_law 876 = .ok (.ifCond .eq 5, 3) := by decide +kernel
theorem dL_law_879 : decode cL_law 879 = .ok (.iconst 0, 1) := by decide +kernel
theorem dL_law_880 : decode cL_law 880 = .ok (.ireturn, 1) := by decide +kernel
theorem dL_law_881 : decode cL_law 881 = .ok (.goto 1389, 3) := by decide +kernel
theorem dL_law_884 : decode cL_law 884 = .ok (.aload_n 1, 1) := by decide +kernel
theorem dL_law_885 : decode cL_law 885 = .ok (.aload_n 0, 1) := by decide +kernel
theorem dL_law_886 : decode cL_law 886 = .ok (.iload 5, 2) := by decide +kernel
theorem dL_law_888 : decode cL_law 888 = .ok (.iconst 1, 1) := by decide +kernel
theorem dL_law_889 : decode cL_law 889 = .ok (.iadd, 1) := by decide +kernel
theorem dL_law_890 : decode cL_law 890 = .ok (.iaload, 1) := by decide +kernel
theorem dL_law_891 : decode cL_law 891 = .ok (.aload_n 0, 1) := by decide +kernel
theorem dL_law_892 : decode cL_law 892 = .ok (.iload 5, 2) := by decide +kernel
theorem dL_law_894 : decode cL_law 894 = .ok (.iconst 2, 1) := by decide +kernel
theorem dL_law_895 : decode cL_law 895 = .ok (.iadd, 1) := by decide +kernel
theorem dL_law_896 : decode cL_law 896 = .ok (.iaload, 1) := by decide +kernel
theorem dL_law_897 : decode cL_law 897 = .ok (.aload_n 3, 1) := by decide +kernel
theorem dL_law_898 : decode cL_law 898 = .ok (.invokestatic 173, 3) := by decide +kernel
theorem dL_law_901 : decode cL_law 901 = .ok (.istore 6, 2) := by decide +kernel
theorem dL_law_903 : decode cL_law 903 = .ok (.aload_n 2, 1) := by decide +kernel
theorem dL_law_904 : decode cL_law 904 = .ok (.aload_n 0, 1) := by decide +kernel
theorem dL_law_905 : decode cL_law 905 = .ok (.iload 5, 2) := by decide +kernel
theorem dL_law_907 : decode cL_law 907 = .ok (.iconst 1, 1) := by decide +kernel
theorem dL_law_908 : decode cL_law 908 = .ok (.iadd, 1) := by decide +kernel
theorem dL_law_909 : decode cL_law 909 = .ok (.iaload, 1) := by decide +kernel
theorem dL_law_910 : decode cL_law 910 = .ok (.aload_n 0, 1) := by decide +kernel
theorem dL_law_911 : decode cL_law 911 = .ok (.iload 5, 2) := by decide +kernel
theorem dL_law_913 : decode cL_law 913 = .ok (.iconst 2, 1) := by decide +kernel
theorem dL_law_914 : decode cL_law 914 = .ok (.iadd, 1) := by decide +kernel
theorem dL_law_915 : decode cL_law 915 = .ok (.iaload, 1) := by decide +kernel
theorem dL_law_916 : decode cL_law 916 = .ok (.invokevirtual 175, 3) := by decide +kernel
theorem dL_law_919 : decode cL_law 919 = .ok (.istore 7, 2) := by decide +kernel
theorem dL_law_921 : decode cL_law 921 = .ok (.aload_n 2, 1) := by decide +kernel
theorem dL_law_922 : decode cL_law 922 = .ok (.invokevirtual 138, 3) := by decide +kernel
theorem dL_law_925 : decode cL_law 925 = .ok (.iload 6, 2) := by decide +kernel
theorem dL_law_927 : decode cL_law 927 = .ok (.if_icmp .eq 5, 3) := by decide +kernel
theorem dL_law_930 : decode cL_law 930 = .ok (.iconst 0, 1) := by decide +kernel
theorem dL_law_931 : decode cL_law 931 = .ok (.ireturn, 1) := by decide +kernel
theorem dL_law_932 : decode cL_law 932 = .ok (.iload 6, 2) := by decide +kernel
theorem dL_law_934 : decode cL_law 934 = .ok (.ifCond .ne 15, 3) := by decide +kernel
theorem dL_law_937 : decode cL_law 937 = .ok (.aload_n 3, 1) := by decide +kernel
theorem dL_law_938 : decode cL_law 938 = .ok (.iconst 0, 1) := by decide +kernel
theorem dL_law_939 : decode cL_law 939 = .ok (.laload, 1) := by decide +kernel
theorem dL_law_940 : decode cL_law 940 = .ok (.iload 7, 2) := by decide +kernel
theorem dL_law_942 : decode cL_law 942 = .ok (.i2l, 1) := by decide +kernel
theorem dL_law_943 : decode cL_law 943 = .ok (.lcmp, 1) := by decide +kernel
theorem dL_law_944 : decode cL_law 944 = .ok (.ifCond .eq 5, 3) := by decide +kernel
theorem dL_law_947 : decode cL_law 947 = .ok (.iconst 0, 1) := by decide +kernel
theorem dL_law_948 : decode cL_law 948 = .ok (.ireturn, 1) := by decide +kernel
theorem dL_law_949 : decode cL_law 949 = .ok (.goto 1321, 3) := by decide +kernel
theorem dL_law_952 : decode cL_law 952 = .ok (.aload_n 1, 1) := by decide +kernel
theorem dL_law_953 : decode cL_law 953 = .ok (.aload_n 0, 1) := by decide +kernel
theorem dL_law_954 : decode cL_law 954 = .ok (.iload 5, 2) := by decide +kernel
theorem dL_law_956 : decode cL_law 956 = .ok (.iconst 1, 1) := by decide +kernel
theorem dL_law_957 : decode cL_law 957 = .ok (.iadd, 1) := by decide +kernel
theorem dL_law_958 : decode cL_law 958 = .ok (.iaload, 1) := by decide +kernel
theorem dL_law_959 : decode cL_law 959 = .ok (.aload_n 0, 1) := by decide +kernel
theorem dL_law_960 : decode cL_law 960 = .ok (.iload 5, 2) := by decide +kernel
theorem dL_law_962 : decode cL_law 962 = .ok (.iconst 2, 1) := by decide +kernel
theorem dL_law_963 : decode cL_law 963 = .ok (.iadd, 1) := by decide +kernel
theorem dL_law_964 : decode cL_law 964 = .ok (.iaload, 1) := by decide +kernel
theorem dL_law_965 : decode cL_law 965 = .ok (.aload_n 3, 1) := by decide +kernel
theorem dL_law_966 : decode cL_law 966 = .ok (.invokestatic 176, 3) := by decide +kernel
theorem dL_law_969 : decode cL_law 969 = .ok (.istore 6, 2) := by decide +kernel
theorem dL_law_971 : decode cL_law 971 = .ok (.aload_n 2, 1) := by decide +kernel
theorem dL_law_972 : decode cL_law 972 = .ok (.aload_n 0, 1) := by decide +kernel
theorem dL_law_973 : decode cL_law 973 = .ok (.iload 5, 2) := by decide +kernel
theorem dL_law_975 : decode cL_law 975 = .ok (.iconst 1, 1) := by decide +kernel
theorem dL_law_976 : decode cL_law 976 = .ok (.iadd, 1) := by decide +kernel
theorem dL_law_977 : decode cL_law 977 = .ok (.iaload, 1) := by decide +kernel
theorem dL_law_978 : decode cL_law 978 = .ok (.aload_n 0, 1) := by decide +kernel
theorem dL_law_979 : decode cL_law 979 = .ok (.iload 5, 2) := by decide +kernel
theorem dL_law_981 : decode cL_law 981 = .ok (.iconst 2, 1) := by decide +kernel
theorem dL_law_982 : decode cL_law 982 = .ok (.iadd, 1) := by decide +kernel
theorem dL_law_983 : decode cL_law 983 = .ok (.iaload, 1) := by decide +kernel
theorem dL_law_984 : decode cL_law 984 = .ok (.invokevirtual 178, 3) := by decide +kernel
theorem dL_law_987 : decode cL_law 987 = .ok (.istore 7, 2) := by decide +kernel
theorem dL_law_989 : decode cL_law 989 = .ok (.aload_n 2, 1) := by decide +kernel
theorem dL_law_990 : decode cL_law 990 = .ok (.invokevirtual 138, 3) := by decide +kernel
theorem dL_law_993 : decode cL_law 993 = .ok (.iload 6, 2) := by decide +kernel
theorem dL_law_995 : decode cL_law 995 = .ok (.if_icmp .eq 5, 3) := by decide +kernel
theorem dL_law_998 : decode cL_law 998 = .ok (.iconst 0, 1) := by decide +kernel
theorem dL_law_999 : decode cL_law 999 = .ok (.ireturn, 1) := by decide +kernel
theorem dL_law_1000 : decode cL_law 1000 = .ok (.iload 6, 2) := by decide +kernel
theorem dL_law_1002 : decode cL_law 1002 = .ok (.ifCond .ne 15, 3) := by decide +kernel
theorem dL_law_1005 : decode cL_law 1005 = .ok (.aload_n 3, 1) := by decide +kernel
theorem dL_law_1006 : decode cL_law 1006 = .ok (.iconst 0, 1) := by decide +kernel
theorem dL_law_1007 : decode cL_law 1007 = .ok (.laload, 1) := by decide +kernel
theorem dL_law_1008 : decode cL_law 1008 = .ok (.iload 7, 2) := by decide +kernel
theorem dL_law_1010 : decode cL_law 1010 = .ok (.i2l, 1) := by decide +kernel
theorem dL_law_1011 : decode cL_law 1011 = .ok (.lcmp, 1) := by decide +kernel
theorem dL_law_1012 : decode cL_law 1012 = .ok (.ifCond .eq 5, 3) := by decide +kernel
theorem dL_law_1015 : decode cL_law 1015 = .ok (.iconst 0, 1) := by decide +kernel
theorem dL_law_1016 : decode cL_law 1016 = .ok (.ireturn, 1) := by decide +kernel
theorem dL_law_1017 : decode cL_law 1017 = .ok (.goto 1253, 3) := by decide +kernel
theorem dL_law_1020 : decode cL_law 1020 = .ok (.aload_n 1, 1) := by decide +kernel
theorem dL_law_1021 : decode cL_law 1021 = .ok (.invokevirtual 179, 3) := by decide +kernel
theorem dL_law_1024 : decode cL_law 1024 = .ok (.aload_n 2, 1) := by decide +kernel
theorem dL_law_1025 : decode cL_law 1025 = .ok (.invokevirtual 182, 3) := by decide +kernel
theorem dL_law_1028 : decode cL_law 1028 = .ok (.if_icmp .eq 1242, 3) := by decide +kernel
theorem dL_law_1031 : decode cL_law 1031 = .ok (.iconst 0, 1) := by decide +kernel
theorem dL_law_1032 : decode cL_law 1032 = .ok (.ireturn, 1) := by decide +kernel
theorem dL_law_1033 : decode cL_law 1033 = .ok (.aload_n 1, 1) := by decide +kernel
theorem dL_law_1034 : decode cL_law 1034 = .ok (.aload_n 0, 1) := by decide +kernel
theorem dL_law_1035 : decode cL_law 1035 = .ok (.iload 5, 2) := by decide +kernel
theorem dL_law_1037 : decode cL_law 1037 = .ok (.iconst 1, 1) := by decide +kernel
theorem dL_law_1038 : decode cL_law 1038 = .ok (.iadd, 1) := by decide +kernel
theorem dL_law_1039 : decode cL_law 1039 = .ok (.iaload, 1) := by decide +kernel
theorem dL_law_1040 : decode cL_law 1040 = .ok (.aload_n 3, 1) := by decide +kernel
theorem dL_law_1041 : decode cL_law 1041 = .ok (.invokestatic 183, 3) := by decide +kernel
theorem dL_law_1044 : decode cL_law 1044 = .ok (.istore 6, 2) := by decide +kernel
theorem dL_law_1046 : decode cL_law 1046 = .ok (.aload_n 2, 1) := by decide +kernel
theorem dL_law_1047 : decode cL_law 1047 = .ok (.aload_n 0, 1) := by decide +kernel
theorem dL_law_1048 : decode cL_law 1048 = .ok (.iload 5, 2) := by decide +kernel
theorem dL_law_1050 : decode cL_law 1050 = .ok (.iconst 1, 1) := by decide +kernel
theorem dL_law_1051 : decode cL_law 1051 = .ok (.iadd, 1) := by decide +kernel
theorem dL_law_1052 : decode cL_law 1052 = .ok (.iaload, 1) := by decide +kernel
theorem dL_law_1053 : decode cL_law 1053 = .ok (.invokevirtual 185, 3) := by decide +kernel
theorem dL_law_1056 : decode cL_law 1056 = .ok (.istore 7, 2) := by decide +kernel
theorem dL_law_1058 : decode cL_law 1058 = .ok (.aload_n 2, 1) := by decide +kernel
theorem dL_law_1059 : decode cL_law 1059 = .ok (.invokevirtual 138, 3) := by decide +kernel
theorem dL_law_1062 : decode cL_law 1062 = .ok (.iload 6, 2) := by decide +kernel
theorem dL_law_1064 : decode cL_law 1064 = .ok (.if_icmp .eq 5, 3) := by decide +kernel
theorem dL_law_1067 : decode cL_law 1067 = .ok (.iconst 0, 1) := by decide +kernel
theorem dL_law_1068 : decode cL_law 1068 = .ok (.ireturn, 1) := by decide +kernel
theorem dL_law_1069 : decode cL_law 1069 = .ok (.iload 6, 2) := by decide +kernel
theorem dL_law_1071 : decode cL_law 1071 = .ok (.ifCond .ne 22, 3) := by decide +kernel
theorem dL_law_1074 : decode cL_law 1074 = .ok (.aload_n 3, 1) := by decide +kernel
theorem dL_law_1075 : decode cL_law 1075 = .ok (.iconst 0, 1) := by decide +kernel
theorem dL_law_1076 : decode cL_law 1076 = .ok (.laload, 1) := by decide +kernel
theorem dL_law_1077 : decode cL_law 1077 = .ok (.iload 7, 2) := by decide +kernel
theorem dL_law_1079 : decode cL_law 1079 = .ok (.ifCond .eq 7, 3) := by decide +kernel
theorem dL_law_1082 : decode cL_law 1082 = .ok (.lconst 1, 1) := by decide +kernel
theorem dL_law_1083 : decode cL_law 1083 = .ok (.goto 4, 3) := by decide +kernel
theorem dL_law_1086 : decode cL_law 1086 = .ok (.lconst 0, 1) := by decide +kernel
theorem dL_law_1087 : decode cL_law 1087 = .ok (.lcmp, 1) := by decide +kernel
theorem dL_law_1088 : decode cL_law 1088 = .ok (.ifCond .eq 5, 3) := by decide +kernel
theorem dL_law_1091 : decode cL_law 1091 = .ok (.iconst 0, 1) := by decide +kernel
theorem dL_law_1092 : decode cL_law 1092 = .ok (.ireturn, 1) := by decide +kernel
theorem dL_law_1093 : decode cL_law 1093 = .ok (.goto 1177, 3) := by decide +kernel
theorem dL_law_1096 : decode cL_law 1096 = .ok (.aload_n 1, 1) := by decide +kernel
theorem dL_law_1097 : decode cL_law 1097 = .ok (.aload_n 0, 1) := by decide +kernel
theorem dL_law_1098 : decode cL_law 1098 = .ok (.iload 5, 2) := by decide +kernel
theorem dL_law_1100 : decode cL_law 1100 = .ok (.iconst 1, 1) := by decide +kernel
theorem dL_law_1101 : decode cL_law 1101 = .ok (.iadd, 1) := by decide +kernel
theorem dL_law_1102 : decode cL_law 1102 = .ok (.iaload, 1) := by decide +kernel
theorem dL_law_1103 : decode cL_law 1103 = .ok (.aload_n 3, 1) := by decide +kernel
theorem dL_law_1104 : decode cL_law 1104 = .ok (.invokestatic 186, 3) := by decide +kernel
theorem dL_law_1107 : decode cL_law 1107 = .ok (.istore 6, 2) := by decide +kernel
theorem dL_law_1109 : decode cL_law 1109 = .ok (.aload_n 2, 1) := by decide +kernel
theorem dL_law_1110 : decode cL_law 1110 = .ok (.aload_n 0, 1) := by decide +kernel
theorem dL_law_1111 : decode cL_law 1111 = .ok (.iload 5, 2) := by decide +kernel
theorem dL_law_1113 : decode cL_law 1113 = .ok (.iconst 1, 1) := by decide +kernel
theorem dL_law_1114 : decode cL_law 1114 = .ok (.iadd, 1) := by decide +kernel
theorem dL_law_1115 : decode cL_law 1115 = .ok (.iaload, 1) := by decide +kernel
theorem dL_law_1116 : decode cL_law 1116 = .ok (.invokevirtual 188, 3) := by decide +kernel
theorem dL_law_1119 : decode cL_law 1119 = .ok (.istore 7, 2) := by decide +kernel
theorem dL_law_1121 : decode cL_law 1121 = .ok (.aload_n 2, 1) := by decide +kernel
theorem dL_law_1122 : decode cL_law 1122 = .ok (.invokevirtual 138, 3) := by decide +kernel
theorem dL_law_1125 : decode cL_law 1125 = .ok (.iload 6, 2) := by decide +kernel
theorem dL_law_1127 : decode cL_law 1127 = .ok (.if_icmp .eq 5, 3) := by decide +kernel
theorem dL_law_1130 : decode cL_law 1130 = .ok (.iconst 0, 1) := by decide +kernel
theorem dL_law_1131 : decode cL_law 1131 = .ok (.ireturn, 1) := by decide +kernel
theorem dL_law_1132 : decode cL_law 1132 = .ok (.iload 6, 2) := by decide +kernel
theorem dL_law_1134 : decode cL_law 1134 = .ok (.ifCond .ne 15, 3) := by decide +kernel
theorem dL_law_1137 : decode cL_law 1137 = .ok (.aload_n 3, 1) := by decide +kernel
theorem dL_law_1138 : decode cL_law 1138 = .ok (.iconst 0, 1) := by decide +kernel
theorem dL_law_1139 : decode cL_law 1139 = .ok (.laload, 1) := by decide +kernel
theorem dL_law_1140 : decode cL_law 1140 = .ok (.iload 7, 2) := by decide +kernel
theorem dL_law_1142 : decode cL_law 1142 = .ok (.i2l, 1) := by decide +kernel
theorem dL_law_1143 : decode cL_law 1143 = .ok (.lcmp, 1) := by decide +kernel
theorem dL_law_1144 : decode cL_law 1144 = .ok (.ifCond .eq 5, 3) := by decide +kernel
theorem dL_law_1147 : decode cL_law 1147 = .ok (.iconst 0, 1) := by decide +kernel
theorem dL_law_1148 : decode cL_law 1148 = .ok (.ireturn, 1) := by decide +kernel
theorem dL_law_1149 : decode cL_law 1149 = .ok (.goto 1121, 3) := by decide +kernel
theorem dL_law_1152 : decode cL_law 1152 = .ok (.aload_n 1, 1) := by decide +kernel
theorem dL_law_1153 : decode cL_law 1153 = .ok (.invokevirtual 189, 3) := by decide +kernel
theorem dL_law_1156 : decode cL_law 1156 = .ok (.aload_n 2, 1) := by decide +kernel
theorem dL_law_1157 : decode cL_law 1157 = .ok (.invokevirtual 192, 3) := by decide +kernel
theorem dL_law_1160 : decode cL_law 1160 = .ok (.if_icmp .eq 1110, 3) := by decide +kernel
theorem dL_law_1163 : decode cL_law 1163 = .ok (.iconst 0, 1) := by decide +kernel
theorem dL_law_1164 : decode cL_law 1164 = .ok (.ireturn, 1) := by decide +kernel
theorem dL_law_1165 : decode cL_law 1165 = .ok (.aload_n 1, 1) := by decide +kernel
theorem dL_law_1166 : decode cL_law 1166 = .ok (.aload_n 0, 1) := by decide +kernel
theorem dL_law_1167 : decode cL_law 1167 = .ok (.iload 5, 2) := by decide +kernel
theorem dL_law_1169 : decode cL_law 1169 = .ok (.iconst 1, 1) := by decide +kernel
theorem dL_law_1170 : decode cL_law 1170 = .ok (.iadd, 1) := by decide +kernel
theorem dL_law_1171 : decode cL_law 1171 = .ok (.iaload, 1) := by decide +kernel
theorem dL_law_1172 : decode cL_law 1172 = .ok (.aload_n 0, 1) := by decide +kernel
theorem dL_law_1173 : decode cL_law 1173 = .ok (.iload 5, 2) := by decide +kernel
theorem dL_law_1175 : decode cL_law 1175 = .ok (.iconst 2, 1) := by decide +kernel
theorem dL_law_1176 : decode cL_law 1176 = .ok (.iadd, 1) := by decide +kernel
theorem dL_law_1177 : decode cL_law 1177 = .ok (.iaload, 1) := by decide +kernel
theorem dL_law_1178 : decode cL_law 1178 = .ok (.aload_n 3, 1) := by decide +kernel
theorem dL_law_1179 : decode cL_law 1179 = .ok (.invokestatic 193, 3) := by decide +kernel
theorem dL_law_1182 : decode cL_law 1182 = .ok (.istore 6, 2) := by decide +kernel
theorem dL_law_1184 : decode cL_law 1184 = .ok (.aload_n 2, 1) := by decide +kernel
theorem dL_law_1185 : decode cL_law 1185 = .ok (.aload_n 0, 1) := by decide +kernel
theorem dL_law_1186 : decode cL_law 1186 = .ok (.iload 5, 2) := by decide +kernel
theorem dL_law_1188 : decode cL_law 1188 = .ok (.iconst 1, 1) := by decide +kernel
theorem dL_law_1189 : decode cL_law 1189 = .ok (.iadd, 1) := by decide +kernel
theorem dL_law_1190 : decode cL_law 1190 = .ok (.iaload, 1) := by decide +kernel
theorem dL_law_1191 : decode cL_law 1191 = .ok (.aload_n 0, 1) := by decide +kernel
theorem dL_law_1192 : decode cL_law 1192 = .ok (.iload 5, 2) := by decide +kernel
theorem dL_law_1194 : decode cL_law 1194 = .ok (.iconst 2, 1) := by decide +kernel
theorem dL_law_1195 : decode cL_law 1195 = .ok (.iadd, 1) := by decide +kernel
theorem dL_law_1196 : decode cL_law 1196 = .ok (.iaload, 1) := by decide +kernel
theorem dL_law_1197 : decode cL_law 1197 = .ok (.invokevirtual 195, 3) := by decide +kernel
theorem dL_law_1200 : decode cL_law 1200 = .ok (.istore 7, 2) := by decide +kernel
theorem dL_law_1202 : decode cL_law 1202 = .ok (.aload_n 2, 1) := by decide +kernel
theorem dL_law_1203 : decode cL_law 1203 = .ok (.invokevirtual 138, 3) := by decide +kernel
theorem dL_law_1206 : decode cL_law 1206 = .ok (.iload 6, 2) := by decide +kernel
theorem dL_law_1208 : decode cL_law 1208 = .ok (.if_icmp .eq 5, 3) := by decide +kernel
theorem dL_law_1211 : decode cL_law 1211 = .ok (.iconst 0, 1) := by decide +kernel
theorem dL_law_1212 : decode cL_law 1212 = .ok (.ireturn, 1) := by decide +kernel
theorem dL_law_1213 : decode cL_law 1213 = .ok (.iload 6, 2) := by decide +kernel
theorem dL_law_1215 : decode cL_law 1215 = .ok (.ifCond .ne 15, 3) := by decide +kernel
theorem dL_law_1218 : decode cL_law 1218 = .ok (.aload_n 3, 1) := by decide +kernel
theorem dL_law_1219 : decode cL_law 1219 = .ok (.iconst 0, 1) := by decide +kernel
theorem dL_law_1220 : decode cL_law 1220 = .ok (.laload, 1) := by decide +kernel
theorem dL_law_1221 : decode cL_law 1221 = .ok (.iload 7, 2) := by decide +kernel
theorem dL_law_1223 : decode cL_law 1223 = .ok (.i2l, 1) := by decide +kernel
theorem dL_law_1224 : decode cL_law 1224 = .ok (.lcmp, 1) := by decide +kernel
theorem dL_law_1225 : decode cL_law 1225 = .ok (.ifCond .eq 5, 3) := by decide +kernel
theorem dL_law_1228 : decode cL_law 1228 = .ok (.iconst 0, 1) := by decide +kernel
theorem dL_law_1229 : decode cL_law 1229 = .ok (.ireturn, 1) := by decide +kernel
theorem dL_law_1230 : decode cL_law 1230 = .ok (.goto 1040, 3) := by decide +kernel
theorem dL_law_1233 : decode cL_law 1233 = .ok (.aload_n 1, 1) := by decide +kernel
theorem dL_law_1234 : decode cL_law 1234 = .ok (.aload_n 0, 1) := by decide +kernel
theorem dL_law_1235 : decode cL_law 1235 = .ok (.iload 5, 2) := by decide +kernel
theorem dL_law_1237 : decode cL_law 1237 = .ok (.iconst 1, 1) := by decide +kernel
theorem dL_law_1238 : decode cL_law 1238 = .ok (.iadd, 1) := by decide +kernel
theorem dL_law_1239 : decode cL_law 1239 = .ok (.iaload, 1) := by decide +kernel
theorem dL_law_1240 : decode cL_law 1240 = .ok (.aload_n 0, 1) := by decide +kernel
theorem dL_law_1241 : decode cL_law 1241 = .ok (.iload 5, 2) := by decide +kernel
theorem dL_law_1243 : decode cL_law 1243 = .ok (.iconst 2, 1) := by decide +kernel
theorem dL_law_1244 : decode cL_law 1244 = .ok (.iadd, 1) := by decide +kernel
theorem dL_law_1245 : decode cL_law 1245 = .ok (.iaload, 1) := by decide +kernel
theorem dL_law_1246 : decode cL_law 1246 = .ok (.aload_n 3, 1) := by decide +kernel
theorem dL_law_1247 : decode cL_law 1247 = .ok (.invokestatic 196, 3) := by decide +kernel
theorem dL_law_1250 : decode cL_law 1250 = .ok (.istore 6, 2) := by decide +kernel
theorem dL_law_1252 : decode cL_law 1252 = .ok (.aload_n 2, 1) := by decide +kernel
theorem dL_law_1253 : decode cL_law 1253 = .ok (.aload_n 0, 1) := by decide +kernel
theorem dL_law_1254 : decode cL_law 1254 = .ok (.iload 5, 2) := by decide +kernel
theorem dL_law_1256 : decode cL_law 1256 = .ok (.iconst 1, 1) := by decide +kernel
theorem dL_law_1257 : decode cL_law 1257 = .ok (.iadd, 1) := by decide +kernel
theorem dL_law_1258 : decode cL_law 1258 = .ok (.iaload, 1) := by decide +kernel
theorem dL_law_1259 : decode cL_law 1259 = .ok (.aload_n 0, 1) := by decide +kernel
theorem dL_law_1260 : decode cL_law 1260 = .ok (.iload 5, 2) := by decide +kernel
theorem dL_law_1262 : decode cL_law 1262 = .ok (.iconst 2, 1) := by decide +kernel
theorem dL_law_1263 : decode cL_law 1263 = .ok (.iadd, 1) := by decide +kernel
theorem dL_law_1264 : decode cL_law 1264 = .ok (.iaload, 1) := by decide +kernel
theorem dL_law_1265 : decode cL_law 1265 = .ok (.invokevirtual 198, 3) := by decide +kernel
theorem dL_law_1268 : decode cL_law 1268 = .ok (.istore 7, 2) := by decide +kernel
theorem dL_law_1270 : decode cL_law 1270 = .ok (.aload_n 2, 1) := by decide +kernel
theorem dL_law_1271 : decode cL_law 1271 = .ok (.invokevirtual 138, 3) := by decide +kernel
theorem dL_law_1274 : decode cL_law 1274 = .ok (.iload 6, 2) := by decide +kernel
theorem dL_law_1276 : decode cL_law 1276 = .ok (.if_icmp .eq 5, 3) := by decide +kernel
theorem dL_law_1279 : decode cL_law 1279 = .ok (.iconst 0, 1) := by decide +kernel
theorem dL_law_1280 : decode cL_law 1280 = .ok (.ireturn, 1) := by decide +kernel
theorem dL_law_1281 : decode cL_law 1281 = .ok (.iload 6, 2) := by decide +kernel
theorem dL_law_1283 : decode cL_law 1283 = .ok (.ifCond .ne 15, 3) := by decide +kernel
theorem dL_law_1286 : decode cL_law 1286 = .ok (.aload_n 3, 1) := by decide +kernel
theorem dL_law_1287 : decode cL_law 1287 = .ok (.iconst 0, 1) := by decide +kernel
theorem dL_law_1288 : decode cL_law 1288 = .ok (.laload, 1) := by decide +kernel
theorem dL_law_1289 : decode cL_law 1289 = .ok (.iload 7, 2) := by decide +kernel
theorem dL_law_1291 : decode cL_law 1291 = .ok (.i2l, 1) := by decide +kernel
theorem dL_law_1292 : decode cL_law 1292 = .ok (.lcmp, 1) := by decide +kernel
theorem dL_law_1293 : decode cL_law 1293 = .ok (.ifCond .eq 5, 3) := by decide +kernel
theorem dL_law_1296 : decode cL_law 1296 = .ok (.iconst 0, 1) := by decide +kernel
theorem dL_law_1297 : decode cL_law 1297 = .ok (.ireturn, 1) := by decide +kernel
theorem dL_law_1298 : decode cL_law 1298 = .ok (.goto 972, 3) := by decide +kernel
theorem dL_law_1301 : decode cL_law 1301 = .ok (.aload_n 1, 1) := by decide +kernel
theorem dL_law_1302 : decode cL_law 1302 = .ok (.aload_n 3, 1) := by decide +kernel
theorem dL_law_1303 : decode cL_law 1303 = .ok (.invokestatic 199, 3) := by decide +kernel
theorem dL_law_1306 : decode cL_law 1306 = .ok (.istore 6, 2) := by decide +kernel
theorem dL_law_1308 : decode cL_law 1308 = .ok (.aload_n 2, 1) := by decide +kernel
theorem dL_law_1309 : decode cL_law 1309 = .ok (.invokevirtual 201, 3) := by decide +kernel
theorem dL_law_1312 : decode cL_law 1312 = .ok (.lstore 7, 2) := by decide +kernel
theorem dL_law_1314 : decode cL_law 1314 = .ok (.aload_n 2, 1) := by decide +kernel
theorem dL_law_1315 : decode cL_law 1315 = .ok (.invokevirtual 138, 3) := by decide +kernel
theorem dL_law_1318 : decode cL_law 1318 = .ok (.iload 6, 2) := by decide +kernel
theorem dL_law_1320 : decode cL_law 1320 = .ok (.if_icmp .eq 5, 3) := by decide +kernel
theorem dL_law_1323 : decode cL_law 1323 = .ok (.iconst 0, 1) := by decide +kernel
theorem dL_law_1324 : decode cL_law 1324 = .ok (.ireturn, 1) := by decide +kernel
theorem dL_law_1325 : decode cL_law 1325 = .ok (.iload 6, 2) := by decide +kernel
theorem dL_law_1327 : decode cL_law 1327 = .ok (.ifCond .ne 14, 3) := by decide +kernel
theorem dL_law_1330 : decode cL_law 1330 = .ok (.aload_n 3, 1) := by decide +kernel
theorem dL_law_1331 : decode cL_law 1331 = .ok (.iconst 0, 1) := by decide +kernel
theorem dL_law_1332 : decode cL_law 1332 = .ok (.laload, 1) := by decide +kernel
theorem dL_law_1333 : decode cL_law 1333 = .ok (.lload 7, 2) := by decide +kernel
theorem dL_law_1335 : decode cL_law 1335 = .ok (.lcmp, 1) := by decide +kernel
theorem dL_law_1336 : decode cL_law 1336 = .ok (.ifCond .eq 5, 3) := by decide +kernel
theorem dL_law_1339 : decode cL_law 1339 = .ok (.iconst 0, 1) := by decide +kernel
theorem dL_law_1340 : decode cL_law 1340 = .ok (.ireturn, 1) := by decide +kernel
theorem dL_law_1341 : decode cL_law 1341 = .ok (.goto 929, 3) := by decide +kernel
theorem dL_law_1344 : decode cL_law 1344 = .ok (.aload_n 1, 1) := by decide +kernel
theorem dL_law_1345 : decode cL_law 1345 = .ok (.aload 4, 2) := by decide +kernel
theorem dL_law_1347 : decode cL_law 1347 = .ok (.invokestatic 202, 3) := by decide +kernel
theorem dL_law_1350 : decode cL_law 1350 = .ok (.istore 6, 2) := by decide +kernel
theorem dL_law_1352 : decode cL_law 1352 = .ok (.aload_n 2, 1) := by decide +kernel
theorem dL_law_1353 : decode cL_law 1353 = .ok (.invokevirtual 205, 3) := by decide +kernel
theorem dL_law_1356 : decode cL_law 1356 = .ok (.fstore 7, 2) := by decide +kernel
theorem dL_law_1358 : decode cL_law 1358 = .ok (.aload_n 2, 1) := by decide +kernel
theorem dL_law_1359 : decode cL_law 1359 = .ok (.invokevirtual 138, 3) := by decide +kernel
theorem dL_law_1362 : decode cL_law 1362 = .ok (.iload 6, 2) := by decide +kernel
theorem dL_law_1364 : decode cL_law 1364 = .ok (.if_icmp .eq 5, 3) := by decide +kernel
theorem dL_law_1367 : decode cL_law 1367 = .ok (.iconst 0, 1) := by decide +kernel
theorem dL_law_1368 : decode cL_law 1368 = .ok (.ireturn, 1) := by decide +kernel
theorem dL_law_1369 : decode cL_law 1369 = .ok (.iload 6, 2) := by decide +kernel
theorem dL_law_1371 : decode cL_law 1371 = .ok (.ifCond .ne 36, 3) := by decide +kernel
theorem dL_law_1374 : decode cL_law 1374 = .ok (.aload 4, 2) := by decide +kernel
theorem dL_law_1376 : decode cL_law 1376 = .ok (.iconst 0, 1) := by decide +kernel
theorem dL_law_1377 : decode cL_law 1377 = .ok (.daload, 1) := by decide +kernel
theorem dL_law_1378 : decode cL_law 1378 = .ok (.fload 7, 2) := by decide +kernel
theorem dL_law_1380 : decode cL_law 1380 = .ok (.f2d, 1) := by decide +kernel
theorem dL_law_1381 : decode cL_law 1381 = .ok (.dcmp .l, 1) := by decide +kernel
theorem dL_law_1382 : decode cL_law 1382 = .ok (.ifCond .eq 25, 3) := by decide +kernel
theorem dL_law_1385 : decode cL_law 1385 = .ok (.aload 4, 2) := by decide +kernel
theorem dL_law_1387 : decode cL_law 1387 = .ok (.iconst 0, 1) := by decide +kernel
theorem dL_law_1388 : decode cL_law 1388 = .ok (.daload, 1) := by decide +kernel
theorem dL_law_1389 : decode cL_law 1389 = .ok (.aload 4, 2) := by decide +kernel
theorem dL_law_1391 : decode cL_law 1391 = .ok (.iconst 0, 1) := by decide +kernel
theorem dL_law_1392 : decode cL_law 1392 = .ok (.daload, 1) := by decide +kernel
theorem dL_law_1393 : decode cL_law 1393 = .ok (.dcmp .l, 1) := by decide +kernel
theorem dL_law_1394 : decode cL_law 1394 = .ok (.ifCond .eq 11, 3) := by decide +kernel
theorem dL_law_1397 : decode cL_law 1397 = .ok (.fload 7, 2) := by decide +kernel
theorem dL_law_1399 : decode cL_law 1399 = .ok (.fload 7, 2) := by decide +kernel
theorem dL_law_1401 : decode cL_law 1401 = .ok (.fcmp .l, 1) := by decide +kernel
theorem dL_law_1402 : decode cL_law 1402 = .ok (.ifCond .ne 5, 3) := by decide +kernel
theorem dL_law_1405 : decode cL_law 1405 = .ok (.iconst 0, 1) := by decide +kernel
theorem dL_law_1406 : decode cL_law 1406 = .ok (.ireturn, 1) := by decide +kernel
theorem dL_law_1407 : decode cL_law 1407 = .ok (.goto 863, 3) := by decide +kernel
theorem dL_law_1410 : decode cL_law 1410 = .ok (.aload_n 1, 1) := by decide +kernel
theorem dL_law_1411 : decode cL_law 1411 = .ok (.aload 4, 2) := by decide +kernel
theorem dL_law_1413 : decode cL_law 1413 = .ok (.invokestatic 206, 3) := by decide +kernel
theorem dL_law_1416 : decode cL_law 1416 = .ok (.istore 6, 2) := by decide +kernel
theorem dL_law_1418 : decode cL_law 1418 = .ok (.aload_n 2, 1) := by decide +kernel
theorem dL_law_1419 : decode cL_law 1419 = .ok (.invokevirtual 208, 3) := by decide +kernel
theorem dL_law_1422 : decode cL_law 1422 = .ok (.dstore 7, 2) := by decide +kernel
theorem dL_law_1424 : decode cL_law 1424 = .ok (.aload_n 2, 1) := by decide +kernel
theorem dL_law_1425 : decode cL_law 1425 = .ok (.invokevirtual 138, 3) := by decide +kernel
theorem dL_law_1428 : decode cL_law 1428 = .ok (.iload 6, 2) := by decide +kernel
theorem dL_law_1430 : decode cL_law 1430 = .ok (.if_icmp .eq 5, 3) := by decide +kernel
theorem dL_law_1433 : decode cL_law 1433 = .ok (.iconst 0, 1) := by decide +kernel
theorem dL_law_1434 : decode cL_law 1434 = .ok (.ireturn, 1) := by decide +kernel
theorem dL_law_1435 : decode cL_law 1435 = .ok (.iload 6, 2) := by decide +kernel
theorem dL_law_1437 : decode cL_law 1437 = .ok (.ifCond .ne 35, 3) := by decide +kernel
theorem dL_law_1440 : decode cL_law 1440 = .ok (.aload 4, 2) := by decide +kernel
theorem dL_law_1442 : decode cL_law 1442 = .ok (.iconst 0, 1) := by decide +kernel
theorem dL_law_1443 : decode cL_law 1443 = .ok (.daload, 1) := by decide +kernel
theorem dL_law_1444 : decode cL_law 1444 = .ok (.dload 7, 2) := by decide +kernel
theorem dL_law_1446 : decode cL_law 1446 = .ok (.dcmp .l, 1) := by decide +kernel
theorem dL_law_1447 : decode cL_law 1447 = .ok (.ifCond .eq 25, 3) := by decide +kernel
theorem dL_law_1450 : decode cL_law 1450 = .ok (.aload 4, 2) := by decide +kernel
theorem dL_law_1452 : decode cL_law 1452 = .ok (.iconst 0, 1) := by decide +kernel
theorem dL_law_1453 : decode cL_law 1453 = .ok (.daload, 1) := by decide +kernel
theorem dL_law_1454 : decode cL_law 1454 = .ok (.aload 4, 2) := by decide +kernel
theorem dL_law_1456 : decode cL_law 1456 = .ok (.iconst 0, 1) := by decide +kernel
theorem dL_law_1457 : decode cL_law 1457 = .ok (.daload, 1) := by decide +kernel
theorem dL_law_1458 : decode cL_law 1458 = .ok (.dcmp .l, 1) := by decide +kernel
theorem dL_law_1459 : decode cL_law 1459 = .ok (.ifCond .eq 11, 3) := by decide +kernel
theorem dL_law_1462 : decode cL_law 1462 = .ok (.dload 7, 2) := by decide +kernel
theorem dL_law_1464 : decode cL_law 1464 = .ok (.dload 7, 2) := by decide +kernel
theorem dL_law_1466 : decode cL_law 1466 = .ok (.dcmp .l, 1) := by decide +kernel
theorem dL_law_1467 : decode cL_law 1467 = .ok (.ifCond .ne 5, 3) := by decide +kernel
theorem dL_law_1470 : decode cL_law 1470 = .ok (.iconst 0, 1) := by decide +kernel
theorem dL_law_1471 : decode cL_law 1471 = .ok (.ireturn, 1) := by decide +kernel
theorem dL_law_1472 : decode cL_law 1472 = .ok (.goto 798, 3) := by decide +kernel
theorem dL_law_1475 : decode cL_law 1475 = .ok (.aload_n 1, 1) := by decide +kernel
theorem dL_law_1476 : decode cL_law 1476 = .ok (.aload_n 3, 1) := by decide +kernel
theorem dL_law_1477 : decode cL_law 1477 = .ok (.invokestatic 209, 3) := by decide +kernel
theorem dL_law_1480 : decode cL_law 1480 = .ok (.istore 6, 2) := by decide +kernel
theorem dL_law_1482 : decode cL_law 1482 = .ok (.aload_n 2, 1) := by decide +kernel
theorem dL_law_1483 : decode cL_law 1483 = .ok (.invokevirtual 211, 3) := by decide +kernel
theorem dL_law_1486 : decode cL_law 1486 = .ok (.istore 7, 2) := by decide +kernel
theorem dL_law_1488 : decode cL_law 1488 = .ok (.aload_n 2, 1) := by decide +kernel
theorem dL_law_1489 : decode cL_law 1489 = .ok (.invokevirtual 138, 3) := by decide +kernel
theorem dL_law_1492 : decode cL_law 1492 = .ok (.iload 6, 2) := by decide +kernel
theorem dL_law_1494 : decode cL_law 1494 = .ok (.if_icmp .eq 5, 3) := by decide +kernel
theorem dL_law_1497 : decode cL_law 1497 = .ok (.iconst 0, 1) := by decide +kernel
theorem dL_law_1498 : decode cL_law 1498 = .ok (.ireturn, 1) := by decide +kernel
theorem dL_law_1499 : decode cL_law 1499 = .ok (.iload 6, 2) := by decide +kernel
theorem dL_law_1501 : decode cL_law 1501 = .ok (.ifCond .ne 15, 3) := by decide +kernel
theorem dL_law_1504 : decode cL_law 1504 = .ok (.aload_n 3, 1) := by decide +kernel
theorem dL_law_1505 : decode cL_law 1505 = .ok (.iconst 0, 1) := by decide +kernel
theorem dL_law_1506 : decode cL_law 1506 = .ok (.laload, 1) := by decide +kernel
theorem dL_law_1507 : decode cL_law 1507 = .ok (.iload 7, 2) := by decide +kernel
theorem dL_law_1509 : decode cL_law 1509 = .ok (.i2l, 1) := by decide +kernel
theorem dL_law_1510 : decode cL_law 1510 = .ok (.lcmp, 1) := by decide +kernel
theorem dL_law_1511 : decode cL_law 1511 = .ok (.ifCond .eq 5, 3) := by decide +kernel
theorem dL_law_1514 : decode cL_law 1514 = .ok (.iconst 0, 1) := by decide +kernel
theorem dL_law_1515 : decode cL_law 1515 = .ok (.ireturn, 1) := by decide +kernel
theorem dL_law_1516 : decode cL_law 1516 = .ok (.goto 754, 3) := by decide +kernel
theorem dL_law_1519 : decode cL_law 1519 = .ok (.aload_n 1, 1) := by decide +kernel
theorem dL_law_1520 : decode cL_law 1520 = .ok (.aload_n 0, 1) := by decide +kernel
theorem dL_law_1521 : decode cL_law 1521 = .ok (.iload 5, 2) := by decide +kernel
theorem dL_law_1523 : decode cL_law 1523 = .ok (.iconst 1, 1) := by decide +kernel
theorem dL_law_1524 : decode cL_law 1524 = .ok (.iadd, 1) := by decide +kernel
theorem dL_law_1525 : decode cL_law 1525 = .ok (.iaload, 1) := by decide +kernel
theorem dL_law_1526 : decode cL_law 1526 = .ok (.aload_n 3, 1) := by decide +kernel
theorem dL_law_1527 : decode cL_law 1527 = .ok (.invokestatic 212, 3) := by decide +kernel
theorem dL_law_1530 : decode cL_law 1530 = .ok (.istore 6, 2) := by decide +kernel
theorem dL_law_1532 : decode cL_law 1532 = .ok (.aload_n 2, 1) := by decide +kernel
theorem dL_law_1533 : decode cL_law 1533 = .ok (.aload_n 0, 1) := by decide +kernel
theorem dL_law_1534 : decode cL_law 1534 = .ok (.iload 5, 2) := by decide +kernel
theorem dL_law_1536 : decode cL_law 1536 = .ok (.iconst 1, 1) := by decide +kernel
theorem dL_law_1537 : decode cL_law 1537 = .ok (.iadd, 1) := by decide +kernel
theorem dL_law_1538 : decode cL_law 1538 = .ok (.iaload, 1) := by decide +kernel
theorem dL_law_1539 : decode cL_law 1539 = .ok (.invokevirtual 214, 3) := by decide +kernel
theorem dL_law_1542 : decode cL_law 1542 = .ok (.istore 7, 2) := by decide +kernel
theorem dL_law_1544 : decode cL_law 1544 = .ok (.aload_n 2, 1) := by decide +kernel
theorem dL_law_1545 : decode cL_law 1545 = .ok (.invokevirtual 138, 3) := by decide +kernel
theorem dL_law_1548 : decode cL_law 1548 = .ok (.iload 6, 2) := by decide +kernel
theorem dL_law_1550 : decode cL_law 1550 = .ok (.if_icmp .eq 5, 3) := by decide +kernel
theorem dL_law_1553 : decode cL_law 1553 = .ok (.iconst 0, 1) := by decide +kernel
theorem dL_law_1554 : decode cL_law 1554 = .ok (.ireturn, 1) := by decide +kernel
theorem dL_law_1555 : decode cL_law 1555 = .ok (.iload 6, 2) := by decide +kernel
theorem dL_law_1557 : decode cL_law 1557 = .ok (.ifCond .ne 15, 3) := by decide +kernel
theorem dL_law_1560 : decode cL_law 1560 = .ok (.aload_n 3, 1) := by decide +kernel
theorem dL_law_1561 : decode cL_law 1561 = .ok (.iconst 0, 1) := by decide +kernel
theorem dL_law_1562 : decode cL_law 1562 = .ok (.laload, 1) := by decide +kernel
theorem dL_law_1563 : decode cL_law 1563 = .ok (.iload 7, 2) := by decide +kernel
theorem dL_law_1565 : decode cL_law 1565 = .ok (.i2l, 1) := by decide +kernel
theorem dL_law_1566 : decode cL_law 1566 = .ok (.lcmp, 1) := by decide +kernel
theorem dL_law_1567 : decode cL_law 1567 = .ok (.ifCond .eq 5, 3) := by decide +kernel
theorem dL_law_1570 : decode cL_law 1570 = .ok (.iconst 0, 1) := by decide +kernel
theorem dL_law_1571 : decode cL_law 1571 = .ok (.ireturn, 1) := by decide +kernel
theorem dL_law_1572 : decode cL_law 1572 = .ok (.goto 698, 3) := by decide +kernel
theorem dL_law_1575 : decode cL_law 1575 = .ok (.aload_n 1, 1) := by decide +kernel
theorem dL_law_1576 : decode cL_law 1576 = .ok (.aload_n 0, 1) := by decide +kernel
theorem dL_law_1577 : decode cL_law 1577 = .ok (.iload 5, 2) := by decide +kernel
theorem dL_law_1579 : decode cL_law 1579 = .ok (.iconst 1, 1) := by decide +kernel
theorem dL_law_1580 : decode cL_law 1580 = .ok (.iadd, 1) := by decide +kernel
theorem dL_law_1581 : decode cL_law 1581 = .ok (.iaload, 1) := by decide +kernel
theorem dL_law_1582 : decode cL_law 1582 = .ok (.aload_n 0, 1) := by decide +kernel
theorem dL_law_1583 : decode cL_law 1583 = .ok (.iload 5, 2) := by decide +kernel
theorem dL_law_1585 : decode cL_law 1585 = .ok (.iconst 2, 1) := by decide +kernel
theorem dL_law_1586 : decode cL_law 1586 = .ok (.iadd, 1) := by decide +kernel
theorem dL_law_1587 : decode cL_law 1587 = .ok (.iaload, 1) := by decide +kernel
theorem dL_law_1588 : decode cL_law 1588 = .ok (.aload_n 0, 1) := by decide +kernel
theorem dL_law_1589 : decode cL_law 1589 = .ok (.iload 5, 2) := by decide +kernel
theorem dL_law_1591 : decode cL_law 1591 = .ok (.iconst 3, 1) := by decide +kernel
theorem dL_law_1592 : decode cL_law 1592 = .ok (.iadd, 1) := by decide +kernel
theorem dL_law_1593 : decode cL_law 1593 = .ok (.iaload, 1) := by decide +kernel
theorem dL_law_1594 : decode cL_law 1594 = .ok (.aload_n 3, 1) := by decide +kernel
theorem dL_law_1595 : decode cL_law 1595 = .ok (.invokestatic 215, 3) := by decide +kernel
theorem dL_law_1598 : decode cL_law 1598 = .ok (.istore 6, 2) := by decide +kernel
theorem dL_law_1600 : decode cL_law 1600 = .ok (.aload_n 2, 1) := by decide +kernel
theorem dL_law_1601 : decode cL_law 1601 = .ok (.aload_n 0, 1) := by decide +kernel
theorem dL_law_1602 : decode cL_law 1602 = .ok (.iload 5, 2) := by decide +kernel
theorem dL_law_1604 : decode cL_law 1604 = .ok (.iconst 1, 1) := by decide +kernel
theorem dL_law_1605 : decode cL_law 1605 = .ok (.iadd, 1) := by decide +kernel
theorem dL_law_1606 : decode cL_law 1606 = .ok (.iaload, 1) := by decide +kernel
theorem dL_law_1607 : decode cL_law 1607 = .ok (.aload_n 0, 1) := by decide +kernel
theorem dL_law_1608 : decode cL_law 1608 = .ok (.iload 5, 2) := by decide +kernel
theorem dL_law_1610 : decode cL_law 1610 = .ok (.iconst 2, 1) := by decide +kernel
theorem dL_law_1611 : decode cL_law 1611 = .ok (.iadd, 1) := by decide +kernel
theorem dL_law_1612 : decode cL_law 1612 = .ok (.iaload, 1) := by decide +kernel
theorem dL_law_1613 : decode cL_law 1613 = .ok (.aload_n 0, 1) := by decide +kernel
theorem dL_law_1614 : decode cL_law 1614 = .ok (.iload 5, 2) := by decide +kernel
theorem dL_law_1616 : decode cL_law 1616 = .ok (.iconst 3, 1) := by decide +kernel
theorem dL_law_1617 : decode cL_law 1617 = .ok (.iadd, 1) := by decide +kernel
theorem dL_law_1618 : decode cL_law 1618 = .ok (.iaload, 1) := by decide +kernel
theorem dL_law_1619 : decode cL_law 1619 = .ok (.invokevirtual 218, 3) := by decide +kernel
theorem dL_law_1622 : decode cL_law 1622 = .ok (.istore 7, 2) := by decide +kernel
theorem dL_law_1624 : decode cL_law 1624 = .ok (.aload_n 2, 1) := by decide +kernel
theorem dL_law_1625 : decode cL_law 1625 = .ok (.invokevirtual 138, 3) := by decide +kernel
theorem dL_law_1628 : decode cL_law 1628 = .ok (.iload 6, 2) := by decide +kernel
theorem dL_law_1630 : decode cL_law 1630 = .ok (.if_icmp .eq 5, 3) := by decide +kernel
theorem dL_law_1633 : decode cL_law 1633 = .ok (.iconst 0, 1) := by decide +kernel
theorem dL_law_1634 : decode cL_law 1634 = .ok (.ireturn, 1) := by decide +kernel
theorem dL_law_1635 : decode cL_law 1635 = .ok (.iload 6, 2) := by decide +kernel
theorem dL_law_1637 : decode cL_law 1637 = .ok (.ifCond .ne 22, 3) := by decide +kernel
theorem dL_law_1640 : decode cL_law 1640 = .ok (.aload_n 3, 1) := by decide +kernel
theorem dL_law_1641 : decode cL_law 1641 = .ok (.iconst 0, 1) := by decide +kernel
theorem dL_law_1642 : decode cL_law 1642 = .ok (.laload, 1) := by decide +kernel
theorem dL_law_1643 : decode cL_law 1643 = .ok (.iload 7, 2) := by decide +kernel
theorem dL_law_1645 : decode cL_law 1645 = .ok (.ifCond .eq 7, 3) := by decide +kernel
theorem dL_law_1648 : decode cL_law 1648 = .ok (.lconst 1, 1) := by decide +kernel
theorem dL_law_1649 : decode cL_law 1649 = .ok (.goto 4, 3) := by decide +kernel
theorem dL_law_1652 : decode cL_law 1652 = .ok (.lconst 0, 1) := by decide +kernel
theorem dL_law_1653 : decode cL_law 1653 = .ok (.lcmp, 1) := by decide +kernel
theorem dL_law_1654 : decode cL_law 1654 = .ok (.ifCond .eq 5, 3) := by decide +kernel
theorem dL_law_1657 : decode cL_law 1657 = .ok (.iconst 0, 1) := by decide +kernel
theorem dL_law_1658 : decode cL_law 1658 = .ok (.ireturn, 1) := by decide +kernel
theorem dL_law_1659 : decode cL_law 1659 = .ok (.goto 611, 3) := by decide +kernel
theorem dL_law_1662 : decode cL_law 1662 = .ok (.aload_n 1, 1) := by decide +kernel
theorem dL_law_1663 : decode cL_law 1663 = .ok (.aload_n 0, 1) := by decide +kernel
theorem dL_law_1664 : decode cL_law 1664 = .ok (.iload 5, 2) := by decide +kernel
theorem dL_law_1666 : decode cL_law 1666 = .ok (.iconst 1, 1) := by decide +kernel
theorem dL_law_1667 : decode cL_law 1667 = .ok (.iadd, 1) := by decide +kernel
theorem dL_law_1668 : decode cL_law 1668 = .ok (.iaload, 1) := by decide +kernel
theorem dL_law_1669 : decode cL_law 1669 = .ok (.aload_n 0, 1) := by decide +kernel
theorem dL_law_1670 : decode cL_law 1670 = .ok (.iload 5, 2) := by decide +kernel
theorem dL_law_1672 : decode cL_law 1672 = .ok (.iconst 2, 1) := by decide +kernel
theorem dL_law_1673 : decode cL_law 1673 = .ok (.iadd, 1) := by decide +kernel
theorem dL_law_1674 : decode cL_law 1674 = .ok (.iaload, 1) := by decide +kernel
theorem dL_law_1675 : decode cL_law 1675 = .ok (.aload_n 0, 1) := by decide +kernel
theorem dL_law_1676 : decode cL_law 1676 = .ok (.iload 5, 2) := by decide +kernel
theorem dL_law_1678 : decode cL_law 1678 = .ok (.iconst 3, 1) := by decide +kernel
theorem dL_law_1679 : decode cL_law 1679 = .ok (.iadd, 1) := by decide +kernel
theorem dL_law_1680 : decode cL_law 1680 = .ok (.iaload, 1) := by decide +kernel
theorem dL_law_1681 : decode cL_law 1681 = .ok (.aload_n 3, 1) := by decide +kernel
theorem dL_law_1682 : decode cL_law 1682 = .ok (.invokestatic 219, 3) := by decide +kernel
theorem dL_law_1685 : decode cL_law 1685 = .ok (.istore 6, 2) := by decide +kernel
theorem dL_law_1687 : decode cL_law 1687 = .ok (.aload_n 2, 1) := by decide +kernel
theorem dL_law_1688 : decode cL_law 1688 = .ok (.aload_n 0, 1) := by decide +kernel
theorem dL_law_1689 : decode cL_law 1689 = .ok (.iload 5, 2) := by decide +kernel
theorem dL_law_1691 : decode cL_law 1691 = .ok (.iconst 1, 1) := by decide +kernel
theorem dL_law_1692 : decode cL_law 1692 = .ok (.iadd, 1) := by decide +kernel
theorem dL_law_1693 : decode cL_law 1693 = .ok (.iaload, 1) := by decide +kernel
theorem dL_law_1694 : decode cL_law 1694 = .ok (.aload_n 0, 1) := by decide +kernel
theorem dL_law_1695 : decode cL_law 1695 = .ok (.iload 5, 2) := by decide +kernel
theorem dL_law_1697 : decode cL_law 1697 = .ok (.iconst 2, 1) := by decide +kernel
theorem dL_law_1698 : decode cL_law 1698 = .ok (.iadd, 1) := by decide +kernel
theorem dL_law_1699 : decode cL_law 1699 = .ok (.iaload, 1) := by decide +kernel
theorem dL_law_1700 : decode cL_law 1700 = .ok (.aload_n 0, 1) := by decide +kernel
theorem dL_law_1701 : decode cL_law 1701 = .ok (.iload 5, 2) := by decide +kernel
theorem dL_law_1703 : decode cL_law 1703 = .ok (.iconst 3, 1) := by decide +kernel
theorem dL_law_1704 : decode cL_law 1704 = .ok (.iadd, 1) := by decide +kernel
theorem dL_law_1705 : decode cL_law 1705 = .ok (.iaload, 1) := by decide +kernel
theorem dL_law_1706 : decode cL_law 1706 = .ok (.invokevirtual 221, 3) := by decide +kernel
theorem dL_law_1709 : decode cL_law 1709 = .ok (.istore 7, 2) := by decide +kernel
theorem dL_law_1711 : decode cL_law 1711 = .ok (.aload_n 2, 1) := by decide +kernel
theorem dL_law_1712 : decode cL_law 1712 = .ok (.invokevirtual 138, 3) := by decide +kernel
theorem dL_law_1715 : decode cL_law 1715 = .ok (.iload 6, 2) := by decide +kernel
theorem dL_law_1717 : decode cL_law 1717 = .ok (.if_icmp .eq 5, 3) := by decide +kernel
theorem dL_law_1720 : decode cL_law 1720 = .ok (.iconst 0, 1) := by decide +kernel
theorem dL_law_1721 : decode cL_law 1721 = .ok (.ireturn, 1) := by decide +kernel
theorem dL_law_1722 : decode cL_law 1722 = .ok (.iload 6, 2) := by decide +kernel
theorem dL_law_1724 : decode cL_law 1724 = .ok (.ifCond .ne 15, 3) := by decide +kernel
theorem dL_law_1727 : decode cL_law 1727 = .ok (.aload_n 3, 1) := by decide +kernel
theorem dL_law_1728 : decode cL_law 1728 = .ok (.iconst 0, 1) := by decide +kernel
theorem dL_law_1729 : decode cL_law 1729 = .ok (.laload, 1) := by decide +kernel
theorem dL_law_1730 : decode cL_law 1730 = .ok (.iload 7, 2) := by decide +kernel
theorem dL_law_1732 : decode cL_law 1732 = .ok (.i2l, 1) := by decide +kernel
theorem dL_law_1733 : decode cL_law 1733 = .ok (.lcmp, 1) := by decide +kernel
theorem dL_law_1734 : decode cL_law 1734 = .ok (.ifCond .eq 5, 3) := by decide +kernel
theorem dL_law_1737 : decode cL_law 1737 = .ok (.iconst 0, 1) := by decide +kernel
theorem dL_law_1738 : decode cL_law 1738 = .ok (.ireturn, 1) := by decide +kernel
theorem dL_law_1739 : decode cL_law 1739 = .ok (.goto 531, 3) := by decide +kernel
theorem dL_law_1742 : decode cL_law 1742 = .ok (.aload_n 1, 1) := by decide +kernel
theorem dL_law_1743 : decode cL_law 1743 = .ok (.aload_n 0, 1) := by decide +kernel
theorem dL_law_1744 : decode cL_law 1744 = .ok (.iload 5, 2) := by decide +kernel
theorem dL_law_1746 : decode cL_law 1746 = .ok (.iconst 1, 1) := by decide +kernel
theorem dL_law_1747 : decode cL_law 1747 = .ok (.iadd, 1) := by decide +kernel
theorem dL_law_1748 : decode cL_law 1748 = .ok (.iaload, 1) := by decide +kernel
theorem dL_law_1749 : decode cL_law 1749 = .ok (.aload_n 0, 1) := by decide +kernel
theorem dL_law_1750 : decode cL_law 1750 = .ok (.iload 5, 2) := by decide +kernel
theorem dL_law_1752 : decode cL_law 1752 = .ok (.iconst 2, 1) := by decide +kernel
theorem dL_law_1753 : decode cL_law 1753 = .ok (.iadd, 1) := by decide +kernel
theorem dL_law_1754 : decode cL_law 1754 = .ok (.iaload, 1) := by decide +kernel
theorem dL_law_1755 : decode cL_law 1755 = .ok (.aload_n 3, 1) := by decide +kernel
theorem dL_law_1756 : decode cL_law 1756 = .ok (.invokestatic 222, 3) := by decide +kernel
theorem dL_law_1759 : decode cL_law 1759 = .ok (.istore 6, 2) := by decide +kernel
theorem dL_law_1761 : decode cL_law 1761 = .ok (.aload_n 2, 1) := by decide +kernel
theorem dL_law_1762 : decode cL_law 1762 = .ok (.aload_n 0, 1) := by decide +kernel
theorem dL_law_1763 : decode cL_law 1763 = .ok (.iload 5, 2) := by decide +kernel
theorem dL_law_1765 : decode cL_law 1765 = .ok (.iconst 1, 1) := by decide +kernel
theorem dL_law_1766 : decode cL_law 1766 = .ok (.iadd, 1) := by decide +kernel
theorem dL_law_1767 : decode cL_law 1767 = .ok (.iaload, 1) := by decide +kernel
theorem dL_law_1768 : decode cL_law 1768 = .ok (.aload_n 0, 1) := by decide +kernel
theorem dL_law_1769 : decode cL_law 1769 = .ok (.iload 5, 2) := by decide +kernel
theorem dL_law_1771 : decode cL_law 1771 = .ok (.iconst 2, 1) := by decide +kernel
theorem dL_law_1772 : decode cL_law 1772 = .ok (.iadd, 1) := by decide +kernel
theorem dL_law_1773 : decode cL_law 1773 = .ok (.iaload, 1) := by decide +kernel
theorem dL_law_1774 : decode cL_law 1774 = .ok (.invokevirtual 224, 3) := by decide +kernel
theorem dL_law_1777 : decode cL_law 1777 = .ok (.istore 7, 2) := by decide +kernel
theorem dL_law_1779 : decode cL_law 1779 = .ok (.aload_n 2, 1) := by decide +kernel
theorem dL_law_1780 : decode cL_law 1780 = .ok (.invokevirtual 138, 3) := by decide +kernel
theorem dL_law_1783 : decode cL_law 1783 = .ok (.iload 6, 2) := by decide +kernel
theorem dL_law_1785 : decode cL_law 1785 = .ok (.if_icmp .eq 5, 3) := by decide +kernel
theorem dL_law_1788 : decode cL_law 1788 = .ok (.iconst 0, 1) := by decide +kernel
theorem dL_law_1789 : decode cL_law 1789 = .ok (.ireturn, 1) := by decide +kernel
theorem dL_law_1790 : decode cL_law 1790 = .ok (.iload 6, 2) := by decide +kernel
theorem dL_law_1792 : decode cL_law 1792 = .ok (.ifCond .ne 15, 3) := by decide +kernel
theorem dL_law_1795 : decode cL_law 1795 = .ok (.aload_n 3, 1) := by decide +kernel
theorem dL_law_1796 : decode cL_law 1796 = .ok (.iconst 0, 1) := by decide +kernel
theorem dL_law_1797 : decode cL_law 1797 = .ok (.laload, 1) := by decide +kernel
theorem dL_law_1798 : decode cL_law 1798 = .ok (.iload 7, 2) := by decide +kernel
theorem dL_law_1800 : decode cL_law 1800 = .ok (.i2l, 1) := by decide +kernel
theorem dL_law_1801 : decode cL_law 1801 = .ok (.lcmp, 1) := by decide +kernel
theorem dL_law_1802 : decode cL_law 1802 = .ok (.ifCond .eq 5, 3) := by decide +kernel
theorem dL_law_1805 : decode cL_law 1805 = .ok (.iconst 0, 1) := by decide +kernel
theorem dL_law_1806 : decode cL_law 1806 = .ok (.ireturn, 1) := by decide +kernel
theorem dL_law_1807 : decode cL_law 1807 = .ok (.goto 463, 3) := by decide +kernel
theorem dL_law_1810 : decode cL_law 1810 = .ok (.aload_n 1, 1) := by decide +kernel
theorem dL_law_1811 : decode cL_law 1811 = .ok (.aload_n 0, 1) := by decide +kernel
theorem dL_law_1812 : decode cL_law 1812 = .ok (.iload 5, 2) := by decide +kernel
theorem dL_law_1814 : decode cL_law 1814 = .ok (.iconst 1, 1) := by decide +kernel
theorem dL_law_1815 : decode cL_law 1815 = .ok (.iadd, 1) := by decide +kernel
theorem dL_law_1816 : decode cL_law 1816 = .ok (.iaload, 1) := by decide +kernel
theorem dL_law_1817 : decode cL_law 1817 = .ok (.aload_n 0, 1) := by decide +kernel
theorem dL_law_1818 : decode cL_law 1818 = .ok (.iload 5, 2) := by decide +kernel
theorem dL_law_1820 : decode cL_law 1820 = .ok (.iconst 2, 1) := by decide +kernel
theorem dL_law_1821 : decode cL_law 1821 = .ok (.iadd, 1) := by decide +kernel
theorem dL_law_1822 : decode cL_law 1822 = .ok (.iaload, 1) := by decide +kernel
theorem dL_law_1823 : decode cL_law 1823 = .ok (.aload_n 3, 1) := by decide +kernel
theorem dL_law_1824 : decode cL_law 1824 = .ok (.invokestatic 225, 3) := by decide +kernel
theorem dL_law_1827 : decode cL_law 1827 = .ok (.istore 6, 2) := by decide +kernel
theorem dL_law_1829 : decode cL_law 1829 = .ok (.aload_n 2, 1) := by decide +kernel
theorem dL_law_1830 : decode cL_law 1830 = .ok (.aload_n 0, 1) := by decide +kernel
theorem dL_law_1831 : decode cL_law 1831 = .ok (.iload 5, 2) := by decide +kernel
theorem dL_law_1833 : decode cL_law 1833 = .ok (.iconst 1, 1) := by decide +kernel
theorem dL_law_1834 : decode cL_law 1834 = .ok (.iadd, 1) := by decide +kernel
theorem dL_law_1835 : decode cL_law 1835 = .ok (.iaload, 1) := by decide +kernel
theorem dL_law_1836 : decode cL_law 1836 = .ok (.aload_n 0, 1) := by decide +kernel
theorem dL_law_1837 : decode cL_law 1837 = .ok (.iload 5, 2) := by decide +kernel
theorem dL_law_1839 : decode cL_law 1839 = .ok (.iconst 2, 1) := by decide +kernel
theorem dL_law_1840 : decode cL_law 1840 = .ok (.iadd, 1) := by decide +kernel
theorem dL_law_1841 : decode cL_law 1841 = .ok (.iaload, 1) := by decide +kernel
theorem dL_law_1842 : decode cL_law 1842 = .ok (.invokevirtual 227, 3) := by decide +kernel
theorem dL_law_1845 : decode cL_law 1845 = .ok (.istore 7, 2) := by decide +kernel
theorem dL_law_1847 : decode cL_law 1847 = .ok (.aload_n 2, 1) := by decide +kernel
theorem dL_law_1848 : decode cL_law 1848 = .ok (.invokevirtual 138, 3) := by decide +kernel
theorem dL_law_1851 : decode cL_law 1851 = .ok (.iload 6, 2) := by decide +kernel
theorem dL_law_1853 : decode cL_law 1853 = .ok (.if_icmp .eq 5, 3) := by decide +kernel
theorem dL_law_1856 : decode cL_law 1856 = .ok (.iconst 0, 1) := by decide +kernel
theorem dL_law_1857 : decode cL_law 1857 = .ok (.ireturn, 1) := by decide +kernel
theorem dL_law_1858 : decode cL_law 1858 = .ok (.iload 6, 2) := by decide +kernel
theorem dL_law_1860 : decode cL_law 1860 = .ok (.ifCond .ne 15, 3) := by decide +kernel
theorem dL_law_1863 : decode cL_law 1863 = .ok (.aload_n 3, 1) := by decide +kernel
theorem dL_law_1864 : decode cL_law 1864 = .ok (.iconst 0, 1) := by decide +kernel
theorem dL_law_1865 : decode cL_law 1865 = .ok (.laload, 1) := by decide +kernel
theorem dL_law_1866 : decode cL_law 1866 = .ok (.iload 7, 2) := by decide +kernel
theorem dL_law_1868 : decode cL_law 1868 = .ok (.i2l, 1) := by decide +kernel
theorem dL_law_1869 : decode cL_law 1869 = .ok (.lcmp, 1) := by decide +kernel
theorem dL_law_1870 : decode cL_law 1870 = .ok (.ifCond .eq 5, 3) := by decide +kernel
theorem dL_law_1873 : decode cL_law 1873 = .ok (.iconst 0, 1) := by decide +kernel
theorem dL_law_1874 : decode cL_law 1874 = .ok (.ireturn, 1) := by decide +kernel
theorem dL_law_1875 : decode cL_law 1875 = .ok (.goto 395, 3) := by decide +kernel
theorem dL_law_1878 : decode cL_law 1878 = .ok (.aload_n 1, 1) := by decide +kernel
theorem dL_law_1879 : decode cL_law 1879 = .ok (.aload_n 0, 1) := by decide +kernel
theorem dL_law_1880 : decode cL_law 1880 = .ok (.iload 5, 2) := by decide +kernel
theorem dL_law_1882 : decode cL_law 1882 = .ok (.iconst 1, 1) := by decide +kernel
theorem dL_law_1883 : decode cL_law 1883 = .ok (.iadd, 1) := by decide +kernel
theorem dL_law_1884 : decode cL_law 1884 = .ok (.iaload, 1) := by decide +kernel
theorem dL_law_1885 : decode cL_law 1885 = .ok (.aload_n 3, 1) := by decide +kernel
theorem dL_law_1886 : decode cL_law 1886 = .ok (.invokestatic 228, 3) := by decide +kernel
theorem dL_law_1889 : decode cL_law 1889 = .ok (.istore 6, 2) := by decide +kernel
theorem dL_law_1891 : decode cL_law 1891 = .ok (.aload_n 2, 1) := by decide +kernel
theorem dL_law_1892 : decode cL_law 1892 = .ok (.aload_n 0, 1) := by decide +kernel
theorem dL_law_1893 : decode cL_law 1893 = .ok (.iload 5, 2) := by decide +kernel
theorem dL_law_1895 : decode cL_law 1895 = .ok (.iconst 1, 1) := by decide +kernel
theorem dL_law_1896 : decode cL_law 1896 = .ok (.iadd, 1) := by decide +kernel
theorem dL_law_1897 : decode cL_law 1897 = .ok (.iaload, 1) := by decide +kernel
theorem dL_law_1898 : decode cL_law 1898 = .ok (.invokevirtual 230, 3) := by decide +kernel
theorem dL_law_1901 : decode cL_law 1901 = .ok (.istore 7, 2) := by decide +kernel
theorem dL_law_1903 : decode cL_law 1903 = .ok (.aload_n 2, 1) := by decide +kernel
theorem dL_law_1904 : decode cL_law 1904 = .ok (.invokevirtual 138, 3) := by decide +kernel
theorem dL_law_1907 : decode cL_law 1907 = .ok (.iload 6, 2) := by decide +kernel
theorem dL_law_1909 : decode cL_law 1909 = .ok (.if_icmp .eq 5, 3) := by decide +kernel
theorem dL_law_1912 : decode cL_law 1912 = .ok (.iconst 0, 1) := by decide +kernel
theorem dL_law_1913 : decode cL_law 1913 = .ok (.ireturn, 1) := by decide +kernel
theorem dL_law_1914 : decode cL_law 1914 = .ok (.iload 6, 2) := by decide +kernel
theorem dL_law_1916 : decode cL_law 1916 = .ok (.ifCond .ne 15, 3) := by decide +kernel
theorem dL_law_1919 : decode cL_law 1919 = .ok (.aload_n 3, 1) := by decide +kernel
theorem dL_law_1920 : decode cL_law 1920 = .ok (.iconst 0, 1) := by decide +kernel
theorem dL_law_1921 : decode cL_law 1921 = .ok (.laload, 1) := by decide +kernel
theorem dL_law_1922 : decode cL_law 1922 = .ok (.iload 7, 2) := by decide +kernel
theorem dL_law_1924 : decode cL_law 1924 = .ok (.i2l, 1) := by decide +kernel
theorem dL_law_1925 : decode cL_law 1925 = .ok (.lcmp, 1) := by decide +kernel
theorem dL_law_1926 : decode cL_law 1926 = .ok (.ifCond .eq 5, 3) := by decide +kernel
theorem dL_law_1929 : decode cL_law 1929 = .ok (.iconst 0, 1) := by decide +kernel
theorem dL_law_1930 : decode cL_law 1930 = .ok (.ireturn, 1) := by decide +kernel
theorem dL_law_1931 : decode cL_law 1931 = .ok (.goto 339, 3) := by decide +kernel
theorem dL_law_1934 : decode cL_law 1934 = .ok (.aload_n 1, 1) := by decide +kernel
theorem dL_law_1935 : decode cL_law 1935 = .ok (.aload_n 0, 1) := by decide +kernel
theorem dL_law_1936 : decode cL_law 1936 = .ok (.iload 5, 2) := by decide +kernel
theorem dL_law_1938 : decode cL_law 1938 = .ok (.iconst 1, 1) := by decide +kernel
theorem dL_law_1939 : decode cL_law 1939 = .ok (.iadd, 1) := by decide +kernel
theorem dL_law_1940 : decode cL_law 1940 = .ok (.iaload, 1) := by decide +kernel
theorem dL_law_1941 : decode cL_law 1941 = .ok (.aload_n 0, 1) := by decide +kernel
theorem dL_law_1942 : decode cL_law 1942 = .ok (.iload 5, 2) := by decide +kernel
theorem dL_law_1944 : decode cL_law 1944 = .ok (.iconst 2, 1) := by decide +kernel
theorem dL_law_1945 : decode cL_law 1945 = .ok (.iadd, 1) := by decide +kernel
theorem dL_law_1946 : decode cL_law 1946 = .ok (.iaload, 1) := by decide +kernel
theorem dL_law_1947 : decode cL_law 1947 = .ok (.aload_n 0, 1) := by decide +kernel
theorem dL_law_1948 : decode cL_law 1948 = .ok (.iload 5, 2) := by decide +kernel
theorem dL_law_1950 : decode cL_law 1950 = .ok (.iconst 3, 1) := by decide +kernel
theorem dL_law_1951 : decode cL_law 1951 = .ok (.iadd, 1) := by decide +kernel
theorem dL_law_1952 : decode cL_law 1952 = .ok (.iaload, 1) := by decide +kernel
theorem dL_law_1953 : decode cL_law 1953 = .ok (.aload_n 3, 1) := by decide +kernel
theorem dL_law_1954 : decode cL_law 1954 = .ok (.invokestatic 231, 3) := by decide +kernel
theorem dL_law_1957 : decode cL_law 1957 = .ok (.istore 6, 2) := by decide +kernel
theorem dL_law_1959 : decode cL_law 1959 = .ok (.aload_n 2, 1) := by decide +kernel
theorem dL_law_1960 : decode cL_law 1960 = .ok (.aload_n 0, 1) := by decide +kernel
theorem dL_law_1961 : decode cL_law 1961 = .ok (.iload 5, 2) := by decide +kernel
theorem dL_law_1963 : decode cL_law 1963 = .ok (.iconst 1, 1) := by decide +kernel
theorem dL_law_1964 : decode cL_law 1964 = .ok (.iadd, 1) := by decide +kernel
theorem dL_law_1965 : decode cL_law 1965 = .ok (.iaload, 1) := by decide +kernel
theorem dL_law_1966 : decode cL_law 1966 = .ok (.aload_n 0, 1) := by decide +kernel
theorem dL_law_1967 : decode cL_law 1967 = .ok (.iload 5, 2) := by decide +kernel
theorem dL_law_1969 : decode cL_law 1969 = .ok (.iconst 2, 1) := by decide +kernel
theorem dL_law_1970 : decode cL_law 1970 = .ok (.iadd, 1) := by decide +kernel
theorem dL_law_1971 : decode cL_law 1971 = .ok (.iaload, 1) := by decide +kernel
theorem dL_law_1972 : decode cL_law 1972 = .ok (.aload_n 0, 1) := by decide +kernel
theorem dL_law_1973 : decode cL_law 1973 = .ok (.iload 5, 2) := by decide +kernel
theorem dL_law_1975 : decode cL_law 1975 = .ok (.iconst 3, 1) := by decide +kernel
theorem dL_law_1976 : decode cL_law 1976 = .ok (.iadd, 1) := by decide +kernel
theorem dL_law_1977 : decode cL_law 1977 = .ok (.iaload, 1) := by decide +kernel
theorem dL_law_1978 : decode cL_law 1978 = .ok (.invokevirtual 233, 3) := by decide +kernel
theorem dL_law_1981 : decode cL_law 1981 = .ok (.istore 7, 2) := by decide +kernel
theorem dL_law_1983 : decode cL_law 1983 = .ok (.aload_n 2, 1) := by decide +kernel
theorem dL_law_1984 : decode cL_law 1984 = .ok (.invokevirtual 138, 3) := by decide +kernel
theorem dL_law_1987 : decode cL_law 1987 = .ok (.iload 6, 2) := by decide +kernel
theorem dL_law_1989 : decode cL_law 1989 = .ok (.if_icmp .eq 5, 3) := by decide +kernel
theorem dL_law_1992 : decode cL_law 1992 = .ok (.iconst 0, 1) := by decide +kernel
theorem dL_law_1993 : decode cL_law 1993 = .ok (.ireturn, 1) := by decide +kernel
theorem dL_law_1994 : decode cL_law 1994 = .ok (.iload 6, 2) := by decide +kernel
theorem dL_law_1996 : decode cL_law 1996 = .ok (.ifCond .ne 22, 3) := by decide +kernel
theorem dL_law_1999 : decode cL_law 1999 = .ok (.aload_n 3, 1) := by decide +kernel
theorem dL_law_2000 : decode cL_law 2000 = .ok (.iconst 0, 1) := by decide +kernel
theorem dL_law_2001 : decode cL_law 2001 = .ok (.laload, 1) := by decide +kernel
theorem dL_law_2002 : decode cL_law 2002 = .ok (.iload 7, 2) := by decide +kernel
theorem dL_law_2004 : decode cL_law 2004 = .ok (.ifCond .eq 7, 3) := by decide +kernel
theorem dL_law_2007 : decode cL_law 2007 = .ok (.lconst 1, 1) := by decide +kernel
theorem dL_law_2008 : decode cL_law 2008 = .ok (.goto 4, 3) := by decide +kernel
theorem dL_law_2011 : decode cL_law 2011 = .ok (.lconst 0, 1) := by decide +kernel
theorem dL_law_2012 : decode cL_law 2012 = .ok (.lcmp, 1) := by decide +kernel
theorem dL_law_2013 : decode cL_law 2013 = .ok (.ifCond .eq 5, 3) := by decide +kernel
theorem dL_law_2016 : decode cL_law 2016 = .ok (.iconst 0, 1) := by decide +kernel
theorem dL_law_2017 : decode cL_law 2017 = .ok (.ireturn, 1) := by decide +kernel
theorem dL_law_2018 : decode cL_law 2018 = .ok (.goto 252, 3) := by decide +kernel
theorem dL_law_2021 : decode cL_law 2021 = .ok (.aload_n 1, 1) := by decide +kernel
theorem dL_law_2022 : decode cL_law 2022 = .ok (.aload_n 0, 1) := by decide +kernel
theorem dL_law_2023 : decode cL_law 2023 = .ok (.iload 5, 2) := by decide +kernel
theorem dL_law_2025 : decode cL_law 2025 = .ok (.iconst 1, 1) := by decide +kernel
theorem dL_law_2026 : decode cL_law 2026 = .ok (.iadd, 1) := by decide +kernel
theorem dL_law_2027 : decode cL_law 2027 = .ok (.iaload, 1) := by decide +kernel
theorem dL_law_2028 : decode cL_law 2028 = .ok (.aload_n 3, 1) := by decide +kernel
theorem dL_law_2029 : decode cL_law 2029 = .ok (.invokestatic 234, 3) := by decide +kernel
theorem dL_law_2032 : decode cL_law 2032 = .ok (.istore 6, 2) := by decide +kernel
theorem dL_law_2034 : decode cL_law 2034 = .ok (.aload_n 2, 1) := by decide +kernel
theorem dL_law_2035 : decode cL_law 2035 = .ok (.aload_n 0, 1) := by decide +kernel
theorem dL_law_2036 : decode cL_law 2036 = .ok (.iload 5, 2) := by decide +kernel
theorem dL_law_2038 : decode cL_law 2038 = .ok (.iconst 1, 1) := by decide +kernel
theorem dL_law_2039 : decode cL_law 2039 = .ok (.iadd, 1) := by decide +kernel
theorem dL_law_2040 : decode cL_law 2040 = .ok (.iaload, 1) := by decide +kernel
theorem dL_law_2041 : decode cL_law 2041 = .ok (.invokevirtual 236, 3) := by decide +kernel
theorem dL_law_2044 : decode cL_law 2044 = .ok (.istore 7, 2) := by decide +kernel
theorem dL_law_2046 : decode cL_law 2046 = .ok (.aload_n 2, 1) := by decide +kernel
theorem dL_law_2047 : decode cL_law 2047 = .ok (.invokevirtual 138, 3) := by decide +kernel
theorem dL_law_2050 : decode cL_law 2050 = .ok (.iload 6, 2) := by decide +kernel
theorem dL_law_2052 : decode cL_law 2052 = .ok (.if_icmp .eq 5, 3) := by decide +kernel
theorem dL_law_2055 : decode cL_law 2055 = .ok (.iconst 0, 1) := by decide +kernel
theorem dL_law_2056 : decode cL_law 2056 = .ok (.ireturn, 1) := by decide +kernel
theorem dL_law_2057 : decode cL_law 2057 = .ok (.iload 6, 2) := by decide +kernel
theorem dL_law_2059 : decode cL_law 2059 = .ok (.ifCond .ne 15, 3) := by decide +kernel
theorem dL_law_2062 : decode cL_law 2062 = .ok (.aload_n 3, 1) := by decide +kernel
theorem dL_law_2063 : decode cL_law 2063 = .ok (.iconst 0, 1) := by decide +kernel
theorem dL_law_2064 : decode cL_law 2064 = .ok (.laload, 1) := by decide +kernel
theorem dL_law_2065 : decode cL_law 2065 = .ok (.iload 7, 2) := by decide +kernel
theorem dL_law_2067 : decode cL_law 2067 = .ok (.i2l, 1) := by decide +kernel
theorem dL_law_2068 : decode cL_law 2068 = .ok (.lcmp, 1) := by decide +kernel
theorem dL_law_2069 : decode cL_law 2069 = .ok (.ifCond .eq 5, 3) := by decide +kernel
theorem dL_law_2072 : decode cL_law 2072 = .ok (.iconst 0, 1) := by decide +kernel
theorem dL_law_2073 : decode cL_law 2073 = .ok (.ireturn, 1) := by decide +kernel
theorem dL_law_2074 : decode cL_law 2074 = .ok (.goto 196, 3) := by decide +kernel
theorem dL_law_2077 : decode cL_law 2077 = .ok (.aload_n 1, 1) := by decide +kernel
theorem dL_law_2078 : decode cL_law 2078 = .ok (.aload_n 0, 1) := by decide +kernel
theorem dL_law_2079 : decode cL_law 2079 = .ok (.iload 5, 2) := by decide +kernel
theorem dL_law_2081 : decode cL_law 2081 = .ok (.iconst 1, 1) := by decide +kernel
theorem dL_law_2082 : decode cL_law 2082 = .ok (.iadd, 1) := by decide +kernel
theorem dL_law_2083 : decode cL_law 2083 = .ok (.iaload, 1) := by decide +kernel
theorem dL_law_2084 : decode cL_law 2084 = .ok (.aload_n 3, 1) := by decide +kernel
theorem dL_law_2085 : decode cL_law 2085 = .ok (.invokestatic 237, 3) := by decide +kernel
theorem dL_law_2088 : decode cL_law 2088 = .ok (.istore 6, 2) := by decide +kernel
theorem dL_law_2090 : decode cL_law 2090 = .ok (.aload_n 2, 1) := by decide +kernel
theorem dL_law_2091 : decode cL_law 2091 = .ok (.aload_n 0, 1) := by decide +kernel
theorem dL_law_2092 : decode cL_law 2092 = .ok (.iload 5, 2) := by decide +kernel
theorem dL_law_2094 : decode cL_law 2094 = .ok (.iconst 1, 1) := by decide +kernel
theorem dL_law_2095 : decode cL_law 2095 = .ok (.iadd, 1) := by decide +kernel
theorem dL_law_2096 : decode cL_law 2096 = .ok (.iaload, 1) := by decide +kernel
theorem dL_law_2097 : decode cL_law 2097 = .ok (.invokevirtual 239, 3) := by decide +kernel
theorem dL_law_2100 : decode cL_law 2100 = .ok (.istore 7, 2) := by decide +kernel
theorem dL_law_2102 : decode cL_law 2102 = .ok (.aload_n 2, 1) := by decide +kernel
theorem dL_law_2103 : decode cL_law 2103 = .ok (.invokevirtual 138, 3) := by decide +kernel
theorem dL_law_2106 : decode cL_law 2106 = .ok (.iload 6, 2) := by decide +kernel
theorem dL_law_2108 : decode cL_law 2108 = .ok (.if_icmp .eq 5, 3) := by decide +kernel
theorem dL_law_2111 : decode cL_law 2111 = .ok (.iconst 0, 1) := by decide +kernel
theorem dL_law_2112 : decode cL_law 2112 = .ok (.ireturn, 1) := by decide +kernel
theorem dL_law_2113 : decode cL_law 2113 = .ok (.iload 6, 2) := by decide +kernel
theorem dL_law_2115 : decode cL_law 2115 = .ok (.ifCond .ne 15, 3) := by decide +kernel
theorem dL_law_2118 : decode cL_law 2118 = .ok (.aload_n 3, 1) := by decide +kernel
theorem dL_law_2119 : decode cL_law 2119 = .ok (.iconst 0, 1) := by decide +kernel
theorem dL_law_2120 : decode cL_law 2120 = .ok (.laload, 1) := by decide +kernel
theorem dL_law_2121 : decode cL_law 2121 = .ok (.iload 7, 2) := by decide +kernel
theorem dL_law_2123 : decode cL_law 2123 = .ok (.i2l, 1) := by decide +kernel
theorem dL_law_2124 : decode cL_law 2124 = .ok (.lcmp, 1) := by decide +kernel
theorem dL_law_2125 : decode cL_law 2125 = .ok (.ifCond .eq 5, 3) := by decide +kernel
theorem dL_law_2128 : decode cL_law 2128 = .ok (.iconst 0, 1) := by decide +kernel
theorem dL_law_2129 : decode cL_law 2129 = .ok (.ireturn, 1) := by decide +kernel
theorem dL_law_2130 : decode cL_law 2130 = .ok (.goto 140, 3) := by decide +kernel
theorem dL_law_2133 : decode cL_law 2133 = .ok (.aload_n 1, 1) := by decide +kernel
theorem dL_law_2134 : decode cL_law 2134 = .ok (.aload_n 0, 1) := by decide +kernel
theorem dL_law_2135 : decode cL_law 2135 = .ok (.iload 5, 2) := by decide +kernel
theorem dL_law_2137 : decode cL_law 2137 = .ok (.iconst 1, 1) := by decide +kernel
theorem dL_law_2138 : decode cL_law 2138 = .ok (.iadd, 1) := by decide +kernel
theorem dL_law_2139 : decode cL_law 2139 = .ok (.iaload, 1) := by decide +kernel
theorem dL_law_2140 : decode cL_law 2140 = .ok (.aload_n 3, 1) := by decide +kernel
theorem dL_law_2141 : decode cL_law 2141 = .ok (.invokestatic 240, 3) := by decide +kernel
theorem dL_law_2144 : decode cL_law 2144 = .ok (.istore 6, 2) := by decide +kernel
theorem dL_law_2146 : decode cL_law 2146 = .ok (.aload_n 2, 1) := by decide +kernel
theorem dL_law_2147 : decode cL_law 2147 = .ok (.aload_n 0, 1) := by decide +kernel
theorem dL_law_2148 : decode cL_law 2148 = .ok (.iload 5, 2) := by decide +kernel
theorem dL_law_2150 : decode cL_law 2150 = .ok (.iconst 1, 1) := by decide +kernel
theorem dL_law_2151 : decode cL_law 2151 = .ok (.iadd, 1) := by decide +kernel
theorem dL_law_2152 : decode cL_law 2152 = .ok (.iaload, 1) := by decide +kernel
theorem dL_law_2153 : decode cL_law 2153 = .ok (.invokevirtual 242, 3) := by decide +kernel
theorem dL_law_2156 : decode cL_law 2156 = .ok (.istore 7, 2) := by decide +kernel
theorem dL_law_2158 : decode cL_law 2158 = .ok (.aload_n 2, 1) := by decide +kernel
theorem dL_law_2159 : decode cL_law 2159 = .ok (.invokevirtual 138, 3) := by decide +kernel
theorem dL_law_2162 : decode cL_law 2162 = .ok (.iload 6, 2) := by decide +kernel
theorem dL_law_2164 : decode cL_law 2164 = .ok (.if_icmp .eq 5, 3) := by decide +kernel
theorem dL_law_2167 : decode cL_law 2167 = .ok (.iconst 0, 1) := by decide +kernel
theorem dL_law_2168 : decode cL_law 2168 = .ok (.ireturn, 1) := by decide +kernel
theorem dL_law_2169 : decode cL_law 2169 = .ok (.iload 6, 2) := by decide +kernel
theorem dL_law_2171 : decode cL_law 2171 = .ok (.ifCond .ne 15, 3) := by decide +kernel
theorem dL_law_2174 : decode cL_law 2174 = .ok (.aload_n 3, 1) := by decide +kernel
theorem dL_law_2175 : decode cL_law 2175 = .ok (.iconst 0, 1) := by decide +kernel
theorem dL_law_2176 : decode cL_law 2176 = .ok (.laload, 1) := by decide +kernel
theorem dL_law_2177 : decode cL_law 2177 = .ok (.iload 7, 2) := by decide +kernel
theorem dL_law_2179 : decode cL_law 2179 = .ok (.i2l, 1) := by decide +kernel
theorem dL_law_2180 : decode cL_law 2180 = .ok (.lcmp, 1) := by decide +kernel
theorem dL_law_2181 : decode cL_law 2181 = .ok (.ifCond .eq 5, 3) := by decide +kernel
theorem dL_law_2184 : decode cL_law 2184 = .ok (.iconst 0, 1) := by decide +kernel
theorem dL_law_2185 : decode cL_law 2185 = .ok (.ireturn, 1) := by decide +kernel
theorem dL_law_2186 : decode cL_law 2186 = .ok (.goto 84, 3) := by decide +kernel
theorem dL_law_2189 : decode cL_law 2189 = .ok (.aload_n 1, 1) := by decide +kernel
theorem dL_law_2190 : decode cL_law 2190 = .ok (.aload_n 0, 1) := by decide +kernel
theorem dL_law_2191 : decode cL_law 2191 = .ok (.iload 5, 2) := by decide +kernel
theorem dL_law_2193 : decode cL_law 2193 = .ok (.iconst 1, 1) := by decide +kernel
theorem dL_law_2194 : decode cL_law 2194 = .ok (.iadd, 1) := by decide +kernel
theorem dL_law_2195 : decode cL_law 2195 = .ok (.iaload, 1) := by decide +kernel
theorem dL_law_2196 : decode cL_law 2196 = .ok (.aload_n 0, 1) := by decide +kernel
theorem dL_law_2197 : decode cL_law 2197 = .ok (.iload 5, 2) := by decide +kernel
theorem dL_law_2199 : decode cL_law 2199 = .ok (.iconst 2, 1) := by decide +kernel
theorem dL_law_2200 : decode cL_law 2200 = .ok (.iadd, 1) := by decide +kernel
theorem dL_law_2201 : decode cL_law 2201 = .ok (.iaload, 1) := by decide +kernel
theorem dL_law_2202 : decode cL_law 2202 = .ok (.aload_n 3, 1) := by decide +kernel
theorem dL_law_2203 : decode cL_law 2203 = .ok (.invokestatic 243, 3) := by decide +kernel
theorem dL_law_2206 : decode cL_law 2206 = .ok (.istore 6, 2) := by decide +kernel
theorem dL_law_2208 : decode cL_law 2208 = .ok (.aload_n 2, 1) := by decide +kernel
theorem dL_law_2209 : decode cL_law 2209 = .ok (.aload_n 0, 1) := by decide +kernel
theorem dL_law_2210 : decode cL_law 2210 = .ok (.iload 5, 2) := by decide +kernel
theorem dL_law_2212 : decode cL_law 2212 = .ok (.iconst 1, 1) := by decide +kernel
theorem dL_law_2213 : decode cL_law 2213 = .ok (.iadd, 1) := by decide +kernel
theorem dL_law_2214 : decode cL_law 2214 = .ok (.iaload, 1) := by decide +kernel
theorem dL_law_2215 : decode cL_law 2215 = .ok (.aload_n 0, 1) := by decide +kernel
theorem dL_law_2216 : decode cL_law 2216 = .ok (.iload 5, 2) := by decide +kernel
theorem dL_law_2218 : decode cL_law 2218 = .ok (.iconst 2, 1) := by decide +kernel
theorem dL_law_2219 : decode cL_law 2219 = .ok (.iadd, 1) := by decide +kernel
theorem dL_law_2220 : decode cL_law 2220 = .ok (.iaload, 1) := by decide +kernel
theorem dL_law_2221 : decode cL_law 2221 = .ok (.invokevirtual 245, 3) := by decide +kernel
theorem dL_law_2224 : decode cL_law 2224 = .ok (.istore 7, 2) := by decide +kernel
theorem dL_law_2226 : decode cL_law 2226 = .ok (.aload_n 2, 1) := by decide +kernel
theorem dL_law_2227 : decode cL_law 2227 = .ok (.invokevirtual 138, 3) := by decide +kernel
theorem dL_law_2230 : decode cL_law 2230 = .ok (.iload 6, 2) := by decide +kernel
theorem dL_law_2232 : decode cL_law 2232 = .ok (.if_icmp .eq 5, 3) := by decide +kernel
theorem dL_law_2235 : decode cL_law 2235 = .ok (.iconst 0, 1) := by decide +kernel
theorem dL_law_2236 : decode cL_law 2236 = .ok (.ireturn, 1) := by decide +kernel
theorem dL_law_2237 : decode cL_law 2237 = .ok (.iload 6, 2) := by decide +kernel
theorem dL_law_2239 : decode cL_law 2239 = .ok (.ifCond .ne 15, 3) := by decide +kernel
theorem dL_law_2242 : decode cL_law 2242 = .ok (.aload_n 3, 1) := by decide +kernel
theorem dL_law_2243 : decode cL_law 2243 = .ok (.iconst 0, 1) := by decide +kernel
theorem dL_law_2244 : decode cL_law 2244 = .ok (.laload, 1) := by decide +kernel
theorem dL_law_2245 : decode cL_law 2245 = .ok (.iload 7, 2) := by decide +kernel
theorem dL_law_2247 : decode cL_law 2247 = .ok (.i2l, 1) := by decide +kernel
theorem dL_law_2248 : decode cL_law 2248 = .ok (.lcmp, 1) := by decide +kernel
theorem dL_law_2249 : decode cL_law 2249 = .ok (.ifCond .eq 5, 3) := by decide +kernel
theorem dL_law_2252 : decode cL_law 2252 = .ok (.iconst 0, 1) := by decide +kernel
theorem dL_law_2253 : decode cL_law 2253 = .ok (.ireturn, 1) := by decide +kernel
theorem dL_law_2254 : decode cL_law 2254 = .ok (.goto 16, 3) := by decide +kernel
theorem dL_law_2257 : decode cL_law 2257 = .ok (.aload_n 1, 1) := by decide +kernel
theorem dL_law_2258 : decode cL_law 2258 = .ok (.invokevirtual 246, 3) := by decide +kernel
theorem dL_law_2261 : decode cL_law 2261 = .ok (.aload_n 2, 1) := by decide +kernel
theorem dL_law_2262 : decode cL_law 2262 = .ok (.invokevirtual 250, 3) := by decide +kernel
theorem dL_law_2265 : decode cL_law 2265 = .ok (.if_icmp .eq 5, 3) := by decide +kernel
theorem dL_law_2268 : decode cL_law 2268 = .ok (.iconst 0, 1) := by decide +kernel
theorem dL_law_2269 : decode cL_law 2269 = .ok (.ireturn, 1) := by decide +kernel
theorem dL_law_2270 : decode cL_law 2270 = .ok (.iinc 5 5, 3) := by decide +kernel
theorem dL_law_2273 : decode cL_law 2273 = .ok (.goto (-2245), 3) := by decide +kernel
theorem dL_law_2276 : decode cL_law 2276 = .ok (.iconst 1, 1) := by decide +kernel
theorem dL_law_2277 : decode cL_law 2277 = .ok (.ireturn, 1) := by decide +kernel
end
section
/-! the world: every cell of the class's and the reference's own state, the law's two answer arrays, and the tables told so far -/
abbrev wM : Type := Nat → Nat → Int32
abbrev wR : Type := Int64 × UInt64 × (Nat → Nat)
abbrev wS : Type := wM × wM × wR
abbrev wB : Type := Nat × (Nat → Nat) × (Nat → ClassId) × (Nat → Nat → Nat) × (Nat → ClassId) × (Nat → Nat)
def wad (B : wB) : Nat → Nat := B.2.1
def wdG (B : wB) : va_G := (B.2.2.1, B.2.2.2.1)
def wdA (B : wB) : Nat → ClassId := B.2.2.2.2.1
def wsa (B : wB) : Nat → Nat := B.2.2.2.2.2
def wA (B : wB) : Nat → Prop := fun q => B.1 ≤ q
def updM (X : wM) (k : Nat) (g : Nat → Int32) : wM := fun j => if j = k then g else X j
theorem updM_self (X : wM) (k : Nat) (g : Nat → Int32) : updM X k g k = g := if_pos rfl
theorem updM_ne (X : wM) {k j : Nat} (g : Nat → Int32) (h : j ≠ k) : updM X k g j = X j := if_neg h
/-- how many tables there are -/
def wT (X : wM) : Nat := (X 0 7).toNatClampNeg
def wTf (X : wM) (td : Nat → Nat) : Nat → Option Nat := fun i => if i < wT X then some (td (4 * i)) else none
def wo1 (o : Int64) : Nat → Int64 := fun j => if j = 0 then o else 0
def wo2 (o : UInt64) : Nat → UInt64 := fun j => if j = 0 then o else 0
theorem wo1_set (o v : Int64) : vp_updL (wo1 o) 0 v = wo1 v := by
  funext j
  unfold vp_updL wo1
  split <;> rfl
theorem wo2_set (o v : UInt64) : vf_upd (wo2 o) 0 v = wo2 v := by
  funext j
  unfold vf_upd wo2
  split <;> rfl
def wty (B : wB) : List (ClassId × FieldType) := [(wdA B 0, .int), (wdA B 1, .boolean), (wdA B 2, .char), (wdA B 3, .object "CensusLoom$Table"), (wdA B 4, .byte), (wdA B 5, .long), (wdA B 6, .double)]
def wst (B : wB) (σ : wS) : va_W := [
  (wad B 0, .inr (9, [.ref (wad B 1), .ref (wad B 3), .ref (wad B 8), .ref (wad B 10), .ref (wad B 13), .ref (wad B 16), .ref (wad B 21), .int (σ.1 0 7)])),
  (wad B 1, .inr (6, [.ref (wad B 2), .int (σ.1 1 1), .int (σ.1 1 2)])),
  (wad B 2, .inl (wdA B 0, 20, .inl (σ.1 2))),
  (wad B 3, .inr (5, [.ref (wad B 1), .ref (wad B 4), .ref (wad B 5), .ref (wad B 6), .ref (wad B 7), .int (σ.1 3 5)])),
  (wad B 4, .inl (wdA B 1, 40, .inl (σ.1 4))),
  (wad B 5, .inl (wdA B 0, 40, .inl (σ.1 5))),
  (wad B 6, .inl (wdA B 0, 40, .inl (σ.1 6))),
  (wad B 7, .inl (wdA B 0, 40, .inl (σ.1 7))),
  (wad B 8, .inr (3, [.ref (wad B 3), .ref (wad B 9), .int (σ.1 8 2), .int (σ.1 8 3), .int (σ.1 8 4), .int (σ.1 8 5), .int (σ.1 8 6)])),
  (wad B 9, .inl (wdA B 2, 1600, .inl (σ.1 9))),
  (wad B 10, .inr (8, [.ref (wad B 3), .ref (wad B 8), .ref (wad B 11), .ref (wad B 12), .int (σ.1 10 4), .int (σ.1 10 5)])),
  (wad B 11, .inl (wdA B 1, 40, .inl (σ.1 11))),
  (wad B 12, .inl (wdA B 0, 24, .inl (σ.1 12))),
  (wad B 13, .inr (8, [.ref (wad B 3), .ref (wad B 8), .ref (wad B 14), .ref (wad B 15), .int (σ.1 13 4), .int (σ.1 13 5)])),
  (wad B 14, .inl (wdA B 1, 40, .inl (σ.1 14))),
  (wad B 15, .inl (wdA B 0, 24, .inl (σ.1 15))),
  (wad B 16, .inr (4, [.ref (wad B 3), .ref (wad B 8), .ref (wad B 10), .ref (wad B 17), .ref (wad B 18), .ref (wad B 19), .ref (wad B 20), .int (σ.1 16 7), .int (σ.1 16 8), .int (σ.1 16 9)])),
  (wad B 17, .inl (wdA B 0, 40, .inl (σ.1 17))),
  (wad B 18, .inl (wdA B 0, 400, .inl (σ.1 18))),
  (wad B 19, .inl (wdA B 0, 400, .inl (σ.1 19))),
  (wad B 20, .inl (wdA B 0, 400, .inl (σ.1 20))),
  (wad B 21, .inl (wdA B 3, 8, .inr (.inr (.inr (.inr (wTf σ.1 σ.2.2.2.2)))))),
  (wad B 22, .inr (10, [.ref (wad B 23), .ref (wad B 24), .ref (wad B 25), .ref (wad B 26), .ref (wad B 27), .ref (wad B 28), .ref (wad B 29), .ref (wad B 30), .ref (wad B 31), .ref (wad B 32), .ref (wad B 33), .ref (wad B 34), .ref (wad B 35), .ref (wad B 36), .int (σ.2.1 22 14), .int (σ.2.1 22 15), .int (σ.2.1 22 16), .int (σ.2.1 22 17), .int (σ.2.1 22 18), .int (σ.2.1 22 19), .int (σ.2.1 22 20), .int (σ.2.1 22 21), .int (σ.2.1 22 22), .int (σ.2.1 22 23), .int (σ.2.1 22 24), .int (σ.2.1 22 25)])),
  (wad B 23, .inl (wdA B 0, 20, .inl (σ.2.1 23))),
  (wad B 24, .inl (wdA B 0, 40, .inl (σ.2.1 24))),
  (wad B 25, .inl (wdA B 0, 40, .inl (σ.2.1 25))),
  (wad B 26, .inl (wdA B 0, 40, .inl (σ.2.1 26))),
  (wad B 27, .inl (wdA B 0, 40, .inl (σ.2.1 27))),
  (wad B 28, .inl (wdA B 0, 24, .inl (σ.2.1 28))),
  (wad B 29, .inl (wdA B 2, 40, .inl (σ.2.1 29))),
  (wad B 30, .inl (wdA B 2, 1600, .inl (σ.2.1 30))),
  (wad B 31, .inl (wdA B 1, 40, .inl (σ.2.1 31))),
  (wad B 32, .inl (wdA B 1, 8, .inl (σ.2.1 32))),
  (wad B 33, .inl (wdA B 1, 192, .inl (σ.2.1 33))),
  (wad B 34, .inl (wdA B 1, 10, .inl (σ.2.1 34))),
  (wad B 35, .inl (wdA B 0, 192, .inl (σ.2.1 35))),
  (wad B 36, .inl (wdA B 0, 8, .inl (σ.2.1 36))),
  (wad B 37, .inl (wdA B 5, 1, .inr (.inl (wo1 σ.2.2.1)))),
  (wad B 38, .inl (wdA B 6, 1, .inr (.inr (.inr (.inl (wo2 σ.2.2.2.1))))))]
/-- the cells of table j / 4: the object, its counts, its line, the line's bytes -/
def wtc (B : wB) (X : wM) (td : Nat → Nat) (j : Nat) : Nat → va_E := fun c => match c with
  | 0 => .inr (7, [.int (X (39 + j) 0), .ref (td (j + 1)), .int (X (39 + j) 2), .ref (td (j + 2)), .int (X (39 + j) 4)])
  | 1 => .inl (wdA B 0, 24, .inl (X (39 + j)))
  | 2 => .inr (0, [.ref (td (j + 1)), .int (X (39 + j) 1), .int (X (39 + j) 2), .int (X (39 + j) 3)])
  | _ => .inl (wdA B 4, (X (39 + j) 1000).toNatClampNeg, .inl (X (39 + j)))
def wtb (B : wB) (σ : wS) (j : Nat) : Nat × va_E := (σ.2.2.2.2 j, wtc B σ.1 σ.2.2.2.2 j (j % 4))
def wl (B : wB) (σ : wS) : va_W := wst B σ ++ (List.range (4 * wT σ.1)).map (wtb B σ)
theorem wst_len (B : wB) (σ : wS) : (wst B σ).length = 39 := rfl
theorem wl_st {B : wB} {σ : wS} {k : Nat} {q : Nat × va_E} (h : (wst B σ)[k]? = some q) : (wl B σ)[k]? = some q := by
  have hl := (List.getElem?_eq_some_iff.mp h).1
  rw [wl, List.getElem?_append_left hl]
  exact h
theorem wl_tb (B : wB) (σ : wS) {j : Nat} (h : j < 4 * wT σ.1) : (wl B σ)[39 + j]? = some (wtb B σ j) := by
  rw [wl, List.getElem?_append_right (by rw [wst_len]; omega), wst_len, show 39 + j - 39 = j by omega, List.getElem?_map, List.getElem?_range h]
  rfl
theorem wtc_upd (B : wB) (X : wM) (td : Nat → Nat) (j : Nat) {k : Nat} (g : Nat → Int32) (h : 39 + j ≠ k) (c : Nat) : wtc B (updM X k g) td j c = wtc B X td j c := by
  unfold wtc
  rw [updM_ne X g h]
theorem wl_set_st {B : wB} {σ σ' : wS} {k : Nat} {q : Nat × va_E} (hk : k < 39) (hT : wT σ'.1 = wT σ.1) (hd : σ'.2.2.2.2 = σ.2.2.2.2) (hX : ∀ j, σ'.1 (39 + j) = σ.1 (39 + j)) (h : (wst B σ).set k q = wst B σ') : (wl B σ).set k q = wl B σ' := by
  rw [wl, List.set_append_left _ _ (by rw [wst_len]; exact hk), h, wl, hT]
  congr 1
  refine List.map_congr_left (fun j _ => ?_)
  unfold wtb wtc
  rw [hd, hX]
/-- the table cells are set -/
theorem wl_set_tb {B : wB} {X : wM} {r : wM × wR} {j : Nat} {g : Nat → Int32} {q : Nat × va_E} (hj : j < 4 * wT X) (hq : q = wtb B (updM X (39 + j) g, r) j) : (wl B (X, r)).set (39 + j) q = wl B (updM X (39 + j) g, r) := by
  have e0 : ∀ k, k < 39 → updM X (39 + j) g k = X k := fun k hk => updM_ne X g (by omega)
  have hT : wT (updM X (39 + j) g) = wT X := by unfold wT; rw [e0 0 (by omega)]
  have h1 : wst B (updM X (39 + j) g, r) = wst B (X, r) := by
    unfold wst wTf
    simp only [hT]
    rw [e0 0 (by omega), e0 1 (by omega), e0 2 (by omega), e0 3 (by omega), e0 4 (by omega), e0 5 (by omega), e0 6 (by omega), e0 7 (by omega), e0 8 (by omega), e0 9 (by omega), e0 10 (by omega), e0 11 (by omega), e0 12 (by omega), e0 13 (by omega), e0 14 (by omega), e0 15 (by omega), e0 16 (by omega), e0 17 (by omega), e0 18 (by omega), e0 19 (by omega), e0 20 (by omega)]
  apply List.ext_getElem?
  intro i
  by_cases hi : i < 39
  · rw [List.getElem?_set_ne (by omega), wl, wl, List.getElem?_append_left (by rw [wst_len]; exact hi), List.getElem?_append_left (by rw [wst_len]; exact hi), h1]
  · obtain ⟨a, rfl⟩ : ∃ a, i = 39 + a := ⟨i - 39, by omega⟩
    have hlen : (wl B (X, r)).length = 39 + 4 * wT X := by simp [wl, wst_len]
    by_cases ha : a = j
    · subst ha
      rw [List.getElem?_set_self (by rw [hlen]; omega), wl_tb _ _ (by show a < 4 * wT (updM X (39 + a) g); rw [hT]; exact hj), hq]
    · rw [List.getElem?_set_ne (by omega)]
      by_cases hb : a < 4 * wT X
      · rw [wl_tb _ _ hb, wl_tb _ _ (by show a < 4 * wT (updM X (39 + j) g); rw [hT]; exact hb)]
        show some ((r.2.2.2 a, wtc B X r.2.2.2 a (a % 4)) : Nat × va_E) = some (r.2.2.2 a, wtc B (updM X (39 + j) g) r.2.2.2 a (a % 4))
        rw [wtc_upd _ _ _ _ _ (by omega)]
      · have l2 : (wl B (updM X (39 + j) g, r)).length = 39 + 4 * wT X := by
          show (wst B _ ++ (List.range (4 * wT (updM X (39 + j) g))).map _).length = _
          rw [hT]
          simp [wst_len]
        rw [List.getElem?_eq_none (by rw [hlen]; omega), List.getElem?_eq_none (by rw [l2]; omega)]
theorem cv_0 (B : wB) (X Y : wM) (r : wR) : (wl B (X, Y, r))[0]? = some (wad B 0, .inr (9, [.ref (wad B 1), .ref (wad B 3), .ref (wad B 8), .ref (wad B 10), .ref (wad B 13), .ref (wad B 16), .ref (wad B 21), .int (X 0 7)])) := wl_st rfl
theorem cv_1 (B : wB) (X Y : wM) (r : wR) : (wl B (X, Y, r))[1]? = some (wad B 1, .inr (6, [.ref (wad B 2), .int (X 1 1), .int (X 1 2)])) := wl_st rfl
theorem cs_1 (B : wB) (X Y : wM) (r : wR) (g : Nat → Int32) : (wl B (X, Y, r)).set 1 (wad B 1, .inr (6, [.ref (wad B 2), .int (g 1), .int (g 2)])) = wl B (updM X 1 g, Y, r) := wl_set_st (by decide) rfl rfl (fun j => updM_ne X g (by omega)) rfl
theorem cv_2 (B : wB) (X Y : wM) (r : wR) : (wl B (X, Y, r))[2]? = some (wad B 2, .inl (wdA B 0, 20, .inl (X 2))) := wl_st rfl
theorem cs_2 (B : wB) (X Y : wM) (r : wR) (g : Nat → Int32) : (wl B (X, Y, r)).set 2 (wad B 2, .inl (wdA B 0, 20, .inl g)) = wl B (updM X 2 g, Y, r) := wl_set_st (by decide) rfl rfl (fun j => updM_ne X g (by omega)) rfl
theorem cv_3 (B : wB) (X Y : wM) (r : wR) : (wl B (X, Y, r))[3]? = some (wad B 3, .inr (5, [.ref (wad B 1), .ref (wad B 4), .ref (wad B 5), .ref (wad B 6), .ref (wad B 7), .int (X 3 5)])) := wl_st rfl
theorem cs_3 (B : wB) (X Y : wM) (r : wR) (g : Nat → Int32) : (wl B (X, Y, r)).set 3 (wad B 3, .inr (5, [.ref (wad B 1), .ref (wad B 4), .ref (wad B 5), .ref (wad B 6), .ref (wad B 7), .int (g 5)])) = wl B (updM X 3 g, Y, r) := wl_set_st (by decide) rfl rfl (fun j => updM_ne X g (by omega)) rfl
theorem cv_4 (B : wB) (X Y : wM) (r : wR) : (wl B (X, Y, r))[4]? = some (wad B 4, .inl (wdA B 1, 40, .inl (X 4))) := wl_st rfl
theorem cs_4 (B : wB) (X Y : wM) (r : wR) (g : Nat → Int32) : (wl B (X, Y, r)).set 4 (wad B 4, .inl (wdA B 1, 40, .inl g)) = wl B (updM X 4 g, Y, r) := wl_set_st (by decide) rfl rfl (fun j => updM_ne X g (by omega)) rfl
theorem cv_5 (B : wB) (X Y : wM) (r : wR) : (wl B (X, Y, r))[5]? = some (wad B 5, .inl (wdA B 0, 40, .inl (X 5))) := wl_st rfl
theorem cs_5 (B : wB) (X Y : wM) (r : wR) (g : Nat → Int32) : (wl B (X, Y, r)).set 5 (wad B 5, .inl (wdA B 0, 40, .inl g)) = wl B (updM X 5 g, Y, r) := wl_set_st (by decide) rfl rfl (fun j => updM_ne X g (by omega)) rfl
theorem cv_6 (B : wB) (X Y : wM) (r : wR) : (wl B (X, Y, r))[6]? = some (wad B 6, .inl (wdA B 0, 40, .inl (X 6))) := wl_st rfl
theorem cs_6 (B : wB) (X Y : wM) (r : wR) (g : Nat → Int32) : (wl B (X, Y, r)).set 6 (wad B 6, .inl (wdA B 0, 40, .inl g)) = wl B (updM X 6 g, Y, r) := wl_set_st (by decide) rfl rfl (fun j => updM_ne X g (by omega)) rfl
theorem cv_7 (B : wB) (X Y : wM) (r : wR) : (wl B (X, Y, r))[7]? = some (wad B 7, .inl (wdA B 0, 40, .inl (X 7))) := wl_st rfl
theorem cs_7 (B : wB) (X Y : wM) (r : wR) (g : Nat → Int32) : (wl B (X, Y, r)).set 7 (wad B 7, .inl (wdA B 0, 40, .inl g)) = wl B (updM X 7 g, Y, r) := wl_set_st (by decide) rfl rfl (fun j => updM_ne X g (by omega)) rfl
theorem cv_8 (B : wB) (X Y : wM) (r : wR) : (wl B (X, Y, r))[8]? = some (wad B 8, .inr (3, [.ref (wad B 3), .ref (wad B 9), .int (X 8 2), .int (X 8 3), .int (X 8 4), .int (X 8 5), .int (X 8 6)])) := wl_st rfl
theorem cs_8 (B : wB) (X Y : wM) (r : wR) (g : Nat → Int32) : (wl B (X, Y, r)).set 8 (wad B 8, .inr (3, [.ref (wad B 3), .ref (wad B 9), .int (g 2), .int (g 3), .int (g 4), .int (g 5), .int (g 6)])) = wl B (updM X 8 g, Y, r) := wl_set_st (by decide) rfl rfl (fun j => updM_ne X g (by omega)) rfl
theorem cv_9 (B : wB) (X Y : wM) (r : wR) : (wl B (X, Y, r))[9]? = some (wad B 9, .inl (wdA B 2, 1600, .inl (X 9))) := wl_st rfl
theorem cs_9 (B : wB) (X Y : wM) (r : wR) (g : Nat → Int32) : (wl B (X, Y, r)).set 9 (wad B 9, .inl (wdA B 2, 1600, .inl g)) = wl B (updM X 9 g, Y, r) := wl_set_st (by decide) rfl rfl (fun j => updM_ne X g (by omega)) rfl
theorem cv_10 (B : wB) (X Y : wM) (r : wR) : (wl B (X, Y, r))[10]? = some (wad B 10, .inr (8, [.ref (wad B 3), .ref (wad B 8), .ref (wad B 11), .ref (wad B 12), .int (X 10 4), .int (X 10 5)])) := wl_st rfl
theorem cs_10 (B : wB) (X Y : wM) (r : wR) (g : Nat → Int32) : (wl B (X, Y, r)).set 10 (wad B 10, .inr (8, [.ref (wad B 3), .ref (wad B 8), .ref (wad B 11), .ref (wad B 12), .int (g 4), .int (g 5)])) = wl B (updM X 10 g, Y, r) := wl_set_st (by decide) rfl rfl (fun j => updM_ne X g (by omega)) rfl
theorem cv_11 (B : wB) (X Y : wM) (r : wR) : (wl B (X, Y, r))[11]? = some (wad B 11, .inl (wdA B 1, 40, .inl (X 11))) := wl_st rfl
theorem cs_11 (B : wB) (X Y : wM) (r : wR) (g : Nat → Int32) : (wl B (X, Y, r)).set 11 (wad B 11, .inl (wdA B 1, 40, .inl g)) = wl B (updM X 11 g, Y, r) := wl_set_st (by decide) rfl rfl (fun j => updM_ne X g (by omega)) rfl
theorem cv_12 (B : wB) (X Y : wM) (r : wR) : (wl B (X, Y, r))[12]? = some (wad B 12, .inl (wdA B 0, 24, .inl (X 12))) := wl_st rfl
theorem cs_12 (B : wB) (X Y : wM) (r : wR) (g : Nat → Int32) : (wl B (X, Y, r)).set 12 (wad B 12, .inl (wdA B 0, 24, .inl g)) = wl B (updM X 12 g, Y, r) := wl_set_st (by decide) rfl rfl (fun j => updM_ne X g (by omega)) rfl
theorem cv_13 (B : wB) (X Y : wM) (r : wR) : (wl B (X, Y, r))[13]? = some (wad B 13, .inr (8, [.ref (wad B 3), .ref (wad B 8), .ref (wad B 14), .ref (wad B 15), .int (X 13 4), .int (X 13 5)])) := wl_st rfl
theorem cs_13 (B : wB) (X Y : wM) (r : wR) (g : Nat → Int32) : (wl B (X, Y, r)).set 13 (wad B 13, .inr (8, [.ref (wad B 3), .ref (wad B 8), .ref (wad B 14), .ref (wad B 15), .int (g 4), .int (g 5)])) = wl B (updM X 13 g, Y, r) := wl_set_st (by decide) rfl rfl (fun j => updM_ne X g (by omega)) rfl
theorem cv_14 (B : wB) (X Y : wM) (r : wR) : (wl B (X, Y, r))[14]? = some (wad B 14, .inl (wdA B 1, 40, .inl (X 14))) := wl_st rfl
theorem cs_14 (B : wB) (X Y : wM) (r : wR) (g : Nat → Int32) : (wl B (X, Y, r)).set 14 (wad B 14, .inl (wdA B 1, 40, .inl g)) = wl B (updM X 14 g, Y, r) := wl_set_st (by decide) rfl rfl (fun j => updM_ne X g (by omega)) rfl
theorem cv_15 (B : wB) (X Y : wM) (r : wR) : (wl B (X, Y, r))[15]? = some (wad B 15, .inl (wdA B 0, 24, .inl (X 15))) := wl_st rfl
theorem cs_15 (B : wB) (X Y : wM) (r : wR) (g : Nat → Int32) : (wl B (X, Y, r)).set 15 (wad B 15, .inl (wdA B 0, 24, .inl g)) = wl B (updM X 15 g, Y, r) := wl_set_st (by decide) rfl rfl (fun j => updM_ne X g (by omega)) rfl
theorem cv_16 (B : wB) (X Y : wM) (r : wR) : (wl B (X, Y, r))[16]? = some (wad B 16, .inr (4, [.ref (wad B 3), .ref (wad B 8), .ref (wad B 10), .ref (wad B 17), .ref (wad B 18), .ref (wad B 19), .ref (wad B 20), .int (X 16 7), .int (X 16 8), .int (X 16 9)])) := wl_st rfl
theorem cs_16 (B : wB) (X Y : wM) (r : wR) (g : Nat → Int32) : (wl B (X, Y, r)).set 16 (wad B 16, .inr (4, [.ref (wad B 3), .ref (wad B 8), .ref (wad B 10), .ref (wad B 17), .ref (wad B 18), .ref (wad B 19), .ref (wad B 20), .int (g 7), .int (g 8), .int (g 9)])) = wl B (updM X 16 g, Y, r) := wl_set_st (by decide) rfl rfl (fun j => updM_ne X g (by omega)) rfl
theorem cv_17 (B : wB) (X Y : wM) (r : wR) : (wl B (X, Y, r))[17]? = some (wad B 17, .inl (wdA B 0, 40, .inl (X 17))) := wl_st rfl
theorem cs_17 (B : wB) (X Y : wM) (r : wR) (g : Nat → Int32) : (wl B (X, Y, r)).set 17 (wad B 17, .inl (wdA B 0, 40, .inl g)) = wl B (updM X 17 g, Y, r) := wl_set_st (by decide) rfl rfl (fun j => updM_ne X g (by omega)) rfl
theorem cv_18 (B : wB) (X Y : wM) (r : wR) : (wl B (X, Y, r))[18]? = some (wad B 18, .inl (wdA B 0, 400, .inl (X 18))) := wl_st rfl
theorem cs_18 (B : wB) (X Y : wM) (r : wR) (g : Nat → Int32) : (wl B (X, Y, r)).set 18 (wad B 18, .inl (wdA B 0, 400, .inl g)) = wl B (updM X 18 g, Y, r) := wl_set_st (by decide) rfl rfl (fun j => updM_ne X g (by omega)) rfl
theorem cv_19 (B : wB) (X Y : wM) (r : wR) : (wl B (X, Y, r))[19]? = some (wad B 19, .inl (wdA B 0, 400, .inl (X 19))) := wl_st rfl
theorem cs_19 (B : wB) (X Y : wM) (r : wR) (g : Nat → Int32) : (wl B (X, Y, r)).set 19 (wad B 19, .inl (wdA B 0, 400, .inl g)) = wl B (updM X 19 g, Y, r) := wl_set_st (by decide) rfl rfl (fun j => updM_ne X g (by omega)) rfl
theorem cv_20 (B : wB) (X Y : wM) (r : wR) : (wl B (X, Y, r))[20]? = some (wad B 20, .inl (wdA B 0, 400, .inl (X 20))) := wl_st rfl
theorem cs_20 (B : wB) (X Y : wM) (r : wR) (g : Nat → Int32) : (wl B (X, Y, r)).set 20 (wad B 20, .inl (wdA B 0, 400, .inl g)) = wl B (updM X 20 g, Y, r) := wl_set_st (by decide) rfl rfl (fun j => updM_ne X g (by omega)) rfl
theorem cv_22 (B : wB) (X Y : wM) (r : wR) : (wl B (X, Y, r))[22]? = some (wad B 22, .inr (10, [.ref (wad B 23), .ref (wad B 24), .ref (wad B 25), .ref (wad B 26), .ref (wad B 27), .ref (wad B 28), .ref (wad B 29), .ref (wad B 30), .ref (wad B 31), .ref (wad B 32), .ref (wad B 33), .ref (wad B 34), .ref (wad B 35), .ref (wad B 36), .int (Y 22 14), .int (Y 22 15), .int (Y 22 16), .int (Y 22 17), .int (Y 22 18), .int (Y 22 19), .int (Y 22 20), .int (Y 22 21), .int (Y 22 22), .int (Y 22 23), .int (Y 22 24), .int (Y 22 25)])) := wl_st rfl
theorem cs_22 (B : wB) (X Y : wM) (r : wR) (g : Nat → Int32) : (wl B (X, Y, r)).set 22 (wad B 22, .inr (10, [.ref (wad B 23), .ref (wad B 24), .ref (wad B 25), .ref (wad B 26), .ref (wad B 27), .ref (wad B 28), .ref (wad B 29), .ref (wad B 30), .ref (wad B 31), .ref (wad B 32), .ref (wad B 33), .ref (wad B 34), .ref (wad B 35), .ref (wad B 36), .int (g 14), .int (g 15), .int (g 16), .int (g 17), .int (g 18), .int (g 19), .int (g 20), .int (g 21), .int (g 22), .int (g 23), .int (g 24), .int (g 25)])) = wl B (X, updM Y 22 g, r) := wl_set_st (by decide) rfl rfl (fun _ => rfl) rfl
theorem cv_23 (B : wB) (X Y : wM) (r : wR) : (wl B (X, Y, r))[23]? = some (wad B 23, .inl (wdA B 0, 20, .inl (Y 23))) := wl_st rfl
theorem cs_23 (B : wB) (X Y : wM) (r : wR) (g : Nat → Int32) : (wl B (X, Y, r)).set 23 (wad B 23, .inl (wdA B 0, 20, .inl g)) = wl B (X, updM Y 23 g, r) := wl_set_st (by decide) rfl rfl (fun _ => rfl) rfl
theorem cv_24 (B : wB) (X Y : wM) (r : wR) : (wl B (X, Y, r))[24]? = some (wad B 24, .inl (wdA B 0, 40, .inl (Y 24))) := wl_st rfl
theorem cs_24 (B : wB) (X Y : wM) (r : wR) (g : Nat → Int32) : (wl B (X, Y, r)).set 24 (wad B 24, .inl (wdA B 0, 40, .inl g)) = wl B (X, updM Y 24 g, r) := wl_set_st (by decide) rfl rfl (fun _ => rfl) rfl
theorem cv_25 (B : wB) (X Y : wM) (r : wR) : (wl B (X, Y, r))[25]? = some (wad B 25, .inl (wdA B 0, 40, .inl (Y 25))) := wl_st rfl
theorem cs_25 (B : wB) (X Y : wM) (r : wR) (g : Nat → Int32) : (wl B (X, Y, r)).set 25 (wad B 25, .inl (wdA B 0, 40, .inl g)) = wl B (X, updM Y 25 g, r) := wl_set_st (by decide) rfl rfl (fun _ => rfl) rfl
theorem cv_26 (B : wB) (X Y : wM) (r : wR) : (wl B (X, Y, r))[26]? = some (wad B 26, .inl (wdA B 0, 40, .inl (Y 26))) := wl_st rfl
theorem cs_26 (B : wB) (X Y : wM) (r : wR) (g : Nat → Int32) : (wl B (X, Y, r)).set 26 (wad B 26, .inl (wdA B 0, 40, .inl g)) = wl B (X, updM Y 26 g, r) := wl_set_st (by decide) rfl rfl (fun _ => rfl) rfl
theorem cv_27 (B : wB) (X Y : wM) (r : wR) : (wl B (X, Y, r))[27]? = some (wad B 27, .inl (wdA B 0, 40, .inl (Y 27))) := wl_st rfl
theorem cs_27 (B : wB) (X Y : wM) (r : wR) (g : Nat → Int32) : (wl B (X, Y, r)).set 27 (wad B 27, .inl (wdA B 0, 40, .inl g)) = wl B (X, updM Y 27 g, r) := wl_set_st (by decide) rfl rfl (fun _ => rfl) rfl
theorem cv_28 (B : wB) (X Y : wM) (r : wR) : (wl B (X, Y, r))[28]? = some (wad B 28, .inl (wdA B 0, 24, .inl (Y 28))) := wl_st rfl
theorem cs_28 (B : wB) (X Y : wM) (r : wR) (g : Nat → Int32) : (wl B (X, Y, r)).set 28 (wad B 28, .inl (wdA B 0, 24, .inl g)) = wl B (X, updM Y 28 g, r) := wl_set_st (by decide) rfl rfl (fun _ => rfl) rfl
theorem cv_29 (B : wB) (X Y : wM) (r : wR) : (wl B (X, Y, r))[29]? = some (wad B 29, .inl (wdA B 2, 40, .inl (Y 29))) := wl_st rfl
theorem cs_29 (B : wB) (X Y : wM) (r : wR) (g : Nat → Int32) : (wl B (X, Y, r)).set 29 (wad B 29, .inl (wdA B 2, 40, .inl g)) = wl B (X, updM Y 29 g, r) := wl_set_st (by decide) rfl rfl (fun _ => rfl) rfl
theorem cv_30 (B : wB) (X Y : wM) (r : wR) : (wl B (X, Y, r))[30]? = some (wad B 30, .inl (wdA B 2, 1600, .inl (Y 30))) := wl_st rfl
theorem cs_30 (B : wB) (X Y : wM) (r : wR) (g : Nat → Int32) : (wl B (X, Y, r)).set 30 (wad B 30, .inl (wdA B 2, 1600, .inl g)) = wl B (X, updM Y 30 g, r) := wl_set_st (by decide) rfl rfl (fun _ => rfl) rfl
theorem cv_31 (B : wB) (X Y : wM) (r : wR) : (wl B (X, Y, r))[31]? = some (wad B 31, .inl (wdA B 1, 40, .inl (Y 31))) := wl_st rfl
theorem cs_31 (B : wB) (X Y : wM) (r : wR) (g : Nat → Int32) : (wl B (X, Y, r)).set 31 (wad B 31, .inl (wdA B 1, 40, .inl g)) = wl B (X, updM Y 31 g, r) := wl_set_st (by decide) rfl rfl (fun _ => rfl) rfl
theorem cv_32 (B : wB) (X Y : wM) (r : wR) : (wl B (X, Y, r))[32]? = some (wad B 32, .inl (wdA B 1, 8, .inl (Y 32))) := wl_st rfl
theorem cs_32 (B : wB) (X Y : wM) (r : wR) (g : Nat → Int32) : (wl B (X, Y, r)).set 32 (wad B 32, .inl (wdA B 1, 8, .inl g)) = wl B (X, updM Y 32 g, r) := wl_set_st (by decide) rfl rfl (fun _ => rfl) rfl
theorem cv_33 (B : wB) (X Y : wM) (r : wR) : (wl B (X, Y, r))[33]? = some (wad B 33, .inl (wdA B 1, 192, .inl (Y 33))) := wl_st rfl
theorem cs_33 (B : wB) (X Y : wM) (r : wR) (g : Nat → Int32) : (wl B (X, Y, r)).set 33 (wad B 33, .inl (wdA B 1, 192, .inl g)) = wl B (X, updM Y 33 g, r) := wl_set_st (by decide) rfl rfl (fun _ => rfl) rfl
theorem cv_34 (B : wB) (X Y : wM) (r : wR) : (wl B (X, Y, r))[34]? = some (wad B 34, .inl (wdA B 1, 10, .inl (Y 34))) := wl_st rfl
theorem cs_34 (B : wB) (X Y : wM) (r : wR) (g : Nat → Int32) : (wl B (X, Y, r)).set 34 (wad B 34, .inl (wdA B 1, 10, .inl g)) = wl B (X, updM Y 34 g, r) := wl_set_st (by decide) rfl rfl (fun _ => rfl) rfl
theorem cv_35 (B : wB) (X Y : wM) (r : wR) : (wl B (X, Y, r))[35]? = some (wad B 35, .inl (wdA B 0, 192, .inl (Y 35))) := wl_st rfl
theorem cs_35 (B : wB) (X Y : wM) (r : wR) (g : Nat → Int32) : (wl B (X, Y, r)).set 35 (wad B 35, .inl (wdA B 0, 192, .inl g)) = wl B (X, updM Y 35 g, r) := wl_set_st (by decide) rfl rfl (fun _ => rfl) rfl
theorem cv_36 (B : wB) (X Y : wM) (r : wR) : (wl B (X, Y, r))[36]? = some (wad B 36, .inl (wdA B 0, 8, .inl (Y 36))) := wl_st rfl
theorem cs_36 (B : wB) (X Y : wM) (r : wR) (g : Nat → Int32) : (wl B (X, Y, r)).set 36 (wad B 36, .inl (wdA B 0, 8, .inl g)) = wl B (X, updM Y 36 g, r) := wl_set_st (by decide) rfl rfl (fun _ => rfl) rfl
theorem cv_21 (B : wB) (X Y : wM) (o : Int64) (d : UInt64) (td : Nat → Nat) : (wl B (X, Y, o, d, td))[21]? = some (wad B 21, .inl (wdA B 3, 8, .inr (.inr (.inr (.inr (wTf X td)))))) := wl_st rfl
theorem cv_37 (B : wB) (X Y : wM) (o : Int64) (d : UInt64) (td : Nat → Nat) : (wl B (X, Y, o, d, td))[37]? = some (wad B 37, .inl (wdA B 5, 1, .inr (.inl (wo1 o)))) := wl_st rfl
theorem cv_38 (B : wB) (X Y : wM) (o : Int64) (d : UInt64) (td : Nat → Nat) : (wl B (X, Y, o, d, td))[38]? = some (wad B 38, .inl (wdA B 6, 1, .inr (.inr (.inr (.inl (wo2 d)))))) := wl_st rfl
theorem cs_37 (B : wB) (X Y : wM) (o : Int64) (d : UInt64) (td : Nat → Nat) (v : Int64) : (wl B (X, Y, o, d, td)).set 37 (wad B 37, .inl (wdA B 5, 1, .inr (.inl (wo1 v)))) = wl B (X, Y, v, d, td) := wl_set_st (by decide) rfl rfl (fun _ => rfl) rfl
theorem cs_38 (B : wB) (X Y : wM) (o : Int64) (d : UInt64) (td : Nat → Nat) (v : UInt64) : (wl B (X, Y, o, d, td)).set 38 (wad B 38, .inl (wdA B 6, 1, .inr (.inr (.inr (.inl (wo2 v)))))) = wl B (X, Y, o, v, td) := wl_set_st (by decide) rfl rfl (fun _ => rfl) rfl
theorem ct_0 (B : wB) (X Y : wM) (o : Int64) (d : UInt64) (td : Nat → Nat) {i : Nat} (h : i < wT X) : (wl B (X, Y, o, d, td))[39 + 4 * i]? = some (td (4 * i), .inr (7, [.int (X (39 + 4 * i) 0), .ref (td (4 * i + 1)), .int (X (39 + 4 * i) 2), .ref (td (4 * i + 2)), .int (X (39 + 4 * i) 4)])) := by
  rw [wl_tb B (X, Y, o, d, td) (j := 4 * i) (by show 4 * i < 4 * wT X; omega), wtb, show 4 * i % 4 = 0 by omega]
  rfl
theorem ct_1 (B : wB) (X Y : wM) (o : Int64) (d : UInt64) (td : Nat → Nat) {i : Nat} (h : i < wT X) : (wl B (X, Y, o, d, td))[39 + (4 * i + 1)]? = some (td (4 * i + 1), .inl (wdA B 0, 24, .inl (X (39 + (4 * i + 1))))) := by
  rw [wl_tb B (X, Y, o, d, td) (j := 4 * i + 1) (by show 4 * i + 1 < 4 * wT X; omega), wtb, show (4 * i + 1) % 4 = 1 by omega]
  rfl
theorem ct_2 (B : wB) (X Y : wM) (o : Int64) (d : UInt64) (td : Nat → Nat) {i : Nat} (h : i < wT X) : (wl B (X, Y, o, d, td))[39 + (4 * i + 2)]? = some (td (4 * i + 2), .inr (0, [.ref (td (4 * i + 2 + 1)), .int (X (39 + (4 * i + 2)) 1), .int (X (39 + (4 * i + 2)) 2), .int (X (39 + (4 * i + 2)) 3)])) := by
  rw [wl_tb B (X, Y, o, d, td) (j := 4 * i + 2) (by show 4 * i + 2 < 4 * wT X; omega), wtb, show (4 * i + 2) % 4 = 2 by omega]
  rfl
theorem ct_3 (B : wB) (X Y : wM) (o : Int64) (d : UInt64) (td : Nat → Nat) {i : Nat} (h : i < wT X) : (wl B (X, Y, o, d, td))[39 + (4 * i + 3)]? = some (td (4 * i + 3), .inl (wdA B 4, (X (39 + (4 * i + 3)) 1000).toNatClampNeg, .inl (X (39 + (4 * i + 3))))) := by
  rw [wl_tb B (X, Y, o, d, td) (j := 4 * i + 3) (by show 4 * i + 3 < 4 * wT X; omega), wtb, show (4 * i + 3) % 4 = 3 by omega]
  rfl
/-- isUndone of a table is set -/
theorem cs_undone (B : wB) (X Y : wM) (o : Int64) (d : UInt64) (td : Nat → Nat) {i : Nat} (h : i < wT X) (v : Int32) : (wl B (X, Y, o, d, td)).set (39 + 4 * i) (td (4 * i), .inr (7, [.int (X (39 + 4 * i) 0), .ref (td (4 * i + 1)), .int (X (39 + 4 * i) 2), .ref (td (4 * i + 2)), .int v])) = wl B (updM X (39 + 4 * i) (upd (X (39 + 4 * i)) 4 v), Y, o, d, td) := by
  refine wl_set_tb (by omega) ?_
  rw [wtb, show 4 * i % 4 = 0 by omega, wtc]
  simp only [updM_self]
  rfl
end
section
/-! the judgement J: from this point of the method's own frame, with these locals and this stack over the world σ, the method's end is reached -/
/-- words that hold at every state of the run: of the tables alone, kept by warming -/
def wgood : Cond → Bool
  | .arrayClass _ => true
  | c => c.onTables && c.keepsCast
def wTs : List Cond := lw_tbl.filter wgood
def wW (U : State) : Prop := ∀ c ∈ wTs, ∀ a : Array Value, c.before a U = true
theorem wTs_in {c : Cond} (i : Nat) (h : lw_tbl[i]? = some c) (g : wgood c = true) : c ∈ wTs := List.mem_filter.mpr ⟨List.mem_of_getElem? h, g⟩
theorem wgood_any {c : Cond} (g : wgood c = true) {a a' : Array Value} {U : State} (h : c.before a U = true) : c.before a' U = true := by
  cases c <;> first | (simp [wgood, Cond.onTables] at g; done) | exact h
theorem wgood_at {c : Cond} (g : wgood c = true) {a : Array Value} {s U : State} (hW : s.WarmedH U.vm) (h : c.before a s = true) : c.before a U = true := by
  by_cases hA : ∃ ty, c = .arrayClass ty
  · exact word_at hW (Or.inr hA) h
  · have g2 : (c.onTables && c.keepsCast) = true := by
      cases c <;> first | exact g | exact absurd ⟨_, rfl⟩ hA
    simp only [Bool.and_eq_true] at g2
    have h1 : c.before a (s.setVm U.vm) = true := Cond.before_shiftedCast (State.Shifted.of_warmed hW) c g2.2 h
    have h2 := (Cond.onTables_vm (A := a) (A' := a) (U := s) (U' := U) U.vm c g2.1).symm.trans h1
    rwa [State.setVm_self] at h2
theorem wW.warm {s U : State} (hW : s.WarmedH U.vm) (h : wW s) : wW U := fun c hc a => wgood_at (List.mem_filter.mp hc).2 hW (h c hc a)
theorem wW.of {s : State} {a : Array Value} (h : ∀ c ∈ lw_tbl, c.before a s = true) : wW s := fun c hc _ => wgood_any (List.mem_filter.mp hc).2 (h c (List.mem_filter.mp hc).1)
/-- the texts of the class's exceptions, and which exception is of no class of which handler -/
def wStr (strs : List (String × Nat × String)) (B : wB) (U : State) : Prop := ∀ (i : Nat) (q : String × Nat × String), strs[i]? = some q → vk_R q.1 q.2.1 q.2.2 (wsa B i) U
def wNc (ncs : List (String × String)) (U : State) : Prop := ∀ (i : Nat) (q : String × String), ncs[i]? = some q → va_Nc q.1 q.2 U
abbrev wStrs : List (String × Nat × String) := []
abbrev wNcs : List (String × String) := []
def wE (B : wB) (U : State) : Prop := vx_Zq Bundle.tN "UNASSIGNED_STACK" Bundle.steD (wA B) U U.heap ∧ vx_Zq Bundle.tN "SUPPRESSED_SENTINEL" Bundle.listD (wA B) U U.heap ∧ wStr wStrs B U ∧ wNc wNcs U
theorem wE.warm {B : wB} {s U : State} (hW : s.WarmedH U.vm) (hq : ∀ a : Nat, a < s.heap.size → ¬ wA B a → U.heap[a]? = s.heap[a]?) (h : wE B s) : wE B U :=
  ⟨vx_Zq.moved hW.alike (h.1.kept hq), vx_Zq.moved hW.alike (h.2.1.kept hq), fun i q hi => vk_R.warm hW (h.2.2.1 i q hi), fun i q hi => va_Nc.moved hW.alike (h.2.2.2 i q hi)⟩
/-- what every contract gives at its start -/
def wPre (B : wB) (σ : wS) (U : State) : Prop := va_P (wdG B) vwCl (wl B σ) U.heap ∧ va_K (wdG B) vwCl (wty B) U ∧ va_D (wA B) (wl B σ) ∧ wW U ∧ wE B U ∧ B.1 ≤ U.heap.size
def wPost (B : wB) (σ : wS) (t : State) : Prop := va_P (wdG B) vwCl (wl B σ) t.heap ∧ va_D (wA B) (wl B σ)
def wQc (B : wB) (RP : Option Value → wS → Prop) : Array Value → State → Outcome → State → Prop := fun _ st oc t => (∃ (v : Option Value) (σ : wS), oc = .returned v ∧ RP v σ ∧ wPost B σ t) ∧ va_F (wA B) st t
def wXC (B : wB) (XP : String → wS → Prop) : String → State → State → Prop := fun E st t => (∃ σ : wS, XP E σ ∧ wPost B σ t) ∧ va_F (wA B) st t
/-- a method's contract: it returns, and RP says what and to which world; or it throws, and XP says what -/
def wMet (l : Launch) (B : wB) (y : MethodName) (cc : ByteArray) (nL : Nat) (ret : Option FieldType) (fr lo mc ms : Nat) (As : List Value) (σ : wS) (RP : Option Value → wS → Prop) (XP : String → wS → Prop) : Prop :=
  vx_Met l y [.code y cc nL ret] { frames := fr, cells := mc, slots := ms, locals := lo } (va_Pc As (wPre B σ)) (wQc B RP) (wXC B XP) mc ms (wA B)
theorem wPre.blind {B : wB} {σ : wS} {As : List Value} : FrameBlind (va_Pc As (wPre B σ)) := fun a U g mk q => by
  obtain ⟨q0, q1, q2, q3, q4, q5, q6⟩ := q
  have hW : U.WarmedH (U.calling g mk a).vm := State.WarmedH.refl U
  exact ⟨q0, q1, va_K.moved (u := U) (U := U.calling g mk a) (Vm.Alike.refl U.vm) q2, q3, q4.warm (U := U.calling g mk a) hW, wE.warm (U := U.calling g mk a) hW (fun _ _ _ => rfl) q5, q6⟩
abbrev wG : Type := (Program × Launch × Env × Room × State) × (MethodId × Array Value × List Frame × Method × Code) × (State → Prop) × (Nat × Nat) × wB
abbrev gp (G : wG) := G.1.1
abbrev gl (G : wG) := G.1.2.1
abbrev ge (G : wG) := G.1.2.2.1
abbrev gR (G : wG) := G.1.2.2.2.1
abbrev gs (G : wG) := G.1.2.2.2.2
abbrev gm (G : wG) := G.2.1.1
abbrev ga (G : wG) := G.2.1.2.1
abbrev gbl (G : wG) := G.2.1.2.2.1
abbrev gme (G : wG) := G.2.1.2.2.2.1
abbrev gc (G : wG) := G.2.1.2.2.2.2
abbrev gQ (G : wG) := G.2.2.1
abbrev gmc (G : wG) := G.2.2.2.1.1
abbrev gms (G : wG) := G.2.2.2.1.2
abbrev gB (G : wG) := G.2.2.2.2
def J (G : wG) (nL kc ks pc : Nat) (lv : List (Nat × Value)) (st : List Value) (σ : wS) : Prop :=
  ∀ (ls : Array Slot) (H : Heap) (locs : List Loc) (cells slots : Nat), lv_has ls nL lv → va_P (wdG (gB G)) vwCl (wl (gB G) σ) H → va_D (wA (gB G)) (wl (gB G) σ) → va_S (wA (gB G)) (gs G).heap H locs → cells + kc ≤ gmc G → slots + ks ≤ gms G →
    W (gp G) (gl G) (ge G) (gR G) (gs G) (gm G) (ga G) (gbl G) (gme G) (gc G) H locs cells slots (gQ G) (F0 (gm G) pc ls st)
/-- the same with an exception of the class E thrown over the frame -/
def JX (G : wG) (nL kc ks pc : Nat) (lv : List (Nat × Value)) (σ : wS) (E : String) : Prop :=
  ∀ (ls : Array Slot) (H : Heap) (locs : List Loc) (cells slots : Nat) (rest : List Value) (ce : Cell) (q : Addr), lv_has ls nL lv → va_P (wdG (gB G)) vwCl (wl (gB G) σ) H → va_D (wA (gB G)) (wl (gB G) σ) → va_S (wA (gB G)) (gs G).heap H locs → cells + kc ≤ gmc G → slots + ks ≤ gms G →
    H[q]? = some ce → ce.vm = .none → (gs G).vm.findClass E = some ce.cls →
    vx_W (gp G) (gl G) (ge G) (gR G) (gs G) (gm G) (ga G) (gbl G) (gme G) (gc G) H locs cells slots (gQ G) (F0 (gm G) pc ls rest) q
def wOk (G : wG) (own : String) (cc : ByteArray) (nL fr lo : Nat) : Prop :=
  ((gp G).tables.exec = Jvm.exec ∧ (gc G).code = cc ∧ (gc G).maxLocals = nL ∧ (gs G).vm.findClass own = some (gm G).cls ∧ wW (gs G)) ∧ va_K (wdG (gB G)) vwCl (wty (gB G)) (gs G) ∧ (gl G).stackTraces = false ∧ wE (gB G) (gs G) ∧ (gB G).1 ≤ (gs G).heap.size ∧ (gme G).locks = false ∧ fr ≤ (gR G).frames ∧ lo ≤ (gR G).locals ∧ gmc G ≤ (gR G).cells ∧ gms G ≤ (gR G).slots
/-- the method's own end -/
def wEnd (G : wG) (ret : Option FieldType) (RP : Option Value → wS → Prop) (XP : String → wS → Prop) : Prop :=
  (gme G).sig.returnType = ret ∧ gQ G = vx_MQ (gbl G) (wQc (gB G) RP) (wXC (gB G) XP) (ga G) (gs G) (gmc G) (gms G) (wA (gB G))
def wNoTab (G : wG) : Prop := ∀ x ∈ (gc G).exceptionTable.toList, False
theorem wMet.of {l : Launch} {B : wB} {y : MethodName} {cc : ByteArray} {nL : Nat} {ret : Option FieldType} {fr lo mc ms : Nat} {As : List Value} {σ : wS} {RP : Option Value → wS → Prop} {XP : String → wS → Prop} (hl : l.stackTraces = false) (hy : plainName y.cls = true) (hn : (lg_sl As).length ≤ nL)
    (h : ∀ G : wG, gB G = B → gl G = l → wOk G y.cls cc nL fr lo → wEnd G ret RP XP → wNoTab G → J G nL mc ms 0 (lv_args 0 As) [] σ) : wMet l B y cc nL ret fr lo mc ms As σ RP XP := by
  refine vx_ofW (cc := cc) (maxL := nL) (ret := ret) hy rfl ?_
  intro p e s m args below meth c s₁ Bd hml ht hv
  obtain ⟨rfl, hP, hK, hD, hw, hE, hb⟩ := hv
  have hlv := lv_entry As hn
  rw [lg_entry_eq]
  exact h ((p, l, e, { frames := fr, cells := mc, slots := ms, locals := lo }, s), (m, As.toArray, below, meth, c), vx_MQ below (wQc B RP) (wXC B XP) As.toArray s mc ms (wA B), (mc, ms), B) rfl rfl
    ⟨⟨Bd.exec, Bd.bytes, hml, findClass_of_methodNamed Bd.named, hw⟩, hK, hl, hE, hb, Bd.notSynchronized, Nat.le_refl _, Nat.le_refl _, Nat.le_refl _, Nat.le_refl _⟩ ⟨Bd.returns, rfl⟩ ht _ s.heap [] 0 0 hlv hP hD va_S.rf (by show 0 + mc ≤ mc; omega) (by show 0 + ms ≤ ms; omega)
section JR
variable {G : wG} {own : String} {cc : ByteArray} {nL fr lo kc ks pc : Nat} {lv : List (Nat × Value)} {st : List Value} {σ : wS}
theorem J.weak {kc' ks' : Nat} (hc : kc ≤ kc') (hs : ks ≤ ks') (h : J G nL kc ks pc lv st σ) : J G nL kc' ks' pc lv st σ := fun ls H locs cells slots h1 h2 h3 h4 h5 h6 => h ls H locs cells slots h1 h2 h3 h4 (by omega) (by omega)
/-- locals that are not needed any more are dropped, others put in order -/
theorem j_lv {lv' : List (Nat × Value)} (is : List Nat) (hl : lv_pick lv is = lv') (h : J G nL kc ks pc lv' st σ) : J G nL kc ks pc lv st σ := fun ls H locs cells slots h1 => h ls H locs cells slots (lv_sub h1 is hl)
theorem wOk.word (hG : wOk G own cc nL fr lo) {c : Cond} (h : c ∈ wTs) : c.before (ga G) (gs G) = true := hG.1.2.2.2.2 c h _
theorem j_iconst (hG : wOk G own cc nL fr lo) {n : Int} {v : Int32} (d : decode cc pc = .ok (.iconst n, 1)) (hv : Int32.ofInt n = v) (kk : J G nL kc ks (pc + 1) lv (.int v :: st) σ) : J G nL kc ks pc lv (st) σ :=
  fun ls H locs cells slots h1 h2 h3 h4 h5 h6 => lv_iconst hG.1.1 hG.1.2.1 d hv (kk ls H locs cells slots h1 h2 h3 h4 h5 h6)
theorem j_bipush (hG : wOk G own cc nL fr lo) {n : Int} {v : Int32} (d : decode cc pc = .ok (.bipush n, 2)) (hv : (Int8.ofInt n).toInt32 = v) (kk : J G nL kc ks (pc + 2) lv (.int v :: st) σ) : J G nL kc ks pc lv (st) σ :=
  fun ls H locs cells slots h1 h2 h3 h4 h5 h6 => lv_bipush hG.1.1 hG.1.2.1 d hv (kk ls H locs cells slots h1 h2 h3 h4 h5 h6)
theorem j_sipush (hG : wOk G own cc nL fr lo) {n : Int} {v : Int32} (d : decode cc pc = .ok (.sipush n, 3)) (hv : (Int16.ofInt n).toInt32 = v) (kk : J G nL kc ks (pc + 3) lv (.int v :: st) σ) : J G nL kc ks pc lv (st) σ :=
  fun ls H locs cells slots h1 h2 h3 h4 h5 h6 => lv_sipush hG.1.1 hG.1.2.1 d hv (kk ls H locs cells slots h1 h2 h3 h4 h5 h6)
theorem j_lconst (hG : wOk G own cc nL fr lo) {n : Fin 2} {v : Int64} (d : decode cc pc = .ok (.lconst n, 1)) (hv : Int64.ofNat (n : Nat) = v) (kk : J G nL kc ks (pc + 1) lv (.long v :: st) σ) : J G nL kc ks pc lv (st) σ :=
  fun ls H locs cells slots h1 h2 h3 h4 h5 h6 => lv_lconst hG.1.1 hG.1.2.1 d hv (kk ls H locs cells slots h1 h2 h3 h4 h5 h6)
theorem j_fconst0 (hG : wOk G own cc nL fr lo) (d : decode cc pc = .ok (.fconst 0, 1)) (kk : J G nL kc ks (pc + 1) lv (.float 0 :: st) σ) : J G nL kc ks pc lv (st) σ :=
  fun ls H locs cells slots h1 h2 h3 h4 h5 h6 => lv_fconst0 hG.1.1 hG.1.2.1 d (kk ls H locs cells slots h1 h2 h3 h4 h5 h6)
theorem j_dconst0 (hG : wOk G own cc nL fr lo) (d : decode cc pc = .ok (.dconst 0, 1)) (kk : J G nL kc ks (pc + 1) lv (.double 0 :: st) σ) : J G nL kc ks pc lv (st) σ :=
  fun ls H locs cells slots h1 h2 h3 h4 h5 h6 => lv_dconst0 hG.1.1 hG.1.2.1 d (kk ls H locs cells slots h1 h2 h3 h4 h5 h6)
theorem j_null (hG : wOk G own cc nL fr lo) (d : decode cc pc = .ok (.aconst_null, 1)) (kk : J G nL kc ks (pc + 1) lv (.null :: st) σ) : J G nL kc ks pc lv (st) σ :=
  fun ls H locs cells slots h1 h2 h3 h4 h5 h6 => lv_null hG.1.1 hG.1.2.1 d (kk ls H locs cells slots h1 h2 h3 h4 h5 h6)
theorem j_iload_n (hG : wOk G own cc nL fr lo) (j : Nat) {i : Nat} {k : Fin 4} {x : Int32} (d : decode cc pc = .ok (.iload_n k, 1)) (hi : (k : Nat) = i) (hl : lv[j]? = some (i, .int x)) (kk : J G nL kc ks (pc + 1) lv (.int x :: st) σ) : J G nL kc ks pc lv st σ :=
  fun ls H locs cells slots h1 h2 h3 h4 h5 h6 => lv_iload_n hG.1.1 hG.1.2.1 d hi (lv_at h1 j hl) (kk ls H locs cells slots h1 h2 h3 h4 h5 h6)
theorem j_iload (hG : wOk G own cc nL fr lo) (j : Nat) {i : Nat} {x : Int32} (d : decode cc pc = .ok (.iload i, 2)) (hl : lv[j]? = some (i, .int x)) (kk : J G nL kc ks (pc + 2) lv (.int x :: st) σ) : J G nL kc ks pc lv st σ :=
  fun ls H locs cells slots h1 h2 h3 h4 h5 h6 => lv_iload hG.1.1 hG.1.2.1 d (lv_at h1 j hl) (kk ls H locs cells slots h1 h2 h3 h4 h5 h6)
theorem j_istore_n (hG : wOk G own cc nL fr lo) {i : Nat} {k : Fin 4} {x : Int32} {lv' : List (Nat × Value)} (d : decode cc pc = .ok (.istore_n k, 1)) (hi : (k : Nat) = i) (hn : i < nL) (hl : (i, Value.int x) :: lv.filter (fun q => !(q.1 == i) && !(q.1 + 1 == i && q.2.category == 2)) = lv') (kk : J G nL kc ks (pc + 1) lv' st σ) : J G nL kc ks pc lv (.int x :: st) σ :=
  fun ls H locs cells slots h1 h2 h3 h4 h5 h6 => lv_istore_n hG.1.1 hG.1.2.1 d hi h1 hn hl (fun ls' h' => kk ls' H locs cells slots h' h2 h3 h4 h5 h6)
theorem j_istore (hG : wOk G own cc nL fr lo) {i : Nat} {x : Int32} {lv' : List (Nat × Value)} (d : decode cc pc = .ok (.istore i, 2)) (hn : i < nL) (hl : (i, Value.int x) :: lv.filter (fun q => !(q.1 == i) && !(q.1 + 1 == i && q.2.category == 2)) = lv') (kk : J G nL kc ks (pc + 2) lv' st σ) : J G nL kc ks pc lv (.int x :: st) σ :=
  fun ls H locs cells slots h1 h2 h3 h4 h5 h6 => lv_istore hG.1.1 hG.1.2.1 d h1 hn hl (fun ls' h' => kk ls' H locs cells slots h' h2 h3 h4 h5 h6)
theorem j_lload_n (hG : wOk G own cc nL fr lo) (j : Nat) {i : Nat} {k : Fin 4} {x : Int64} (d : decode cc pc = .ok (.lload_n k, 1)) (hi : (k : Nat) = i) (hl : lv[j]? = some (i, .long x)) (kk : J G nL kc ks (pc + 1) lv (.long x :: st) σ) : J G nL kc ks pc lv st σ :=
  fun ls H locs cells slots h1 h2 h3 h4 h5 h6 => lv_lload_n hG.1.1 hG.1.2.1 d hi (lv_at h1 j hl) (kk ls H locs cells slots h1 h2 h3 h4 h5 h6)
theorem j_lload (hG : wOk G own cc nL fr lo) (j : Nat) {i : Nat} {x : Int64} (d : decode cc pc = .ok (.lload i, 2)) (hl : lv[j]? = some (i, .long x)) (kk : J G nL kc ks (pc + 2) lv (.long x :: st) σ) : J G nL kc ks pc lv st σ :=
  fun ls H locs cells slots h1 h2 h3 h4 h5 h6 => lv_lload hG.1.1 hG.1.2.1 d (lv_at h1 j hl) (kk ls H locs cells slots h1 h2 h3 h4 h5 h6)
theorem j_lstore_n (hG : wOk G own cc nL fr lo) {i : Nat} {k : Fin 4} {x : Int64} {lv' : List (Nat × Value)} (d : decode cc pc = .ok (.lstore_n k, 1)) (hi : (k : Nat) = i) (hn : i + 1 < nL) (hl : (i, Value.long x) :: lv.filter (fun q => !(q.1 == i) && (!(q.1 == i + 1) && !(q.1 + 1 == i && q.2.category == 2))) = lv') (kk : J G nL kc ks (pc + 1) lv' st σ) : J G nL kc ks pc lv (.long x :: st) σ :=
  fun ls H locs cells slots h1 h2 h3 h4 h5 h6 => lv_lstore_n hG.1.1 hG.1.2.1 d hi h1 hn hl (fun ls' h' => kk ls' H locs cells slots h' h2 h3 h4 h5 h6)
theorem j_lstore (hG : wOk G own cc nL fr lo) {i : Nat} {x : Int64} {lv' : List (Nat × Value)} (d : decode cc pc = .ok (.lstore i, 2)) (hn : i + 1 < nL) (hl : (i, Value.long x) :: lv.filter (fun q => !(q.1 == i) && (!(q.1 == i + 1) && !(q.1 + 1 == i && q.2.category == 2))) = lv') (kk : J G nL kc ks (pc + 2) lv' st σ) : J G nL kc ks pc lv (.long x :: st) σ :=
  fun ls H locs cells slots h1 h2 h3 h4 h5 h6 => lv_lstore hG.1.1 hG.1.2.1 d h1 hn hl (fun ls' h' => kk ls' H locs cells slots h' h2 h3 h4 h5 h6)
theorem j_aload_n (hG : wOk G own cc nL fr lo) (j : Nat) {i : Nat} {k : Fin 4} {x : Nat} (d : decode cc pc = .ok (.aload_n k, 1)) (hi : (k : Nat) = i) (hl : lv[j]? = some (i, .ref x)) (kk : J G nL kc ks (pc + 1) lv (.ref x :: st) σ) : J G nL kc ks pc lv st σ :=
  fun ls H locs cells slots h1 h2 h3 h4 h5 h6 => lv_aload_n hG.1.1 hG.1.2.1 d hi (lv_at h1 j hl) (kk ls H locs cells slots h1 h2 h3 h4 h5 h6)
theorem j_aload (hG : wOk G own cc nL fr lo) (j : Nat) {i : Nat} {x : Nat} (d : decode cc pc = .ok (.aload i, 2)) (hl : lv[j]? = some (i, .ref x)) (kk : J G nL kc ks (pc + 2) lv (.ref x :: st) σ) : J G nL kc ks pc lv st σ :=
  fun ls H locs cells slots h1 h2 h3 h4 h5 h6 => lv_aload hG.1.1 hG.1.2.1 d (lv_at h1 j hl) (kk ls H locs cells slots h1 h2 h3 h4 h5 h6)
theorem j_astore_n (hG : wOk G own cc nL fr lo) {i : Nat} {k : Fin 4} {x : Nat} {lv' : List (Nat × Value)} (d : decode cc pc = .ok (.astore_n k, 1)) (hi : (k : Nat) = i) (hn : i < nL) (hl : (i, Value.ref x) :: lv.filter (fun q => !(q.1 == i) && !(q.1 + 1 == i && q.2.category == 2)) = lv') (kk : J G nL kc ks (pc + 1) lv' st σ) : J G nL kc ks pc lv (.ref x :: st) σ :=
  fun ls H locs cells slots h1 h2 h3 h4 h5 h6 => lv_astore_n hG.1.1 hG.1.2.1 d hi h1 hn hl (fun ls' h' => kk ls' H locs cells slots h' h2 h3 h4 h5 h6)
theorem j_astore (hG : wOk G own cc nL fr lo) {i : Nat} {x : Nat} {lv' : List (Nat × Value)} (d : decode cc pc = .ok (.astore i, 2)) (hn : i < nL) (hl : (i, Value.ref x) :: lv.filter (fun q => !(q.1 == i) && !(q.1 + 1 == i && q.2.category == 2)) = lv') (kk : J G nL kc ks (pc + 2) lv' st σ) : J G nL kc ks pc lv (.ref x :: st) σ :=
  fun ls H locs cells slots h1 h2 h3 h4 h5 h6 => lv_astore hG.1.1 hG.1.2.1 d h1 hn hl (fun ls' h' => kk ls' H locs cells slots h' h2 h3 h4 h5 h6)
theorem j_fload_n (hG : wOk G own cc nL fr lo) (j : Nat) {i : Nat} {k : Fin 4} {x : UInt32} (d : decode cc pc = .ok (.fload_n k, 1)) (hi : (k : Nat) = i) (hl : lv[j]? = some (i, .float x)) (kk : J G nL kc ks (pc + 1) lv (.float x :: st) σ) : J G nL kc ks pc lv st σ :=
  fun ls H locs cells slots h1 h2 h3 h4 h5 h6 => lv_fload_n hG.1.1 hG.1.2.1 d hi (lv_at h1 j hl) (kk ls H locs cells slots h1 h2 h3 h4 h5 h6)
theorem j_fload (hG : wOk G own cc nL fr lo) (j : Nat) {i : Nat} {x : UInt32} (d : decode cc pc = .ok (.fload i, 2)) (hl : lv[j]? = some (i, .float x)) (kk : J G nL kc ks (pc + 2) lv (.float x :: st) σ) : J G nL kc ks pc lv st σ :=
  fun ls H locs cells slots h1 h2 h3 h4 h5 h6 => lv_fload hG.1.1 hG.1.2.1 d (lv_at h1 j hl) (kk ls H locs cells slots h1 h2 h3 h4 h5 h6)
theorem j_fstore_n (hG : wOk G own cc nL fr lo) {i : Nat} {k : Fin 4} {x : UInt32} {lv' : List (Nat × Value)} (d : decode cc pc = .ok (.fstore_n k, 1)) (hi : (k : Nat) = i) (hn : i < nL) (hl : (i, Value.float x) :: lv.filter (fun q => !(q.1 == i) && !(q.1 + 1 == i && q.2.category == 2)) = lv') (kk : J G nL kc ks (pc + 1) lv' st σ) : J G nL kc ks pc lv (.float x :: st) σ :=
  fun ls H locs cells slots h1 h2 h3 h4 h5 h6 => lv_fstore_n hG.1.1 hG.1.2.1 d hi h1 hn hl (fun ls' h' => kk ls' H locs cells slots h' h2 h3 h4 h5 h6)
theorem j_fstore (hG : wOk G own cc nL fr lo) {i : Nat} {x : UInt32} {lv' : List (Nat × Value)} (d : decode cc pc = .ok (.fstore i, 2)) (hn : i < nL) (hl : (i, Value.float x) :: lv.filter (fun q => !(q.1 == i) && !(q.1 + 1 == i && q.2.category == 2)) = lv') (kk : J G nL kc ks (pc + 2) lv' st σ) : J G nL kc ks pc lv (.float x :: st) σ :=
  fun ls H locs cells slots h1 h2 h3 h4 h5 h6 => lv_fstore hG.1.1 hG.1.2.1 d h1 hn hl (fun ls' h' => kk ls' H locs cells slots h' h2 h3 h4 h5 h6)
theorem j_dload_n (hG : wOk G own cc nL fr lo) (j : Nat) {i : Nat} {k : Fin 4} {x : UInt64} (d : decode cc pc = .ok (.dload_n k, 1)) (hi : (k : Nat) = i) (hl : lv[j]? = some (i, .double x)) (kk : J G nL kc ks (pc + 1) lv (.double x :: st) σ) : J G nL kc ks pc lv st σ :=
  fun ls H locs cells slots h1 h2 h3 h4 h5 h6 => lv_dload_n hG.1.1 hG.1.2.1 d hi (lv_at h1 j hl) (kk ls H locs cells slots h1 h2 h3 h4 h5 h6)
theorem j_dload (hG : wOk G own cc nL fr lo) (j : Nat) {i : Nat} {x : UInt64} (d : decode cc pc = .ok (.dload i, 2)) (hl : lv[j]? = some (i, .double x)) (kk : J G nL kc ks (pc + 2) lv (.double x :: st) σ) : J G nL kc ks pc lv st σ :=
  fun ls H locs cells slots h1 h2 h3 h4 h5 h6 => lv_dload hG.1.1 hG.1.2.1 d (lv_at h1 j hl) (kk ls H locs cells slots h1 h2 h3 h4 h5 h6)
theorem j_dstore_n (hG : wOk G own cc nL fr lo) {i : Nat} {k : Fin 4} {x : UInt64} {lv' : List (Nat × Value)} (d : decode cc pc = .ok (.dstore_n k, 1)) (hi : (k : Nat) = i) (hn : i + 1 < nL) (hl : (i, Value.double x) :: lv.filter (fun q => !(q.1 == i) && (!(q.1 == i + 1) && !(q.1 + 1 == i && q.2.category == 2))) = lv') (kk : J G nL kc ks (pc + 1) lv' st σ) : J G nL kc ks pc lv (.double x :: st) σ :=
  fun ls H locs cells slots h1 h2 h3 h4 h5 h6 => lv_dstore_n hG.1.1 hG.1.2.1 d hi h1 hn hl (fun ls' h' => kk ls' H locs cells slots h' h2 h3 h4 h5 h6)
theorem j_dstore (hG : wOk G own cc nL fr lo) {i : Nat} {x : UInt64} {lv' : List (Nat × Value)} (d : decode cc pc = .ok (.dstore i, 2)) (hn : i + 1 < nL) (hl : (i, Value.double x) :: lv.filter (fun q => !(q.1 == i) && (!(q.1 == i + 1) && !(q.1 + 1 == i && q.2.category == 2))) = lv') (kk : J G nL kc ks (pc + 2) lv' st σ) : J G nL kc ks pc lv (.double x :: st) σ :=
  fun ls H locs cells slots h1 h2 h3 h4 h5 h6 => lv_dstore hG.1.1 hG.1.2.1 d h1 hn hl (fun ls' h' => kk ls' H locs cells slots h' h2 h3 h4 h5 h6)
theorem j_iinc (hG : wOk G own cc nL fr lo) (j : Nat) {i : Nat} {n : Int} {x v : Int32} {lv' : List (Nat × Value)} (d : decode cc pc = .ok (.iinc i n, 3)) (hk : lv[j]? = some (i, .int x)) (hv : x + Int32.ofInt n = v) (hn : i < nL) (hl : (i, Value.int v) :: lv.filter (fun q => !(q.1 == i) && !(q.1 + 1 == i && q.2.category == 2)) = lv') (kk : J G nL kc ks (pc + 3) lv' st σ) : J G nL kc ks pc lv st σ :=
  fun ls H locs cells slots h1 h2 h3 h4 h5 h6 => lv_iinc hG.1.1 hG.1.2.1 d h1 hk hv hn hl (fun ls' h' => kk ls' H locs cells slots h' h2 h3 h4 h5 h6)
theorem j_iadd (hG : wOk G own cc nL fr lo) {x y : Int32} (d : decode cc pc = .ok (.iadd, 1)) (kk : J G nL kc ks (pc + 1) lv (.int (x + y) :: st) σ) : J G nL kc ks pc lv (.int y :: .int x :: st) σ :=
  fun ls H locs cells slots h1 h2 h3 h4 h5 h6 => lv_iadd hG.1.1 hG.1.2.1 d (kk ls H locs cells slots h1 h2 h3 h4 h5 h6)
theorem j_isub (hG : wOk G own cc nL fr lo) {x y : Int32} (d : decode cc pc = .ok (.isub, 1)) (kk : J G nL kc ks (pc + 1) lv (.int (x - y) :: st) σ) : J G nL kc ks pc lv (.int y :: .int x :: st) σ :=
  fun ls H locs cells slots h1 h2 h3 h4 h5 h6 => lv_isub hG.1.1 hG.1.2.1 d (kk ls H locs cells slots h1 h2 h3 h4 h5 h6)
theorem j_imul (hG : wOk G own cc nL fr lo) {x y : Int32} (d : decode cc pc = .ok (.imul, 1)) (kk : J G nL kc ks (pc + 1) lv (.int (x * y) :: st) σ) : J G nL kc ks pc lv (.int y :: .int x :: st) σ :=
  fun ls H locs cells slots h1 h2 h3 h4 h5 h6 => lv_imul hG.1.1 hG.1.2.1 d (kk ls H locs cells slots h1 h2 h3 h4 h5 h6)
theorem j_iand (hG : wOk G own cc nL fr lo) {x y : Int32} (d : decode cc pc = .ok (.iand, 1)) (kk : J G nL kc ks (pc + 1) lv (.int (x &&& y) :: st) σ) : J G nL kc ks pc lv (.int y :: .int x :: st) σ :=
  fun ls H locs cells slots h1 h2 h3 h4 h5 h6 => lv_iand hG.1.1 hG.1.2.1 d (kk ls H locs cells slots h1 h2 h3 h4 h5 h6)
theorem j_ior (hG : wOk G own cc nL fr lo) {x y : Int32} (d : decode cc pc = .ok (.ior, 1)) (kk : J G nL kc ks (pc + 1) lv (.int (x ||| y) :: st) σ) : J G nL kc ks pc lv (.int y :: .int x :: st) σ :=
  fun ls H locs cells slots h1 h2 h3 h4 h5 h6 => lv_ior hG.1.1 hG.1.2.1 d (kk ls H locs cells slots h1 h2 h3 h4 h5 h6)
theorem j_ixor (hG : wOk G own cc nL fr lo) {x y : Int32} (d : decode cc pc = .ok (.ixor, 1)) (kk : J G nL kc ks (pc + 1) lv (.int (x ^^^ y) :: st) σ) : J G nL kc ks pc lv (.int y :: .int x :: st) σ :=
  fun ls H locs cells slots h1 h2 h3 h4 h5 h6 => lv_ixor hG.1.1 hG.1.2.1 d (kk ls H locs cells slots h1 h2 h3 h4 h5 h6)
theorem j_ishl (hG : wOk G own cc nL fr lo) {x y : Int32} (d : decode cc pc = .ok (.ishl, 1)) (kk : J G nL kc ks (pc + 1) lv (.int (x <<< (y &&& 31)) :: st) σ) : J G nL kc ks pc lv (.int y :: .int x :: st) σ :=
  fun ls H locs cells slots h1 h2 h3 h4 h5 h6 => lv_ishl hG.1.1 hG.1.2.1 d (kk ls H locs cells slots h1 h2 h3 h4 h5 h6)
theorem j_ishr (hG : wOk G own cc nL fr lo) {x y : Int32} (d : decode cc pc = .ok (.ishr, 1)) (kk : J G nL kc ks (pc + 1) lv (.int (x >>> (y &&& 31)) :: st) σ) : J G nL kc ks pc lv (.int y :: .int x :: st) σ :=
  fun ls H locs cells slots h1 h2 h3 h4 h5 h6 => lv_ishr hG.1.1 hG.1.2.1 d (kk ls H locs cells slots h1 h2 h3 h4 h5 h6)
theorem j_lmul (hG : wOk G own cc nL fr lo) {x y : Int64} (d : decode cc pc = .ok (.lmul, 1)) (kk : J G nL kc ks (pc + 1) lv (.long (x * y) :: st) σ) : J G nL kc ks pc lv (.long y :: .long x :: st) σ :=
  fun ls H locs cells slots h1 h2 h3 h4 h5 h6 => lv_lmul hG.1.1 hG.1.2.1 d (kk ls H locs cells slots h1 h2 h3 h4 h5 h6)
theorem j_idiv (hG : wOk G own cc nL fr lo) {x y : Int32} (d : decode cc pc = .ok (.idiv, 1)) (hne : ¬ y = 0) (kk : J G nL kc ks (pc + 1) lv (.int (x / y) :: st) σ) : J G nL kc ks pc lv (.int y :: .int x :: st) σ :=
  fun ls H locs cells slots h1 h2 h3 h4 h5 h6 => lv_idiv hG.1.1 hG.1.2.1 d hne (kk ls H locs cells slots h1 h2 h3 h4 h5 h6)
theorem j_irem (hG : wOk G own cc nL fr lo) {x y : Int32} (d : decode cc pc = .ok (.irem, 1)) (hne : ¬ y = 0) (kk : J G nL kc ks (pc + 1) lv (.int (x - x / y * y) :: st) σ) : J G nL kc ks pc lv (.int y :: .int x :: st) σ :=
  fun ls H locs cells slots h1 h2 h3 h4 h5 h6 => lv_irem hG.1.1 hG.1.2.1 d hne (kk ls H locs cells slots h1 h2 h3 h4 h5 h6)
theorem j_ldiv (hG : wOk G own cc nL fr lo) {x y : Int64} (d : decode cc pc = .ok (.ldiv, 1)) (hne : ¬ y = 0) (kk : J G nL kc ks (pc + 1) lv (.long (x / y) :: st) σ) : J G nL kc ks pc lv (.long y :: .long x :: st) σ :=
  fun ls H locs cells slots h1 h2 h3 h4 h5 h6 => lv_ldiv hG.1.1 hG.1.2.1 d hne (kk ls H locs cells slots h1 h2 h3 h4 h5 h6)
theorem j_lcmp (hG : wOk G own cc nL fr lo) {x y : Int64} (d : decode cc pc = .ok (.lcmp, 1)) (kk : J G nL kc ks (pc + 1) lv (.int (lg_cmp x y) :: st) σ) : J G nL kc ks pc lv (.long y :: .long x :: st) σ :=
  fun ls H locs cells slots h1 h2 h3 h4 h5 h6 => W.lcmp hG.1.1 hG.1.2.1 d (kk ls H locs cells slots h1 h2 h3 h4 h5 h6)
theorem j_i2l (hG : wOk G own cc nL fr lo) {x : Int32} (d : decode cc pc = .ok (.i2l, 1)) (kk : J G nL kc ks (pc + 1) lv (.long x.toInt64 :: st) σ) : J G nL kc ks pc lv (.int x :: st) σ :=
  fun ls H locs cells slots h1 h2 h3 h4 h5 h6 => lv_i2l hG.1.1 hG.1.2.1 d rfl (kk ls H locs cells slots h1 h2 h3 h4 h5 h6)
theorem j_i2c (hG : wOk G own cc nL fr lo) {x : Int32} (d : decode cc pc = .ok (.i2c, 1)) (kk : J G nL kc ks (pc + 1) lv (.int (x.toUInt32 % 65536).toInt32 :: st) σ) : J G nL kc ks pc lv (.int x :: st) σ :=
  fun ls H locs cells slots h1 h2 h3 h4 h5 h6 => lv_i2c hG.1.1 hG.1.2.1 d rfl (kk ls H locs cells slots h1 h2 h3 h4 h5 h6)
theorem j_i2f (hG : wOk G own cc nL fr lo) {x : Int32} (d : decode cc pc = .ok (.i2f, 1)) (kk : J G nL kc ks (pc + 1) lv (.float (FP.i2f x) :: st) σ) : J G nL kc ks pc lv (.int x :: st) σ :=
  fun ls H locs cells slots h1 h2 h3 h4 h5 h6 => lv_i2f hG.1.1 hG.1.2.1 d (kk ls H locs cells slots h1 h2 h3 h4 h5 h6)
theorem j_i2d (hG : wOk G own cc nL fr lo) {x : Int32} (d : decode cc pc = .ok (.i2d, 1)) (kk : J G nL kc ks (pc + 1) lv (.double (FP.i2d x) :: st) σ) : J G nL kc ks pc lv (.int x :: st) σ :=
  fun ls H locs cells slots h1 h2 h3 h4 h5 h6 => lv_i2d hG.1.1 hG.1.2.1 d (kk ls H locs cells slots h1 h2 h3 h4 h5 h6)
theorem j_f2d (hG : wOk G own cc nL fr lo) {x : UInt32} (d : decode cc pc = .ok (.f2d, 1)) (hne : vf_n64 (FP.f2d x)) (kk : J G nL kc ks (pc + 1) lv (.double (FP.f2d x) :: st) σ) : J G nL kc ks pc lv (.float x :: st) σ :=
  fun ls H locs cells slots h1 h2 h3 h4 h5 h6 => lv_f2d hG.1.1 hG.1.2.1 d hne (kk ls H locs cells slots h1 h2 h3 h4 h5 h6)
theorem j_fdiv (hG : wOk G own cc nL fr lo) {x y : UInt32} (d : decode cc pc = .ok (.fdiv, 1)) (hne : vf_n32 (FP.fdiv x y)) (kk : J G nL kc ks (pc + 1) lv (.float (FP.fdiv x y) :: st) σ) : J G nL kc ks pc lv (.float y :: .float x :: st) σ :=
  fun ls H locs cells slots h1 h2 h3 h4 h5 h6 => lv_fdiv hG.1.1 hG.1.2.1 d hne (kk ls H locs cells slots h1 h2 h3 h4 h5 h6)
theorem j_ddiv (hG : wOk G own cc nL fr lo) {x y : UInt64} (d : decode cc pc = .ok (.ddiv, 1)) (hne : vf_n64 (FP.ddiv x y)) (kk : J G nL kc ks (pc + 1) lv (.double (FP.ddiv x y) :: st) σ) : J G nL kc ks pc lv (.double y :: .double x :: st) σ :=
  fun ls H locs cells slots h1 h2 h3 h4 h5 h6 => lv_ddiv hG.1.1 hG.1.2.1 d hne (kk ls H locs cells slots h1 h2 h3 h4 h5 h6)
theorem j_fcmp (hG : wOk G own cc nL fr lo) {x y : UInt32} {op : CmpOp} (d : decode cc pc = .ok (.fcmp op, 1)) (kk : J G nL kc ks (pc + 1) lv (.int (Op.cmpValue (FP.fcmp x y) op) :: st) σ) : J G nL kc ks pc lv (.float y :: .float x :: st) σ :=
  fun ls H locs cells slots h1 h2 h3 h4 h5 h6 => lv_fcmp hG.1.1 hG.1.2.1 d (kk ls H locs cells slots h1 h2 h3 h4 h5 h6)
theorem j_dcmp (hG : wOk G own cc nL fr lo) {x y : UInt64} {op : CmpOp} (d : decode cc pc = .ok (.dcmp op, 1)) (kk : J G nL kc ks (pc + 1) lv (.int (Op.cmpValue (FP.dcmp x y) op) :: st) σ) : J G nL kc ks pc lv (.double y :: .double x :: st) σ :=
  fun ls H locs cells slots h1 h2 h3 h4 h5 h6 => lv_dcmp hG.1.1 hG.1.2.1 d (kk ls H locs cells slots h1 h2 h3 h4 h5 h6)
theorem j_dup (hG : wOk G own cc nL fr lo) {va : Value} (d : decode cc pc = .ok (.dup, 1)) (hva : va.category = 1) (kk : J G nL kc ks (pc + 1) lv (va :: va :: st) σ) : J G nL kc ks pc lv (va :: st) σ :=
  fun ls H locs cells slots h1 h2 h3 h4 h5 h6 => lv_dup hG.1.1 hG.1.2.1 d hva (kk ls H locs cells slots h1 h2 h3 h4 h5 h6)
theorem j_pop (hG : wOk G own cc nL fr lo) {va : Value} (d : decode cc pc = .ok (.pop, 1)) (hva : va.category = 1) (kk : J G nL kc ks (pc + 1) lv (st) σ) : J G nL kc ks pc lv (va :: st) σ :=
  fun ls H locs cells slots h1 h2 h3 h4 h5 h6 => lv_pop hG.1.1 hG.1.2.1 d hva (kk ls H locs cells slots h1 h2 h3 h4 h5 h6)
theorem j_dup2 (hG : wOk G own cc nL fr lo) {va vb : Value} (d : decode cc pc = .ok (.dup2, 1)) (hva : va.category = 1) (hvb : vb.category = 1) (kk : J G nL kc ks (pc + 1) lv (va :: vb :: va :: vb :: st) σ) : J G nL kc ks pc lv (va :: vb :: st) σ :=
  fun ls H locs cells slots h1 h2 h3 h4 h5 h6 => lv_dup2_11 hG.1.1 hG.1.2.1 d hva hvb (kk ls H locs cells slots h1 h2 h3 h4 h5 h6)
variable {ρ : Type} {res : ρ}
/-- a part of a run's pure side that is there -/
def inb (i : Int32) (n : Nat) : Bool := !(decide (i < 0)) && decide (i.toNatClampNeg < n)
theorem inb_vp {i : Int32} {n : Nat} (h : inb i n = true) : vp_in i n := by
  simp only [inb, Bool.and_eq_true, Bool.not_eq_true', decide_eq_false_iff_not, decide_eq_true_eq] at h
  unfold vp_in
  exact fun q => q.elim h.1 (fun z => by omega)
def wget {ρ : Type} (n : Nat) (f : Nat → Int32) (i : Int32) (K : Int32 → Option ρ) : Option ρ := if inb i n = true then K (f i.toNatClampNeg) else none
def wput {ρ : Type} (X : wM) (k n : Nat) (i x : Int32) (K : wM → Option ρ) : Option ρ := if inb i n = true then K (updM X k (upd (X k) i.toNatClampNeg x)) else none
def wfld {ρ : Type} (X : wM) (k j : Nat) (x : Int32) (K : wM → Option ρ) : Option ρ := K (updM X k (upd (X k) j x))
def wbd {α ρ : Type} (a : α) (K : α → Option ρ) : Option ρ := K a
def wgd {ρ : Type} (c : Bool) (a : Option ρ) : Option ρ := if c = true then a else none
theorem wget_ok {n : Nat} {f : Nat → Int32} {i : Int32} {K : Int32 → Option ρ} (h : wget n f i K = some res) : vp_in i n ∧ K (f i.toNatClampNeg) = some res := by
  unfold wget at h
  split at h
  · rename_i g; exact ⟨inb_vp g, h⟩
  · cases h
theorem wput_ok {X : wM} {k n : Nat} {i x : Int32} {K : wM → Option ρ} (h : wput X k n i x K = some res) : vp_in i n ∧ K (updM X k (upd (X k) i.toNatClampNeg x)) = some res := by
  unfold wput at h
  split at h
  · rename_i g; exact ⟨inb_vp g, h⟩
  · cases h
theorem wgd_ok {c : Bool} {a : Option ρ} (h : wgd c a = some res) : c = true ∧ a = some res := by
  unfold wgd at h
  split at h
  · rename_i g; exact ⟨g, h⟩
  · cases h
theorem ob {α : Type} {o : Option α} {K : α → Option ρ} (h : o.bind K = some res) : ∃ y, o = some y ∧ K y = some res := Option.bind_eq_some_iff.mp h
theorem j_if_eq (hG : wOk G own cc nL fr lo) {x : Int32} {off : Int} {tgt : Nat} {A B : Option ρ} (d : decode cc pc = .ok (.ifCond .eq off, 3)) (ht : (pc : Int) + off = (tgt : Int)) (h : (if x = 0 then A else B) = some res) (kA : A = some res → J G nL kc ks tgt lv st σ) (kB : B = some res → J G nL kc ks (pc + 3) lv st σ) : J G nL kc ks pc lv (.int x :: st) σ :=
  fun ls H locs cells slots h1 h2 h3 h4 h5 h6 => lv_if_eq hG.1.1 hG.1.2.1 d ht (fun q => kA (by rw [if_pos q] at h; exact h) ls H locs cells slots h1 h2 h3 h4 h5 h6) (fun q => kB (by rw [if_neg q] at h; exact h) ls H locs cells slots h1 h2 h3 h4 h5 h6)
theorem j_if_ne (hG : wOk G own cc nL fr lo) {x : Int32} {off : Int} {tgt : Nat} {A B : Option ρ} (d : decode cc pc = .ok (.ifCond .ne off, 3)) (ht : (pc : Int) + off = (tgt : Int)) (h : (if x = 0 then A else B) = some res) (kA : A = some res → J G nL kc ks (pc + 3) lv st σ) (kB : B = some res → J G nL kc ks tgt lv st σ) : J G nL kc ks pc lv (.int x :: st) σ :=
  fun ls H locs cells slots h1 h2 h3 h4 h5 h6 => lv_if_ne hG.1.1 hG.1.2.1 d ht (fun q => kB (by rw [if_neg q] at h; exact h) ls H locs cells slots h1 h2 h3 h4 h5 h6) (fun q => kA (by rw [if_pos q] at h; exact h) ls H locs cells slots h1 h2 h3 h4 h5 h6)
theorem j_if_lt (hG : wOk G own cc nL fr lo) {x : Int32} {off : Int} {tgt : Nat} {A B : Option ρ} (d : decode cc pc = .ok (.ifCond .lt off, 3)) (ht : (pc : Int) + off = (tgt : Int)) (h : (if x < 0 then A else B) = some res) (kA : A = some res → J G nL kc ks tgt lv st σ) (kB : B = some res → J G nL kc ks (pc + 3) lv st σ) : J G nL kc ks pc lv (.int x :: st) σ :=
  fun ls H locs cells slots h1 h2 h3 h4 h5 h6 => lv_if_lt hG.1.1 hG.1.2.1 d ht (fun q => kA (by rw [if_pos q] at h; exact h) ls H locs cells slots h1 h2 h3 h4 h5 h6) (fun q => kB (by rw [if_neg q] at h; exact h) ls H locs cells slots h1 h2 h3 h4 h5 h6)
theorem j_if_ge (hG : wOk G own cc nL fr lo) {x : Int32} {off : Int} {tgt : Nat} {A B : Option ρ} (d : decode cc pc = .ok (.ifCond .ge off, 3)) (ht : (pc : Int) + off = (tgt : Int)) (h : (if x < 0 then A else B) = some res) (kA : A = some res → J G nL kc ks (pc + 3) lv st σ) (kB : B = some res → J G nL kc ks tgt lv st σ) : J G nL kc ks pc lv (.int x :: st) σ :=
  fun ls H locs cells slots h1 h2 h3 h4 h5 h6 => lv_if_ge hG.1.1 hG.1.2.1 d ht (fun q => kB (by rw [if_neg (Int32.not_lt.mpr q)] at h; exact h) ls H locs cells slots h1 h2 h3 h4 h5 h6) (fun q => kA (by rw [if_pos (Int32.not_le.mp q)] at h; exact h) ls H locs cells slots h1 h2 h3 h4 h5 h6)
theorem j_if_gt (hG : wOk G own cc nL fr lo) {x : Int32} {off : Int} {tgt : Nat} {A B : Option ρ} (d : decode cc pc = .ok (.ifCond .gt off, 3)) (ht : (pc : Int) + off = (tgt : Int)) (h : (if 0 < x then A else B) = some res) (kA : A = some res → J G nL kc ks tgt lv st σ) (kB : B = some res → J G nL kc ks (pc + 3) lv st σ) : J G nL kc ks pc lv (.int x :: st) σ :=
  fun ls H locs cells slots h1 h2 h3 h4 h5 h6 => lv_if_gt hG.1.1 hG.1.2.1 d ht (fun q => kA (by rw [if_pos q] at h; exact h) ls H locs cells slots h1 h2 h3 h4 h5 h6) (fun q => kB (by rw [if_neg q] at h; exact h) ls H locs cells slots h1 h2 h3 h4 h5 h6)
theorem j_if_le (hG : wOk G own cc nL fr lo) {x : Int32} {off : Int} {tgt : Nat} {A B : Option ρ} (d : decode cc pc = .ok (.ifCond .le off, 3)) (ht : (pc : Int) + off = (tgt : Int)) (h : (if 0 < x then A else B) = some res) (kA : A = some res → J G nL kc ks (pc + 3) lv st σ) (kB : B = some res → J G nL kc ks tgt lv st σ) : J G nL kc ks pc lv (.int x :: st) σ :=
  fun ls H locs cells slots h1 h2 h3 h4 h5 h6 => lv_if_le hG.1.1 hG.1.2.1 d ht (fun q => kB (by rw [if_neg (Int32.not_lt.mpr q)] at h; exact h) ls H locs cells slots h1 h2 h3 h4 h5 h6) (fun q => kA (by rw [if_pos (Int32.not_le.mp q)] at h; exact h) ls H locs cells slots h1 h2 h3 h4 h5 h6)
theorem j_icmp_eq (hG : wOk G own cc nL fr lo) {x y : Int32} {off : Int} {tgt : Nat} {A B : Option ρ} (d : decode cc pc = .ok (.if_icmp .eq off, 3)) (ht : (pc : Int) + off = (tgt : Int)) (h : (if x = y then A else B) = some res) (kA : A = some res → J G nL kc ks tgt lv st σ) (kB : B = some res → J G nL kc ks (pc + 3) lv st σ) : J G nL kc ks pc lv (.int y :: .int x :: st) σ :=
  fun ls H locs cells slots h1 h2 h3 h4 h5 h6 => lv_icmp_eq hG.1.1 hG.1.2.1 d ht (fun q => kA (by rw [if_pos q] at h; exact h) ls H locs cells slots h1 h2 h3 h4 h5 h6) (fun q => kB (by rw [if_neg q] at h; exact h) ls H locs cells slots h1 h2 h3 h4 h5 h6)
theorem j_icmp_ne (hG : wOk G own cc nL fr lo) {x y : Int32} {off : Int} {tgt : Nat} {A B : Option ρ} (d : decode cc pc = .ok (.if_icmp .ne off, 3)) (ht : (pc : Int) + off = (tgt : Int)) (h : (if x = y then A else B) = some res) (kA : A = some res → J G nL kc ks (pc + 3) lv st σ) (kB : B = some res → J G nL kc ks tgt lv st σ) : J G nL kc ks pc lv (.int y :: .int x :: st) σ :=
  fun ls H locs cells slots h1 h2 h3 h4 h5 h6 => lv_icmp_ne hG.1.1 hG.1.2.1 d ht (fun q => kB (by rw [if_neg q] at h; exact h) ls H locs cells slots h1 h2 h3 h4 h5 h6) (fun q => kA (by rw [if_pos q] at h; exact h) ls H locs cells slots h1 h2 h3 h4 h5 h6)
theorem j_icmp_lt (hG : wOk G own cc nL fr lo) {x y : Int32} {off : Int} {tgt : Nat} {A B : Option ρ} (d : decode cc pc = .ok (.if_icmp .lt off, 3)) (ht : (pc : Int) + off = (tgt : Int)) (h : (if x < y then A else B) = some res) (kA : A = some res → J G nL kc ks tgt lv st σ) (kB : B = some res → J G nL kc ks (pc + 3) lv st σ) : J G nL kc ks pc lv (.int y :: .int x :: st) σ :=
  fun ls H locs cells slots h1 h2 h3 h4 h5 h6 => lv_icmp_lt hG.1.1 hG.1.2.1 d ht (fun q => kA (by rw [if_pos q] at h; exact h) ls H locs cells slots h1 h2 h3 h4 h5 h6) (fun q => kB (by rw [if_neg q] at h; exact h) ls H locs cells slots h1 h2 h3 h4 h5 h6)
theorem j_icmp_ge (hG : wOk G own cc nL fr lo) {x y : Int32} {off : Int} {tgt : Nat} {A B : Option ρ} (d : decode cc pc = .ok (.if_icmp .ge off, 3)) (ht : (pc : Int) + off = (tgt : Int)) (h : (if x < y then A else B) = some res) (kA : A = some res → J G nL kc ks (pc + 3) lv st σ) (kB : B = some res → J G nL kc ks tgt lv st σ) : J G nL kc ks pc lv (.int y :: .int x :: st) σ :=
  fun ls H locs cells slots h1 h2 h3 h4 h5 h6 => lv_icmp_ge hG.1.1 hG.1.2.1 d ht (fun q => kB (by rw [if_neg (Int32.not_lt.mpr q)] at h; exact h) ls H locs cells slots h1 h2 h3 h4 h5 h6) (fun q => kA (by rw [if_pos (Int32.not_le.mp q)] at h; exact h) ls H locs cells slots h1 h2 h3 h4 h5 h6)
theorem j_icmp_gt (hG : wOk G own cc nL fr lo) {x y : Int32} {off : Int} {tgt : Nat} {A B : Option ρ} (d : decode cc pc = .ok (.if_icmp .gt off, 3)) (ht : (pc : Int) + off = (tgt : Int)) (h : (if y < x then A else B) = some res) (kA : A = some res → J G nL kc ks tgt lv st σ) (kB : B = some res → J G nL kc ks (pc + 3) lv st σ) : J G nL kc ks pc lv (.int y :: .int x :: st) σ :=
  fun ls H locs cells slots h1 h2 h3 h4 h5 h6 => lv_icmp_gt hG.1.1 hG.1.2.1 d ht (fun q => kA (by rw [if_pos q] at h; exact h) ls H locs cells slots h1 h2 h3 h4 h5 h6) (fun q => kB (by rw [if_neg q] at h; exact h) ls H locs cells slots h1 h2 h3 h4 h5 h6)
theorem j_icmp_le (hG : wOk G own cc nL fr lo) {x y : Int32} {off : Int} {tgt : Nat} {A B : Option ρ} (d : decode cc pc = .ok (.if_icmp .le off, 3)) (ht : (pc : Int) + off = (tgt : Int)) (h : (if y < x then A else B) = some res) (kA : A = some res → J G nL kc ks (pc + 3) lv st σ) (kB : B = some res → J G nL kc ks tgt lv st σ) : J G nL kc ks pc lv (.int y :: .int x :: st) σ :=
  fun ls H locs cells slots h1 h2 h3 h4 h5 h6 => lv_icmp_le hG.1.1 hG.1.2.1 d ht (fun q => kB (by rw [if_neg (Int32.not_lt.mpr q)] at h; exact h) ls H locs cells slots h1 h2 h3 h4 h5 h6) (fun q => kA (by rw [if_pos (Int32.not_le.mp q)] at h; exact h) ls H locs cells slots h1 h2 h3 h4 h5 h6)
theorem j_goto (hG : wOk G own cc nL fr lo) {off : Int} {tgt : Nat} (d : decode cc pc = .ok (.goto off, 3)) (ht : (pc : Int) + off = (tgt : Int)) (kk : J G nL kc ks tgt lv st σ) : J G nL kc ks pc lv st σ :=
  fun ls H locs cells slots h1 h2 h3 h4 h5 h6 => lv_goto hG.1.1 hG.1.2.1 d ht (kk ls H locs cells slots h1 h2 h3 h4 h5 h6)
/-- a table's reference that may be null -/
theorem j_ifnull (hG : wOk G own cc nL fr lo) {td : Nat → Nat} {o : Option Nat} {off : Int} {tgt : Nat} {A : Option ρ} {B : Nat → Option ρ} (d : decode cc pc = .ok (.ifnull off, 3)) (ht : (pc : Int) + off = (tgt : Int)) (h : (match o with | none => A | some i => B i) = some res) (kA : o = none → A = some res → J G nL kc ks tgt lv st σ) (kB : ∀ i, o = some i → B i = some res → J G nL kc ks (pc + 3) lv st σ) : J G nL kc ks pc lv (va_rf (o.map td) :: st) σ := by
  intro ls H locs cells slots h1 h2 h3 h4 h5 h6
  cases o with
  | none => exact lv_ifnullN hG.1.1 hG.1.2.1 d ht (kA rfl h ls H locs cells slots h1 h2 h3 h4 h5 h6)
  | some i => exact lv_ifnull hG.1.1 hG.1.2.1 d (kB i rfl h ls H locs cells slots h1 h2 h3 h4 h5 h6)
theorem j_ifnonnull (hG : wOk G own cc nL fr lo) {td : Nat → Nat} {o : Option Nat} {off : Int} {tgt : Nat} {A : Option ρ} {B : Nat → Option ρ} (d : decode cc pc = .ok (.ifnonnull off, 3)) (ht : (pc : Int) + off = (tgt : Int)) (h : (match o with | none => A | some i => B i) = some res) (kA : o = none → A = some res → J G nL kc ks (pc + 3) lv st σ) (kB : ∀ i, o = some i → B i = some res → J G nL kc ks tgt lv st σ) : J G nL kc ks pc lv (va_rf (o.map td) :: st) σ := by
  intro ls H locs cells slots h1 h2 h3 h4 h5 h6
  cases o with
  | none => exact lv_ifnonnullN hG.1.1 hG.1.2.1 d (kA rfl h ls H locs cells slots h1 h2 h3 h4 h5 h6)
  | some i => exact lv_ifnonnull hG.1.1 hG.1.2.1 d ht (kB i rfl h ls H locs cells slots h1 h2 h3 h4 h5 h6)
/-- a class of the world -/
def wCl (ci : Nat) (C : String) (T : u_T) (N : Nat) (ty : Nat → FieldType) : Prop := vwCl[ci]? = some (C, T, N) ∧ (∀ c ∈ u_ws C T N, c ∈ wTs) ∧ (∀ k, k < N → parseFieldDescriptor (T k).2.2.1 = some (ty k)) ∧ ∀ a, a < N → ∀ b, b < N → a ≠ b → (T a).2.1 ≠ (T b).2.1
theorem j_get (hG : wOk G own cc nL fr lo) {ci : Nat} {C : String} {T : u_T} {N : Nat} {ty : Nat → FieldType} (hc : wCl ci C T N ty) (k0 kf : Nat) {index a : Nat} {fs : List Value} {v : Value} (he : (wl (gB G) σ)[k0]? = some (a, .inr (ci, fs))) (hk : kf < N) (hl : Cond.fieldLink own index C (T kf).2.1 (T kf).2.2.1 ∈ wTs) (hd : (T kf).1 = C) (hv : fs[kf]? = some v) (d : decode cc pc = .ok (.getfield index, 3)) (kk : J G nL kc ks (pc + 3) lv (v :: st) σ) : J G nL kc ks pc lv (.ref a :: st) σ :=
  fun ls H locs cells slots h1 h2 h3 h4 h5 h6 => va_get hG.1.1 hG.1.2.1 (Ts := wTs) (fun c q => hG.word q) hc.2.1 hG.1.2.2.2.1 hG.2.1 h2 k0 he hc.1 kf hk (hG.word hl) (fun x q => by rw [← hd]; exact q) hv d (kk ls H locs cells slots h1 h2 h3 h4 h5 h6)
theorem j_putK (hG : wOk G own cc nL fr lo) {ci : Nat} {C : String} {T : u_T} {N : Nat} {ty : Nat → FieldType} (hc : wCl ci C T N ty) (k0 kf : Nat) {index a : Nat} {fs : List Value} {v : Value} {fty : FieldType} {σ' : wS} (he : (wl (gB G) σ)[k0]? = some (a, .inr (ci, fs))) (hk : kf < N) (hl : Cond.fieldLink own index C (T kf).2.1 (T kf).2.2.1 ∈ wTs) (hd : (T kf).1 = C) (hf : (T kf).2.2.2 = false) (hp : parseFieldDescriptor (T kf).2.2.1 = some fty) (hn : narrow fty v = v) (ht : fits fty v = true) (hlen : kf < fs.length) (hset : (wl (gB G) σ).set k0 (a, .inr (ci, fs.set kf v)) = wl (gB G) σ') (d : decode cc pc = .ok (.putfield index, 3)) (kk : J G nL kc ks (pc + 3) lv st σ') : J G nL kc ks pc lv (v :: .ref a :: st) σ :=
  fun ls H locs cells slots h1 h2 h3 h4 h5 h6 => va_put hG.1.1 hG.1.2.1 (Ts := wTs) (fun c q => hG.word q) hc.2.1 ty hc.2.2.1 hc.2.2.2 hG.1.2.2.2.1 hG.2.1 h2 h3 h4 k0 he hc.1 kf hk (hG.word hl) (fun x q => by rw [← hd]; exact q) hf hp hn ht hlen d (fun H1 locs1 g2 g3 g4 => kk ls H1 locs1 cells slots h1 (by rw [← hset]; exact g2) (by rw [← hset]; exact g3) g4 h5 h6)
/-- a field of int is written; X goes on under a new name -/
theorem j_put (hG : wOk G own cc nL fr lo) {ci : Nat} {C : String} {T : u_T} {N : Nat} {ty : Nat → FieldType} (hc : wCl ci C T N ty) (k0 kf : Nat) {index a : Nat} {fs : List Value} {x : Int32} {fty : FieldType} {X : wM} {k : Nat} {K : wM → Option ρ} (sf : wM → wS) (he : (wl (gB G) σ)[k0]? = some (a, .inr (ci, fs))) (hk : kf < N) (hl : Cond.fieldLink own index C (T kf).2.1 (T kf).2.2.1 ∈ wTs) (hd : (T kf).1 = C) (hf : (T kf).2.2.2 = false) (hp : parseFieldDescriptor (T kf).2.2.1 = some fty) (hn : narrow fty (.int x) = .int x) (ht : fits fty (.int x) = true) (hlen : kf < fs.length) (hset : (wl (gB G) σ).set k0 (a, .inr (ci, fs.set kf (.int x))) = wl (gB G) (sf (updM X k (upd (X k) kf x)))) (h : wfld X k kf x K = some res) (d : decode cc pc = .ok (.putfield index, 3)) (kk : ∀ X', K X' = some res → J G nL kc ks (pc + 3) lv st (sf X')) : J G nL kc ks pc lv (.int x :: .ref a :: st) σ :=
  j_putK hG hc k0 kf he hk hl hd hf hp hn ht hlen hset d (kk _ h)
theorem j_iald (hG : wOk G own cc nL fr lo) (k0 : Nat) {a n : Nat} {f : Nat → Int32} {i : Int32} {K : Int32 → Option ρ} (he : (wl (gB G) σ)[k0]? = some (a, .inl (wdA (gB G) 0, n, .inl f))) (h : wget n f i K = some res) (d : decode cc pc = .ok (.iaload, 1)) (kk : ∀ v, K v = some res → J G nL kc ks (pc + 1) lv (.int v :: st) σ) : J G nL kc ks pc lv (.int i :: .ref a :: st) σ :=
  fun ls H locs cells slots h1 h2 h3 h4 h5 h6 => va_iald hG.1.1 hG.1.2.1 hG.2.1 h2 k0 0 he rfl (wget_ok h).1 d (kk _ (wget_ok h).2 ls H locs cells slots h1 h2 h3 h4 h5 h6)
theorem j_zald (hG : wOk G own cc nL fr lo) (k0 : Nat) {a n : Nat} {f : Nat → Int32} {i : Int32} {K : Int32 → Option ρ} (he : (wl (gB G) σ)[k0]? = some (a, .inl (wdA (gB G) 1, n, .inl f))) (h : wget n f i K = some res) (d : decode cc pc = .ok (.baload, 1)) (kk : ∀ v, K v = some res → J G nL kc ks (pc + 1) lv (.int v :: st) σ) : J G nL kc ks pc lv (.int i :: .ref a :: st) σ :=
  fun ls H locs cells slots h1 h2 h3 h4 h5 h6 => va_zald hG.1.1 hG.1.2.1 hG.2.1 h2 k0 1 he rfl (wget_ok h).1 d (kk _ (wget_ok h).2 ls H locs cells slots h1 h2 h3 h4 h5 h6)
theorem j_cald (hG : wOk G own cc nL fr lo) (k0 : Nat) {a n : Nat} {f : Nat → Int32} {i : Int32} {K : Int32 → Option ρ} (he : (wl (gB G) σ)[k0]? = some (a, .inl (wdA (gB G) 2, n, .inl f))) (h : wget n f i K = some res) (d : decode cc pc = .ok (.caload, 1)) (kk : ∀ v, K v = some res → J G nL kc ks (pc + 1) lv (.int v :: st) σ) : J G nL kc ks pc lv (.int i :: .ref a :: st) σ :=
  fun ls H locs cells slots h1 h2 h3 h4 h5 h6 => va_cald hG.1.1 hG.1.2.1 hG.2.1 h2 k0 2 he rfl (wget_ok h).1 d (kk _ (wget_ok h).2 ls H locs cells slots h1 h2 h3 h4 h5 h6)
theorem j_iast (hG : wOk G own cc nL fr lo) (k0 : Nat) {a n k : Nat} {i x : Int32} {X : wM} {K : wM → Option ρ} (sf : wM → wS) (he : (wl (gB G) σ)[k0]? = some (a, .inl (wdA (gB G) 0, n, .inl (X k)))) (hset : ∀ g, (wl (gB G) σ).set k0 (a, .inl (wdA (gB G) 0, n, .inl g)) = wl (gB G) (sf (updM X k g))) (h : wput X k n i x K = some res) (d : decode cc pc = .ok (.iastore, 1)) (kk : ∀ X', K X' = some res → J G nL kc ks (pc + 1) lv st (sf X')) : J G nL kc ks pc lv (.int x :: .int i :: .ref a :: st) σ :=
  fun ls H locs cells slots h1 h2 h3 h4 h5 h6 => va_iast hG.1.1 hG.1.2.1 hG.2.1 h2 h3 h4 k0 0 he rfl (wput_ok h).1 d (fun H1 locs1 g2 g3 g4 => kk _ (wput_ok h).2 ls H1 locs1 cells slots h1 (by rw [← hset]; exact g2) (by rw [← hset]; exact g3) g4 h5 h6)
theorem j_zast (hG : wOk G own cc nL fr lo) (k0 : Nat) {a n k : Nat} {i x : Int32} {X : wM} {K : wM → Option ρ} (sf : wM → wS) (he : (wl (gB G) σ)[k0]? = some (a, .inl (wdA (gB G) 1, n, .inl (X k)))) (hset : ∀ g, (wl (gB G) σ).set k0 (a, .inl (wdA (gB G) 1, n, .inl g)) = wl (gB G) (sf (updM X k g))) (h : wput X k n i (vp_nar .boolean x) K = some res) (d : decode cc pc = .ok (.bastore, 1)) (kk : ∀ X', K X' = some res → J G nL kc ks (pc + 1) lv st (sf X')) : J G nL kc ks pc lv (.int x :: .int i :: .ref a :: st) σ :=
  fun ls H locs cells slots h1 h2 h3 h4 h5 h6 => va_zast hG.1.1 hG.1.2.1 hG.2.1 h2 h3 h4 k0 1 he rfl (wput_ok h).1 d (fun H1 locs1 g2 g3 g4 => kk _ (wput_ok h).2 ls H1 locs1 cells slots h1 (by rw [← hset]; exact g2) (by rw [← hset]; exact g3) g4 h5 h6)
theorem j_cast (hG : wOk G own cc nL fr lo) (k0 : Nat) {a n k : Nat} {i x : Int32} {X : wM} {K : wM → Option ρ} (sf : wM → wS) (he : (wl (gB G) σ)[k0]? = some (a, .inl (wdA (gB G) 2, n, .inl (X k)))) (hset : ∀ g, (wl (gB G) σ).set k0 (a, .inl (wdA (gB G) 2, n, .inl g)) = wl (gB G) (sf (updM X k g))) (h : wput X k n i (vp_nar .char x) K = some res) (d : decode cc pc = .ok (.castore, 1)) (kk : ∀ X', K X' = some res → J G nL kc ks (pc + 1) lv st (sf X')) : J G nL kc ks pc lv (.int x :: .int i :: .ref a :: st) σ :=
  fun ls H locs cells slots h1 h2 h3 h4 h5 h6 => va_cast hG.1.1 hG.1.2.1 hG.2.1 h2 h3 h4 k0 2 he rfl (wput_ok h).1 d (fun H1 locs1 g2 g3 g4 => kk _ (wput_ok h).2 ls H1 locs1 cells slots h1 (by rw [← hset]; exact g2) (by rw [← hset]; exact g3) g4 h5 h6)
/-- the class's tables: the i-th, or null -/
theorem j_aald (hG : wOk G own cc nL fr lo) {X Y : wM} {o : Int64} {dd : UInt64} {td : Nat → Nat} {i : Int32} {K : Option Nat → Option ρ} (h : (if inb i 8 = true then K (if i.toNatClampNeg < wT X then some i.toNatClampNeg else none) else none) = some res) (d : decode cc pc = .ok (.aaload, 1)) (kk : ∀ v, K v = some res → J G nL kc ks (pc + 1) lv (va_rf (v.map (fun i => td (4 * i))) :: st) (X, Y, o, dd, td)) : J G nL kc ks pc lv (.int i :: .ref (wad (gB G) 21) :: st) (X, Y, o, dd, td) := by
  intro ls H locs cells slots h1 h2 h3 h4 h5 h6
  have hin : inb i 8 = true := by
    by_cases q : inb i 8 = true
    · exact q
    · rw [if_neg q] at h; cases h
  rw [if_pos hin] at h
  refine va_aldq hG.1.1 hG.1.2.1 hG.2.1 h2 21 3 (C := "CensusLoom$Table") (cv_21 _ X Y o dd td) rfl (inb_vp hin) d ?_
  have h9 := kk _ h ls H locs cells slots h1 h2 h3 h4 h5 h6
  rw [show (if i.toNatClampNeg < wT X then some i.toNatClampNeg else none).map (fun i => td (4 * i)) = wTf X td i.toNatClampNeg by unfold wTf; split <;> rfl] at h9
  exact h9
theorem j_alen (hG : wOk G own cc nL fr lo) (k0 t0 : Nat) {a : Nat} {ty : FieldType} {x : vp_A} {v : Int32} {cA : ClassId} (he : (wl (gB G) σ)[k0]? = some (a, .inl (cA, x))) (ht : (wty (gB G))[t0]? = some (cA, ty)) (hv : Int32.ofNat x.1 = v) (d : decode cc pc = .ok (.arraylength, 1)) (kk : J G nL kc ks (pc + 1) lv (.int v :: st) σ) : J G nL kc ks pc lv (.ref a :: st) σ :=
  fun ls H locs cells slots h1 h2 h3 h4 h5 h6 => va_alen hG.1.1 hG.1.2.1 hG.2.1 h2 k0 t0 he ht hv d (kk ls H locs cells slots h1 h2 h3 h4 h5 h6)
/-- the law's answer cells -/
theorem vp_in_0 : vp_in 0 1 := inb_vp rfl
theorem z_cl : (0 : Int32).toNatClampNeg = 0 := by decide
theorem j_last (hG : wOk G own cc nL fr lo) {X Y : wM} {o : Int64} {dd : UInt64} {td : Nat → Nat} {v : Int64} (d : decode cc pc = .ok (.lastore, 1)) (kk : J G nL kc ks (pc + 1) lv st (X, Y, v, dd, td)) : J G nL kc ks pc lv (.long v :: .int 0 :: .ref (wad (gB G) 37) :: st) (X, Y, o, dd, td) := by
  intro ls H locs cells slots h1 h2 h3 h4 h5 h6
  refine va_last hG.1.1 hG.1.2.1 hG.2.1 h2 h3 h4 37 5 (cv_37 _ X Y o dd td) rfl vp_in_0 d (fun H1 locs1 g2 g3 g4 => ?_)
  rw [z_cl, wo1_set, cs_37] at g2 g3
  exact kk ls H1 locs1 cells slots h1 g2 g3 g4 h5 h6
theorem j_dast (hG : wOk G own cc nL fr lo) {X Y : wM} {o : Int64} {dd : UInt64} {td : Nat → Nat} {v : UInt64} (d : decode cc pc = .ok (.dastore, 1)) (kk : J G nL kc ks (pc + 1) lv st (X, Y, o, v, td)) : J G nL kc ks pc lv (.double v :: .int 0 :: .ref (wad (gB G) 38) :: st) (X, Y, o, dd, td) := by
  intro ls H locs cells slots h1 h2 h3 h4 h5 h6
  refine va_dast hG.1.1 hG.1.2.1 hG.2.1 h2 h3 h4 38 6 (cv_38 _ X Y o dd td) rfl vp_in_0 d (fun H1 locs1 g2 g3 g4 => ?_)
  rw [z_cl, wo2_set, cs_38] at g2 g3
  exact kk ls H1 locs1 cells slots h1 g2 g3 g4 h5 h6
theorem j_lald (hG : wOk G own cc nL fr lo) {X Y : wM} {o : Int64} {dd : UInt64} {td : Nat → Nat} (d : decode cc pc = .ok (.laload, 1)) (kk : J G nL kc ks (pc + 1) lv (.long o :: st) (X, Y, o, dd, td)) : J G nL kc ks pc lv (.int 0 :: .ref (wad (gB G) 37) :: st) (X, Y, o, dd, td) :=
  fun ls H locs cells slots h1 h2 h3 h4 h5 h6 => va_lald hG.1.1 hG.1.2.1 hG.2.1 h2 37 5 (cv_37 _ X Y o dd td) rfl vp_in_0 d (kk ls H locs cells slots h1 h2 h3 h4 h5 h6)
theorem j_dald (hG : wOk G own cc nL fr lo) {X Y : wM} {o : Int64} {dd : UInt64} {td : Nat → Nat} (d : decode cc pc = .ok (.daload, 1)) (kk : J G nL kc ks (pc + 1) lv (.double dd :: st) (X, Y, o, dd, td)) : J G nL kc ks pc lv (.int 0 :: .ref (wad (gB G) 38) :: st) (X, Y, o, dd, td) :=
  fun ls H locs cells slots h1 h2 h3 h4 h5 h6 => va_dald hG.1.1 hG.1.2.1 hG.2.1 h2 38 6 (cv_38 _ X Y o dd td) rfl vp_in_0 d (kk ls H locs cells slots h1 h2 h3 h4 h5 h6)
theorem j_iret (hG : wOk G own cc nL fr lo) {RP : Option Value → wS → Prop} {XP : String → wS → Prop} (hE : wEnd G (some .int) RP XP) {v : Int32} (h : RP (some (.int v)) σ) (d : decode cc pc = .ok (.ireturn, 1)) : J G nL kc ks pc lv [.int v] σ := by
  intro ls H locs cells slots h1 h2 h3 h4 h5 h6
  rw [hE.2]
  exact W.widen (by omega) (by omega) (vx_ret (W.iret hG.1.1 hG.1.2.1 hE.1 (fun t ht hW => ⟨⟨_, σ, rfl, h, by rw [ht]; exact h2, h3⟩, h4.F ht⟩) h4.2.2 d hG.2.2.2.2.2.1))
theorem j_zret (hG : wOk G own cc nL fr lo) {RP : Option Value → wS → Prop} {XP : String → wS → Prop} {ty : FieldType} (hE : wEnd G (some ty) RP XP) {v : Int32} (hn : narrow ty (.int v) = .int v) (h : RP (some (.int v)) σ) (d : decode cc pc = .ok (.ireturn, 1)) : J G nL kc ks pc lv [.int v] σ := by
  intro ls H locs cells slots h1 h2 h3 h4 h5 h6
  rw [hE.2]
  exact W.widen (by omega) (by omega) (vx_ret (W.zret hG.1.1 hG.1.2.1 hE.1 hn (fun t ht hW => ⟨⟨_, σ, rfl, h, by rw [ht]; exact h2, h3⟩, h4.F ht⟩) h4.2.2 d hG.2.2.2.2.2.1))
theorem j_vret (hG : wOk G own cc nL fr lo) {RP : Option Value → wS → Prop} {XP : String → wS → Prop} (hE : wEnd G none RP XP) (h : RP none σ) (d : decode cc pc = .ok (.return_, 1)) : J G nL kc ks pc lv [] σ := by
  intro ls H locs cells slots h1 h2 h3 h4 h5 h6
  rw [hE.2]
  exact W.widen (by omega) (by omega) (vx_ret (W.vret hG.1.1 hG.1.2.1 hE.1 (fun t ht hW => ⟨⟨_, σ, rfl, h, by rw [ht]; exact h2, h3⟩, h4.F ht⟩) h4.2.2 d hG.2.2.2.2.2.1))
theorem j_aret (hG : wOk G own cc nL fr lo) {RP : Option Value → wS → Prop} {XP : String → wS → Prop} {n : String} (hE : wEnd G (some (.object n)) RP XP) {a : Nat} (h : RP (some (.ref a)) σ) (d : decode cc pc = .ok (.areturn, 1)) : J G nL kc ks pc lv [.ref a] σ := by
  intro ls H locs cells slots h1 h2 h3 h4 h5 h6
  rw [hE.2]
  exact W.widen (by omega) (by omega) (vx_ret (W.aret hG.1.1 hG.1.2.1 hE.1 (Or.inl ⟨n, rfl⟩) (Or.inr ⟨a, rfl⟩) (fun t ht hW => ⟨⟨_, σ, rfl, h, by rw [ht]; exact h2, h3⟩, h4.F ht⟩) h4.2.2 d hG.2.2.2.2.2.1))
theorem wOk.pre (hG : wOk G own cc nL fr lo) {H : Heap} {locs : List Loc} {σ : wS} (h2 : va_P (wdG (gB G)) vwCl (wl (gB G) σ) H) (h3 : va_D (wA (gB G)) (wl (gB G) σ)) (h4 : va_S (wA (gB G)) (gs G).heap H locs) {U : State} (hU : U.heap = H) (hW : (gs G).WarmedH U.vm) : wPre (gB G) σ U := by
  obtain ⟨hA, hK, hl, hE, hb, -⟩ := hG
  refine ⟨by rw [hU]; exact h2, va_K.moved hW.alike hK, h3, wW.warm hW hA.2.2.2.2, wE.warm hW (fun a q1 q2 => by rw [hU]; exact h4.2.1 a q1 q2) hE, ?_⟩
  rw [hU]
  exact Nat.le_trans hb h4.1
/-- any call -/
theorem j_run {mc ms : Nat} {RP : Option Value → wS → Prop} {XP : String → wS → Prop} {rest : List Value} {a : Array Value} (hr : ∀ (ls : Array Slot) (H : Heap) (locs : List Loc) (cells slots : Nat), lv_has ls nL lv → va_P (wdG (gB G)) vwCl (wl (gB G) σ) H → va_D (wA (gB G)) (wl (gB G) σ) → va_S (wA (gB G)) (gs G).heap H locs → cells + (kc + mc) ≤ gmc G → slots + (ks + ms) ≤ gms G →
      vx_Run (gp G) (gl G) (ge G) (gR G) (gs G) (gm G) (ga G) (gbl G) (gme G) (gc G) H locs cells slots mc ms (F0 (gm G) pc ls st) rest (wQc (gB G) RP a) (wXC (gB G) XP) (wA (gB G)))
    (kk : ∀ v σ', RP v σ' → J G nL kc ks (pc + 3) lv (v.toList ++ rest) σ') (kx : ∀ E σ', XP E σ' → JX G nL kc ks pc lv σ' E) : J G nL (kc + mc) (ks + ms) pc lv st σ := by
  intro ls H locs cells slots h1 h2 h3 h4 h5 h6
  intro T hT X
  rcases hr ls H locs cells slots h1 h2 h3 h4 h5 h6 T hT X with ⟨v, st₀, t, T', L, h0, X', hL, e1, e2, ⟨⟨v', σ', hv, hp, hPo⟩, hF⟩, g⟩ | ⟨q, st₀, t, T', L, E, ce, h0, X', hL, e1, e2, ⟨⟨σ', hp, hPo⟩, hF⟩, hce, hcv, hcl, g⟩
  · cases hv
    obtain ⟨k1, k2, k3⟩ := vx_keep h0 e1 h4 (fun _ _ z => z) (fun _ z => z) hL hF
    obtain ⟨t2, a1, b1⟩ := kk v σ' hp ls T'.heap (locs ++ L) (cells + mc) (slots + ms) h1 (by rw [e1]; exact hPo.1) hPo.2 k3 (by omega) (by omega) T' rfl X'
    exact ⟨t2, g t2 a1, b1⟩
  · obtain ⟨k1, k2, k3⟩ := vx_keep h0 e1 h4 (fun _ _ z => z) (fun _ z => z) hL hF
    obtain ⟨t2, a1, b1⟩ := kx E σ' hp ls T'.heap (locs ++ L) (cells + mc) (slots + ms) rest ce q h1 (by rw [e1]; exact hPo.1) hPo.2 k3 (by omega) (by omega) (by rw [e1]; exact hce) hcv hcl T' rfl X'
    exact ⟨t2, g.trans a1, b1⟩
/-- a method's own facts of the tables -/
def wMF (y : MethodName) (cc : ByteArray) (nL : Nat) (ret : Option FieldType) (n : Nat) : Prop := (y.cls ≠ "java/lang/invoke/MethodHandle" ∧ y.cls ≠ "java/lang/invoke/VarHandle") ∧ (parseMethodDescriptor y.desc).map (fun d => d.parameters.length) = some n ∧ Cond.code y cc nL ret ∈ wTs ∧ Cond.initialized y.cls ∈ wTs
def wMFv (y : MethodName) (cc : ByteArray) (nL : Nat) (ret : Option FieldType) (n : Nat) : Prop := wMF y cc nL ret n ∧ Cond.instanceMethod y ∈ wTs ∧ Cond.selects y.cls y y ∈ wTs
def wMFs (y : MethodName) (cc : ByteArray) (nL : Nat) (ret : Option FieldType) (n : Nat) : Prop := wMF y cc nL ret n ∧ Cond.static y ∈ wTs
theorem wMF.cb (hG : wOk G own cc nL fr lo) {y : MethodName} {cc' : ByteArray} {nL' n mc ms fr' lo' index : Nat} {ret : Option FieldType} (mf : wMF y cc' nL' ret n) (ml : Cond.methodLink own index y ∈ wTs) (hfr : fr' + 1 ≤ fr) (hlo : 8 + (nL' + 11) + lo' ≤ lo) : CallB (gR G) (gs G) (ga G) own index y cc' nL' ret [.code y cc' nL' ret] { frames := fr', cells := mc, slots := ms, locals := lo' } mc ms n := by
  obtain ⟨hn, hp, hc, hi⟩ := mf
  refine ⟨rfl, rfl, Nat.le_trans hfr hG.2.2.2.2.2.2.1, Nat.le_trans hlo hG.2.2.2.2.2.2.2.1, fun c hm a' U hW => ?_, List.mem_cons_self, hG.word hc, hG.word hi, hn, fun sig h => ?_, hG.word ml⟩
  · rw [List.mem_singleton.mp hm]
    exact wgood_at (List.mem_filter.mp hc).2 hW (hG.1.2.2.2.2 _ hc _)
  · rw [h] at hp
    exact (Option.some.inj hp).symm
theorem j_callV (hG : wOk G own cc nL fr lo) {y : MethodName} {cc' : ByteArray} {nL' n mc ms fr' lo' index : Nat} {ret : Option FieldType} {b : Addr} {As rest : List Value} {RP : Option Value → wS → Prop} {XP : String → wS → Prop} (ct : wMet (gl G) (gB G) y cc' nL' ret fr' lo' mc ms (.ref b :: As) σ RP XP) (mf : wMFv y cc' nL' ret n) (ml : Cond.methodLink own index y ∈ wTs)
    (k0 : Nat) {ci N : Nat} {T : u_T} {fs : List Value} (he : (wl (gB G) σ)[k0]? = some (b, .inr (ci, fs))) (hc : vwCl[ci]? = some (y.cls, T, N)) (hn : As.length = n) (hst : st = As.reverse ++ .ref b :: rest) (hroom : (rest.map fun v => v.category).sum ≤ 8) (d : decode cc pc = .ok (.invokevirtual index, 3)) (hfr : fr' + 1 ≤ fr) (hlo : 8 + (nL' + 11) + lo' ≤ lo)
    (kk : ∀ v σ', RP v σ' → J G nL kc ks (pc + 3) lv (v.toList ++ rest) σ') (kx : ∀ E σ', XP E σ' → JX G nL kc ks pc lv σ' E) : J G nL (kc + mc) (ks + ms) pc lv st σ := by
  refine j_run (a := (Value.ref b :: As).toArray) (fun ls H locs cells slots h1 h2 h3 h4 h5 h6 => ?_) kk kx
  exact vx_runV (Ts := []) (rest := rest) ⟨hG.1.1, hG.1.2.1, hG.1.2.2.1, hG.1.2.2.2.1, fun c q => absurd q List.not_mem_nil⟩ ct ⟨mf.1.cb hG ml hfr hlo, hG.word mf.2.1, hG.word mf.2.2⟩ ⟨wPre.blind, va_recv hG.2.1 h2 hc he, fun U hU hW => ⟨rfl, hG.pre h2 h3 h4 hU hW⟩⟩ rfl hn h1.1 hst (lv_room hroom) d ⟨by have := hG.2.2.2.2.2.2.2.2.1; omega, by have := hG.2.2.2.2.2.2.2.2.2; omega⟩
theorem j_callS (hG : wOk G own cc nL fr lo) {y : MethodName} {cc' : ByteArray} {nL' n mc ms fr' lo' index : Nat} {ret : Option FieldType} {As rest : List Value} {RP : Option Value → wS → Prop} {XP : String → wS → Prop} (ct : wMet (gl G) (gB G) y cc' nL' ret fr' lo' mc ms As σ RP XP) (mf : wMFs y cc' nL' ret n) (ml : Cond.methodLink own index y ∈ wTs)
    (hn : As.length = n) (hst : st = As.reverse ++ rest) (hroom : (rest.map fun v => v.category).sum ≤ 8) (d : decode cc pc = .ok (.invokestatic index, 3)) (hfr : fr' + 1 ≤ fr) (hlo : 8 + (nL' + 11) + lo' ≤ lo)
    (kk : ∀ v σ', RP v σ' → J G nL kc ks (pc + 3) lv (v.toList ++ rest) σ') (kx : ∀ E σ', XP E σ' → JX G nL kc ks pc lv σ' E) : J G nL (kc + mc) (ks + ms) pc lv st σ := by
  refine j_run (a := As.toArray) (fun ls H locs cells slots h1 h2 h3 h4 h5 h6 => ?_) kk kx
  exact vx_runS (Ts := []) (rest := rest) ⟨hG.1.1, hG.1.2.1, hG.1.2.2.1, hG.1.2.2.2.1, fun c q => absurd q List.not_mem_nil⟩ ct ⟨mf.1.cb hG ml hfr hlo, hG.word mf.2⟩ ⟨wPre.blind, fun U hU hW => ⟨rfl, hG.pre h2 h3 h4 hU hW⟩⟩ rfl hn h1.1 hst (lv_room hroom) d ⟨by have := hG.2.2.2.2.2.2.2.2.1; omega, by have := hG.2.2.2.2.2.2.2.2.2; omega⟩
/-- an exception that passes on to the caller -/
theorem jx_out (hG : wOk G own cc nL fr lo) {ret : Option FieldType} {RP : Option Value → wS → Prop} {XP : String → wS → Prop} (hE : wEnd G ret RP XP) (hT : wNoTab G) {E : String} (h : XP E σ) : JX G nL kc ks pc lv σ E := by
  intro ls H locs cells slots rest ce q h1 h2 h3 h4 h5 h6 hce hcv hcl
  rw [hE.2]
  exact vx_out (fun x hx => (hT x hx).elim) hG.2.2.2.2.2.1 hce hcv hcl (fun t ht hal => ⟨⟨σ, h, by rw [ht]; exact h2, h3⟩, h4.F ht⟩) h4.2.2 (by omega) (by omega)
/-- what 'throw new E(text)' needs of the tables -/
def wTF (own cls text : String) (names : List String) (ik is ic i : Nat) : Prop := (Bundle.fit cls = true ∧ ∀ n ∈ names, Bundle.fit n = true) ∧ Cond.classLink own ik cls ∈ wTs ∧ Cond.initialized cls ∈ wTs ∧ (∀ c ∈ vx_atS own ic cls names, c ∈ wTs) ∧ wStrs[i]? = some (own, is, text)
theorem wTs_ot {c : Cond} (h : c ∈ wTs) : vx_ot c = true := by
  have g := (List.mem_filter.mp h).2
  unfold vx_ot
  cases c <;> first | rfl | (simp [wgood, Cond.onTables] at g; done) | (simp [Cond.onTables]; done)
theorem j_throwS (hG : wOk G own cc nL fr lo) {ret : Option FieldType} {RP : Option Value → wS → Prop} {XP : String → wS → Prop} (hE : wEnd G ret RP XP) (hT : wNoTab G) {cls text : String} {names : List String} {ik is ic i : Nat} (tf : wTF own cls text names ik is ic i)
    (d0 : decode cc pc = .ok (.new ik, 3)) (d3 : decode cc (pc + 3) = .ok (.dup, 1)) (d4 : decode cc (pc + 4) = .ok (.ldc is, 2)) (d6 : decode cc (pc + 6) = .ok (.invokespecial ic, 3)) (d9 : decode cc (pc + 9) = .ok (.athrow, 1)) (hfr : names.length + 3 < fr) (hlo : (st.map fun v => v.category).sum + (13 * (names.length + 1) + 43) ≤ lo) (h : XP cls σ) : J G nL (kc + 1) (ks + 6) pc lv st σ := by
  intro ls H locs cells slots h1 h2 h3 h4 h5 h6
  have r1 := hG.2.2.2.2.2.2.1
  have r2 := hG.2.2.2.2.2.2.2.1
  have r3 := hG.2.2.2.2.2.2.2.2.1
  have r4 := hG.2.2.2.2.2.2.2.2.2
  rw [hE.2]
  obtain ⟨⟨f1, f2⟩, f3, f4, f5, f6⟩ := tf
  refine vx_throwS hG.1.1 hG.1.2.1 hG.2.2.1 (own := own) (cls := cls) (text := text) (names := names) (A := wA (gB G)) hG.1.2.2.2.1 f1 f2 (hG.word f3) (hG.word f4) (hG.2.2.2.1.2.2.1 i _ f6) (fun c q => hG.word (f5 c q)) (fun c q => ?_) hG.2.2.2.1.1 hG.2.2.2.1.2.1 h4 (h1.1.trans hG.1.2.2.1.symm) d0 d3 d4 d6 d9 (fun x hx => (hT x hx).elim) (by omega) (by omega) (by omega) (by omega) hG.2.2.2.2.2.1 (fun t hal hz hk => ⟨⟨σ, h, h2.kept (fun k q hq => hk _ ((h2 k q hq).lt)), h3⟩, Nat.le_trans h4.1 hz, fun q q1 q2 => (hk q (Nat.lt_of_lt_of_le q1 h4.1)).trans (h4.2.1 q q1 q2)⟩) h4.2.2 (by omega) (by omega)
  rcases List.mem_cons.mp q with rfl | q
  · exact wTs_ot f3
  · rcases List.mem_cons.mp q with rfl | q
    · exact wTs_ot f4
    · exact wTs_ot (f5 c q)
end JR
end
