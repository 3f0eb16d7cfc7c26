section
-- ===== PART A: goes FIRST, ahead of the names: the tables' words, and 'selects' of the private methods out of them =====
/-- a private method of a class that the tables say can be made, by its rows of tables_1 -/
def lw_okq (q : MethodName × Nat) : Prop := (q.1.cls ≠ "java/lang/invoke/MethodHandle" ∧ q.1.cls ≠ "java/lang/invoke/VarHandle") ∧ Cond.instantiable q.1.cls q.2 ∈ tables_1 ∧ Cond.privateMethod q.1 ∈ tables_1 ∧ Cond.instanceMethod q.1 ∈ tables_1
theorem lw_p0 : lw_okq (⟨"CensusLoom", "isSafeTable", "(LCensusLoom$Table;)Z"⟩, 8) := ⟨⟨by decide +kernel, by decide +kernel⟩, List.mem_of_getElem? (i := 33) (by decide +kernel), List.mem_of_getElem? (i := 292) (by decide +kernel), List.mem_of_getElem? (i := 293) (by decide +kernel)⟩
theorem lw_p1 : lw_okq (⟨"java/lang/Throwable", "fillInStackTrace", "(I)Ljava/lang/Throwable;"⟩, 6) := ⟨⟨by decide +kernel, by decide +kernel⟩, List.mem_of_getElem? (i := 387) (by decide +kernel), List.mem_of_getElem? (i := 385) (by decide +kernel), List.mem_of_getElem? (i := 386) (by decide +kernel)⟩
theorem lw_p2 : lw_okq (⟨"CensusLoom", "settle", "()I"⟩, 8) := ⟨⟨by decide +kernel, by decide +kernel⟩, List.mem_of_getElem? (i := 33) (by decide +kernel), List.mem_of_getElem? (i := 421) (by decide +kernel), List.mem_of_getElem? (i := 422) (by decide +kernel)⟩
theorem lw_p3 : lw_okq (⟨"CensusLoom", "needBlock", "(I)V"⟩, 8) := ⟨⟨by decide +kernel, by decide +kernel⟩, List.mem_of_getElem? (i := 33) (by decide +kernel), List.mem_of_getElem? (i := 475) (by decide +kernel), List.mem_of_getElem? (i := 476) (by decide +kernel)⟩
theorem lw_p4 : lw_okq (⟨"CensusLoom", "needAddress", "(I)V"⟩, 8) := ⟨⟨by decide +kernel, by decide +kernel⟩, List.mem_of_getElem? (i := 33) (by decide +kernel), List.mem_of_getElem? (i := 562) (by decide +kernel), List.mem_of_getElem? (i := 563) (by decide +kernel)⟩
theorem lw_p5 : lw_okq (⟨"CensusLoom", "needTwoRecords", "(II)V"⟩, 8) := ⟨⟨by decide +kernel, by decide +kernel⟩, List.mem_of_getElem? (i := 33) (by decide +kernel), List.mem_of_getElem? (i := 607) (by decide +kernel), List.mem_of_getElem? (i := 608) (by decide +kernel)⟩
theorem lw_p6 : lw_okq (⟨"CensusLoom", "needRecord", "(I)V"⟩, 8) := ⟨⟨by decide +kernel, by decide +kernel⟩, List.mem_of_getElem? (i := 33) (by decide +kernel), List.mem_of_getElem? (i := 611) (by decide +kernel), List.mem_of_getElem? (i := 612) (by decide +kernel)⟩
theorem lw_p7 : lw_okq (⟨"CensusLoom", "needGroup", "(I)V"⟩, 8) := ⟨⟨by decide +kernel, by decide +kernel⟩, List.mem_of_getElem? (i := 33) (by decide +kernel), List.mem_of_getElem? (i := 687) (by decide +kernel), List.mem_of_getElem? (i := 688) (by decide +kernel)⟩
theorem lw_p8 : lw_okq (⟨"CensusLoom", "toldTable", "(I)LCensusLoom$Table;"⟩, 8) := ⟨⟨by decide +kernel, by decide +kernel⟩, List.mem_of_getElem? (i := 33) (by decide +kernel), List.mem_of_getElem? (i := 1059) (by decide +kernel), List.mem_of_getElem? (i := 1060) (by decide +kernel)⟩
theorem lw_p9 : lw_okq (⟨"CensusLoom", "needCell", "(LCensusLoom$Table;II)V"⟩, 8) := ⟨⟨by decide +kernel, by decide +kernel⟩, List.mem_of_getElem? (i := 33) (by decide +kernel), List.mem_of_getElem? (i := 1071) (by decide +kernel), List.mem_of_getElem? (i := 1072) (by decide +kernel)⟩
theorem lw_p10 : lw_okq (⟨"CensusLoom", "needBlockIn", "(LCensusLoom$Table;I)V"⟩, 8) := ⟨⟨by decide +kernel, by decide +kernel⟩, List.mem_of_getElem? (i := 33) (by decide +kernel), List.mem_of_getElem? (i := 1075) (by decide +kernel), List.mem_of_getElem? (i := 1076) (by decide +kernel)⟩
theorem lw_p11 : lw_okq (⟨"CensusLoomModel", "checked", "(Z)I"⟩, 26) := ⟨⟨by decide +kernel, by decide +kernel⟩, List.mem_of_getElem? (i := 1179) (by decide +kernel), List.mem_of_getElem? (i := 1272) (by decide +kernel), List.mem_of_getElem? (i := 1273) (by decide +kernel)⟩
theorem lw_p12 : lw_okq (⟨"CensusLoomModel", "looks", "()I"⟩, 26) := ⟨⟨by decide +kernel, by decide +kernel⟩, List.mem_of_getElem? (i := 1179) (by decide +kernel), List.mem_of_getElem? (i := 1276) (by decide +kernel), List.mem_of_getElem? (i := 1277) (by decide +kernel)⟩
theorem lw_p13 : lw_okq (⟨"CensusLoomModel", "layCounts", "()V"⟩, 26) := ⟨⟨by decide +kernel, by decide +kernel⟩, List.mem_of_getElem? (i := 1179) (by decide +kernel), List.mem_of_getElem? (i := 1280) (by decide +kernel), List.mem_of_getElem? (i := 1281) (by decide +kernel)⟩
theorem lw_p14 : lw_okq (⟨"CensusLoomModel", "layDoubles", "()V"⟩, 26) := ⟨⟨by decide +kernel, by decide +kernel⟩, List.mem_of_getElem? (i := 1179) (by decide +kernel), List.mem_of_getElem? (i := 1284) (by decide +kernel), List.mem_of_getElem? (i := 1285) (by decide +kernel)⟩
theorem lw_p15 : lw_okq (⟨"CensusLoomModel", "linkOf", "(II)C"⟩, 26) := ⟨⟨by decide +kernel, by decide +kernel⟩, List.mem_of_getElem? (i := 1179) (by decide +kernel), List.mem_of_getElem? (i := 1288) (by decide +kernel), List.mem_of_getElem? (i := 1289) (by decide +kernel)⟩
def lw_privs_1 : List (MethodName × Nat) := [(⟨"CensusLoom", "isSafeTable", "(LCensusLoom$Table;)Z"⟩, 8), (⟨"java/lang/Throwable", "fillInStackTrace", "(I)Ljava/lang/Throwable;"⟩, 6), (⟨"CensusLoom", "settle", "()I"⟩, 8), (⟨"CensusLoom", "needBlock", "(I)V"⟩, 8), (⟨"CensusLoom", "needAddress", "(I)V"⟩, 8), (⟨"CensusLoom", "needTwoRecords", "(II)V"⟩, 8), (⟨"CensusLoom", "needRecord", "(I)V"⟩, 8), (⟨"CensusLoom", "needGroup", "(I)V"⟩, 8), (⟨"CensusLoom", "toldTable", "(I)LCensusLoom$Table;"⟩, 8), (⟨"CensusLoom", "needCell", "(LCensusLoom$Table;II)V"⟩, 8), (⟨"CensusLoom", "needBlockIn", "(LCensusLoom$Table;I)V"⟩, 8), (⟨"CensusLoomModel", "checked", "(Z)I"⟩, 26), (⟨"CensusLoomModel", "looks", "()I"⟩, 26), (⟨"CensusLoomModel", "layCounts", "()V"⟩, 26), (⟨"CensusLoomModel", "layDoubles", "()V"⟩, 26), (⟨"CensusLoomModel", "linkOf", "(II)C"⟩, 26)]
theorem lw_r1 : ∀ q ∈ lw_privs_1, lw_okq q := List.forall_mem_cons.mpr ⟨lw_p0, List.forall_mem_cons.mpr ⟨lw_p1, List.forall_mem_cons.mpr ⟨lw_p2, List.forall_mem_cons.mpr ⟨lw_p3, List.forall_mem_cons.mpr ⟨lw_p4, List.forall_mem_cons.mpr ⟨lw_p5, List.forall_mem_cons.mpr ⟨lw_p6, List.forall_mem_cons.mpr ⟨lw_p7, List.forall_mem_cons.mpr ⟨lw_p8, List.forall_mem_cons.mpr ⟨lw_p9, List.forall_mem_cons.mpr ⟨lw_p10, List.forall_mem_cons.mpr ⟨lw_p11, List.forall_mem_cons.mpr ⟨lw_p12, List.forall_mem_cons.mpr ⟨lw_p13, List.forall_mem_cons.mpr ⟨lw_p14, List.forall_mem_cons.mpr ⟨lw_p15, fun _ h => absurd h List.not_mem_nil⟩⟩⟩⟩⟩⟩⟩⟩⟩⟩⟩⟩⟩⟩⟩⟩
theorem lw_p16 : lw_okq (⟨"CensusLoomModel", "scoreOf", "(II)I"⟩, 26) := ⟨⟨by decide +kernel, by decide +kernel⟩, List.mem_of_getElem? (i := 1179) (by decide +kernel), List.mem_of_getElem? (i := 1292) (by decide +kernel), List.mem_of_getElem? (i := 1293) (by decide +kernel)⟩
theorem lw_p17 : lw_okq (⟨"CensusLoomModel", "blockFor", "(I)I"⟩, 26) := ⟨⟨by decide +kernel, by decide +kernel⟩, List.mem_of_getElem? (i := 1179) (by decide +kernel), List.mem_of_getElem? (i := 1296) (by decide +kernel), List.mem_of_getElem? (i := 1297) (by decide +kernel)⟩
theorem lw_p18 : lw_okq (⟨"CensusLoomModel", "isCounted", "(I)Z"⟩, 26) := ⟨⟨by decide +kernel, by decide +kernel⟩, List.mem_of_getElem? (i := 1179) (by decide +kernel), List.mem_of_getElem? (i := 1300) (by decide +kernel), List.mem_of_getElem? (i := 1301) (by decide +kernel)⟩
theorem lw_p19 : lw_okq (⟨"CensusLoomModel", "isBlock", "(I)Z"⟩, 26) := ⟨⟨by decide +kernel, by decide +kernel⟩, List.mem_of_getElem? (i := 1179) (by decide +kernel), List.mem_of_getElem? (i := 1311) (by decide +kernel), List.mem_of_getElem? (i := 1312) (by decide +kernel)⟩
theorem lw_p20 : lw_okq (⟨"CensusLoomModel", "wrongPair", "(II)I"⟩, 26) := ⟨⟨by decide +kernel, by decide +kernel⟩, List.mem_of_getElem? (i := 1179) (by decide +kernel), List.mem_of_getElem? (i := 1346) (by decide +kernel), List.mem_of_getElem? (i := 1347) (by decide +kernel)⟩
theorem lw_p21 : lw_okq (⟨"CensusLoomModel", "isRecord", "(I)Z"⟩, 26) := ⟨⟨by decide +kernel, by decide +kernel⟩, List.mem_of_getElem? (i := 1179) (by decide +kernel), List.mem_of_getElem? (i := 1350) (by decide +kernel), List.mem_of_getElem? (i := 1351) (by decide +kernel)⟩
theorem lw_p22 : lw_okq (⟨"CensusLoomModel", "decides", "(IIC)V"⟩, 26) := ⟨⟨by decide +kernel, by decide +kernel⟩, List.mem_of_getElem? (i := 1179) (by decide +kernel), List.mem_of_getElem? (i := 1358) (by decide +kernel), List.mem_of_getElem? (i := 1359) (by decide +kernel)⟩
theorem lw_p23 : lw_okq (⟨"CensusLoomModel", "plain", "(I)I"⟩, 26) := ⟨⟨by decide +kernel, by decide +kernel⟩, List.mem_of_getElem? (i := 1179) (by decide +kernel), List.mem_of_getElem? (i := 1374) (by decide +kernel), List.mem_of_getElem? (i := 1375) (by decide +kernel)⟩
theorem lw_p24 : lw_okq (⟨"CensusLoomModel", "layMatches", "()V"⟩, 26) := ⟨⟨by decide +kernel, by decide +kernel⟩, List.mem_of_getElem? (i := 1179) (by decide +kernel), List.mem_of_getElem? (i := 1386) (by decide +kernel), List.mem_of_getElem? (i := 1387) (by decide +kernel)⟩
theorem lw_p25 : lw_okq (⟨"CensusLoomModel", "many", "(CZ)I"⟩, 26) := ⟨⟨by decide +kernel, by decide +kernel⟩, List.mem_of_getElem? (i := 1179) (by decide +kernel), List.mem_of_getElem? (i := 1407) (by decide +kernel), List.mem_of_getElem? (i := 1408) (by decide +kernel)⟩
theorem lw_p26 : lw_okq (⟨"CensusLoomModel", "hides", "(I)Z"⟩, 26) := ⟨⟨by decide +kernel, by decide +kernel⟩, List.mem_of_getElem? (i := 1179) (by decide +kernel), List.mem_of_getElem? (i := 1423) (by decide +kernel), List.mem_of_getElem? (i := 1424) (by decide +kernel)⟩
theorem lw_p27 : lw_okq (⟨"CensusLoomModel", "hidesSmall", "(I)V"⟩, 26) := ⟨⟨by decide +kernel, by decide +kernel⟩, List.mem_of_getElem? (i := 1179) (by decide +kernel), List.mem_of_getElem? (i := 1427) (by decide +kernel), List.mem_of_getElem? (i := 1428) (by decide +kernel)⟩
theorem lw_p28 : lw_okq (⟨"CensusLoomModel", "firstFound", "(I)I"⟩, 26) := ⟨⟨by decide +kernel, by decide +kernel⟩, List.mem_of_getElem? (i := 1179) (by decide +kernel), List.mem_of_getElem? (i := 1431) (by decide +kernel), List.mem_of_getElem? (i := 1432) (by decide +kernel)⟩
theorem lw_p29 : lw_okq (⟨"CensusLoomModel", "isFound", "(II)Z"⟩, 26) := ⟨⟨by decide +kernel, by decide +kernel⟩, List.mem_of_getElem? (i := 1179) (by decide +kernel), List.mem_of_getElem? (i := 1435) (by decide +kernel), List.mem_of_getElem? (i := 1436) (by decide +kernel)⟩
theorem lw_p30 : lw_okq (⟨"CensusLoomModel", "next", "(IIZ)I"⟩, 26) := ⟨⟨by decide +kernel, by decide +kernel⟩, List.mem_of_getElem? (i := 1179) (by decide +kernel), List.mem_of_getElem? (i := 1439) (by decide +kernel), List.mem_of_getElem? (i := 1440) (by decide +kernel)⟩
theorem lw_p31 : lw_okq (⟨"CensusLoomModel", "canHide", "(II)Z"⟩, 26) := ⟨⟨by decide +kernel, by decide +kernel⟩, List.mem_of_getElem? (i := 1179) (by decide +kernel), List.mem_of_getElem? (i := 1443) (by decide +kernel), List.mem_of_getElem? (i := 1444) (by decide +kernel)⟩
def lw_privs_2 : List (MethodName × Nat) := [(⟨"CensusLoomModel", "scoreOf", "(II)I"⟩, 26), (⟨"CensusLoomModel", "blockFor", "(I)I"⟩, 26), (⟨"CensusLoomModel", "isCounted", "(I)Z"⟩, 26), (⟨"CensusLoomModel", "isBlock", "(I)Z"⟩, 26), (⟨"CensusLoomModel", "wrongPair", "(II)I"⟩, 26), (⟨"CensusLoomModel", "isRecord", "(I)Z"⟩, 26), (⟨"CensusLoomModel", "decides", "(IIC)V"⟩, 26), (⟨"CensusLoomModel", "plain", "(I)I"⟩, 26), (⟨"CensusLoomModel", "layMatches", "()V"⟩, 26), (⟨"CensusLoomModel", "many", "(CZ)I"⟩, 26), (⟨"CensusLoomModel", "hides", "(I)Z"⟩, 26), (⟨"CensusLoomModel", "hidesSmall", "(I)V"⟩, 26), (⟨"CensusLoomModel", "firstFound", "(I)I"⟩, 26), (⟨"CensusLoomModel", "isFound", "(II)Z"⟩, 26), (⟨"CensusLoomModel", "next", "(IIZ)I"⟩, 26), (⟨"CensusLoomModel", "canHide", "(II)Z"⟩, 26)]
theorem lw_r2 : ∀ q ∈ lw_privs_2, lw_okq q := List.forall_mem_cons.mpr ⟨lw_p16, List.forall_mem_cons.mpr ⟨lw_p17, List.forall_mem_cons.mpr ⟨lw_p18, List.forall_mem_cons.mpr ⟨lw_p19, List.forall_mem_cons.mpr ⟨lw_p20, List.forall_mem_cons.mpr ⟨lw_p21, List.forall_mem_cons.mpr ⟨lw_p22, List.forall_mem_cons.mpr ⟨lw_p23, List.forall_mem_cons.mpr ⟨lw_p24, List.forall_mem_cons.mpr ⟨lw_p25, List.forall_mem_cons.mpr ⟨lw_p26, List.forall_mem_cons.mpr ⟨lw_p27, List.forall_mem_cons.mpr ⟨lw_p28, List.forall_mem_cons.mpr ⟨lw_p29, List.forall_mem_cons.mpr ⟨lw_p30, List.forall_mem_cons.mpr ⟨lw_p31, fun _ h => absurd h List.not_mem_nil⟩⟩⟩⟩⟩⟩⟩⟩⟩⟩⟩⟩⟩⟩⟩⟩
theorem lw_p32 : lw_okq (⟨"CensusLoomModel", "helps", "(III)Z"⟩, 26) := ⟨⟨by decide +kernel, by decide +kernel⟩, List.mem_of_getElem? (i := 1179) (by decide +kernel), List.mem_of_getElem? (i := 1447) (by decide +kernel), List.mem_of_getElem? (i := 1448) (by decide +kernel)⟩
theorem lw_p33 : lw_okq (⟨"CensusLoomModel", "isTable", "(I)Z"⟩, 26) := ⟨⟨by decide +kernel, by decide +kernel⟩, List.mem_of_getElem? (i := 1179) (by decide +kernel), List.mem_of_getElem? (i := 1455) (by decide +kernel), List.mem_of_getElem? (i := 1456) (by decide +kernel)⟩
theorem lw_p34 : lw_okq (⟨"CensusLoomModel", "wrongCell", "(III)I"⟩, 26) := ⟨⟨by decide +kernel, by decide +kernel⟩, List.mem_of_getElem? (i := 1179) (by decide +kernel), List.mem_of_getElem? (i := 1463) (by decide +kernel), List.mem_of_getElem? (i := 1464) (by decide +kernel)⟩
theorem lw_p35 : lw_okq (⟨"CensusLoomModel", "line", "(I)Ljava/lang/String;"⟩, 26) := ⟨⟨by decide +kernel, by decide +kernel⟩, List.mem_of_getElem? (i := 1179) (by decide +kernel), List.mem_of_getElem? (i := 1503) (by decide +kernel), List.mem_of_getElem? (i := 1504) (by decide +kernel)⟩
def lw_privs_3 : List (MethodName × Nat) := [(⟨"CensusLoomModel", "helps", "(III)Z"⟩, 26), (⟨"CensusLoomModel", "isTable", "(I)Z"⟩, 26), (⟨"CensusLoomModel", "wrongCell", "(III)I"⟩, 26), (⟨"CensusLoomModel", "line", "(I)Ljava/lang/String;"⟩, 26)]
theorem lw_r3 : ∀ q ∈ lw_privs_3, lw_okq q := List.forall_mem_cons.mpr ⟨lw_p32, List.forall_mem_cons.mpr ⟨lw_p33, List.forall_mem_cons.mpr ⟨lw_p34, List.forall_mem_cons.mpr ⟨lw_p35, fun _ h => absurd h List.not_mem_nil⟩⟩⟩⟩
def lw_privs : List (MethodName × Nat) := lw_privs_1 ++ (lw_privs_2 ++ (lw_privs_3))
def lw_tbl : List Cond := k2_sels lw_privs ++ tables_1
theorem lw_privs_ok : ∀ q ∈ lw_privs, lw_okq q := by
  show ∀ q ∈ lw_privs_1 ++ (lw_privs_2 ++ (lw_privs_3)), lw_okq q
  exact List.forall_mem_append.mpr ⟨lw_r1, List.forall_mem_append.mpr ⟨lw_r2, lw_r3⟩⟩
/-- the streams that the claim lets the run draw from -/
abbrev lw_cs : List Choice := [Jvm.Choice.named "NaN.bits"]
theorem lw_bits : nanBits ∈ lw_cs := by first | decide | exact List.mem_cons_self | simp [lw_cs, nanBits]

/-! ===== BEGIN words of one list among another's, by their places ===== -/
theorem goodIn_r {big : List Cond} (ws : List Cond) (ps : List Nat) (hp : ws = ps.filterMap (fun i => big[i]?)) (h : ws.all goodWord = true) : GoodIn big ws := by
  intro w hw
  have h1 := List.all_eq_true.mp h w hw
  rw [hp] at hw
  obtain ⟨i, -, hi⟩ := List.mem_filterMap.mp hw
  have hm : w ∈ big := by first | exact List.mem_of_getElem? hi | exact List.getElem?_mem hi
  exact ⟨hm, good_of_word h1⟩
theorem goodIn_app {big a b : List Cond} (ha : GoodIn big a) (hb : GoodIn big b) : GoodIn big (a ++ b) := fun w h => (List.mem_append.mp h).elim (ha w) (hb w)
theorem goodIn_ca {big a b : List Cond} {c : Cond} (ha : GoodIn big (c :: a)) (hb : GoodIn big b) : GoodIn big (c :: (a ++ b)) := fun w h => (List.mem_cons.mp h).elim (fun e => ha w (List.mem_cons.mpr (Or.inl e))) (fun h => (List.mem_append.mp h).elim (fun h => ha w (List.mem_cons.mpr (Or.inr h))) (hb w))
theorem goodIn_sub {big ws : List Cond} (hm : ∀ w ∈ ws, w ∈ big) (h : ws.all goodWord = true) : GoodIn big ws := fun w hw => ⟨hm w hw, good_of_word (List.all_eq_true.mp h w hw)⟩
/-! ===== END ===== -/

/-! ===== BEGIN exceptions that leave a method, and their catching by the caller (launches without stack traces) ===== -/
section VXA
/-! The laws vx_back, vx_callV, vx_callS, vx_callSW, vx_throw0, vx_throwS follow proofs of the library, with one case more: JvmDerived/Free/Laws.lean (Back.of_free), Shelf42/LK1.lean (callV, callS), Shelf/KitTraced.lean (throwNew0V, throwNewS). -/
/-- where a method has thrown q: the class by its name, the cell, what was written, the world -/
def vx_T (XC : String → State → State → Prop) (st : State) (q : Addr) (t : State) (mc ms : Nat) (free : Addr → Prop) : Prop :=
  ∃ (E : String) (ce : Cell) (L : List Loc), XC E st t ∧ t.heap[q]? = some ce ∧ ce.vm = .none ∧ st.vm.findClass E = some ce.cls ∧ st.WarmedH t.vm ∧ st.sameButNew ({ t with vm := st.vm } : State) L mc ms ∧ ∀ z ∈ L, free z.base
def vx_Q (Qc : Array Value → State → Outcome → State → Prop) (XC : String → State → State → Prop) (mc ms : Nat) (free : Addr → Prop) : Array Value → State → Outcome → State → Prop := fun a st o t =>
  (Qc a st o t ∧ ∃ L, FrameEnd st o t L mc ms ∧ ∀ q ∈ L, free q.base) ∨ ∃ q, o = .threw q ∧ vx_T XC st q t mc ms free
/-- a callee that returns or throws -/
def vx_Met (l : Launch) (y : MethodName) (ws : List Cond) (rm : Room) (Pc : Array Value → State → Prop) (Qc : Array Value → State → Outcome → State → Prop) (XC : String → State → State → Prop) (mc ms : Nat) (free : Addr → Prop) : Prop :=
  MetFree l y (headSpec ws rm) Pc (fun _ _ _ _ _ => True) (vx_Q Qc XC mc ms free)
def vx_Post (XC : String → State → State → Prop) (mc ms : Nat) (free : Addr → Prop) : Pt → Array Value → Addr → Pt → Prop := fun A a q B =>
  ∃ (g : JFrame) (mk : MethodId) (t : State) (L : List Loc) (E : String) (ce : Cell), B.U.heap = t.heap ∧ B.U.vm = t.vm ∧ XC E (A.U.calling g mk a) t ∧ t.heap[q]? = some ce ∧ ce.vm = .none ∧ A.U.vm.findClass E = some ce.cls ∧ B.locs = A.locs ++ L ∧ (∀ z ∈ L, free z.base) ∧ B.cells = A.cells + mc ∧ B.slots = A.slots + ms
def vx_Back (l : Launch) (R : Room) (p : Program) (e : Env) (below : List Frame) (s : State) (sargs : Array Value) (y : MethodName) (len W9 : Nat)
    (Pre : Pt → Array Value → Prop) (Post : Pt → Array Value → Option Value → Pt → Prop) (PostX : Pt → Array Value → Addr → Pt → Prop) : Prop :=
  ∀ (m : MethodId) (meth : Method) (c : Code) (A : Pt) (g : JFrame) (ig : Instr) (mk : MethodId) (a : Array Value),
    Stand p l e R s m sargs below meth c A.U A.locs A.cells A.slots → g.method = m → g.locals.size = c.maxLocals → decode c.code g.pc = .ok (ig, len) →
    2 * g.monitorRoom + (g.stack.map fun v => v.category).sum ≤ W9 → A.U.methodNamed? y = some mk → Pre A a →
    (∃ (v : Option Value) (B : Pt), Stand p l e R s m sargs below meth c B.U B.locs B.cells B.slots ∧ Post A a v B ∧
      Steps p.tables e below (doInvoke e (A.U.setTop g) [] mk a).1 (B.U.setTop { g with pc := g.pc + len, stack := v.toList ++ g.stack })) ∨
    (∃ (q : Addr) (B : Pt), Stand p l e R s m sargs below meth c B.U B.locs B.cells B.slots ∧ PostX A a q B ∧
      Steps p.tables e below (doInvoke e (A.U.setTop g) [] mk a).1 ((B.U.setTop g).pushFrame (.throwing q)))
section Payer
variable {l : Launch} {R : Room} {p : Program} {e : Env} {below : List Frame} {s : State} {sargs : Array Value} {y : MethodName} {len W9 : Nat}
theorem vx_back {ws : List Cond} {rm : Room} {Pc : Array Value → State → Prop} {Qc : Array Value → State → Outcome → State → Prop} {XC : String → State → State → Prop} {mc ms : Nat} {free : Addr → Prop} {bytes : ByteArray} {maxL : Nat} {ret : Option FieldType}
    (hM : vx_Met l y ws rm Pc Qc XC mc ms free) (hblind : FrameBlind Pc) (hrc : rm.cells = mc) (hrs : rm.slots = ms)
    (hframes : rm.frames + 1 ≤ R.frames) (hlocals : W9 + (maxL + 11) + rm.locals ≤ R.locals)
    (hws : ∀ w ∈ ws, ∀ a' U, s.WarmedH U.vm → w.before a' U = true) (hcode : Cond.code y bytes maxL ret ∈ ws) (hinit : ∀ a' U, s.WarmedH U.vm → (Cond.initialized y.cls).before a' U = true) :
    vx_Back l R p e below s sargs y len W9 (PreOf R mc ms Pc) (PostOf Qc mc ms free) (vx_Post XC mc ms free) := by
  intro m meth c A g ig mk a X hg hsize hdg hW hn hp
  have h1 : (headSpec ws rm).pre.before a A.U = true := atoms_intro fun w hw => hws w hw _ _ X.warmed
  have h2 : (Cond.code y bytes maxL ret).before a A.U = true := hws _ hcode _ _ X.warmed
  have h3 : (Cond.initialized y.cls).before a A.U = true := hinit _ _ X.warmed
  have h4 : A.cells + (headSpec ws rm).room.cells ≤ R.cells := by rw [show (headSpec ws rm).room.cells = mc from hrc]; exact hp.1
  have h5 : A.slots + (headSpec ws rm).room.slots ≤ R.slots := by rw [show (headSpec ws rm).room.slots = ms from hrs]; exact hp.2.1
  have hPc : Pc a (A.U.calling g mk a) := hblind _ _ _ _ hp.2.2
  obtain ⟨U, Ls, c0, s0⟩ := A
  dsimp only [Pt.U, Pt.locs, Pt.cells, Pt.slots] at h1 h2 h3 h4 h5 X hn hPc ⊢
  obtain ⟨methY, cY, hmY, hcY, -, hlY, -, -, -, -⟩ := Cond.code_spec hn h2
  obtain ⟨kY, hkY, -⟩ := className_of_methodNamed hn
  have hinitY : kY.init = .initialized := Cond.initialized_spec (findClass_of_methodNamed hn) hkY h3
  have h : At U g.method c below := by rw [hg]; exact X.here
  have hlocals9 : W9 + (maxL + 11) + (headSpec ws rm).room.locals ≤ R.locals := hlocals
  have happ : (headSpec ws rm).appliesLoose y e.platform (U.calling g mk a) = true :=
    Spec.appliesLoose_calling (g := g) h hdg hn hkY hinitY
      (X.room_calling (g := g) (R' := (headSpec ws rm).room) hsize hmY hcY hframes (by rw [hlY]; omega) h4 h5) h1
  obtain ⟨mid, hmid⟩ := h.above
  have hfr : (U.setTop g).frames = (.java g :: mid) ++ below := by rw [State.frames_setTop' g h.top, hmid]; rfl
  obtain ⟨o, s₂, hsteps, -, hend, hq⟩ := Steps.callFree hM p X.admits X.cas X.clock (acts := []) hfr happ hPc trivial
  have hq' : vx_Q Qc XC mc ms free a (U.calling g mk a) o s₂ := hq
  rw [State.frames_setTop' g h.top] at hend
  obtain ⟨g₀, hg0⟩ := Option.isSome_iff_exists.mp h.top
  obtain ⟨r, hr⟩ := State.topJava?_eq_some.mp hg0
  have hr' : (({ U with heap := s₂.heap, slotsUsed := s₂.slotsUsed } : State).setVm s₂.vm).frames = .java g₀ :: r := hr
  rcases hq' with ⟨hqc, L, hfe, hL⟩ | ⟨q, rfl, E, ce, L, hx, hce, hcv, hcl, hW₂, hsm, hL⟩
  · obtain ⟨⟨v, rfl⟩, hW₂, e2, q2, q3, q4, q5, q6⟩ := id hfe
    have e3 : s₂ = ({ (U.calling g mk a).setFrames s₂.frames with heap := s₂.heap, slotsUsed := s₂.slotsUsed } : State).setVm s₂.vm := by
      have : s₂ = ({ s₂ with vm := (U.calling g mk a).vm } : State).setVm s₂.vm := rfl
      rw [e2] at this
      exact this
    obtain ⟨c₂, i₂, len₂, hc₂, hd₂, hf₂⟩ := hend
    have hW' : U.WarmedH s₂.vm := hW₂
    have hcc : c₂ = c := by
      have h1 : s₂.code? g.method = U.code? g.method := by
        rw [State.code?_eq, State.code?_eq, hW'.alike.method?]
      exact Option.some.inj (hc₂.symm.trans (h1.trans h.code))
    subst hcc
    have hlen : len₂ = len := by rw [hdg] at hd₂; cases hd₂; rfl
    subst hlen
    have hs₂ : s₂ = (({ U with heap := s₂.heap, slotsUsed := s₂.slotsUsed } : State).setVm s₂.vm).setTop { g with pc := g.pc + len₂, stack := v.toList ++ g.stack } := by
      refine e3.trans ?_
      rw [hf₂, State.calling_eq h.top, State.setFrames_setFrames, State.setTop_of_frames _ hr', hr]
      rfl
    have hsame : U.sameButNew ({ U with heap := s₂.heap, slotsUsed := s₂.slotsUsed } : State) L mc ms := by
      refine ⟨?_, q2, q3, q4, q5, q6⟩
      obtain ⟨t, ht, -⟩ := State.frames_cons hr
      show ({ U with heap := s₂.heap, slotsUsed := s₂.slotsUsed } : State) = { U.setFrames U.frames with heap := s₂.heap, slotsUsed := s₂.slotsUsed }
      rw [State.setFrames_self ht]
    subst hg
    refine Or.inl ⟨v, ⟨(({ U with heap := s₂.heap, slotsUsed := s₂.slotsUsed } : State).setVm s₂.vm), Ls ++ L, c0 + mc, s0 + ms⟩,
      ⟨X.admits, X.cas, X.clock, X.frames, X.room, X.hears, X.method, X.code, (X.here.setHeapUsed s₂.heap s₂.slotsUsed).setVm hW'.alike, X.tail, State.WarmedH.trans X.warmed hW', X.limits, X.bytes, X.same.trans (hsame.setVm s.vm)⟩,
      ⟨g, mk, s₂, L, rfl, rfl, hqc, rfl, hL, rfl, rfl⟩, ?_⟩
    show Steps p.tables e below _ ((({ U with heap := s₂.heap, slotsUsed := s₂.slotsUsed } : State).setVm s₂.vm).setTop { g with pc := g.pc + len₂, stack := v.toList ++ g.stack })
    rw [← hs₂]
    exact hsteps
  · obtain ⟨e2, q2, q3, q4, q5, q6⟩ := id hsm
    have e3 : s₂ = ({ (U.calling g mk a).setFrames s₂.frames with heap := s₂.heap, slotsUsed := s₂.slotsUsed } : State).setVm s₂.vm := by
      have : s₂ = ({ s₂ with vm := (U.calling g mk a).vm } : State).setVm s₂.vm := rfl
      rw [e2] at this
      exact this
    have hf₂ : s₂.frames = .throwing q :: .java g :: U.frames.tail := hend
    have hW' : U.WarmedH s₂.vm := hW₂
    have hs₂ : s₂ = ((({ U with heap := s₂.heap, slotsUsed := s₂.slotsUsed } : State).setVm s₂.vm).setTop g).pushFrame (.throwing q) := by
      refine e3.trans ?_
      rw [hf₂, State.calling_eq h.top, State.setFrames_setFrames, State.pushFrame, State.frames_setTop _ hr', State.setTop_of_frames _ hr', State.setFrames_setFrames, hr]
      rfl
    have hsame : U.sameButNew ({ U with heap := s₂.heap, slotsUsed := s₂.slotsUsed } : State) L mc ms := by
      refine ⟨?_, q2, q3, q4, q5, q6⟩
      obtain ⟨t, ht, -⟩ := State.frames_cons hr
      show ({ U with heap := s₂.heap, slotsUsed := s₂.slotsUsed } : State) = { U.setFrames U.frames with heap := s₂.heap, slotsUsed := s₂.slotsUsed }
      rw [State.setFrames_self ht]
    subst hg
    refine Or.inr ⟨q, ⟨(({ U with heap := s₂.heap, slotsUsed := s₂.slotsUsed } : State).setVm s₂.vm), Ls ++ L, c0 + mc, s0 + ms⟩,
      ⟨X.admits, X.cas, X.clock, X.frames, X.room, X.hears, X.method, X.code, (X.here.setHeapUsed s₂.heap s₂.slotsUsed).setVm hW'.alike, X.tail, State.WarmedH.trans X.warmed hW', X.limits, X.bytes, X.same.trans (hsame.setVm s.vm)⟩,
      ⟨g, mk, s₂, L, E, ce, rfl, rfl, hx, hce, hcv, hcl, rfl, hL, rfl, rfl⟩, ?_⟩
    show Steps p.tables e below _ (((({ U with heap := s₂.heap, slotsUsed := s₂.slotsUsed } : State).setVm s₂.vm).setTop g).pushFrame (.throwing q))
    rw [← hs₂]
    exact hsteps
end Payer
section Calls
variable {p : Program} {l : Launch} {e : Env} {R : Room} {s : State} {m : MethodId} {args : Array Value} {below : List Frame} {meth : Method} {c : Code} {T : State} {locs : List Loc} {cells slots : Nat}
theorem vx_callV (X : Stand p l e R s m args below meth c T locs cells slots) (hexec : p.tables.exec = Jvm.exec) {own C : String} {index : Nat} {y : MethodName} {bytes : ByteArray} {maxL : Nat} {ret : Option FieldType}
    (hown : s.vm.findClass own = some m.cls) (hlink : (Cond.methodLink own index y).before args s = true) (hinst : (Cond.instanceMethod y).before args s = true) (hsel : (Cond.selects C y y).before args s = true)
    (hcode : (Cond.code y bytes maxL ret).before args s = true) (hy : y.cls ≠ "java/lang/invoke/MethodHandle" ∧ y.cls ≠ "java/lang/invoke/VarHandle")
    {W9 : Nat} {Pre : Pt → Array Value → Prop} {Post : Pt → Array Value → Option Value → Pt → Prop} {PostX : Pt → Array Value → Addr → Pt → Prop} (hK : vx_Back l R p e below s args y 3 W9 Pre Post PostX)
    {b : Addr} {cellB : Cell} (hcell : T.heap[b]? = some cellB) (hobj : cellB.vm.isStatics = false) (hcls : s.vm.findClass C = some cellB.cls)
    {g : JFrame} (hg : g.method = m) (hsize : g.locals.size = c.maxLocals) {argsL rest : List Value} (hlen : ∀ sig, parseMethodDescriptor y.desc = some sig → argsL.length = sig.parameters.length)
    (hstack : g.stack = argsL.reverse ++ .ref b :: rest) (hW : 2 * g.monitorRoom + (rest.map fun v => v.category).sum ≤ W9) (hdg : decode c.code g.pc = .ok (.invokevirtual index, 3))
    (hpre : ∀ vm₁, s.WarmedH vm₁ → Pre ⟨T.setVm vm₁, locs, cells, slots⟩ (Value.ref b :: argsL).toArray) :
    (∃ (v : Option Value) (vm₁ : Vm) (B : Pt), s.WarmedH vm₁ ∧ Stand p l e R s m args below meth c B.U B.locs B.cells B.slots ∧ Post ⟨T.setVm vm₁, locs, cells, slots⟩ (Value.ref b :: argsL).toArray v B ∧
      ∀ target, Steps p.tables e below (B.U.setTop { g with pc := g.pc + 3, stack := v.toList ++ rest }) target → Steps p.tables e below (T.setTop g) target) ∨
    (∃ (q : Addr) (vm₁ : Vm) (B : Pt), s.WarmedH vm₁ ∧ Stand p l e R s m args below meth c B.U B.locs B.cells B.slots ∧ PostX ⟨T.setVm vm₁, locs, cells, slots⟩ (Value.ref b :: argsL).toArray q B ∧
      Steps p.tables e below (T.setTop g) ((B.U.setTop { g with stack := rest }).pushFrame (.throwing q))) := by
  obtain ⟨mk, methM, hnamed, hmethM, hstM, habM⟩ := Cond.instanceMethod_spec hinst
  obtain ⟨methM', cM, hmethM', -, -, -, -, -, -, hsigM⟩ := Cond.code_spec hnamed hcode
  cases hmethM.symm.trans hmethM'
  obtain ⟨c2, r2, m2, q1, q2, q3, q4, kP, hkP, hkPi⟩ := Cond.selects_spec hsel
  cases hcls.symm.trans q1
  cases (State.methodFound?_of_named hnamed hy).symm.trans q2
  cases hnamed.symm.trans q3
  have hselP : selectMethod e.platform s.vm cellB.cls mk = .method mk := by rw [Launch.admits_selectMethod X.admits]; exact q4
  obtain ⟨vm₁, X₁, hstep₁⟩ := X.invokevirtual hexec hown hlink hnamed hmethM hstM hkP hkPi hy (a := b) (cell := cellB) hcell
    (fun z h => by rw [h] at hobj; cases hobj) hselP hmethM habM hkP hkPi (g := g) hg (argsL := argsL) (rest := rest) (hlen _ hsigM) hstack hdg
  rcases hK m meth c ⟨T.setVm vm₁, locs, cells, slots⟩ { g with stack := rest } (.invokevirtual index) mk (Value.ref b :: argsL).toArray X₁ hg hsize hdg hW (X₁.named hnamed) (hpre vm₁ X₁.warmed) with ⟨v, B, X', hpost, hsteps⟩ | ⟨q, B, X', hpost, hsteps⟩
  · exact Or.inl ⟨v, vm₁, B, X₁.warmed, X', hpost, fun target h => hstep₁ _ fun acts => by rw [doInvoke_state]; exact hsteps.trans h⟩
  · exact Or.inr ⟨q, vm₁, B, X₁.warmed, X', hpost, hstep₁ _ fun acts => by rw [doInvoke_state]; exact hsteps⟩
theorem vx_callS (X : Stand p l e R s m args below meth c T locs cells slots) (hexec : p.tables.exec = Jvm.exec) {own : String} {index : Nat} {y : MethodName} {bytes : ByteArray} {maxL : Nat} {ret : Option FieldType}
    (hown : s.vm.findClass own = some m.cls) (hlink : (Cond.methodLink own index y).before args s = true) (hstat : (Cond.static y).before args s = true) (hinit : (Cond.initialized y.cls).before args s = true)
    (hcode : (Cond.code y bytes maxL ret).before args s = true) (hy : y.cls ≠ "java/lang/invoke/MethodHandle" ∧ y.cls ≠ "java/lang/invoke/VarHandle")
    {W9 : Nat} {Pre : Pt → Array Value → Prop} {Post : Pt → Array Value → Option Value → Pt → Prop} {PostX : Pt → Array Value → Addr → Pt → Prop} (hK : vx_Back l R p e below s args y 3 W9 Pre Post PostX)
    {g : JFrame} (hg : g.method = m) (hsize : g.locals.size = c.maxLocals) {argsL rest : List Value} (hlen : ∀ sig, parseMethodDescriptor y.desc = some sig → argsL.length = sig.parameters.length)
    (hstack : g.stack = argsL.reverse ++ rest) (hW : 2 * g.monitorRoom + (rest.map fun v => v.category).sum ≤ W9) (hdg : decode c.code g.pc = .ok (.invokestatic index, 3))
    (hpre : ∀ vm₁, s.WarmedH vm₁ → Pre ⟨T.setVm vm₁, locs, cells, slots⟩ argsL.toArray) :
    (∃ (v : Option Value) (vm₁ : Vm) (B : Pt), s.WarmedH vm₁ ∧ Stand p l e R s m args below meth c B.U B.locs B.cells B.slots ∧ Post ⟨T.setVm vm₁, locs, cells, slots⟩ argsL.toArray v B ∧
      ∀ target, Steps p.tables e below (B.U.setTop { g with pc := g.pc + 3, stack := v.toList ++ rest }) target → Steps p.tables e below (T.setTop g) target) ∨
    (∃ (q : Addr) (vm₁ : Vm) (B : Pt), s.WarmedH vm₁ ∧ Stand p l e R s m args below meth c B.U B.locs B.cells B.slots ∧ PostX ⟨T.setVm vm₁, locs, cells, slots⟩ argsL.toArray q B ∧
      Steps p.tables e below (T.setTop g) ((B.U.setTop { g with stack := rest }).pushFrame (.throwing q))) := by
  obtain ⟨mk, hnamed⟩ := Cond.code_named hcode
  obtain ⟨methM, cM, hmethM, -, -, -, -, -, -, hsigM⟩ := Cond.code_spec hnamed hcode
  have hstatic : methM.isStatic = true := Cond.static_spec hnamed hmethM hstat
  obtain ⟨kP, hkP, -⟩ := className_of_methodNamed hnamed
  have hinitP : kP.init = .initialized := Cond.initialized_spec (findClass_of_methodNamed hnamed) hkP hinit
  obtain ⟨vm₁, X₁, hstep₁⟩ := X.invokestatic hexec hown hlink hnamed hmethM hstatic hkP hinitP hy (g := g) hg (argsL := argsL) (rest := rest) (hlen _ hsigM) hstack hdg
  rcases hK m meth c ⟨T.setVm vm₁, locs, cells, slots⟩ { g with stack := rest } (.invokestatic index) mk argsL.toArray X₁ hg hsize hdg hW (X₁.named hnamed) (hpre vm₁ X₁.warmed) with ⟨v, B, X', hpost, hsteps⟩ | ⟨q, B, X', hpost, hsteps⟩
  · exact Or.inl ⟨v, vm₁, B, X₁.warmed, X', hpost, fun target h => hstep₁ _ fun acts => by rw [doInvoke_state]; exact hsteps.trans h⟩
  · exact Or.inr ⟨q, vm₁, B, X₁.warmed, X', hpost, hstep₁ _ fun acts => by rw [doInvoke_state]; exact hsteps⟩
end Calls
theorem vx_cls {s : State} {T : State} {vm₁ : Vm} {E : String} {k : ClassId} (hW : s.WarmedH vm₁) (h : (T.setVm vm₁).vm.findClass E = some k) : s.vm.findClass E = some k := by
  have h1 : vm₁.findClass E = some k := h
  rw [hW.alike.findClass] at h1
  exact h1
/-- the method's frame g, with q thrown over it -/
def vx_W (p : Program) (l : Launch) (e : Env) (R : Room) (s : State) (m : MethodId) (args : Array Value) (below : List Frame) (meth : Method) (c : Code) (H : Heap) (locs : List Loc) (cells slots : Nat) (Q : State → Prop) (g : JFrame) (q : Addr) : Prop :=
  ∀ T : State, T.heap = H → Stand p l e R s m args below meth c T locs cells slots → ∃ t, Steps p.tables e below ((T.setTop g).pushFrame (.throwing q)) t ∧ Q t
def vx_Run (p : Program) (l : Launch) (e : Env) (R : Room) (s : State) (m : MethodId) (args : Array Value) (below : List Frame) (meth : Method) (c : Code) (H : Heap) (locs : List Loc) (cells slots mc ms : Nat) (g : JFrame) (rest : List Value) (Qa : State → Outcome → State → Prop) (XC : String → State → State → Prop) (free : Addr → Prop) : Prop :=
  ∀ T : State, T.heap = H → Stand p l e R s m args below meth c T locs cells slots →
    (∃ (v : Option Value) (st₀ t T' : State) (L : List Loc), st₀.heap = H ∧ Stand p l e R s m args below meth c T' (locs ++ L) (cells + mc) (slots + ms) ∧ (∀ q ∈ L, free q.base) ∧ T'.heap = t.heap ∧ T'.vm = t.vm ∧ Qa st₀ (.returned v) t ∧
      Goes p e below T g T' { g with pc := g.pc + 3, stack := v.toList ++ rest }) ∨
    (∃ (q : Addr) (st₀ t T' : State) (L : List Loc) (E : String) (ce : Cell), st₀.heap = H ∧ Stand p l e R s m args below meth c T' (locs ++ L) (cells + mc) (slots + ms) ∧ (∀ z ∈ L, free z.base) ∧ T'.heap = t.heap ∧ T'.vm = t.vm ∧ XC E st₀ t ∧ t.heap[q]? = some ce ∧ ce.vm = .none ∧ s.vm.findClass E = some ce.cls ∧
      Steps p.tables e below (T.setTop g) ((T'.setTop { g with stack := rest }).pushFrame (.throwing q)))
def vx_X {S : Type} (px : S → Prop) (B : String → S → State → Prop) (A : Nat → Prop) : String → State → State → Prop := fun E st t => ∃ u : S, px u ∧ B E u t ∧ va_F A st t
section Runs
variable {p : Program} {l : Launch} {e : Env} {R : Room} {s : State} {m : MethodId} {args : Array Value} {below : List Frame} {meth : Method} {c : Code} {H : Heap} {locs : List Loc} {cells slots : Nat}
variable {y : MethodName} {bytes cc : ByteArray} {maxL nL mc ms n index : Nat} {ret : Option FieldType} {ws : List Cond} {rm : Room} {Pc : Array Value → State → Prop} {Qc : Array Value → State → Outcome → State → Prop} {XC : String → State → State → Prop} {free : Addr → Prop} {Ts : List Cond} {own C : String} {b : Addr} {As rest : List Value} {g : JFrame}
theorem vx_callBack (cb : CallB R s args own index y bytes maxL ret ws rm mc ms n) (hM : vx_Met l y ws rm Pc Qc XC mc ms free) (hbl : FrameBlind Pc) : vx_Back l R p e below s args y 3 8 (PreOf R mc ms Pc) (PostOf Qc mc ms free) (vx_Post XC mc ms free) := by
  obtain ⟨hrc, hrs, hfr, hlo, hws, hcw, -, hini, -⟩ := cb
  exact vx_back (bytes := bytes) (maxL := maxL) (ret := ret) hM hbl hrc hrs hfr hlo hws hcw (fun a' U hW => word_at hW (Or.inl (by first | rfl | simp [Cond.onTables, Cond.keeps, Cond.steady])) hini)
theorem vx_runV (S : CallFix p m c cc nL s args Ts own) (hM : vx_Met l y ws rm Pc Qc XC mc ms free) (cw : CallW R s args own C index y bytes maxL ret ws rm mc ms n) (hp : PreV s H C b Pc As)
    (hg : g.method = m) (hn : As.length = n) (hsize : g.locals.size = nL) (hstack : g.stack = As.reverse ++ .ref b :: rest) (hW : 2 * g.monitorRoom + (rest.map fun v => v.category).sum ≤ 8) (hdg : decode cc g.pc = .ok (.invokevirtual index, 3)) (hf : cells + mc ≤ R.cells ∧ slots + ms ≤ R.slots) :
    vx_Run p l e R s m args below meth c H locs cells slots mc ms g rest (Qc (Value.ref b :: As).toArray) XC free := by
  have hK : vx_Back l R p e below s args y 3 8 (PreOf R mc ms Pc) (PostOf Qc mc ms free) (vx_Post XC mc ms free) := vx_callBack cw.1 hM hp.1
  obtain ⟨⟨-, -, -, -, -, -, hcode, -, hy, hlen, hl⟩, hin, hse⟩ := cw
  obtain ⟨hx, hb, hml, ho, -⟩ := S
  obtain ⟨-, ⟨cellB, hcB, hoB, hclB⟩, hPc⟩ := hp
  intro T hT X
  rcases vx_callV X hx (C := C) (bytes := bytes) (maxL := maxL) (ret := ret) ho hl hin hse hcode hy hK (by rw [hT]; exact hcB) hoB hclB hg (hsize.trans hml.symm) (argsL := As) (rest := rest) (fun sig h => hn.trans (hlen sig h)) hstack hW (by rw [hb]; exact hdg)
    (fun vm₁ hW₁ => ⟨hf.1, hf.2, hPc (T.setVm vm₁) hT hW₁⟩) with ⟨v, vm₁, ⟨U', l2, c2, s2⟩, hW₁, X', ⟨g', mk, t, L, e1, e2, hq, h1, hL, h2, h3⟩, st⟩ | ⟨q, vm₁, ⟨U', l2, c2, s2⟩, hW₁, X', ⟨g', mk, t, L, E, ce, e1, e2, hq, hce, hcv, hcl, h1, hL, h2, h3⟩, st⟩
  · dsimp only [Pt.U, Pt.locs, Pt.cells, Pt.slots] at X' e1 e2 h1 h2 h3 st
    subst h1; subst h2; subst h3
    exact Or.inl ⟨v, (T.setVm vm₁).calling g' mk (Value.ref b :: As).toArray, t, U', L, hT, X', hL, e1, e2, hq, st⟩
  · dsimp only [Pt.U, Pt.locs, Pt.cells, Pt.slots] at X' e1 e2 h1 h2 h3 st hcl
    subst h1; subst h2; subst h3
    exact Or.inr ⟨q, (T.setVm vm₁).calling g' mk (Value.ref b :: As).toArray, t, U', L, E, ce, hT, X', hL, e1, e2, hq, hce, hcv, vx_cls hW₁ hcl, st⟩
theorem vx_runS (S : CallFix p m c cc nL s args Ts own) (hM : vx_Met l y ws rm Pc Qc XC mc ms free) (cw : CallB R s args own index y bytes maxL ret ws rm mc ms n ∧ (Cond.static y).before args s = true) (hp : PreS s H Pc As)
    (hg : g.method = m) (hn : As.length = n) (hsize : g.locals.size = nL) (hstack : g.stack = As.reverse ++ rest) (hW : 2 * g.monitorRoom + (rest.map fun v => v.category).sum ≤ 8) (hdg : decode cc g.pc = .ok (.invokestatic index, 3)) (hf : cells + mc ≤ R.cells ∧ slots + ms ≤ R.slots) :
    vx_Run p l e R s m args below meth c H locs cells slots mc ms g rest (Qc As.toArray) XC free := by
  have hK : vx_Back l R p e below s args y 3 8 (PreOf R mc ms Pc) (PostOf Qc mc ms free) (vx_Post XC mc ms free) := vx_callBack cw.1 hM hp.1
  obtain ⟨⟨-, -, -, -, -, -, hcode, hini, hy, hlen, hl⟩, hstt⟩ := cw
  obtain ⟨hx, hb, hml, ho, -⟩ := S
  intro T hT X
  rcases vx_callS X hx (bytes := bytes) (maxL := maxL) (ret := ret) ho hl hstt hini hcode hy hK hg (hsize.trans hml.symm) (argsL := As) (rest := rest) (fun sig h => hn.trans (hlen sig h)) hstack hW (by rw [hb]; exact hdg)
    (fun vm₁ hW₁ => ⟨hf.1, hf.2, hp.2 (T.setVm vm₁) hT hW₁⟩) with ⟨v, vm₁, ⟨U', l2, c2, s2⟩, hW₁, X', ⟨g', mk, t, L, e1, e2, hq, h1, hL, h2, h3⟩, st⟩ | ⟨q, vm₁, ⟨U', l2, c2, s2⟩, hW₁, X', ⟨g', mk, t, L, E, ce, e1, e2, hq, hce, hcv, hcl, h1, hL, h2, h3⟩, st⟩
  · dsimp only [Pt.U, Pt.locs, Pt.cells, Pt.slots] at X' e1 e2 h1 h2 h3 st
    subst h1; subst h2; subst h3
    exact Or.inl ⟨v, (T.setVm vm₁).calling g' mk As.toArray, t, U', L, hT, X', hL, e1, e2, hq, st⟩
  · dsimp only [Pt.U, Pt.locs, Pt.cells, Pt.slots] at X' e1 e2 h1 h2 h3 st hcl
    subst h1; subst h2; subst h3
    exact Or.inr ⟨q, (T.setVm vm₁).calling g' mk As.toArray, t, U', L, E, ce, hT, X', hL, e1, e2, hq, hce, hcv, vx_cls hW₁ hcl, st⟩
end Runs
section Rows
variable {p : Program} {l : Launch} {e : Env} {R : Room} {s : State} {m : MethodId} {args : Array Value} {below : List Frame} {meth : Method} {c : Code} {H : Heap} {locs : List Loc} {cells slots : Nat} {Q : State → Prop}
variable {mc ms : Nat} {free : Addr → Prop} {A0 A1 : Nat → Prop} {H0 : Heap} {a : Array Value} {pc : Nat} {ls : Array Slot} {st0 rest : List Value}
theorem vx_keep {st₀ t T' : State} {L : List Loc} (h0 : st₀.heap = H) (e1 : T'.heap = t.heap) (hS : va_S A0 H0 H locs) (hA : ∀ q, q < H.size → A1 q → A0 q) (hf : ∀ q, free q → A0 q) (hL : ∀ q ∈ L, free q.base) (hF : va_F A1 st₀ t) :
    H.size ≤ T'.heap.size ∧ (∀ q : Nat, q < H.size → ¬ A1 q → T'.heap[q]? = H[q]?) ∧ va_S A0 H0 T'.heap (locs ++ L) := by
  obtain ⟨hz, hk⟩ := hF
  rw [h0] at hz hk
  exact ⟨by rw [e1]; exact hz, fun q h1 h2 => by rw [e1]; exact hk q h1 h2,
    ⟨Nat.le_trans hS.1 (by rw [e1]; exact hz), fun q h1 h2 => by rw [e1, hk q (Nat.lt_of_lt_of_le h1 hS.1) (fun z => h2 (hA q (Nat.lt_of_lt_of_le h1 hS.1) z))]; exact hS.2.1 q h1 h2, fun q hq => by
      rcases List.mem_append.mp hq with h | h
      · exact hS.2.2 q h
      · exact hf _ (hL q h)⟩⟩
theorem vx_calli {S SX : Type} {post : Int32 → S → Prop} {px : SX → Prop} {B : S → State → Prop} {BX : String → SX → State → Prop} {AX : Nat → Prop} (hr : vx_Run p l e R s m args below meth c H locs cells slots mc ms (F0 m pc ls st0) rest (va_Qi post B A1 a) (vx_X px BX AX) free) (hS : va_S A0 H0 H locs) (hA : ∀ q, q < H.size → A1 q → A0 q) (hf : ∀ q, free q → A0 q) (hAX : ∀ q, q < H.size → AX q → A0 q)
    (kx : ∀ (E : String) (ce : Cell) (q9 : Addr) (u : SX) (t : State) (H1 : Heap) (locs1 : List Loc), t.heap = H1 → s.vm.Alike t.vm → px u → BX E u t → H.size ≤ H1.size → (∀ q : Nat, q < H.size → ¬ AX q → H1[q]? = H[q]?) → va_S A0 H0 H1 locs1 → H1[q9]? = some ce → ce.vm = .none → s.vm.findClass E = some ce.cls → vx_W p l e R s m args below meth c H1 locs1 (cells + mc) (slots + ms) Q (F0 m pc ls rest) q9)
    (kk : ∀ (r : Int32) (u : S) (t : State) (H1 : Heap) (locs1 : List Loc), t.heap = H1 → s.vm.Alike t.vm → post r u → B u t → H.size ≤ H1.size → (∀ q : Nat, q < H.size → ¬ A1 q → H1[q]? = H[q]?) → va_S A0 H0 H1 locs1 → W p l e R s m args below meth c H1 locs1 (cells + mc) (slots + ms) Q (F0 m (pc + 3) ls (.int r :: rest))) : W p l e R s m args below meth c H locs cells slots Q (F0 m pc ls st0) := by
  intro T hT X
  rcases hr T hT X with ⟨v, st₀, t, T', L, h0, X', hL, e1, e2, ⟨⟨r, u, hv, hp, hb⟩, hF⟩, st⟩ | ⟨q, st₀, t, T', L, E, ce, h0, X', hL, e1, e2, ⟨u, hp, hb, hF⟩, hce, hcv, hcl, st⟩
  · cases hv
    obtain ⟨k1, k2, k3⟩ := vx_keep h0 e1 hS hA hf hL hF
    obtain ⟨t2, a1, b1⟩ := kk r u t T'.heap (locs ++ L) e1.symm (by rw [← e2]; exact X'.warmed.alike) hp hb k1 k2 k3 T' rfl X'
    exact ⟨t2, st t2 a1, b1⟩
  · obtain ⟨k1, k2, k3⟩ := vx_keep h0 e1 hS hAX hf hL hF
    obtain ⟨t2, a1, b1⟩ := kx E ce q u t T'.heap (locs ++ L) e1.symm (by rw [← e2]; exact X'.warmed.alike) hp hb k1 k2 k3 (by rw [e1]; exact hce) hcv hcl T' rfl X'
    exact ⟨t2, st.trans a1, b1⟩
theorem vx_calll {S SX : Type} {post : Int64 → S → Prop} {px : SX → Prop} {B : S → State → Prop} {BX : String → SX → State → Prop} {AX : Nat → Prop} (hr : vx_Run p l e R s m args below meth c H locs cells slots mc ms (F0 m pc ls st0) rest (va_Ql post B A1 a) (vx_X px BX AX) free) (hS : va_S A0 H0 H locs) (hA : ∀ q, q < H.size → A1 q → A0 q) (hf : ∀ q, free q → A0 q) (hAX : ∀ q, q < H.size → AX q → A0 q)
    (kx : ∀ (E : String) (ce : Cell) (q9 : Addr) (u : SX) (t : State) (H1 : Heap) (locs1 : List Loc), t.heap = H1 → s.vm.Alike t.vm → px u → BX E u t → H.size ≤ H1.size → (∀ q : Nat, q < H.size → ¬ AX q → H1[q]? = H[q]?) → va_S A0 H0 H1 locs1 → H1[q9]? = some ce → ce.vm = .none → s.vm.findClass E = some ce.cls → vx_W p l e R s m args below meth c H1 locs1 (cells + mc) (slots + ms) Q (F0 m pc ls rest) q9)
    (kk : ∀ (r : Int64) (u : S) (t : State) (H1 : Heap) (locs1 : List Loc), t.heap = H1 → s.vm.Alike t.vm → post r u → B u t → H.size ≤ H1.size → (∀ q : Nat, q < H.size → ¬ A1 q → H1[q]? = H[q]?) → va_S A0 H0 H1 locs1 → W p l e R s m args below meth c H1 locs1 (cells + mc) (slots + ms) Q (F0 m (pc + 3) ls (.long r :: rest))) : W p l e R s m args below meth c H locs cells slots Q (F0 m pc ls st0) := by
  intro T hT X
  rcases hr T hT X with ⟨v, st₀, t, T', L, h0, X', hL, e1, e2, ⟨⟨r, u, hv, hp, hb⟩, hF⟩, st⟩ | ⟨q, st₀, t, T', L, E, ce, h0, X', hL, e1, e2, ⟨u, hp, hb, hF⟩, hce, hcv, hcl, st⟩
  · cases hv
    obtain ⟨k1, k2, k3⟩ := vx_keep h0 e1 hS hA hf hL hF
    obtain ⟨t2, a1, b1⟩ := kk r u t T'.heap (locs ++ L) e1.symm (by rw [← e2]; exact X'.warmed.alike) hp hb k1 k2 k3 T' rfl X'
    exact ⟨t2, st t2 a1, b1⟩
  · obtain ⟨k1, k2, k3⟩ := vx_keep h0 e1 hS hAX hf hL hF
    obtain ⟨t2, a1, b1⟩ := kx E ce q u t T'.heap (locs ++ L) e1.symm (by rw [← e2]; exact X'.warmed.alike) hp hb k1 k2 k3 (by rw [e1]; exact hce) hcv hcl T' rfl X'
    exact ⟨t2, st.trans a1, b1⟩
theorem vx_callf {S SX : Type} {post : UInt32 → S → Prop} {px : SX → Prop} {B : S → State → Prop} {BX : String → SX → State → Prop} {AX : Nat → Prop} (hr : vx_Run p l e R s m args below meth c H locs cells slots mc ms (F0 m pc ls st0) rest (va_Qf post B A1 a) (vx_X px BX AX) free) (hS : va_S A0 H0 H locs) (hA : ∀ q, q < H.size → A1 q → A0 q) (hf : ∀ q, free q → A0 q) (hAX : ∀ q, q < H.size → AX q → A0 q)
    (kx : ∀ (E : String) (ce : Cell) (q9 : Addr) (u : SX) (t : State) (H1 : Heap) (locs1 : List Loc), t.heap = H1 → s.vm.Alike t.vm → px u → BX E u t → H.size ≤ H1.size → (∀ q : Nat, q < H.size → ¬ AX q → H1[q]? = H[q]?) → va_S A0 H0 H1 locs1 → H1[q9]? = some ce → ce.vm = .none → s.vm.findClass E = some ce.cls → vx_W p l e R s m args below meth c H1 locs1 (cells + mc) (slots + ms) Q (F0 m pc ls rest) q9)
    (kk : ∀ (r : UInt32) (u : S) (t : State) (H1 : Heap) (locs1 : List Loc), t.heap = H1 → s.vm.Alike t.vm → post r u → B u t → H.size ≤ H1.size → (∀ q : Nat, q < H.size → ¬ A1 q → H1[q]? = H[q]?) → va_S A0 H0 H1 locs1 → W p l e R s m args below meth c H1 locs1 (cells + mc) (slots + ms) Q (F0 m (pc + 3) ls (.float r :: rest))) : W p l e R s m args below meth c H locs cells slots Q (F0 m pc ls st0) := by
  intro T hT X
  rcases hr T hT X with ⟨v, st₀, t, T', L, h0, X', hL, e1, e2, ⟨⟨r, u, hv, hp, hb⟩, hF⟩, st⟩ | ⟨q, st₀, t, T', L, E, ce, h0, X', hL, e1, e2, ⟨u, hp, hb, hF⟩, hce, hcv, hcl, st⟩
  · cases hv
    obtain ⟨k1, k2, k3⟩ := vx_keep h0 e1 hS hA hf hL hF
    obtain ⟨t2, a1, b1⟩ := kk r u t T'.heap (locs ++ L) e1.symm (by rw [← e2]; exact X'.warmed.alike) hp hb k1 k2 k3 T' rfl X'
    exact ⟨t2, st t2 a1, b1⟩
  · obtain ⟨k1, k2, k3⟩ := vx_keep h0 e1 hS hAX hf hL hF
    obtain ⟨t2, a1, b1⟩ := kx E ce q u t T'.heap (locs ++ L) e1.symm (by rw [← e2]; exact X'.warmed.alike) hp hb k1 k2 k3 (by rw [e1]; exact hce) hcv hcl T' rfl X'
    exact ⟨t2, st.trans a1, b1⟩
theorem vx_calld {S SX : Type} {post : UInt64 → S → Prop} {px : SX → Prop} {B : S → State → Prop} {BX : String → SX → State → Prop} {AX : Nat → Prop} (hr : vx_Run p l e R s m args below meth c H locs cells slots mc ms (F0 m pc ls st0) rest (va_Qd post B A1 a) (vx_X px BX AX) free) (hS : va_S A0 H0 H locs) (hA : ∀ q, q < H.size → A1 q → A0 q) (hf : ∀ q, free q → A0 q) (hAX : ∀ q, q < H.size → AX q → A0 q)
    (kx : ∀ (E : String) (ce : Cell) (q9 : Addr) (u : SX) (t : State) (H1 : Heap) (locs1 : List Loc), t.heap = H1 → s.vm.Alike t.vm → px u → BX E u t → H.size ≤ H1.size → (∀ q : Nat, q < H.size → ¬ AX q → H1[q]? = H[q]?) → va_S A0 H0 H1 locs1 → H1[q9]? = some ce → ce.vm = .none → s.vm.findClass E = some ce.cls → vx_W p l e R s m args below meth c H1 locs1 (cells + mc) (slots + ms) Q (F0 m pc ls rest) q9)
    (kk : ∀ (r : UInt64) (u : S) (t : State) (H1 : Heap) (locs1 : List Loc), t.heap = H1 → s.vm.Alike t.vm → post r u → B u t → H.size ≤ H1.size → (∀ q : Nat, q < H.size → ¬ A1 q → H1[q]? = H[q]?) → va_S A0 H0 H1 locs1 → W p l e R s m args below meth c H1 locs1 (cells + mc) (slots + ms) Q (F0 m (pc + 3) ls (.double r :: rest))) : W p l e R s m args below meth c H locs cells slots Q (F0 m pc ls st0) := by
  intro T hT X
  rcases hr T hT X with ⟨v, st₀, t, T', L, h0, X', hL, e1, e2, ⟨⟨r, u, hv, hp, hb⟩, hF⟩, st⟩ | ⟨q, st₀, t, T', L, E, ce, h0, X', hL, e1, e2, ⟨u, hp, hb, hF⟩, hce, hcv, hcl, st⟩
  · cases hv
    obtain ⟨k1, k2, k3⟩ := vx_keep h0 e1 hS hA hf hL hF
    obtain ⟨t2, a1, b1⟩ := kk r u t T'.heap (locs ++ L) e1.symm (by rw [← e2]; exact X'.warmed.alike) hp hb k1 k2 k3 T' rfl X'
    exact ⟨t2, st t2 a1, b1⟩
  · obtain ⟨k1, k2, k3⟩ := vx_keep h0 e1 hS hAX hf hL hF
    obtain ⟨t2, a1, b1⟩ := kx E ce q u t T'.heap (locs ++ L) e1.symm (by rw [← e2]; exact X'.warmed.alike) hp hb k1 k2 k3 (by rw [e1]; exact hce) hcv hcl T' rfl X'
    exact ⟨t2, st.trans a1, b1⟩
theorem vx_callv {S SX : Type} {post : S → Prop} {px : SX → Prop} {B : S → State → Prop} {BX : String → SX → State → Prop} {AX : Nat → Prop} (hr : vx_Run p l e R s m args below meth c H locs cells slots mc ms (F0 m pc ls st0) rest (va_Qv post B A1 a) (vx_X px BX AX) free) (hS : va_S A0 H0 H locs) (hA : ∀ q, q < H.size → A1 q → A0 q) (hf : ∀ q, free q → A0 q) (hAX : ∀ q, q < H.size → AX q → A0 q)
    (kx : ∀ (E : String) (ce : Cell) (q9 : Addr) (u : SX) (t : State) (H1 : Heap) (locs1 : List Loc), t.heap = H1 → s.vm.Alike t.vm → px u → BX E u t → H.size ≤ H1.size → (∀ q : Nat, q < H.size → ¬ AX q → H1[q]? = H[q]?) → va_S A0 H0 H1 locs1 → H1[q9]? = some ce → ce.vm = .none → s.vm.findClass E = some ce.cls → vx_W p l e R s m args below meth c H1 locs1 (cells + mc) (slots + ms) Q (F0 m pc ls rest) q9)
    (kk : ∀ (u : S) (t : State) (H1 : Heap) (locs1 : List Loc), t.heap = H1 → s.vm.Alike t.vm → post u → B u t → H.size ≤ H1.size → (∀ q : Nat, q < H.size → ¬ A1 q → H1[q]? = H[q]?) → va_S A0 H0 H1 locs1 → W p l e R s m args below meth c H1 locs1 (cells + mc) (slots + ms) Q (F0 m (pc + 3) ls (rest))) : W p l e R s m args below meth c H locs cells slots Q (F0 m pc ls st0) := by
  intro T hT X
  rcases hr T hT X with ⟨v, st₀, t, T', L, h0, X', hL, e1, e2, ⟨⟨u, hv, hp, hb⟩, hF⟩, st⟩ | ⟨q, st₀, t, T', L, E, ce, h0, X', hL, e1, e2, ⟨u, hp, hb, hF⟩, hce, hcv, hcl, st⟩
  · cases hv
    obtain ⟨k1, k2, k3⟩ := vx_keep h0 e1 hS hA hf hL hF
    obtain ⟨t2, a1, b1⟩ := kk u t T'.heap (locs ++ L) e1.symm (by rw [← e2]; exact X'.warmed.alike) hp hb k1 k2 k3 T' rfl X'
    exact ⟨t2, st t2 a1, b1⟩
  · obtain ⟨k1, k2, k3⟩ := vx_keep h0 e1 hS hAX hf hL hF
    obtain ⟨t2, a1, b1⟩ := kx E ce q u t T'.heap (locs ++ L) e1.symm (by rw [← e2]; exact X'.warmed.alike) hp hb k1 k2 k3 (by rw [e1]; exact hce) hcv hcl T' rfl X'
    exact ⟨t2, st.trans a1, b1⟩
/-- caught by the row x of this method's table; the rows ahead don't take it -/
theorem vx_catch {own name : String} {E : String} {ce : Cell} {q : Addr} (hown : s.vm.findClass own = some m.cls) (pre : List ExceptionTableEntry) (x : ExceptionTableEntry) (suf : List ExceptionTableEntry) (hsplit : c.exceptionTable.toList = pre ++ x :: suf)
    (hpass : ∀ z ∈ pre, covers z pc = false ∨ (z.catchType ≠ 0 ∧ ∃ nm : String, (Cond.classLink own z.catchType nm).before args s = true ∧ va_Nc E nm s)) (hx : covers x pc = true) (h0 : x.catchType ≠ 0)
    (hlink : (Cond.classLink own x.catchType name).before args s = true) (hcast : (Cond.castable E name).before args s = true) (hcell : H[q]? = some ce) (hv : ce.vm = .none) (hcl : s.vm.findClass E = some ce.cls)
    (kk : W p l e R s m args below meth c H locs cells slots Q (F0 m x.handlerPc ls [.ref q])) : vx_W p l e R s m args below meth c H locs cells slots Q (F0 m pc ls rest) q := by
  intro T hT X
  have hpl : e.platform.magicAccessors = ({} : Platform).magicAccessors := by rw [X.admits.platform]
  obtain ⟨c3, c4, hc3, hc4, hasg⟩ := Cond.castable_spec hcast
  cases Option.some.inj (hc3.symm.trans hcl)
  obtain ⟨c5, hc5, hcl5⟩ := Cond.classLink_spec hown hlink e.platform hpl
  cases Option.some.inj (hc4.symm.trans hc5)
  obtain ⟨vm', X', st⟩ := X.thenCaughtThrough q (g := F0 m pc ls rest) rfl (Steps.refl _) (by rw [hT]; exact hcell) (by rw [hv]; rfl) (by obtain ⟨k9, h9, -⟩ := Vm.findClass_spec hcl; exact ⟨k9, h9⟩) pre x suf hsplit
    (fun z hz => by
      rcases hpass z hz with h | ⟨hz0, nm, hl1, hn1⟩
      · exact Or.inl h
      · obtain ⟨c6, hc6, hcl6⟩ := Cond.classLink_spec hown hl1 e.platform hpl
        obtain ⟨a8, b8, h1, h2, h3⟩ := hn1
        cases Option.some.inj (h1.symm.trans hcl)
        cases Option.some.inj (h2.symm.trans hc6)
        exact Or.inr ⟨hz0, _, hcl6, h3⟩) hx (Or.inr ⟨h0, c4, hcl5, hasg⟩)
  obtain ⟨t, a1, b1⟩ := kk (T.setVm vm') hT X'
  exact ⟨t, st.trans a1, b1⟩
end Rows
section Ends
variable {p : Program} {l : Launch} {e : Env} {R : Room} {s : State} {m : MethodId} {args : Array Value} {below : List Frame} {meth : Method} {c : Code} {H : Heap} {locs : List Loc} {cells slots : Nat} {Q : State → Prop}
variable {mc ms : Nat} {free : Addr → Prop} {A0 A1 : Nat → Prop} {H0 : Heap} {a : Array Value} {ls : Array Slot} {st0 rest : List Value}
variable {Qc : Array Value → State → Outcome → State → Prop} {XC : String → State → State → Prop}
/-- what a body that may throw owes at its end -/
def vx_MQ (below : List Frame) (Qc : Array Value → State → Outcome → State → Prop) (XC : String → State → State → Prop) (a : Array Value) (s : State) (mc ms : Nat) (free : Addr → Prop) : State → Prop := fun t =>
  ∃ o, t.status = .running ∧ Ended t below o ∧ vx_Q Qc XC mc ms free a s o t
theorem vx_ret {g : JFrame} {mc ms : Nat} (k : W p l e R s m args below meth c H locs cells slots (MQ below Qc args s mc ms free) g) : W p l e R s m args below meth c H locs cells slots (vx_MQ below Qc XC args s mc ms free) g := by
  intro T hT X
  obtain ⟨t, a1, o, b1, b2, b3, b4⟩ := k T hT X
  exact ⟨t, a1, o, b1, b2, Or.inl ⟨b3, b4⟩⟩
/-- not caught here: it goes on to the caller -/
theorem vx_widen {g : JFrame} {q : Addr} {k n : Nat} (h1 : cells ≤ k) (h2 : slots ≤ n) (kk : vx_W p l e R s m args below meth c H locs k n Q g q) : vx_W p l e R s m args below meth c H locs cells slots Q g q := fun T hT X => kk T hT (stand_widen X h1 h2)
theorem vx_out {pc : Nat} {E : String} {ce : Cell} {q : Addr} {mc ms : Nat} (hout : ∀ x ∈ c.exceptionTable.toList, covers x pc = false) (hlocks : meth.locks = false) (hcell : H[q]? = some ce) (hv : ce.vm = .none) (hcl : s.vm.findClass E = some ce.cls)
    (hx : ∀ t : State, t.heap = H → s.vm.Alike t.vm → XC E s t) (hf : ∀ z ∈ locs, free z.base) (hc : cells ≤ mc) (hs : slots ≤ ms) :
    vx_W p l e R s m args below meth c H locs cells slots (vx_MQ below Qc XC args s mc ms free) (F0 m pc ls rest) q := by
  intro T hT X
  obtain ⟨st1, hrun, hend, hW, hsm⟩ := X.leaveThrown q (g := F0 m pc ls rest) rfl rfl rfl hout hlocks
  have hcell9 : (T.setFrames (.throwing q :: below)).heap[q]? = some ce := by
    show T.heap[q]? = some ce
    rw [hT]; exact hcell
  exact ⟨_, st1, .threw q, hrun, hend, Or.inr ⟨q, rfl, E, ce, locs, hx _ hT hW.alike, hcell9, hv, hcl, hW, hsm.mono hc hs, hf⟩⟩
theorem vx_frame {U : State} {k n : Nat} (h : s.sameButNew ({ U with vm := s.vm } : State) locs k n) : s.heap.size ≤ U.heap.size ∧ ∀ q : Nat, q < s.heap.size → (∀ z ∈ locs, z.base ≠ q) → U.heap[q]? = s.heap[q]? := by
  obtain ⟨-, h2, -, -, -, h6⟩ := h
  refine ⟨h2, fun q hq hz => ?_⟩
  obtain ⟨c9, e1, e2, e3, e4⟩ := h6 q _ (Array.getElem?_eq_getElem hq)
  have hs : c9.slots = (s.heap[q]).slots := Array.ext_getElem? fun i => e4 i fun hm => hz _ hm rfl
  have h9 : c9 = s.heap[q] := by
    rw [hs] at e2
    exact e2
  have e5 : U.heap[q]? = some c9 := e1
  rw [e5, h9, Array.getElem?_eq_getElem hq]
/-- the words of a throw but the four that speak of the heap -/
def vx_no (w : Cond) : Bool := decide (w ≠ .isRef (.static Bundle.tN "UNASSIGNED_STACK" Bundle.steD)) && decide (w ≠ .isRef (.static Bundle.tN "SUPPRESSED_SENTINEL" Bundle.listD)) && decide (w ≠ .laysStatic Bundle.tN "UNASSIGNED_STACK" Bundle.steD) && decide (w ≠ .laysStatic Bundle.tN "SUPPRESSED_SENTINEL" Bundle.listD)
def vx_at0 (own : String) (ic : Nat) (X : String) (names : List String) : List Cond := (Bundle.ownAtoms0 own ic X names).filter vx_no
def vx_atS (own : String) (ic : Nat) (X : String) (names : List String) : List Cond := (Bundle.ownAtoms own ic X names).filter vx_no
/-- a word that the tables alone decide, or a good one -/
def vx_ot (w : Cond) : Bool := w.onTables || goodWord w
theorem vx_ot_at {args a' : Array Value} {s U : State} {w : Cond} (hW : s.WarmedH U.vm) (hvm : s.vm = U.vm) (hg : vx_ot w = true) (h : w.before args s = true) : w.before a' U = true := by
  simp only [vx_ot, Bool.or_eq_true] at hg
  rcases hg with hg | hg
  · exact va_tabs hg hvm h
  · exact word_at hW (good_of_word hg) h
/-- a list's words: the good ones out of the method's own list, the others by premises of their own -/
theorem vx_hat {args : Array Value} {s : State} {L B : List Cond} (h1 : ∀ w ∈ L.filter goodWord, w.before args s = true) (h2 : ∀ w ∈ L.filter (fun w => !goodWord w), w ∈ B) (h3 : ∀ w ∈ B, w.before args s = true) : ∀ w ∈ L, w.before args s = true := by
  intro w hw
  by_cases g : goodWord w = true
  · exact h1 w (List.mem_filter.mpr ⟨hw, g⟩)
  · refine h3 w (h2 w (List.mem_filter.mpr ⟨hw, ?_⟩))
    show (!goodWord w) = true
    cases hgw : goodWord w
    · rfl
    · exact absurd hgw g
theorem vx_c {args : Array Value} {s : State} {w : Cond} {B : List Cond} (h : w.before args s = true) (t : ∀ w ∈ B, w.before args s = true) : ∀ w' ∈ w :: B, w'.before args s = true := fun w' h' => (List.mem_cons.mp h').elim (fun e => by rw [e]; exact h) (t w')
theorem vx_n {args : Array Value} {s : State} : ∀ w ∈ ([] : List Cond), w.before args s = true := fun _ h => nomatch h
theorem vx_own {args : Array Value} {s : State} {L : List Cond} (h1 : ∀ w ∈ L.filter vx_no, w.before args s = true)
    (hU : (Cond.isRef (.static Bundle.tN "UNASSIGNED_STACK" Bundle.steD)).before args s = true) (hN : (Cond.isRef (.static Bundle.tN "SUPPRESSED_SENTINEL" Bundle.listD)).before args s = true)
    (lU : (Cond.laysStatic Bundle.tN "UNASSIGNED_STACK" Bundle.steD).before args s = true) (lN : (Cond.laysStatic Bundle.tN "SUPPRESSED_SENTINEL" Bundle.listD).before args s = true) : ∀ w ∈ L, w.before args s = true := by
  intro w hw
  by_cases e1 : w = .isRef (.static Bundle.tN "UNASSIGNED_STACK" Bundle.steD)
  · rw [e1]; exact hU
  · by_cases e2 : w = .isRef (.static Bundle.tN "SUPPRESSED_SENTINEL" Bundle.listD)
    · rw [e2]; exact hN
    · by_cases e3 : w = .laysStatic Bundle.tN "UNASSIGNED_STACK" Bundle.steD
      · rw [e3]; exact lU
      · by_cases e4 : w = .laysStatic Bundle.tN "SUPPRESSED_SENTINEL" Bundle.listD
        · rw [e4]; exact lN
        · exact h1 w (List.mem_filter.mpr ⟨hw, by unfold vx_no; rw [decide_eq_true e1, decide_eq_true e2, decide_eq_true e3, decide_eq_true e4]; rfl⟩)
/-- where a static field lies, its class's statics cell in H -/
def vx_L (C n d : String) (A : Nat → Prop) (U : State) (H : Heap) : Prop := ∃ (c : ClassId) (k : Class) (i : Nat) (f : Field) (a : Nat) (cell : Cell), U.vm.findClass C = some c ∧ U.fieldFound? C n d = some (c, k, i, f) ∧ f.isStatic = true ∧ k.statics = some a ∧ H[a]? = some cell ∧ cell.vm.isStatics = true ∧ cell.cls = c ∧ f.slot < cell.slots.size ∧ k.staticTypes[f.slot]? = some f.type ∧ ¬ A a
theorem vx_L.moved {C n d : String} {A : Nat → Prop} {u U : State} {H : Heap} (hvm : u.vm.Alike U.vm) (h : vx_L C n d A u H) : vx_L C n d A U H := by
  obtain ⟨c, k, i, f, a, cell, h1, h2, h3, h4, h5, h6, h7, h8, h9, h10⟩ := h
  obtain ⟨k', hi', he⟩ := State.fieldFound?_setVm hvm h2
  exact ⟨c, k', i, f, a, cell, by rw [hvm.findClass]; exact h1, hi', h3, by rw [he]; exact h4, h5, h6, h7, h8, by rw [he]; exact h9, h10⟩
theorem vx_L.kept {C n d : String} {A : Nat → Prop} {U : State} {H H1 : Heap} (h : vx_L C n d A U H) (hq : ∀ a : Nat, a < H.size → ¬ A a → H1[a]? = H[a]?) : vx_L C n d A U H1 := by
  obtain ⟨c, k, i, f, a, cell, h1, h2, h3, h4, h5, h6, h7, h8, h9, h10⟩ := h
  exact ⟨c, k, i, f, a, cell, h1, h2, h3, h4, by rw [hq a (Array.getElem?_eq_some_iff.mp h5).1 h10]; exact h5, h6, h7, h8, h9, h10⟩
theorem vx_L.narrow {C n d : String} {A B : Nat → Prop} {U : State} {H : Heap} (h : vx_L C n d A U H) (hAB : ∀ q, B q → A q) : vx_L C n d B U H := by
  obtain ⟨c, k, i, f, a, cell, h1, h2, h3, h4, h5, h6, h7, h8, h9, h10⟩ := h
  exact ⟨c, k, i, f, a, cell, h1, h2, h3, h4, h5, h6, h7, h8, h9, fun z => h10 (hAB _ z)⟩
theorem vx_L.word {C n d : String} {A : Nat → Prop} {s : State} {args : Array Value} (h : vx_L C n d A s s.heap) : (Cond.laysStatic C n d).before args s = true := by
  obtain ⟨c, k, i, f, a, cell, h1, h2, h3, h4, h5, h6, h7, h8, h9, -⟩ := h
  show (Cond.laysStatic C n d).holds args s none s [] = true
  exact Cond.laysStatic_of h1 h2 h3 h4 h5 h6 h7 h8 h9
/-- .. and what it holds: null or some reference -/
def vx_Zq (C n d : String) (A : Nat → Prop) (U : State) (H : Heap) : Prop := va_Zq C n d A U H ∧ vx_L C n d A U H
theorem vx_Zq.moved {C n d : String} {A : Nat → Prop} {u U : State} {H : Heap} (hvm : u.vm.Alike U.vm) (h : vx_Zq C n d A u H) : vx_Zq C n d A U H := ⟨va_Zq.moved hvm h.1, vx_L.moved hvm h.2⟩
theorem vx_Zq.kept {C n d : String} {A : Nat → Prop} {U : State} {H H1 : Heap} (h : vx_Zq C n d A U H) (hq : ∀ a : Nat, a < H.size → ¬ A a → H1[a]? = H[a]?) : vx_Zq C n d A U H1 := ⟨va_Zq.kept h.1 hq, vx_L.kept h.2 hq⟩
theorem vx_Zq.narrow {C n d : String} {A B : Nat → Prop} {U : State} {H : Heap} (h : vx_Zq C n d A U H) (hAB : ∀ q, B q → A q) : vx_Zq C n d B U H := ⟨va_Zq.narrow h.1 hAB, vx_L.narrow h.2 hAB⟩
theorem vx_Zqof {args : Array Value} {s : State} {C n d : String} {A : Nat → Prop} (hl : (Cond.laysStatic C n d).before args s = true) (hini : (Cond.initialized C).before args s = true) (h : (Cond.isRef (.static C n d)).before args s = true) (hA : ∀ a : Nat, a < s.heap.size → ¬ A a) : vx_Zq C n d A s s.heap := by
  refine ⟨va_Zqof hl hini h hA, ?_⟩
  obtain ⟨c, k, i, f, a, cell, h1, h2, h3, h4, h5, h6, h7, h8, h9⟩ := Cond.laysStatic_spec hl
  exact ⟨c, k, i, f, a, cell, h1, h2, h3, h4, h5, h6, h7, h8, h9, hA a (Array.getElem?_eq_some_iff.mp h5).1⟩
theorem vx_isRef {C n d : String} {v : Value} {A : Nat → Prop} {s : State} {args : Array Value} (h : va_Z C n d v A s s.heap) (hv : v.isRef = true) : (Cond.isRef (.static C n d)).before args s = true := by
  obtain ⟨cf, kf, fi, f, a, cell, h1, h2, h3, h4, h5, h6, h7, -⟩ := h
  have he : (Term.static C n d).eval args s none [] s = some v := by
    simp [Term.eval, State.fieldNamed?, h1, h2, h4, h5, h6, h7]
  simp only [Cond.before, Cond.holds, Cond.value, he]
  cases v <;> simp_all [Value.isRef]
theorem vx_isRefq {C n d : String} {A : Nat → Prop} {s : State} {args : Array Value} (h : va_Zq C n d A s s.heap) : (Cond.isRef (.static C n d)).before args s = true := by
  rcases h with h | ⟨t, h⟩
  · exact vx_isRef h rfl
  · exact vx_isRef h rfl
/-- the same frame, seen from here: as if the method were called anew in this heap -/
theorem vx_rebase {T : State} (X : Stand p l e R s m args below meth c T locs cells slots) {R' : Room} (hf : R'.frames ≤ R.frames) (hl : R'.locals ≤ R.locals) (hc : cells + R'.cells ≤ R.cells) (hs : slots + R'.slots ≤ R.slots) :
    Stand p l e R' ((T.setVm s.vm).setFrames (.invoking m args :: below)) m args below meth c T [] 0 0 := by
  have htop : (T.setVm s.vm).topJava?.isSome := X.here.top
  have hF : ((T.setVm s.vm).setFrames (.invoking m args :: below)).frames = .invoking m args :: below := State.frames_setFrames _ (State.cur_lt_of_top htop)
  obtain ⟨g₀, hg0⟩ := Option.isSome_iff_exists.mp htop
  obtain ⟨r, hr⟩ := State.topJava?_eq_some.mp hg0
  have hl9 : e.platform.stackLimits (T.setVm s.vm).me = e.platform.stackLimits s.me := X.limits
  have hb9 : (T.setVm s.vm).me.stackBytes = s.me.stackBytes := X.bytes
  refine ⟨X.admits, X.cas, X.clock, hF, ?_, X.hears, X.method, X.code, X.here, X.tail, X.warmed, ?_, ?_, ?_⟩
  · have h := X.room
    have hU : ((T.setVm s.vm).setFrames (.invoking m args :: below)).localsInUse = s.localsInUse := by
      rw [State.localsInUse_invoking hF (meth := meth) (c := c) X.method X.code, State.localsInUse_invoking X.frames X.method X.code]
    simp only [State.hasRoom, Bool.and_eq_true, decide_eq_true_eq] at h ⊢
    obtain ⟨⟨⟨⟨h1, h2, h3, h4, h5, h6⟩, h7⟩, h8⟩, h9⟩ := h
    rw [X.frames, List.length_cons] at h2 h3
    have q1 := X.heapSize
    have q2 := X.used
    simp only [hF, hU, List.length_cons, State.stackLimits_setFrames, State.stackBytes_setFrames, hl9, hb9]
    refine ⟨⟨⟨⟨by omega, by omega, by omega, by omega, by omega, h6⟩, ?_⟩, ?_⟩, X.book⟩
    · show T.heap.size + R'.cells ≤ e.platform.maxCells
      omega
    · show T.slotsUsed + R'.slots ≤ e.platform.maxSlots
      omega
  · rw [State.stackLimits_setFrames]; rfl
  · rw [State.stackBytes_setFrames]; rfl
  · refine ⟨?_, Nat.le_refl _, Nat.le_refl _, ?_, ?_, fun a c9 h9 => ⟨c9, h9, rfl, rfl, fun _ _ => rfl⟩⟩
    · obtain ⟨t, ht, -⟩ := State.frames_cons hr
      show T.setVm s.vm = { ((T.setVm s.vm).setFrames (.invoking m args :: below)).setFrames (T.setVm s.vm).frames with heap := T.heap, slotsUsed := T.slotsUsed }
      rw [State.setFrames_setFrames, State.setFrames_self ht]
      rfl
    · show T.slotsUsed = T.slotsUsed + ((T.heap.toList.drop T.heap.size).map (·.slots.size)).sum
      rw [List.drop_eq_nil_of_le (Nat.le_of_eq Array.length_toList)]
      rfl
    · show ((T.heap.toList.drop T.heap.size).map (·.slots.size)).sum ≤ 0
      rw [List.drop_eq_nil_of_le (Nat.le_of_eq Array.length_toList)]
      exact Nat.le_refl _
/-- 'throw new E()': new; dup; invokespecial; athrow -/
theorem vx_throw0 {cc : ByteArray} {pc : Nat} (hexec : p.tables.exec = Jvm.exec) (hb : c.code = cc) (hl : l.stackTraces = false) {own cls : String} {names : List String} {ik ic mc ms : Nat} {A : Nat → Prop}
    (hown : s.vm.findClass own = some m.cls) (hcls : Bundle.fit cls = true) (hnames : ∀ n ∈ names, Bundle.fit n = true)
    (hk : (Cond.classLink own ik cls).before args s = true) (hini : (Cond.initialized cls).before args s = true) (hat : ∀ w ∈ vx_at0 own ic cls names, w.before args s = true)
    (hgood : ∀ w ∈ Cond.classLink own ik cls :: Cond.initialized cls :: vx_at0 own ic cls names, vx_ot w = true)
    (hU : vx_Zq Bundle.tN "UNASSIGNED_STACK" Bundle.steD A s s.heap) (hN : vx_Zq Bundle.tN "SUPPRESSED_SENTINEL" Bundle.listD A s s.heap) (hS : va_S A s.heap H locs) (hsize : ls.size = c.maxLocals)
    (d0 : decode cc pc = .ok (.new ik, 3)) (d3 : decode cc (pc + 3) = .ok (.dup, 1)) (d4 : decode cc (pc + 4) = .ok (.invokespecial ic, 3)) (d7 : decode cc (pc + 7) = .ok (.athrow, 1))
    (hout : ∀ x ∈ c.exceptionTable.toList, covers x (pc + 7) = false)
    (hRframes : names.length + 3 < R.frames) (hRlocals : (rest.map fun v => v.category).sum + (13 * (names.length + 1) + 42) ≤ R.locals) (hRcells : cells + 1 ≤ R.cells) (hRslots : slots + 6 ≤ R.slots) (hlocks : meth.locks = false)
    (hx : ∀ t : State, s.vm.Alike t.vm → H.size ≤ t.heap.size → (∀ q : Nat, q < H.size → t.heap[q]? = H[q]?) → XC cls s t)
    (hf : ∀ z ∈ locs, free z.base) (hc : cells + 1 ≤ mc) (hs : slots + 6 ≤ ms) :
    W p l e R s m args below meth c H locs cells slots (vx_MQ below Qc XC args s mc ms free) (F0 m pc ls rest) := by
  intro T hT X
  have htr : e.platform.stackTraces = false := (show e.platform.stackTraces = l.stackTraces by rw [X.admits.platform]).trans hl
  have Y := vx_rebase X (R' := { frames := R.frames, locals := R.locals, cells := 1, slots := 6 }) (Nat.le_refl _) (Nat.le_refl _) hRcells hRslots
  obtain ⟨s', hA⟩ : ∃ z, z = (T.setVm s.vm).setFrames (.invoking m args :: below) := ⟨_, rfl⟩
  rw [← hA] at Y
  have hvm : s'.vm = s.vm := by rw [hA]; rfl
  have hhp : s'.heap = H := by rw [hA]; exact hT
  have hW0 : s.WarmedH s'.vm := by rw [hvm]; exact State.WarmedH.refl s
  have hat' : ∀ w ∈ vx_at0 own ic cls names, w.before args s' = true := fun w hw => vx_ot_at hW0 hvm.symm (hgood w (List.mem_cons_of_mem _ (List.mem_cons_of_mem _ hw))) (hat w hw)
  have hk' : (Cond.classLink own ik cls).before args s' = true := vx_ot_at hW0 hvm.symm (hgood _ List.mem_cons_self) hk
  have hini' : (Cond.initialized cls).before args s' = true := vx_ot_at hW0 hvm.symm (hgood _ (List.mem_cons_of_mem _ List.mem_cons_self)) hini
  have hU' : vx_Zq Bundle.tN "UNASSIGNED_STACK" Bundle.steD A s' s'.heap := by rw [hhp]; exact vx_Zq.moved hW0.alike (hU.kept hS.2.1)
  have hN' : vx_Zq Bundle.tN "SUPPRESSED_SENTINEL" Bundle.listD A s' s'.heap := by rw [hhp]; exact vx_Zq.moved hW0.alike (hN.kept hS.2.1)
  have h : ∀ w ∈ Bundle.ownAtoms0 own ic cls names, w.before args s' = true := vx_own hat' (vx_isRefq hU'.1) (vx_isRefq hN'.1) hU'.2.word hN'.2.word
  have hown' : s'.vm.findClass own = some m.cls := by rw [hvm]; exact hown
  have hins : (Cond.instantiable cls 6).before args s' = true := h _ (by simp [Bundle.ownAtoms0])
  obtain ⟨vm₁, cX, kX, hfX, hkX, -, -, X₁, st1⟩ := Y.newCold hexec (own := own) (C := cls) (index := ik) (n := 6) hown' hk' hins hini'
    (g := F0 m pc ls rest) rfl (by rw [hb]; exact d0) (Nat.le_refl _) (Nat.le_refl _)
  generalize hT1 : (T.setVm vm₁).pushCell { cls := cX, slots := kX.instanceTypes.map defaultValue, vm := .none } = T1 at X₁ st1
  have hcat : (Value.ref T.heap.size).category = 1 := rfl
  have hcellA : T1.heap[T.heap.size]? = some (freshCell cX kX) := by rw [← hT1]; exact State.heap_pushCell_size _ _
  have d3' : decode c.code (pc + 3) = .ok (.dup, 1) := by rw [hb]; exact d3
  obtain ⟨U, hsteps, hrun, hend, hW, hsame, ce, hce, hO⟩ := X₁.ctorThrow0 hexec htr (own := own) (cls := cls) (names := names) (ic := ic) hown' hcls hnames h (fun x hx => nomatch hx) hfX hkX hcellA (by rw [hhp, hT]; exact Nat.le_refl _)
    (g := { method := m, pc := pc + 4, locals := ls, stack := .ref T.heap.size :: .ref T.heap.size :: rest, locked := none }) rfl hsize rfl rfl (rest := rest) rfl
    (by rw [hb]; exact d4) (by rw [hb]; exact d7) hout hRframes (by simp only [List.map_cons, List.sum_cons, hcat]; omega) hlocks
  obtain ⟨f1, f2⟩ := vx_frame hsame
  rw [hhp] at f1 f2
  have hWs : s.WarmedH U.vm := State.WarmedH.trans hW0 hW
  have hcl : s.vm.findClass cls = some ce.cls := by
    have h9 := hO.cls
    rw [hvm] at h9
    exact h9
  have hall : s.sameButNew ({ U with vm := s.vm } : State) locs mc ms := by
    subst hA
    obtain ⟨e1, e2⟩ := hsame
    rw [State.setFrames_setFrames] at e1
    have h2 : (T.setVm s.vm).sameButNew ({ U with vm := s.vm } : State) [] (0 + 1) (0 + 6) := ⟨e1, e2⟩
    have h3 := X.same.trans h2
    rw [List.append_nil] at h3
    exact h3.mono hc hs
  refine ⟨U, ?_, .threw T.heap.size, hrun, hend, Or.inr ⟨T.heap.size, rfl, cls, ce, locs, hx U hWs.alike f1 (fun q hq => f2 q hq (fun z hz => nomatch hz)), hce, hO.vm, hcl, hWs, hall, hf⟩⟩
  refine st1 _ ?_
  show Steps p.tables e below (T1.setTop { method := m, pc := pc + 3, locals := ls, stack := .ref T.heap.size :: rest, locked := none }) _
  jvm_step X₁.here [X₁.here.top, hexec, d3', Value.category]
  exact hsteps
/-- 'throw new E("text")': new; dup; ldc; invokespecial; athrow -/
theorem vx_throwS {cc : ByteArray} {pc : Nat} (hexec : p.tables.exec = Jvm.exec) (hb : c.code = cc) (hl : l.stackTraces = false) {own cls text : String} {names : List String} {ik is ic mc ms sa : Nat} {A : Nat → Prop}
    (hown : s.vm.findClass own = some m.cls) (hcls : Bundle.fit cls = true) (hnames : ∀ n ∈ names, Bundle.fit n = true)
    (hk : (Cond.classLink own ik cls).before args s = true) (hini : (Cond.initialized cls).before args s = true) (hstr : vk_R own is text sa s) (hat : ∀ w ∈ vx_atS own ic cls names, w.before args s = true)
    (hgood : ∀ w ∈ Cond.classLink own ik cls :: Cond.initialized cls :: vx_atS own ic cls names, vx_ot w = true)
    (hU : vx_Zq Bundle.tN "UNASSIGNED_STACK" Bundle.steD A s s.heap) (hN : vx_Zq Bundle.tN "SUPPRESSED_SENTINEL" Bundle.listD A s s.heap) (hS : va_S A s.heap H locs) (hsize : ls.size = c.maxLocals)
    (d0 : decode cc pc = .ok (.new ik, 3)) (d3 : decode cc (pc + 3) = .ok (.dup, 1)) (d4 : decode cc (pc + 4) = .ok (.ldc is, 2)) (d6 : decode cc (pc + 6) = .ok (.invokespecial ic, 3)) (d9 : decode cc (pc + 9) = .ok (.athrow, 1))
    (hout : ∀ x ∈ c.exceptionTable.toList, covers x (pc + 9) = false)
    (hRframes : names.length + 3 < R.frames) (hRlocals : (rest.map fun v => v.category).sum + (13 * (names.length + 1) + 43) ≤ R.locals) (hRcells : cells + 1 ≤ R.cells) (hRslots : slots + 6 ≤ R.slots) (hlocks : meth.locks = false)
    (hx : ∀ t : State, s.vm.Alike t.vm → H.size ≤ t.heap.size → (∀ q : Nat, q < H.size → t.heap[q]? = H[q]?) → XC cls s t)
    (hf : ∀ z ∈ locs, free z.base) (hc : cells + 1 ≤ mc) (hs : slots + 6 ≤ ms) :
    W p l e R s m args below meth c H locs cells slots (vx_MQ below Qc XC args s mc ms free) (F0 m pc ls rest) := by
  intro T hT X
  have htr : e.platform.stackTraces = false := (show e.platform.stackTraces = l.stackTraces by rw [X.admits.platform]).trans hl
  have Y := vx_rebase X (R' := { frames := R.frames, locals := R.locals, cells := 1, slots := 6 }) (Nat.le_refl _) (Nat.le_refl _) hRcells hRslots
  obtain ⟨s', hA⟩ : ∃ z, z = (T.setVm s.vm).setFrames (.invoking m args :: below) := ⟨_, rfl⟩
  rw [← hA] at Y
  have hvm : s'.vm = s.vm := by rw [hA]; rfl
  have hhp : s'.heap = H := by rw [hA]; exact hT
  have hW0 : s.WarmedH s'.vm := by rw [hvm]; exact State.WarmedH.refl s
  have hat' : ∀ w ∈ vx_atS own ic cls names, w.before args s' = true := fun w hw => vx_ot_at hW0 hvm.symm (hgood w (List.mem_cons_of_mem _ (List.mem_cons_of_mem _ hw))) (hat w hw)
  have hk' : (Cond.classLink own ik cls).before args s' = true := vx_ot_at hW0 hvm.symm (hgood _ List.mem_cons_self) hk
  have hini' : (Cond.initialized cls).before args s' = true := vx_ot_at hW0 hvm.symm (hgood _ (List.mem_cons_of_mem _ List.mem_cons_self)) hini
  have hU' : vx_Zq Bundle.tN "UNASSIGNED_STACK" Bundle.steD A s' s'.heap := by rw [hhp]; exact vx_Zq.moved hW0.alike (hU.kept hS.2.1)
  have hN' : vx_Zq Bundle.tN "SUPPRESSED_SENTINEL" Bundle.listD A s' s'.heap := by rw [hhp]; exact vx_Zq.moved hW0.alike (hN.kept hS.2.1)
  have h : ∀ w ∈ Bundle.ownAtoms own ic cls names, w.before args s' = true := vx_own hat' (vx_isRefq hU'.1) (vx_isRefq hN'.1) hU'.2.word hN'.2.word
  have hown' : s'.vm.findClass own = some m.cls := by rw [hvm]; exact hown
  have hins : (Cond.instantiable cls 6).before args s' = true := h _ (by simp [Bundle.ownAtoms])
  obtain ⟨vm₁, cX, kX, hfX, hkX, -, -, X₁, st1⟩ := Y.newCold hexec (own := own) (C := cls) (index := ik) (n := 6) hown' hk' hins hini'
    (g := F0 m pc ls rest) rfl (by rw [hb]; exact d0) (Nat.le_refl _) (Nat.le_refl _)
  generalize hT1 : (T.setVm vm₁).pushCell { cls := cX, slots := kX.instanceTypes.map defaultValue, vm := .none } = T1 at X₁ st1
  have hcat : (Value.ref T.heap.size).category = 1 := rfl
  have hcellA : T1.heap[T.heap.size]? = some (freshCell cX kX) := by rw [← hT1]; exact State.heap_pushCell_size _ _
  have d3' : decode c.code (pc + 3) = .ok (.dup, 1) := by rw [hb]; exact d3
  have d4' : decode c.code (pc + 4) = .ok (.ldc is, 2) := by rw [hb]; exact d4
  have hstr' : vk_R own is text sa s' := vk_R.warm hW0 hstr
  obtain ⟨U, hsteps, hrun, hend, hW, hsame, ce, hce, hO⟩ := X₁.ctorThrowS hexec htr (own := own) (cls := cls) (names := names) (ic := ic) hown' hcls hnames h (fun x hx => nomatch hx) hfX hkX hcellA (by rw [hhp, hT]; exact Nat.le_refl _) (msg := .ref sa) rfl
    (g := { method := m, pc := pc + 6, locals := ls, stack := .ref sa :: .ref T.heap.size :: .ref T.heap.size :: rest, locked := none }) rfl hsize rfl rfl (rest := rest) rfl
    (by rw [hb]; exact d6) (by rw [hb]; exact d9) hout hRframes (by simp only [List.map_cons, List.sum_cons, hcat]; omega) hlocks
  obtain ⟨f1, f2⟩ := vx_frame hsame
  rw [hhp] at f1 f2
  have hWs : s.WarmedH U.vm := State.WarmedH.trans hW0 hW
  have hcl : s.vm.findClass cls = some ce.cls := by
    have h9 := hO.cls
    rw [hvm] at h9
    exact h9
  have hall : s.sameButNew ({ U with vm := s.vm } : State) locs mc ms := by
    subst hA
    obtain ⟨e1, e2⟩ := hsame
    rw [State.setFrames_setFrames] at e1
    have h2 : (T.setVm s.vm).sameButNew ({ U with vm := s.vm } : State) [] (0 + 1) (0 + 6) := ⟨e1, e2⟩
    have h3 := X.same.trans h2
    rw [List.append_nil] at h3
    exact h3.mono hc hs
  refine ⟨U, ?_, .threw T.heap.size, hrun, hend, Or.inr ⟨T.heap.size, rfl, cls, ce, locs, hx U hWs.alike f1 (fun q hq => f2 q hq (fun z hz => nomatch hz)), hce, hO.vm, hcl, hWs, hall, hf⟩⟩
  refine st1 _ ?_
  show Steps p.tables e below (T1.setTop { method := m, pc := pc + 3, locals := ls, stack := .ref T.heap.size :: rest, locked := none }) _
  jvm_step X₁.here [X₁.here.top, hexec, d3', Value.category]
  exact X₁.ldcString hexec (own := own) (text := text) (index := is) (a := sa) hown' hstr'.1 hstr'.2
    (g := { method := m, pc := pc + 4, locals := ls, stack := .ref T.heap.size :: .ref T.heap.size :: rest, locked := none }) rfl d4' _ hsteps
/-- 'throw new E("text")', the text by a wide index -/
theorem vx_throwSW {cc : ByteArray} {pc : Nat} (hexec : p.tables.exec = Jvm.exec) (hb : c.code = cc) (hl : l.stackTraces = false) {own cls text : String} {names : List String} {ik is ic mc ms sa : Nat} {A : Nat → Prop}
    (hown : s.vm.findClass own = some m.cls) (hcls : Bundle.fit cls = true) (hnames : ∀ n ∈ names, Bundle.fit n = true)
    (hk : (Cond.classLink own ik cls).before args s = true) (hini : (Cond.initialized cls).before args s = true) (hstr : vk_R own is text sa s) (hat : ∀ w ∈ vx_atS own ic cls names, w.before args s = true)
    (hgood : ∀ w ∈ Cond.classLink own ik cls :: Cond.initialized cls :: vx_atS own ic cls names, vx_ot w = true)
    (hU : vx_Zq Bundle.tN "UNASSIGNED_STACK" Bundle.steD A s s.heap) (hN : vx_Zq Bundle.tN "SUPPRESSED_SENTINEL" Bundle.listD A s s.heap) (hS : va_S A s.heap H locs) (hsize : ls.size = c.maxLocals)
    (d0 : decode cc pc = .ok (.new ik, 3)) (d3 : decode cc (pc + 3) = .ok (.dup, 1)) (d4 : decode cc (pc + 4) = .ok (.ldc_w is, 3)) (d7 : decode cc (pc + 7) = .ok (.invokespecial ic, 3)) (d10 : decode cc (pc + 10) = .ok (.athrow, 1))
    (hout : ∀ x ∈ c.exceptionTable.toList, covers x (pc + 10) = false)
    (hRframes : names.length + 3 < R.frames) (hRlocals : (rest.map fun v => v.category).sum + (13 * (names.length + 1) + 43) ≤ R.locals) (hRcells : cells + 1 ≤ R.cells) (hRslots : slots + 6 ≤ R.slots) (hlocks : meth.locks = false)
    (hx : ∀ t : State, s.vm.Alike t.vm → H.size ≤ t.heap.size → (∀ q : Nat, q < H.size → t.heap[q]? = H[q]?) → XC cls s t)
    (hf : ∀ z ∈ locs, free z.base) (hc : cells + 1 ≤ mc) (hs : slots + 6 ≤ ms) :
    W p l e R s m args below meth c H locs cells slots (vx_MQ below Qc XC args s mc ms free) (F0 m pc ls rest) := by
  intro T hT X
  have htr : e.platform.stackTraces = false := (show e.platform.stackTraces = l.stackTraces by rw [X.admits.platform]).trans hl
  have Y := vx_rebase X (R' := { frames := R.frames, locals := R.locals, cells := 1, slots := 6 }) (Nat.le_refl _) (Nat.le_refl _) hRcells hRslots
  obtain ⟨s', hA⟩ : ∃ z, z = (T.setVm s.vm).setFrames (.invoking m args :: below) := ⟨_, rfl⟩
  rw [← hA] at Y
  have hvm : s'.vm = s.vm := by rw [hA]; rfl
  have hhp : s'.heap = H := by rw [hA]; exact hT
  have hW0 : s.WarmedH s'.vm := by rw [hvm]; exact State.WarmedH.refl s
  have hat' : ∀ w ∈ vx_atS own ic cls names, w.before args s' = true := fun w hw => vx_ot_at hW0 hvm.symm (hgood w (List.mem_cons_of_mem _ (List.mem_cons_of_mem _ hw))) (hat w hw)
  have hk' : (Cond.classLink own ik cls).before args s' = true := vx_ot_at hW0 hvm.symm (hgood _ List.mem_cons_self) hk
  have hini' : (Cond.initialized cls).before args s' = true := vx_ot_at hW0 hvm.symm (hgood _ (List.mem_cons_of_mem _ List.mem_cons_self)) hini
  have hU' : vx_Zq Bundle.tN "UNASSIGNED_STACK" Bundle.steD A s' s'.heap := by rw [hhp]; exact vx_Zq.moved hW0.alike (hU.kept hS.2.1)
  have hN' : vx_Zq Bundle.tN "SUPPRESSED_SENTINEL" Bundle.listD A s' s'.heap := by rw [hhp]; exact vx_Zq.moved hW0.alike (hN.kept hS.2.1)
  have h : ∀ w ∈ Bundle.ownAtoms own ic cls names, w.before args s' = true := vx_own hat' (vx_isRefq hU'.1) (vx_isRefq hN'.1) hU'.2.word hN'.2.word
  have hown' : s'.vm.findClass own = some m.cls := by rw [hvm]; exact hown
  have hins : (Cond.instantiable cls 6).before args s' = true := h _ (by simp [Bundle.ownAtoms])
  obtain ⟨vm₁, cX, kX, hfX, hkX, -, -, X₁, st1⟩ := Y.newCold hexec (own := own) (C := cls) (index := ik) (n := 6) hown' hk' hins hini'
    (g := F0 m pc ls rest) rfl (by rw [hb]; exact d0) (Nat.le_refl _) (Nat.le_refl _)
  generalize hT1 : (T.setVm vm₁).pushCell { cls := cX, slots := kX.instanceTypes.map defaultValue, vm := .none } = T1 at X₁ st1
  have hcat : (Value.ref T.heap.size).category = 1 := rfl
  have hcellA : T1.heap[T.heap.size]? = some (freshCell cX kX) := by rw [← hT1]; exact State.heap_pushCell_size _ _
  have d3' : decode c.code (pc + 3) = .ok (.dup, 1) := by rw [hb]; exact d3
  have d4' : decode c.code (pc + 4) = .ok (.ldc_w is, 3) := by rw [hb]; exact d4
  have hstr' : vk_R own is text sa s' := vk_R.warm hW0 hstr
  obtain ⟨U, hsteps, hrun, hend, hW, hsame, ce, hce, hO⟩ := X₁.ctorThrowS hexec htr (own := own) (cls := cls) (names := names) (ic := ic) hown' hcls hnames h (fun x hx => nomatch hx) hfX hkX hcellA (by rw [hhp, hT]; exact Nat.le_refl _) (msg := .ref sa) rfl
    (g := { method := m, pc := pc + 7, locals := ls, stack := .ref sa :: .ref T.heap.size :: .ref T.heap.size :: rest, locked := none }) rfl hsize rfl rfl (rest := rest) rfl
    (by rw [hb]; exact d7) (by rw [hb]; exact d10) hout hRframes (by simp only [List.map_cons, List.sum_cons, hcat]; omega) hlocks
  obtain ⟨f1, f2⟩ := vx_frame hsame
  rw [hhp] at f1 f2
  have hWs : s.WarmedH U.vm := State.WarmedH.trans hW0 hW
  have hcl : s.vm.findClass cls = some ce.cls := by
    have h9 := hO.cls
    rw [hvm] at h9
    exact h9
  have hall : s.sameButNew ({ U with vm := s.vm } : State) locs mc ms := by
    subst hA
    obtain ⟨e1, e2⟩ := hsame
    rw [State.setFrames_setFrames] at e1
    have h2 : (T.setVm s.vm).sameButNew ({ U with vm := s.vm } : State) [] (0 + 1) (0 + 6) := ⟨e1, e2⟩
    have h3 := X.same.trans h2
    rw [List.append_nil] at h3
    exact h3.mono hc hs
  refine ⟨U, ?_, .threw T.heap.size, hrun, hend, Or.inr ⟨T.heap.size, rfl, cls, ce, locs, hx U hWs.alike f1 (fun q hq => f2 q hq (fun z hz => nomatch hz)), hce, hO.vm, hcl, hWs, hall, hf⟩⟩
  refine st1 _ ?_
  show Steps p.tables e below (T1.setTop { method := m, pc := pc + 3, locals := ls, stack := .ref T.heap.size :: rest, locked := none }) _
  jvm_step X₁.here [X₁.here.top, hexec, d3', Value.category]
  exact X₁.ldcStringW hexec (own := own) (text := text) (index := is) (a := sa) hown' hstr'.1 hstr'.2
    (g := { method := m, pc := pc + 4, locals := ls, stack := .ref T.heap.size :: .ref T.heap.size :: rest, locked := none }) rfl d4' _ hsteps
end Ends
section Bodies
variable {l : Launch}
theorem vx_ofW {y : MethodName} {ws ws' : List Cond} {rm : Room} {Pc : Array Value → State → Prop} {Qc : Array Value → State → Outcome → State → Prop} {XC : String → State → State → Prop} {mc ms : Nat} {free : Addr → Prop} {cc : ByteArray} {maxL : Nat} {ret : Option FieldType}
    (hy : plainName y.cls = true) (hw : ws = Cond.code y cc maxL ret :: ws')
    (body : ∀ p e s m args below meth c s₁, BodyLoose p l y (headSpec ws rm) cc maxL ret e s m args below meth c s₁ → c.maxLocals = maxL → (∀ x ∈ c.exceptionTable.toList, False) → Pc args s →
      W p l e (headSpec ws rm).room s m args below meth c s.heap [] 0 0 (vx_MQ below Qc XC args s mc ms free) (entryFrame m args maxL)) : vx_Met l y ws rm Pc Qc XC mc ms free := by
  refine MetFree.of_bodyS (code := cc) (maxLocals := maxL) (ret := ret) hy ?_ ?_
  · intro args s m h hn
    obtain ⟨meth, c, h1, h2, h3, h4, h5, h6, -, -⟩ := Cond.code_spec hn (atoms_spec (ws := ws) h _ (by rw [hw]; exact List.mem_cons_self))
    exact ⟨meth, c, h1, h2, h3, h4, h5, h6⟩
  · intro p e s m args below meth c s₁ B hml hP _
    have hh0 : s₁.heap = s.heap := by rw [B.state]; rfl
    have ht : ∀ x ∈ c.exceptionTable.toList, False := by
      obtain ⟨meth9, c9, h1, h2, -, -, -, -, h7, -⟩ := Cond.code_spec B.named (atoms_spec (ws := ws) B.pre _ (by rw [hw]; exact List.mem_cons_self))
      cases Option.some.inj (h1.symm.trans B.method)
      cases Option.some.inj (h2.symm.trans (Stand.of_body B).code)
      intro x hx
      rw [Array.isEmpty_iff.mp h7] at hx
      cases hx
    obtain ⟨t, a1, o, b1, b2, b3⟩ := body p e s m args below meth c s₁ B hml ht hP s₁ hh0 (Stand.of_body B)
    exact ⟨t, o, a1, b1, b2, b3⟩
/-- the table of a body with handlers -/
theorem vx_table {p : Program} {x y : MethodName} {S : Spec} {cc bytes : ByteArray} {maxL maxL' : Nat} {ret ret' : Option FieldType} {e : Env} {s s₁ : State} {m : MethodId} {args : Array Value} {below : List Frame} {meth : Method} {c : Code} {hh : List (Nat × Nat × Nat × Nat)}
    (B : BodyLoose p l y S cc maxL ret e s m args below meth c s₁) (h : (Cond.codeWith y bytes maxL' ret' hh).before args s = true) : c.exceptionTable.toList = tableOf hh := by
  obtain ⟨m9, meth9, c9, hn9, h1, h2, -, -, h6, -⟩ := Cond.codeWith_spec h
  cases Option.some.inj (hn9.symm.trans B.named)
  cases Option.some.inj (h1.symm.trans B.method)
  cases Option.some.inj (h2.symm.trans (Stand.of_body B).code)
  rw [← h6, table_eq]
end Bodies
end VXA
/-! ===== END ===== -/
/-! ===== BEGIN a static call of a method with an exception table ===== -/
section VXS
variable {p : Program} {l : Launch} {e : Env} {R : Room} {s : State} {m : MethodId} {args : Array Value} {below : List Frame} {meth : Method} {c : Code} {T : State} {H : Heap} {locs : List Loc} {cells slots : Nat}
abbrev vx_CSW (R : Room) (s : State) (args : Array Value) (own : String) (index : Nat) (y : MethodName) (bytes : ByteArray) (maxL : Nat) (ret : Option FieldType) (hh : List (Nat × Nat × Nat × Nat)) (ws : List Cond) (rm : Room) (mc ms n : Nat) : Prop :=
  (rm.cells = mc ∧ rm.slots = ms ∧ rm.frames + 1 ≤ R.frames ∧ 8 + (maxL + 11) + rm.locals ≤ R.locals ∧ (∀ w ∈ ws, ∀ (a' : Array Value) (U : State), s.WarmedH U.vm → w.before a' U = true) ∧ Cond.codeWith y bytes maxL ret hh ∈ ws) ∧
  (Cond.codeWith y bytes maxL ret hh).before args s = true ∧ (Cond.initialized y.cls).before args s = true ∧ (y.cls ≠ "java/lang/invoke/MethodHandle" ∧ y.cls ≠ "java/lang/invoke/VarHandle") ∧
  (∀ sig, parseMethodDescriptor y.desc = some sig → n = sig.parameters.length) ∧ (Cond.methodLink own index y).before args s = true ∧ (Cond.static y).before args s = true
theorem vx_cwSW {own : String} {index maxL mc ms : Nat} {y : MethodName} {bytes : ByteArray} {ret : Option FieldType} {hh : List (Nat × Nat × Nat × Nat)} {Ts ws ws' : List Cond} {rm : Room} (n : Nat) (ht : ∀ w ∈ Ts, w.before args s = true) (hT : GoodIn Ts (va_wsS own index y ws)) (hw : ws = Cond.codeWith y bytes maxL ret hh :: ws') (hrc : rm.cells = mc) (hrs : rm.slots = ms)
    (hd : y.cls ≠ "java/lang/invoke/MethodHandle" ∧ y.cls ≠ "java/lang/invoke/VarHandle" ∧ (parseMethodDescriptor y.desc).map (fun d => d.parameters.length) = some n) (hR : rm.frames + 1 ≤ R.frames ∧ 8 + (maxL + 11) + rm.locals ≤ R.locals) :
    vx_CSW R s args own index y bytes maxL ret hh ws rm mc ms n := by
  have ok : ∀ w ∈ va_wsS own index y ws, w.before args s = true := fun w h => ht w (hT w h).1
  have hG : GoodIn Ts ws := fun w h => hT w (by unfold va_wsS; exact List.mem_append_right _ h)
  have hc : Cond.codeWith y bytes maxL ret hh ∈ ws := by rw [hw]; exact List.mem_cons_self
  refine ⟨⟨hrc, hrs, hR.1, hR.2, pay_in ht hG, hc⟩, ht _ (hG _ hc).1, ok _ (by simp [va_wsS]), ⟨hd.1, hd.2.1⟩, fun sig h => ?_, ok _ (by simp [va_wsS]), ok _ (by simp [va_wsS])⟩
  have h2 := hd.2.2
  rw [h] at h2
  exact (Option.some.inj h2).symm
theorem vx_callSW (X : Stand p l e R s m args below meth c T locs cells slots) (hexec : p.tables.exec = Jvm.exec) {own : String} {index : Nat} {y : MethodName} {bytes : ByteArray} {maxL : Nat} {ret : Option FieldType} {hh : List (Nat × Nat × Nat × Nat)}
    (hown : s.vm.findClass own = some m.cls) (hlink : (Cond.methodLink own index y).before args s = true) (hstat : (Cond.static y).before args s = true) (hinit : (Cond.initialized y.cls).before args s = true)
    (hcode : (Cond.codeWith y bytes maxL ret hh).before args s = true) (hy : y.cls ≠ "java/lang/invoke/MethodHandle" ∧ y.cls ≠ "java/lang/invoke/VarHandle")
    {W9 : Nat} {Pre : Pt → Array Value → Prop} {Post : Pt → Array Value → Option Value → Pt → Prop} (hK : Back l R p e below s args y 3 W9 Pre Post)
    {g : JFrame} (hg : g.method = m) (hsize : g.locals.size = c.maxLocals) {argsL rest : List Value} (hlen : ∀ sig, parseMethodDescriptor y.desc = some sig → argsL.length = sig.parameters.length)
    (hstack : g.stack = argsL.reverse ++ rest) (hW : 2 * g.monitorRoom + (rest.map fun v => v.category).sum ≤ W9) (hdg : decode c.code g.pc = .ok (.invokestatic index, 3))
    (hpre : ∀ vm₁, s.WarmedH vm₁ → Pre ⟨T.setVm vm₁, locs, cells, slots⟩ argsL.toArray) :
    ∃ (v : Option Value) (vm₁ : Vm) (B : Pt), s.WarmedH vm₁ ∧ Stand p l e R s m args below meth c B.U B.locs B.cells B.slots ∧ Post ⟨T.setVm vm₁, locs, cells, slots⟩ argsL.toArray v B ∧
      ∀ target, Steps p.tables e below (B.U.setTop { g with pc := g.pc + 3, stack := v.toList ++ rest }) target → Steps p.tables e below (T.setTop g) target := by
  obtain ⟨mk, methM, cM, hnamed, hmethM, -, -, -, -, -, -, hsigM⟩ := Cond.codeWith_spec hcode
  have hstatic : methM.isStatic = true := Cond.static_spec hnamed hmethM hstat
  obtain ⟨kP, hkP, -⟩ := className_of_methodNamed hnamed
  have hinitP : kP.init = .initialized := Cond.initialized_spec (findClass_of_methodNamed hnamed) hkP hinit
  obtain ⟨vm₁, X₁, hstep₁⟩ := X.invokestatic hexec hown hlink hnamed hmethM hstatic hkP hinitP hy (g := g) hg (argsL := argsL) (rest := rest) (hlen _ hsigM) hstack hdg
  obtain ⟨v, B, X', hpost, hsteps⟩ := hK m meth c ⟨T.setVm vm₁, locs, cells, slots⟩ { g with stack := rest } (.invokestatic index) mk argsL.toArray X₁ hg hsize hdg hW (X₁.named hnamed) (hpre vm₁ X₁.warmed)
  exact ⟨v, vm₁, B, X₁.warmed, X', hpost, fun target h => hstep₁ _ fun acts => by rw [doInvoke_state]; exact hsteps.trans h⟩
theorem vx_runSW {y : MethodName} {bytes cc : ByteArray} {maxL nL mc ms n index : Nat} {ret : Option FieldType} {hh : List (Nat × Nat × Nat × Nat)} {ws : List Cond} {rm : Room} {Pc : Array Value → State → Prop} {Qc : Array Value → State → Outcome → State → Prop} {free : Addr → Prop} {Ts : List Cond} {own : String} {As rest : List Value} {g : JFrame}
    (S : CallFix p m c cc nL s args Ts own) (hM : Met l y ws rm Pc Qc mc ms free) (cw : vx_CSW R s args own index y bytes maxL ret hh ws rm mc ms n) (hp : PreS s H Pc As)
    (hg : g.method = m) (hn : As.length = n) (hsize : g.locals.size = nL) (hstack : g.stack = As.reverse ++ rest) (hW : 2 * g.monitorRoom + (rest.map fun v => v.category).sum ≤ 8) (hdg : decode cc g.pc = .ok (.invokestatic index, 3)) (hf : cells + mc ≤ R.cells ∧ slots + ms ≤ R.slots) :
    va_Run p l e R s m args below meth c H locs cells slots mc ms g rest (Qc As.toArray) (free) := by
  obtain ⟨⟨hrc, hrs, hfr, hlo, hws, hcw⟩, hcode, hini, hy, hlen, hl, hstt⟩ := cw
  have hK : Back l R p e below s args y 3 8 (PreOf R mc ms Pc) (PostOf Qc mc ms free) := va_backW (hh := hh) (bytes := bytes) (maxL := maxL) (ret := ret) hM hp.1 hrc hrs hfr hlo hws hcw (fun a' U hW => word_at hW (Or.inl (by first | rfl | simp [Cond.onTables, Cond.keeps, Cond.steady])) hini)
  obtain ⟨hx, hb, hml, ho, -⟩ := S
  intro T hT X
  obtain ⟨v, vm₁, ⟨U', l2, c2, s2⟩, hW₁, X', ⟨g', mk, t, L, e1, e2, hq, h1, hL, h2, h3⟩, st⟩ := vx_callSW X hx (hh := hh) (bytes := bytes) (maxL := maxL) (ret := ret) ho hl hstt hini hcode hy hK hg (hsize.trans hml.symm) (argsL := As) (rest := rest) (fun sig h => hn.trans (hlen sig h)) hstack hW (by rw [hb]; exact hdg)
    (fun vm₁ hW₁ => ⟨hf.1, hf.2, hp.2 (T.setVm vm₁) hT hW₁⟩)
  dsimp only [Pt.U, Pt.locs, Pt.cells, Pt.slots] at X' e1 e2 h1 h2 h3 st
  subst h1; subst h2; subst h3
  exact ⟨v, (T.setVm vm₁).calling g' mk As.toArray, t, U', L, hT, X', hL, e1, e2, hq, st⟩
/-- not caught here, past rows that name other classes: it goes on to the caller -/
theorem vx_outP {p : Program} {l : Launch} {e : Env} {R : Room} {s : State} {m : MethodId} {args : Array Value} {below : List Frame} {meth : Method} {c : Code} {H : Heap} {locs : List Loc} {cells slots : Nat} {free : Addr → Prop} {ls : Array Slot} {rest : List Value} {Qc : Array Value → State → Outcome → State → Prop} {XC : String → State → State → Prop}
    {pc : Nat} {own E : String} {ce : Cell} {q : Addr} {mc ms : Nat} (hown : s.vm.findClass own = some m.cls) (hlocks : meth.locks = false)
    (hpass : ∀ z ∈ c.exceptionTable.toList, covers z pc = false ∨ (z.catchType ≠ 0 ∧ ∃ nm : String, (Cond.classLink own z.catchType nm).before args s = true ∧ va_Nc E nm s)) (hcell : H[q]? = some ce) (hv : ce.vm = .none) (hcl : s.vm.findClass E = some ce.cls)
    (hx : ∀ t : State, t.heap = H → s.vm.Alike t.vm → XC E s t) (hf : ∀ z ∈ locs, free z.base) (hc : cells ≤ mc) (hs : slots ≤ ms) :
    vx_W p l e R s m args below meth c H locs cells slots (vx_MQ below Qc XC args s mc ms free) (F0 m pc ls rest) q := by
  intro T hT X
  have hpl : e.platform.magicAccessors = ({} : Platform).magicAccessors := by rw [X.admits.platform]
  obtain ⟨vm', hW', X', st⟩ := X.outThrough hlocks q (g := F0 m pc ls rest) rfl rfl rfl (cell := ce) (by rw [hT]; exact hcell) (by rw [hv]; rfl)
    (by obtain ⟨k9, h9, -⟩ := Vm.findClass_spec hcl; exact ⟨k9, h9⟩) (fun z hz => by
      rcases hpass z hz with h | ⟨hz0, nm, hl1, hn1⟩
      · exact Or.inl h
      · obtain ⟨c6, hc6, hcl6⟩ := Cond.classLink_spec hown hl1 e.platform hpl
        obtain ⟨a8, b8, h1, h2, h3⟩ := hn1
        cases Option.some.inj (h1.symm.trans hcl)
        cases Option.some.inj (h2.symm.trans hc6)
        exact Or.inr ⟨hz0, _, hcl6, h3⟩)
  obtain ⟨g₀, hfr⟩ := X'.frames_eq
  have hcell9 : ((T.setVm vm').setFrames (.throwing q :: below)).heap[q]? = some ce := by
    show T.heap[q]? = some ce
    rw [hT]; exact hcell
  have hend : Ended ((T.setVm vm').setFrames (.throwing q :: below)) below (.threw q) := State.frames_setFrames _ (State.cur_lt_of_frames hfr)
  refine ⟨(T.setVm vm').setFrames (.throwing q :: below), ?_, .threw q, X'.here.running, hend, Or.inr ⟨q, rfl, E, ce, locs, hx _ hT (X'.ends _).1.alike, hcell9, hv, hcl, (X'.ends _).1, (X'.ends _).2.mono hc hs, hf⟩⟩
  rw [X.pushThrowing_eq]
  exact st
/-- a thing of a world lies in the heap -/
theorem vx_lt {D : va_G} {cl : List vw_C} {ws : va_W} {H1 : Heap} (h : va_P D cl ws H1) {k : Nat} {q : Nat × va_E} (hk : ws[k]? = some q) : q.1 < H1.size := (h k q hk).lt
end VXS
/-! ===== END ===== -/
/-! ===== BEGIN methods with a table of their own: called by a name, returning or throwing ===== -/
section VXH
/-! vx_backW, vx_callVX, vx_callSX, vx_callVW, vx_runVW, vx_runVX, vx_runSX, vx_ofWH follow the same proofs as their sisters above (Free/Laws.lean, Shelf42/LK1.lean); vx_outP calls Shelf42/NT130.lean (outThrough). -/
section
variable {l : Launch} {R : Room} {p : Program} {e : Env} {below : List Frame} {s : State} {sargs : Array Value} {y : MethodName} {len W9 : Nat}
theorem vx_backW {ws : List Cond} {rm : Room} {Pc : Array Value → State → Prop} {Qc : Array Value → State → Outcome → State → Prop} {XC : String → State → State → Prop} {mc ms : Nat} {free : Addr → Prop} {bytes : ByteArray} {maxL : Nat} {ret : Option FieldType} {hh : List (Nat × Nat × Nat × Nat)}
    (hM : vx_Met l y ws rm Pc Qc XC mc ms free) (hblind : FrameBlind Pc) (hrc : rm.cells = mc) (hrs : rm.slots = ms)
    (hframes : rm.frames + 1 ≤ R.frames) (hlocals : W9 + (maxL + 11) + rm.locals ≤ R.locals)
    (hws : ∀ w ∈ ws, ∀ a' U, s.WarmedH U.vm → w.before a' U = true) (hcode : Cond.codeWith y bytes maxL ret hh ∈ ws) (hinit : ∀ a' U, s.WarmedH U.vm → (Cond.initialized y.cls).before a' U = true) :
    vx_Back l R p e below s sargs y len W9 (PreOf R mc ms Pc) (PostOf Qc mc ms free) (vx_Post XC mc ms free) := by
  intro m meth c A g ig mk a X hg hsize hdg hW hn hp
  have h1 : (headSpec ws rm).pre.before a A.U = true := atoms_intro fun w hw => hws w hw _ _ X.warmed
  have h2 : (Cond.codeWith y bytes maxL ret hh).before a A.U = true := hws _ hcode _ _ X.warmed
  have h3 : (Cond.initialized y.cls).before a A.U = true := hinit _ _ X.warmed
  have h4 : A.cells + (headSpec ws rm).room.cells ≤ R.cells := by rw [show (headSpec ws rm).room.cells = mc from hrc]; exact hp.1
  have h5 : A.slots + (headSpec ws rm).room.slots ≤ R.slots := by rw [show (headSpec ws rm).room.slots = ms from hrs]; exact hp.2.1
  have hPc : Pc a (A.U.calling g mk a) := hblind _ _ _ _ hp.2.2
  obtain ⟨U, Ls, c0, s0⟩ := A
  dsimp only [Pt.U, Pt.locs, Pt.cells, Pt.slots] at h1 h2 h3 h4 h5 X hn hPc ⊢
  obtain ⟨m9, methY, cY, hn9, hmY, hcY, -, hlY, -⟩ := Cond.codeWith_spec h2
  cases Option.some.inj (hn9.symm.trans hn)
  obtain ⟨kY, hkY, -⟩ := className_of_methodNamed hn
  have hinitY : kY.init = .initialized := Cond.initialized_spec (findClass_of_methodNamed hn) hkY h3
  have h : At U g.method c below := by rw [hg]; exact X.here
  have hlocals9 : W9 + (maxL + 11) + (headSpec ws rm).room.locals ≤ R.locals := hlocals
  have happ : (headSpec ws rm).appliesLoose y e.platform (U.calling g mk a) = true :=
    Spec.appliesLoose_calling (g := g) h hdg hn hkY hinitY
      (X.room_calling (g := g) (R' := (headSpec ws rm).room) hsize hmY hcY hframes (by rw [hlY]; omega) h4 h5) h1
  obtain ⟨mid, hmid⟩ := h.above
  have hfr : (U.setTop g).frames = (.java g :: mid) ++ below := by rw [State.frames_setTop' g h.top, hmid]; rfl
  obtain ⟨o, s₂, hsteps, -, hend, hq⟩ := Steps.callFree hM p X.admits X.cas X.clock (acts := []) hfr happ hPc trivial
  have hq' : vx_Q Qc XC mc ms free a (U.calling g mk a) o s₂ := hq
  rw [State.frames_setTop' g h.top] at hend
  obtain ⟨g₀, hg0⟩ := Option.isSome_iff_exists.mp h.top
  obtain ⟨r, hr⟩ := State.topJava?_eq_some.mp hg0
  have hr' : (({ U with heap := s₂.heap, slotsUsed := s₂.slotsUsed } : State).setVm s₂.vm).frames = .java g₀ :: r := hr
  rcases hq' with ⟨hqc, L, hfe, hL⟩ | ⟨q, rfl, E, ce, L, hx, hce, hcv, hcl, hW₂, hsm, hL⟩
  · obtain ⟨⟨v, rfl⟩, hW₂, e2, q2, q3, q4, q5, q6⟩ := id hfe
    have e3 : s₂ = ({ (U.calling g mk a).setFrames s₂.frames with heap := s₂.heap, slotsUsed := s₂.slotsUsed } : State).setVm s₂.vm := by
      have : s₂ = ({ s₂ with vm := (U.calling g mk a).vm } : State).setVm s₂.vm := rfl
      rw [e2] at this
      exact this
    obtain ⟨c₂, i₂, len₂, hc₂, hd₂, hf₂⟩ := hend
    have hW' : U.WarmedH s₂.vm := hW₂
    have hcc : c₂ = c := by
      have h1 : s₂.code? g.method = U.code? g.method := by
        rw [State.code?_eq, State.code?_eq, hW'.alike.method?]
      exact Option.some.inj (hc₂.symm.trans (h1.trans h.code))
    subst hcc
    have hlen : len₂ = len := by rw [hdg] at hd₂; cases hd₂; rfl
    subst hlen
    have hs₂ : s₂ = (({ U with heap := s₂.heap, slotsUsed := s₂.slotsUsed } : State).setVm s₂.vm).setTop { g with pc := g.pc + len₂, stack := v.toList ++ g.stack } := by
      refine e3.trans ?_
      rw [hf₂, State.calling_eq h.top, State.setFrames_setFrames, State.setTop_of_frames _ hr', hr]
      rfl
    have hsame : U.sameButNew ({ U with heap := s₂.heap, slotsUsed := s₂.slotsUsed } : State) L mc ms := by
      refine ⟨?_, q2, q3, q4, q5, q6⟩
      obtain ⟨t, ht, -⟩ := State.frames_cons hr
      show ({ U with heap := s₂.heap, slotsUsed := s₂.slotsUsed } : State) = { U.setFrames U.frames with heap := s₂.heap, slotsUsed := s₂.slotsUsed }
      rw [State.setFrames_self ht]
    subst hg
    refine Or.inl ⟨v, ⟨(({ U with heap := s₂.heap, slotsUsed := s₂.slotsUsed } : State).setVm s₂.vm), Ls ++ L, c0 + mc, s0 + ms⟩,
      ⟨X.admits, X.cas, X.clock, X.frames, X.room, X.hears, X.method, X.code, (X.here.setHeapUsed s₂.heap s₂.slotsUsed).setVm hW'.alike, X.tail, State.WarmedH.trans X.warmed hW', X.limits, X.bytes, X.same.trans (hsame.setVm s.vm)⟩,
      ⟨g, mk, s₂, L, rfl, rfl, hqc, rfl, hL, rfl, rfl⟩, ?_⟩
    show Steps p.tables e below _ ((({ U with heap := s₂.heap, slotsUsed := s₂.slotsUsed } : State).setVm s₂.vm).setTop { g with pc := g.pc + len₂, stack := v.toList ++ g.stack })
    rw [← hs₂]
    exact hsteps
  · obtain ⟨e2, q2, q3, q4, q5, q6⟩ := id hsm
    have e3 : s₂ = ({ (U.calling g mk a).setFrames s₂.frames with heap := s₂.heap, slotsUsed := s₂.slotsUsed } : State).setVm s₂.vm := by
      have : s₂ = ({ s₂ with vm := (U.calling g mk a).vm } : State).setVm s₂.vm := rfl
      rw [e2] at this
      exact this
    have hf₂ : s₂.frames = .throwing q :: .java g :: U.frames.tail := hend
    have hW' : U.WarmedH s₂.vm := hW₂
    have hs₂ : s₂ = ((({ U with heap := s₂.heap, slotsUsed := s₂.slotsUsed } : State).setVm s₂.vm).setTop g).pushFrame (.throwing q) := by
      refine e3.trans ?_
      rw [hf₂, State.calling_eq h.top, State.setFrames_setFrames, State.pushFrame, State.frames_setTop _ hr', State.setTop_of_frames _ hr', State.setFrames_setFrames, hr]
      rfl
    have hsame : U.sameButNew ({ U with heap := s₂.heap, slotsUsed := s₂.slotsUsed } : State) L mc ms := by
      refine ⟨?_, q2, q3, q4, q5, q6⟩
      obtain ⟨t, ht, -⟩ := State.frames_cons hr
      show ({ U with heap := s₂.heap, slotsUsed := s₂.slotsUsed } : State) = { U.setFrames U.frames with heap := s₂.heap, slotsUsed := s₂.slotsUsed }
      rw [State.setFrames_self ht]
    subst hg
    refine Or.inr ⟨q, ⟨(({ U with heap := s₂.heap, slotsUsed := s₂.slotsUsed } : State).setVm s₂.vm), Ls ++ L, c0 + mc, s0 + ms⟩,
      ⟨X.admits, X.cas, X.clock, X.frames, X.room, X.hears, X.method, X.code, (X.here.setHeapUsed s₂.heap s₂.slotsUsed).setVm hW'.alike, X.tail, State.WarmedH.trans X.warmed hW', X.limits, X.bytes, X.same.trans (hsame.setVm s.vm)⟩,
      ⟨g, mk, s₂, L, E, ce, rfl, rfl, hx, hce, hcv, hcl, rfl, hL, rfl, rfl⟩, ?_⟩
    show Steps p.tables e below _ (((({ U with heap := s₂.heap, slotsUsed := s₂.slotsUsed } : State).setVm s₂.vm).setTop g).pushFrame (.throwing q))
    rw [← hs₂]
    exact hsteps
end
variable {p : Program} {l : Launch} {e : Env} {R : Room} {s : State} {m : MethodId} {args : Array Value} {below : List Frame} {meth : Method} {c : Code} {T : State} {H : Heap} {locs : List Loc} {cells slots : Nat}
theorem vx_callVX (X : Stand p l e R s m args below meth c T locs cells slots) (hexec : p.tables.exec = Jvm.exec) {own C : String} {index : Nat} {y : MethodName} {bytes : ByteArray} {maxL : Nat} {ret : Option FieldType} {hh : List (Nat × Nat × Nat × Nat)}
    (hown : s.vm.findClass own = some m.cls) (hlink : (Cond.methodLink own index y).before args s = true) (hinst : (Cond.instanceMethod y).before args s = true) (hsel : (Cond.selects C y y).before args s = true)
    (hcode : (Cond.codeWith y bytes maxL ret hh).before args s = true) (hy : y.cls ≠ "java/lang/invoke/MethodHandle" ∧ y.cls ≠ "java/lang/invoke/VarHandle")
    {W9 : Nat} {Pre : Pt → Array Value → Prop} {Post : Pt → Array Value → Option Value → Pt → Prop} {PostX : Pt → Array Value → Addr → Pt → Prop} (hK : vx_Back l R p e below s args y 3 W9 Pre Post PostX)
    {b : Addr} {cellB : Cell} (hcell : T.heap[b]? = some cellB) (hobj : cellB.vm.isStatics = false) (hcls : s.vm.findClass C = some cellB.cls)
    {g : JFrame} (hg : g.method = m) (hsize : g.locals.size = c.maxLocals) {argsL rest : List Value} (hlen : ∀ sig, parseMethodDescriptor y.desc = some sig → argsL.length = sig.parameters.length)
    (hstack : g.stack = argsL.reverse ++ .ref b :: rest) (hW : 2 * g.monitorRoom + (rest.map fun v => v.category).sum ≤ W9) (hdg : decode c.code g.pc = .ok (.invokevirtual index, 3))
    (hpre : ∀ vm₁, s.WarmedH vm₁ → Pre ⟨T.setVm vm₁, locs, cells, slots⟩ (Value.ref b :: argsL).toArray) :
    (∃ (v : Option Value) (vm₁ : Vm) (B : Pt), s.WarmedH vm₁ ∧ Stand p l e R s m args below meth c B.U B.locs B.cells B.slots ∧ Post ⟨T.setVm vm₁, locs, cells, slots⟩ (Value.ref b :: argsL).toArray v B ∧
      ∀ target, Steps p.tables e below (B.U.setTop { g with pc := g.pc + 3, stack := v.toList ++ rest }) target → Steps p.tables e below (T.setTop g) target) ∨
    (∃ (q : Addr) (vm₁ : Vm) (B : Pt), s.WarmedH vm₁ ∧ Stand p l e R s m args below meth c B.U B.locs B.cells B.slots ∧ PostX ⟨T.setVm vm₁, locs, cells, slots⟩ (Value.ref b :: argsL).toArray q B ∧
      Steps p.tables e below (T.setTop g) ((B.U.setTop { g with stack := rest }).pushFrame (.throwing q))) := by
  obtain ⟨mk, methM, hnamed, hmethM, hstM, habM⟩ := Cond.instanceMethod_spec hinst
  obtain ⟨m8, methM', cM, hn8, hmethM', -, -, -, -, -, -, hsigM⟩ := Cond.codeWith_spec hcode
  cases Option.some.inj (hn8.symm.trans hnamed)
  cases hmethM.symm.trans hmethM'
  obtain ⟨c2, r2, m2, q1, q2, q3, q4, kP, hkP, hkPi⟩ := Cond.selects_spec hsel
  cases hcls.symm.trans q1
  cases (State.methodFound?_of_named hnamed hy).symm.trans q2
  cases hnamed.symm.trans q3
  have hselP : selectMethod e.platform s.vm cellB.cls mk = .method mk := by rw [Launch.admits_selectMethod X.admits]; exact q4
  obtain ⟨vm₁, X₁, hstep₁⟩ := X.invokevirtual hexec hown hlink hnamed hmethM hstM hkP hkPi hy (a := b) (cell := cellB) hcell
    (fun z h => by rw [h] at hobj; cases hobj) hselP hmethM habM hkP hkPi (g := g) hg (argsL := argsL) (rest := rest) (hlen _ hsigM) hstack hdg
  rcases hK m meth c ⟨T.setVm vm₁, locs, cells, slots⟩ { g with stack := rest } (.invokevirtual index) mk (Value.ref b :: argsL).toArray X₁ hg hsize hdg hW (X₁.named hnamed) (hpre vm₁ X₁.warmed) with ⟨v, B, X', hpost, hsteps⟩ | ⟨q, B, X', hpost, hsteps⟩
  · exact Or.inl ⟨v, vm₁, B, X₁.warmed, X', hpost, fun target h => hstep₁ _ fun acts => by rw [doInvoke_state]; exact hsteps.trans h⟩
  · exact Or.inr ⟨q, vm₁, B, X₁.warmed, X', hpost, hstep₁ _ fun acts => by rw [doInvoke_state]; exact hsteps⟩
theorem vx_callSX (X : Stand p l e R s m args below meth c T locs cells slots) (hexec : p.tables.exec = Jvm.exec) {own : String} {index : Nat} {y : MethodName} {bytes : ByteArray} {maxL : Nat} {ret : Option FieldType} {hh : List (Nat × Nat × Nat × Nat)}
    (hown : s.vm.findClass own = some m.cls) (hlink : (Cond.methodLink own index y).before args s = true) (hstat : (Cond.static y).before args s = true) (hinit : (Cond.initialized y.cls).before args s = true)
    (hcode : (Cond.codeWith y bytes maxL ret hh).before args s = true) (hy : y.cls ≠ "java/lang/invoke/MethodHandle" ∧ y.cls ≠ "java/lang/invoke/VarHandle")
    {W9 : Nat} {Pre : Pt → Array Value → Prop} {Post : Pt → Array Value → Option Value → Pt → Prop} {PostX : Pt → Array Value → Addr → Pt → Prop} (hK : vx_Back l R p e below s args y 3 W9 Pre Post PostX)
    {g : JFrame} (hg : g.method = m) (hsize : g.locals.size = c.maxLocals) {argsL rest : List Value} (hlen : ∀ sig, parseMethodDescriptor y.desc = some sig → argsL.length = sig.parameters.length)
    (hstack : g.stack = argsL.reverse ++ rest) (hW : 2 * g.monitorRoom + (rest.map fun v => v.category).sum ≤ W9) (hdg : decode c.code g.pc = .ok (.invokestatic index, 3))
    (hpre : ∀ vm₁, s.WarmedH vm₁ → Pre ⟨T.setVm vm₁, locs, cells, slots⟩ argsL.toArray) :
    (∃ (v : Option Value) (vm₁ : Vm) (B : Pt), s.WarmedH vm₁ ∧ Stand p l e R s m args below meth c B.U B.locs B.cells B.slots ∧ Post ⟨T.setVm vm₁, locs, cells, slots⟩ argsL.toArray v B ∧
      ∀ target, Steps p.tables e below (B.U.setTop { g with pc := g.pc + 3, stack := v.toList ++ rest }) target → Steps p.tables e below (T.setTop g) target) ∨
    (∃ (q : Addr) (vm₁ : Vm) (B : Pt), s.WarmedH vm₁ ∧ Stand p l e R s m args below meth c B.U B.locs B.cells B.slots ∧ PostX ⟨T.setVm vm₁, locs, cells, slots⟩ argsL.toArray q B ∧
      Steps p.tables e below (T.setTop g) ((B.U.setTop { g with stack := rest }).pushFrame (.throwing q))) := by
  obtain ⟨mk, methM, cM, hnamed, hmethM, -, -, -, -, -, -, hsigM⟩ := Cond.codeWith_spec hcode
  have hstatic : methM.isStatic = true := Cond.static_spec hnamed hmethM hstat
  obtain ⟨kP, hkP, -⟩ := className_of_methodNamed hnamed
  have hinitP : kP.init = .initialized := Cond.initialized_spec (findClass_of_methodNamed hnamed) hkP hinit
  obtain ⟨vm₁, X₁, hstep₁⟩ := X.invokestatic hexec hown hlink hnamed hmethM hstatic hkP hinitP hy (g := g) hg (argsL := argsL) (rest := rest) (hlen _ hsigM) hstack hdg
  rcases hK m meth c ⟨T.setVm vm₁, locs, cells, slots⟩ { g with stack := rest } (.invokestatic index) mk argsL.toArray X₁ hg hsize hdg hW (X₁.named hnamed) (hpre vm₁ X₁.warmed) with ⟨v, B, X', hpost, hsteps⟩ | ⟨q, B, X', hpost, hsteps⟩
  · exact Or.inl ⟨v, vm₁, B, X₁.warmed, X', hpost, fun target h => hstep₁ _ fun acts => by rw [doInvoke_state]; exact hsteps.trans h⟩
  · exact Or.inr ⟨q, vm₁, B, X₁.warmed, X', hpost, hstep₁ _ fun acts => by rw [doInvoke_state]; exact hsteps⟩
theorem vx_callVW (X : Stand p l e R s m args below meth c T locs cells slots) (hexec : p.tables.exec = Jvm.exec) {own C : String} {index : Nat} {y : MethodName} {bytes : ByteArray} {maxL : Nat} {ret : Option FieldType} {hh : List (Nat × Nat × Nat × Nat)}
    (hown : s.vm.findClass own = some m.cls) (hlink : (Cond.methodLink own index y).before args s = true) (hinst : (Cond.instanceMethod y).before args s = true) (hsel : (Cond.selects C y y).before args s = true)
    (hcode : (Cond.codeWith y bytes maxL ret hh).before args s = true) (hy : y.cls ≠ "java/lang/invoke/MethodHandle" ∧ y.cls ≠ "java/lang/invoke/VarHandle")
    {W9 : Nat} {Pre : Pt → Array Value → Prop} {Post : Pt → Array Value → Option Value → Pt → Prop} (hK : Back l R p e below s args y 3 W9 Pre Post)
    {b : Addr} {cellB : Cell} (hcell : T.heap[b]? = some cellB) (hobj : cellB.vm.isStatics = false) (hcls : s.vm.findClass C = some cellB.cls)
    {g : JFrame} (hg : g.method = m) (hsize : g.locals.size = c.maxLocals) {argsL rest : List Value} (hlen : ∀ sig, parseMethodDescriptor y.desc = some sig → argsL.length = sig.parameters.length)
    (hstack : g.stack = argsL.reverse ++ .ref b :: rest) (hW : 2 * g.monitorRoom + (rest.map fun v => v.category).sum ≤ W9) (hdg : decode c.code g.pc = .ok (.invokevirtual index, 3))
    (hpre : ∀ vm₁, s.WarmedH vm₁ → Pre ⟨T.setVm vm₁, locs, cells, slots⟩ (Value.ref b :: argsL).toArray) :
    ∃ (v : Option Value) (vm₁ : Vm) (B : Pt), s.WarmedH vm₁ ∧ Stand p l e R s m args below meth c B.U B.locs B.cells B.slots ∧ Post ⟨T.setVm vm₁, locs, cells, slots⟩ (Value.ref b :: argsL).toArray v B ∧
      ∀ target, Steps p.tables e below (B.U.setTop { g with pc := g.pc + 3, stack := v.toList ++ rest }) target → Steps p.tables e below (T.setTop g) target := by
  obtain ⟨mk, methM, hnamed, hmethM, hstM, habM⟩ := Cond.instanceMethod_spec hinst
  obtain ⟨m8, methM', cM, hn8, hmethM', -, -, -, -, -, -, hsigM⟩ := Cond.codeWith_spec hcode
  cases Option.some.inj (hn8.symm.trans hnamed)
  cases hmethM.symm.trans hmethM'
  obtain ⟨c2, r2, m2, q1, q2, q3, q4, kP, hkP, hkPi⟩ := Cond.selects_spec hsel
  cases hcls.symm.trans q1
  cases (State.methodFound?_of_named hnamed hy).symm.trans q2
  cases hnamed.symm.trans q3
  have hselP : selectMethod e.platform s.vm cellB.cls mk = .method mk := by rw [Launch.admits_selectMethod X.admits]; exact q4
  obtain ⟨vm₁, X₁, hstep₁⟩ := X.invokevirtual hexec hown hlink hnamed hmethM hstM hkP hkPi hy (a := b) (cell := cellB) hcell
    (fun z h => by rw [h] at hobj; cases hobj) hselP hmethM habM hkP hkPi (g := g) hg (argsL := argsL) (rest := rest) (hlen _ hsigM) hstack hdg
  obtain ⟨v, B, X', hpost, hsteps⟩ := hK m meth c ⟨T.setVm vm₁, locs, cells, slots⟩ { g with stack := rest } (.invokevirtual index) mk (Value.ref b :: argsL).toArray X₁ hg hsize hdg hW (X₁.named hnamed) (hpre vm₁ X₁.warmed)
  exact ⟨v, vm₁, B, X₁.warmed, X', hpost, fun target h => hstep₁ _ fun acts => by rw [doInvoke_state]; exact hsteps.trans h⟩
abbrev vx_CVW (R : Room) (s : State) (args : Array Value) (own C : String) (index : Nat) (y : MethodName) (bytes : ByteArray) (maxL : Nat) (ret : Option FieldType) (hh : List (Nat × Nat × Nat × Nat)) (ws : List Cond) (rm : Room) (mc ms n : Nat) : Prop :=
  (rm.cells = mc ∧ rm.slots = ms ∧ rm.frames + 1 ≤ R.frames ∧ 8 + (maxL + 11) + rm.locals ≤ R.locals ∧ (∀ w ∈ ws, ∀ (a' : Array Value) (U : State), s.WarmedH U.vm → w.before a' U = true) ∧ Cond.codeWith y bytes maxL ret hh ∈ ws) ∧
  (Cond.codeWith y bytes maxL ret hh).before args s = true ∧ (Cond.initialized y.cls).before args s = true ∧ (y.cls ≠ "java/lang/invoke/MethodHandle" ∧ y.cls ≠ "java/lang/invoke/VarHandle") ∧
  (∀ sig, parseMethodDescriptor y.desc = some sig → n = sig.parameters.length) ∧ (Cond.methodLink own index y).before args s = true ∧ (Cond.instanceMethod y).before args s = true ∧ (Cond.selects C y y).before args s = true
theorem vx_cwVW {own C : String} {index maxL mc ms : Nat} {y : MethodName} {bytes : ByteArray} {ret : Option FieldType} {hh : List (Nat × Nat × Nat × Nat)} {Ts ws ws' : List Cond} {rm : Room} (n : Nat) (ht : ∀ w ∈ Ts, w.before args s = true) (hT : GoodIn Ts (wsV own index C y ws)) (hw : ws = Cond.codeWith y bytes maxL ret hh :: ws') (hrc : rm.cells = mc) (hrs : rm.slots = ms)
    (hd : y.cls = C ∧ y.cls ≠ "java/lang/invoke/MethodHandle" ∧ y.cls ≠ "java/lang/invoke/VarHandle" ∧ (parseMethodDescriptor y.desc).map (fun d => d.parameters.length) = some n) (hR : rm.frames + 1 ≤ R.frames ∧ 8 + (maxL + 11) + rm.locals ≤ R.locals) :
    vx_CVW R s args own C index y bytes maxL ret hh ws rm mc ms n := by
  obtain ⟨hC, hd⟩ := hd
  subst hC
  have ok : ∀ w ∈ wsV own index y.cls y ws, w.before args s = true := fun w h => ht w (hT w h).1
  have hG : GoodIn Ts ws := fun w h => hT w (by unfold wsV; exact List.mem_append_right _ h)
  have hc : Cond.codeWith y bytes maxL ret hh ∈ ws := by rw [hw]; exact List.mem_cons_self
  refine ⟨⟨hrc, hrs, hR.1, hR.2, pay_in ht hG, hc⟩, ht _ (hG _ hc).1, ok _ (by simp [wsV]), ⟨hd.1, hd.2.1⟩, fun sig h => ?_, ok _ (by simp [wsV]), ok _ (by simp [wsV]), ok _ (by simp [wsV])⟩
  have h2 := hd.2.2
  rw [h] at h2
  exact (Option.some.inj h2).symm
theorem vx_runVW {y : MethodName} {bytes cc : ByteArray} {maxL nL mc ms n index : Nat} {ret : Option FieldType} {hh : List (Nat × Nat × Nat × Nat)} {ws : List Cond} {rm : Room} {Pc : Array Value → State → Prop} {Qc : Array Value → State → Outcome → State → Prop} {free : Addr → Prop} {Ts : List Cond} {own C : String} {b : Addr} {As rest : List Value} {g : JFrame}
    (S : CallFix p m c cc nL s args Ts own) (hM : Met l y ws rm Pc Qc mc ms free) (cw : vx_CVW R s args own C index y bytes maxL ret hh ws rm mc ms n) (hp : PreV s H C b Pc As)
    (hg : g.method = m) (hn : As.length = n) (hsize : g.locals.size = nL) (hstack : g.stack = As.reverse ++ .ref b :: rest) (hW : 2 * g.monitorRoom + (rest.map fun v => v.category).sum ≤ 8) (hdg : decode cc g.pc = .ok (.invokevirtual index, 3)) (hf : cells + mc ≤ R.cells ∧ slots + ms ≤ R.slots) :
    va_Run p l e R s m args below meth c H locs cells slots mc ms g rest (Qc (Value.ref b :: As).toArray) free := by
  obtain ⟨⟨hrc, hrs, hfr, hlo, hws, hcw⟩, hcode, hini, hy, hlen, hl, hin, hse⟩ := cw
  have hK : Back l R p e below s args y 3 8 (PreOf R mc ms Pc) (PostOf Qc mc ms free) := va_backW (hh := hh) (bytes := bytes) (maxL := maxL) (ret := ret) hM hp.1 hrc hrs hfr hlo hws hcw (fun a' U hW => word_at hW (Or.inl (by first | rfl | simp [Cond.onTables, Cond.keeps, Cond.steady])) hini)
  obtain ⟨hx, hb, hml, ho, -⟩ := S
  obtain ⟨-, ⟨cellB, hcB, hoB, hclB⟩, hPc⟩ := hp
  intro T hT X
  obtain ⟨v, vm₁, ⟨U', l2, c2, s2⟩, hW₁, X', ⟨g', mk, t, L, e1, e2, hq, h1, hL, h2, h3⟩, st⟩ := vx_callVW X hx (C := C) (hh := hh) (bytes := bytes) (maxL := maxL) (ret := ret) ho hl hin hse hcode hy hK (by rw [hT]; exact hcB) hoB hclB hg (hsize.trans hml.symm) (argsL := As) (rest := rest) (fun sig h => hn.trans (hlen sig h)) hstack hW (by rw [hb]; exact hdg)
    (fun vm₁ hW₁ => ⟨hf.1, hf.2, hPc (T.setVm vm₁) hT hW₁⟩)
  dsimp only [Pt.U, Pt.locs, Pt.cells, Pt.slots] at X' e1 e2 h1 h2 h3 st
  subst h1; subst h2; subst h3
  exact ⟨v, (T.setVm vm₁).calling g' mk (Value.ref b :: As).toArray, t, U', L, hT, X', hL, e1, e2, hq, st⟩
section
variable {y : MethodName} {bytes cc : ByteArray} {maxL nL mc ms n index : Nat} {ret : Option FieldType} {ws : List Cond} {rm : Room} {Pc : Array Value → State → Prop} {Qc : Array Value → State → Outcome → State → Prop} {XC : String → State → State → Prop} {free : Addr → Prop} {Ts : List Cond} {own C : String} {b : Addr} {As rest : List Value} {g : JFrame}
theorem vx_runVX {hh : List (Nat × Nat × Nat × Nat)} (S : CallFix p m c cc nL s args Ts own) (hM : vx_Met l y ws rm Pc Qc XC mc ms free) (cw : vx_CVW R s args own C index y bytes maxL ret hh ws rm mc ms n) (hp : PreV s H C b Pc As)
    (hg : g.method = m) (hn : As.length = n) (hsize : g.locals.size = nL) (hstack : g.stack = As.reverse ++ .ref b :: rest) (hW : 2 * g.monitorRoom + (rest.map fun v => v.category).sum ≤ 8) (hdg : decode cc g.pc = .ok (.invokevirtual index, 3)) (hf : cells + mc ≤ R.cells ∧ slots + ms ≤ R.slots) :
    vx_Run p l e R s m args below meth c H locs cells slots mc ms g rest (Qc (Value.ref b :: As).toArray) XC free := by
  obtain ⟨⟨hrc, hrs, hfr, hlo, hws, hcw⟩, hcode, hini, hy, hlen, hl, hin, hse⟩ := cw
  have hK : vx_Back l R p e below s args y 3 8 (PreOf R mc ms Pc) (PostOf Qc mc ms free) (vx_Post XC mc ms free) := vx_backW (hh := hh) (bytes := bytes) (maxL := maxL) (ret := ret) hM hp.1 hrc hrs hfr hlo hws hcw (fun a' U hW => word_at hW (Or.inl (by first | rfl | simp [Cond.onTables, Cond.keeps, Cond.steady])) hini)
  obtain ⟨hx, hb, hml, ho, -⟩ := S
  obtain ⟨-, ⟨cellB, hcB, hoB, hclB⟩, hPc⟩ := hp
  intro T hT X
  rcases vx_callVX X hx (C := C) (hh := hh) (bytes := bytes) (maxL := maxL) (ret := ret) ho hl hin hse hcode hy hK (by rw [hT]; exact hcB) hoB hclB hg (hsize.trans hml.symm) (argsL := As) (rest := rest) (fun sig h => hn.trans (hlen sig h)) hstack hW (by rw [hb]; exact hdg)
    (fun vm₁ hW₁ => ⟨hf.1, hf.2, hPc (T.setVm vm₁) hT hW₁⟩) with ⟨v, vm₁, ⟨U', l2, c2, s2⟩, hW₁, X', ⟨g', mk, t, L, e1, e2, hq, h1, hL, h2, h3⟩, st⟩ | ⟨q, vm₁, ⟨U', l2, c2, s2⟩, hW₁, X', ⟨g', mk, t, L, E, ce, e1, e2, hq, hce, hcv, hcl, h1, hL, h2, h3⟩, st⟩
  · dsimp only [Pt.U, Pt.locs, Pt.cells, Pt.slots] at X' e1 e2 h1 h2 h3 st
    subst h1; subst h2; subst h3
    exact Or.inl ⟨v, (T.setVm vm₁).calling g' mk (Value.ref b :: As).toArray, t, U', L, hT, X', hL, e1, e2, hq, st⟩
  · dsimp only [Pt.U, Pt.locs, Pt.cells, Pt.slots] at X' e1 e2 h1 h2 h3 st hcl
    subst h1; subst h2; subst h3
    exact Or.inr ⟨q, (T.setVm vm₁).calling g' mk (Value.ref b :: As).toArray, t, U', L, E, ce, hT, X', hL, e1, e2, hq, hce, hcv, vx_cls hW₁ hcl, st⟩
theorem vx_runSX {hh : List (Nat × Nat × Nat × Nat)} (S : CallFix p m c cc nL s args Ts own) (hM : vx_Met l y ws rm Pc Qc XC mc ms free) (cw : vx_CSW R s args own index y bytes maxL ret hh ws rm mc ms n) (hp : PreS s H Pc As)
    (hg : g.method = m) (hn : As.length = n) (hsize : g.locals.size = nL) (hstack : g.stack = As.reverse ++ rest) (hW : 2 * g.monitorRoom + (rest.map fun v => v.category).sum ≤ 8) (hdg : decode cc g.pc = .ok (.invokestatic index, 3)) (hf : cells + mc ≤ R.cells ∧ slots + ms ≤ R.slots) :
    vx_Run p l e R s m args below meth c H locs cells slots mc ms g rest (Qc As.toArray) XC free := by
  obtain ⟨⟨hrc, hrs, hfr, hlo, hws, hcw⟩, hcode, hini, hy, hlen, hl, hstt⟩ := cw
  have hK : vx_Back l R p e below s args y 3 8 (PreOf R mc ms Pc) (PostOf Qc mc ms free) (vx_Post XC mc ms free) := vx_backW (hh := hh) (bytes := bytes) (maxL := maxL) (ret := ret) hM hp.1 hrc hrs hfr hlo hws hcw (fun a' U hW => word_at hW (Or.inl (by first | rfl | simp [Cond.onTables, Cond.keeps, Cond.steady])) hini)
  obtain ⟨hx, hb, hml, ho, -⟩ := S
  intro T hT X
  rcases vx_callSX X hx (hh := hh) (bytes := bytes) (maxL := maxL) (ret := ret) ho hl hstt hini hcode hy hK hg (hsize.trans hml.symm) (argsL := As) (rest := rest) (fun sig h => hn.trans (hlen sig h)) hstack hW (by rw [hb]; exact hdg)
    (fun vm₁ hW₁ => ⟨hf.1, hf.2, hp.2 (T.setVm vm₁) hT hW₁⟩) with ⟨v, vm₁, ⟨U', l2, c2, s2⟩, hW₁, X', ⟨g', mk, t, L, e1, e2, hq, h1, hL, h2, h3⟩, st⟩ | ⟨q, vm₁, ⟨U', l2, c2, s2⟩, hW₁, X', ⟨g', mk, t, L, E, ce, e1, e2, hq, hce, hcv, hcl, h1, hL, h2, h3⟩, st⟩
  · dsimp only [Pt.U, Pt.locs, Pt.cells, Pt.slots] at X' e1 e2 h1 h2 h3 st
    subst h1; subst h2; subst h3
    exact Or.inl ⟨v, (T.setVm vm₁).calling g' mk As.toArray, t, U', L, hT, X', hL, e1, e2, hq, st⟩
  · dsimp only [Pt.U, Pt.locs, Pt.cells, Pt.slots] at X' e1 e2 h1 h2 h3 st hcl
    subst h1; subst h2; subst h3
    exact Or.inr ⟨q, (T.setVm vm₁).calling g' mk As.toArray, t, U', L, E, ce, hT, X', hL, e1, e2, hq, hce, hcv, vx_cls hW₁ hcl, st⟩
end
end VXH
theorem vx_ofWH {l : Launch} {y : MethodName} {ws ws' : List Cond} {rm : Room} {Pc : Array Value → State → Prop} {Qc : Array Value → State → Outcome → State → Prop} {XC : String → State → State → Prop} {mc ms : Nat} {free : Addr → Prop} {cc : ByteArray} {maxL : Nat} {ret : Option FieldType} {hh : List (Nat × Nat × Nat × Nat)}
    (hy : plainName y.cls = true) (hw : ws = Cond.codeWith y cc maxL ret hh :: ws')
    (body : ∀ p e s m args below meth c s₁, BodyLoose p l y (headSpec ws rm) cc maxL ret e s m args below meth c s₁ → c.maxLocals = maxL → Pc args s →
      W p l e (headSpec ws rm).room s m args below meth c s.heap [] 0 0 (vx_MQ below Qc XC args s mc ms free) (entryFrame m args maxL)) : vx_Met l y ws rm Pc Qc XC mc ms free := by
  refine MetFree.of_bodyS (code := cc) (maxLocals := maxL) (ret := ret) hy ?_ ?_
  · intro args s m h hn
    obtain ⟨m9, meth, c, hn9, h1, h2, h3, h4, -, h5, h6, -⟩ := Cond.codeWith_spec (atoms_spec (ws := ws) h _ (by rw [hw]; exact List.mem_cons_self))
    cases hn.symm.trans hn9
    exact ⟨meth, c, h1, h2, h3, h4, h5, h6⟩
  · intro p e s m args below meth c s₁ B hml hP _
    have hh0 : s₁.heap = s.heap := by rw [B.state]; rfl
    obtain ⟨t, a1, o, b1, b2, b3⟩ := body p e s m args below meth c s₁ B hml hP s₁ hh0 (Stand.of_body B)
    exact ⟨t, o, a1, b1, b2, b3⟩
/-! ===== END ===== -/

/-! ===== BEGIN what the machine throws by itself, no traces kept ===== -/
section VXM
set_option maxHeartbeats 1000000 in
/-- the machine throws cls with the message text, no traces kept: from its note over the frame g to 'throwing' over the same frame (follows the proofs of Stand.vmThrowsMessage, Shelf/KitTracedVmS.lean, and Stand.throwsMessageColdBareV, StandMessageColdV.lean, without the step out of the frame) -/
theorem vx_vmAt {p : Program} {l : Launch} {e : Env} {R : Room} {s : State} {m₀ : MethodId} {args : Array Value} {below : List Frame} {meth : Method} {c : Code} {W : State} {locs : List Loc} {cells slots : Nat}
    (X : Stand p l e R s m₀ args below meth c W locs cells slots) (hexec : p.tables.exec = Jvm.exec) (htr : e.platform.stackTraces = false) {cls : String} {names : List String} {text : String}
    (hcls : Bundle.fit cls = true) (hnames : ∀ n ∈ names, Bundle.fit n = true) (hsoe : (cls == "java/lang/StackOverflowError") = false) (hoom : (cls == "java/lang/OutOfMemoryError") = false)
    (h : ∀ a ∈ Bundle.messageArmAtoms cls names, a.before args s = true)
    (hlocs : ∀ x ∈ locs, ∀ cell, s.heap[x.base]? = some cell → cell.vm.isStatics = false)
    (htext : (text == notModelled) = false) (hlimit : ¬ (stringBytes (stringToUtf16 text)).size > e.platform.arrayLengthLimit) (hheap : ¬ (stringBytes (stringToUtf16 text)).size * componentBytes .byte > e.platform.maxHeapBytes)
    {g : JFrame} (hg : g.method = m₀) (hsize : g.locals.size = c.maxLocals)
    (hRframes : names.length + 4 < R.frames) (hRlocals : 2 * g.monitorRoom + (g.stack.map fun v => v.category).sum + 10240 ≤ R.locals) (hshort : 13 * names.length + 55 ≤ 10240)
    (hRcells : cells + 3 ≤ R.cells) (hRslots : slots + ((stringBytes (stringToUtf16 text)).size + 4 + 6) ≤ R.slots) (hlocks : meth.locks = false) :
    ∃ (S : State) (q : Addr) (ce : Cell), (∀ target, Steps p.tables e below ((S.setTop g).pushFrame (.throwing q)) target → Steps p.tables e below ((W.setTop g).pushFrame (.throwNew cls (some text) none)) target) ∧
      Stand p l e R s m₀ args below meth c S locs (cells + 3) (slots + ((stringBytes (stringToUtf16 text)).size + 4 + 6)) ∧ S.heap[q]? = some ce ∧ s.vm.findClass cls = some ce.cls ∧ ce.vm = .none := by
  have howns : e.platform.frameOwnsMonitors = true := by rw [X.admits.platform]
  have hfin : e.platform.finalization = false := by rw [X.admits.platform]
  have hpl : e.platform.magicAccessors = ({} : Platform).magicAccessors := by rw [X.admits.platform]
  have a : ∀ x, x ∈ Bundle.messageArmAtoms cls names → x.holds args s none s [] = true := fun x hx => h x hx
  obtain ⟨T, Z0, L, -, Y⟩ := ThrowableC.of_atoms (args := args) howns hfin hpl (fun x hx => h x (by simp [Bundle.messageArmAtoms, hx]))
  obtain ⟨Z, M, LZ, LM, hnZ⟩ := Init0T.ofS_atoms (args := args) hpl L Y (fun x hx => h x (by simp [Bundle.messageArmAtoms, hx]))
  obtain ⟨P1, Ps, hlen, L1, hL, hP1m, hlink1, hlink⟩ := Bundle.chainS (args := args) hpl hnZ names cls hcls hnames (fun x hx => h x (by simp [Bundle.messageArmAtoms, hx]))
  obtain ⟨Zs, LZs, hn4, hfitv, hfitc⟩ := StringT.of_atoms (args := args) (fun x hx => h x (by simp [Bundle.messageArmAtoms, hx]))
  have hfound : s.vm.findClass cls = some P1.m.cls := findClass_of_methodNamed hP1m
  obtain ⟨c1, kX, hc1, hk, hord, -, -, hn6⟩ := Cond.instantiable_spec (a (.instantiable cls 6) (by simp [Bundle.messageArmAtoms]))
  cases Option.some.inj (hc1.symm.trans hfound)
  have hinit := Cond.initialized_spec hfound hk (a (.initialized cls) (by simp [Bundle.messageArmAtoms]))
  have hctor : kX.findMethod "<init>" "(Ljava/lang/String;)V" = some P1.m.idx := findMethod_of_methodNamed hP1m hk
  have hsel0 : selectMethod e.platform s.vm P1.m.cls T.fill0 = .method T.fill0 := by
    obtain ⟨c2, r2, m2, q1, q2, q3, q4, -⟩ := Cond.selects_spec (a (.selects cls Bundle.tFill0 Bundle.tFill0) (by simp [Bundle.messageArmAtoms]))
    cases Option.some.inj (q1.symm.trans hfound)
    cases Option.some.inj (q2.symm.trans (State.methodFound?_of_named Y.fill0 (by decide)))
    cases Option.some.inj (q3.symm.trans Y.fill0)
    rw [Launch.admits_selectMethod X.admits]; exact q4
  have hselF : selectMethod e.platform s.vm P1.m.cls T.fill = .method T.fill := by
    obtain ⟨c2, r2, m2, q1, q2, q3, q4, -⟩ := Cond.selects_spec (a (.selects cls Bundle.tFill Bundle.tFill) (by simp [Bundle.messageArmAtoms]))
    cases Option.some.inj (q1.symm.trans hfound)
    cases Option.some.inj (q2.symm.trans (State.methodFound?_of_named Y.fill (by decide)))
    cases Option.some.inj (q3.symm.trans Y.fill)
    rw [Launch.admits_selectMethod X.admits]; exact q4
  obtain ⟨cellS0, hcS0, hiss⟩ := Y.statics
  obtain ⟨u0, hu0⟩ := Cond.staticRefV Y.unassigned L.unassignedStatic L.statics hcS0 hiss (a (.isRef (.static Bundle.tN "UNASSIGNED_STACK" Bundle.steD)) (by simp [Bundle.messageArmAtoms]))
  obtain ⟨sen, hsen⟩ := Cond.staticRefV Y.sentinel L.sentinelStatic L.statics hcS0 hiss (a (.isRef (.static Bundle.tN "SUPPRESSED_SENTINEL" Bundle.listD)) (by simp [Bundle.messageArmAtoms]))
  obtain ⟨ci198, i198, fB, hk198, hg198, ha198, hsB, -, hnB, htB, hffB⟩ := Cond.ownField (t := .object "java/lang/Object") Y.found L.cls (by decide +kernel) (a (.fieldLink Bundle.tN 198 Bundle.tN "backtrace" "Ljava/lang/Object;") (by simp [Bundle.messageArmAtoms])) (a (.lays Bundle.tN Bundle.tN "backtrace" "Ljava/lang/Object;") (by simp [Bundle.messageArmAtoms])) e.platform hpl
  obtain ⟨cellS, hcS', heS, -, hkeep⟩ := X.same.2.2.2.2.2 T.aS cellS0 hcS0
  have hcellS : W.heap[T.aS]? = some cellS := hcS'
  have hout' : ∀ i, (⟨T.aS, i⟩ : Loc) ∉ locs := fun i hmem => by
    have := hlocs _ hmem cellS0 hcS0
    rw [hiss] at this; cases this
  have hknownS : cellS.vm ≠ .unknown := by
    rw [heS]; intro hu
    rw [show cellS0.vm = .unknown from hu] at hiss
    cases hiss
  have hvU : cellS.slots[T.fUnassigned.slot]? = some u0.v := by rw [hkeep _ (hout' _)]; exact hu0
  have hvSen : cellS.slots[T.fSentinel.slot]? = some sen.v := by rw [hkeep _ (hout' _)]; exact hsen
  obtain ⟨iM, hffM⟩ := Y.msg
  obtain ⟨tyC, dC, hdC, hdnC⟩ := Cond.laysAt hfound hk Y.cause (a (.lays cls Bundle.tN "cause" "Ljava/lang/Throwable;") (by simp [Bundle.messageArmAtoms]))
  obtain ⟨tyS, dS, hdS, hdnS⟩ := Cond.laysAt hfound hk Y.stack (a (.lays cls Bundle.tN "stackTrace" Bundle.steD) (by simp [Bundle.messageArmAtoms]))
  obtain ⟨tyP, dP, hdP, hdnP⟩ := Cond.laysAt hfound hk Y.supp (a (.lays cls Bundle.tN "suppressedExceptions" Bundle.listD) (by simp [Bundle.messageArmAtoms]))
  obtain ⟨tyM, dM, hdM, hdnM⟩ := Cond.laysAt hfound hk hffM (a (.lays cls Bundle.tN "detailMessage" "Ljava/lang/String;") (by simp [Bundle.messageArmAtoms]))
  obtain ⟨tyB, dB, hdB, hdnB⟩ := Cond.laysAt hfound hk hffB (a (.lays cls Bundle.tN "backtrace" "Ljava/lang/Object;") (by simp [Bundle.messageArmAtoms]))
  have bC := Cond.laysApart hdB hdC hdnB hdnC (by rw [hnB, Y.causeName]; decide)
  have bS := Cond.laysApart hdB hdS hdnB hdnS (by rw [hnB, Y.stackName]; decide)
  have bP := Cond.laysApart hdB hdP hdnB hdnP (by rw [hnB, Y.suppName]; decide)
  have hbk : ((preparedCellV T.toThrowableT (freshCell P1.m.cls kX) (W.heap.size + 2) u0 sen).withEntry W.cur).slots[fB.slot]? = some .null := by
    have := fresh_default (c := P1.m.cls) tyB
    rw [htB] at this
    simpa [preparedCellV, Cell.setSlot, Cell.withEntry, Array.getElem?_setIfInBounds, bC, bS, bP, bC.symm, bS.symm, bP.symm, defaultValue] using this
  have tkC := Takes.of_laid (v := .ref (W.heap.size + 2)) hk hord tyC (by rw [Y.causeType]; rfl)
  have tkS := Takes.of_laid (v := u0.v) hk hord tyS (by rw [Y.stackType]; exact fits_refV_array _ u0)
  have tkP := Takes.of_laid (v := sen.v) hk hord tyP (by rw [Y.suppType]; exact fits_refV_object _ sen)
  have tkM := Takes.of_laid (v := .ref (W.heap.size + 1)) hk hord tyM (by rw [Y.msgType]; rfl)
  have hskip : SkipFacts T e.platform s (fun u => u) u0 ((preparedCellV T.toThrowableT (freshCell P1.m.cls kX) (W.heap.size + 2) u0 sen).withEntry W.cur) := ⟨{ ci198 := ci198, i198 := i198, fBack := fB }, ⟨hk198, hg198, ha198, hsB⟩, hbk, fun _ _ => rfl⟩
  have h0 : At W g.method c below := by rw [hg]; exact X.here
  obtain ⟨hbeyond, hfreeW⟩ := X.vmMayThrow hsize (.throwNew cls (some text) none) (fun f hf => by cases hf) rfl hRlocals
  have hfr' : W.frames.length + Ps.length + 4 < (e.platform.stackLimits W.me).1 := by have := X.framesAbove hRframes; omega
  have hwd' : (stackUse (.java g :: W.frames.tail)).2 + 13 * Ps.length + 55 ≤ (e.platform.stackLimits W.me).2 := by have := X.stackAbove hsize (K := 13 * Ps.length + 55) (by omega); omega
  have hslots : W.slotsUsed + (stringBytes (stringToUtf16 text)).size + Zs.kS.instanceTypes.size + kX.instanceTypes.size ≤ e.platform.maxSlots := by
    have := X.slotsAbove hRslots
    rw [hn4, hn6]
    omega
  obtain ⟨vm', hW', st⟩ := Steps.vmThrowsMessageColdByV p (s₀ := s) (S := W) (g := g) h0 hexec T L Z LZ M LM X.warmed (t := W.cur) rfl Zs LZs P1 L1 Ps hL hlink1 hlink hsoe hoom hfound hk hinit hord hctor
    (Launch.admits_hotImplicitExceptions X.admits) hbeyond hfreeW htext hlimit hheap (X.cellsAbove hRcells) hslots (hfitv _) (hfitc _)
    (Nn := fun u => u) heapOnly_id (fun _ _ => rfl) (fun _ => rfl) (fun u x y => setCell_twice _ _ _ _) (fun _ => Nat.le_refl _) (cN := ((preparedCellV T.toThrowableT (freshCell P1.m.cls kX) (W.heap.size + 2) u0 sen).withEntry W.cur))
    hsel0 hcellS hknownS hvU tkS (fun _ hu => hu) (fun _ hu => hu) rfl rfl rfl (by simp [preparedCellV, Cell.setSlot, Cell.withEntry]) hskip (fun _ _ hA hW _ hroom _ hrest => L.nativeOff p htr hA hW hroom hrest) hselF hvSen tkC tkP tkM Y.objLocals rfl hfr' hwd'
  rw [plainBareV_eq T.toThrowableT (W.heap.size + 2) u0 sen (.ref (W.heap.size + 1)) W.cur rfl rfl] at st
  obtain ⟨-, -, w3, w4, -, -, -⟩ := withThrown_facts e.platform W Zs text P1.m.cls kX
  have X3 := ((X.pushed (bytesOf Zs.cB (stringToUtf16 text))).pushed (stringAt Zs.cS Zs.kS Zs.fv Zs.fc (stringToUtf16 text) W.heap.size)).pushed (freshCell P1.m.cls kX)
  rw [← withString_eq] at X3
  have X4 := X3.noted hW'
  have ha : (W.heap.size + 2) < ((withThrown W Zs text P1.m.cls kX).setVm vm').heap.size := by show _ < (withThrown W Zs text P1.m.cls kX).heap.size; rw [w3]; omega
  have hcell : ((withThrown W Zs text P1.m.cls kX).setVm vm').heap[(W.heap.size + 2)]? = some (freshCell P1.m.cls kX) := w4
  have X5 := ((((X4.stored hcell T.fCause.slot (.ref (W.heap.size + 2))).storedAgain ha T.fStack.slot u0.v).storedAgain ha T.fSupp.slot sen.v).storedAgain ha T.fStack.slot u0.v).storedAgain ha T.fMsg.slot (.ref (W.heap.size + 1))
  obtain ⟨g₁, hfrM⟩ := X5.frames_eq
  have hU : ((((withThrown W Zs text P1.m.cls kX).setVm vm').setCell (W.heap.size + 2) (plainBareV T.toThrowableT (freshCell P1.m.cls kX) (W.heap.size + 2) u0 sen (.ref (W.heap.size + 1)))).setTop g).pushFrame (.throwing (W.heap.size + 2)) = (((withThrown W Zs text P1.m.cls kX).setVm vm').setCell (W.heap.size + 2) (plainBareV T.toThrowableT (freshCell P1.m.cls kX) (W.heap.size + 2) u0 sen (.ref (W.heap.size + 1)))).setFrames (.throwing (W.heap.size + 2) :: .java g :: below) := by
    rw [State.pushFrame, State.frames_setTop _ hfrM, State.setTop_of_frames _ hfrM, State.setFrames_setFrames]
  have b1 : (bytesOf Zs.cB (stringToUtf16 text)).slots.size = (stringBytes (stringToUtf16 text)).size := by
    rw [(Cell.writeAll_facts _ _).2.2]; simp [bytes0]
  have b2 : (stringAt Zs.cS Zs.kS Zs.fv Zs.fc (stringToUtf16 text) W.heap.size).slots.size = 4 := by simp [string0, Cell.setSlot, hn4]
  have b3 : (freshCell P1.m.cls kX).slots.size = 6 := by simp [hn6]
  rw [b1, b2, b3] at X5
  have e9 : slots + (stringBytes (stringToUtf16 text)).size + 4 + 6 = slots + ((stringBytes (stringToUtf16 text)).size + 4 + 6) := by omega
  rw [e9] at X5
  simp only [List.append_assoc, List.cons_append, List.nil_append] at X5
  refine ⟨((withThrown W Zs text P1.m.cls kX).setVm vm').setCell (W.heap.size + 2) (plainBareV T.toThrowableT (freshCell P1.m.cls kX) (W.heap.size + 2) u0 sen (.ref (W.heap.size + 1))), W.heap.size + 2, _, fun target ht => st _ (by rw [X.tail, ← hU]; exact ht),
    X5.forget (fun y hy => ?_), heapAt_setCell_self _ ha, hfound, rfl⟩
  simp only [List.mem_cons, List.not_mem_nil, or_false] at hy
  have hge : s.heap.size ≤ W.heap.size := X.same.2.1
  rcases hy with rfl | rfl | rfl | rfl | rfl <;> exact Nat.le_trans hge (Nat.le_add_right _ 2)
set_option maxHeartbeats 1000000 in
/-- the machine throws NullPointerException, no traces kept: from its note over the frame g to 'throwing' over the same frame (follows the proof of Stand.vmThrowsNpe, Shelf42/KT2.lean; throwsNpeColdBareVAt, Shelf42/NT91.lean, called) -/
theorem vx_npeAt {p : Program} {l : Launch} {e : Env} {R : Room} {s : State} {m₀ : MethodId} {args : Array Value} {below : List Frame} {meth : Method} {c : Code} {W : State} {locs : List Loc} {cells slots : Nat}
    (X : Stand p l e R s m₀ args below meth c W locs cells slots) (hexec : p.tables.exec = Jvm.exec) (htr : e.platform.stackTraces = false) {n : Nat}
    (h : ∀ a ∈ Bundle.npeArmAtoms n, a.before args s = true)
    (hlocs : ∀ x ∈ locs, ∀ cell, s.heap[x.base]? = some cell → cell.vm.isStatics = false)
    {g : JFrame} (hg : g.method = m₀) (hsize : g.locals.size = c.maxLocals)
    (hRframes : 7 < R.frames) (hRlocals : 2 * g.monitorRoom + (g.stack.map fun v => v.category).sum + 10240 ≤ R.locals)
    (hRcells : cells + 1 ≤ R.cells) (hRslots : slots + n ≤ R.slots) (hlocks : meth.locks = false) :
    ∃ (S : State) (q : Addr) (ce : Cell), (∀ target, Steps p.tables e below ((S.setTop g).pushFrame (.throwing q)) target → Steps p.tables e below ((W.setTop g).pushFrame (.throwNew "java/lang/NullPointerException" none none)) target) ∧
      Stand p l e R s m₀ args below meth c S locs (cells + 1) (slots + n) ∧ S.heap[q]? = some ce ∧ s.vm.findClass "java/lang/NullPointerException" = some ce.cls ∧ ce.vm = .none := by
  have howns : e.platform.frameOwnsMonitors = true := by rw [X.admits.platform]
  have hfin : e.platform.finalization = false := by rw [X.admits.platform]
  have hpl : e.platform.magicAccessors = ({} : Platform).magicAccessors := by rw [X.admits.platform]
  have hpl2 : e.platform.arrayCloneIsPublic = true := by rw [X.admits.platform]
  have a' : ∀ x, x ∈ Bundle.npeArmAtoms n → x.holds args s none s [] = true := fun x hx => h x hx
  obtain ⟨T, Z, L, LZ, Y⟩ := ThrowableC.of_atoms (args := args) howns hfin hpl (fun x hx => h x (by simp [Bundle.npeArmAtoms, hx]))
  obtain ⟨N, LN, hcN, hnNF, hordN, hffS⟩ := NpeC.of_atoms (args := args) hpl hpl2 L Y (fun x hx => h x (by simp [Bundle.npeArmAtoms, hx]))
  obtain ⟨P1, L1, hP1m, hP1s⟩ := PassC.of_atoms (args := args) (s := s) hpl (X := Bundle.nN) (Y := Bundle.rN) (by decide) (by decide) LibCode.NullPointerException.Init0.at_0 LibCode.NullPointerException.Init0.at_1 LibCode.NullPointerException.Init0.at_4 (fun x hx => h x (by simp [Bundle.npeArmAtoms, hx]))
  obtain ⟨PR, LR, hPRm, hPRs⟩ := PassC.of_atoms (args := args) (s := s) hpl (X := Bundle.rN) (Y := Bundle.eN) (by decide) (by decide) LibCode.RuntimeException.Init0.at_0 LibCode.RuntimeException.Init0.at_1 LibCode.RuntimeException.Init0.at_4 (fun x hx => h x (by simp [Bundle.npeArmAtoms, hx]))
  obtain ⟨PE, LEx, hPEm, hPEs⟩ := PassC.of_atoms (args := args) (s := s) hpl (X := Bundle.eN) (Y := Bundle.tN) (by decide) (by decide) LibCode.Exception.Init0.at_0 LibCode.Exception.Init0.at_1 LibCode.Exception.Init0.at_4 (fun x hx => h x (by simp [Bundle.npeArmAtoms, hx]))
  have hfound : s.vm.findClass Bundle.nN = some P1.m.cls := findClass_of_methodNamed hP1m
  have ecls : N.cN = P1.m.cls := Option.some.inj (hcN.symm.trans hfound)
  have hk : s.vm.classes[P1.m.cls]? = some N.kN := by rw [← ecls]; exact LN.cls
  have hinit := Cond.initialized_spec hfound hk (a' (.initialized Bundle.nN) (by simp [Bundle.npeArmAtoms]))
  have hctor : N.kN.findMethod "<init>" "()V" = some P1.m.idx := findMethod_of_methodNamed hP1m hk
  obtain ⟨c1, k1, hc1, hk1, -, -, -, hn⟩ := Cond.instantiable_spec (a' (.instantiable Bundle.nN n) (by simp [Bundle.npeArmAtoms]))
  cases Option.some.inj (hc1.symm.trans hfound)
  cases Option.some.inj (hk1.symm.trans hk)
  have hfsz : (freshCell P1.m.cls N.kN).slots.size = n := by simp [hn]
  have hlink1 : P1.sup = PR.m := Option.some.inj (hP1s.symm.trans hPRm)
  have hlinkR : PR.sup = PE.m := Option.some.inj (hPRs.symm.trans hPEm)
  have hlinkE : PE.sup = Z.m T.toThrowableT := Option.some.inj (hPEs.symm.trans Y.init0)
  have hLs : ∀ P, P ∈ [PR, PE] → P.Links0 e.platform s := fun P hP => by
    simp only [List.mem_cons, List.not_mem_nil, or_false] at hP
    rcases hP with rfl | rfl
    · exact LR
    · exact LEx
  have hsel0 : selectMethod e.platform s.vm P1.m.cls T.fill0 = .method T.fill0 := by
    obtain ⟨c2, r2, m2, q1, q2, q3, q4, -⟩ := Cond.selects_spec (a' (.selects Bundle.nN Bundle.tFill0 Bundle.tFill0) (by simp [Bundle.npeArmAtoms]))
    cases Option.some.inj (q1.symm.trans hfound)
    cases Option.some.inj (q2.symm.trans (State.methodFound?_of_named Y.fill0 (by decide)))
    cases Option.some.inj (q3.symm.trans Y.fill0)
    rw [Launch.admits_selectMethod X.admits]; exact q4
  have hselF : selectMethod e.platform s.vm P1.m.cls T.fill = .method N.fill := by
    obtain ⟨c2, r2, m2, q1, q2, q3, q4, -⟩ := Cond.selects_spec (a' (.selects Bundle.nN Bundle.tFill Bundle.nFill) (by simp [Bundle.npeArmAtoms]))
    cases Option.some.inj (q1.symm.trans hfound)
    cases Option.some.inj (q2.symm.trans (State.methodFound?_of_named Y.fill (by decide)))
    cases Option.some.inj (q3.symm.trans hnNF)
    rw [Launch.admits_selectMethod X.admits]; exact q4
  obtain ⟨cellS0, hcS0, hiss⟩ := Y.statics
  obtain ⟨u0, hu0⟩ := Cond.staticRefV Y.unassigned L.unassignedStatic L.statics hcS0 hiss (a' (.isRef (.static Bundle.tN "UNASSIGNED_STACK" Bundle.steD)) (by simp [Bundle.npeArmAtoms]))
  obtain ⟨sen, hsen⟩ := Cond.staticRefV Y.sentinel L.sentinelStatic L.statics hcS0 hiss (a' (.isRef (.static Bundle.tN "SUPPRESSED_SENTINEL" Bundle.listD)) (by simp [Bundle.npeArmAtoms]))
  obtain ⟨ci198, i198, fB, hk198, hg198, ha198, hsB, -, hnB, htB, hffB⟩ := Cond.ownField (t := .object "java/lang/Object") Y.found L.cls (by decide +kernel) (a' (.fieldLink Bundle.tN 198 Bundle.tN "backtrace" Bundle.objD) (by simp [Bundle.npeArmAtoms])) (a' (.lays Bundle.tN Bundle.tN "backtrace" Bundle.objD) (by simp [Bundle.npeArmAtoms])) e.platform hpl
  obtain ⟨cellS, hcS', heS, -, hkeep⟩ := X.same.2.2.2.2.2 T.aS cellS0 hcS0
  have hcellS : W.heap[T.aS]? = some cellS := hcS'
  have hout' : ∀ i, (⟨T.aS, i⟩ : Loc) ∉ locs := fun i hmem => by
    have := hlocs _ hmem cellS0 hcS0
    rw [hiss] at this; cases this
  have hknownS : cellS.vm ≠ .unknown := by
    rw [heS]; intro hu
    rw [show cellS0.vm = .unknown from hu] at hiss
    cases hiss
  have hvU : cellS.slots[T.fUnassigned.slot]? = some u0.v := by rw [hkeep _ (hout' _)]; exact hu0
  have hvSen : cellS.slots[T.fSentinel.slot]? = some sen.v := by rw [hkeep _ (hout' _)]; exact hsen
  obtain ⟨tyC, dC, hdC, hdnC⟩ := Cond.laysAt hfound hk Y.cause (a' (.lays Bundle.nN Bundle.tN "cause" "Ljava/lang/Throwable;") (by simp [Bundle.npeArmAtoms]))
  obtain ⟨tyS, dS, hdS, hdnS⟩ := Cond.laysAt hfound hk Y.stack (a' (.lays Bundle.nN Bundle.tN "stackTrace" Bundle.steD) (by simp [Bundle.npeArmAtoms]))
  obtain ⟨tyP, dP, hdP, hdnP⟩ := Cond.laysAt hfound hk Y.supp (a' (.lays Bundle.nN Bundle.tN "suppressedExceptions" Bundle.listD) (by simp [Bundle.npeArmAtoms]))
  obtain ⟨tyX, dX, hdX, hdnX⟩ := Cond.laysAt hfound hk hffS (a' (.lays Bundle.nN Bundle.nN "extendedMessageState" "I") (by simp [Bundle.npeArmAtoms, Bundle.npeAtoms]))
  obtain ⟨hnX, htX⟩ := State.fieldFound?_type hffS (t := .int) (by decide +kernel)
  have xC := Cond.laysApart hdC hdX hdnC hdnX (by rw [hnX, Y.causeName]; decide)
  have xS := Cond.laysApart hdS hdX hdnS hdnX (by rw [hnX, Y.stackName]; decide)
  have xP := Cond.laysApart hdP hdX hdnP hdnX (by rw [hnX, Y.suppName]; decide)
  have hv0 : (freshCell P1.m.cls N.kN).slots[N.fState.slot]? = some (.int 0) := by
    have := fresh_default (c := P1.m.cls) tyX
    rw [htX] at this; exact this
  obtain ⟨tyB, dB, hdB, hdnB⟩ := Cond.laysAt hfound hk hffB (a' (.lays Bundle.nN Bundle.tN "backtrace" Bundle.objD) (by simp [Bundle.npeArmAtoms]))
  have bC := Cond.laysApart hdB hdC hdnB hdnC (by rw [hnB, Y.causeName]; decide)
  have bS := Cond.laysApart hdB hdS hdnB hdnS (by rw [hnB, Y.stackName]; decide)
  have bP := Cond.laysApart hdB hdP hdnB hdnP (by rw [hnB, Y.suppName]; decide)
  have bX := Cond.laysApart hdB hdX hdnB hdnX (by rw [hnB, hnX]; decide)
  have hbk : ((npeCell N.toNpeT (preparedCellV T.toThrowableT (freshCell P1.m.cls N.kN) W.heap.size u0 sen) W.cur).withEntry W.cur).slots[fB.slot]? = some .null := by
    have := fresh_default (c := P1.m.cls) tyB
    rw [htB] at this
    simpa [npeCell, preparedCellV, Cell.setSlot, Cell.withEntry, Array.getElem?_setIfInBounds, bC, bS, bP, bX, bC.symm, bS.symm, bP.symm, bX.symm, defaultValue] using this
  have tkC := Takes.of_laid (v := .ref W.heap.size) hk hordN tyC (by rw [Y.causeType]; rfl)
  have tkS := Takes.of_laid (v := u0.v) hk hordN tyS (by rw [Y.stackType]; exact fits_refV_array _ u0)
  have tkP := Takes.of_laid (v := sen.v) hk hordN tyP (by rw [Y.suppType]; exact fits_refV_object _ sen)
  have tkX := Takes.of_laid (v := .int 1) hk hordN tyX (by rw [htX]; rfl)
  have hskip : SkipFacts T e.platform s (fun u => u) u0 ((npeCell N.toNpeT (preparedCellV T.toThrowableT (freshCell P1.m.cls N.kN) W.heap.size u0 sen) W.cur).withEntry W.cur) := ⟨{ ci198 := ci198, i198 := i198, fBack := fB }, ⟨hk198, hg198, ha198, hsB⟩, hbk, fun _ _ => rfl⟩
  obtain ⟨vm', X3, st, -⟩ := X.throwsNpeColdBareVAt hexec hg hsize T L Z LZ N LN P1 L1 [PR, PE] hLs hlink1 ⟨hlinkR, hlinkE, trivial⟩ hfound hk hinit hordN hctor hsel0 hselF hcellS hknownS hvU hvSen
    hv0 xC xS xP tkC tkS tkP tkX Y.objLocals hskip (fun _ _ hA hW _ hroom _ hrest => L.nativeOff p htr hA hW hroom hrest) (by simpa using hRframes) hRlocals (by simp) hRcells (by rw [hn]; exact hRslots)
  have hlt : W.heap.size < ((W.pushCell (freshCell P1.m.cls N.kN)).setVm vm').heap.size := by
    show W.heap.size < (W.pushCell (freshCell P1.m.cls N.kN)).heap.size
    rw [State.heap_size_pushCell]; omega
  rw [hfsz] at X3
  obtain ⟨g₁, hfrM⟩ := X3.frames_eq
  have hU : ((((W.pushCell (freshCell P1.m.cls N.kN)).setVm vm').setCell W.heap.size (npeBareV T.toThrowableT N.toNpeT (freshCell P1.m.cls N.kN) W.heap.size u0 sen)).setTop g).pushFrame (.throwing W.heap.size) = (((W.pushCell (freshCell P1.m.cls N.kN)).setVm vm').setCell W.heap.size (npeBareV T.toThrowableT N.toNpeT (freshCell P1.m.cls N.kN) W.heap.size u0 sen)).setFrames (.throwing W.heap.size :: .java g :: below) := by
    rw [State.pushFrame, State.frames_setTop _ hfrM, State.setTop_of_frames _ hfrM, State.setFrames_setFrames]
  refine ⟨_, W.heap.size, _, fun target ht => st.trans (by rw [← hU]; exact ht), X3.forget (fun y hy => ?_), heapAt_setCell_self _ hlt, hfound, rfl⟩
  simp only [List.mem_cons, List.not_mem_nil, or_false] at hy
  have hge : s.heap.size ≤ W.heap.size := X.same.2.1
  rcases hy with rfl | rfl | rfl | rfl | rfl <;> exact hge
/-- the words of a machine's NullPointerException, but the four that speak of the heap -/
def vx_atN (n : Nat) : List Cond := (Bundle.npeArmAtoms n).filter vx_no
/-- the words of a machine's throw with a message, but the four that speak of the heap -/
def vx_atM (X : String) (names : List String) : List Cond := (Bundle.messageArmAtoms X names).filter vx_no
section
variable {p : Program} {l : Launch} {e : Env} {R : Room} {s : State} {m : MethodId} {args : Array Value} {below : List Frame} {meth : Method} {c : Code} {H : Heap} {locs : List Loc} {cells slots : Nat}
/-- a frame seen from a rebased start, seen from the first start again -/
theorem vx_back9 {T S : State} {R' : Room} {k n : Nat} (X : Stand p l e R s m args below meth c T locs cells slots) (Y : Stand p l e R' ((T.setVm s.vm).setFrames (.invoking m args :: below)) m args below meth c T [] 0 0) (Z : Stand p l e R' ((T.setVm s.vm).setFrames (.invoking m args :: below)) m args below meth c S [] k n) :
    Stand p l e R s m args below meth c S locs (cells + k) (slots + n) := by
  have hW0 : s.WarmedH ((T.setVm s.vm).setFrames (.invoking m args :: below)).vm := State.WarmedH.refl s
  refine { admits := X.admits, cas := X.cas, clock := X.clock, frames := X.frames, room := X.room, hears := X.hears, method := X.method, code := X.code, here := Z.here, tail := Z.tail, warmed := State.WarmedH.trans hW0 Z.warmed, limits := Z.limits.trans (Y.limits.symm.trans X.limits), bytes := Z.bytes.trans (Y.bytes.symm.trans X.bytes), same := ?_ }
  obtain ⟨e1, e2⟩ := Z.same
  rw [State.setFrames_setFrames] at e1
  have h2 : (T.setVm s.vm).sameButNew (S.setVm s.vm) [] k n := ⟨e1, e2⟩
  have h3 := X.same.trans h2
  rw [List.append_nil] at h3
  exact h3
/-- from the machine's note that E is thrown here with this text -/
def vx_Note (p : Program) (l : Launch) (e : Env) (R : Room) (s : State) (m : MethodId) (args : Array Value) (below : List Frame) (meth : Method) (c : Code) (H : Heap) (locs : List Loc) (cells slots : Nat) (Q : State → Prop) (g : JFrame) (E text : String) : Prop :=
  ∀ T : State, T.heap = H → Stand p l e R s m args below meth c T locs cells slots → ∃ t, Steps p.tables e below ((T.setTop g).pushFrame (.throwNew E (some text) none)) t ∧ Q t
theorem vx_vm {pc : Nat} {ls : Array Slot} {rest : List Value} {Q : State → Prop} (hexec : p.tables.exec = Jvm.exec) (hl : l.stackTraces = false) {cls text : String} {names : List String} {nb : Nat} {A : Nat → Prop}
    (hcls : Bundle.fit cls = true) (hnames : ∀ n ∈ names, Bundle.fit n = true) (hsoe : (cls == "java/lang/StackOverflowError") = false) (hoom : (cls == "java/lang/OutOfMemoryError") = false)
    (hat : ∀ w ∈ vx_atM cls names, w.before args s = true) (hgood : ∀ w ∈ vx_atM cls names, vx_ot w = true)
    (hU : vx_Zq Bundle.tN "UNASSIGNED_STACK" Bundle.steD A s s.heap) (hN : vx_Zq Bundle.tN "SUPPRESSED_SENTINEL" Bundle.listD A s s.heap) (hS : va_S A s.heap H locs) (hsize : ls.size = c.maxLocals)
    (htext : (text == notModelled) = false) (hnb : (stringBytes (stringToUtf16 text)).size ≤ nb) (hnb1 : nb ≤ 1000)
    (hRframes : names.length + 4 < R.frames) (hRlocals : (rest.map fun v => v.category).sum + 10240 ≤ R.locals) (hshort : 13 * names.length + 55 ≤ 10240) (hRcells : cells + 3 ≤ R.cells) (hRslots : slots + (nb + 10) ≤ R.slots) (hlocks : meth.locks = false)
    (k : ∀ (H1 : Heap) (q9 : Addr) (ce : Cell), H.size ≤ H1.size → (∀ q : Nat, q < H.size → H1[q]? = H[q]?) → va_S A s.heap H1 locs → H1[q9]? = some ce → ce.vm = .none → s.vm.findClass cls = some ce.cls → vx_W p l e R s m args below meth c H1 locs (cells + 3) (slots + (nb + 10)) Q (F0 m pc ls rest) q9) :
    vx_Note p l e R s m args below meth c H locs cells slots Q (F0 m pc ls rest) cls text := by
  intro T hT X
  have htr : e.platform.stackTraces = false := (show e.platform.stackTraces = l.stackTraces by rw [X.admits.platform]).trans hl
  have Y := vx_rebase X (R' := { frames := R.frames, locals := R.locals, cells := 3, slots := nb + 10 }) (Nat.le_refl _) (Nat.le_refl _) hRcells hRslots
  have hhp : ((T.setVm s.vm).setFrames (.invoking m args :: below)).heap = H := hT
  have hW0 : s.WarmedH ((T.setVm s.vm).setFrames (.invoking m args :: below)).vm := State.WarmedH.refl s
  have hat' : ∀ w ∈ vx_atM cls names, w.before args ((T.setVm s.vm).setFrames (.invoking m args :: below)) = true := fun w hw => vx_ot_at hW0 rfl (hgood w hw) (hat w hw)
  have hU' : vx_Zq Bundle.tN "UNASSIGNED_STACK" Bundle.steD A ((T.setVm s.vm).setFrames (.invoking m args :: below)) ((T.setVm s.vm).setFrames (.invoking m args :: below)).heap := by rw [hhp]; exact vx_Zq.moved hW0.alike (hU.kept hS.2.1)
  have hN' : vx_Zq Bundle.tN "SUPPRESSED_SENTINEL" Bundle.listD A ((T.setVm s.vm).setFrames (.invoking m args :: below)) ((T.setVm s.vm).setFrames (.invoking m args :: below)).heap := by rw [hhp]; exact vx_Zq.moved hW0.alike (hN.kept hS.2.1)
  obtain ⟨S, q, ce, st, Z, hce, hcl', hv⟩ := vx_vmAt Y hexec htr (cls := cls) (names := names) (text := text) hcls hnames hsoe hoom (vx_own hat' (vx_isRefq hU'.1) (vx_isRefq hN'.1) hU'.2.word hN'.2.word) (fun x hx => nomatch hx) htext
    (by rw [Launch.admits_arrayLengthLimit X.admits]; omega) (by rw [Launch.admits_maxHeapBytes X.admits]; simp only [componentBytes]; omega)
    (g := F0 m pc ls rest) rfl hsize hRframes (by show 2 * 0 + (rest.map fun v => v.category).sum + 10240 ≤ R.locals; omega) hshort (by show 0 + 3 ≤ 3; omega) (by show 0 + (_ + 4 + 6) ≤ nb + 10; omega) hlocks
  obtain ⟨f1, f2⟩ := vx_frame Z.same
  have f1' : H.size ≤ S.heap.size := by rw [← hT]; exact f1
  have f2' : ∀ q : Nat, q < H.size → S.heap[q]? = H[q]? := fun q hq => by
    rw [← hT]
    exact f2 q (by rw [← hT] at hq; exact hq) (fun z hz => nomatch hz)
  have X5 := vx_back9 X Y Z
  have X6 : Stand p l e R s m args below meth c S locs (cells + 3) (slots + (nb + 10)) := { X5 with same := X5.same.mono (by omega) (by omega) }
  obtain ⟨t, a1, b1⟩ := k S.heap q ce f1' f2' ⟨Nat.le_trans hS.1 f1', fun q h1 h2 => (f2' q (Nat.lt_of_lt_of_le h1 hS.1)).trans (hS.2.1 q h1 h2), hS.2.2⟩ hce hv hcl' S rfl X6
  exact ⟨t, st t a1, b1⟩
/-- from the machine's note that NullPointerException is thrown here -/
def vx_NoteN (p : Program) (l : Launch) (e : Env) (R : Room) (s : State) (m : MethodId) (args : Array Value) (below : List Frame) (meth : Method) (c : Code) (H : Heap) (locs : List Loc) (cells slots : Nat) (Q : State → Prop) (g : JFrame) : Prop :=
  ∀ T : State, T.heap = H → Stand p l e R s m args below meth c T locs cells slots → ∃ t, Steps p.tables e below ((T.setTop g).pushFrame (.throwNew "java/lang/NullPointerException" none none)) t ∧ Q t
theorem vx_npe {pc : Nat} {ls : Array Slot} {rest : List Value} {Q : State → Prop} (hexec : p.tables.exec = Jvm.exec) (hl : l.stackTraces = false) {nb : Nat} {A : Nat → Prop}
    (hat : ∀ w ∈ vx_atN nb, w.before args s = true) (hgood : ∀ w ∈ vx_atN nb, vx_ot w = true)
    (hU : vx_Zq Bundle.tN "UNASSIGNED_STACK" Bundle.steD A s s.heap) (hN : vx_Zq Bundle.tN "SUPPRESSED_SENTINEL" Bundle.listD A s s.heap) (hS : va_S A s.heap H locs) (hsize : ls.size = c.maxLocals)
    (hRframes : 7 < R.frames) (hRlocals : (rest.map fun v => v.category).sum + 10240 ≤ R.locals) (hRcells : cells + 1 ≤ R.cells) (hRslots : slots + nb ≤ R.slots) (hlocks : meth.locks = false)
    (k : ∀ (H1 : Heap) (q9 : Addr) (ce : Cell), H.size ≤ H1.size → (∀ q : Nat, q < H.size → H1[q]? = H[q]?) → va_S A s.heap H1 locs → H1[q9]? = some ce → ce.vm = .none → s.vm.findClass "java/lang/NullPointerException" = some ce.cls → vx_W p l e R s m args below meth c H1 locs (cells + 1) (slots + nb) Q (F0 m pc ls rest) q9) :
    vx_NoteN p l e R s m args below meth c H locs cells slots Q (F0 m pc ls rest) := by
  intro T hT X
  have htr : e.platform.stackTraces = false := (show e.platform.stackTraces = l.stackTraces by rw [X.admits.platform]).trans hl
  have Y := vx_rebase X (R' := { frames := R.frames, locals := R.locals, cells := 1, slots := nb }) (Nat.le_refl _) (Nat.le_refl _) hRcells hRslots
  have hhp : ((T.setVm s.vm).setFrames (.invoking m args :: below)).heap = H := hT
  have hW0 : s.WarmedH ((T.setVm s.vm).setFrames (.invoking m args :: below)).vm := State.WarmedH.refl s
  have hat' : ∀ w ∈ vx_atN nb, w.before args ((T.setVm s.vm).setFrames (.invoking m args :: below)) = true := fun w hw => vx_ot_at hW0 rfl (hgood w hw) (hat w hw)
  have hU' : vx_Zq Bundle.tN "UNASSIGNED_STACK" Bundle.steD A ((T.setVm s.vm).setFrames (.invoking m args :: below)) ((T.setVm s.vm).setFrames (.invoking m args :: below)).heap := by rw [hhp]; exact vx_Zq.moved hW0.alike (hU.kept hS.2.1)
  have hN' : vx_Zq Bundle.tN "SUPPRESSED_SENTINEL" Bundle.listD A ((T.setVm s.vm).setFrames (.invoking m args :: below)) ((T.setVm s.vm).setFrames (.invoking m args :: below)).heap := by rw [hhp]; exact vx_Zq.moved hW0.alike (hN.kept hS.2.1)
  obtain ⟨S, q, ce, st, Z, hce, hcl', hv⟩ := vx_npeAt Y hexec htr (n := nb) (vx_own hat' (vx_isRefq hU'.1) (vx_isRefq hN'.1) hU'.2.word hN'.2.word) (fun x hx => nomatch hx)
    (g := F0 m pc ls rest) rfl hsize hRframes (by show 2 * 0 + (rest.map fun v => v.category).sum + 10240 ≤ R.locals; omega) (by show 0 + 1 ≤ 1; omega) (by show 0 + nb ≤ nb; omega) hlocks
  obtain ⟨f1, f2⟩ := vx_frame Z.same
  have f1' : H.size ≤ S.heap.size := by rw [← hT]; exact f1
  have f2' : ∀ q : Nat, q < H.size → S.heap[q]? = H[q]? := fun q hq => by
    rw [← hT]
    exact f2 q (by rw [← hT] at hq; exact hq) (fun z hz => nomatch hz)
  have X5 := vx_back9 X Y Z
  have X6 : Stand p l e R s m args below meth c S locs (cells + 1) (slots + nb) := { X5 with same := X5.same.mono (by omega) (by omega) }
  obtain ⟨t, a1, b1⟩ := k S.heap q ce f1' f2' ⟨Nat.le_trans hS.1 f1', fun q h1 h2 => (f2' q (Nat.lt_of_lt_of_le h1 hS.1)).trans (hS.2.1 q h1 h2), hS.2.2⟩ hce hv hcl' S rfl X6
  exact ⟨t, st t a1, b1⟩
variable {Q : State → Prop} {cc : ByteArray} {pc : Nat} {ls : Array Slot} {rest : List Value}
theorem vx_idivZ (hexec : p.tables.exec = Jvm.exec) (hb : c.code = cc) {a b : Int32} (h0 : b = 0) (d : decode cc pc = .ok (.idiv, 1)) (k : vx_Note p l e R s m args below meth c H locs cells slots Q (F0 m pc ls rest) "java/lang/ArithmeticException" "/ by zero") :
    W p l e R s m args below meth c H locs cells slots Q (F0 m pc ls (.int b :: .int a :: rest)) := by
  intro T hT X
  obtain ⟨t, st, q⟩ := k T hT X
  exact ⟨t, X.idivZero hexec (g := F0 m pc ls (.int b :: .int a :: rest)) rfl (a := a) (rest := rest) (by rw [h0]) (by rw [hb]; exact d) t st, q⟩
theorem vx_iremZ (hexec : p.tables.exec = Jvm.exec) (hb : c.code = cc) {a b : Int32} (h0 : b = 0) (d : decode cc pc = .ok (.irem, 1)) (k : vx_Note p l e R s m args below meth c H locs cells slots Q (F0 m pc ls rest) "java/lang/ArithmeticException" "/ by zero") :
    W p l e R s m args below meth c H locs cells slots Q (F0 m pc ls (.int b :: .int a :: rest)) := by
  intro T hT X
  obtain ⟨t, st, q⟩ := k T hT X
  exact ⟨t, X.iremZero hexec (g := F0 m pc ls (.int b :: .int a :: rest)) rfl (a := a) (rest := rest) (by rw [h0]) (by rw [hb]; exact d) t st, q⟩
theorem vx_ldivZ (hexec : p.tables.exec = Jvm.exec) (hb : c.code = cc) {a b : Int64} (h0 : b = 0) (d : decode cc pc = .ok (.ldiv, 1)) (k : vx_Note p l e R s m args below meth c H locs cells slots Q (F0 m pc ls rest) "java/lang/ArithmeticException" "/ by zero") :
    W p l e R s m args below meth c H locs cells slots Q (F0 m pc ls (.long b :: .long a :: rest)) := by
  intro T hT X
  obtain ⟨t, st, q⟩ := k T hT X
  exact ⟨t, X.ldivZero hexec (g := F0 m pc ls (.long b :: .long a :: rest)) rfl (a := a) (rest := rest) (by rw [h0]) (by rw [hb]; exact d) t st, q⟩
theorem vx_lremZ (hexec : p.tables.exec = Jvm.exec) (hb : c.code = cc) {a b : Int64} (h0 : b = 0) (d : decode cc pc = .ok (.lrem, 1)) (k : vx_Note p l e R s m args below meth c H locs cells slots Q (F0 m pc ls rest) "java/lang/ArithmeticException" "/ by zero") :
    W p l e R s m args below meth c H locs cells slots Q (F0 m pc ls (.long b :: .long a :: rest)) := by
  intro T hT X
  obtain ⟨t, st, q⟩ := k T hT X
  exact ⟨t, X.lremZero hexec (g := F0 m pc ls (.long b :: .long a :: rest)) rfl (a := a) (rest := rest) (by rw [h0]) (by rw [hb]; exact d) t st, q⟩
theorem vx_ialdZ {D : va_G} {cl : List vw_C} {ws : va_W} {tys : List (ClassId × FieldType)} {a : Nat} (hexec : p.tables.exec = Jvm.exec) (hb : c.code = cc) (hK : va_K D cl tys s) (hP : va_P D cl ws H) (q0 t0 : Nat) {cA : ClassId} {n : Nat} {f : Nat → Int32} (ha : ws[q0]? = some (a, .inl (cA, n, .inl f))) (ht : tys[t0]? = some (cA, .int)) {i : Int32} (hout : ¬ vp_in i n) (hdg : decode cc pc = .ok (.iaload, 1))
    (k : ∀ tx : String, tx = (toString "Index " ++ toString i ++ toString " out of bounds for length " ++ toString n : String) → vx_Note p l e R s m args below meth c H locs cells slots Q (F0 m pc ls rest) "java/lang/ArrayIndexOutOfBoundsException" tx) : W p l e R s m args below meth c H locs cells slots Q (F0 m pc ls (.int i :: .ref a :: rest)) := by
  intro T hT X
  obtain ⟨t, st, q⟩ := k _ rfl T hT X
  refine ⟨t, ?_, q⟩
  have h1 := X.ialoadOut hexec (by rw [hT]; exact hP q0 _ ha) ((hK.2 t0 _ ht).1 n (fun j => .int (f j))) (j := i) (by show (i < 0 ∨ (arrV _ _ _).slots.size ≤ _); rw [arrV_size]; exact Classical.byContradiction hout) (g := F0 m pc ls (.int i :: .ref a :: rest)) rfl (rest := rest) rfl (by rw [hb]; exact hdg) t
  simp only [arrV_size] at h1
  exact h1 st
theorem vx_iastZ {D : va_G} {cl : List vw_C} {ws : va_W} {tys : List (ClassId × FieldType)} {a : Nat} (hexec : p.tables.exec = Jvm.exec) (hb : c.code = cc) (hK : va_K D cl tys s) (hP : va_P D cl ws H) (q0 t0 : Nat) {cA : ClassId} {n : Nat} {f : Nat → Int32} (ha : ws[q0]? = some (a, .inl (cA, n, .inl f))) (ht : tys[t0]? = some (cA, .int)) {i : Int32} {x : Int32} (hout : ¬ vp_in i n) (hdg : decode cc pc = .ok (.iastore, 1))
    (k : ∀ tx : String, tx = (toString "Index " ++ toString i ++ toString " out of bounds for length " ++ toString n : String) → vx_Note p l e R s m args below meth c H locs cells slots Q (F0 m pc ls rest) "java/lang/ArrayIndexOutOfBoundsException" tx) : W p l e R s m args below meth c H locs cells slots Q (F0 m pc ls (.int x :: .int i :: .ref a :: rest)) := by
  intro T hT X
  obtain ⟨t, st, q⟩ := k _ rfl T hT X
  refine ⟨t, ?_, q⟩
  have h1 := X.iastoreOut hexec (by rw [hT]; exact hP q0 _ ha) ((hK.2 t0 _ ht).1 n (fun j => .int (f j))) (j := i) (by show (i < 0 ∨ (arrV _ _ _).slots.size ≤ _); rw [arrV_size]; exact Classical.byContradiction hout) (g := F0 m pc ls (.int x :: .int i :: .ref a :: rest)) rfl (rest := rest) rfl (by rw [hb]; exact hdg) t
  simp only [arrV_size] at h1
  exact h1 st
theorem vx_baldZ {D : va_G} {cl : List vw_C} {ws : va_W} {tys : List (ClassId × FieldType)} {a : Nat} (hexec : p.tables.exec = Jvm.exec) (hb : c.code = cc) (hK : va_K D cl tys s) (hP : va_P D cl ws H) (q0 t0 : Nat) {cA : ClassId} {n : Nat} {f : Nat → Int32} (ha : ws[q0]? = some (a, .inl (cA, n, .inl f))) (ht : tys[t0]? = some (cA, .byte)) {i : Int32} (hout : ¬ vp_in i n) (hdg : decode cc pc = .ok (.baload, 1))
    (k : ∀ tx : String, tx = (toString "Index " ++ toString i ++ toString " out of bounds for length " ++ toString n : String) → vx_Note p l e R s m args below meth c H locs cells slots Q (F0 m pc ls rest) "java/lang/ArrayIndexOutOfBoundsException" tx) : W p l e R s m args below meth c H locs cells slots Q (F0 m pc ls (.int i :: .ref a :: rest)) := by
  intro T hT X
  obtain ⟨t, st, q⟩ := k _ rfl T hT X
  refine ⟨t, ?_, q⟩
  have h1 := X.baloadOut hexec (by rw [hT]; exact hP q0 _ ha) ((hK.2 t0 _ ht).1 n (fun j => .int (f j))) (j := i) (by show (i < 0 ∨ (arrV _ _ _).slots.size ≤ _); rw [arrV_size]; exact Classical.byContradiction hout) (g := F0 m pc ls (.int i :: .ref a :: rest)) rfl (rest := rest) rfl (by rw [hb]; exact hdg) t
  simp only [arrV_size] at h1
  exact h1 st
theorem vx_bastZ {D : va_G} {cl : List vw_C} {ws : va_W} {tys : List (ClassId × FieldType)} {a : Nat} (hexec : p.tables.exec = Jvm.exec) (hb : c.code = cc) (hK : va_K D cl tys s) (hP : va_P D cl ws H) (q0 t0 : Nat) {cA : ClassId} {n : Nat} {f : Nat → Int32} (ha : ws[q0]? = some (a, .inl (cA, n, .inl f))) (ht : tys[t0]? = some (cA, .byte)) {i : Int32} {x : Int32} (hout : ¬ vp_in i n) (hdg : decode cc pc = .ok (.bastore, 1))
    (k : ∀ tx : String, tx = (toString "Index " ++ toString i ++ toString " out of bounds for length " ++ toString n : String) → vx_Note p l e R s m args below meth c H locs cells slots Q (F0 m pc ls rest) "java/lang/ArrayIndexOutOfBoundsException" tx) : W p l e R s m args below meth c H locs cells slots Q (F0 m pc ls (.int x :: .int i :: .ref a :: rest)) := by
  intro T hT X
  obtain ⟨t, st, q⟩ := k _ rfl T hT X
  refine ⟨t, ?_, q⟩
  have h1 := X.bastoreOut hexec (by rw [hT]; exact hP q0 _ ha) ((hK.2 t0 _ ht).1 n (fun j => .int (f j))) (j := i) (by show (i < 0 ∨ (arrV _ _ _).slots.size ≤ _); rw [arrV_size]; exact Classical.byContradiction hout) (g := F0 m pc ls (.int x :: .int i :: .ref a :: rest)) rfl (rest := rest) rfl (by rw [hb]; exact hdg) t
  simp only [arrV_size] at h1
  exact h1 st
theorem vx_zaldZ {D : va_G} {cl : List vw_C} {ws : va_W} {tys : List (ClassId × FieldType)} {a : Nat} (hexec : p.tables.exec = Jvm.exec) (hb : c.code = cc) (hK : va_K D cl tys s) (hP : va_P D cl ws H) (q0 t0 : Nat) {cA : ClassId} {n : Nat} {f : Nat → Int32} (ha : ws[q0]? = some (a, .inl (cA, n, .inl f))) (ht : tys[t0]? = some (cA, .boolean)) {i : Int32} (hout : ¬ vp_in i n) (hdg : decode cc pc = .ok (.baload, 1))
    (k : ∀ tx : String, tx = (toString "Index " ++ toString i ++ toString " out of bounds for length " ++ toString n : String) → vx_Note p l e R s m args below meth c H locs cells slots Q (F0 m pc ls rest) "java/lang/ArrayIndexOutOfBoundsException" tx) : W p l e R s m args below meth c H locs cells slots Q (F0 m pc ls (.int i :: .ref a :: rest)) := by
  intro T hT X
  obtain ⟨t, st, q⟩ := k _ rfl T hT X
  refine ⟨t, ?_, q⟩
  have h1 := X.baloadOut hexec (by rw [hT]; exact hP q0 _ ha) ((hK.2 t0 _ ht).1 n (fun j => .int (f j))) (j := i) (by show (i < 0 ∨ (arrV _ _ _).slots.size ≤ _); rw [arrV_size]; exact Classical.byContradiction hout) (g := F0 m pc ls (.int i :: .ref a :: rest)) rfl (rest := rest) rfl (by rw [hb]; exact hdg) t
  simp only [arrV_size] at h1
  exact h1 st
theorem vx_zastZ {D : va_G} {cl : List vw_C} {ws : va_W} {tys : List (ClassId × FieldType)} {a : Nat} (hexec : p.tables.exec = Jvm.exec) (hb : c.code = cc) (hK : va_K D cl tys s) (hP : va_P D cl ws H) (q0 t0 : Nat) {cA : ClassId} {n : Nat} {f : Nat → Int32} (ha : ws[q0]? = some (a, .inl (cA, n, .inl f))) (ht : tys[t0]? = some (cA, .boolean)) {i : Int32} {x : Int32} (hout : ¬ vp_in i n) (hdg : decode cc pc = .ok (.bastore, 1))
    (k : ∀ tx : String, tx = (toString "Index " ++ toString i ++ toString " out of bounds for length " ++ toString n : String) → vx_Note p l e R s m args below meth c H locs cells slots Q (F0 m pc ls rest) "java/lang/ArrayIndexOutOfBoundsException" tx) : W p l e R s m args below meth c H locs cells slots Q (F0 m pc ls (.int x :: .int i :: .ref a :: rest)) := by
  intro T hT X
  obtain ⟨t, st, q⟩ := k _ rfl T hT X
  refine ⟨t, ?_, q⟩
  have h1 := X.bastoreOut hexec (by rw [hT]; exact hP q0 _ ha) ((hK.2 t0 _ ht).1 n (fun j => .int (f j))) (j := i) (by show (i < 0 ∨ (arrV _ _ _).slots.size ≤ _); rw [arrV_size]; exact Classical.byContradiction hout) (g := F0 m pc ls (.int x :: .int i :: .ref a :: rest)) rfl (rest := rest) rfl (by rw [hb]; exact hdg) t
  simp only [arrV_size] at h1
  exact h1 st
theorem vx_caldZ {D : va_G} {cl : List vw_C} {ws : va_W} {tys : List (ClassId × FieldType)} {a : Nat} (hexec : p.tables.exec = Jvm.exec) (hb : c.code = cc) (hK : va_K D cl tys s) (hP : va_P D cl ws H) (q0 t0 : Nat) {cA : ClassId} {n : Nat} {f : Nat → Int32} (ha : ws[q0]? = some (a, .inl (cA, n, .inl f))) (ht : tys[t0]? = some (cA, .char)) {i : Int32} (hout : ¬ vp_in i n) (hdg : decode cc pc = .ok (.caload, 1))
    (k : ∀ tx : String, tx = (toString "Index " ++ toString i ++ toString " out of bounds for length " ++ toString n : String) → vx_Note p l e R s m args below meth c H locs cells slots Q (F0 m pc ls rest) "java/lang/ArrayIndexOutOfBoundsException" tx) : W p l e R s m args below meth c H locs cells slots Q (F0 m pc ls (.int i :: .ref a :: rest)) := by
  intro T hT X
  obtain ⟨t, st, q⟩ := k _ rfl T hT X
  refine ⟨t, ?_, q⟩
  have h1 := X.caloadOut hexec (by rw [hT]; exact hP q0 _ ha) ((hK.2 t0 _ ht).1 n (fun j => .int (f j))) (j := i) (by show (i < 0 ∨ (arrV _ _ _).slots.size ≤ _); rw [arrV_size]; exact Classical.byContradiction hout) (g := F0 m pc ls (.int i :: .ref a :: rest)) rfl (rest := rest) rfl (by rw [hb]; exact hdg) t
  simp only [arrV_size] at h1
  exact h1 st
theorem vx_castZ {D : va_G} {cl : List vw_C} {ws : va_W} {tys : List (ClassId × FieldType)} {a : Nat} (hexec : p.tables.exec = Jvm.exec) (hb : c.code = cc) (hK : va_K D cl tys s) (hP : va_P D cl ws H) (q0 t0 : Nat) {cA : ClassId} {n : Nat} {f : Nat → Int32} (ha : ws[q0]? = some (a, .inl (cA, n, .inl f))) (ht : tys[t0]? = some (cA, .char)) {i : Int32} {x : Int32} (hout : ¬ vp_in i n) (hdg : decode cc pc = .ok (.castore, 1))
    (k : ∀ tx : String, tx = (toString "Index " ++ toString i ++ toString " out of bounds for length " ++ toString n : String) → vx_Note p l e R s m args below meth c H locs cells slots Q (F0 m pc ls rest) "java/lang/ArrayIndexOutOfBoundsException" tx) : W p l e R s m args below meth c H locs cells slots Q (F0 m pc ls (.int x :: .int i :: .ref a :: rest)) := by
  intro T hT X
  obtain ⟨t, st, q⟩ := k _ rfl T hT X
  refine ⟨t, ?_, q⟩
  have h1 := X.castoreOut hexec (by rw [hT]; exact hP q0 _ ha) ((hK.2 t0 _ ht).1 n (fun j => .int (f j))) (j := i) (by show (i < 0 ∨ (arrV _ _ _).slots.size ≤ _); rw [arrV_size]; exact Classical.byContradiction hout) (g := F0 m pc ls (.int x :: .int i :: .ref a :: rest)) rfl (rest := rest) rfl (by rw [hb]; exact hdg) t
  simp only [arrV_size] at h1
  exact h1 st
theorem vx_saldZ {D : va_G} {cl : List vw_C} {ws : va_W} {tys : List (ClassId × FieldType)} {a : Nat} (hexec : p.tables.exec = Jvm.exec) (hb : c.code = cc) (hK : va_K D cl tys s) (hP : va_P D cl ws H) (q0 t0 : Nat) {cA : ClassId} {n : Nat} {f : Nat → Int32} (ha : ws[q0]? = some (a, .inl (cA, n, .inl f))) (ht : tys[t0]? = some (cA, .short)) {i : Int32} (hout : ¬ vp_in i n) (hdg : decode cc pc = .ok (.saload, 1))
    (k : ∀ tx : String, tx = (toString "Index " ++ toString i ++ toString " out of bounds for length " ++ toString n : String) → vx_Note p l e R s m args below meth c H locs cells slots Q (F0 m pc ls rest) "java/lang/ArrayIndexOutOfBoundsException" tx) : W p l e R s m args below meth c H locs cells slots Q (F0 m pc ls (.int i :: .ref a :: rest)) := by
  intro T hT X
  obtain ⟨t, st, q⟩ := k _ rfl T hT X
  refine ⟨t, ?_, q⟩
  have h1 := X.saloadOut hexec (by rw [hT]; exact hP q0 _ ha) ((hK.2 t0 _ ht).1 n (fun j => .int (f j))) (j := i) (by show (i < 0 ∨ (arrV _ _ _).slots.size ≤ _); rw [arrV_size]; exact Classical.byContradiction hout) (g := F0 m pc ls (.int i :: .ref a :: rest)) rfl (rest := rest) rfl (by rw [hb]; exact hdg) t
  simp only [arrV_size] at h1
  exact h1 st
theorem vx_sastZ {D : va_G} {cl : List vw_C} {ws : va_W} {tys : List (ClassId × FieldType)} {a : Nat} (hexec : p.tables.exec = Jvm.exec) (hb : c.code = cc) (hK : va_K D cl tys s) (hP : va_P D cl ws H) (q0 t0 : Nat) {cA : ClassId} {n : Nat} {f : Nat → Int32} (ha : ws[q0]? = some (a, .inl (cA, n, .inl f))) (ht : tys[t0]? = some (cA, .short)) {i : Int32} {x : Int32} (hout : ¬ vp_in i n) (hdg : decode cc pc = .ok (.sastore, 1))
    (k : ∀ tx : String, tx = (toString "Index " ++ toString i ++ toString " out of bounds for length " ++ toString n : String) → vx_Note p l e R s m args below meth c H locs cells slots Q (F0 m pc ls rest) "java/lang/ArrayIndexOutOfBoundsException" tx) : W p l e R s m args below meth c H locs cells slots Q (F0 m pc ls (.int x :: .int i :: .ref a :: rest)) := by
  intro T hT X
  obtain ⟨t, st, q⟩ := k _ rfl T hT X
  refine ⟨t, ?_, q⟩
  have h1 := X.sastoreOut hexec (by rw [hT]; exact hP q0 _ ha) ((hK.2 t0 _ ht).1 n (fun j => .int (f j))) (j := i) (by show (i < 0 ∨ (arrV _ _ _).slots.size ≤ _); rw [arrV_size]; exact Classical.byContradiction hout) (g := F0 m pc ls (.int x :: .int i :: .ref a :: rest)) rfl (rest := rest) rfl (by rw [hb]; exact hdg) t
  simp only [arrV_size] at h1
  exact h1 st
theorem vx_laldZ {D : va_G} {cl : List vw_C} {ws : va_W} {tys : List (ClassId × FieldType)} {a : Nat} (hexec : p.tables.exec = Jvm.exec) (hb : c.code = cc) (hK : va_K D cl tys s) (hP : va_P D cl ws H) (q0 t0 : Nat) {cA : ClassId} {n : Nat} {f : Nat → Int64} (ha : ws[q0]? = some (a, .inl (cA, n, .inr (.inl f)))) (ht : tys[t0]? = some (cA, .long)) {i : Int32} (hout : ¬ vp_in i n) (hdg : decode cc pc = .ok (.laload, 1))
    (k : ∀ tx : String, tx = (toString "Index " ++ toString i ++ toString " out of bounds for length " ++ toString n : String) → vx_Note p l e R s m args below meth c H locs cells slots Q (F0 m pc ls rest) "java/lang/ArrayIndexOutOfBoundsException" tx) : W p l e R s m args below meth c H locs cells slots Q (F0 m pc ls (.int i :: .ref a :: rest)) := by
  intro T hT X
  obtain ⟨t, st, q⟩ := k _ rfl T hT X
  refine ⟨t, ?_, q⟩
  have h1 := X.laloadOut hexec (by rw [hT]; exact hP q0 _ ha) ((hK.2 t0 _ ht).1 n (fun j => .long (f j))) (j := i) (by show (i < 0 ∨ (arrV _ _ _).slots.size ≤ _); rw [arrV_size]; exact Classical.byContradiction hout) (g := F0 m pc ls (.int i :: .ref a :: rest)) rfl (rest := rest) rfl (by rw [hb]; exact hdg) t
  simp only [arrV_size] at h1
  exact h1 st
theorem vx_lastZ {D : va_G} {cl : List vw_C} {ws : va_W} {tys : List (ClassId × FieldType)} {a : Nat} (hexec : p.tables.exec = Jvm.exec) (hb : c.code = cc) (hK : va_K D cl tys s) (hP : va_P D cl ws H) (q0 t0 : Nat) {cA : ClassId} {n : Nat} {f : Nat → Int64} (ha : ws[q0]? = some (a, .inl (cA, n, .inr (.inl f)))) (ht : tys[t0]? = some (cA, .long)) {i : Int32} {x : Int64} (hout : ¬ vp_in i n) (hdg : decode cc pc = .ok (.lastore, 1))
    (k : ∀ tx : String, tx = (toString "Index " ++ toString i ++ toString " out of bounds for length " ++ toString n : String) → vx_Note p l e R s m args below meth c H locs cells slots Q (F0 m pc ls rest) "java/lang/ArrayIndexOutOfBoundsException" tx) : W p l e R s m args below meth c H locs cells slots Q (F0 m pc ls (.long x :: .int i :: .ref a :: rest)) := by
  intro T hT X
  obtain ⟨t, st, q⟩ := k _ rfl T hT X
  refine ⟨t, ?_, q⟩
  have h1 := X.lastoreOut hexec (by rw [hT]; exact hP q0 _ ha) ((hK.2 t0 _ ht).1 n (fun j => .long (f j))) (j := i) (by show (i < 0 ∨ (arrV _ _ _).slots.size ≤ _); rw [arrV_size]; exact Classical.byContradiction hout) (g := F0 m pc ls (.long x :: .int i :: .ref a :: rest)) rfl (rest := rest) rfl (by rw [hb]; exact hdg) t
  simp only [arrV_size] at h1
  exact h1 st
theorem vx_faldZ {D : va_G} {cl : List vw_C} {ws : va_W} {tys : List (ClassId × FieldType)} {a : Nat} (hexec : p.tables.exec = Jvm.exec) (hb : c.code = cc) (hK : va_K D cl tys s) (hP : va_P D cl ws H) (q0 t0 : Nat) {cA : ClassId} {n : Nat} {f : Nat → UInt32} (ha : ws[q0]? = some (a, .inl (cA, n, .inr (.inr (.inl f))))) (ht : tys[t0]? = some (cA, .float)) {i : Int32} (hout : ¬ vp_in i n) (hdg : decode cc pc = .ok (.faload, 1))
    (k : ∀ tx : String, tx = (toString "Index " ++ toString i ++ toString " out of bounds for length " ++ toString n : String) → vx_Note p l e R s m args below meth c H locs cells slots Q (F0 m pc ls rest) "java/lang/ArrayIndexOutOfBoundsException" tx) : W p l e R s m args below meth c H locs cells slots Q (F0 m pc ls (.int i :: .ref a :: rest)) := by
  intro T hT X
  obtain ⟨t, st, q⟩ := k _ rfl T hT X
  refine ⟨t, ?_, q⟩
  have h1 := X.faloadOut hexec (by rw [hT]; exact hP q0 _ ha) ((hK.2 t0 _ ht).1 n (fun j => .float (f j))) (j := i) (by show (i < 0 ∨ (arrV _ _ _).slots.size ≤ _); rw [arrV_size]; exact Classical.byContradiction hout) (g := F0 m pc ls (.int i :: .ref a :: rest)) rfl (rest := rest) rfl (by rw [hb]; exact hdg) t
  simp only [arrV_size] at h1
  exact h1 st
theorem vx_fastZ {D : va_G} {cl : List vw_C} {ws : va_W} {tys : List (ClassId × FieldType)} {a : Nat} (hexec : p.tables.exec = Jvm.exec) (hb : c.code = cc) (hK : va_K D cl tys s) (hP : va_P D cl ws H) (q0 t0 : Nat) {cA : ClassId} {n : Nat} {f : Nat → UInt32} (ha : ws[q0]? = some (a, .inl (cA, n, .inr (.inr (.inl f))))) (ht : tys[t0]? = some (cA, .float)) {i : Int32} {x : UInt32} (hout : ¬ vp_in i n) (hdg : decode cc pc = .ok (.fastore, 1))
    (k : ∀ tx : String, tx = (toString "Index " ++ toString i ++ toString " out of bounds for length " ++ toString n : String) → vx_Note p l e R s m args below meth c H locs cells slots Q (F0 m pc ls rest) "java/lang/ArrayIndexOutOfBoundsException" tx) : W p l e R s m args below meth c H locs cells slots Q (F0 m pc ls (.float x :: .int i :: .ref a :: rest)) := by
  intro T hT X
  obtain ⟨t, st, q⟩ := k _ rfl T hT X
  refine ⟨t, ?_, q⟩
  have h1 := X.fastoreOut hexec (by rw [hT]; exact hP q0 _ ha) ((hK.2 t0 _ ht).1 n (fun j => .float (f j))) (j := i) (by show (i < 0 ∨ (arrV _ _ _).slots.size ≤ _); rw [arrV_size]; exact Classical.byContradiction hout) (g := F0 m pc ls (.float x :: .int i :: .ref a :: rest)) rfl (rest := rest) rfl (by rw [hb]; exact hdg) t
  simp only [arrV_size] at h1
  exact h1 st
theorem vx_daldZ {D : va_G} {cl : List vw_C} {ws : va_W} {tys : List (ClassId × FieldType)} {a : Nat} (hexec : p.tables.exec = Jvm.exec) (hb : c.code = cc) (hK : va_K D cl tys s) (hP : va_P D cl ws H) (q0 t0 : Nat) {cA : ClassId} {n : Nat} {f : Nat → UInt64} (ha : ws[q0]? = some (a, .inl (cA, n, .inr (.inr (.inr (.inl f)))))) (ht : tys[t0]? = some (cA, .double)) {i : Int32} (hout : ¬ vp_in i n) (hdg : decode cc pc = .ok (.daload, 1))
    (k : ∀ tx : String, tx = (toString "Index " ++ toString i ++ toString " out of bounds for length " ++ toString n : String) → vx_Note p l e R s m args below meth c H locs cells slots Q (F0 m pc ls rest) "java/lang/ArrayIndexOutOfBoundsException" tx) : W p l e R s m args below meth c H locs cells slots Q (F0 m pc ls (.int i :: .ref a :: rest)) := by
  intro T hT X
  obtain ⟨t, st, q⟩ := k _ rfl T hT X
  refine ⟨t, ?_, q⟩
  have h1 := X.daloadOut hexec (by rw [hT]; exact hP q0 _ ha) ((hK.2 t0 _ ht).1 n (fun j => .double (f j))) (j := i) (by show (i < 0 ∨ (arrV _ _ _).slots.size ≤ _); rw [arrV_size]; exact Classical.byContradiction hout) (g := F0 m pc ls (.int i :: .ref a :: rest)) rfl (rest := rest) rfl (by rw [hb]; exact hdg) t
  simp only [arrV_size] at h1
  exact h1 st
theorem vx_dastZ {D : va_G} {cl : List vw_C} {ws : va_W} {tys : List (ClassId × FieldType)} {a : Nat} (hexec : p.tables.exec = Jvm.exec) (hb : c.code = cc) (hK : va_K D cl tys s) (hP : va_P D cl ws H) (q0 t0 : Nat) {cA : ClassId} {n : Nat} {f : Nat → UInt64} (ha : ws[q0]? = some (a, .inl (cA, n, .inr (.inr (.inr (.inl f)))))) (ht : tys[t0]? = some (cA, .double)) {i : Int32} {x : UInt64} (hout : ¬ vp_in i n) (hdg : decode cc pc = .ok (.dastore, 1))
    (k : ∀ tx : String, tx = (toString "Index " ++ toString i ++ toString " out of bounds for length " ++ toString n : String) → vx_Note p l e R s m args below meth c H locs cells slots Q (F0 m pc ls rest) "java/lang/ArrayIndexOutOfBoundsException" tx) : W p l e R s m args below meth c H locs cells slots Q (F0 m pc ls (.double x :: .int i :: .ref a :: rest)) := by
  intro T hT X
  obtain ⟨t, st, q⟩ := k _ rfl T hT X
  refine ⟨t, ?_, q⟩
  have h1 := X.dastoreOut hexec (by rw [hT]; exact hP q0 _ ha) ((hK.2 t0 _ ht).1 n (fun j => .double (f j))) (j := i) (by show (i < 0 ∨ (arrV _ _ _).slots.size ≤ _); rw [arrV_size]; exact Classical.byContradiction hout) (g := F0 m pc ls (.double x :: .int i :: .ref a :: rest)) rfl (rest := rest) rfl (by rw [hb]; exact hdg) t
  simp only [arrV_size] at h1
  exact h1 st
theorem vx_arraylengthN (hexec : p.tables.exec = Jvm.exec) (hb : c.code = cc) (hdg : decode cc pc = .ok (.arraylength, 1)) (k : vx_NoteN p l e R s m args below meth c H locs cells slots Q (F0 m pc ls rest)) : W p l e R s m args below meth c H locs cells slots Q (F0 m pc ls (.null :: rest)) := by
  intro T hT X
  obtain ⟨t, st, q⟩ := k T hT X
  exact ⟨t, X.arraylengthNull hexec (g := F0 m pc ls (.null :: rest)) rfl (rest := rest) rfl (by rw [hb]; exact hdg) t st, q⟩
theorem vx_ialoadN (hexec : p.tables.exec = Jvm.exec) (hb : c.code = cc) {i : Int32} (hdg : decode cc pc = .ok (.iaload, 1)) (k : vx_NoteN p l e R s m args below meth c H locs cells slots Q (F0 m pc ls rest)) : W p l e R s m args below meth c H locs cells slots Q (F0 m pc ls (.int i :: .null :: rest)) := by
  intro T hT X
  obtain ⟨t, st, q⟩ := k T hT X
  exact ⟨t, X.ialoadNull hexec (g := F0 m pc ls (.int i :: .null :: rest)) rfl (rest := rest) rfl (by rw [hb]; exact hdg) t st, q⟩
theorem vx_laloadN (hexec : p.tables.exec = Jvm.exec) (hb : c.code = cc) {i : Int32} (hdg : decode cc pc = .ok (.laload, 1)) (k : vx_NoteN p l e R s m args below meth c H locs cells slots Q (F0 m pc ls rest)) : W p l e R s m args below meth c H locs cells slots Q (F0 m pc ls (.int i :: .null :: rest)) := by
  intro T hT X
  obtain ⟨t, st, q⟩ := k T hT X
  exact ⟨t, X.laloadNull hexec (g := F0 m pc ls (.int i :: .null :: rest)) rfl (rest := rest) rfl (by rw [hb]; exact hdg) t st, q⟩
theorem vx_faloadN (hexec : p.tables.exec = Jvm.exec) (hb : c.code = cc) {i : Int32} (hdg : decode cc pc = .ok (.faload, 1)) (k : vx_NoteN p l e R s m args below meth c H locs cells slots Q (F0 m pc ls rest)) : W p l e R s m args below meth c H locs cells slots Q (F0 m pc ls (.int i :: .null :: rest)) := by
  intro T hT X
  obtain ⟨t, st, q⟩ := k T hT X
  exact ⟨t, X.faloadNull hexec (g := F0 m pc ls (.int i :: .null :: rest)) rfl (rest := rest) rfl (by rw [hb]; exact hdg) t st, q⟩
theorem vx_daloadN (hexec : p.tables.exec = Jvm.exec) (hb : c.code = cc) {i : Int32} (hdg : decode cc pc = .ok (.daload, 1)) (k : vx_NoteN p l e R s m args below meth c H locs cells slots Q (F0 m pc ls rest)) : W p l e R s m args below meth c H locs cells slots Q (F0 m pc ls (.int i :: .null :: rest)) := by
  intro T hT X
  obtain ⟨t, st, q⟩ := k T hT X
  exact ⟨t, X.daloadNull hexec (g := F0 m pc ls (.int i :: .null :: rest)) rfl (rest := rest) rfl (by rw [hb]; exact hdg) t st, q⟩
theorem vx_aaloadN (hexec : p.tables.exec = Jvm.exec) (hb : c.code = cc) {i : Int32} (hdg : decode cc pc = .ok (.aaload, 1)) (k : vx_NoteN p l e R s m args below meth c H locs cells slots Q (F0 m pc ls rest)) : W p l e R s m args below meth c H locs cells slots Q (F0 m pc ls (.int i :: .null :: rest)) := by
  intro T hT X
  obtain ⟨t, st, q⟩ := k T hT X
  exact ⟨t, X.aaloadNull hexec (g := F0 m pc ls (.int i :: .null :: rest)) rfl (rest := rest) rfl (by rw [hb]; exact hdg) t st, q⟩
theorem vx_baloadN (hexec : p.tables.exec = Jvm.exec) (hb : c.code = cc) {i : Int32} (hdg : decode cc pc = .ok (.baload, 1)) (k : vx_NoteN p l e R s m args below meth c H locs cells slots Q (F0 m pc ls rest)) : W p l e R s m args below meth c H locs cells slots Q (F0 m pc ls (.int i :: .null :: rest)) := by
  intro T hT X
  obtain ⟨t, st, q⟩ := k T hT X
  exact ⟨t, X.baloadNull hexec (g := F0 m pc ls (.int i :: .null :: rest)) rfl (rest := rest) rfl (by rw [hb]; exact hdg) t st, q⟩
theorem vx_caloadN (hexec : p.tables.exec = Jvm.exec) (hb : c.code = cc) {i : Int32} (hdg : decode cc pc = .ok (.caload, 1)) (k : vx_NoteN p l e R s m args below meth c H locs cells slots Q (F0 m pc ls rest)) : W p l e R s m args below meth c H locs cells slots Q (F0 m pc ls (.int i :: .null :: rest)) := by
  intro T hT X
  obtain ⟨t, st, q⟩ := k T hT X
  exact ⟨t, X.caloadNull hexec (g := F0 m pc ls (.int i :: .null :: rest)) rfl (rest := rest) rfl (by rw [hb]; exact hdg) t st, q⟩
theorem vx_saloadN (hexec : p.tables.exec = Jvm.exec) (hb : c.code = cc) {i : Int32} (hdg : decode cc pc = .ok (.saload, 1)) (k : vx_NoteN p l e R s m args below meth c H locs cells slots Q (F0 m pc ls rest)) : W p l e R s m args below meth c H locs cells slots Q (F0 m pc ls (.int i :: .null :: rest)) := by
  intro T hT X
  obtain ⟨t, st, q⟩ := k T hT X
  exact ⟨t, X.saloadNull hexec (g := F0 m pc ls (.int i :: .null :: rest)) rfl (rest := rest) rfl (by rw [hb]; exact hdg) t st, q⟩
theorem vx_iastoreN (hexec : p.tables.exec = Jvm.exec) (hb : c.code = cc) {x : Int32} {i : Int32} (hdg : decode cc pc = .ok (.iastore, 1)) (k : vx_NoteN p l e R s m args below meth c H locs cells slots Q (F0 m pc ls rest)) : W p l e R s m args below meth c H locs cells slots Q (F0 m pc ls (.int x :: .int i :: .null :: rest)) := by
  intro T hT X
  obtain ⟨t, st, q⟩ := k T hT X
  exact ⟨t, X.iastoreNull hexec (g := F0 m pc ls (.int x :: .int i :: .null :: rest)) rfl (rest := rest) rfl (by rw [hb]; exact hdg) t st, q⟩
theorem vx_lastoreN (hexec : p.tables.exec = Jvm.exec) (hb : c.code = cc) {x : Int64} {i : Int32} (hdg : decode cc pc = .ok (.lastore, 1)) (k : vx_NoteN p l e R s m args below meth c H locs cells slots Q (F0 m pc ls rest)) : W p l e R s m args below meth c H locs cells slots Q (F0 m pc ls (.long x :: .int i :: .null :: rest)) := by
  intro T hT X
  obtain ⟨t, st, q⟩ := k T hT X
  exact ⟨t, X.lastoreNull hexec (g := F0 m pc ls (.long x :: .int i :: .null :: rest)) rfl (rest := rest) rfl (by rw [hb]; exact hdg) t st, q⟩
theorem vx_fastoreN (hexec : p.tables.exec = Jvm.exec) (hb : c.code = cc) {x : UInt32} {i : Int32} (hdg : decode cc pc = .ok (.fastore, 1)) (k : vx_NoteN p l e R s m args below meth c H locs cells slots Q (F0 m pc ls rest)) : W p l e R s m args below meth c H locs cells slots Q (F0 m pc ls (.float x :: .int i :: .null :: rest)) := by
  intro T hT X
  obtain ⟨t, st, q⟩ := k T hT X
  exact ⟨t, X.fastoreNull hexec (g := F0 m pc ls (.float x :: .int i :: .null :: rest)) rfl (rest := rest) rfl (by rw [hb]; exact hdg) t st, q⟩
theorem vx_dastoreN (hexec : p.tables.exec = Jvm.exec) (hb : c.code = cc) {x : UInt64} {i : Int32} (hdg : decode cc pc = .ok (.dastore, 1)) (k : vx_NoteN p l e R s m args below meth c H locs cells slots Q (F0 m pc ls rest)) : W p l e R s m args below meth c H locs cells slots Q (F0 m pc ls (.double x :: .int i :: .null :: rest)) := by
  intro T hT X
  obtain ⟨t, st, q⟩ := k T hT X
  exact ⟨t, X.dastoreNull hexec (g := F0 m pc ls (.double x :: .int i :: .null :: rest)) rfl (rest := rest) rfl (by rw [hb]; exact hdg) t st, q⟩
theorem vx_bastoreN (hexec : p.tables.exec = Jvm.exec) (hb : c.code = cc) {x : Int32} {i : Int32} (hdg : decode cc pc = .ok (.bastore, 1)) (k : vx_NoteN p l e R s m args below meth c H locs cells slots Q (F0 m pc ls rest)) : W p l e R s m args below meth c H locs cells slots Q (F0 m pc ls (.int x :: .int i :: .null :: rest)) := by
  intro T hT X
  obtain ⟨t, st, q⟩ := k T hT X
  exact ⟨t, X.bastoreNull hexec (g := F0 m pc ls (.int x :: .int i :: .null :: rest)) rfl (rest := rest) rfl (by rw [hb]; exact hdg) t st, q⟩
theorem vx_castoreN (hexec : p.tables.exec = Jvm.exec) (hb : c.code = cc) {x : Int32} {i : Int32} (hdg : decode cc pc = .ok (.castore, 1)) (k : vx_NoteN p l e R s m args below meth c H locs cells slots Q (F0 m pc ls rest)) : W p l e R s m args below meth c H locs cells slots Q (F0 m pc ls (.int x :: .int i :: .null :: rest)) := by
  intro T hT X
  obtain ⟨t, st, q⟩ := k T hT X
  exact ⟨t, X.castoreNull hexec (g := F0 m pc ls (.int x :: .int i :: .null :: rest)) rfl (rest := rest) rfl (by rw [hb]; exact hdg) t st, q⟩
theorem vx_sastoreN (hexec : p.tables.exec = Jvm.exec) (hb : c.code = cc) {x : Int32} {i : Int32} (hdg : decode cc pc = .ok (.sastore, 1)) (k : vx_NoteN p l e R s m args below meth c H locs cells slots Q (F0 m pc ls rest)) : W p l e R s m args below meth c H locs cells slots Q (F0 m pc ls (.int x :: .int i :: .null :: rest)) := by
  intro T hT X
  obtain ⟨t, st, q⟩ := k T hT X
  exact ⟨t, X.sastoreNull hexec (g := F0 m pc ls (.int x :: .int i :: .null :: rest)) rfl (rest := rest) rfl (by rw [hb]; exact hdg) t st, q⟩
theorem vx_invokeN {own C : String} {index maxL : Nat} {y : MethodName} {bytes : ByteArray} {ret : Option FieldType} (hexec : p.tables.exec = Jvm.exec) (hb : c.code = cc) (hown : s.vm.findClass own = some m.cls) (hlink : (Cond.methodLink own index y).before args s = true) (hinst : (Cond.instanceMethod y).before args s = true) (hcode : (Cond.code y bytes maxL ret).before args s = true) (hsel : (Cond.selects C y y).before args s = true)
    (hx : y.cls ≠ "java/lang/invoke/MethodHandle" ∧ y.cls ≠ "java/lang/invoke/VarHandle") {As : List Value} (hlen : (parseMethodDescriptor y.desc).map (fun d => d.parameters.length) = some As.length) (hdg : decode cc pc = .ok (.invokevirtual index, 3))
    (k : vx_NoteN p l e R s m args below meth c H locs cells slots Q (F0 m pc ls rest)) {st0 : List Value} (hst : st0 = As.reverse ++ .null :: rest) : W p l e R s m args below meth c H locs cells slots Q (F0 m pc ls st0) := by
  intro T hT X
  obtain ⟨r0, r, hn, hrm, hstR, hsigR⟩ := va_Decl.of hinst hcode
  obtain ⟨c2, r2, m2, q1, q2, q3, q4, kP, hkP, hkPi⟩ := Cond.selects_spec hsel
  cases hn.symm.trans q3
  have hl9 : As.length = r.sig.parameters.length := by
    rw [hsigR] at hlen
    exact (Option.some.inj hlen).symm
  obtain ⟨vm', X1, st1⟩ := X.invokevirtualNull hexec hown hlink hn hrm hstR hkP hkPi hx (g := F0 m pc ls st0) rfl (argsL := As) (rest := rest) hl9 hst (by rw [hb]; exact hdg)
  obtain ⟨t, st, q⟩ := k (T.setVm vm') hT X1
  exact ⟨t, st1 t st, q⟩
theorem vx_newarrayZ {atype : ArrayType} (hexec : p.tables.exec = Jvm.exec) (hb : c.code = cc) {n : Int32} (h0 : n < 0) (hdg : decode cc pc = .ok (.newarray atype, 2)) (k : ∀ tx : String, tx = toString n → vx_Note p l e R s m args below meth c H locs cells slots Q (F0 m pc ls rest) "java/lang/NegativeArraySizeException" tx) : W p l e R s m args below meth c H locs cells slots Q (F0 m pc ls (.int n :: rest)) := by
  intro T hT X
  obtain ⟨t, st, q⟩ := k _ rfl T hT X
  exact ⟨t, X.newarrayNegative hexec (g := F0 m pc ls (.int n :: rest)) rfl h0 (rest := rest) rfl (by rw [hb]; exact hdg) t st, q⟩
end
end VXM
/-! ===== END ===== -/

def RX0 : String := "CensusLoom$Hiding"
def TX0 : u_T := fun k => match k with
  | _ => ("", "", "", false)
def tyX0 : Nat → FieldType := fun k => match k with
  | _ => .int
theorem nmX0 : ∀ a, a < 0 → ∀ b, b < 0 → a ≠ b → (TX0 a).2.1 ≠ (TX0 b).2.1 := by decide +kernel
theorem tyX0_ok : ∀ k, k < 0 → parseFieldDescriptor (TX0 k).2.2.1 = some (tyX0 k) := by decide +kernel
abbrev cX0_has : ByteArray := prog_2_method_2_code
def yX0_has : MethodName := ⟨RX0, "has", "(II)Z"⟩
abbrev cX0_blockEnd : ByteArray := prog_2_method_3_code
def yX0_blockEnd : MethodName := ⟨RX0, "blockEnd", "(I)I"⟩
abbrev cX0_groupEnd : ByteArray := prog_2_method_4_code
def yX0_groupEnd : MethodName := ⟨RX0, "groupEnd", "(I)I"⟩
abbrev cX0_endsOf : ByteArray := prog_2_method_5_code
def yX0_endsOf : MethodName := ⟨RX0, "endsOf", "(I)I"⟩
abbrev cX0_endsInBlock : ByteArray := prog_2_method_6_code
def yX0_endsInBlock : MethodName := ⟨RX0, "endsInBlock", "(II)I"⟩
abbrev cX0_smallCells : ByteArray := prog_2_method_7_code
def yX0_smallCells : MethodName := ⟨RX0, "smallCells", "([I)I"⟩
abbrev cX0_choose : ByteArray := prog_2_method_8_code
def yX0_choose : MethodName := ⟨RX0, "choose", "([I)I"⟩
abbrev cX0_firstFound : ByteArray := prog_2_method_9_code
def yX0_firstFound : MethodName := ⟨RX0, "firstFound", "(I)I"⟩
abbrev cX0_nextToHide : ByteArray := prog_2_method_10_code
def yX0_nextToHide : MethodName := ⟨RX0, "nextToHide", "([III)I"⟩
abbrev cX0_leastOf : ByteArray := prog_2_method_11_code
def yX0_leastOf : MethodName := ⟨RX0, "leastOf", "([II)I"⟩
abbrev cX0_tiedTo : ByteArray := prog_2_method_12_code
def yX0_tiedTo : MethodName := ⟨RX0, "tiedTo", "(II)I"⟩
abbrev cX0_isFound : ByteArray := prog_2_method_13_code
def yX0_isFound : MethodName := ⟨RX0, "isFound", "(II)Z"⟩
abbrev cX0_numberFound : ByteArray := prog_2_method_14_code
def yX0_numberFound : MethodName := ⟨RX0, "numberFound", "(I)I"⟩
abbrev cX0_numberWithoutWay : ByteArray := prog_2_method_15_code
def yX0_numberWithoutWay : MethodName := ⟨RX0, "numberWithoutWay", "(I)I"⟩
abbrev cX0_hasClosedWay : ByteArray := prog_2_method_16_code
def yX0_hasClosedWay : MethodName := ⟨RX0, "hasClosedWay", "(II)Z"⟩
abbrev cX0_besides : ByteArray := prog_2_method_17_code
def yX0_besides : MethodName := ⟨RX0, "besides", "(IZ)I"⟩
abbrev cX0_cellsOfBlock : ByteArray := prog_2_method_18_code
def yX0_cellsOfBlock : MethodName := ⟨RX0, "cellsOfBlock", "(I)I"⟩
abbrev cX0_cellsOfGroup : ByteArray := prog_2_method_19_code
def yX0_cellsOfGroup : MethodName := ⟨RX0, "cellsOfGroup", "(I)I"⟩
def RX1 : String := "CensusLoom$Links"
def TX1 : u_T := fun k => match k with
  | 0 => ("CensusLoom$Links", "people", "LCensusLoom$People;", true)
  | 1 => ("CensusLoom$Links", "decisions", "[C", true)
  | 2 => ("CensusLoom$Links", "namePoints", "I", false)
  | 3 => ("CensusLoom$Links", "yearPoints", "I", false)
  | 4 => ("CensusLoom$Links", "placePoints", "I", false)
  | 5 => ("CensusLoom$Links", "lower", "I", false)
  | _ => ("CensusLoom$Links", "upper", "I", false)
def tyX1 : Nat → FieldType := fun k => match k with
  | 0 => .object "CensusLoom$People"
  | 1 => .array .char
  | 2 => .int
  | 3 => .int
  | 4 => .int
  | 5 => .int
  | _ => .int
theorem nmX1 : ∀ a, a < 7 → ∀ b, b < 7 → a ≠ b → (TX1 a).2.1 ≠ (TX1 b).2.1 := by decide +kernel
theorem tyX1_ok : ∀ k, k < 7 → parseFieldDescriptor (TX1 k).2.2.1 = some (tyX1 k) := by decide +kernel
abbrev cX1_init : ByteArray := prog_3_method_1_code
def yX1_init : MethodName := ⟨RX1, "<init>", "(LCensusLoom$People;)V"⟩
abbrev cX1_changePoints : ByteArray := prog_3_method_2_code
def yX1_changePoints : MethodName := ⟨RX1, "changePoints", "(CI)I"⟩
abbrev cX1_bestScore : ByteArray := prog_3_method_3_code
def yX1_bestScore : MethodName := ⟨RX1, "bestScore", "()I"⟩
abbrev cX1_scoreOf : ByteArray := prog_3_method_4_code
def yX1_scoreOf : MethodName := ⟨RX1, "scoreOf", "(II)I"⟩
abbrev cX1_nameScore : ByteArray := prog_3_method_5_code
def yX1_nameScore : MethodName := ⟨RX1, "nameScore", "(II)I"⟩
abbrev cX1_yearScore : ByteArray := prog_3_method_6_code
def yX1_yearScore : MethodName := ⟨RX1, "yearScore", "(I)I"⟩
abbrev cX1_placeScore : ByteArray := prog_3_method_7_code
def yX1_placeScore : MethodName := ⟨RX1, "placeScore", "(ZZ)I"⟩
abbrev cX1_placeOfPair : ByteArray := prog_3_method_8_code
def yX1_placeOfPair : MethodName := ⟨RX1, "placeOfPair", "(II)I"⟩
abbrev cX1_isDecided : ByteArray := prog_3_method_9_code
def yX1_isDecided : MethodName := ⟨RX1, "isDecided", "(II)Z"⟩
abbrev cX1_putDecision : ByteArray := prog_3_method_10_code
def yX1_putDecision : MethodName := ⟨RX1, "putDecision", "(IIC)V"⟩
abbrev cX1_kindOf : ByteArray := prog_3_method_11_code
def yX1_kindOf : MethodName := ⟨RX1, "kindOf", "(II)C"⟩
def RX2 : String := "CensusLoom$Pairing"
def TX2 : u_T := fun k => match k with
  | 0 => ("CensusLoom$Pairing", "people", "LCensusLoom$People;", true)
  | 1 => ("CensusLoom$Pairing", "links", "LCensusLoom$Links;", true)
  | 2 => ("CensusLoom$Pairing", "tally", "LCensusLoom$Tally;", true)
  | 3 => ("CensusLoom$Pairing", "partner", "[I", true)
  | 4 => ("CensusLoom$Pairing", "linkedCensus", "[I", true)
  | 5 => ("CensusLoom$Pairing", "linkedCheck", "[I", true)
  | 6 => ("CensusLoom$Pairing", "linkedScore", "[I", true)
  | 7 => ("CensusLoom$Pairing", "linkedPairs", "I", false)
  | 8 => ("CensusLoom$Pairing", "size", "I", false)
  | _ => ("CensusLoom$Pairing", "scoreSum", "I", false)
def tyX2 : Nat → FieldType := fun k => match k with
  | 0 => .object "CensusLoom$People"
  | 1 => .object "CensusLoom$Links"
  | 2 => .object "CensusLoom$Tally"
  | 3 => .array .int
  | 4 => .array .int
  | 5 => .array .int
  | 6 => .array .int
  | 7 => .int
  | 8 => .int
  | _ => .int
theorem nmX2 : ∀ a, a < 10 → ∀ b, b < 10 → a ≠ b → (TX2 a).2.1 ≠ (TX2 b).2.1 := by decide +kernel
theorem tyX2_ok : ∀ k, k < 10 → parseFieldDescriptor (TX2 k).2.2.1 = some (tyX2 k) := by decide +kernel
abbrev cX2_init : ByteArray := prog_4_method_1_code
def yX2_init : MethodName := ⟨RX2, "<init>", "(LCensusLoom$People;LCensusLoom$Links;LCensusLoom$Tally;)V"⟩
abbrev cX2_renew : ByteArray := prog_4_method_2_code
def yX2_renew : MethodName := ⟨RX2, "renew", "()V"⟩
abbrev cX2_gatherLinked : ByteArray := prog_4_method_3_code
def yX2_gatherLinked : MethodName := ⟨RX2, "gatherLinked", "()V"⟩
abbrev cX2_takeWithScore : ByteArray := prog_4_method_4_code
def yX2_takeWithScore : MethodName := ⟨RX2, "takeWithScore", "(I)V"⟩
def RX3 : String := "CensusLoom$People"
def TX3 : u_T := fun k => match k with
  | 0 => ("CensusLoom$People", "places", "LCensusLoom$Places;", true)
  | 1 => ("CensusLoom$People", "isCensus", "[Z", true)
  | 2 => ("CensusLoom$People", "addresses", "[I", true)
  | 3 => ("CensusLoom$People", "names", "[I", true)
  | 4 => ("CensusLoom$People", "years", "[I", true)
  | _ => ("CensusLoom$People", "size", "I", false)
def tyX3 : Nat → FieldType := fun k => match k with
  | 0 => .object "CensusLoom$Places"
  | 1 => .array .boolean
  | 2 => .array .int
  | 3 => .array .int
  | 4 => .array .int
  | _ => .int
theorem nmX3 : ∀ a, a < 6 → ∀ b, b < 6 → a ≠ b → (TX3 a).2.1 ≠ (TX3 b).2.1 := by decide +kernel
theorem tyX3_ok : ∀ k, k < 6 → parseFieldDescriptor (TX3 k).2.2.1 = some (tyX3 k) := by decide +kernel
abbrev cX3_init : ByteArray := prog_5_method_1_code
def yX3_init : MethodName := ⟨RX3, "<init>", "(LCensusLoom$Places;)V"⟩
abbrev cX3_add : ByteArray := prog_5_method_2_code
def yX3_add : MethodName := ⟨RX3, "add", "(ZIII)I"⟩
abbrev cX3_blockAt : ByteArray := prog_5_method_3_code
def yX3_blockAt : MethodName := ⟨RX3, "blockAt", "(I)I"⟩
abbrev cX3_groupAt : ByteArray := prog_5_method_4_code
def yX3_groupAt : MethodName := ⟨RX3, "groupAt", "(I)I"⟩
def RX4 : String := "CensusLoom$Places"
def TX4 : u_T := fun k => match k with
  | 0 => ("CensusLoom$Places", "blockOfAddress", "[I", true)
  | 1 => ("CensusLoom$Places", "blocks", "I", false)
  | _ => ("CensusLoom$Places", "addresses", "I", false)
def tyX4 : Nat → FieldType := fun k => match k with
  | 0 => .array .int
  | 1 => .int
  | _ => .int
theorem nmX4 : ∀ a, a < 3 → ∀ b, b < 3 → a ≠ b → (TX4 a).2.1 ≠ (TX4 b).2.1 := by decide +kernel
theorem tyX4_ok : ∀ k, k < 3 → parseFieldDescriptor (TX4 k).2.2.1 = some (tyX4 k) := by decide +kernel
abbrev cX4_init : ByteArray := prog_6_method_1_code
def yX4_init : MethodName := ⟨RX4, "<init>", "()V"⟩
abbrev cX4_hasAddress : ByteArray := prog_6_method_2_code
def yX4_hasAddress : MethodName := ⟨RX4, "hasAddress", "(I)Z"⟩
abbrev cX4_openBlock : ByteArray := prog_6_method_3_code
def yX4_openBlock : MethodName := ⟨RX4, "openBlock", "()I"⟩
abbrev cX4_openAddress : ByteArray := prog_6_method_4_code
def yX4_openAddress : MethodName := ⟨RX4, "openAddress", "(I)I"⟩
abbrev cX4_move : ByteArray := prog_6_method_5_code
def yX4_move : MethodName := ⟨RX4, "move", "(III)I"⟩
def RX5 : String := "CensusLoom$Table"
def TX5 : u_T := fun k => match k with
  | 0 => ("CensusLoom$Table", "blocks", "I", true)
  | 1 => ("CensusLoom$Table", "counts", "[I", true)
  | 2 => ("CensusLoom$Table", "hidden", "I", true)
  | 3 => ("CensusLoom$Table", "line", "Ljava/lang/String;", true)
  | _ => ("CensusLoom$Table", "isUndone", "Z", false)
def tyX5 : Nat → FieldType := fun k => match k with
  | 0 => .int
  | 1 => .array .int
  | 2 => .int
  | 3 => .object "java/lang/String"
  | _ => .boolean
theorem nmX5 : ∀ a, a < 5 → ∀ b, b < 5 → a ≠ b → (TX5 a).2.1 ≠ (TX5 b).2.1 := by decide +kernel
theorem tyX5_ok : ∀ k, k < 5 → parseFieldDescriptor (TX5 k).2.2.1 = some (tyX5 k) := by decide +kernel
abbrev cX5_init : ByteArray := prog_7_method_1_code
def yX5_init : MethodName := ⟨RX5, "<init>", "(I[II)V"⟩
abbrev cX5_lineOf : ByteArray := prog_7_method_2_code
def yX5_lineOf : MethodName := ⟨RX5, "lineOf", "(I[II)Ljava/lang/String;"⟩
abbrev cX5_shows : ByteArray := prog_7_method_3_code
def yX5_shows : MethodName := ⟨RX5, "shows", "(I[I)Z"⟩
abbrev cX5_sumOfBlock : ByteArray := prog_7_method_4_code
def yX5_sumOfBlock : MethodName := ⟨RX5, "sumOfBlock", "(I)I"⟩
abbrev cX5_sumOfGroup : ByteArray := prog_7_method_5_code
def yX5_sumOfGroup : MethodName := ⟨RX5, "sumOfGroup", "(I)I"⟩
def RX6 : String := "CensusLoom$Tally"
def TX6 : u_T := fun k => match k with
  | 0 => ("CensusLoom$Tally", "people", "LCensusLoom$People;", true)
  | 1 => ("CensusLoom$Tally", "links", "LCensusLoom$Links;", true)
  | 2 => ("CensusLoom$Tally", "isRepeated", "[Z", true)
  | 3 => ("CensusLoom$Tally", "counts", "[I", true)
  | 4 => ("CensusLoom$Tally", "counted", "I", false)
  | _ => ("CensusLoom$Tally", "repeated", "I", false)
def tyX6 : Nat → FieldType := fun k => match k with
  | 0 => .object "CensusLoom$People"
  | 1 => .object "CensusLoom$Links"
  | 2 => .array .boolean
  | 3 => .array .int
  | 4 => .int
  | _ => .int
theorem nmX6 : ∀ a, a < 6 → ∀ b, b < 6 → a ≠ b → (TX6 a).2.1 ≠ (TX6 b).2.1 := by decide +kernel
theorem tyX6_ok : ∀ k, k < 6 → parseFieldDescriptor (TX6 k).2.2.1 = some (tyX6 k) := by decide +kernel
abbrev cX6_init : ByteArray := prog_8_method_1_code
def yX6_init : MethodName := ⟨RX6, "<init>", "(LCensusLoom$People;LCensusLoom$Links;)V"⟩
abbrev cX6_renew : ByteArray := prog_8_method_2_code
def yX6_renew : MethodName := ⟨RX6, "renew", "()V"⟩
abbrev cX6_repeatsEarlier : ByteArray := prog_8_method_3_code
def yX6_repeatsEarlier : MethodName := ⟨RX6, "repeatsEarlier", "(I)Z"⟩
abbrev cX6_isCounted : ByteArray := prog_8_method_4_code
def yX6_isCounted : MethodName := ⟨RX6, "isCounted", "(I)Z"⟩
abbrev cX6_hasCounts : ByteArray := prog_8_method_5_code
def yX6_hasCounts : MethodName := ⟨RX6, "hasCounts", "([I)Z"⟩
def RX7 : String := "CensusLoom"
def TX7 : u_T := fun k => match k with
  | 0 => ("CensusLoom", "places", "LCensusLoom$Places;", true)
  | 1 => ("CensusLoom", "people", "LCensusLoom$People;", true)
  | 2 => ("CensusLoom", "links", "LCensusLoom$Links;", true)
  | 3 => ("CensusLoom", "kept", "LCensusLoom$Tally;", true)
  | 4 => ("CensusLoom", "anew", "LCensusLoom$Tally;", true)
  | 5 => ("CensusLoom", "pairing", "LCensusLoom$Pairing;", true)
  | 6 => ("CensusLoom", "tables", "[LCensusLoom$Table;", true)
  | _ => ("CensusLoom", "told", "I", false)
def tyX7 : Nat → FieldType := fun k => match k with
  | 0 => .object "CensusLoom$Places"
  | 1 => .object "CensusLoom$People"
  | 2 => .object "CensusLoom$Links"
  | 3 => .object "CensusLoom$Tally"
  | 4 => .object "CensusLoom$Tally"
  | 5 => .object "CensusLoom$Pairing"
  | 6 => .array (.object "CensusLoom$Table")
  | _ => .int
theorem nmX7 : ∀ a, a < 8 → ∀ b, b < 8 → a ≠ b → (TX7 a).2.1 ≠ (TX7 b).2.1 := by decide +kernel
theorem tyX7_ok : ∀ k, k < 8 → parseFieldDescriptor (TX7 k).2.2.1 = some (tyX7 k) := by decide +kernel
abbrev cX7_init : ByteArray := prog_1_method_1_code
def yX7_init : MethodName := ⟨RX7, "<init>", "()V"⟩
abbrev cX7_addBlock : ByteArray := prog_1_method_2_code
def yX7_addBlock : MethodName := ⟨RX7, "addBlock", "()I"⟩
abbrev cX7_addAddress : ByteArray := prog_1_method_3_code
def yX7_addAddress : MethodName := ⟨RX7, "addAddress", "(I)I"⟩
abbrev cX7_split : ByteArray := prog_1_method_4_code
def yX7_split : MethodName := ⟨RX7, "split", "(II)I"⟩
abbrev cX7_join : ByteArray := prog_1_method_5_code
def yX7_join : MethodName := ⟨RX7, "join", "(II)I"⟩
abbrev cX7_addRecord : ByteArray := prog_1_method_6_code
def yX7_addRecord : MethodName := ⟨RX7, "addRecord", "(CIII)I"⟩
abbrev cX7_blockOf : ByteArray := prog_1_method_7_code
def yX7_blockOf : MethodName := ⟨RX7, "blockOf", "(I)I"⟩
abbrev cX7_setPoints : ByteArray := prog_1_method_8_code
def yX7_setPoints : MethodName := ⟨RX7, "setPoints", "(CI)I"⟩
abbrev cX7_setBounds : ByteArray := prog_1_method_9_code
def yX7_setBounds : MethodName := ⟨RX7, "setBounds", "(II)I"⟩
abbrev cX7_score : ByteArray := prog_1_method_10_code
def yX7_score : MethodName := ⟨RX7, "score", "(II)I"⟩
abbrev cX7_decide : ByteArray := prog_1_method_11_code
def yX7_decide : MethodName := ⟨RX7, "decide", "(IIZ)I"⟩
abbrev cX7_takeBack : ByteArray := prog_1_method_12_code
def yX7_takeBack : MethodName := ⟨RX7, "takeBack", "(II)I"⟩
abbrev cX7_link : ByteArray := prog_1_method_13_code
def yX7_link : MethodName := ⟨RX7, "link", "(II)C"⟩
abbrev cX7_openPairs : ByteArray := prog_1_method_14_code
def yX7_openPairs : MethodName := ⟨RX7, "openPairs", "()I"⟩
abbrev cX7_isDouble : ByteArray := prog_1_method_15_code
def yX7_isDouble : MethodName := ⟨RX7, "isDouble", "(I)Z"⟩
abbrev cX7_matchOf : ByteArray := prog_1_method_16_code
def yX7_matchOf : MethodName := ⟨RX7, "matchOf", "(I)I"⟩
abbrev cX7_matches : ByteArray := prog_1_method_17_code
def yX7_matches : MethodName := ⟨RX7, "matches", "()I"⟩
abbrev cX7_count : ByteArray := prog_1_method_18_code
def yX7_count : MethodName := ⟨RX7, "count", "(II)I"⟩
abbrev cX7_countAnew : ByteArray := prog_1_method_19_code
def yX7_countAnew : MethodName := ⟨RX7, "countAnew", "(II)I"⟩
abbrev cX7_estimate : ByteArray := prog_1_method_20_code
def yX7_estimate : MethodName := ⟨RX7, "estimate", "()J"⟩
abbrev cX7_doubleShare : ByteArray := prog_1_method_21_code
def yX7_doubleShare : MethodName := ⟨RX7, "doubleShare", "()F"⟩
abbrev cX7_meanScore : ByteArray := prog_1_method_22_code
def yX7_meanScore : MethodName := ⟨RX7, "meanScore", "()D"⟩
abbrev cX7_tell : ByteArray := prog_1_method_23_code
def yX7_tell : MethodName := ⟨RX7, "tell", "()I"⟩
abbrev cX7_stateOf : ByteArray := prog_1_method_24_code
def yX7_stateOf : MethodName := ⟨RX7, "stateOf", "(I)C"⟩
abbrev cX7_isHidden : ByteArray := prog_1_method_25_code
def yX7_isHidden : MethodName := ⟨RX7, "isHidden", "(III)Z"⟩
abbrev cX7_cell : ByteArray := prog_1_method_26_code
def yX7_cell : MethodName := ⟨RX7, "cell", "(III)I"⟩
abbrev cX7_blockSum : ByteArray := prog_1_method_27_code
def yX7_blockSum : MethodName := ⟨RX7, "blockSum", "(II)I"⟩
abbrev cX7_groupSum : ByteArray := prog_1_method_28_code
def yX7_groupSum : MethodName := ⟨RX7, "groupSum", "(II)I"⟩
abbrev cX7_holes : ByteArray := prog_1_method_29_code
def yX7_holes : MethodName := ⟨RX7, "holes", "(I)I"⟩
abbrev cX7_isAtRisk : ByteArray := prog_1_method_30_code
def yX7_isAtRisk : MethodName := ⟨RX7, "isAtRisk", "(III)Z"⟩
abbrev cX7_found : ByteArray := prog_1_method_31_code
def yX7_found : MethodName := ⟨RX7, "found", "(I)I"⟩
abbrev cX7_foundByWays : ByteArray := prog_1_method_32_code
def yX7_foundByWays : MethodName := ⟨RX7, "foundByWays", "(I)I"⟩
abbrev cX7_lineLength : ByteArray := prog_1_method_33_code
def yX7_lineLength : MethodName := ⟨RX7, "lineLength", "(I)I"⟩
abbrev cX7_lineAt : ByteArray := prog_1_method_34_code
def yX7_lineAt : MethodName := ⟨RX7, "lineAt", "(II)C"⟩
abbrev cX7_isSafe : ByteArray := prog_1_method_35_code
def yX7_isSafe : MethodName := ⟨RX7, "isSafe", "()Z"⟩
abbrev cX7_isSafeTable : ByteArray := prog_1_method_36_code
def yX7_isSafeTable : MethodName := ⟨RX7, "isSafeTable", "(LCensusLoom$Table;)Z"⟩
abbrev cX7_settle : ByteArray := prog_1_method_37_code
def yX7_settle : MethodName := ⟨RX7, "settle", "()I"⟩
abbrev cX7_needBlock : ByteArray := prog_1_method_38_code
def yX7_needBlock : MethodName := ⟨RX7, "needBlock", "(I)V"⟩
abbrev cX7_needAddress : ByteArray := prog_1_method_39_code
def yX7_needAddress : MethodName := ⟨RX7, "needAddress", "(I)V"⟩
abbrev cX7_needGroup : ByteArray := prog_1_method_40_code
def yX7_needGroup : MethodName := ⟨RX7, "needGroup", "(I)V"⟩
abbrev cX7_needRecord : ByteArray := prog_1_method_41_code
def yX7_needRecord : MethodName := ⟨RX7, "needRecord", "(I)V"⟩
abbrev cX7_needTwoRecords : ByteArray := prog_1_method_42_code
def yX7_needTwoRecords : MethodName := ⟨RX7, "needTwoRecords", "(II)V"⟩
abbrev cX7_toldTable : ByteArray := prog_1_method_43_code
def yX7_toldTable : MethodName := ⟨RX7, "toldTable", "(I)LCensusLoom$Table;"⟩
abbrev cX7_needBlockIn : ByteArray := prog_1_method_44_code
def yX7_needBlockIn : MethodName := ⟨RX7, "needBlockIn", "(LCensusLoom$Table;I)V"⟩
abbrev cX7_needCell : ByteArray := prog_1_method_45_code
def yX7_needCell : MethodName := ⟨RX7, "needCell", "(LCensusLoom$Table;II)V"⟩
def RX8 : String := "CensusLoomModel"
def TX8 : u_T := fun k => match k with
  | 0 => ("CensusLoomModel", "blocksOf", "[I", true)
  | 1 => ("CensusLoomModel", "addresses", "[I", true)
  | 2 => ("CensusLoomModel", "names", "[I", true)
  | 3 => ("CensusLoomModel", "years", "[I", true)
  | 4 => ("CensusLoomModel", "matched", "[I", true)
  | 5 => ("CensusLoomModel", "counts", "[I", true)
  | 6 => ("CensusLoomModel", "lists", "[C", true)
  | 7 => ("CensusLoomModel", "decisions", "[C", true)
  | 8 => ("CensusLoomModel", "areDoubles", "[Z", true)
  | 9 => ("CensusLoomModel", "areUndone", "[Z", true)
  | 10 => ("CensusLoomModel", "hidden", "[Z", true)
  | 11 => ("CensusLoomModel", "areReached", "[Z", true)
  | 12 => ("CensusLoomModel", "cells", "[I", true)
  | 13 => ("CensusLoomModel", "tableBlocks", "[I", true)
  | 14 => ("CensusLoomModel", "thrown", "I", false)
  | 15 => ("CensusLoomModel", "blocks", "I", false)
  | 16 => ("CensusLoomModel", "addressCount", "I", false)
  | 17 => ("CensusLoomModel", "records", "I", false)
  | 18 => ("CensusLoomModel", "tables", "I", false)
  | 19 => ("CensusLoomModel", "forName", "I", false)
  | 20 => ("CensusLoomModel", "forYear", "I", false)
  | 21 => ("CensusLoomModel", "forPlace", "I", false)
  | 22 => ("CensusLoomModel", "lower", "I", false)
  | 23 => ("CensusLoomModel", "upper", "I", false)
  | 24 => ("CensusLoomModel", "matchCount", "I", false)
  | _ => ("CensusLoomModel", "matchScores", "I", false)
def tyX8 : Nat → FieldType := fun k => match k with
  | 0 => .array .int
  | 1 => .array .int
  | 2 => .array .int
  | 3 => .array .int
  | 4 => .array .int
  | 5 => .array .int
  | 6 => .array .char
  | 7 => .array .char
  | 8 => .array .boolean
  | 9 => .array .boolean
  | 10 => .array .boolean
  | 11 => .array .boolean
  | 12 => .array .int
  | 13 => .array .int
  | 14 => .int
  | 15 => .int
  | 16 => .int
  | 17 => .int
  | 18 => .int
  | 19 => .int
  | 20 => .int
  | 21 => .int
  | 22 => .int
  | 23 => .int
  | 24 => .int
  | _ => .int
theorem nmX8 : ∀ a, a < 26 → ∀ b, b < 26 → a ≠ b → (TX8 a).2.1 ≠ (TX8 b).2.1 := by decide +kernel
theorem tyX8_ok : ∀ k, k < 26 → parseFieldDescriptor (TX8 k).2.2.1 = some (tyX8 k) := by decide +kernel
abbrev cX8_init : ByteArray := prog_10_method_1_code
def yX8_init : MethodName := ⟨RX8, "<init>", "()V"⟩
abbrev cX8_thrown : ByteArray := prog_10_method_2_code
def yX8_thrown : MethodName := ⟨RX8, "thrown", "()I"⟩
abbrev cX8_in : ByteArray := prog_10_method_3_code
def yX8_in : MethodName := ⟨RX8, "in", "(III)Z"⟩
abbrev cX8_plain : ByteArray := prog_10_method_4_code
def yX8_plain : MethodName := ⟨RX8, "plain", "(I)I"⟩
abbrev cX8_checked : ByteArray := prog_10_method_5_code
def yX8_checked : MethodName := ⟨RX8, "checked", "(Z)I"⟩
abbrev cX8_isBlock : ByteArray := prog_10_method_6_code
def yX8_isBlock : MethodName := ⟨RX8, "isBlock", "(I)Z"⟩
abbrev cX8_isRecord : ByteArray := prog_10_method_7_code
def yX8_isRecord : MethodName := ⟨RX8, "isRecord", "(I)Z"⟩
abbrev cX8_group : ByteArray := prog_10_method_8_code
def yX8_group : MethodName := ⟨RX8, "group", "(I)I"⟩
abbrev cX8_blockFor : ByteArray := prog_10_method_9_code
def yX8_blockFor : MethodName := ⟨RX8, "blockFor", "(I)I"⟩
abbrev cX8_scoreOf : ByteArray := prog_10_method_10_code
def yX8_scoreOf : MethodName := ⟨RX8, "scoreOf", "(II)I"⟩
abbrev cX8_linkOf : ByteArray := prog_10_method_11_code
def yX8_linkOf : MethodName := ⟨RX8, "linkOf", "(II)C"⟩
abbrev cX8_layDoubles : ByteArray := prog_10_method_12_code
def yX8_layDoubles : MethodName := ⟨RX8, "layDoubles", "()V"⟩
abbrev cX8_isCounted : ByteArray := prog_10_method_13_code
def yX8_isCounted : MethodName := ⟨RX8, "isCounted", "(I)Z"⟩
abbrev cX8_layCounts : ByteArray := prog_10_method_14_code
def yX8_layCounts : MethodName := ⟨RX8, "layCounts", "()V"⟩
abbrev cX8_layMatches : ByteArray := prog_10_method_15_code
def yX8_layMatches : MethodName := ⟨RX8, "layMatches", "()V"⟩
abbrev cX8_looks : ByteArray := prog_10_method_16_code
def yX8_looks : MethodName := ⟨RX8, "looks", "()I"⟩
abbrev cX8_addBlock : ByteArray := prog_10_method_17_code
def yX8_addBlock : MethodName := ⟨RX8, "addBlock", "()I"⟩
abbrev cX8_addAddress : ByteArray := prog_10_method_18_code
def yX8_addAddress : MethodName := ⟨RX8, "addAddress", "(I)I"⟩
abbrev cX8_split : ByteArray := prog_10_method_19_code
def yX8_split : MethodName := ⟨RX8, "split", "(II)I"⟩
abbrev cX8_join : ByteArray := prog_10_method_20_code
def yX8_join : MethodName := ⟨RX8, "join", "(II)I"⟩
abbrev cX8_addRecord : ByteArray := prog_10_method_21_code
def yX8_addRecord : MethodName := ⟨RX8, "addRecord", "(CIII)I"⟩
abbrev cX8_blockOf : ByteArray := prog_10_method_22_code
def yX8_blockOf : MethodName := ⟨RX8, "blockOf", "(I)I"⟩
abbrev cX8_setPoints : ByteArray := prog_10_method_23_code
def yX8_setPoints : MethodName := ⟨RX8, "setPoints", "(CI)I"⟩
abbrev cX8_setBounds : ByteArray := prog_10_method_24_code
def yX8_setBounds : MethodName := ⟨RX8, "setBounds", "(II)I"⟩
abbrev cX8_wrongPair : ByteArray := prog_10_method_25_code
def yX8_wrongPair : MethodName := ⟨RX8, "wrongPair", "(II)I"⟩
abbrev cX8_score : ByteArray := prog_10_method_26_code
def yX8_score : MethodName := ⟨RX8, "score", "(II)I"⟩
abbrev cX8_decides : ByteArray := prog_10_method_27_code
def yX8_decides : MethodName := ⟨RX8, "decides", "(IIC)V"⟩
abbrev cX8_decide : ByteArray := prog_10_method_28_code
def yX8_decide : MethodName := ⟨RX8, "decide", "(IIZ)I"⟩
abbrev cX8_takeBack : ByteArray := prog_10_method_29_code
def yX8_takeBack : MethodName := ⟨RX8, "takeBack", "(II)I"⟩
abbrev cX8_link : ByteArray := prog_10_method_30_code
def yX8_link : MethodName := ⟨RX8, "link", "(II)C"⟩
abbrev cX8_openPairs : ByteArray := prog_10_method_31_code
def yX8_openPairs : MethodName := ⟨RX8, "openPairs", "()I"⟩
abbrev cX8_isDouble : ByteArray := prog_10_method_32_code
def yX8_isDouble : MethodName := ⟨RX8, "isDouble", "(I)Z"⟩
abbrev cX8_matchOf : ByteArray := prog_10_method_33_code
def yX8_matchOf : MethodName := ⟨RX8, "matchOf", "(I)I"⟩
abbrev cX8_matches : ByteArray := prog_10_method_34_code
def yX8_matches : MethodName := ⟨RX8, "matches", "()I"⟩
abbrev cX8_count : ByteArray := prog_10_method_35_code
def yX8_count : MethodName := ⟨RX8, "count", "(II)I"⟩
abbrev cX8_countAnew : ByteArray := prog_10_method_36_code
def yX8_countAnew : MethodName := ⟨RX8, "countAnew", "(II)I"⟩
abbrev cX8_many : ByteArray := prog_10_method_37_code
def yX8_many : MethodName := ⟨RX8, "many", "(CZ)I"⟩
abbrev cX8_estimate : ByteArray := prog_10_method_38_code
def yX8_estimate : MethodName := ⟨RX8, "estimate", "()J"⟩
abbrev cX8_doubleShare : ByteArray := prog_10_method_39_code
def yX8_doubleShare : MethodName := ⟨RX8, "doubleShare", "()F"⟩
abbrev cX8_meanScore : ByteArray := prog_10_method_40_code
def yX8_meanScore : MethodName := ⟨RX8, "meanScore", "()D"⟩
abbrev cX8_isFound : ByteArray := prog_10_method_41_code
def yX8_isFound : MethodName := ⟨RX8, "isFound", "(II)Z"⟩
abbrev cX8_firstFound : ByteArray := prog_10_method_42_code
def yX8_firstFound : MethodName := ⟨RX8, "firstFound", "(I)I"⟩
abbrev cX8_canHide : ByteArray := prog_10_method_43_code
def yX8_canHide : MethodName := ⟨RX8, "canHide", "(II)Z"⟩
abbrev cX8_helps : ByteArray := prog_10_method_44_code
def yX8_helps : MethodName := ⟨RX8, "helps", "(III)Z"⟩
abbrev cX8_next : ByteArray := prog_10_method_45_code
def yX8_next : MethodName := ⟨RX8, "next", "(IIZ)I"⟩
abbrev cX8_hidesSmall : ByteArray := prog_10_method_46_code
def yX8_hidesSmall : MethodName := ⟨RX8, "hidesSmall", "(I)V"⟩
abbrev cX8_hides : ByteArray := prog_10_method_47_code
def yX8_hides : MethodName := ⟨RX8, "hides", "(I)Z"⟩
abbrev cX8_tell : ByteArray := prog_10_method_48_code
def yX8_tell : MethodName := ⟨RX8, "tell", "()I"⟩
abbrev cX8_isTable : ByteArray := prog_10_method_49_code
def yX8_isTable : MethodName := ⟨RX8, "isTable", "(I)Z"⟩
abbrev cX8_stateOf : ByteArray := prog_10_method_50_code
def yX8_stateOf : MethodName := ⟨RX8, "stateOf", "(I)C"⟩
abbrev cX8_wrongCell : ByteArray := prog_10_method_51_code
def yX8_wrongCell : MethodName := ⟨RX8, "wrongCell", "(III)I"⟩
abbrev cX8_place : ByteArray := prog_10_method_52_code
def yX8_place : MethodName := ⟨RX8, "place", "(III)I"⟩
abbrev cX8_isHidden : ByteArray := prog_10_method_53_code
def yX8_isHidden : MethodName := ⟨RX8, "isHidden", "(III)Z"⟩
abbrev cX8_cell : ByteArray := prog_10_method_54_code
def yX8_cell : MethodName := ⟨RX8, "cell", "(III)I"⟩
abbrev cX8_blockSum : ByteArray := prog_10_method_55_code
def yX8_blockSum : MethodName := ⟨RX8, "blockSum", "(II)I"⟩
abbrev cX8_groupSum : ByteArray := prog_10_method_56_code
def yX8_groupSum : MethodName := ⟨RX8, "groupSum", "(II)I"⟩
abbrev cX8_holes : ByteArray := prog_10_method_57_code
def yX8_holes : MethodName := ⟨RX8, "holes", "(I)I"⟩
abbrev cX8_isAtRisk : ByteArray := prog_10_method_58_code
def yX8_isAtRisk : MethodName := ⟨RX8, "isAtRisk", "(III)Z"⟩
abbrev cX8_found : ByteArray := prog_10_method_59_code
def yX8_found : MethodName := ⟨RX8, "found", "(I)I"⟩
abbrev cX8_foundByWays : ByteArray := prog_10_method_60_code
def yX8_foundByWays : MethodName := ⟨RX8, "foundByWays", "(I)I"⟩
abbrev cX8_line : ByteArray := prog_10_method_61_code
def yX8_line : MethodName := ⟨RX8, "line", "(I)Ljava/lang/String;"⟩
abbrev cX8_lineLength : ByteArray := prog_10_method_62_code
def yX8_lineLength : MethodName := ⟨RX8, "lineLength", "(I)I"⟩
abbrev cX8_lineAt : ByteArray := prog_10_method_63_code
def yX8_lineAt : MethodName := ⟨RX8, "lineAt", "(II)C"⟩
abbrev cX8_isSafe : ByteArray := prog_10_method_64_code
def yX8_isSafe : MethodName := ⟨RX8, "isSafe", "()Z"⟩
def RJx145de : String := "java/io/Serializable"
def TJx145de : u_T := fun k => match k with
  | _ => ("", "", "", false)
def tyJx145de : Nat → FieldType := fun k => match k with
  | _ => .int
theorem nmJx145de : ∀ a, a < 0 → ∀ b, b < 0 → a ≠ b → (TJx145de a).2.1 ≠ (TJx145de b).2.1 := by decide +kernel
theorem tyJx145de_ok : ∀ k, k < 0 → parseFieldDescriptor (TJx145de k).2.2.1 = some (tyJx145de k) := by decide +kernel
def RJ5 : String := "java/lang/AbstractStringBuilder"
def TJ5 : u_T := fun k => match k with
  | _ => ("", "", "", false)
def tyJ5 : Nat → FieldType := fun k => match k with
  | _ => .int
theorem nmJ5 : ∀ a, a < 0 → ∀ b, b < 0 → a ≠ b → (TJ5 a).2.1 ≠ (TJ5 b).2.1 := by decide +kernel
theorem tyJ5_ok : ∀ k, k < 0 → parseFieldDescriptor (TJ5 k).2.2.1 = some (tyJ5 k) := by decide +kernel
abbrev cJ5_init_d00df : ByteArray := prog_12_method_2_code
def yJ5_init_d00df : MethodName := ⟨RJ5, "<init>", "(I)V"⟩
abbrev cJ5_length_8abf5 : ByteArray := prog_12_method_6_code
def yJ5_length_8abf5 : MethodName := ⟨RJ5, "length", "()I"⟩
abbrev cJ5_ensureCapacityInternal_d00df : ByteArray := prog_12_method_9_code
def yJ5_ensureCapacityInternal_d00df : MethodName := ⟨RJ5, "ensureCapacityInternal", "(I)V"⟩
abbrev cJ5_newCapacity_0f7a4 : ByteArray := prog_12_method_10_code
def yJ5_newCapacity_0f7a4 : MethodName := ⟨RJ5, "newCapacity", "(I)I"⟩
abbrev cJ5_inflate_da8c8 : ByteArray := prog_12_method_11_code
def yJ5_inflate_da8c8 : MethodName := ⟨RJ5, "inflate", "()V"⟩
abbrev cJ5_append_cf1ce : ByteArray := prog_12_method_22_code
def yJ5_append_cf1ce : MethodName := ⟨RJ5, "append", "(Ljava/lang/String;)Ljava/lang/AbstractStringBuilder;"⟩
abbrev cJ5_appendNull_278bc : ByteArray := prog_12_method_26_code
def yJ5_appendNull_278bc : MethodName := ⟨RJ5, "appendNull", "()Ljava/lang/AbstractStringBuilder;"⟩
abbrev cJ5_append_3fe6f : ByteArray := prog_12_method_31_code
def yJ5_append_3fe6f : MethodName := ⟨RJ5, "append", "(C)Ljava/lang/AbstractStringBuilder;"⟩
abbrev cJ5_append_c97b9 : ByteArray := prog_12_method_32_code
def yJ5_append_c97b9 : MethodName := ⟨RJ5, "append", "(I)Ljava/lang/AbstractStringBuilder;"⟩
abbrev cJ5_getValue_6d5f1 : ByteArray := prog_12_method_64_code
def yJ5_getValue_6d5f1 : MethodName := ⟨RJ5, "getValue", "()[B"⟩
abbrev cJ5_isLatin1_aae02 : ByteArray := prog_12_method_68_code
def yJ5_isLatin1_aae02 : MethodName := ⟨RJ5, "isLatin1", "()Z"⟩
abbrev cJ5_inflateIfNeededFor_a7421 : ByteArray := prog_12_method_71_code
def yJ5_inflateIfNeededFor_a7421 : MethodName := ⟨RJ5, "inflateIfNeededFor", "(Ljava/lang/String;)V"⟩
abbrev cJ5_putStringAt_47b60 : ByteArray := prog_12_method_73_code
def yJ5_putStringAt_47b60 : MethodName := ⟨RJ5, "putStringAt", "(ILjava/lang/String;)V"⟩
def RJx2cfe8 : String := "java/lang/Appendable"
def TJx2cfe8 : u_T := fun k => match k with
  | _ => ("", "", "", false)
def tyJx2cfe8 : Nat → FieldType := fun k => match k with
  | _ => .int
theorem nmJx2cfe8 : ∀ a, a < 0 → ∀ b, b < 0 → a ≠ b → (TJx2cfe8 a).2.1 ≠ (TJx2cfe8 b).2.1 := by decide +kernel
theorem tyJx2cfe8_ok : ∀ k, k < 0 → parseFieldDescriptor (TJx2cfe8 k).2.2.1 = some (tyJx2cfe8 k) := by decide +kernel
def RJx00060 : String := "java/lang/ArrayIndexOutOfBoundsException"
def TJx00060 : u_T := fun k => match k with
  | 0 => ("java/lang/Throwable", "backtrace", "Ljava/lang/Object;", false)
  | 1 => ("java/lang/Throwable", "detailMessage", "Ljava/lang/String;", false)
  | 2 => ("java/lang/Throwable", "cause", "Ljava/lang/Throwable;", false)
  | 3 => ("java/lang/Throwable", "stackTrace", "[Ljava/lang/StackTraceElement;", false)
  | 4 => ("java/lang/Throwable", "depth", "I", false)
  | _ => ("java/lang/Throwable", "suppressedExceptions", "Ljava/util/List;", false)
def tyJx00060 : Nat → FieldType := fun k => match k with
  | 0 => .object "java/lang/Object"
  | 1 => .object "java/lang/String"
  | 2 => .object "java/lang/Throwable"
  | 3 => .array (.object "java/lang/StackTraceElement")
  | 4 => .int
  | _ => .object "java/util/List"
theorem nmJx00060 : ∀ a, a < 6 → ∀ b, b < 6 → a ≠ b → (TJx00060 a).2.1 ≠ (TJx00060 b).2.1 := by decide +kernel
theorem tyJx00060_ok : ∀ k, k < 6 → parseFieldDescriptor (TJx00060 k).2.2.1 = some (tyJx00060 k) := by decide +kernel
abbrev cJx00060_init_a7421 : ByteArray := prog_15_method_2_code
def yJx00060_init_a7421 : MethodName := ⟨RJx00060, "<init>", "(Ljava/lang/String;)V"⟩
def RJx9f9b0 : String := "java/lang/CharSequence"
def TJx9f9b0 : u_T := fun k => match k with
  | _ => ("", "", "", false)
def tyJx9f9b0 : Nat → FieldType := fun k => match k with
  | _ => .int
theorem nmJx9f9b0 : ∀ a, a < 0 → ∀ b, b < 0 → a ≠ b → (TJx9f9b0 a).2.1 ≠ (TJx9f9b0 b).2.1 := by decide +kernel
theorem tyJx9f9b0_ok : ∀ k, k < 0 → parseFieldDescriptor (TJx9f9b0 k).2.2.1 = some (tyJx9f9b0 k) := by decide +kernel
def RJx8e188 : String := "java/lang/Cloneable"
def TJx8e188 : u_T := fun k => match k with
  | _ => ("", "", "", false)
def tyJx8e188 : Nat → FieldType := fun k => match k with
  | _ => .int
theorem nmJx8e188 : ∀ a, a < 0 → ∀ b, b < 0 → a ≠ b → (TJx8e188 a).2.1 ≠ (TJx8e188 b).2.1 := by decide +kernel
theorem tyJx8e188_ok : ∀ k, k < 0 → parseFieldDescriptor (TJx8e188 k).2.2.1 = some (tyJx8e188 k) := by decide +kernel
def RJxb160c : String := "java/lang/Comparable"
def TJxb160c : u_T := fun k => match k with
  | _ => ("", "", "", false)
def tyJxb160c : Nat → FieldType := fun k => match k with
  | _ => .int
theorem nmJxb160c : ∀ a, a < 0 → ∀ b, b < 0 → a ≠ b → (TJxb160c a).2.1 ≠ (TJxb160c b).2.1 := by decide +kernel
theorem tyJxb160c_ok : ∀ k, k < 0 → parseFieldDescriptor (TJxb160c k).2.2.1 = some (tyJxb160c k) := by decide +kernel
def RJ6 : String := "java/lang/Integer"
def TJ6 : u_T := fun k => match k with
  | _ => ("", "", "", false)
def tyJ6 : Nat → FieldType := fun k => match k with
  | _ => .int
theorem nmJ6 : ∀ a, a < 0 → ∀ b, b < 0 → a ≠ b → (TJ6 a).2.1 ≠ (TJ6 b).2.1 := by decide +kernel
theorem tyJ6_ok : ∀ k, k < 0 → parseFieldDescriptor (TJ6 k).2.2.1 = some (tyJ6 k) := by decide +kernel
abbrev cJ6_getChars_ba4f3 : ByteArray := prog_23_method_12_code
def yJ6_getChars_ba4f3 : MethodName := ⟨RJ6, "getChars", "(II[B)I"⟩
abbrev cJ6_stringSize_0f7a4 : ByteArray := prog_23_method_13_code
def yJ6_stringSize_0f7a4 : MethodName := ⟨RJ6, "stringSize", "(I)I"⟩
abbrev cJ6_bitCount_0f7a4 : ByteArray := prog_23_method_49_code
def yJ6_bitCount_0f7a4 : MethodName := ⟨RJ6, "bitCount", "(I)I"⟩
def RJ9 : String := "java/lang/Math"
def TJ9 : u_T := fun k => match k with
  | _ => ("", "", "", false)
def tyJ9 : Nat → FieldType := fun k => match k with
  | _ => .int
theorem nmJ9 : ∀ a, a < 0 → ∀ b, b < 0 → a ≠ b → (TJ9 a).2.1 ≠ (TJ9 b).2.1 := by decide +kernel
theorem tyJ9_ok : ∀ k, k < 0 → parseFieldDescriptor (TJ9 k).2.2.1 = some (tyJ9 k) := by decide +kernel
abbrev cJ9_max_7cf53 : ByteArray := prog_24_method_65_code
def yJ9_max_7cf53 : MethodName := ⟨RJ9, "max", "(II)I"⟩
abbrev cJ9_min_7cf53 : ByteArray := prog_24_method_69_code
def yJ9_min_7cf53 : MethodName := ⟨RJ9, "min", "(II)I"⟩
def RJxd2413 : String := "java/lang/Number"
def TJxd2413 : u_T := fun k => match k with
  | _ => ("", "", "", false)
def tyJxd2413 : Nat → FieldType := fun k => match k with
  | _ => .int
theorem nmJxd2413 : ∀ a, a < 0 → ∀ b, b < 0 → a ≠ b → (TJxd2413 a).2.1 ≠ (TJxd2413 b).2.1 := by decide +kernel
theorem tyJxd2413_ok : ∀ k, k < 0 → parseFieldDescriptor (TJxd2413 k).2.2.1 = some (tyJxd2413 k) := by decide +kernel
def RJ0 : String := "java/lang/String"
def TJ0 : u_T := fun k => match k with
  | 0 => ("java/lang/String", "value", "[B", true)
  | 1 => ("java/lang/String", "coder", "B", true)
  | 2 => ("java/lang/String", "hash", "I", false)
  | _ => ("java/lang/String", "hashIsZero", "Z", false)
def tyJ0 : Nat → FieldType := fun k => match k with
  | 0 => .array .byte
  | 1 => .byte
  | 2 => .int
  | _ => .boolean
theorem nmJ0 : ∀ a, a < 4 → ∀ b, b < 4 → a ≠ b → (TJ0 a).2.1 ≠ (TJ0 b).2.1 := by decide +kernel
theorem tyJ0_ok : ∀ k, k < 4 → parseFieldDescriptor (TJ0 k).2.2.1 = some (tyJ0 k) := by decide +kernel
abbrev cJ0_init_81219 : ByteArray := prog_27_method_53_code
def yJ0_init_81219 : MethodName := ⟨RJ0, "<init>", "(Ljava/lang/StringBuilder;)V"⟩
abbrev cJ0_length_8abf5 : ByteArray := prog_27_method_54_code
def yJ0_length_8abf5 : MethodName := ⟨RJ0, "length", "()I"⟩
abbrev cJ0_charAt_5068e : ByteArray := prog_27_method_56_code
def yJ0_charAt_5068e : MethodName := ⟨RJ0, "charAt", "(I)C"⟩
abbrev cJ0_getBytes_840e7 : ByteArray := prog_27_method_147_code
def yJ0_getBytes_840e7 : MethodName := ⟨RJ0, "getBytes", "([BIB)V"⟩
abbrev cJ0_init_db425 : ByteArray := prog_27_method_150_code
def yJ0_init_db425 : MethodName := ⟨RJ0, "<init>", "(Ljava/lang/AbstractStringBuilder;Ljava/lang/Void;)V"⟩
abbrev cJ0_coder_7d493 : ByteArray := prog_27_method_152_code
def yJ0_coder_7d493 : MethodName := ⟨RJ0, "coder", "()B"⟩
abbrev cJ0_isLatin1_aae02 : ByteArray := prog_27_method_154_code
def yJ0_isLatin1_aae02 : MethodName := ⟨RJ0, "isLatin1", "()Z"⟩
abbrev cJ0_checkIndex_df160 : ByteArray := prog_27_method_155_code
def yJ0_checkIndex_df160 : MethodName := ⟨RJ0, "checkIndex", "(II)V"⟩
abbrev cJ0_checkBoundsOffCount_cabcc : ByteArray := prog_27_method_157_code
def yJ0_checkBoundsOffCount_cabcc : MethodName := ⟨RJ0, "checkBoundsOffCount", "(III)I"⟩
abbrev cJ0_checkBoundsBeginEnd_23922 : ByteArray := prog_27_method_158_code
def yJ0_checkBoundsBeginEnd_23922 : MethodName := ⟨RJ0, "checkBoundsBeginEnd", "(III)V"⟩
def RJ4 : String := "java/lang/StringBuilder"
def TJ4 : u_T := fun k => match k with
  | 0 => ("java/lang/AbstractStringBuilder", "value", "[B", false)
  | 1 => ("java/lang/AbstractStringBuilder", "coder", "B", false)
  | 2 => ("java/lang/AbstractStringBuilder", "maybeLatin1", "Z", false)
  | _ => ("java/lang/AbstractStringBuilder", "count", "I", false)
def tyJ4 : Nat → FieldType := fun k => match k with
  | 0 => .array .byte
  | 1 => .byte
  | 2 => .boolean
  | _ => .int
theorem nmJ4 : ∀ a, a < 4 → ∀ b, b < 4 → a ≠ b → (TJ4 a).2.1 ≠ (TJ4 b).2.1 := by decide +kernel
theorem tyJ4_ok : ∀ k, k < 4 → parseFieldDescriptor (TJ4 k).2.2.1 = some (tyJ4 k) := by decide +kernel
abbrev cJ4_init_da8c8 : ByteArray := prog_28_method_1_code
def yJ4_init_da8c8 : MethodName := ⟨RJ4, "<init>", "()V"⟩
abbrev cJ4_append_15ec4 : ByteArray := prog_28_method_7_code
def yJ4_append_15ec4 : MethodName := ⟨RJ4, "append", "(Ljava/lang/String;)Ljava/lang/StringBuilder;"⟩
abbrev cJ4_append_cf468 : ByteArray := prog_28_method_14_code
def yJ4_append_cf468 : MethodName := ⟨RJ4, "append", "(C)Ljava/lang/StringBuilder;"⟩
abbrev cJ4_append_bf812 : ByteArray := prog_28_method_15_code
def yJ4_append_bf812 : MethodName := ⟨RJ4, "append", "(I)Ljava/lang/StringBuilder;"⟩
abbrev cJ4_toString_0e30d : ByteArray := prog_28_method_42_code
def yJ4_toString_0e30d : MethodName := ⟨RJ4, "toString", "()Ljava/lang/String;"⟩
abbrev cJ4_length_8abf5 : ByteArray := prog_28_method_93_code
def yJ4_length_8abf5 : MethodName := ⟨RJ4, "length", "()I"⟩
def RJ1 : String := "java/lang/StringLatin1"
def TJ1 : u_T := fun k => match k with
  | _ => ("", "", "", false)
def tyJ1 : Nat → FieldType := fun k => match k with
  | _ => .int
theorem nmJ1 : ∀ a, a < 0 → ∀ b, b < 0 → a ≠ b → (TJ1 a).2.1 ≠ (TJ1 b).2.1 := by decide +kernel
theorem tyJ1_ok : ∀ k, k < 0 → parseFieldDescriptor (TJ1 k).2.2.1 = some (tyJ1 k) := by decide +kernel
abbrev cJ1_charAt_3b067 : ByteArray := prog_29_method_2_code
def yJ1_charAt_3b067 : MethodName := ⟨RJ1, "charAt", "([BI)C"⟩
abbrev cJ1_canEncode_fc78d : ByteArray := prog_29_method_3_code
def yJ1_canEncode_fc78d : MethodName := ⟨RJ1, "canEncode", "(C)Z"⟩
abbrev cJ1_inflate_0e8fd : ByteArray := prog_29_method_50_code
def yJ1_inflate_0e8fd : MethodName := ⟨RJ1, "inflate", "([BI[BII)V"⟩
def RJ2 : String := "java/lang/StringUTF16"
def TJ2 : u_T := fun k => match k with
  | _ => ("", "", "", false)
def tyJ2 : Nat → FieldType := fun k => match k with
  | _ => .int
theorem nmJ2 : ∀ a, a < 0 → ∀ b, b < 0 → a ≠ b → (TJ2 a).2.1 ≠ (TJ2 b).2.1 := by decide +kernel
theorem tyJ2_ok : ∀ k, k < 0 → parseFieldDescriptor (TJ2 k).2.2.1 = some (tyJ2 k) := by decide +kernel
abbrev cJ2_newBytesFor_77867 : ByteArray := prog_30_method_2_code
def yJ2_newBytesFor_77867 : MethodName := ⟨RJ2, "newBytesFor", "(I)[B"⟩
abbrev cJ2_newBytesLength_0f7a4 : ByteArray := prog_30_method_3_code
def yJ2_newBytesLength_0f7a4 : MethodName := ⟨RJ2, "newBytesLength", "(I)I"⟩
abbrev cJ2_putChar_b72d1 : ByteArray := prog_30_method_4_code
def yJ2_putChar_b72d1 : MethodName := ⟨RJ2, "putChar", "([BII)V"⟩
abbrev cJ2_getChar_3b067 : ByteArray := prog_30_method_5_code
def yJ2_getChar_3b067 : MethodName := ⟨RJ2, "getChar", "([BI)C"⟩
abbrev cJ2_length_9d52b : ByteArray := prog_30_method_6_code
def yJ2_length_9d52b : MethodName := ⟨RJ2, "length", "([B)I"⟩
abbrev cJ2_coderFromArrayLen_85cad : ByteArray := prog_30_method_15_code
def yJ2_coderFromArrayLen_85cad : MethodName := ⟨RJ2, "coderFromArrayLen", "([BI)B"⟩
abbrev cJ2_compress_39247 : ByteArray := prog_30_method_17_code
def yJ2_compress_39247 : MethodName := ⟨RJ2, "compress", "([BII)[B"⟩
abbrev cJ2_compress_5af95 : ByteArray := prog_30_method_22_code
def yJ2_compress_5af95 : MethodName := ⟨RJ2, "compress", "([BI[BII)I"⟩
abbrev cJ2_putCharSB_b72d1 : ByteArray := prog_30_method_71_code
def yJ2_putCharSB_b72d1 : MethodName := ⟨RJ2, "putCharSB", "([BII)V"⟩
abbrev cJ2_getChars_46870 : ByteArray := prog_30_method_77_code
def yJ2_getChars_46870 : MethodName := ⟨RJ2, "getChars", "(III[B)I"⟩
abbrev cJ2_putCharsAt_cd4e5 : ByteArray := prog_30_method_81_code
def yJ2_putCharsAt_cd4e5 : MethodName := ⟨RJ2, "putCharsAt", "([BICCCC)I"⟩
abbrev cJ2_charAt_3b067 : ByteArray := prog_30_method_83_code
def yJ2_charAt_3b067 : MethodName := ⟨RJ2, "charAt", "([BI)C"⟩
abbrev cJ2_inflate_0e8fd : ByteArray := prog_30_method_86_code
def yJ2_inflate_0e8fd : MethodName := ⟨RJ2, "inflate", "([BI[BII)V"⟩
abbrev cJ2_getChars_ba4f3 : ByteArray := prog_30_method_89_code
def yJ2_getChars_ba4f3 : MethodName := ⟨RJ2, "getChars", "(II[B)I"⟩
abbrev cJ2_checkIndex_2214a : ByteArray := prog_30_method_91_code
def yJ2_checkIndex_2214a : MethodName := ⟨RJ2, "checkIndex", "(I[B)V"⟩
abbrev cJ2_checkBoundsBeginEnd_d044e : ByteArray := prog_30_method_93_code
def yJ2_checkBoundsBeginEnd_d044e : MethodName := ⟨RJ2, "checkBoundsBeginEnd", "(II[B)V"⟩
abbrev cJ2_checkBoundsOffCount_d044e : ByteArray := prog_30_method_94_code
def yJ2_checkBoundsOffCount_d044e : MethodName := ⟨RJ2, "checkBoundsOffCount", "(II[B)V"⟩
def RJ10 : String := "java/lang/System"
def TJ10 : u_T := fun k => match k with
  | _ => ("", "", "", false)
def tyJ10 : Nat → FieldType := fun k => match k with
  | _ => .int
theorem nmJ10 : ∀ a, a < 0 → ∀ b, b < 0 → a ≠ b → (TJ10 a).2.1 ≠ (TJ10 b).2.1 := by decide +kernel
theorem tyJ10_ok : ∀ k, k < 0 → parseFieldDescriptor (TJ10 k).2.2.1 = some (tyJ10 k) := by decide +kernel
def RJxfd54e : String := "java/lang/constant/Constable"
def TJxfd54e : u_T := fun k => match k with
  | _ => ("", "", "", false)
def tyJxfd54e : Nat → FieldType := fun k => match k with
  | _ => .int
theorem nmJxfd54e : ∀ a, a < 0 → ∀ b, b < 0 → a ≠ b → (TJxfd54e a).2.1 ≠ (TJxfd54e b).2.1 := by decide +kernel
theorem tyJxfd54e_ok : ∀ k, k < 0 → parseFieldDescriptor (TJxfd54e k).2.2.1 = some (tyJxfd54e k) := by decide +kernel
def RJx3cf43 : String := "java/lang/constant/ConstantDesc"
def TJx3cf43 : u_T := fun k => match k with
  | _ => ("", "", "", false)
def tyJx3cf43 : Nat → FieldType := fun k => match k with
  | _ => .int
theorem nmJx3cf43 : ∀ a, a < 0 → ∀ b, b < 0 → a ≠ b → (TJx3cf43 a).2.1 ≠ (TJx3cf43 b).2.1 := by decide +kernel
theorem tyJx3cf43_ok : ∀ k, k < 0 → parseFieldDescriptor (TJx3cf43 k).2.2.1 = some (tyJx3cf43 k) := by decide +kernel
def RJ7 : String := "java/util/Arrays"
def TJ7 : u_T := fun k => match k with
  | _ => ("", "", "", false)
def tyJ7 : Nat → FieldType := fun k => match k with
  | _ => .int
theorem nmJ7 : ∀ a, a < 0 → ∀ b, b < 0 → a ≠ b → (TJ7 a).2.1 ≠ (TJ7 b).2.1 := by decide +kernel
theorem tyJ7_ok : ∀ k, k < 0 → parseFieldDescriptor (TJ7 k).2.2.1 = some (tyJ7 k) := by decide +kernel
abbrev cJ7_copyOf_9075b : ByteArray := prog_36_method_121_code
def yJ7_copyOf_9075b : MethodName := ⟨RJ7, "copyOf", "([BI)[B"⟩
abbrev cJ7_checkLength_df160 : ByteArray := prog_36_method_131_code
def yJ7_checkLength_df160 : MethodName := ⟨RJ7, "checkLength", "(II)V"⟩
abbrev cJ7_copyOfRange_39247 : ByteArray := prog_36_method_132_code
def yJ7_copyOfRange_39247 : MethodName := ⟨RJ7, "copyOfRange", "([BII)[B"⟩
abbrev cJ7_copyOfRangeByte_39247 : ByteArray := prog_36_method_133_code
def yJ7_copyOfRangeByte_39247 : MethodName := ⟨RJ7, "copyOfRangeByte", "([BII)[B"⟩
def RJ8 : String := "jdk/internal/util/ArraysSupport"
def TJ8 : u_T := fun k => match k with
  | _ => ("", "", "", false)
def tyJ8 : Nat → FieldType := fun k => match k with
  | _ => .int
theorem nmJ8 : ∀ a, a < 0 → ∀ b, b < 0 → a ≠ b → (TJ8 a).2.1 ≠ (TJ8 b).2.1 := by decide +kernel
theorem tyJ8_ok : ∀ k, k < 0 → parseFieldDescriptor (TJ8 k).2.2.1 = some (tyJ8 k) := by decide +kernel
abbrev cJ8_newLength_cabcc : ByteArray := prog_38_method_27_code
def yJ8_newLength_cabcc : MethodName := ⟨RJ8, "newLength", "(III)I"⟩
abbrev cJ8_hugeLength_7cf53 : ByteArray := prog_38_method_28_code
def yJ8_hugeLength_7cf53 : MethodName := ⟨RJ8, "hugeLength", "(II)I"⟩
def RJ3 : String := "jdk/internal/util/Preconditions"
def TJ3 : u_T := fun k => match k with
  | _ => ("", "", "", false)
def tyJ3 : Nat → FieldType := fun k => match k with
  | _ => .int
theorem nmJ3 : ∀ a, a < 0 → ∀ b, b < 0 → a ≠ b → (TJ3 a).2.1 ≠ (TJ3 b).2.1 := by decide +kernel
theorem tyJ3_ok : ∀ k, k < 0 → parseFieldDescriptor (TJ3 k).2.2.1 = some (tyJ3 k) := by decide +kernel
abbrev cJ3_checkIndex_8e157 : ByteArray := prog_39_method_11_code
def yJ3_checkIndex_8e157 : MethodName := ⟨RJ3, "checkIndex", "(IILjava/util/function/BiFunction;)I"⟩
abbrev cJ3_checkFromToIndex_8c36e : ByteArray := prog_39_method_12_code
def yJ3_checkFromToIndex_8c36e : MethodName := ⟨RJ3, "checkFromToIndex", "(IIILjava/util/function/BiFunction;)I"⟩
abbrev cJ3_checkFromIndexSize_8c36e : ByteArray := prog_39_method_13_code
def yJ3_checkFromIndexSize_8c36e : MethodName := ⟨RJ3, "checkFromIndexSize", "(IIILjava/util/function/BiFunction;)I"⟩
def RL : String := "CensusLoomLaw"
abbrev cL_addBlock : ByteArray := method_3_code
def yL_addBlock : MethodName := ⟨RL, "addBlock", "(LCensusLoom;[J)I"⟩
abbrev cL_addAddress : ByteArray := method_4_code
def yL_addAddress : MethodName := ⟨RL, "addAddress", "(LCensusLoom;I[J)I"⟩
abbrev cL_split : ByteArray := method_5_code
def yL_split : MethodName := ⟨RL, "split", "(LCensusLoom;II[J)I"⟩
abbrev cL_join : ByteArray := method_6_code
def yL_join : MethodName := ⟨RL, "join", "(LCensusLoom;II[J)I"⟩
abbrev cL_addRecord : ByteArray := method_7_code
def yL_addRecord : MethodName := ⟨RL, "addRecord", "(LCensusLoom;CIII[J)I"⟩
abbrev cL_blockOf : ByteArray := method_8_code
def yL_blockOf : MethodName := ⟨RL, "blockOf", "(LCensusLoom;I[J)I"⟩
abbrev cL_setPoints : ByteArray := method_9_code
def yL_setPoints : MethodName := ⟨RL, "setPoints", "(LCensusLoom;CI[J)I"⟩
abbrev cL_setBounds : ByteArray := method_10_code
def yL_setBounds : MethodName := ⟨RL, "setBounds", "(LCensusLoom;II[J)I"⟩
abbrev cL_score : ByteArray := method_11_code
def yL_score : MethodName := ⟨RL, "score", "(LCensusLoom;II[J)I"⟩
abbrev cL_decide : ByteArray := method_12_code
def yL_decide : MethodName := ⟨RL, "decide", "(LCensusLoom;IIZ[J)I"⟩
abbrev cL_takeBack : ByteArray := method_13_code
def yL_takeBack : MethodName := ⟨RL, "takeBack", "(LCensusLoom;II[J)I"⟩
abbrev cL_link : ByteArray := method_14_code
def yL_link : MethodName := ⟨RL, "link", "(LCensusLoom;II[J)I"⟩
abbrev cL_isDouble : ByteArray := method_15_code
def yL_isDouble : MethodName := ⟨RL, "isDouble", "(LCensusLoom;I[J)I"⟩
abbrev cL_matchOf : ByteArray := method_16_code
def yL_matchOf : MethodName := ⟨RL, "matchOf", "(LCensusLoom;I[J)I"⟩
abbrev cL_count : ByteArray := method_17_code
def yL_count : MethodName := ⟨RL, "count", "(LCensusLoom;II[J)I"⟩
abbrev cL_countAnew : ByteArray := method_18_code
def yL_countAnew : MethodName := ⟨RL, "countAnew", "(LCensusLoom;II[J)I"⟩
abbrev cL_estimate : ByteArray := method_19_code
def yL_estimate : MethodName := ⟨RL, "estimate", "(LCensusLoom;[J)I"⟩
abbrev cL_doubleShare : ByteArray := method_20_code
def yL_doubleShare : MethodName := ⟨RL, "doubleShare", "(LCensusLoom;[D)I"⟩
abbrev cL_meanScore : ByteArray := method_21_code
def yL_meanScore : MethodName := ⟨RL, "meanScore", "(LCensusLoom;[D)I"⟩
abbrev cL_tell : ByteArray := method_22_code
def yL_tell : MethodName := ⟨RL, "tell", "(LCensusLoom;[J)I"⟩
abbrev cL_stateOf : ByteArray := method_23_code
def yL_stateOf : MethodName := ⟨RL, "stateOf", "(LCensusLoom;I[J)I"⟩
abbrev cL_isHidden : ByteArray := method_24_code
def yL_isHidden : MethodName := ⟨RL, "isHidden", "(LCensusLoom;III[J)I"⟩
abbrev cL_cell : ByteArray := method_25_code
def yL_cell : MethodName := ⟨RL, "cell", "(LCensusLoom;III[J)I"⟩
abbrev cL_blockSum : ByteArray := method_26_code
def yL_blockSum : MethodName := ⟨RL, "blockSum", "(LCensusLoom;II[J)I"⟩
abbrev cL_groupSum : ByteArray := method_27_code
def yL_groupSum : MethodName := ⟨RL, "groupSum", "(LCensusLoom;II[J)I"⟩
abbrev cL_holes : ByteArray := method_28_code
def yL_holes : MethodName := ⟨RL, "holes", "(LCensusLoom;I[J)I"⟩
abbrev cL_isAtRisk : ByteArray := method_29_code
def yL_isAtRisk : MethodName := ⟨RL, "isAtRisk", "(LCensusLoom;III[J)I"⟩
abbrev cL_found : ByteArray := method_30_code
def yL_found : MethodName := ⟨RL, "found", "(LCensusLoom;I[J)I"⟩
abbrev cL_foundByWays : ByteArray := method_31_code
def yL_foundByWays : MethodName := ⟨RL, "foundByWays", "(LCensusLoom;I[J)I"⟩
abbrev cL_lineLength : ByteArray := method_32_code
def yL_lineLength : MethodName := ⟨RL, "lineLength", "(LCensusLoom;I[J)I"⟩
abbrev cL_lineAt : ByteArray := method_33_code
def yL_lineAt : MethodName := ⟨RL, "lineAt", "(LCensusLoom;II[J)I"⟩
abbrev cL_law : ByteArray := code
def yL_law : MethodName := ⟨RL, "law", "([I)Z"⟩
abbrev vwCl : List vw_C := [(RJ0, TJ0, 4), (RJ4, TJ4, 4), (RJx00060, TJx00060, 6), (RX1, TX1, 7), (RX2, TX2, 10), (RX3, TX3, 6), (RX4, TX4, 3), (RX5, TX5, 5), (RX6, TX6, 6), (RX7, TX7, 8), (RX8, TX8, 26)]
end
section
def dlX0_has_0 : List (Nat × Instr × Nat) := [(0, .iload_n 0, 1), (1, .iconst 1, 1), (2, .iload_n 1, 1), (3, .ishl, 1), (4, .iand, 1), (5, .ifCond .eq 7, 3), (8, .iconst 1, 1), (9, .goto 4, 3), (12, .iconst 0, 1), (13, .ireturn, 1)]
theorem dtX0_has_0 : ∀ q ∈ dlX0_has_0, decode cX0_has q.1 = .ok q.2 := by decide +kernel
def dlX0_blockEnd_0 : List (Nat × Instr × Nat) := [(0, .iconst 1, 1), (1, .iload_n 0, 1), (2, .iconst 4, 1), (3, .idiv, 1), (4, .ishl, 1), (5, .ireturn, 1)]
theorem dtX0_blockEnd_0 : ∀ q ∈ dlX0_blockEnd_0, decode cX0_blockEnd q.1 = .ok q.2 := by decide +kernel
def dlX0_groupEnd_0 : List (Nat × Instr × Nat) := [(0, .iconst 1, 1), (1, .bipush 6, 2), (3, .iload_n 0, 1), (4, .iconst 4, 1), (5, .irem, 1), (6, .iadd, 1), (7, .ishl, 1), (8, .ireturn, 1)]
theorem dtX0_groupEnd_0 : ∀ q ∈ dlX0_groupEnd_0, decode cX0_groupEnd q.1 = .ok q.2 := by decide +kernel
def dlX0_endsOf_0 : List (Nat × Instr × Nat) := [(0, .iload_n 0, 1), (1, .invokestatic 9, 3), (4, .iload_n 0, 1), (5, .invokestatic 15, 3), (8, .ior, 1), (9, .ireturn, 1)]
theorem dtX0_endsOf_0 : ∀ q ∈ dlX0_endsOf_0, decode cX0_endsOf q.1 = .ok q.2 := by decide +kernel
def dlX0_endsInBlock_0 : List (Nat × Instr × Nat) := [(0, .iload_n 0, 1), (1, .iload_n 1, 1), (2, .iconst 4, 1), (3, .imul, 1), (4, .ishr, 1), (5, .bipush 15, 2), (7, .iand, 1), (8, .istore_n 2, 1), (9, .iload_n 2, 1), (10, .bipush 6, 2), (12, .ishl, 1), (13, .iconst 1, 1), (14, .iload_n 1, 1), (15, .ishl, 1), (16, .ior, 1), (17, .ireturn, 1)]
theorem dtX0_endsInBlock_0 : ∀ q ∈ dlX0_endsInBlock_0, decode cX0_endsInBlock q.1 = .ok q.2 := by decide +kernel
def dlX0_smallCells_0 : List (Nat × Instr × Nat) := [(0, .iconst 0, 1), (1, .istore_n 1, 1), (2, .iconst 0, 1), (3, .istore_n 2, 1), (4, .iload_n 2, 1), (5, .bipush 24, 2), (7, .if_icmp .ge 28, 3), (10, .aload_n 0, 1), (11, .iload_n 2, 1), (12, .iaload, 1), (13, .ifCond .le 16, 3), (16, .aload_n 0, 1), (17, .iload_n 2, 1), (18, .iaload, 1), (19, .iconst 2, 1), (20, .if_icmp .gt 9, 3), (23, .iload_n 1, 1), (24, .iconst 1, 1), (25, .iload_n 2, 1), (26, .ishl, 1), (27, .ior, 1), (28, .istore_n 1, 1), (29, .iinc 2 1, 3), (32, .goto (-28), 3), (35, .iload_n 1, 1), (36, .ireturn, 1)]
theorem dtX0_smallCells_0 : ∀ q ∈ dlX0_smallCells_0, decode cX0_smallCells q.1 = .ok q.2 := by decide +kernel
def dlX0_choose_0 : List (Nat × Instr × Nat) := [(0, .aload_n 0, 1), (1, .invokestatic 18, 3), (4, .istore_n 1, 1), (5, .iconst 0, 1), (6, .istore_n 2, 1), (7, .iload_n 2, 1), (8, .bipush 24, 2), (10, .if_icmp .gt 44, 3), (13, .iload_n 1, 1), (14, .invokestatic 22, 3), (17, .istore_n 3, 1), (18, .iload_n 3, 1), (19, .iconst (-1), 1), (20, .if_icmp .ne 5, 3), (23, .iload_n 1, 1), (24, .ireturn, 1), (25, .aload_n 0, 1), (26, .iload_n 1, 1), (27, .iload_n 3, 1), (28, .invokestatic 25, 3), (31, .istore 4, 2), (33, .iload 4, 2), (35, .iconst (-1), 1), (36, .if_icmp .ne 5, 3), (39, .iconst (-1), 1), (40, .ireturn, 1), (41, .iload_n 1, 1), (42, .iconst 1, 1), (43, .iload 4, 2), (45, .ishl, 1), (46, .ior, 1), (47, .istore_n 1, 1), (48, .iinc 2 1, 3), (51, .goto (-44), 3), (54, .iconst (-1), 1), (55, .ireturn, 1)]
theorem dtX0_choose_0 : ∀ q ∈ dlX0_choose_0, decode cX0_choose q.1 = .ok q.2 := by decide +kernel
def dlX0_firstFound_0 : List (Nat × Instr × Nat) := [(0, .iconst 0, 1), (1, .istore_n 1, 1), (2, .iload_n 1, 1), (3, .bipush 24, 2), (5, .if_icmp .ge 27, 3), (8, .iload_n 0, 1), (9, .iload_n 1, 1), (10, .invokestatic 29, 3), (13, .ifCond .eq 13, 3), (16, .iload_n 0, 1), (17, .iload_n 1, 1), (18, .invokestatic 33, 3), (21, .ifCond .eq 5, 3), (24, .iload_n 1, 1), (25, .ireturn, 1), (26, .iinc 1 1, 3), (29, .goto (-27), 3), (32, .iconst (-1), 1), (33, .ireturn, 1)]
theorem dtX0_firstFound_0 : ∀ q ∈ dlX0_firstFound_0, decode cX0_firstFound q.1 = .ok q.2 := by decide +kernel
def dlX0_nextToHide_0 : List (Nat × Instr × Nat) := [(0, .iload_n 1, 1), (1, .iconst 1, 1), (2, .iload_n 2, 1), (3, .ishl, 1), (4, .iconst (-1), 1), (5, .ixor, 1), (6, .iand, 1), (7, .istore_n 3, 1), (8, .iload_n 2, 1), (9, .invokestatic 9, 3), (12, .iload_n 3, 1), (13, .invokestatic 36, 3), (16, .istore 4, 2), (18, .iload_n 2, 1), (19, .invokestatic 15, 3), (22, .iload_n 3, 1), (23, .invokestatic 36, 3), (26, .istore 5, 2), (28, .iconst 0, 1), (29, .istore 6, 2), (31, .iconst 0, 1), (32, .istore 7, 2), (34, .iconst 0, 1), (35, .istore 8, 2), (37, .iload 8, 2), (39, .bipush 24, 2), (41, .if_icmp .ge 65, 3), (44, .aload_n 0, 1), (45, .iload 8, 2), (47, .iaload, 1), (48, .ifCond .le 52, 3), (51, .iload_n 1, 1), (52, .iload 8, 2), (54, .invokestatic 29, 3), (57, .ifCond .ne 43, 3), (60, .iload 6, 2), (62, .iconst 1, 1), (63, .iload 8, 2), (65, .ishl, 1), (66, .ior, 1), (67, .istore 6, 2), (69, .iload 8, 2), (71, .invokestatic 40, 3), (74, .iload 4, 2), (76, .iand, 1), (77, .ifCond .eq 23, 3), (80, .iload 8, 2), (82, .invokestatic 40, 3), (85, .iload 5, 2), (87, .iand, 1), (88, .ifCond .eq 12, 3), (91, .iload 7, 2), (93, .iconst 1, 1), (94, .iload 8, 2), (96, .ishl, 1), (97, .ior, 1), (98, .istore 7, 2), (100, .iinc 8 1, 3), (103, .goto (-66), 3), (106, .aload_n 0, 1)]
theorem dtX0_nextToHide_0 : ∀ q ∈ dlX0_nextToHide_0, decode cX0_nextToHide q.1 = .ok q.2 := by decide +kernel
def dlX0_nextToHide_1 : List (Nat × Instr × Nat) := [(107, .iload 7, 2), (109, .ifCond .eq 8, 3), (112, .iload 7, 2), (114, .goto 5, 3), (117, .iload 6, 2), (119, .invokestatic 43, 3), (122, .ireturn, 1)]
theorem dtX0_nextToHide_1 : ∀ q ∈ dlX0_nextToHide_1, decode cX0_nextToHide q.1 = .ok q.2 := by decide +kernel
def dlX0_leastOf_0 : List (Nat × Instr × Nat) := [(0, .iconst (-1), 1), (1, .istore_n 2, 1), (2, .iconst 0, 1), (3, .istore_n 3, 1), (4, .iload_n 3, 1), (5, .bipush 24, 2), (7, .if_icmp .ge 33, 3), (10, .iload_n 1, 1), (11, .iload_n 3, 1), (12, .invokestatic 29, 3), (15, .ifCond .eq 19, 3), (18, .iload_n 2, 1), (19, .iconst (-1), 1), (20, .if_icmp .eq 12, 3), (23, .aload_n 0, 1), (24, .iload_n 3, 1), (25, .iaload, 1), (26, .aload_n 0, 1), (27, .iload_n 2, 1), (28, .iaload, 1), (29, .if_icmp .ge 5, 3), (32, .iload_n 3, 1), (33, .istore_n 2, 1), (34, .iinc 3 1, 3), (37, .goto (-33), 3), (40, .iload_n 2, 1), (41, .ireturn, 1)]
theorem dtX0_leastOf_0 : ∀ q ∈ dlX0_leastOf_0, decode cX0_leastOf q.1 = .ok q.2 := by decide +kernel
def dlX0_tiedTo_0 : List (Nat × Instr × Nat) := [(0, .iload_n 0, 1), (1, .istore_n 2, 1), (2, .iconst 0, 1), (3, .istore_n 3, 1), (4, .iload_n 3, 1), (5, .bipush 10, 2), (7, .if_icmp .ge 56, 3), (10, .iload_n 2, 1), (11, .istore 4, 2), (13, .iconst 0, 1), (14, .istore 5, 2), (16, .iload 5, 2), (18, .bipush 6, 2), (20, .if_icmp .ge 29, 3), (23, .iload_n 1, 1), (24, .iload 5, 2), (26, .invokestatic 47, 3), (29, .istore 6, 2), (31, .iload 6, 2), (33, .iload_n 2, 1), (34, .iand, 1), (35, .ifCond .eq 8, 3), (38, .iload_n 2, 1), (39, .iload 6, 2), (41, .ior, 1), (42, .istore_n 2, 1), (43, .iinc 5 1, 3), (46, .goto (-30), 3), (49, .iload_n 2, 1), (50, .iload 4, 2), (52, .if_icmp .ne 5, 3), (55, .iload_n 2, 1), (56, .ireturn, 1), (57, .iinc 3 1, 3), (60, .goto (-56), 3), (63, .iload_n 2, 1), (64, .ireturn, 1)]
theorem dtX0_tiedTo_0 : ∀ q ∈ dlX0_tiedTo_0, decode cX0_tiedTo q.1 = .ok q.2 := by decide +kernel
def dlX0_isFound_0 : List (Nat × Instr × Nat) := [(0, .iload_n 1, 1), (1, .invokestatic 9, 3), (4, .iload_n 0, 1), (5, .iconst 1, 1), (6, .iload_n 1, 1), (7, .ishl, 1), (8, .iconst (-1), 1), (9, .ixor, 1), (10, .iand, 1), (11, .invokestatic 36, 3), (14, .istore_n 2, 1), (15, .iload_n 2, 1), (16, .iload_n 1, 1), (17, .invokestatic 15, 3), (20, .iand, 1), (21, .ifCond .ne 7, 3), (24, .iconst 1, 1), (25, .goto 4, 3), (28, .iconst 0, 1), (29, .ireturn, 1)]
theorem dtX0_isFound_0 : ∀ q ∈ dlX0_isFound_0, decode cX0_isFound q.1 = .ok q.2 := by decide +kernel
def dlX0_numberFound_0 : List (Nat × Instr × Nat) := [(0, .iconst 0, 1), (1, .istore_n 1, 1), (2, .iconst 0, 1), (3, .istore_n 2, 1), (4, .iload_n 2, 1), (5, .bipush 24, 2), (7, .if_icmp .ge 28, 3), (10, .iload_n 0, 1), (11, .iload_n 2, 1), (12, .invokestatic 29, 3), (15, .ifCond .eq 14, 3), (18, .iload_n 0, 1), (19, .iload_n 2, 1), (20, .invokestatic 33, 3), (23, .ifCond .eq 6, 3), (26, .iinc 1 1, 3), (29, .iinc 2 1, 3), (32, .goto (-28), 3), (35, .iload_n 1, 1), (36, .ireturn, 1)]
theorem dtX0_numberFound_0 : ∀ q ∈ dlX0_numberFound_0, decode cX0_numberFound q.1 = .ok q.2 := by decide +kernel
def dlX0_numberWithoutWay_0 : List (Nat × Instr × Nat) := [(0, .iconst 0, 1), (1, .istore_n 1, 1), (2, .iconst 0, 1), (3, .istore_n 2, 1), (4, .iload_n 2, 1), (5, .bipush 24, 2), (7, .if_icmp .ge 28, 3), (10, .iload_n 0, 1), (11, .iload_n 2, 1), (12, .invokestatic 29, 3), (15, .ifCond .eq 14, 3), (18, .iload_n 0, 1), (19, .iload_n 2, 1), (20, .invokestatic 50, 3), (23, .ifCond .ne 6, 3), (26, .iinc 1 1, 3), (29, .iinc 2 1, 3), (32, .goto (-28), 3), (35, .iload_n 1, 1), (36, .ireturn, 1)]
theorem dtX0_numberWithoutWay_0 : ∀ q ∈ dlX0_numberWithoutWay_0, decode cX0_numberWithoutWay q.1 = .ok q.2 := by decide +kernel
def dlX0_hasClosedWay_0 : List (Nat × Instr × Nat) := [(0, .iload_n 0, 1), (1, .iconst 1, 1), (2, .iload_n 1, 1), (3, .ishl, 1), (4, .iconst (-1), 1), (5, .ixor, 1), (6, .iand, 1), (7, .istore_n 2, 1), (8, .iconst 1, 1), (9, .iload_n 1, 1), (10, .ishl, 1), (11, .istore_n 3, 1), (12, .iconst 0, 1), (13, .istore 4, 2), (15, .iload 4, 2), (17, .bipush 24, 2), (19, .if_icmp .ge 58, 3), (22, .iload_n 3, 1), (23, .ifCond .eq 54, 3), (26, .iload 4, 2), (28, .iconst 2, 1), (29, .irem, 1), (30, .ifCond .ne 7, 3), (33, .iconst 1, 1), (34, .goto 4, 3), (37, .iconst 0, 1), (38, .istore 5, 2), (40, .iload_n 3, 1), (41, .iload 5, 2), (43, .invokestatic 53, 3), (46, .iload_n 2, 1), (47, .iand, 1), (48, .istore_n 3, 1), (49, .iload_n 2, 1), (50, .iload_n 3, 1), (51, .iconst (-1), 1), (52, .ixor, 1), (53, .iand, 1), (54, .istore_n 2, 1), (55, .iload 5, 2), (57, .ifCond .eq 14, 3), (60, .iload_n 3, 1), (61, .iload_n 1, 1), (62, .invokestatic 57, 3), (65, .iand, 1), (66, .ifCond .eq 5, 3), (69, .iconst 1, 1), (70, .ireturn, 1), (71, .iinc 4 1, 3), (74, .goto (-59), 3), (77, .iconst 0, 1), (78, .ireturn, 1)]
theorem dtX0_hasClosedWay_0 : ∀ q ∈ dlX0_hasClosedWay_0, decode cX0_hasClosedWay q.1 = .ok q.2 := by decide +kernel
def dlX0_besides_0 : List (Nat × Instr × Nat) := [(0, .iconst 0, 1), (1, .istore_n 2, 1), (2, .iconst 0, 1), (3, .istore_n 3, 1), (4, .iload_n 3, 1), (5, .bipush 24, 2), (7, .if_icmp .ge 35, 3), (10, .iload_n 0, 1), (11, .iload_n 3, 1), (12, .invokestatic 29, 3), (15, .ifCond .eq 21, 3), (18, .iload_n 2, 1), (19, .iload_n 1, 1), (20, .ifCond .eq 10, 3), (23, .iload_n 3, 1), (24, .invokestatic 60, 3), (27, .goto 7, 3), (30, .iload_n 3, 1), (31, .invokestatic 57, 3), (34, .ior, 1), (35, .istore_n 2, 1), (36, .iinc 3 1, 3), (39, .goto (-35), 3), (42, .iload_n 2, 1), (43, .ireturn, 1)]
theorem dtX0_besides_0 : ∀ q ∈ dlX0_besides_0, decode cX0_besides q.1 = .ok q.2 := by decide +kernel
def dlX0_cellsOfBlock_0 : List (Nat × Instr × Nat) := [(0, .bipush 15, 2), (2, .iload_n 0, 1), (3, .iload_n 0, 1), (4, .iconst 4, 1), (5, .irem, 1), (6, .isub, 1), (7, .ishl, 1), (8, .ireturn, 1)]
theorem dtX0_cellsOfBlock_0 : ∀ q ∈ dlX0_cellsOfBlock_0, decode cX0_cellsOfBlock q.1 = .ok q.2 := by decide +kernel
def dlX0_cellsOfGroup_0 : List (Nat × Instr × Nat) := [(0, .ldc 63, 2), (2, .iload_n 0, 1), (3, .iconst 4, 1), (4, .irem, 1), (5, .ishl, 1), (6, .ireturn, 1)]
theorem dtX0_cellsOfGroup_0 : ∀ q ∈ dlX0_cellsOfGroup_0, decode cX0_cellsOfGroup q.1 = .ok q.2 := by decide +kernel
def dlX1_init_0 : List (Nat × Instr × Nat) := [(0, .aload_n 0, 1), (1, .invokespecial 3, 3), (4, .aload_n 0, 1), (5, .sipush 1600, 3), (8, .newarray .char, 2), (10, .putfield 9, 3), (13, .aload_n 0, 1), (14, .iconst 5, 1), (15, .putfield 15, 3), (18, .aload_n 0, 1), (19, .iconst 4, 1), (20, .putfield 19, 3), (23, .aload_n 0, 1), (24, .iconst 3, 1), (25, .putfield 22, 3), (28, .aload_n 0, 1), (29, .bipush 6, 2), (31, .putfield 25, 3), (34, .aload_n 0, 1), (35, .bipush 9, 2), (37, .putfield 28, 3), (40, .aload_n 0, 1), (41, .aload_n 1, 1), (42, .putfield 31, 3), (45, .iconst 0, 1), (46, .istore_n 2, 1), (47, .iload_n 2, 1), (48, .aload_n 0, 1), (49, .getfield 9, 3), (52, .arraylength, 1), (53, .if_icmp .ge 17, 3), (56, .aload_n 0, 1), (57, .getfield 9, 3), (60, .iload_n 2, 1), (61, .bipush 45, 2), (63, .castore, 1), (64, .iinc 2 1, 3), (67, .goto (-20), 3), (70, .return_, 1)]
theorem dtX1_init_0 : ∀ q ∈ dlX1_init_0, decode cX1_init q.1 = .ok q.2 := by decide +kernel
def dlX1_changePoints_0 : List (Nat × Instr × Nat) := [(0, .iload_n 1, 1), (1, .bipush 110, 2), (3, .if_icmp .ne 16, 3), (6, .aload_n 0, 1), (7, .getfield 15, 3), (10, .istore_n 3, 1), (11, .aload_n 0, 1), (12, .iload_n 2, 1), (13, .putfield 15, 3), (16, .goto 32, 3), (19, .iload_n 1, 1), (20, .bipush 121, 2), (22, .if_icmp .ne 16, 3), (25, .aload_n 0, 1), (26, .getfield 19, 3), (29, .istore_n 3, 1), (30, .aload_n 0, 1), (31, .iload_n 2, 1), (32, .putfield 19, 3), (35, .goto 13, 3), (38, .aload_n 0, 1), (39, .getfield 22, 3), (42, .istore_n 3, 1), (43, .aload_n 0, 1), (44, .iload_n 2, 1), (45, .putfield 22, 3), (48, .iload_n 3, 1), (49, .ireturn, 1)]
theorem dtX1_changePoints_0 : ∀ q ∈ dlX1_changePoints_0, decode cX1_changePoints q.1 = .ok q.2 := by decide +kernel
def dlX1_bestScore_0 : List (Nat × Instr × Nat) := [(0, .aload_n 0, 1), (1, .getfield 15, 3), (4, .aload_n 0, 1), (5, .getfield 19, 3), (8, .iadd, 1), (9, .aload_n 0, 1), (10, .getfield 22, 3), (13, .iadd, 1), (14, .ireturn, 1)]
theorem dtX1_bestScore_0 : ∀ q ∈ dlX1_bestScore_0, decode cX1_bestScore q.1 = .ok q.2 := by decide +kernel
def dlX1_scoreOf_0 : List (Nat × Instr × Nat) := [(0, .aload_n 0, 1), (1, .getfield 31, 3), (4, .getfield 35, 3), (7, .iload_n 1, 1), (8, .iaload, 1), (9, .aload_n 0, 1), (10, .getfield 31, 3), (13, .getfield 35, 3), (16, .iload_n 2, 1), (17, .iaload, 1), (18, .if_icmp .ne 7, 3), (21, .iconst 1, 1), (22, .goto 4, 3), (25, .iconst 0, 1), (26, .istore_n 3, 1), (27, .aload_n 0, 1), (28, .getfield 31, 3), (31, .iload_n 1, 1), (32, .invokevirtual 41, 3), (35, .aload_n 0, 1), (36, .getfield 31, 3), (39, .iload_n 2, 1), (40, .invokevirtual 41, 3), (43, .if_icmp .ne 7, 3), (46, .iconst 1, 1), (47, .goto 4, 3), (50, .iconst 0, 1), (51, .istore 4, 2), (53, .aload_n 0, 1), (54, .aload_n 0, 1), (55, .getfield 31, 3), (58, .getfield 45, 3), (61, .iload_n 1, 1), (62, .iaload, 1), (63, .aload_n 0, 1), (64, .getfield 31, 3), (67, .getfield 45, 3), (70, .iload_n 2, 1), (71, .iaload, 1), (72, .invokevirtual 48, 3), (75, .aload_n 0, 1), (76, .aload_n 0, 1), (77, .getfield 31, 3), (80, .getfield 52, 3), (83, .iload_n 1, 1), (84, .iaload, 1), (85, .aload_n 0, 1), (86, .getfield 31, 3), (89, .getfield 52, 3), (92, .iload_n 2, 1), (93, .iaload, 1), (94, .isub, 1), (95, .invokevirtual 55, 3), (98, .iadd, 1), (99, .aload_n 0, 1), (100, .iload_n 3, 1), (101, .iload 4, 2), (103, .invokevirtual 58, 3), (106, .iadd, 1), (107, .ireturn, 1)]
theorem dtX1_scoreOf_0 : ∀ q ∈ dlX1_scoreOf_0, decode cX1_scoreOf q.1 = .ok q.2 := by decide +kernel
def dlX1_nameScore_0 : List (Nat × Instr × Nat) := [(0, .iload_n 1, 1), (1, .iload_n 2, 1), (2, .if_icmp .ne 8, 3), (5, .aload_n 0, 1), (6, .getfield 15, 3), (9, .ireturn, 1), (10, .iload_n 1, 1), (11, .bipush 10, 2), (13, .idiv, 1), (14, .iload_n 2, 1), (15, .bipush 10, 2), (17, .idiv, 1), (18, .if_icmp .ne 12, 3), (21, .aload_n 0, 1), (22, .getfield 15, 3), (25, .iconst 2, 1), (26, .idiv, 1), (27, .goto 4, 3), (30, .iconst 0, 1), (31, .ireturn, 1)]
theorem dtX1_nameScore_0 : ∀ q ∈ dlX1_nameScore_0, decode cX1_nameScore q.1 = .ok q.2 := by decide +kernel
def dlX1_yearScore_0 : List (Nat × Instr × Nat) := [(0, .iload_n 1, 1), (1, .ifCond .ne 8, 3), (4, .aload_n 0, 1), (5, .getfield 19, 3), (8, .ireturn, 1), (9, .iload_n 1, 1), (10, .iconst 1, 1), (11, .if_icmp .eq 8, 3), (14, .iload_n 1, 1), (15, .iconst (-1), 1), (16, .if_icmp .ne 12, 3), (19, .aload_n 0, 1), (20, .getfield 19, 3), (23, .iconst 2, 1), (24, .idiv, 1), (25, .goto 4, 3), (28, .iconst 0, 1), (29, .ireturn, 1)]
theorem dtX1_yearScore_0 : ∀ q ∈ dlX1_yearScore_0, decode cX1_yearScore q.1 = .ok q.2 := by decide +kernel
def dlX1_placeScore_0 : List (Nat × Instr × Nat) := [(0, .iload_n 1, 1), (1, .ifCond .eq 8, 3), (4, .aload_n 0, 1), (5, .getfield 22, 3), (8, .ireturn, 1), (9, .iload_n 2, 1), (10, .ifCond .eq 12, 3), (13, .aload_n 0, 1), (14, .getfield 22, 3), (17, .iconst 2, 1), (18, .idiv, 1), (19, .goto 4, 3), (22, .iconst 0, 1), (23, .ireturn, 1)]
theorem dtX1_placeScore_0 : ∀ q ∈ dlX1_placeScore_0, decode cX1_placeScore q.1 = .ok q.2 := by decide +kernel
def dlX1_placeOfPair_0 : List (Nat × Instr × Nat) := [(0, .iload_n 1, 1), (1, .iload_n 2, 1), (2, .invokestatic 62, 3), (5, .bipush 40, 2), (7, .imul, 1), (8, .iload_n 1, 1), (9, .iload_n 2, 1), (10, .invokestatic 67, 3), (13, .iadd, 1), (14, .ireturn, 1)]
theorem dtX1_placeOfPair_0 : ∀ q ∈ dlX1_placeOfPair_0, decode cX1_placeOfPair q.1 = .ok q.2 := by decide +kernel
def dlX1_isDecided_0 : List (Nat × Instr × Nat) := [(0, .aload_n 0, 1), (1, .getfield 9, 3), (4, .aload_n 0, 1), (5, .iload_n 1, 1), (6, .iload_n 2, 1), (7, .invokevirtual 70, 3), (10, .caload, 1), (11, .bipush 45, 2), (13, .if_icmp .eq 7, 3), (16, .iconst 1, 1), (17, .goto 4, 3), (20, .iconst 0, 1), (21, .ireturn, 1)]
theorem dtX1_isDecided_0 : ∀ q ∈ dlX1_isDecided_0, decode cX1_isDecided q.1 = .ok q.2 := by decide +kernel
def dlX1_putDecision_0 : List (Nat × Instr × Nat) := [(0, .aload_n 0, 1), (1, .getfield 9, 3), (4, .aload_n 0, 1), (5, .iload_n 1, 1), (6, .iload_n 2, 1), (7, .invokevirtual 70, 3), (10, .iload_n 3, 1), (11, .castore, 1), (12, .return_, 1)]
theorem dtX1_putDecision_0 : ∀ q ∈ dlX1_putDecision_0, decode cX1_putDecision q.1 = .ok q.2 := by decide +kernel
def dlX1_kindOf_0 : List (Nat × Instr × Nat) := [(0, .aload_n 0, 1), (1, .getfield 9, 3), (4, .aload_n 0, 1), (5, .iload_n 1, 1), (6, .iload_n 2, 1), (7, .invokevirtual 70, 3), (10, .caload, 1), (11, .istore_n 3, 1), (12, .iload_n 3, 1), (13, .bipush 45, 2), (15, .if_icmp .eq 5, 3), (18, .iload_n 3, 1), (19, .ireturn, 1), (20, .aload_n 0, 1), (21, .iload_n 1, 1), (22, .iload_n 2, 1), (23, .invokevirtual 73, 3), (26, .istore 4, 2), (28, .iload 4, 2), (30, .aload_n 0, 1), (31, .getfield 28, 3), (34, .if_icmp .lt 6, 3), (37, .bipush 121, 2), (39, .ireturn, 1), (40, .iload 4, 2), (42, .aload_n 0, 1), (43, .getfield 25, 3), (46, .if_icmp .lt 8, 3), (49, .bipush 63, 2), (51, .goto 5, 3), (54, .bipush 110, 2), (56, .ireturn, 1)]
theorem dtX1_kindOf_0 : ∀ q ∈ dlX1_kindOf_0, decode cX1_kindOf q.1 = .ok q.2 := by decide +kernel
def dlX2_init_0 : List (Nat × Instr × Nat) := [(0, .aload_n 0, 1), (1, .invokespecial 3, 3), (4, .aload_n 0, 1), (5, .bipush 40, 2), (7, .newarray .int, 2), (9, .putfield 9, 3), (12, .aload_n 0, 1), (13, .sipush 400, 3), (16, .newarray .int, 2), (18, .putfield 15, 3), (21, .aload_n 0, 1), (22, .sipush 400, 3), (25, .newarray .int, 2), (27, .putfield 18, 3), (30, .aload_n 0, 1), (31, .sipush 400, 3), (34, .newarray .int, 2), (36, .putfield 21, 3), (39, .aload_n 0, 1), (40, .iconst 0, 1), (41, .putfield 24, 3), (44, .aload_n 0, 1), (45, .iconst 0, 1), (46, .putfield 28, 3), (49, .aload_n 0, 1), (50, .iconst 0, 1), (51, .putfield 31, 3), (54, .aload_n 0, 1), (55, .aload_n 1, 1), (56, .putfield 34, 3), (59, .aload_n 0, 1), (60, .aload_n 2, 1), (61, .putfield 38, 3), (64, .aload_n 0, 1), (65, .aload_n 3, 1), (66, .putfield 42, 3), (69, .return_, 1)]
theorem dtX2_init_0 : ∀ q ∈ dlX2_init_0, decode cX2_init q.1 = .ok q.2 := by decide +kernel
def dlX2_renew_0 : List (Nat × Instr × Nat) := [(0, .iconst 0, 1), (1, .istore_n 1, 1), (2, .iload_n 1, 1), (3, .bipush 40, 2), (5, .if_icmp .ge 16, 3), (8, .aload_n 0, 1), (9, .getfield 9, 3), (12, .iload_n 1, 1), (13, .iconst (-1), 1), (14, .iastore, 1), (15, .iinc 1 1, 3), (18, .goto (-16), 3), (21, .aload_n 0, 1), (22, .iconst 0, 1), (23, .putfield 28, 3), (26, .aload_n 0, 1), (27, .iconst 0, 1), (28, .putfield 31, 3), (31, .aload_n 0, 1), (32, .invokevirtual 46, 3), (35, .aload_n 0, 1), (36, .getfield 38, 3), (39, .invokevirtual 49, 3), (42, .istore_n 1, 1), (43, .iload_n 1, 1), (44, .ifCond .lt 14, 3), (47, .aload_n 0, 1), (48, .iload_n 1, 1), (49, .invokevirtual 55, 3), (52, .iinc 1 (-1), 3), (55, .goto (-12), 3), (58, .return_, 1)]
theorem dtX2_renew_0 : ∀ q ∈ dlX2_renew_0, decode cX2_renew q.1 = .ok q.2 := by decide +kernel
def dlX2_gatherLinked_0 : List (Nat × Instr × Nat) := [(0, .aload_n 0, 1), (1, .iconst 0, 1), (2, .putfield 24, 3), (5, .iconst 0, 1), (6, .istore_n 1, 1), (7, .iload_n 1, 1), (8, .aload_n 0, 1), (9, .getfield 34, 3), (12, .getfield 59, 3), (15, .if_icmp .ge 126, 3), (18, .aload_n 0, 1), (19, .getfield 42, 3), (22, .iload_n 1, 1), (23, .invokevirtual 62, 3), (26, .ifCond .ne 6, 3), (29, .goto 106, 3), (32, .iconst 0, 1), (33, .istore_n 2, 1), (34, .iload_n 2, 1), (35, .aload_n 0, 1), (36, .getfield 34, 3), (39, .getfield 59, 3), (42, .if_icmp .ge 93, 3), (45, .aload_n 0, 1), (46, .getfield 24, 3), (49, .sipush 400, 3), (52, .if_icmp .ge 83, 3), (55, .aload_n 0, 1), (56, .getfield 34, 3), (59, .getfield 68, 3), (62, .iload_n 2, 1), (63, .baload, 1), (64, .ifCond .ne 65, 3), (67, .aload_n 0, 1), (68, .getfield 38, 3), (71, .iload_n 1, 1), (72, .iload_n 2, 1), (73, .invokevirtual 72, 3), (76, .bipush 121, 2), (78, .if_icmp .ne 51, 3), (81, .aload_n 0, 1), (82, .getfield 15, 3), (85, .aload_n 0, 1), (86, .getfield 24, 3), (89, .iload_n 1, 1), (90, .iastore, 1), (91, .aload_n 0, 1), (92, .getfield 18, 3), (95, .aload_n 0, 1), (96, .getfield 24, 3), (99, .iload_n 2, 1), (100, .iastore, 1), (101, .aload_n 0, 1), (102, .getfield 21, 3), (105, .aload_n 0, 1), (106, .getfield 24, 3), (109, .aload_n 0, 1), (110, .getfield 38, 3), (113, .iload_n 1, 1), (114, .iload_n 2, 1)]
theorem dtX2_gatherLinked_0 : ∀ q ∈ dlX2_gatherLinked_0, decode cX2_gatherLinked q.1 = .ok q.2 := by decide +kernel
def dlX2_gatherLinked_1 : List (Nat × Instr × Nat) := [(115, .invokevirtual 76, 3), (118, .iastore, 1), (119, .aload_n 0, 1), (120, .dup, 1), (121, .getfield 24, 3), (124, .iconst 1, 1), (125, .iadd, 1), (126, .putfield 24, 3), (129, .iinc 2 1, 3), (132, .goto (-98), 3), (135, .iinc 1 1, 3), (138, .goto (-131), 3), (141, .return_, 1)]
theorem dtX2_gatherLinked_1 : ∀ q ∈ dlX2_gatherLinked_1, decode cX2_gatherLinked q.1 = .ok q.2 := by decide +kernel
def dlX2_takeWithScore_0 : List (Nat × Instr × Nat) := [(0, .iconst 0, 1), (1, .istore_n 2, 1), (2, .iload_n 2, 1), (3, .aload_n 0, 1), (4, .getfield 24, 3), (7, .if_icmp .ge 91, 3), (10, .aload_n 0, 1), (11, .getfield 15, 3), (14, .iload_n 2, 1), (15, .iaload, 1), (16, .istore_n 3, 1), (17, .aload_n 0, 1), (18, .getfield 18, 3), (21, .iload_n 2, 1), (22, .iaload, 1), (23, .istore 4, 2), (25, .aload_n 0, 1), (26, .getfield 21, 3), (29, .iload_n 2, 1), (30, .iaload, 1), (31, .iload_n 1, 1), (32, .if_icmp .ne 60, 3), (35, .aload_n 0, 1), (36, .getfield 9, 3), (39, .iload_n 3, 1), (40, .iaload, 1), (41, .iconst (-1), 1), (42, .if_icmp .ne 50, 3), (45, .aload_n 0, 1), (46, .getfield 9, 3), (49, .iload 4, 2), (51, .iaload, 1), (52, .iconst (-1), 1), (53, .if_icmp .ne 39, 3), (56, .aload_n 0, 1), (57, .getfield 9, 3), (60, .iload_n 3, 1), (61, .iload 4, 2), (63, .iastore, 1), (64, .aload_n 0, 1), (65, .getfield 9, 3), (68, .iload 4, 2), (70, .iload_n 3, 1), (71, .iastore, 1), (72, .aload_n 0, 1), (73, .dup, 1), (74, .getfield 28, 3), (77, .iconst 1, 1), (78, .iadd, 1), (79, .putfield 28, 3), (82, .aload_n 0, 1), (83, .dup, 1), (84, .getfield 31, 3), (87, .iload_n 1, 1), (88, .iadd, 1), (89, .putfield 31, 3), (92, .iinc 2 1, 3), (95, .goto (-93), 3), (98, .return_, 1)]
theorem dtX2_takeWithScore_0 : ∀ q ∈ dlX2_takeWithScore_0, decode cX2_takeWithScore q.1 = .ok q.2 := by decide +kernel
def dlX3_init_0 : List (Nat × Instr × Nat) := [(0, .aload_n 0, 1), (1, .invokespecial 3, 3), (4, .aload_n 0, 1), (5, .bipush 40, 2), (7, .newarray .boolean, 2), (9, .putfield 9, 3), (12, .aload_n 0, 1), (13, .bipush 40, 2), (15, .newarray .int, 2), (17, .putfield 15, 3), (20, .aload_n 0, 1), (21, .bipush 40, 2), (23, .newarray .int, 2), (25, .putfield 19, 3), (28, .aload_n 0, 1), (29, .bipush 40, 2), (31, .newarray .int, 2), (33, .putfield 22, 3), (36, .aload_n 0, 1), (37, .iconst 0, 1), (38, .putfield 25, 3), (41, .aload_n 0, 1), (42, .aload_n 1, 1), (43, .putfield 29, 3), (46, .return_, 1)]
theorem dtX3_init_0 : ∀ q ∈ dlX3_init_0, decode cX3_init q.1 = .ok q.2 := by decide +kernel
def dlX3_add_0 : List (Nat × Instr × Nat) := [(0, .aload_n 0, 1), (1, .getfield 9, 3), (4, .aload_n 0, 1), (5, .getfield 25, 3), (8, .iload_n 1, 1), (9, .bastore, 1), (10, .aload_n 0, 1), (11, .getfield 15, 3), (14, .aload_n 0, 1), (15, .getfield 25, 3), (18, .iload_n 2, 1), (19, .iastore, 1), (20, .aload_n 0, 1), (21, .getfield 19, 3), (24, .aload_n 0, 1), (25, .getfield 25, 3), (28, .iload_n 3, 1), (29, .iastore, 1), (30, .aload_n 0, 1), (31, .getfield 22, 3), (34, .aload_n 0, 1), (35, .getfield 25, 3), (38, .iload 4, 2), (40, .iastore, 1), (41, .aload_n 0, 1), (42, .dup, 1), (43, .getfield 25, 3), (46, .iconst 1, 1), (47, .iadd, 1), (48, .putfield 25, 3), (51, .aload_n 0, 1), (52, .getfield 25, 3), (55, .iconst 1, 1), (56, .isub, 1), (57, .ireturn, 1)]
theorem dtX3_add_0 : ∀ q ∈ dlX3_add_0, decode cX3_add q.1 = .ok q.2 := by decide +kernel
def dlX3_blockAt_0 : List (Nat × Instr × Nat) := [(0, .aload_n 0, 1), (1, .getfield 29, 3), (4, .getfield 33, 3), (7, .aload_n 0, 1), (8, .getfield 15, 3), (11, .iload_n 1, 1), (12, .iaload, 1), (13, .iaload, 1), (14, .ireturn, 1)]
theorem dtX3_blockAt_0 : ∀ q ∈ dlX3_blockAt_0, decode cX3_blockAt q.1 = .ok q.2 := by decide +kernel
def dlX3_groupAt_0 : List (Nat × Instr × Nat) := [(0, .aload_n 0, 1), (1, .getfield 22, 3), (4, .iload_n 1, 1), (5, .iaload, 1), (6, .istore_n 2, 1), (7, .iload_n 2, 1), (8, .bipush 17, 2), (10, .if_icmp .gt 5, 3), (13, .iconst 0, 1), (14, .ireturn, 1), (15, .iload_n 2, 1), (16, .bipush 39, 2), (18, .if_icmp .gt 5, 3), (21, .iconst 1, 1), (22, .ireturn, 1), (23, .iload_n 2, 1), (24, .bipush 64, 2), (26, .if_icmp .gt 7, 3), (29, .iconst 2, 1), (30, .goto 4, 3), (33, .iconst 3, 1), (34, .ireturn, 1)]
theorem dtX3_groupAt_0 : ∀ q ∈ dlX3_groupAt_0, decode cX3_groupAt q.1 = .ok q.2 := by decide +kernel
def dlX4_init_0 : List (Nat × Instr × Nat) := [(0, .aload_n 0, 1), (1, .invokespecial 3, 3), (4, .aload_n 0, 1), (5, .bipush 20, 2), (7, .newarray .int, 2), (9, .putfield 9, 3), (12, .aload_n 0, 1), (13, .iconst 0, 1), (14, .putfield 15, 3), (17, .aload_n 0, 1), (18, .iconst 0, 1), (19, .putfield 19, 3), (22, .return_, 1)]
theorem dtX4_init_0 : ∀ q ∈ dlX4_init_0, decode cX4_init q.1 = .ok q.2 := by decide +kernel
def dlX4_hasAddress_0 : List (Nat × Instr × Nat) := [(0, .iload_n 1, 1), (1, .ifCond .lt 15, 3), (4, .iload_n 1, 1), (5, .aload_n 0, 1), (6, .getfield 19, 3), (9, .if_icmp .ge 7, 3), (12, .iconst 1, 1), (13, .goto 4, 3), (16, .iconst 0, 1), (17, .ireturn, 1)]
theorem dtX4_hasAddress_0 : ∀ q ∈ dlX4_hasAddress_0, decode cX4_hasAddress q.1 = .ok q.2 := by decide +kernel
def dlX4_openBlock_0 : List (Nat × Instr × Nat) := [(0, .aload_n 0, 1), (1, .dup, 1), (2, .getfield 15, 3), (5, .iconst 1, 1), (6, .iadd, 1), (7, .putfield 15, 3), (10, .aload_n 0, 1), (11, .getfield 15, 3), (14, .iconst 1, 1), (15, .isub, 1), (16, .ireturn, 1)]
theorem dtX4_openBlock_0 : ∀ q ∈ dlX4_openBlock_0, decode cX4_openBlock q.1 = .ok q.2 := by decide +kernel
def dlX4_openAddress_0 : List (Nat × Instr × Nat) := [(0, .aload_n 0, 1), (1, .getfield 9, 3), (4, .aload_n 0, 1), (5, .getfield 19, 3), (8, .iload_n 1, 1), (9, .iastore, 1), (10, .aload_n 0, 1), (11, .dup, 1), (12, .getfield 19, 3), (15, .iconst 1, 1), (16, .iadd, 1), (17, .putfield 19, 3), (20, .aload_n 0, 1), (21, .getfield 19, 3), (24, .iconst 1, 1), (25, .isub, 1), (26, .ireturn, 1)]
theorem dtX4_openAddress_0 : ∀ q ∈ dlX4_openAddress_0, decode cX4_openAddress q.1 = .ok q.2 := by decide +kernel
def dlX4_move_0 : List (Nat × Instr × Nat) := [(0, .iconst 0, 1), (1, .istore 4, 2), (3, .iload_n 2, 1), (4, .istore 5, 2), (6, .iload 5, 2), (8, .aload_n 0, 1), (9, .getfield 19, 3), (12, .if_icmp .ge 31, 3), (15, .aload_n 0, 1), (16, .getfield 9, 3), (19, .iload 5, 2), (21, .iaload, 1), (22, .iload_n 1, 1), (23, .if_icmp .ne 14, 3), (26, .aload_n 0, 1), (27, .getfield 9, 3), (30, .iload 5, 2), (32, .iload_n 3, 1), (33, .iastore, 1), (34, .iinc 4 1, 3), (37, .iinc 5 1, 3), (40, .goto (-34), 3), (43, .iload 4, 2), (45, .ireturn, 1)]
theorem dtX4_move_0 : ∀ q ∈ dlX4_move_0, decode cX4_move q.1 = .ok q.2 := by decide +kernel
def dlX5_init_0 : List (Nat × Instr × Nat) := [(0, .aload_n 0, 1), (1, .invokespecial 3, 3), (4, .aload_n 0, 1), (5, .bipush 24, 2), (7, .newarray .int, 2), (9, .putfield 9, 3), (12, .aload_n 0, 1), (13, .iconst 0, 1), (14, .putfield 15, 3), (17, .aload_n 0, 1), (18, .iload_n 1, 1), (19, .putfield 19, 3), (22, .aload_n 0, 1), (23, .iload_n 3, 1), (24, .putfield 23, 3), (27, .iconst 0, 1), (28, .istore 4, 2), (30, .iload 4, 2), (32, .bipush 24, 2), (34, .if_icmp .ge 27, 3), (37, .iload 4, 2), (39, .aload_n 2, 1), (40, .arraylength, 1), (41, .if_icmp .ge 20, 3), (44, .aload_n 0, 1), (45, .getfield 9, 3), (48, .iload 4, 2), (50, .aload_n 2, 1), (51, .iload 4, 2), (53, .iaload, 1), (54, .iastore, 1), (55, .iinc 4 1, 3), (58, .goto (-28), 3), (61, .aload_n 0, 1), (62, .iload_n 1, 1), (63, .aload_n 0, 1), (64, .getfield 9, 3), (67, .iload_n 3, 1), (68, .invokestatic 26, 3), (71, .putfield 30, 3), (74, .return_, 1)]
theorem dtX5_init_0 : ∀ q ∈ dlX5_init_0, decode cX5_init q.1 = .ok q.2 := by decide +kernel
def dlX5_lineOf_0 : List (Nat × Instr × Nat) := [(0, .new 34, 3), (3, .dup, 1), (4, .invokespecial 36, 3), (7, .astore_n 3, 1), (8, .iconst 0, 1), (9, .istore 4, 2), (11, .iload 4, 2), (13, .iload_n 0, 1), (14, .iconst 4, 1), (15, .imul, 1), (16, .if_icmp .ge 64, 3), (19, .iload 4, 2), (21, .aload_n 1, 1), (22, .arraylength, 1), (23, .if_icmp .ge 57, 3), (26, .iload_n 2, 1), (27, .iload 4, 2), (29, .invokestatic 37, 3), (32, .ifCond .eq 13, 3), (35, .aload_n 3, 1), (36, .bipush 120, 2), (38, .invokevirtual 43, 3), (41, .pop, 1), (42, .goto 12, 3), (45, .aload_n 3, 1), (46, .aload_n 1, 1), (47, .iload 4, 2), (49, .iaload, 1), (50, .invokevirtual 47, 3), (53, .pop, 1), (54, .aload_n 3, 1), (55, .iload 4, 2), (57, .iconst 4, 1), (58, .irem, 1), (59, .iconst 3, 1), (60, .if_icmp .ne 8, 3), (63, .bipush 59, 2), (65, .goto 5, 3), (68, .bipush 44, 2), (70, .invokevirtual 43, 3), (73, .pop, 1), (74, .iinc 4 1, 3), (77, .goto (-66), 3), (80, .aload_n 3, 1), (81, .invokevirtual 50, 3), (84, .areturn, 1)]
theorem dtX5_lineOf_0 : ∀ q ∈ dlX5_lineOf_0, decode cX5_lineOf q.1 = .ok q.2 := by decide +kernel
def dlX5_shows_0 : List (Nat × Instr × Nat) := [(0, .aload_n 0, 1), (1, .getfield 19, 3), (4, .iload_n 1, 1), (5, .if_icmp .eq 5, 3), (8, .iconst 0, 1), (9, .ireturn, 1), (10, .iconst 0, 1), (11, .istore_n 3, 1), (12, .iload_n 3, 1), (13, .bipush 24, 2), (15, .if_icmp .ge 23, 3), (18, .aload_n 0, 1), (19, .getfield 9, 3), (22, .iload_n 3, 1), (23, .iaload, 1), (24, .aload_n 2, 1), (25, .iload_n 3, 1), (26, .iaload, 1), (27, .if_icmp .eq 5, 3), (30, .iconst 0, 1), (31, .ireturn, 1), (32, .iinc 3 1, 3), (35, .goto (-23), 3), (38, .iconst 1, 1), (39, .ireturn, 1)]
theorem dtX5_shows_0 : ∀ q ∈ dlX5_shows_0, decode cX5_shows q.1 = .ok q.2 := by decide +kernel
def dlX5_sumOfBlock_0 : List (Nat × Instr × Nat) := [(0, .iconst 0, 1), (1, .istore_n 2, 1), (2, .iconst 0, 1), (3, .istore_n 3, 1), (4, .iload_n 3, 1), (5, .iconst 4, 1), (6, .if_icmp .ge 22, 3), (9, .iload_n 2, 1), (10, .aload_n 0, 1), (11, .getfield 9, 3), (14, .iload_n 1, 1), (15, .iconst 4, 1), (16, .imul, 1), (17, .iload_n 3, 1), (18, .iadd, 1), (19, .iaload, 1), (20, .iadd, 1), (21, .istore_n 2, 1), (22, .iinc 3 1, 3), (25, .goto (-21), 3), (28, .iload_n 2, 1), (29, .ireturn, 1)]
theorem dtX5_sumOfBlock_0 : ∀ q ∈ dlX5_sumOfBlock_0, decode cX5_sumOfBlock q.1 = .ok q.2 := by decide +kernel
def dlX5_sumOfGroup_0 : List (Nat × Instr × Nat) := [(0, .iconst 0, 1), (1, .istore_n 2, 1), (2, .iconst 0, 1), (3, .istore_n 3, 1), (4, .iload_n 3, 1), (5, .bipush 6, 2), (7, .if_icmp .ge 22, 3), (10, .iload_n 2, 1), (11, .aload_n 0, 1), (12, .getfield 9, 3), (15, .iload_n 3, 1), (16, .iconst 4, 1), (17, .imul, 1), (18, .iload_n 1, 1), (19, .iadd, 1), (20, .iaload, 1), (21, .iadd, 1), (22, .istore_n 2, 1), (23, .iinc 3 1, 3), (26, .goto (-22), 3), (29, .iload_n 2, 1), (30, .ireturn, 1)]
theorem dtX5_sumOfGroup_0 : ∀ q ∈ dlX5_sumOfGroup_0, decode cX5_sumOfGroup q.1 = .ok q.2 := by decide +kernel
def dlX6_init_0 : List (Nat × Instr × Nat) := [(0, .aload_n 0, 1), (1, .invokespecial 3, 3), (4, .aload_n 0, 1), (5, .bipush 40, 2), (7, .newarray .boolean, 2), (9, .putfield 9, 3), (12, .aload_n 0, 1), (13, .bipush 24, 2), (15, .newarray .int, 2), (17, .putfield 15, 3), (20, .aload_n 0, 1), (21, .iconst 0, 1), (22, .putfield 19, 3), (25, .aload_n 0, 1), (26, .iconst 0, 1), (27, .putfield 23, 3), (30, .aload_n 0, 1), (31, .aload_n 1, 1), (32, .putfield 26, 3), (35, .aload_n 0, 1), (36, .aload_n 2, 1), (37, .putfield 30, 3), (40, .return_, 1)]
theorem dtX6_init_0 : ∀ q ∈ dlX6_init_0, decode cX6_init q.1 = .ok q.2 := by decide +kernel
def dlX6_renew_0 : List (Nat × Instr × Nat) := [(0, .iconst 0, 1), (1, .istore_n 1, 1), (2, .iload_n 1, 1), (3, .bipush 24, 2), (5, .if_icmp .ge 16, 3), (8, .aload_n 0, 1), (9, .getfield 15, 3), (12, .iload_n 1, 1), (13, .iconst 0, 1), (14, .iastore, 1), (15, .iinc 1 1, 3), (18, .goto (-16), 3), (21, .aload_n 0, 1), (22, .iconst 0, 1), (23, .putfield 19, 3), (26, .aload_n 0, 1), (27, .iconst 0, 1), (28, .putfield 23, 3), (31, .iconst 0, 1), (32, .istore_n 1, 1), (33, .iload_n 1, 1), (34, .aload_n 0, 1), (35, .getfield 26, 3), (38, .getfield 34, 3), (41, .if_icmp .ge 112, 3), (44, .aload_n 0, 1), (45, .getfield 9, 3), (48, .iload_n 1, 1), (49, .aload_n 0, 1), (50, .getfield 26, 3), (53, .getfield 39, 3), (56, .iload_n 1, 1), (57, .baload, 1), (58, .ifCond .eq 15, 3), (61, .aload_n 0, 1), (62, .iload_n 1, 1), (63, .invokevirtual 42, 3), (66, .ifCond .eq 7, 3), (69, .iconst 1, 1), (70, .goto 4, 3), (73, .iconst 0, 1), (74, .bastore, 1), (75, .aload_n 0, 1), (76, .getfield 9, 3), (79, .iload_n 1, 1), (80, .baload, 1), (81, .ifCond .eq 16, 3), (84, .aload_n 0, 1), (85, .dup, 1), (86, .getfield 23, 3), (89, .iconst 1, 1), (90, .iadd, 1), (91, .putfield 23, 3), (94, .goto 53, 3), (97, .aload_n 0, 1), (98, .getfield 26, 3), (101, .getfield 39, 3), (104, .iload_n 1, 1), (105, .baload, 1), (106, .ifCond .eq 41, 3)]
theorem dtX6_renew_0 : ∀ q ∈ dlX6_renew_0, decode cX6_renew q.1 = .ok q.2 := by decide +kernel
def dlX6_renew_1 : List (Nat × Instr × Nat) := [(109, .aload_n 0, 1), (110, .dup, 1), (111, .getfield 19, 3), (114, .iconst 1, 1), (115, .iadd, 1), (116, .putfield 19, 3), (119, .aload_n 0, 1), (120, .getfield 15, 3), (123, .aload_n 0, 1), (124, .getfield 26, 3), (127, .iload_n 1, 1), (128, .invokevirtual 46, 3), (131, .iconst 4, 1), (132, .imul, 1), (133, .aload_n 0, 1), (134, .getfield 26, 3), (137, .iload_n 1, 1), (138, .invokevirtual 50, 3), (141, .iadd, 1), (142, .dup2, 1), (143, .iaload, 1), (144, .iconst 1, 1), (145, .iadd, 1), (146, .iastore, 1), (147, .iinc 1 1, 3), (150, .goto (-117), 3), (153, .return_, 1)]
theorem dtX6_renew_1 : ∀ q ∈ dlX6_renew_1, decode cX6_renew q.1 = .ok q.2 := by decide +kernel
def dlX6_repeatsEarlier_0 : List (Nat × Instr × Nat) := [(0, .iconst 0, 1), (1, .istore_n 2, 1), (2, .iload_n 2, 1), (3, .iload_n 1, 1), (4, .if_icmp .ge 33, 3), (7, .aload_n 0, 1), (8, .iload_n 2, 1), (9, .invokevirtual 53, 3), (12, .ifCond .eq 19, 3), (15, .aload_n 0, 1), (16, .getfield 30, 3), (19, .iload_n 2, 1), (20, .iload_n 1, 1), (21, .invokevirtual 56, 3), (24, .bipush 121, 2), (26, .if_icmp .ne 5, 3), (29, .iconst 1, 1), (30, .ireturn, 1), (31, .iinc 2 1, 3), (34, .goto (-32), 3), (37, .iconst 0, 1), (38, .ireturn, 1)]
theorem dtX6_repeatsEarlier_0 : ∀ q ∈ dlX6_repeatsEarlier_0, decode cX6_repeatsEarlier q.1 = .ok q.2 := by decide +kernel
def dlX6_isCounted_0 : List (Nat × Instr × Nat) := [(0, .aload_n 0, 1), (1, .getfield 26, 3), (4, .getfield 39, 3), (7, .iload_n 1, 1), (8, .baload, 1), (9, .ifCond .eq 16, 3), (12, .aload_n 0, 1), (13, .getfield 9, 3), (16, .iload_n 1, 1), (17, .baload, 1), (18, .ifCond .ne 7, 3), (21, .iconst 1, 1), (22, .goto 4, 3), (25, .iconst 0, 1), (26, .ireturn, 1)]
theorem dtX6_isCounted_0 : ∀ q ∈ dlX6_isCounted_0, decode cX6_isCounted q.1 = .ok q.2 := by decide +kernel
def dlX6_hasCounts_0 : List (Nat × Instr × Nat) := [(0, .iconst 0, 1), (1, .istore_n 2, 1), (2, .iload_n 2, 1), (3, .bipush 24, 2), (5, .if_icmp .ge 23, 3), (8, .aload_n 0, 1), (9, .getfield 15, 3), (12, .iload_n 2, 1), (13, .iaload, 1), (14, .aload_n 1, 1), (15, .iload_n 2, 1), (16, .iaload, 1), (17, .if_icmp .eq 5, 3), (20, .iconst 0, 1), (21, .ireturn, 1), (22, .iinc 2 1, 3), (25, .goto (-23), 3), (28, .iconst 1, 1), (29, .ireturn, 1)]
theorem dtX6_hasCounts_0 : ∀ q ∈ dlX6_hasCounts_0, decode cX6_hasCounts q.1 = .ok q.2 := by decide +kernel
def dlX7_init_0 : List (Nat × Instr × Nat) := [(0, .aload_n 0, 1), (1, .invokespecial 3, 3), (4, .aload_n 0, 1), (5, .new 9, 3), (8, .dup, 1), (9, .invokespecial 11, 3), (12, .putfield 12, 3), (15, .aload_n 0, 1), (16, .new 16, 3), (19, .dup, 1), (20, .aload_n 0, 1), (21, .getfield 12, 3), (24, .invokespecial 18, 3), (27, .putfield 21, 3), (30, .aload_n 0, 1), (31, .new 25, 3), (34, .dup, 1), (35, .aload_n 0, 1), (36, .getfield 21, 3), (39, .invokespecial 27, 3), (42, .putfield 30, 3), (45, .aload_n 0, 1), (46, .new 34, 3), (49, .dup, 1), (50, .aload_n 0, 1), (51, .getfield 21, 3), (54, .aload_n 0, 1), (55, .getfield 30, 3), (58, .invokespecial 36, 3), (61, .putfield 39, 3), (64, .aload_n 0, 1), (65, .new 34, 3), (68, .dup, 1), (69, .aload_n 0, 1), (70, .getfield 21, 3), (73, .aload_n 0, 1), (74, .getfield 30, 3), (77, .invokespecial 36, 3), (80, .putfield 43, 3), (83, .aload_n 0, 1), (84, .new 46, 3), (87, .dup, 1), (88, .aload_n 0, 1), (89, .getfield 21, 3), (92, .aload_n 0, 1), (93, .getfield 30, 3), (96, .aload_n 0, 1), (97, .getfield 39, 3), (100, .invokespecial 48, 3), (103, .putfield 51, 3), (106, .aload_n 0, 1), (107, .bipush 8, 2), (109, .anewarray 55, 3), (112, .putfield 57, 3), (115, .aload_n 0, 1), (116, .iconst 0, 1), (117, .putfield 61, 3), (120, .return_, 1)]
theorem dtX7_init_0 : ∀ q ∈ dlX7_init_0, decode cX7_init q.1 = .ok q.2 := by decide +kernel
def dlX7_addBlock_0 : List (Nat × Instr × Nat) := [(0, .aload_n 0, 1), (1, .getfield 12, 3), (4, .getfield 65, 3), (7, .bipush 6, 2), (9, .if_icmp .lt 13, 3), (12, .new 68, 3), (15, .dup, 1), (16, .ldc 70, 2), (18, .invokespecial 72, 3), (21, .athrow, 1), (22, .aload_n 0, 1), (23, .getfield 12, 3), (26, .invokevirtual 75, 3), (29, .istore_n 1, 1), (30, .aload_n 0, 1), (31, .invokevirtual 79, 3), (34, .pop, 1), (35, .iload_n 1, 1), (36, .ireturn, 1)]
theorem dtX7_addBlock_0 : ∀ q ∈ dlX7_addBlock_0, decode cX7_addBlock q.1 = .ok q.2 := by decide +kernel
def dlX7_addAddress_0 : List (Nat × Instr × Nat) := [(0, .aload_n 0, 1), (1, .iload_n 1, 1), (2, .invokevirtual 82, 3), (5, .aload_n 0, 1), (6, .getfield 12, 3), (9, .getfield 86, 3), (12, .bipush 20, 2), (14, .if_icmp .lt 13, 3), (17, .new 68, 3), (20, .dup, 1), (21, .ldc 89, 2), (23, .invokespecial 72, 3), (26, .athrow, 1), (27, .aload_n 0, 1), (28, .getfield 12, 3), (31, .iload_n 1, 1), (32, .invokevirtual 91, 3), (35, .ireturn, 1)]
theorem dtX7_addAddress_0 : ∀ q ∈ dlX7_addAddress_0, decode cX7_addAddress q.1 = .ok q.2 := by decide +kernel
def dlX7_split_0 : List (Nat × Instr × Nat) := [(0, .aload_n 0, 1), (1, .iload_n 1, 1), (2, .invokevirtual 82, 3), (5, .aload_n 0, 1), (6, .getfield 12, 3), (9, .iload_n 2, 1), (10, .invokevirtual 95, 3), (13, .ifCond .eq 16, 3), (16, .aload_n 0, 1), (17, .getfield 12, 3), (20, .getfield 99, 3), (23, .iload_n 2, 1), (24, .iaload, 1), (25, .iload_n 1, 1), (26, .if_icmp .eq 13, 3), (29, .new 103, 3), (32, .dup, 1), (33, .ldc 105, 2), (35, .invokespecial 107, 3), (38, .athrow, 1), (39, .aload_n 0, 1), (40, .getfield 12, 3), (43, .getfield 65, 3), (46, .bipush 6, 2), (48, .if_icmp .lt 13, 3), (51, .new 68, 3), (54, .dup, 1), (55, .ldc 70, 2), (57, .invokespecial 72, 3), (60, .athrow, 1), (61, .aload_n 0, 1), (62, .getfield 12, 3), (65, .invokevirtual 75, 3), (68, .istore_n 3, 1), (69, .aload_n 0, 1), (70, .getfield 12, 3), (73, .iload_n 1, 1), (74, .iload_n 2, 1), (75, .iload_n 3, 1), (76, .invokevirtual 108, 3), (79, .pop, 1), (80, .aload_n 0, 1), (81, .invokevirtual 79, 3), (84, .pop, 1), (85, .iload_n 3, 1), (86, .ireturn, 1)]
theorem dtX7_split_0 : ∀ q ∈ dlX7_split_0, decode cX7_split q.1 = .ok q.2 := by decide +kernel
def dlX7_join_0 : List (Nat × Instr × Nat) := [(0, .aload_n 0, 1), (1, .iload_n 1, 1), (2, .invokevirtual 82, 3), (5, .aload_n 0, 1), (6, .iload_n 2, 1), (7, .invokevirtual 82, 3), (10, .iload_n 1, 1), (11, .iload_n 2, 1), (12, .if_icmp .ne 13, 3), (15, .new 112, 3), (18, .dup, 1), (19, .ldc 114, 2), (21, .invokespecial 116, 3), (24, .athrow, 1), (25, .aload_n 0, 1), (26, .getfield 12, 3), (29, .iload_n 1, 1), (30, .iconst 0, 1), (31, .iload_n 2, 1), (32, .invokevirtual 108, 3), (35, .istore_n 3, 1), (36, .aload_n 0, 1), (37, .invokevirtual 79, 3), (40, .pop, 1), (41, .iload_n 3, 1), (42, .ireturn, 1)]
theorem dtX7_join_0 : ∀ q ∈ dlX7_join_0, decode cX7_join q.1 = .ok q.2 := by decide +kernel
def dlX7_addRecord_0 : List (Nat × Instr × Nat) := [(0, .iload_n 1, 1), (1, .bipush 99, 2), (3, .if_icmp .eq 19, 3), (6, .iload_n 1, 1), (7, .bipush 107, 2), (9, .if_icmp .eq 13, 3), (12, .new 112, 3), (15, .dup, 1), (16, .ldc 117, 2), (18, .invokespecial 116, 3), (21, .athrow, 1), (22, .iload_n 3, 1), (23, .ifCond .lt 22, 3), (26, .iload_n 3, 1), (27, .sipush 999, 3), (30, .if_icmp .gt 15, 3), (33, .iload 4, 2), (35, .ifCond .lt 10, 3), (38, .iload 4, 2), (40, .bipush 120, 2), (42, .if_icmp .le 13, 3), (45, .new 112, 3), (48, .dup, 1), (49, .ldc 119, 2), (51, .invokespecial 116, 3), (54, .athrow, 1), (55, .aload_n 0, 1), (56, .iload_n 2, 1), (57, .invokevirtual 121, 3), (60, .aload_n 0, 1), (61, .getfield 21, 3), (64, .getfield 124, 3), (67, .bipush 40, 2), (69, .if_icmp .lt 13, 3), (72, .new 68, 3), (75, .dup, 1), (76, .ldc 127, 2), (78, .invokespecial 72, 3), (81, .athrow, 1), (82, .aload_n 0, 1), (83, .getfield 21, 3), (86, .iload_n 1, 1), (87, .bipush 99, 2), (89, .if_icmp .ne 7, 3), (92, .iconst 1, 1), (93, .goto 4, 3), (96, .iconst 0, 1), (97, .iload_n 2, 1), (98, .iload_n 3, 1), (99, .iload 4, 2), (101, .invokevirtual 129, 3), (104, .istore 5, 2), (106, .aload_n 0, 1), (107, .invokevirtual 79, 3), (110, .pop, 1), (111, .iload 5, 2), (113, .ireturn, 1)]
theorem dtX7_addRecord_0 : ∀ q ∈ dlX7_addRecord_0, decode cX7_addRecord q.1 = .ok q.2 := by decide +kernel
def dlX7_blockOf_0 : List (Nat × Instr × Nat) := [(0, .aload_n 0, 1), (1, .iload_n 1, 1), (2, .invokevirtual 121, 3), (5, .aload_n 0, 1), (6, .getfield 12, 3), (9, .getfield 99, 3), (12, .iload_n 1, 1), (13, .iaload, 1), (14, .ireturn, 1)]
theorem dtX7_blockOf_0 : ∀ q ∈ dlX7_blockOf_0, decode cX7_blockOf q.1 = .ok q.2 := by decide +kernel
def dlX7_setPoints_0 : List (Nat × Instr × Nat) := [(0, .iload_n 1, 1), (1, .bipush 110, 2), (3, .if_icmp .eq 25, 3), (6, .iload_n 1, 1), (7, .bipush 121, 2), (9, .if_icmp .eq 19, 3), (12, .iload_n 1, 1), (13, .bipush 112, 2), (15, .if_icmp .eq 13, 3), (18, .new 112, 3), (21, .dup, 1), (22, .ldc 133, 2), (24, .invokespecial 116, 3), (27, .athrow, 1), (28, .iload_n 2, 1), (29, .ifCond .lt 9, 3), (32, .iload_n 2, 1), (33, .bipush 9, 2), (35, .if_icmp .le 13, 3), (38, .new 112, 3), (41, .dup, 1), (42, .ldc 135, 2), (44, .invokespecial 116, 3), (47, .athrow, 1), (48, .aload_n 0, 1), (49, .getfield 30, 3), (52, .iload_n 1, 1), (53, .iload_n 2, 1), (54, .invokevirtual 137, 3), (57, .istore_n 3, 1), (58, .aload_n 0, 1), (59, .invokevirtual 79, 3), (62, .pop, 1), (63, .iload_n 3, 1), (64, .ireturn, 1)]
theorem dtX7_setPoints_0 : ∀ q ∈ dlX7_setPoints_0, decode cX7_setPoints q.1 = .ok q.2 := by decide +kernel
def dlX7_setBounds_0 : List (Nat × Instr × Nat) := [(0, .iload_n 1, 1), (1, .ifCond .lt 20, 3), (4, .iload_n 1, 1), (5, .bipush 30, 2), (7, .if_icmp .gt 14, 3), (10, .iload_n 2, 1), (11, .iload_n 1, 1), (12, .if_icmp .lt 9, 3), (15, .iload_n 2, 1), (16, .bipush 30, 2), (18, .if_icmp .le 13, 3), (21, .new 112, 3), (24, .dup, 1), (25, .ldc 141, 2), (27, .invokespecial 116, 3), (30, .athrow, 1), (31, .aload_n 0, 1), (32, .getfield 30, 3), (35, .getfield 143, 3), (38, .istore_n 3, 1), (39, .aload_n 0, 1), (40, .getfield 30, 3), (43, .iload_n 1, 1), (44, .putfield 146, 3), (47, .aload_n 0, 1), (48, .getfield 30, 3), (51, .iload_n 2, 1), (52, .putfield 143, 3), (55, .aload_n 0, 1), (56, .invokevirtual 79, 3), (59, .pop, 1), (60, .iload_n 3, 1), (61, .ireturn, 1)]
theorem dtX7_setBounds_0 : ∀ q ∈ dlX7_setBounds_0, decode cX7_setBounds q.1 = .ok q.2 := by decide +kernel
def dlX7_score_0 : List (Nat × Instr × Nat) := [(0, .aload_n 0, 1), (1, .iload_n 1, 1), (2, .iload_n 2, 1), (3, .invokevirtual 149, 3), (6, .aload_n 0, 1), (7, .getfield 30, 3), (10, .iload_n 1, 1), (11, .iload_n 2, 1), (12, .invokevirtual 153, 3), (15, .ireturn, 1)]
theorem dtX7_score_0 : ∀ q ∈ dlX7_score_0, decode cX7_score q.1 = .ok q.2 := by decide +kernel
def dlX7_decide_0 : List (Nat × Instr × Nat) := [(0, .aload_n 0, 1), (1, .iload_n 1, 1), (2, .iload_n 2, 1), (3, .invokevirtual 149, 3), (6, .aload_n 0, 1), (7, .getfield 21, 3), (10, .getfield 157, 3), (13, .iload_n 1, 1), (14, .baload, 1), (15, .ifCond .ne 25, 3), (18, .aload_n 0, 1), (19, .getfield 21, 3), (22, .getfield 157, 3), (25, .iload_n 2, 1), (26, .baload, 1), (27, .ifCond .ne 13, 3), (30, .new 161, 3), (33, .dup, 1), (34, .ldc 163, 2), (36, .invokespecial 165, 3), (39, .athrow, 1), (40, .aload_n 0, 1), (41, .getfield 30, 3), (44, .iload_n 1, 1), (45, .iload_n 2, 1), (46, .iload_n 3, 1), (47, .ifCond .eq 8, 3), (50, .bipush 121, 2), (52, .goto 5, 3), (55, .bipush 110, 2), (57, .invokevirtual 166, 3), (60, .aload_n 0, 1), (61, .invokevirtual 79, 3), (64, .ireturn, 1)]
theorem dtX7_decide_0 : ∀ q ∈ dlX7_decide_0, decode cX7_decide q.1 = .ok q.2 := by decide +kernel
def dlX7_takeBack_0 : List (Nat × Instr × Nat) := [(0, .aload_n 0, 1), (1, .iload_n 1, 1), (2, .invokevirtual 170, 3), (5, .aload_n 0, 1), (6, .iload_n 2, 1), (7, .invokevirtual 170, 3), (10, .aload_n 0, 1), (11, .getfield 30, 3), (14, .iload_n 1, 1), (15, .iload_n 2, 1), (16, .invokevirtual 173, 3), (19, .ifCond .ne 13, 3), (22, .new 68, 3), (25, .dup, 1), (26, .ldc 177, 2), (28, .invokespecial 72, 3), (31, .athrow, 1), (32, .aload_n 0, 1), (33, .getfield 30, 3), (36, .iload_n 1, 1), (37, .iload_n 2, 1), (38, .bipush 45, 2), (40, .invokevirtual 166, 3), (43, .aload_n 0, 1), (44, .invokevirtual 79, 3), (47, .ireturn, 1)]
theorem dtX7_takeBack_0 : ∀ q ∈ dlX7_takeBack_0, decode cX7_takeBack q.1 = .ok q.2 := by decide +kernel
def dlX7_link_0 : List (Nat × Instr × Nat) := [(0, .aload_n 0, 1), (1, .iload_n 1, 1), (2, .iload_n 2, 1), (3, .invokevirtual 149, 3), (6, .aload_n 0, 1), (7, .getfield 30, 3), (10, .iload_n 1, 1), (11, .iload_n 2, 1), (12, .invokevirtual 179, 3), (15, .ireturn, 1)]
theorem dtX7_link_0 : ∀ q ∈ dlX7_link_0, decode cX7_link q.1 = .ok q.2 := by decide +kernel
def dlX7_openPairs_0 : List (Nat × Instr × Nat) := [(0, .iconst 0, 1), (1, .istore_n 1, 1), (2, .iconst 0, 1), (3, .istore_n 2, 1), (4, .iload_n 2, 1), (5, .aload_n 0, 1), (6, .getfield 21, 3), (9, .getfield 124, 3), (12, .if_icmp .ge 83, 3), (15, .iload_n 2, 1), (16, .iconst 1, 1), (17, .iadd, 1), (18, .istore_n 3, 1), (19, .iload_n 3, 1), (20, .aload_n 0, 1), (21, .getfield 21, 3), (24, .getfield 124, 3), (27, .if_icmp .ge 62, 3), (30, .aload_n 0, 1), (31, .getfield 21, 3), (34, .getfield 157, 3), (37, .iload_n 2, 1), (38, .baload, 1), (39, .ifCond .ne 15, 3), (42, .aload_n 0, 1), (43, .getfield 21, 3), (46, .getfield 157, 3), (49, .iload_n 3, 1), (50, .baload, 1), (51, .ifCond .eq 7, 3), (54, .iconst 1, 1), (55, .goto 4, 3), (58, .iconst 0, 1), (59, .istore 4, 2), (61, .iload 4, 2), (63, .ifCond .eq 20, 3), (66, .aload_n 0, 1), (67, .getfield 30, 3), (70, .iload_n 2, 1), (71, .iload_n 3, 1), (72, .invokevirtual 179, 3), (75, .bipush 63, 2), (77, .if_icmp .ne 6, 3), (80, .iinc 1 1, 3), (83, .iinc 3 1, 3), (86, .goto (-67), 3), (89, .iinc 2 1, 3), (92, .goto (-88), 3), (95, .iload_n 1, 1), (96, .ireturn, 1)]
theorem dtX7_openPairs_0 : ∀ q ∈ dlX7_openPairs_0, decode cX7_openPairs q.1 = .ok q.2 := by decide +kernel
def dlX7_isDouble_0 : List (Nat × Instr × Nat) := [(0, .aload_n 0, 1), (1, .iload_n 1, 1), (2, .invokevirtual 170, 3), (5, .aload_n 0, 1), (6, .getfield 39, 3), (9, .getfield 183, 3), (12, .iload_n 1, 1), (13, .baload, 1), (14, .ireturn, 1)]
theorem dtX7_isDouble_0 : ∀ q ∈ dlX7_isDouble_0, decode cX7_isDouble q.1 = .ok q.2 := by decide +kernel
def dlX7_matchOf_0 : List (Nat × Instr × Nat) := [(0, .aload_n 0, 1), (1, .iload_n 1, 1), (2, .invokevirtual 170, 3), (5, .aload_n 0, 1), (6, .getfield 51, 3), (9, .getfield 186, 3), (12, .iload_n 1, 1), (13, .iaload, 1), (14, .iconst (-1), 1), (15, .if_icmp .ne 13, 3), (18, .new 68, 3), (21, .dup, 1), (22, .ldc 189, 2), (24, .invokespecial 72, 3), (27, .athrow, 1), (28, .aload_n 0, 1), (29, .getfield 51, 3), (32, .getfield 186, 3), (35, .iload_n 1, 1), (36, .iaload, 1), (37, .ireturn, 1)]
theorem dtX7_matchOf_0 : ∀ q ∈ dlX7_matchOf_0, decode cX7_matchOf q.1 = .ok q.2 := by decide +kernel
def dlX7_matches_0 : List (Nat × Instr × Nat) := [(0, .aload_n 0, 1), (1, .getfield 51, 3), (4, .getfield 191, 3), (7, .ireturn, 1)]
theorem dtX7_matches_0 : ∀ q ∈ dlX7_matches_0, decode cX7_matches q.1 = .ok q.2 := by decide +kernel
def dlX7_count_0 : List (Nat × Instr × Nat) := [(0, .aload_n 0, 1), (1, .iload_n 1, 1), (2, .invokevirtual 82, 3), (5, .aload_n 0, 1), (6, .iload_n 2, 1), (7, .invokevirtual 192, 3), (10, .aload_n 0, 1), (11, .getfield 39, 3), (14, .getfield 195, 3), (17, .iload_n 1, 1), (18, .iconst 4, 1), (19, .imul, 1), (20, .iload_n 2, 1), (21, .iadd, 1), (22, .iaload, 1), (23, .ireturn, 1)]
theorem dtX7_count_0 : ∀ q ∈ dlX7_count_0, decode cX7_count q.1 = .ok q.2 := by decide +kernel
def dlX7_countAnew_0 : List (Nat × Instr × Nat) := [(0, .aload_n 0, 1), (1, .iload_n 1, 1), (2, .invokevirtual 82, 3), (5, .aload_n 0, 1), (6, .iload_n 2, 1), (7, .invokevirtual 192, 3), (10, .aload_n 0, 1), (11, .getfield 43, 3), (14, .invokevirtual 198, 3), (17, .aload_n 0, 1), (18, .getfield 43, 3), (21, .getfield 195, 3), (24, .iload_n 1, 1), (25, .iconst 4, 1), (26, .imul, 1), (27, .iload_n 2, 1), (28, .iadd, 1), (29, .iaload, 1), (30, .ireturn, 1)]
theorem dtX7_countAnew_0 : ∀ q ∈ dlX7_countAnew_0, decode cX7_countAnew q.1 = .ok q.2 := by decide +kernel
def dlX7_estimate_0 : List (Nat × Instr × Nat) := [(0, .aload_n 0, 1), (1, .getfield 51, 3), (4, .getfield 191, 3), (7, .ifCond .ne 13, 3), (10, .new 201, 3), (13, .dup, 1), (14, .ldc 203, 2), (16, .invokespecial 205, 3), (19, .athrow, 1), (20, .aload_n 0, 1), (21, .getfield 21, 3), (24, .getfield 124, 3), (27, .aload_n 0, 1), (28, .getfield 39, 3), (31, .getfield 206, 3), (34, .isub, 1), (35, .aload_n 0, 1), (36, .getfield 39, 3), (39, .getfield 209, 3), (42, .isub, 1), (43, .istore_n 1, 1), (44, .aload_n 0, 1), (45, .getfield 39, 3), (48, .getfield 206, 3), (51, .i2l, 1), (52, .iload_n 1, 1), (53, .i2l, 1), (54, .lmul, 1), (55, .aload_n 0, 1), (56, .getfield 51, 3), (59, .getfield 191, 3), (62, .i2l, 1), (63, .ldiv, 1), (64, .lreturn, 1)]
theorem dtX7_estimate_0 : ∀ q ∈ dlX7_estimate_0, decode cX7_estimate q.1 = .ok q.2 := by decide +kernel
def dlX7_doubleShare_0 : List (Nat × Instr × Nat) := [(0, .aload_n 0, 1), (1, .getfield 39, 3), (4, .getfield 206, 3), (7, .aload_n 0, 1), (8, .getfield 39, 3), (11, .getfield 209, 3), (14, .iadd, 1), (15, .istore_n 1, 1), (16, .iload_n 1, 1), (17, .ifCond .ne 13, 3), (20, .new 201, 3), (23, .dup, 1), (24, .ldc 212, 2), (26, .invokespecial 205, 3), (29, .athrow, 1), (30, .aload_n 0, 1), (31, .getfield 39, 3), (34, .getfield 209, 3), (37, .i2f, 1), (38, .iload_n 1, 1), (39, .i2f, 1), (40, .fdiv, 1), (41, .freturn, 1)]
theorem dtX7_doubleShare_0 : ∀ q ∈ dlX7_doubleShare_0, decode cX7_doubleShare q.1 = .ok q.2 := by decide +kernel
def dlX7_meanScore_0 : List (Nat × Instr × Nat) := [(0, .aload_n 0, 1), (1, .getfield 51, 3), (4, .getfield 191, 3), (7, .ifCond .ne 13, 3), (10, .new 201, 3), (13, .dup, 1), (14, .ldc 203, 2), (16, .invokespecial 205, 3), (19, .athrow, 1), (20, .aload_n 0, 1), (21, .getfield 51, 3), (24, .getfield 214, 3), (27, .i2d, 1), (28, .aload_n 0, 1), (29, .getfield 51, 3), (32, .getfield 191, 3), (35, .i2d, 1), (36, .ddiv, 1), (37, .dreturn, 1)]
theorem dtX7_meanScore_0 : ∀ q ∈ dlX7_meanScore_0, decode cX7_meanScore q.1 = .ok q.2 := by decide +kernel
def dlX7_tell_0 : List (Nat × Instr × Nat) := [(0, .aload_n 0, 1), (1, .getfield 12, 3), (4, .getfield 65, 3), (7, .iconst 2, 1), (8, .if_icmp .ge 13, 3), (11, .new 68, 3), (14, .dup, 1), (15, .ldc 217, 2), (17, .invokespecial 72, 3), (20, .athrow, 1), (21, .aload_n 0, 1), (22, .getfield 61, 3), (25, .bipush 8, 2), (27, .if_icmp .lt 13, 3), (30, .new 68, 3), (33, .dup, 1), (34, .ldc 219, 2), (36, .invokespecial 72, 3), (39, .athrow, 1), (40, .aload_n 0, 1), (41, .getfield 39, 3), (44, .getfield 195, 3), (47, .invokestatic 221, 3), (50, .istore_n 1, 1), (51, .iload_n 1, 1), (52, .iconst (-1), 1), (53, .if_icmp .ne 13, 3), (56, .new 161, 3), (59, .dup, 1), (60, .ldc 227, 2), (62, .invokespecial 165, 3), (65, .athrow, 1), (66, .aload_n 0, 1), (67, .getfield 57, 3), (70, .aload_n 0, 1), (71, .getfield 61, 3), (74, .new 55, 3), (77, .dup, 1), (78, .aload_n 0, 1), (79, .getfield 12, 3), (82, .getfield 65, 3), (85, .aload_n 0, 1), (86, .getfield 39, 3), (89, .getfield 195, 3), (92, .iload_n 1, 1), (93, .invokespecial 229, 3), (96, .aastore, 1), (97, .aload_n 0, 1), (98, .dup, 1), (99, .getfield 61, 3), (102, .iconst 1, 1), (103, .iadd, 1), (104, .putfield 61, 3), (107, .aload_n 0, 1), (108, .getfield 61, 3), (111, .iconst 1, 1), (112, .isub, 1), (113, .ireturn, 1)]
theorem dtX7_tell_0 : ∀ q ∈ dlX7_tell_0, decode cX7_tell q.1 = .ok q.2 := by decide +kernel
def dlX7_stateOf_0 : List (Nat × Instr × Nat) := [(0, .aload_n 0, 1), (1, .iload_n 1, 1), (2, .invokevirtual 232, 3), (5, .getfield 236, 3), (8, .ifCond .eq 8, 3), (11, .bipush 117, 2), (13, .goto 5, 3), (16, .bipush 116, 2), (18, .ireturn, 1)]
theorem dtX7_stateOf_0 : ∀ q ∈ dlX7_stateOf_0, decode cX7_stateOf q.1 = .ok q.2 := by decide +kernel
def dlX7_isHidden_0 : List (Nat × Instr × Nat) := [(0, .aload_n 0, 1), (1, .iload_n 1, 1), (2, .invokevirtual 232, 3), (5, .astore 4, 2), (7, .aload_n 0, 1), (8, .aload 4, 2), (10, .iload_n 2, 1), (11, .iload_n 3, 1), (12, .invokevirtual 240, 3), (15, .aload 4, 2), (17, .getfield 244, 3), (20, .iload_n 2, 1), (21, .iconst 4, 1), (22, .imul, 1), (23, .iload_n 3, 1), (24, .iadd, 1), (25, .invokestatic 247, 3), (28, .ireturn, 1)]
theorem dtX7_isHidden_0 : ∀ q ∈ dlX7_isHidden_0, decode cX7_isHidden q.1 = .ok q.2 := by decide +kernel
def dlX7_cell_0 : List (Nat × Instr × Nat) := [(0, .aload_n 0, 1), (1, .iload_n 1, 1), (2, .invokevirtual 232, 3), (5, .astore 4, 2), (7, .aload_n 0, 1), (8, .aload 4, 2), (10, .iload_n 2, 1), (11, .iload_n 3, 1), (12, .invokevirtual 240, 3), (15, .aload 4, 2), (17, .getfield 244, 3), (20, .iload_n 2, 1), (21, .iconst 4, 1), (22, .imul, 1), (23, .iload_n 3, 1), (24, .iadd, 1), (25, .invokestatic 247, 3), (28, .ifCond .eq 13, 3), (31, .new 161, 3), (34, .dup, 1), (35, .ldc 250, 2), (37, .invokespecial 165, 3), (40, .athrow, 1), (41, .aload 4, 2), (43, .getfield 252, 3), (46, .iload_n 2, 1), (47, .iconst 4, 1), (48, .imul, 1), (49, .iload_n 3, 1), (50, .iadd, 1), (51, .iaload, 1), (52, .ireturn, 1)]
theorem dtX7_cell_0 : ∀ q ∈ dlX7_cell_0, decode cX7_cell q.1 = .ok q.2 := by decide +kernel
def dlX7_blockSum_0 : List (Nat × Instr × Nat) := [(0, .aload_n 0, 1), (1, .iload_n 1, 1), (2, .invokevirtual 232, 3), (5, .astore_n 3, 1), (6, .aload_n 0, 1), (7, .aload_n 3, 1), (8, .iload_n 2, 1), (9, .invokevirtual 253, 3), (12, .aload_n 3, 1), (13, .iload_n 2, 1), (14, .invokevirtual 257, 3), (17, .ireturn, 1)]
theorem dtX7_blockSum_0 : ∀ q ∈ dlX7_blockSum_0, decode cX7_blockSum q.1 = .ok q.2 := by decide +kernel
def dlX7_groupSum_0 : List (Nat × Instr × Nat) := [(0, .aload_n 0, 1), (1, .iload_n 1, 1), (2, .invokevirtual 232, 3), (5, .astore_n 3, 1), (6, .aload_n 0, 1), (7, .iload_n 2, 1), (8, .invokevirtual 192, 3), (11, .aload_n 3, 1), (12, .iload_n 2, 1), (13, .invokevirtual 260, 3), (16, .ireturn, 1)]
theorem dtX7_groupSum_0 : ∀ q ∈ dlX7_groupSum_0, decode cX7_groupSum q.1 = .ok q.2 := by decide +kernel
def dlX7_holes_0 : List (Nat × Instr × Nat) := [(0, .aload_n 0, 1), (1, .iload_n 1, 1), (2, .invokevirtual 232, 3), (5, .getfield 244, 3), (8, .invokestatic 263, 3), (11, .ireturn, 1)]
theorem dtX7_holes_0 : ∀ q ∈ dlX7_holes_0, decode cX7_holes q.1 = .ok q.2 := by decide +kernel
def dlX7_isAtRisk_0 : List (Nat × Instr × Nat) := [(0, .aload_n 0, 1), (1, .iload_n 1, 1), (2, .invokevirtual 232, 3), (5, .astore 4, 2), (7, .aload_n 0, 1), (8, .aload 4, 2), (10, .iload_n 2, 1), (11, .iload_n 3, 1), (12, .invokevirtual 240, 3), (15, .aload 4, 2), (17, .getfield 252, 3), (20, .invokestatic 268, 3), (23, .istore 5, 2), (25, .iload 5, 2), (27, .iload_n 2, 1), (28, .iconst 4, 1), (29, .imul, 1), (30, .iload_n 3, 1), (31, .iadd, 1), (32, .invokestatic 247, 3), (35, .ifCond .ne 14, 3), (38, .new 161, 3), (41, .dup, 1), (42, .ldc_w 271, 3), (45, .invokespecial 165, 3), (48, .athrow, 1), (49, .iload 5, 2), (51, .iload_n 2, 1), (52, .iconst 4, 1), (53, .imul, 1), (54, .iload_n 3, 1), (55, .iadd, 1), (56, .invokestatic 273, 3), (59, .ireturn, 1)]
theorem dtX7_isAtRisk_0 : ∀ q ∈ dlX7_isAtRisk_0, decode cX7_isAtRisk q.1 = .ok q.2 := by decide +kernel
def dlX7_found_0 : List (Nat × Instr × Nat) := [(0, .aload_n 0, 1), (1, .iload_n 1, 1), (2, .invokevirtual 232, 3), (5, .getfield 244, 3), (8, .invokestatic 276, 3), (11, .ireturn, 1)]
theorem dtX7_found_0 : ∀ q ∈ dlX7_found_0, decode cX7_found q.1 = .ok q.2 := by decide +kernel
def dlX7_foundByWays_0 : List (Nat × Instr × Nat) := [(0, .aload_n 0, 1), (1, .iload_n 1, 1), (2, .invokevirtual 232, 3), (5, .getfield 244, 3), (8, .invokestatic 279, 3), (11, .ireturn, 1)]
theorem dtX7_foundByWays_0 : ∀ q ∈ dlX7_foundByWays_0, decode cX7_foundByWays q.1 = .ok q.2 := by decide +kernel
def dlX7_lineLength_0 : List (Nat × Instr × Nat) := [(0, .aload_n 0, 1), (1, .iload_n 1, 1), (2, .invokevirtual 232, 3), (5, .getfield 282, 3), (8, .invokevirtual 286, 3), (11, .ireturn, 1)]
theorem dtX7_lineLength_0 : ∀ q ∈ dlX7_lineLength_0, decode cX7_lineLength q.1 = .ok q.2 := by decide +kernel
def dlX7_lineAt_0 : List (Nat × Instr × Nat) := [(0, .aload_n 0, 1), (1, .iload_n 1, 1), (2, .invokevirtual 232, 3), (5, .getfield 282, 3), (8, .astore_n 3, 1), (9, .iload_n 2, 1), (10, .ifCond .lt 11, 3), (13, .iload_n 2, 1), (14, .aload_n 3, 1), (15, .invokevirtual 286, 3), (18, .if_icmp .lt 14, 3), (21, .new 291, 3), (24, .dup, 1), (25, .ldc_w 293, 3), (28, .invokespecial 295, 3), (31, .athrow, 1), (32, .aload_n 3, 1), (33, .iload_n 2, 1), (34, .invokevirtual 296, 3), (37, .ireturn, 1)]
theorem dtX7_lineAt_0 : ∀ q ∈ dlX7_lineAt_0, decode cX7_lineAt q.1 = .ok q.2 := by decide +kernel
def dlX7_isSafe_0 : List (Nat × Instr × Nat) := [(0, .aload_n 0, 1), (1, .getfield 43, 3), (4, .invokevirtual 198, 3), (7, .aload_n 0, 1), (8, .getfield 43, 3), (11, .aload_n 0, 1), (12, .getfield 39, 3), (15, .getfield 195, 3), (18, .invokevirtual 300, 3), (21, .ifCond .ne 5, 3), (24, .iconst 0, 1), (25, .ireturn, 1), (26, .iconst 0, 1), (27, .istore_n 1, 1), (28, .iload_n 1, 1), (29, .aload_n 0, 1), (30, .getfield 61, 3), (33, .if_icmp .ge 24, 3), (36, .aload_n 0, 1), (37, .aload_n 0, 1), (38, .getfield 57, 3), (41, .iload_n 1, 1), (42, .aaload, 1), (43, .invokevirtual 304, 3), (46, .ifCond .ne 5, 3), (49, .iconst 0, 1), (50, .ireturn, 1), (51, .iinc 1 1, 3), (54, .goto (-26), 3), (57, .iconst 1, 1), (58, .ireturn, 1)]
theorem dtX7_isSafe_0 : ∀ q ∈ dlX7_isSafe_0, decode cX7_isSafe q.1 = .ok q.2 := by decide +kernel
def dlX7_isSafeTable_0 : List (Nat × Instr × Nat) := [(0, .aload_n 1, 1), (1, .ifnonnull 5, 3), (4, .iconst 0, 1), (5, .ireturn, 1), (6, .aload_n 1, 1), (7, .getfield 244, 3), (10, .invokestatic 276, 3), (13, .ifCond .ne 17, 3), (16, .aload_n 1, 1), (17, .getfield 244, 3), (20, .invokestatic 279, 3), (23, .ifCond .ne 7, 3), (26, .iconst 1, 1), (27, .goto 4, 3), (30, .iconst 0, 1), (31, .istore_n 2, 1), (32, .iload_n 2, 1), (33, .ifCond .eq 35, 3), (36, .aload_n 1, 1), (37, .getfield 236, 3), (40, .ifCond .ne 24, 3), (43, .aload_n 1, 1), (44, .aload_n 0, 1), (45, .getfield 12, 3), (48, .getfield 65, 3), (51, .aload_n 0, 1), (52, .getfield 39, 3), (55, .getfield 195, 3), (58, .invokevirtual 308, 3), (61, .ifCond .eq 7, 3), (64, .iconst 1, 1), (65, .goto 4, 3), (68, .iconst 0, 1), (69, .ireturn, 1)]
theorem dtX7_isSafeTable_0 : ∀ q ∈ dlX7_isSafeTable_0, decode cX7_isSafeTable q.1 = .ok q.2 := by decide +kernel
def dlX7_settle_0 : List (Nat × Instr × Nat) := [(0, .aload_n 0, 1), (1, .getfield 39, 3), (4, .invokevirtual 198, 3), (7, .aload_n 0, 1), (8, .getfield 51, 3), (11, .invokevirtual 312, 3), (14, .iconst 0, 1), (15, .istore_n 1, 1), (16, .iconst 0, 1), (17, .istore_n 2, 1), (18, .iload_n 2, 1), (19, .aload_n 0, 1), (20, .getfield 61, 3), (23, .if_icmp .ge 56, 3), (26, .aload_n 0, 1), (27, .getfield 57, 3), (30, .iload_n 2, 1), (31, .aaload, 1), (32, .astore_n 3, 1), (33, .aload_n 3, 1), (34, .ifnull 39, 3), (37, .aload_n 3, 1), (38, .getfield 236, 3), (41, .ifCond .ne 32, 3), (44, .aload_n 3, 1), (45, .aload_n 0, 1), (46, .getfield 12, 3), (49, .getfield 65, 3), (52, .aload_n 0, 1), (53, .getfield 39, 3), (56, .getfield 195, 3), (59, .invokevirtual 308, 3), (62, .ifCond .ne 11, 3), (65, .aload_n 3, 1), (66, .iconst 1, 1), (67, .putfield 236, 3), (70, .iinc 1 1, 3), (73, .iinc 2 1, 3), (76, .goto (-58), 3), (79, .iload_n 1, 1), (80, .ireturn, 1)]
theorem dtX7_settle_0 : ∀ q ∈ dlX7_settle_0, decode cX7_settle q.1 = .ok q.2 := by decide +kernel
def dlX7_needBlock_0 : List (Nat × Instr × Nat) := [(0, .iload_n 1, 1), (1, .ifCond .lt 14, 3), (4, .iload_n 1, 1), (5, .aload_n 0, 1), (6, .getfield 12, 3), (9, .getfield 65, 3), (12, .if_icmp .lt 14, 3), (15, .new 291, 3), (18, .dup, 1), (19, .ldc_w 313, 3), (22, .invokespecial 295, 3), (25, .athrow, 1), (26, .return_, 1)]
theorem dtX7_needBlock_0 : ∀ q ∈ dlX7_needBlock_0, decode cX7_needBlock q.1 = .ok q.2 := by decide +kernel
def dlX7_needAddress_0 : List (Nat × Instr × Nat) := [(0, .aload_n 0, 1), (1, .getfield 12, 3), (4, .iload_n 1, 1), (5, .invokevirtual 95, 3), (8, .ifCond .ne 14, 3), (11, .new 291, 3), (14, .dup, 1), (15, .ldc_w 315, 3), (18, .invokespecial 295, 3), (21, .athrow, 1), (22, .return_, 1)]
theorem dtX7_needAddress_0 : ∀ q ∈ dlX7_needAddress_0, decode cX7_needAddress q.1 = .ok q.2 := by decide +kernel
def dlX7_needGroup_0 : List (Nat × Instr × Nat) := [(0, .iload_n 1, 1), (1, .ifCond .lt 8, 3), (4, .iload_n 1, 1), (5, .iconst 4, 1), (6, .if_icmp .lt 14, 3), (9, .new 112, 3), (12, .dup, 1), (13, .ldc_w 317, 3), (16, .invokespecial 116, 3), (19, .athrow, 1), (20, .return_, 1)]
theorem dtX7_needGroup_0 : ∀ q ∈ dlX7_needGroup_0, decode cX7_needGroup q.1 = .ok q.2 := by decide +kernel
def dlX7_needRecord_0 : List (Nat × Instr × Nat) := [(0, .iload_n 1, 1), (1, .ifCond .lt 14, 3), (4, .iload_n 1, 1), (5, .aload_n 0, 1), (6, .getfield 21, 3), (9, .getfield 124, 3), (12, .if_icmp .lt 14, 3), (15, .new 103, 3), (18, .dup, 1), (19, .ldc_w 319, 3), (22, .invokespecial 107, 3), (25, .athrow, 1), (26, .return_, 1)]
theorem dtX7_needRecord_0 : ∀ q ∈ dlX7_needRecord_0, decode cX7_needRecord q.1 = .ok q.2 := by decide +kernel
def dlX7_needTwoRecords_0 : List (Nat × Instr × Nat) := [(0, .aload_n 0, 1), (1, .iload_n 1, 1), (2, .invokevirtual 170, 3), (5, .aload_n 0, 1), (6, .iload_n 2, 1), (7, .invokevirtual 170, 3), (10, .iload_n 1, 1), (11, .iload_n 2, 1), (12, .if_icmp .ne 14, 3), (15, .new 112, 3), (18, .dup, 1), (19, .ldc_w 321, 3), (22, .invokespecial 116, 3), (25, .athrow, 1), (26, .return_, 1)]
theorem dtX7_needTwoRecords_0 : ∀ q ∈ dlX7_needTwoRecords_0, decode cX7_needTwoRecords q.1 = .ok q.2 := by decide +kernel
def dlX7_toldTable_0 : List (Nat × Instr × Nat) := [(0, .iload_n 1, 1), (1, .ifCond .lt 20, 3), (4, .iload_n 1, 1), (5, .aload_n 0, 1), (6, .getfield 61, 3), (9, .if_icmp .ge 12, 3), (12, .aload_n 0, 1), (13, .getfield 57, 3), (16, .iload_n 1, 1), (17, .aaload, 1), (18, .goto 4, 3), (21, .aconst_null, 1), (22, .astore_n 2, 1), (23, .aload_n 2, 1), (24, .ifnonnull 14, 3), (27, .new 103, 3), (30, .dup, 1), (31, .ldc_w 323, 3), (34, .invokespecial 107, 3), (37, .athrow, 1), (38, .aload_n 2, 1), (39, .areturn, 1)]
theorem dtX7_toldTable_0 : ∀ q ∈ dlX7_toldTable_0, decode cX7_toldTable q.1 = .ok q.2 := by decide +kernel
def dlX7_needBlockIn_0 : List (Nat × Instr × Nat) := [(0, .iload_n 2, 1), (1, .ifCond .lt 11, 3), (4, .iload_n 2, 1), (5, .aload_n 1, 1), (6, .getfield 325, 3), (9, .if_icmp .lt 14, 3), (12, .new 291, 3), (15, .dup, 1), (16, .ldc_w 326, 3), (19, .invokespecial 295, 3), (22, .athrow, 1), (23, .return_, 1)]
theorem dtX7_needBlockIn_0 : ∀ q ∈ dlX7_needBlockIn_0, decode cX7_needBlockIn q.1 = .ok q.2 := by decide +kernel
def dlX7_needCell_0 : List (Nat × Instr × Nat) := [(0, .aload_n 0, 1), (1, .aload_n 1, 1), (2, .iload_n 2, 1), (3, .invokevirtual 253, 3), (6, .aload_n 0, 1), (7, .iload_n 3, 1), (8, .invokevirtual 192, 3), (11, .return_, 1)]
theorem dtX7_needCell_0 : ∀ q ∈ dlX7_needCell_0, decode cX7_needCell q.1 = .ok q.2 := by decide +kernel
def dlX8_init_0 : List (Nat × Instr × Nat) := [(0, .aload_n 0, 1), (1, .invokespecial 1, 3), (4, .aload_n 0, 1), (5, .bipush 20, 2), (7, .newarray .int, 2), (9, .putfield 7, 3), (12, .aload_n 0, 1), (13, .bipush 40, 2), (15, .newarray .int, 2), (17, .putfield 13, 3), (20, .aload_n 0, 1), (21, .bipush 40, 2), (23, .newarray .int, 2), (25, .putfield 16, 3), (28, .aload_n 0, 1), (29, .bipush 40, 2), (31, .newarray .int, 2), (33, .putfield 19, 3), (36, .aload_n 0, 1), (37, .bipush 40, 2), (39, .newarray .int, 2), (41, .putfield 22, 3), (44, .aload_n 0, 1), (45, .bipush 24, 2), (47, .newarray .int, 2), (49, .putfield 25, 3), (52, .aload_n 0, 1), (53, .bipush 40, 2), (55, .newarray .char, 2), (57, .putfield 28, 3), (60, .aload_n 0, 1), (61, .sipush 1600, 3), (64, .newarray .char, 2), (66, .putfield 32, 3), (69, .aload_n 0, 1), (70, .bipush 40, 2), (72, .newarray .boolean, 2), (74, .putfield 35, 3), (77, .aload_n 0, 1), (78, .bipush 8, 2), (80, .newarray .boolean, 2), (82, .putfield 39, 3), (85, .aload_n 0, 1), (86, .sipush 192, 3), (89, .newarray .boolean, 2), (91, .putfield 42, 3), (94, .aload_n 0, 1), (95, .bipush 10, 2), (97, .newarray .boolean, 2), (99, .putfield 45, 3), (102, .aload_n 0, 1), (103, .sipush 192, 3), (106, .newarray .int, 2), (108, .putfield 48, 3), (111, .aload_n 0, 1), (112, .bipush 8, 2), (114, .newarray .int, 2), (116, .putfield 51, 3), (119, .aload_n 0, 1), (120, .iconst 0, 1)]
theorem dtX8_init_0 : ∀ q ∈ dlX8_init_0, decode cX8_init q.1 = .ok q.2 := by decide +kernel
def dlX8_init_1 : List (Nat × Instr × Nat) := [(121, .putfield 54, 3), (124, .aload_n 0, 1), (125, .iconst 0, 1), (126, .putfield 58, 3), (129, .aload_n 0, 1), (130, .iconst 0, 1), (131, .putfield 61, 3), (134, .aload_n 0, 1), (135, .iconst 0, 1), (136, .putfield 64, 3), (139, .aload_n 0, 1), (140, .iconst 0, 1), (141, .putfield 67, 3), (144, .aload_n 0, 1), (145, .iconst 5, 1), (146, .putfield 70, 3), (149, .aload_n 0, 1), (150, .iconst 4, 1), (151, .putfield 73, 3), (154, .aload_n 0, 1), (155, .iconst 3, 1), (156, .putfield 76, 3), (159, .aload_n 0, 1), (160, .bipush 6, 2), (162, .putfield 79, 3), (165, .aload_n 0, 1), (166, .bipush 9, 2), (168, .putfield 82, 3), (171, .aload_n 0, 1), (172, .iconst 0, 1), (173, .putfield 85, 3), (176, .aload_n 0, 1), (177, .iconst 0, 1), (178, .putfield 88, 3), (181, .return_, 1)]
theorem dtX8_init_1 : ∀ q ∈ dlX8_init_1, decode cX8_init q.1 = .ok q.2 := by decide +kernel
def dlX8_thrown_0 : List (Nat × Instr × Nat) := [(0, .aload_n 0, 1), (1, .getfield 54, 3), (4, .ireturn, 1)]
theorem dtX8_thrown_0 : ∀ q ∈ dlX8_thrown_0, decode cX8_thrown q.1 = .ok q.2 := by decide +kernel
def dlX8_in_0 : List (Nat × Instr × Nat) := [(0, .iload_n 0, 1), (1, .iload_n 1, 1), (2, .if_icmp .lt 12, 3), (5, .iload_n 0, 1), (6, .iload_n 2, 1), (7, .if_icmp .gt 7, 3), (10, .iconst 1, 1), (11, .goto 4, 3), (14, .iconst 0, 1), (15, .ireturn, 1)]
theorem dtX8_in_0 : ∀ q ∈ dlX8_in_0, decode cX8_in q.1 = .ok q.2 := by decide +kernel
def dlX8_plain_0 : List (Nat × Instr × Nat) := [(0, .aload_n 0, 1), (1, .iconst 0, 1), (2, .putfield 54, 3), (5, .iload_n 1, 1), (6, .ireturn, 1)]
theorem dtX8_plain_0 : ∀ q ∈ dlX8_plain_0, decode cX8_plain q.1 = .ok q.2 := by decide +kernel
def dlX8_checked_0 : List (Nat × Instr × Nat) := [(0, .aload_n 0, 1), (1, .iload_n 1, 1), (2, .ifCond .eq 7, 3), (5, .iconst 0, 1), (6, .goto 4, 3), (9, .iconst 1, 1), (10, .putfield 54, 3), (13, .aload_n 0, 1), (14, .getfield 54, 3), (17, .ireturn, 1)]
theorem dtX8_checked_0 : ∀ q ∈ dlX8_checked_0, decode cX8_checked q.1 = .ok q.2 := by decide +kernel
def dlX8_isBlock_0 : List (Nat × Instr × Nat) := [(0, .iload_n 1, 1), (1, .iconst 0, 1), (2, .aload_n 0, 1), (3, .getfield 58, 3), (6, .iconst 1, 1), (7, .isub, 1), (8, .invokestatic 91, 3), (11, .ireturn, 1)]
theorem dtX8_isBlock_0 : ∀ q ∈ dlX8_isBlock_0, decode cX8_isBlock q.1 = .ok q.2 := by decide +kernel
def dlX8_isRecord_0 : List (Nat × Instr × Nat) := [(0, .iload_n 1, 1), (1, .iconst 0, 1), (2, .aload_n 0, 1), (3, .getfield 64, 3), (6, .iconst 1, 1), (7, .isub, 1), (8, .invokestatic 91, 3), (11, .ireturn, 1)]
theorem dtX8_isRecord_0 : ∀ q ∈ dlX8_isRecord_0, decode cX8_isRecord q.1 = .ok q.2 := by decide +kernel
def dlX8_group_0 : List (Nat × Instr × Nat) := [(0, .iload_n 0, 1), (1, .bipush 17, 2), (3, .if_icmp .gt 5, 3), (6, .iconst 0, 1), (7, .ireturn, 1), (8, .iload_n 0, 1), (9, .bipush 39, 2), (11, .if_icmp .gt 5, 3), (14, .iconst 1, 1), (15, .ireturn, 1), (16, .iload_n 0, 1), (17, .bipush 64, 2), (19, .if_icmp .gt 7, 3), (22, .iconst 2, 1), (23, .goto 4, 3), (26, .iconst 3, 1), (27, .ireturn, 1)]
theorem dtX8_group_0 : ∀ q ∈ dlX8_group_0, decode cX8_group q.1 = .ok q.2 := by decide +kernel
def dlX8_blockFor_0 : List (Nat × Instr × Nat) := [(0, .aload_n 0, 1), (1, .getfield 7, 3), (4, .aload_n 0, 1), (5, .getfield 13, 3), (8, .iload_n 1, 1), (9, .iaload, 1), (10, .iaload, 1), (11, .ireturn, 1)]
theorem dtX8_blockFor_0 : ∀ q ∈ dlX8_blockFor_0, decode cX8_blockFor q.1 = .ok q.2 := by decide +kernel
def dlX8_scoreOf_0 : List (Nat × Instr × Nat) := [(0, .iconst 0, 1), (1, .istore_n 3, 1), (2, .aload_n 0, 1), (3, .getfield 16, 3), (6, .iload_n 1, 1), (7, .iaload, 1), (8, .aload_n 0, 1), (9, .getfield 16, 3), (12, .iload_n 2, 1), (13, .iaload, 1), (14, .if_icmp .ne 13, 3), (17, .iload_n 3, 1), (18, .aload_n 0, 1), (19, .getfield 70, 3), (22, .iadd, 1), (23, .istore_n 3, 1), (24, .goto 33, 3), (27, .aload_n 0, 1), (28, .getfield 16, 3), (31, .iload_n 1, 1), (32, .iaload, 1), (33, .bipush 10, 2), (35, .idiv, 1), (36, .aload_n 0, 1), (37, .getfield 16, 3), (40, .iload_n 2, 1), (41, .iaload, 1), (42, .bipush 10, 2), (44, .idiv, 1), (45, .if_icmp .ne 12, 3), (48, .iload_n 3, 1), (49, .aload_n 0, 1), (50, .getfield 70, 3), (53, .iconst 2, 1), (54, .idiv, 1), (55, .iadd, 1), (56, .istore_n 3, 1), (57, .aload_n 0, 1), (58, .getfield 19, 3), (61, .iload_n 1, 1), (62, .iaload, 1), (63, .aload_n 0, 1), (64, .getfield 19, 3), (67, .iload_n 2, 1), (68, .iaload, 1), (69, .isub, 1), (70, .istore 4, 2), (72, .iload 4, 2), (74, .ifCond .ne 13, 3), (77, .iload_n 3, 1), (78, .aload_n 0, 1), (79, .getfield 73, 3), (82, .iadd, 1), (83, .istore_n 3, 1), (84, .goto 24, 3), (87, .iload 4, 2), (89, .iconst 1, 1), (90, .if_icmp .eq 9, 3), (93, .iload 4, 2), (95, .iconst (-1), 1)]
theorem dtX8_scoreOf_0 : ∀ q ∈ dlX8_scoreOf_0, decode cX8_scoreOf q.1 = .ok q.2 := by decide +kernel
def dlX8_scoreOf_1 : List (Nat × Instr × Nat) := [(96, .if_icmp .ne 12, 3), (99, .iload_n 3, 1), (100, .aload_n 0, 1), (101, .getfield 73, 3), (104, .iconst 2, 1), (105, .idiv, 1), (106, .iadd, 1), (107, .istore_n 3, 1), (108, .aload_n 0, 1), (109, .getfield 13, 3), (112, .iload_n 1, 1), (113, .iaload, 1), (114, .aload_n 0, 1), (115, .getfield 13, 3), (118, .iload_n 2, 1), (119, .iaload, 1), (120, .if_icmp .ne 10, 3), (123, .iload_n 3, 1), (124, .aload_n 0, 1), (125, .getfield 76, 3), (128, .iadd, 1), (129, .ireturn, 1), (130, .aload_n 0, 1), (131, .iload_n 1, 1), (132, .invokevirtual 95, 3), (135, .aload_n 0, 1), (136, .iload_n 2, 1), (137, .invokevirtual 95, 3), (140, .if_icmp .ne 14, 3), (143, .iload_n 3, 1), (144, .aload_n 0, 1), (145, .getfield 76, 3), (148, .iconst 2, 1), (149, .idiv, 1), (150, .iadd, 1), (151, .goto 4, 3), (154, .iload_n 3, 1), (155, .ireturn, 1)]
theorem dtX8_scoreOf_1 : ∀ q ∈ dlX8_scoreOf_1, decode cX8_scoreOf q.1 = .ok q.2 := by decide +kernel
def dlX8_linkOf_0 : List (Nat × Instr × Nat) := [(0, .aload_n 0, 1), (1, .getfield 32, 3), (4, .bipush 40, 2), (6, .iload_n 1, 1), (7, .imul, 1), (8, .iload_n 2, 1), (9, .iadd, 1), (10, .caload, 1), (11, .istore_n 3, 1), (12, .iload_n 3, 1), (13, .ifCond .eq 5, 3), (16, .iload_n 3, 1), (17, .ireturn, 1), (18, .aload_n 0, 1), (19, .iload_n 1, 1), (20, .iload_n 2, 1), (21, .invokevirtual 99, 3), (24, .istore 4, 2), (26, .iload 4, 2), (28, .aload_n 0, 1), (29, .getfield 82, 3), (32, .if_icmp .lt 6, 3), (35, .bipush 121, 2), (37, .ireturn, 1), (38, .iload 4, 2), (40, .aload_n 0, 1), (41, .getfield 79, 3), (44, .if_icmp .lt 8, 3), (47, .bipush 63, 2), (49, .goto 5, 3), (52, .bipush 110, 2), (54, .ireturn, 1)]
theorem dtX8_linkOf_0 : ∀ q ∈ dlX8_linkOf_0, decode cX8_linkOf q.1 = .ok q.2 := by decide +kernel
def dlX8_layDoubles_0 : List (Nat × Instr × Nat) := [(0, .iconst 0, 1), (1, .istore_n 1, 1), (2, .iload_n 1, 1), (3, .aload_n 0, 1), (4, .getfield 64, 3), (7, .if_icmp .ge 78, 3), (10, .aload_n 0, 1), (11, .getfield 35, 3), (14, .iload_n 1, 1), (15, .iconst 0, 1), (16, .bastore, 1), (17, .iconst 0, 1), (18, .istore_n 2, 1), (19, .iload_n 2, 1), (20, .iload_n 1, 1), (21, .if_icmp .ge 58, 3), (24, .aload_n 0, 1), (25, .getfield 28, 3), (28, .iload_n 1, 1), (29, .caload, 1), (30, .bipush 99, 2), (32, .if_icmp .ne 47, 3), (35, .aload_n 0, 1), (36, .getfield 28, 3), (39, .iload_n 2, 1), (40, .caload, 1), (41, .bipush 99, 2), (43, .if_icmp .ne 30, 3), (46, .aload_n 0, 1), (47, .getfield 35, 3), (50, .iload_n 2, 1), (51, .baload, 1), (52, .ifCond .ne 21, 3), (55, .aload_n 0, 1), (56, .iload_n 1, 1), (57, .iload_n 2, 1), (58, .invokevirtual 103, 3), (61, .bipush 121, 2), (63, .if_icmp .ne 10, 3), (66, .aload_n 0, 1), (67, .getfield 35, 3), (70, .iload_n 1, 1), (71, .iconst 1, 1), (72, .bastore, 1), (73, .iinc 2 1, 3), (76, .goto (-57), 3), (79, .iinc 1 1, 3), (82, .goto (-80), 3), (85, .return_, 1)]
theorem dtX8_layDoubles_0 : ∀ q ∈ dlX8_layDoubles_0, decode cX8_layDoubles q.1 = .ok q.2 := by decide +kernel
def dlX8_isCounted_0 : List (Nat × Instr × Nat) := [(0, .aload_n 0, 1), (1, .getfield 28, 3), (4, .iload_n 1, 1), (5, .caload, 1), (6, .bipush 99, 2), (8, .if_icmp .ne 16, 3), (11, .aload_n 0, 1), (12, .getfield 35, 3), (15, .iload_n 1, 1), (16, .baload, 1), (17, .ifCond .ne 7, 3), (20, .iconst 1, 1), (21, .goto 4, 3), (24, .iconst 0, 1), (25, .ireturn, 1)]
theorem dtX8_isCounted_0 : ∀ q ∈ dlX8_isCounted_0, decode cX8_isCounted q.1 = .ok q.2 := by decide +kernel
def dlX8_layCounts_0 : List (Nat × Instr × Nat) := [(0, .aload_n 0, 1), (1, .invokevirtual 107, 3), (4, .iconst 0, 1), (5, .istore_n 1, 1), (6, .iload_n 1, 1), (7, .bipush 24, 2), (9, .if_icmp .ge 16, 3), (12, .aload_n 0, 1), (13, .getfield 25, 3), (16, .iload_n 1, 1), (17, .iconst 0, 1), (18, .iastore, 1), (19, .iinc 1 1, 3), (22, .goto (-16), 3), (25, .iconst 0, 1), (26, .istore_n 1, 1), (27, .iload_n 1, 1), (28, .aload_n 0, 1), (29, .getfield 64, 3), (32, .if_icmp .ge 43, 3), (35, .aload_n 0, 1), (36, .iload_n 1, 1), (37, .invokevirtual 110, 3), (40, .ifCond .eq 29, 3), (43, .aload_n 0, 1), (44, .getfield 25, 3), (47, .iconst 4, 1), (48, .aload_n 0, 1), (49, .iload_n 1, 1), (50, .invokevirtual 95, 3), (53, .imul, 1), (54, .aload_n 0, 1), (55, .getfield 19, 3), (58, .iload_n 1, 1), (59, .iaload, 1), (60, .invokestatic 114, 3), (63, .iadd, 1), (64, .dup2, 1), (65, .iaload, 1), (66, .iconst 1, 1), (67, .iadd, 1), (68, .iastore, 1), (69, .iinc 1 1, 3), (72, .goto (-45), 3), (75, .return_, 1)]
theorem dtX8_layCounts_0 : ∀ q ∈ dlX8_layCounts_0, decode cX8_layCounts q.1 = .ok q.2 := by decide +kernel
def dlX8_layMatches_0 : List (Nat × Instr × Nat) := [(0, .aload_n 0, 1), (1, .invokevirtual 107, 3), (4, .aload_n 0, 1), (5, .iconst 0, 1), (6, .putfield 85, 3), (9, .aload_n 0, 1), (10, .iconst 0, 1), (11, .putfield 88, 3), (14, .iconst 0, 1), (15, .istore_n 1, 1), (16, .iload_n 1, 1), (17, .aload_n 0, 1), (18, .getfield 64, 3), (21, .if_icmp .ge 16, 3), (24, .aload_n 0, 1), (25, .getfield 22, 3), (28, .iload_n 1, 1), (29, .iconst (-1), 1), (30, .iastore, 1), (31, .iinc 1 1, 3), (34, .goto (-18), 3), (37, .bipush 27, 2), (39, .istore_n 1, 1), (40, .iload_n 1, 1), (41, .ifCond .lt 136, 3), (44, .iconst 0, 1), (45, .istore_n 2, 1), (46, .iload_n 2, 1), (47, .aload_n 0, 1), (48, .getfield 64, 3), (51, .if_icmp .ge 120, 3), (54, .iconst 0, 1), (55, .istore_n 3, 1), (56, .iload_n 3, 1), (57, .aload_n 0, 1), (58, .getfield 64, 3), (61, .if_icmp .ge 104, 3), (64, .aload_n 0, 1), (65, .iload_n 2, 1), (66, .invokevirtual 110, 3), (69, .ifCond .eq 90, 3), (72, .aload_n 0, 1), (73, .getfield 28, 3), (76, .iload_n 3, 1), (77, .caload, 1), (78, .bipush 107, 2), (80, .if_icmp .ne 79, 3), (83, .aload_n 0, 1), (84, .getfield 22, 3), (87, .iload_n 2, 1), (88, .iaload, 1), (89, .ifCond .ge 70, 3), (92, .aload_n 0, 1), (93, .getfield 22, 3), (96, .iload_n 3, 1), (97, .iaload, 1), (98, .ifCond .ge 61, 3), (101, .aload_n 0, 1), (102, .iload_n 2, 1), (103, .iload_n 3, 1)]
theorem dtX8_layMatches_0 : ∀ q ∈ dlX8_layMatches_0, decode cX8_layMatches q.1 = .ok q.2 := by decide +kernel
def dlX8_layMatches_1 : List (Nat × Instr × Nat) := [(104, .invokevirtual 99, 3), (107, .iload_n 1, 1), (108, .if_icmp .ne 51, 3), (111, .aload_n 0, 1), (112, .iload_n 2, 1), (113, .iload_n 3, 1), (114, .invokevirtual 103, 3), (117, .bipush 121, 2), (119, .if_icmp .eq 6, 3), (122, .goto 37, 3), (125, .aload_n 0, 1), (126, .getfield 22, 3), (129, .iload_n 2, 1), (130, .iload_n 3, 1), (131, .iastore, 1), (132, .aload_n 0, 1), (133, .getfield 22, 3), (136, .iload_n 3, 1), (137, .iload_n 2, 1), (138, .iastore, 1), (139, .aload_n 0, 1), (140, .dup, 1), (141, .getfield 85, 3), (144, .iconst 1, 1), (145, .iadd, 1), (146, .putfield 85, 3), (149, .aload_n 0, 1), (150, .dup, 1), (151, .getfield 88, 3), (154, .iload_n 1, 1), (155, .iadd, 1), (156, .putfield 88, 3), (159, .iinc 3 1, 3), (162, .goto (-106), 3), (165, .iinc 2 1, 3), (168, .goto (-122), 3), (171, .iinc 1 (-1), 3), (174, .goto (-134), 3), (177, .return_, 1)]
theorem dtX8_layMatches_1 : ∀ q ∈ dlX8_layMatches_1, decode cX8_layMatches q.1 = .ok q.2 := by decide +kernel
def dlX8_looks_0 : List (Nat × Instr × Nat) := [(0, .aload_n 0, 1), (1, .invokevirtual 117, 3), (4, .iconst 0, 1), (5, .istore_n 1, 1), (6, .iconst 0, 1), (7, .istore_n 2, 1), (8, .iload_n 2, 1), (9, .aload_n 0, 1), (10, .getfield 67, 3), (13, .if_icmp .ge 100, 3), (16, .aload_n 0, 1), (17, .getfield 51, 3), (20, .iload_n 2, 1), (21, .iaload, 1), (22, .aload_n 0, 1), (23, .getfield 58, 3), (26, .if_icmp .ne 7, 3), (29, .iconst 1, 1), (30, .goto 4, 3), (33, .iconst 0, 1), (34, .istore_n 3, 1), (35, .iconst 0, 1), (36, .istore 4, 2), (38, .iload 4, 2), (40, .bipush 24, 2), (42, .if_icmp .ge 39, 3), (45, .iload_n 3, 1), (46, .aload_n 0, 1), (47, .getfield 48, 3), (50, .bipush 24, 2), (52, .iload_n 2, 1), (53, .imul, 1), (54, .iload 4, 2), (56, .iadd, 1), (57, .iaload, 1), (58, .aload_n 0, 1), (59, .getfield 25, 3), (62, .iload 4, 2), (64, .iaload, 1), (65, .if_icmp .ne 7, 3), (68, .iconst 1, 1), (69, .goto 4, 3), (72, .iconst 0, 1), (73, .iand, 1), (74, .istore_n 3, 1), (75, .iinc 4 1, 3), (78, .goto (-40), 3), (81, .iload_n 3, 1), (82, .ifCond .ne 25, 3), (85, .aload_n 0, 1), (86, .getfield 39, 3), (89, .iload_n 2, 1), (90, .baload, 1), (91, .ifCond .eq 6, 3), (94, .goto 13, 3), (97, .aload_n 0, 1), (98, .getfield 39, 3), (101, .iload_n 2, 1), (102, .iconst 1, 1), (103, .bastore, 1)]
theorem dtX8_looks_0 : ∀ q ∈ dlX8_looks_0, decode cX8_looks q.1 = .ok q.2 := by decide +kernel
def dlX8_looks_1 : List (Nat × Instr × Nat) := [(104, .iinc 1 1, 3), (107, .iinc 2 1, 3), (110, .goto (-102), 3), (113, .iload_n 1, 1), (114, .ireturn, 1)]
theorem dtX8_looks_1 : ∀ q ∈ dlX8_looks_1, decode cX8_looks q.1 = .ok q.2 := by decide +kernel
def dlX8_addBlock_0 : List (Nat × Instr × Nat) := [(0, .aload_n 0, 1), (1, .aload_n 0, 1), (2, .getfield 58, 3), (5, .bipush 6, 2), (7, .if_icmp .ge 7, 3), (10, .iconst 1, 1), (11, .goto 4, 3), (14, .iconst 0, 1), (15, .invokevirtual 120, 3), (18, .ifCond .le 5, 3), (21, .iconst 0, 1), (22, .ireturn, 1), (23, .aload_n 0, 1), (24, .dup, 1), (25, .getfield 58, 3), (28, .iconst 1, 1), (29, .iadd, 1), (30, .putfield 58, 3), (33, .aload_n 0, 1), (34, .invokevirtual 124, 3), (37, .istore_n 1, 1), (38, .aload_n 0, 1), (39, .getfield 58, 3), (42, .iconst 1, 1), (43, .isub, 1), (44, .ireturn, 1)]
theorem dtX8_addBlock_0 : ∀ q ∈ dlX8_addBlock_0, decode cX8_addBlock q.1 = .ok q.2 := by decide +kernel
def dlX8_addAddress_0 : List (Nat × Instr × Nat) := [(0, .aload_n 0, 1), (1, .aload_n 0, 1), (2, .iload_n 1, 1), (3, .invokevirtual 128, 3), (6, .ifCond .ne 7, 3), (9, .iconst 1, 1), (10, .goto 17, 3), (13, .aload_n 0, 1), (14, .getfield 61, 3), (17, .bipush 20, 2), (19, .if_icmp .ne 7, 3), (22, .iconst 2, 1), (23, .goto 4, 3), (26, .iconst 0, 1), (27, .putfield 54, 3), (30, .aload_n 0, 1), (31, .getfield 54, 3), (34, .ifCond .le 5, 3), (37, .iconst 0, 1), (38, .ireturn, 1), (39, .aload_n 0, 1), (40, .getfield 7, 3), (43, .aload_n 0, 1), (44, .getfield 61, 3), (47, .iload_n 1, 1), (48, .iastore, 1), (49, .aload_n 0, 1), (50, .dup, 1), (51, .getfield 61, 3), (54, .iconst 1, 1), (55, .iadd, 1), (56, .putfield 61, 3), (59, .aload_n 0, 1), (60, .getfield 61, 3), (63, .iconst 1, 1), (64, .isub, 1), (65, .ireturn, 1)]
theorem dtX8_addAddress_0 : ∀ q ∈ dlX8_addAddress_0, decode cX8_addAddress q.1 = .ok q.2 := by decide +kernel
def dlX8_split_0 : List (Nat × Instr × Nat) := [(0, .aload_n 0, 1), (1, .aload_n 0, 1), (2, .iload_n 1, 1), (3, .invokevirtual 128, 3), (6, .ifCond .ne 7, 3), (9, .iconst 1, 1), (10, .goto 45, 3), (13, .iload_n 2, 1), (14, .iconst 0, 1), (15, .aload_n 0, 1), (16, .getfield 61, 3), (19, .iconst 1, 1), (20, .isub, 1), (21, .invokestatic 91, 3), (24, .ifCond .eq 13, 3), (27, .aload_n 0, 1), (28, .getfield 7, 3), (31, .iload_n 2, 1), (32, .iaload, 1), (33, .iload_n 1, 1), (34, .if_icmp .eq 7, 3), (37, .iconst 2, 1), (38, .goto 17, 3), (41, .aload_n 0, 1), (42, .getfield 58, 3), (45, .bipush 6, 2), (47, .if_icmp .ne 7, 3), (50, .iconst 3, 1), (51, .goto 4, 3), (54, .iconst 0, 1), (55, .putfield 54, 3), (58, .aload_n 0, 1), (59, .getfield 54, 3), (62, .ifCond .le 5, 3), (65, .iconst 0, 1), (66, .ireturn, 1), (67, .iload_n 2, 1), (68, .istore_n 3, 1), (69, .iload_n 3, 1), (70, .aload_n 0, 1), (71, .getfield 61, 3), (74, .if_icmp .ge 29, 3), (77, .aload_n 0, 1), (78, .getfield 7, 3), (81, .iload_n 3, 1), (82, .iaload, 1), (83, .iload_n 1, 1), (84, .if_icmp .ne 13, 3), (87, .aload_n 0, 1), (88, .getfield 7, 3), (91, .iload_n 3, 1), (92, .aload_n 0, 1), (93, .getfield 58, 3), (96, .iastore, 1), (97, .iinc 3 1, 3), (100, .goto (-31), 3), (103, .aload_n 0, 1), (104, .dup, 1), (105, .getfield 58, 3), (108, .iconst 1, 1)]
theorem dtX8_split_0 : ∀ q ∈ dlX8_split_0, decode cX8_split q.1 = .ok q.2 := by decide +kernel
def dlX8_split_1 : List (Nat × Instr × Nat) := [(109, .iadd, 1), (110, .putfield 58, 3), (113, .aload_n 0, 1), (114, .invokevirtual 124, 3), (117, .istore_n 3, 1), (118, .aload_n 0, 1), (119, .getfield 58, 3), (122, .iconst 1, 1), (123, .isub, 1), (124, .ireturn, 1)]
theorem dtX8_split_1 : ∀ q ∈ dlX8_split_1, decode cX8_split q.1 = .ok q.2 := by decide +kernel
def dlX8_join_0 : List (Nat × Instr × Nat) := [(0, .aload_n 0, 1), (1, .aload_n 0, 1), (2, .iload_n 1, 1), (3, .invokevirtual 128, 3), (6, .ifCond .eq 11, 3), (9, .aload_n 0, 1), (10, .iload_n 2, 1), (11, .invokevirtual 128, 3), (14, .ifCond .ne 7, 3), (17, .iconst 1, 1), (18, .goto 13, 3), (21, .iload_n 1, 1), (22, .iload_n 2, 1), (23, .if_icmp .ne 7, 3), (26, .iconst 2, 1), (27, .goto 4, 3), (30, .iconst 0, 1), (31, .putfield 54, 3), (34, .aload_n 0, 1), (35, .getfield 54, 3), (38, .ifCond .le 5, 3), (41, .iconst 0, 1), (42, .ireturn, 1), (43, .iconst 0, 1), (44, .istore_n 3, 1), (45, .iconst 0, 1), (46, .istore 4, 2), (48, .iload 4, 2), (50, .aload_n 0, 1), (51, .getfield 61, 3), (54, .if_icmp .ge 34, 3), (57, .aload_n 0, 1), (58, .getfield 7, 3), (61, .iload 4, 2), (63, .iaload, 1), (64, .iload_n 1, 1), (65, .if_icmp .eq 6, 3), (68, .goto 14, 3), (71, .aload_n 0, 1), (72, .getfield 7, 3), (75, .iload 4, 2), (77, .iload_n 2, 1), (78, .iastore, 1), (79, .iinc 3 1, 3), (82, .iinc 4 1, 3), (85, .goto (-37), 3), (88, .aload_n 0, 1), (89, .invokevirtual 124, 3), (92, .istore 4, 2), (94, .iload_n 3, 1), (95, .ireturn, 1)]
theorem dtX8_join_0 : ∀ q ∈ dlX8_join_0, decode cX8_join q.1 = .ok q.2 := by decide +kernel
def dlX8_addRecord_0 : List (Nat × Instr × Nat) := [(0, .aload_n 0, 1), (1, .iload_n 1, 1), (2, .bipush 99, 2), (4, .if_icmp .eq 9, 3), (7, .iload_n 1, 1), (8, .bipush 107, 2), (10, .if_icmp .ne 25, 3), (13, .iload_n 3, 1), (14, .iconst 0, 1), (15, .sipush 999, 3), (18, .invokestatic 91, 3), (21, .ifCond .eq 14, 3), (24, .iload 4, 2), (26, .iconst 0, 1), (27, .bipush 120, 2), (29, .invokestatic 91, 3), (32, .ifCond .ne 7, 3), (35, .iconst 1, 1), (36, .goto 35, 3), (39, .iload_n 2, 1), (40, .iconst 0, 1), (41, .aload_n 0, 1), (42, .getfield 61, 3), (45, .iconst 1, 1), (46, .isub, 1), (47, .invokestatic 91, 3), (50, .ifCond .ne 7, 3), (53, .iconst 2, 1), (54, .goto 17, 3), (57, .aload_n 0, 1), (58, .getfield 64, 3), (61, .bipush 40, 2), (63, .if_icmp .ne 7, 3), (66, .iconst 3, 1), (67, .goto 4, 3), (70, .iconst 0, 1), (71, .putfield 54, 3), (74, .aload_n 0, 1), (75, .getfield 54, 3), (78, .ifCond .le 5, 3), (81, .iconst 0, 1), (82, .ireturn, 1), (83, .aload_n 0, 1), (84, .getfield 28, 3), (87, .aload_n 0, 1), (88, .getfield 64, 3), (91, .iload_n 1, 1), (92, .castore, 1), (93, .aload_n 0, 1), (94, .getfield 13, 3), (97, .aload_n 0, 1), (98, .getfield 64, 3), (101, .iload_n 2, 1), (102, .iastore, 1), (103, .aload_n 0, 1), (104, .getfield 16, 3), (107, .aload_n 0, 1), (108, .getfield 64, 3), (111, .iload_n 3, 1), (112, .iastore, 1)]
theorem dtX8_addRecord_0 : ∀ q ∈ dlX8_addRecord_0, decode cX8_addRecord q.1 = .ok q.2 := by decide +kernel
def dlX8_addRecord_1 : List (Nat × Instr × Nat) := [(113, .aload_n 0, 1), (114, .getfield 19, 3), (117, .aload_n 0, 1), (118, .getfield 64, 3), (121, .iload 4, 2), (123, .iastore, 1), (124, .aload_n 0, 1), (125, .dup, 1), (126, .getfield 64, 3), (129, .iconst 1, 1), (130, .iadd, 1), (131, .putfield 64, 3), (134, .aload_n 0, 1), (135, .invokevirtual 124, 3), (138, .istore 5, 2), (140, .aload_n 0, 1), (141, .getfield 64, 3), (144, .iconst 1, 1), (145, .isub, 1), (146, .ireturn, 1)]
theorem dtX8_addRecord_1 : ∀ q ∈ dlX8_addRecord_1, decode cX8_addRecord q.1 = .ok q.2 := by decide +kernel
def dlX8_blockOf_0 : List (Nat × Instr × Nat) := [(0, .aload_n 0, 1), (1, .iload_n 1, 1), (2, .iconst 0, 1), (3, .aload_n 0, 1), (4, .getfield 61, 3), (7, .iconst 1, 1), (8, .isub, 1), (9, .invokestatic 91, 3), (12, .invokevirtual 120, 3), (15, .ifCond .le 7, 3), (18, .iconst 0, 1), (19, .goto 9, 3), (22, .aload_n 0, 1), (23, .getfield 7, 3), (26, .iload_n 1, 1), (27, .iaload, 1), (28, .ireturn, 1)]
theorem dtX8_blockOf_0 : ∀ q ∈ dlX8_blockOf_0, decode cX8_blockOf q.1 = .ok q.2 := by decide +kernel
def dlX8_setPoints_0 : List (Nat × Instr × Nat) := [(0, .aload_n 0, 1), (1, .iload_n 1, 1), (2, .bipush 110, 2), (4, .if_icmp .eq 15, 3), (7, .iload_n 1, 1), (8, .bipush 121, 2), (10, .if_icmp .eq 9, 3), (13, .iload_n 1, 1), (14, .bipush 112, 2), (16, .if_icmp .ne 17, 3), (19, .iload_n 2, 1), (20, .iconst 0, 1), (21, .bipush 9, 2), (23, .invokestatic 91, 3), (26, .ifCond .eq 7, 3), (29, .iconst 1, 1), (30, .goto 4, 3), (33, .iconst 0, 1), (34, .invokevirtual 120, 3), (37, .ifCond .le 5, 3), (40, .iconst 0, 1), (41, .ireturn, 1), (42, .iload_n 1, 1), (43, .bipush 110, 2), (45, .if_icmp .ne 10, 3), (48, .aload_n 0, 1), (49, .getfield 70, 3), (52, .goto 20, 3), (55, .iload_n 1, 1), (56, .bipush 121, 2), (58, .if_icmp .ne 10, 3), (61, .aload_n 0, 1), (62, .getfield 73, 3), (65, .goto 7, 3), (68, .aload_n 0, 1), (69, .getfield 76, 3), (72, .istore_n 3, 1), (73, .iload_n 1, 1), (74, .bipush 110, 2), (76, .if_icmp .ne 8, 3), (79, .aload_n 0, 1), (80, .iload_n 2, 1), (81, .putfield 70, 3), (84, .iload_n 1, 1), (85, .bipush 121, 2), (87, .if_icmp .ne 8, 3), (90, .aload_n 0, 1), (91, .iload_n 2, 1), (92, .putfield 73, 3), (95, .iload_n 1, 1), (96, .bipush 112, 2), (98, .if_icmp .ne 8, 3), (101, .aload_n 0, 1), (102, .iload_n 2, 1), (103, .putfield 76, 3), (106, .aload_n 0, 1), (107, .invokevirtual 124, 3), (110, .istore 4, 2), (112, .iload_n 3, 1), (113, .ireturn, 1)]
theorem dtX8_setPoints_0 : ∀ q ∈ dlX8_setPoints_0, decode cX8_setPoints q.1 = .ok q.2 := by decide +kernel
def dlX8_setBounds_0 : List (Nat × Instr × Nat) := [(0, .aload_n 0, 1), (1, .iload_n 1, 1), (2, .iconst 0, 1), (3, .bipush 30, 2), (5, .invokestatic 91, 3), (8, .ifCond .eq 17, 3), (11, .iload_n 2, 1), (12, .iload_n 1, 1), (13, .bipush 30, 2), (15, .invokestatic 91, 3), (18, .ifCond .eq 7, 3), (21, .iconst 1, 1), (22, .goto 4, 3), (25, .iconst 0, 1), (26, .invokevirtual 120, 3), (29, .ifCond .le 5, 3), (32, .iconst 0, 1), (33, .ireturn, 1), (34, .aload_n 0, 1), (35, .getfield 82, 3), (38, .istore_n 3, 1), (39, .aload_n 0, 1), (40, .iload_n 1, 1), (41, .putfield 79, 3), (44, .aload_n 0, 1), (45, .iload_n 2, 1), (46, .putfield 82, 3), (49, .aload_n 0, 1), (50, .invokevirtual 124, 3), (53, .istore 4, 2), (55, .iload_n 3, 1), (56, .ireturn, 1)]
theorem dtX8_setBounds_0 : ∀ q ∈ dlX8_setBounds_0, decode cX8_setBounds q.1 = .ok q.2 := by decide +kernel
def dlX8_wrongPair_0 : List (Nat × Instr × Nat) := [(0, .aload_n 0, 1), (1, .iload_n 1, 1), (2, .invokevirtual 131, 3), (5, .ifCond .eq 11, 3), (8, .aload_n 0, 1), (9, .iload_n 2, 1), (10, .invokevirtual 131, 3), (13, .ifCond .ne 7, 3), (16, .iconst 1, 1), (17, .goto 13, 3), (20, .iload_n 1, 1), (21, .iload_n 2, 1), (22, .if_icmp .ne 7, 3), (25, .iconst 2, 1), (26, .goto 4, 3), (29, .iconst 0, 1), (30, .ireturn, 1)]
theorem dtX8_wrongPair_0 : ∀ q ∈ dlX8_wrongPair_0, decode cX8_wrongPair q.1 = .ok q.2 := by decide +kernel
def dlX8_score_0 : List (Nat × Instr × Nat) := [(0, .aload_n 0, 1), (1, .aload_n 0, 1), (2, .iload_n 1, 1), (3, .iload_n 2, 1), (4, .invokevirtual 134, 3), (7, .putfield 54, 3), (10, .aload_n 0, 1), (11, .getfield 54, 3), (14, .ifCond .le 7, 3), (17, .iconst 0, 1), (18, .goto 9, 3), (21, .aload_n 0, 1), (22, .iload_n 1, 1), (23, .iload_n 2, 1), (24, .invokevirtual 99, 3), (27, .ireturn, 1)]
theorem dtX8_score_0 : ∀ q ∈ dlX8_score_0, decode cX8_score q.1 = .ok q.2 := by decide +kernel
def dlX8_decides_0 : List (Nat × Instr × Nat) := [(0, .aload_n 0, 1), (1, .getfield 32, 3), (4, .bipush 40, 2), (6, .iload_n 1, 1), (7, .imul, 1), (8, .iload_n 2, 1), (9, .iadd, 1), (10, .iload_n 3, 1), (11, .castore, 1), (12, .aload_n 0, 1), (13, .getfield 32, 3), (16, .bipush 40, 2), (18, .iload_n 2, 1), (19, .imul, 1), (20, .iload_n 1, 1), (21, .iadd, 1), (22, .iload_n 3, 1), (23, .castore, 1), (24, .return_, 1)]
theorem dtX8_decides_0 : ∀ q ∈ dlX8_decides_0, decode cX8_decides q.1 = .ok q.2 := by decide +kernel
def dlX8_decide_0 : List (Nat × Instr × Nat) := [(0, .aload_n 0, 1), (1, .aload_n 0, 1), (2, .iload_n 1, 1), (3, .iload_n 2, 1), (4, .invokevirtual 134, 3), (7, .putfield 54, 3), (10, .aload_n 0, 1), (11, .getfield 54, 3), (14, .ifCond .ne 30, 3), (17, .aload_n 0, 1), (18, .getfield 28, 3), (21, .iload_n 1, 1), (22, .caload, 1), (23, .bipush 107, 2), (25, .if_icmp .ne 19, 3), (28, .aload_n 0, 1), (29, .getfield 28, 3), (32, .iload_n 2, 1), (33, .caload, 1), (34, .bipush 107, 2), (36, .if_icmp .ne 8, 3), (39, .aload_n 0, 1), (40, .iconst 3, 1), (41, .putfield 54, 3), (44, .aload_n 0, 1), (45, .getfield 54, 3), (48, .ifCond .le 5, 3), (51, .iconst 0, 1), (52, .ireturn, 1), (53, .aload_n 0, 1), (54, .iload_n 1, 1), (55, .iload_n 2, 1), (56, .iload_n 3, 1), (57, .ifCond .eq 8, 3), (60, .bipush 121, 2), (62, .goto 5, 3), (65, .bipush 110, 2), (67, .invokevirtual 137, 3), (70, .aload_n 0, 1), (71, .invokevirtual 124, 3), (74, .ireturn, 1)]
theorem dtX8_decide_0 : ∀ q ∈ dlX8_decide_0, decode cX8_decide q.1 = .ok q.2 := by decide +kernel
def dlX8_takeBack_0 : List (Nat × Instr × Nat) := [(0, .aload_n 0, 1), (1, .aload_n 0, 1), (2, .iload_n 1, 1), (3, .invokevirtual 131, 3), (6, .ifCond .eq 11, 3), (9, .aload_n 0, 1), (10, .iload_n 2, 1), (11, .invokevirtual 131, 3), (14, .ifCond .ne 7, 3), (17, .iconst 1, 1), (18, .goto 22, 3), (21, .aload_n 0, 1), (22, .getfield 32, 3), (25, .bipush 40, 2), (27, .iload_n 1, 1), (28, .imul, 1), (29, .iload_n 2, 1), (30, .iadd, 1), (31, .caload, 1), (32, .ifCond .ne 7, 3), (35, .iconst 2, 1), (36, .goto 4, 3), (39, .iconst 0, 1), (40, .putfield 54, 3), (43, .aload_n 0, 1), (44, .getfield 54, 3), (47, .ifCond .le 5, 3), (50, .iconst 0, 1), (51, .ireturn, 1), (52, .aload_n 0, 1), (53, .iload_n 1, 1), (54, .iload_n 2, 1), (55, .iconst 0, 1), (56, .invokevirtual 137, 3), (59, .aload_n 0, 1), (60, .invokevirtual 124, 3), (63, .ireturn, 1)]
theorem dtX8_takeBack_0 : ∀ q ∈ dlX8_takeBack_0, decode cX8_takeBack q.1 = .ok q.2 := by decide +kernel
def dlX8_link_0 : List (Nat × Instr × Nat) := [(0, .aload_n 0, 1), (1, .aload_n 0, 1), (2, .iload_n 1, 1), (3, .iload_n 2, 1), (4, .invokevirtual 134, 3), (7, .putfield 54, 3), (10, .aload_n 0, 1), (11, .getfield 54, 3), (14, .ifCond .le 8, 3), (17, .bipush 32, 2), (19, .goto 9, 3), (22, .aload_n 0, 1), (23, .iload_n 1, 1), (24, .iload_n 2, 1), (25, .invokevirtual 103, 3), (28, .ireturn, 1)]
theorem dtX8_link_0 : ∀ q ∈ dlX8_link_0, decode cX8_link q.1 = .ok q.2 := by decide +kernel
def dlX8_openPairs_0 : List (Nat × Instr × Nat) := [(0, .iconst 0, 1), (1, .istore_n 1, 1), (2, .iconst 0, 1), (3, .istore_n 2, 1), (4, .iload_n 2, 1), (5, .aload_n 0, 1), (6, .getfield 64, 3), (9, .if_icmp .ge 63, 3), (12, .iconst 0, 1), (13, .istore_n 3, 1), (14, .iload_n 3, 1), (15, .iload_n 2, 1), (16, .if_icmp .ge 50, 3), (19, .iload_n 1, 1), (20, .aload_n 0, 1), (21, .getfield 28, 3), (24, .iload_n 2, 1), (25, .caload, 1), (26, .bipush 99, 2), (28, .if_icmp .eq 14, 3), (31, .aload_n 0, 1), (32, .getfield 28, 3), (35, .iload_n 3, 1), (36, .caload, 1), (37, .bipush 99, 2), (39, .if_icmp .ne 18, 3), (42, .aload_n 0, 1), (43, .iload_n 2, 1), (44, .iload_n 3, 1), (45, .invokevirtual 103, 3), (48, .bipush 63, 2), (50, .if_icmp .ne 7, 3), (53, .iconst 1, 1), (54, .goto 4, 3), (57, .iconst 0, 1), (58, .iadd, 1), (59, .istore_n 1, 1), (60, .iinc 3 1, 3), (63, .goto (-49), 3), (66, .iinc 2 1, 3), (69, .goto (-65), 3), (72, .aload_n 0, 1), (73, .iload_n 1, 1), (74, .invokevirtual 141, 3), (77, .ireturn, 1)]
theorem dtX8_openPairs_0 : ∀ q ∈ dlX8_openPairs_0, decode cX8_openPairs q.1 = .ok q.2 := by decide +kernel
def dlX8_isDouble_0 : List (Nat × Instr × Nat) := [(0, .aload_n 0, 1), (1, .invokevirtual 107, 3), (4, .aload_n 0, 1), (5, .aload_n 0, 1), (6, .iload_n 1, 1), (7, .invokevirtual 131, 3), (10, .invokevirtual 120, 3), (13, .ifCond .ne 16, 3), (16, .aload_n 0, 1), (17, .getfield 35, 3), (20, .iload_n 1, 1), (21, .baload, 1), (22, .ifCond .eq 7, 3), (25, .iconst 1, 1), (26, .goto 4, 3), (29, .iconst 0, 1), (30, .ireturn, 1)]
theorem dtX8_isDouble_0 : ∀ q ∈ dlX8_isDouble_0, decode cX8_isDouble q.1 = .ok q.2 := by decide +kernel
def dlX8_matchOf_0 : List (Nat × Instr × Nat) := [(0, .aload_n 0, 1), (1, .invokevirtual 144, 3), (4, .aload_n 0, 1), (5, .aload_n 0, 1), (6, .iload_n 1, 1), (7, .invokevirtual 131, 3), (10, .ifCond .ne 7, 3), (13, .iconst 1, 1), (14, .goto 17, 3), (17, .aload_n 0, 1), (18, .getfield 22, 3), (21, .iload_n 1, 1), (22, .iaload, 1), (23, .ifCond .ge 7, 3), (26, .iconst 2, 1), (27, .goto 4, 3), (30, .iconst 0, 1), (31, .putfield 54, 3), (34, .aload_n 0, 1), (35, .getfield 54, 3), (38, .ifCond .le 7, 3), (41, .iconst 0, 1), (42, .goto 9, 3), (45, .aload_n 0, 1), (46, .getfield 22, 3), (49, .iload_n 1, 1), (50, .iaload, 1), (51, .ireturn, 1)]
theorem dtX8_matchOf_0 : ∀ q ∈ dlX8_matchOf_0, decode cX8_matchOf q.1 = .ok q.2 := by decide +kernel
def dlX8_matches_0 : List (Nat × Instr × Nat) := [(0, .aload_n 0, 1), (1, .invokevirtual 144, 3), (4, .aload_n 0, 1), (5, .aload_n 0, 1), (6, .getfield 85, 3), (9, .invokevirtual 141, 3), (12, .ireturn, 1)]
theorem dtX8_matches_0 : ∀ q ∈ dlX8_matches_0, decode cX8_matches q.1 = .ok q.2 := by decide +kernel
def dlX8_count_0 : List (Nat × Instr × Nat) := [(0, .aload_n 0, 1), (1, .invokevirtual 117, 3), (4, .aload_n 0, 1), (5, .aload_n 0, 1), (6, .iload_n 1, 1), (7, .invokevirtual 128, 3), (10, .ifCond .ne 7, 3), (13, .iconst 1, 1), (14, .goto 17, 3), (17, .iload_n 2, 1), (18, .iconst 0, 1), (19, .iconst 3, 1), (20, .invokestatic 91, 3), (23, .ifCond .ne 7, 3), (26, .iconst 2, 1), (27, .goto 4, 3), (30, .iconst 0, 1), (31, .putfield 54, 3), (34, .aload_n 0, 1), (35, .getfield 54, 3), (38, .ifCond .le 7, 3), (41, .iconst 0, 1), (42, .goto 13, 3), (45, .aload_n 0, 1), (46, .getfield 25, 3), (49, .iconst 4, 1), (50, .iload_n 1, 1), (51, .imul, 1), (52, .iload_n 2, 1), (53, .iadd, 1), (54, .iaload, 1), (55, .ireturn, 1)]
theorem dtX8_count_0 : ∀ q ∈ dlX8_count_0, decode cX8_count q.1 = .ok q.2 := by decide +kernel
def dlX8_countAnew_0 : List (Nat × Instr × Nat) := [(0, .aload_n 0, 1), (1, .iload_n 1, 1), (2, .iload_n 2, 1), (3, .invokevirtual 147, 3), (6, .ireturn, 1)]
theorem dtX8_countAnew_0 : ∀ q ∈ dlX8_countAnew_0, decode cX8_countAnew q.1 = .ok q.2 := by decide +kernel
def dlX8_many_0 : List (Nat × Instr × Nat) := [(0, .iconst 0, 1), (1, .istore_n 3, 1), (2, .iconst 0, 1), (3, .istore 4, 2), (5, .iload 4, 2), (7, .aload_n 0, 1), (8, .getfield 64, 3), (11, .if_icmp .ge 39, 3), (14, .iload_n 3, 1), (15, .aload_n 0, 1), (16, .getfield 28, 3), (19, .iload 4, 2), (21, .caload, 1), (22, .iload_n 1, 1), (23, .if_icmp .ne 18, 3), (26, .aload_n 0, 1), (27, .getfield 35, 3), (30, .iload 4, 2), (32, .baload, 1), (33, .iload_n 2, 1), (34, .if_icmp .ne 7, 3), (37, .iconst 1, 1), (38, .goto 4, 3), (41, .iconst 0, 1), (42, .iadd, 1), (43, .istore_n 3, 1), (44, .iinc 4 1, 3), (47, .goto (-42), 3), (50, .iload_n 3, 1), (51, .ireturn, 1)]
theorem dtX8_many_0 : ∀ q ∈ dlX8_many_0, decode cX8_many q.1 = .ok q.2 := by decide +kernel
def dlX8_estimate_0 : List (Nat × Instr × Nat) := [(0, .aload_n 0, 1), (1, .invokevirtual 144, 3), (4, .aload_n 0, 1), (5, .aload_n 0, 1), (6, .getfield 85, 3), (9, .ifCond .le 7, 3), (12, .iconst 1, 1), (13, .goto 4, 3), (16, .iconst 0, 1), (17, .invokevirtual 120, 3), (20, .ifCond .le 7, 3), (23, .lconst 0, 1), (24, .goto 26, 3), (27, .aload_n 0, 1), (28, .bipush 99, 2), (30, .iconst 0, 1), (31, .invokevirtual 150, 3), (34, .i2l, 1), (35, .aload_n 0, 1), (36, .bipush 107, 2), (38, .iconst 0, 1), (39, .invokevirtual 150, 3), (42, .i2l, 1), (43, .lmul, 1), (44, .aload_n 0, 1), (45, .getfield 85, 3), (48, .i2l, 1), (49, .ldiv, 1), (50, .lreturn, 1)]
theorem dtX8_estimate_0 : ∀ q ∈ dlX8_estimate_0, decode cX8_estimate q.1 = .ok q.2 := by decide +kernel
def dlX8_doubleShare_0 : List (Nat × Instr × Nat) := [(0, .aload_n 0, 1), (1, .invokevirtual 107, 3), (4, .aload_n 0, 1), (5, .bipush 99, 2), (7, .iconst 1, 1), (8, .invokevirtual 150, 3), (11, .aload_n 0, 1), (12, .bipush 99, 2), (14, .iconst 0, 1), (15, .invokevirtual 150, 3), (18, .iadd, 1), (19, .istore_n 1, 1), (20, .aload_n 0, 1), (21, .iload_n 1, 1), (22, .ifCond .le 7, 3), (25, .iconst 1, 1), (26, .goto 4, 3), (29, .iconst 0, 1), (30, .invokevirtual 120, 3), (33, .ifCond .le 7, 3), (36, .fconst 0, 1), (37, .goto 14, 3), (40, .aload_n 0, 1), (41, .bipush 99, 2), (43, .iconst 1, 1), (44, .invokevirtual 150, 3), (47, .i2f, 1), (48, .iload_n 1, 1), (49, .i2f, 1), (50, .fdiv, 1), (51, .freturn, 1)]
theorem dtX8_doubleShare_0 : ∀ q ∈ dlX8_doubleShare_0, decode cX8_doubleShare q.1 = .ok q.2 := by decide +kernel
def dlX8_meanScore_0 : List (Nat × Instr × Nat) := [(0, .aload_n 0, 1), (1, .invokevirtual 144, 3), (4, .aload_n 0, 1), (5, .aload_n 0, 1), (6, .getfield 85, 3), (9, .ifCond .le 7, 3), (12, .iconst 1, 1), (13, .goto 4, 3), (16, .iconst 0, 1), (17, .invokevirtual 120, 3), (20, .ifCond .le 7, 3), (23, .dconst 0, 1), (24, .goto 14, 3), (27, .aload_n 0, 1), (28, .getfield 88, 3), (31, .i2d, 1), (32, .aload_n 0, 1), (33, .getfield 85, 3), (36, .i2d, 1), (37, .ddiv, 1), (38, .dreturn, 1)]
theorem dtX8_meanScore_0 : ∀ q ∈ dlX8_meanScore_0, decode cX8_meanScore q.1 = .ok q.2 := by decide +kernel
def dlX8_isFound_0 : List (Nat × Instr × Nat) := [(0, .iconst 0, 1), (1, .istore_n 3, 1), (2, .iload_n 3, 1), (3, .bipush 10, 2), (5, .if_icmp .ge 27, 3), (8, .aload_n 0, 1), (9, .getfield 45, 3), (12, .iload_n 3, 1), (13, .iload_n 3, 1), (14, .iload_n 2, 1), (15, .iconst 4, 1), (16, .idiv, 1), (17, .if_icmp .ne 7, 3), (20, .iconst 1, 1), (21, .goto 4, 3), (24, .iconst 0, 1), (25, .bastore, 1), (26, .iinc 3 1, 3), (29, .goto (-27), 3), (32, .iconst 0, 1), (33, .istore_n 3, 1), (34, .iload_n 3, 1), (35, .bipush 10, 2), (37, .if_icmp .ge 108, 3), (40, .iconst 0, 1), (41, .istore 4, 2), (43, .iload 4, 2), (45, .bipush 24, 2), (47, .if_icmp .ge 92, 3), (50, .iload 4, 2), (52, .iload_n 2, 1), (53, .if_icmp .eq 80, 3), (56, .aload_n 0, 1), (57, .getfield 42, 3), (60, .bipush 24, 2), (62, .iload_n 1, 1), (63, .imul, 1), (64, .iload 4, 2), (66, .iadd, 1), (67, .baload, 1), (68, .ifCond .ne 6, 3), (71, .goto 62, 3), (74, .aload_n 0, 1), (75, .getfield 45, 3), (78, .iload 4, 2), (80, .iconst 4, 1), (81, .idiv, 1), (82, .baload, 1), (83, .ifCond .ne 18, 3), (86, .aload_n 0, 1), (87, .getfield 45, 3), (90, .bipush 6, 2), (92, .iload 4, 2), (94, .iconst 4, 1), (95, .irem, 1), (96, .iadd, 1), (97, .baload, 1), (98, .ifCond .eq 7, 3), (101, .iconst 1, 1), (102, .goto 4, 3)]
theorem dtX8_isFound_0 : ∀ q ∈ dlX8_isFound_0, decode cX8_isFound q.1 = .ok q.2 := by decide +kernel
def dlX8_isFound_1 : List (Nat × Instr × Nat) := [(105, .iconst 0, 1), (106, .istore 5, 2), (108, .aload_n 0, 1), (109, .getfield 45, 3), (112, .iload 4, 2), (114, .iconst 4, 1), (115, .idiv, 1), (116, .iload 5, 2), (118, .bastore, 1), (119, .aload_n 0, 1), (120, .getfield 45, 3), (123, .bipush 6, 2), (125, .iload 4, 2), (127, .iconst 4, 1), (128, .irem, 1), (129, .iadd, 1), (130, .iload 5, 2), (132, .bastore, 1), (133, .iinc 4 1, 3), (136, .goto (-93), 3), (139, .iinc 3 1, 3), (142, .goto (-108), 3), (145, .aload_n 0, 1), (146, .getfield 45, 3), (149, .bipush 6, 2), (151, .iload_n 2, 1), (152, .iconst 4, 1), (153, .irem, 1), (154, .iadd, 1), (155, .baload, 1), (156, .ifCond .ne 7, 3), (159, .iconst 1, 1), (160, .goto 4, 3), (163, .iconst 0, 1), (164, .ireturn, 1)]
theorem dtX8_isFound_1 : ∀ q ∈ dlX8_isFound_1, decode cX8_isFound q.1 = .ok q.2 := by decide +kernel
def dlX8_firstFound_0 : List (Nat × Instr × Nat) := [(0, .iconst 0, 1), (1, .istore_n 2, 1), (2, .iload_n 2, 1), (3, .bipush 24, 2), (5, .if_icmp .ge 34, 3), (8, .aload_n 0, 1), (9, .getfield 42, 3), (12, .bipush 24, 2), (14, .iload_n 1, 1), (15, .imul, 1), (16, .iload_n 2, 1), (17, .iadd, 1), (18, .baload, 1), (19, .ifCond .eq 14, 3), (22, .aload_n 0, 1), (23, .iload_n 1, 1), (24, .iload_n 2, 1), (25, .invokevirtual 154, 3), (28, .ifCond .eq 5, 3), (31, .iload_n 2, 1), (32, .ireturn, 1), (33, .iinc 2 1, 3), (36, .goto (-34), 3), (39, .iconst (-1), 1), (40, .ireturn, 1)]
theorem dtX8_firstFound_0 : ∀ q ∈ dlX8_firstFound_0, decode cX8_firstFound q.1 = .ok q.2 := by decide +kernel
def dlX8_canHide_0 : List (Nat × Instr × Nat) := [(0, .aload_n 0, 1), (1, .getfield 48, 3), (4, .bipush 24, 2), (6, .iload_n 1, 1), (7, .imul, 1), (8, .iload_n 2, 1), (9, .iadd, 1), (10, .iaload, 1), (11, .ifCond .le 21, 3), (14, .aload_n 0, 1), (15, .getfield 42, 3), (18, .bipush 24, 2), (20, .iload_n 1, 1), (21, .imul, 1), (22, .iload_n 2, 1), (23, .iadd, 1), (24, .baload, 1), (25, .ifCond .ne 7, 3), (28, .iconst 1, 1), (29, .goto 4, 3), (32, .iconst 0, 1), (33, .ireturn, 1)]
theorem dtX8_canHide_0 : ∀ q ∈ dlX8_canHide_0, decode cX8_canHide q.1 = .ok q.2 := by decide +kernel
def dlX8_helps_0 : List (Nat × Instr × Nat) := [(0, .aload_n 0, 1), (1, .getfield 42, 3), (4, .bipush 24, 2), (6, .iload_n 1, 1), (7, .imul, 1), (8, .iload_n 2, 1), (9, .iadd, 1), (10, .iconst 1, 1), (11, .bastore, 1), (12, .aload_n 0, 1), (13, .iload_n 1, 1), (14, .iload_n 3, 1), (15, .invokevirtual 154, 3), (18, .ifCond .ne 7, 3), (21, .iconst 1, 1), (22, .goto 4, 3), (25, .iconst 0, 1), (26, .istore 4, 2), (28, .aload_n 0, 1), (29, .getfield 42, 3), (32, .bipush 24, 2), (34, .iload_n 1, 1), (35, .imul, 1), (36, .iload_n 2, 1), (37, .iadd, 1), (38, .iconst 0, 1), (39, .bastore, 1), (40, .iload 4, 2), (42, .ireturn, 1)]
theorem dtX8_helps_0 : ∀ q ∈ dlX8_helps_0, decode cX8_helps q.1 = .ok q.2 := by decide +kernel
def dlX8_next_0 : List (Nat × Instr × Nat) := [(0, .iconst (-1), 1), (1, .istore 4, 2), (3, .iconst 0, 1), (4, .istore 5, 2), (6, .iload 5, 2), (8, .bipush 24, 2), (10, .if_icmp .ge 73, 3), (13, .aload_n 0, 1), (14, .iload_n 1, 1), (15, .iload 5, 2), (17, .invokevirtual 158, 3), (20, .ifCond .eq 57, 3), (23, .iload_n 3, 1), (24, .ifCond .eq 17, 3), (27, .aload_n 0, 1), (28, .iload_n 1, 1), (29, .iload 5, 2), (31, .iload_n 2, 1), (32, .invokevirtual 161, 3), (35, .ifCond .ne 6, 3), (38, .goto 39, 3), (41, .iload 4, 2), (43, .ifCond .lt 30, 3), (46, .aload_n 0, 1), (47, .getfield 48, 3), (50, .bipush 24, 2), (52, .iload_n 1, 1), (53, .imul, 1), (54, .iload 5, 2), (56, .iadd, 1), (57, .iaload, 1), (58, .aload_n 0, 1), (59, .getfield 48, 3), (62, .bipush 24, 2), (64, .iload_n 1, 1), (65, .imul, 1), (66, .iload 4, 2), (68, .iadd, 1), (69, .iaload, 1), (70, .if_icmp .ge 7, 3), (73, .iload 5, 2), (75, .istore 4, 2), (77, .iinc 5 1, 3), (80, .goto (-74), 3), (83, .iload 4, 2), (85, .ireturn, 1)]
theorem dtX8_next_0 : ∀ q ∈ dlX8_next_0, decode cX8_next q.1 = .ok q.2 := by decide +kernel
def dlX8_hidesSmall_0 : List (Nat × Instr × Nat) := [(0, .iconst 0, 1), (1, .istore_n 2, 1), (2, .iload_n 2, 1), (3, .bipush 24, 2), (5, .if_icmp .ge 36, 3), (8, .aload_n 0, 1), (9, .getfield 42, 3), (12, .bipush 24, 2), (14, .iload_n 1, 1), (15, .imul, 1), (16, .iload_n 2, 1), (17, .iadd, 1), (18, .aload_n 0, 1), (19, .getfield 48, 3), (22, .bipush 24, 2), (24, .iload_n 1, 1), (25, .imul, 1), (26, .iload_n 2, 1), (27, .iadd, 1), (28, .iaload, 1), (29, .iconst 1, 1), (30, .iconst 2, 1), (31, .invokestatic 91, 3), (34, .bastore, 1), (35, .iinc 2 1, 3), (38, .goto (-36), 3), (41, .return_, 1)]
theorem dtX8_hidesSmall_0 : ∀ q ∈ dlX8_hidesSmall_0, decode cX8_hidesSmall q.1 = .ok q.2 := by decide +kernel
def dlX8_hides_0 : List (Nat × Instr × Nat) := [(0, .aload_n 0, 1), (1, .iload_n 1, 1), (2, .invokevirtual 164, 3), (5, .aload_n 0, 1), (6, .iload_n 1, 1), (7, .invokevirtual 168, 3), (10, .istore_n 2, 1), (11, .iload_n 2, 1), (12, .ifCond .lt 50, 3), (15, .aload_n 0, 1), (16, .iload_n 1, 1), (17, .iload_n 2, 1), (18, .iconst 1, 1), (19, .invokevirtual 171, 3), (22, .istore_n 3, 1), (23, .iload_n 3, 1), (24, .ifCond .ge 11, 3), (27, .aload_n 0, 1), (28, .iload_n 1, 1), (29, .iload_n 2, 1), (30, .iconst 0, 1), (31, .invokevirtual 171, 3), (34, .istore_n 3, 1), (35, .iload_n 3, 1), (36, .ifCond .ge 5, 3), (39, .iconst 0, 1), (40, .ireturn, 1), (41, .aload_n 0, 1), (42, .getfield 42, 3), (45, .bipush 24, 2), (47, .iload_n 1, 1), (48, .imul, 1), (49, .iload_n 3, 1), (50, .iadd, 1), (51, .iconst 1, 1), (52, .bastore, 1), (53, .aload_n 0, 1), (54, .iload_n 1, 1), (55, .invokevirtual 168, 3), (58, .istore_n 2, 1), (59, .goto (-48), 3), (62, .iconst 1, 1), (63, .ireturn, 1)]
theorem dtX8_hides_0 : ∀ q ∈ dlX8_hides_0, decode cX8_hides q.1 = .ok q.2 := by decide +kernel
def dlX8_tell_0 : List (Nat × Instr × Nat) := [(0, .aload_n 0, 1), (1, .aload_n 0, 1), (2, .getfield 58, 3), (5, .iconst 2, 1), (6, .if_icmp .lt 12, 3), (9, .aload_n 0, 1), (10, .getfield 67, 3), (13, .bipush 8, 2), (15, .if_icmp .ne 7, 3), (18, .iconst 1, 1), (19, .goto 4, 3), (22, .iconst 0, 1), (23, .putfield 54, 3), (26, .aload_n 0, 1), (27, .getfield 54, 3), (30, .ifCond .le 5, 3), (33, .iconst 0, 1), (34, .ireturn, 1), (35, .aload_n 0, 1), (36, .invokevirtual 117, 3), (39, .iconst 0, 1), (40, .istore_n 1, 1), (41, .iload_n 1, 1), (42, .bipush 24, 2), (44, .if_icmp .ge 29, 3), (47, .aload_n 0, 1), (48, .getfield 48, 3), (51, .bipush 24, 2), (53, .aload_n 0, 1), (54, .getfield 67, 3), (57, .imul, 1), (58, .iload_n 1, 1), (59, .iadd, 1), (60, .aload_n 0, 1), (61, .getfield 25, 3), (64, .iload_n 1, 1), (65, .iaload, 1), (66, .iastore, 1), (67, .iinc 1 1, 3), (70, .goto (-29), 3), (73, .aload_n 0, 1), (74, .aload_n 0, 1), (75, .aload_n 0, 1), (76, .getfield 67, 3), (79, .invokevirtual 175, 3), (82, .ifCond .eq 7, 3), (85, .iconst 0, 1), (86, .goto 4, 3), (89, .iconst 2, 1), (90, .putfield 54, 3), (93, .aload_n 0, 1), (94, .getfield 54, 3), (97, .ifCond .le 5, 3), (100, .iconst 0, 1), (101, .ireturn, 1), (102, .aload_n 0, 1), (103, .getfield 51, 3), (106, .aload_n 0, 1), (107, .getfield 67, 3), (110, .aload_n 0, 1)]
theorem dtX8_tell_0 : ∀ q ∈ dlX8_tell_0, decode cX8_tell q.1 = .ok q.2 := by decide +kernel
def dlX8_tell_1 : List (Nat × Instr × Nat) := [(111, .getfield 58, 3), (114, .iastore, 1), (115, .aload_n 0, 1), (116, .dup, 1), (117, .getfield 67, 3), (120, .iconst 1, 1), (121, .iadd, 1), (122, .putfield 67, 3), (125, .aload_n 0, 1), (126, .getfield 67, 3), (129, .iconst 1, 1), (130, .isub, 1), (131, .ireturn, 1)]
theorem dtX8_tell_1 : ∀ q ∈ dlX8_tell_1, decode cX8_tell q.1 = .ok q.2 := by decide +kernel
def dlX8_isTable_0 : List (Nat × Instr × Nat) := [(0, .iload_n 1, 1), (1, .iconst 0, 1), (2, .aload_n 0, 1), (3, .getfield 67, 3), (6, .iconst 1, 1), (7, .isub, 1), (8, .invokestatic 91, 3), (11, .ireturn, 1)]
theorem dtX8_isTable_0 : ∀ q ∈ dlX8_isTable_0, decode cX8_isTable q.1 = .ok q.2 := by decide +kernel
def dlX8_stateOf_0 : List (Nat × Instr × Nat) := [(0, .aload_n 0, 1), (1, .aload_n 0, 1), (2, .iload_n 1, 1), (3, .invokevirtual 178, 3), (6, .invokevirtual 120, 3), (9, .ifCond .gt 12, 3), (12, .aload_n 0, 1), (13, .getfield 39, 3), (16, .iload_n 1, 1), (17, .baload, 1), (18, .ifCond .ne 8, 3), (21, .bipush 116, 2), (23, .goto 5, 3), (26, .bipush 117, 2), (28, .ireturn, 1)]
theorem dtX8_stateOf_0 : ∀ q ∈ dlX8_stateOf_0, decode cX8_stateOf q.1 = .ok q.2 := by decide +kernel
def dlX8_wrongCell_0 : List (Nat × Instr × Nat) := [(0, .aload_n 0, 1), (1, .iload_n 1, 1), (2, .invokevirtual 178, 3), (5, .ifCond .ne 7, 3), (8, .iconst 1, 1), (9, .goto 37, 3), (12, .iload_n 2, 1), (13, .iconst 0, 1), (14, .aload_n 0, 1), (15, .getfield 51, 3), (18, .iload_n 1, 1), (19, .iaload, 1), (20, .iconst 1, 1), (21, .isub, 1), (22, .invokestatic 91, 3), (25, .ifCond .ne 7, 3), (28, .iconst 2, 1), (29, .goto 17, 3), (32, .iload_n 3, 1), (33, .iconst 0, 1), (34, .iconst 3, 1), (35, .invokestatic 91, 3), (38, .ifCond .ne 7, 3), (41, .iconst 3, 1), (42, .goto 4, 3), (45, .iconst 0, 1), (46, .ireturn, 1)]
theorem dtX8_wrongCell_0 : ∀ q ∈ dlX8_wrongCell_0, decode cX8_wrongCell q.1 = .ok q.2 := by decide +kernel
def dlX8_place_0 : List (Nat × Instr × Nat) := [(0, .bipush 24, 2), (2, .iload_n 0, 1), (3, .imul, 1), (4, .iconst 4, 1), (5, .iload_n 1, 1), (6, .imul, 1), (7, .iadd, 1), (8, .iload_n 2, 1), (9, .iadd, 1), (10, .ireturn, 1)]
theorem dtX8_place_0 : ∀ q ∈ dlX8_place_0, decode cX8_place q.1 = .ok q.2 := by decide +kernel
def dlX8_isHidden_0 : List (Nat × Instr × Nat) := [(0, .aload_n 0, 1), (1, .aload_n 0, 1), (2, .iload_n 1, 1), (3, .iload_n 2, 1), (4, .iload_n 3, 1), (5, .invokevirtual 181, 3), (8, .putfield 54, 3), (11, .aload_n 0, 1), (12, .getfield 54, 3), (15, .ifCond .ne 21, 3), (18, .aload_n 0, 1), (19, .getfield 42, 3), (22, .iload_n 1, 1), (23, .iload_n 2, 1), (24, .iload_n 3, 1), (25, .invokestatic 185, 3), (28, .baload, 1), (29, .ifCond .eq 7, 3), (32, .iconst 1, 1), (33, .goto 4, 3), (36, .iconst 0, 1), (37, .ireturn, 1)]
theorem dtX8_isHidden_0 : ∀ q ∈ dlX8_isHidden_0, decode cX8_isHidden q.1 = .ok q.2 := by decide +kernel
def dlX8_cell_0 : List (Nat × Instr × Nat) := [(0, .aload_n 0, 1), (1, .aload_n 0, 1), (2, .iload_n 1, 1), (3, .iload_n 2, 1), (4, .iload_n 3, 1), (5, .invokevirtual 181, 3), (8, .putfield 54, 3), (11, .aload_n 0, 1), (12, .getfield 54, 3), (15, .ifCond .ne 22, 3), (18, .aload_n 0, 1), (19, .getfield 42, 3), (22, .iload_n 1, 1), (23, .iload_n 2, 1), (24, .iload_n 3, 1), (25, .invokestatic 185, 3), (28, .baload, 1), (29, .ifCond .eq 8, 3), (32, .aload_n 0, 1), (33, .iconst 4, 1), (34, .putfield 54, 3), (37, .aload_n 0, 1), (38, .getfield 54, 3), (41, .ifCond .le 7, 3), (44, .iconst 0, 1), (45, .goto 14, 3), (48, .aload_n 0, 1), (49, .getfield 48, 3), (52, .iload_n 1, 1), (53, .iload_n 2, 1), (54, .iload_n 3, 1), (55, .invokestatic 185, 3), (58, .iaload, 1), (59, .ireturn, 1)]
theorem dtX8_cell_0 : ∀ q ∈ dlX8_cell_0, decode cX8_cell q.1 = .ok q.2 := by decide +kernel
def dlX8_blockSum_0 : List (Nat × Instr × Nat) := [(0, .aload_n 0, 1), (1, .aload_n 0, 1), (2, .iload_n 1, 1), (3, .iload_n 2, 1), (4, .iconst 0, 1), (5, .invokevirtual 181, 3), (8, .putfield 54, 3), (11, .aload_n 0, 1), (12, .getfield 54, 3), (15, .ifCond .le 5, 3), (18, .iconst 0, 1), (19, .ireturn, 1), (20, .iconst 0, 1), (21, .istore_n 3, 1), (22, .iconst 0, 1), (23, .istore 4, 2), (25, .iload 4, 2), (27, .iconst 4, 1), (28, .if_icmp .ge 24, 3), (31, .iload_n 3, 1), (32, .aload_n 0, 1), (33, .getfield 48, 3), (36, .iload_n 1, 1), (37, .iload_n 2, 1), (38, .iload 4, 2), (40, .invokestatic 185, 3), (43, .iaload, 1), (44, .iadd, 1), (45, .istore_n 3, 1), (46, .iinc 4 1, 3), (49, .goto (-24), 3), (52, .iload_n 3, 1), (53, .ireturn, 1)]
theorem dtX8_blockSum_0 : ∀ q ∈ dlX8_blockSum_0, decode cX8_blockSum q.1 = .ok q.2 := by decide +kernel
def dlX8_groupSum_0 : List (Nat × Instr × Nat) := [(0, .aload_n 0, 1), (1, .aload_n 0, 1), (2, .iload_n 1, 1), (3, .invokevirtual 178, 3), (6, .ifCond .ne 7, 3), (9, .iconst 1, 1), (10, .goto 17, 3), (13, .iload_n 2, 1), (14, .iconst 0, 1), (15, .iconst 3, 1), (16, .invokestatic 91, 3), (19, .ifCond .ne 7, 3), (22, .iconst 2, 1), (23, .goto 4, 3), (26, .iconst 0, 1), (27, .putfield 54, 3), (30, .aload_n 0, 1), (31, .getfield 54, 3), (34, .ifCond .le 5, 3), (37, .iconst 0, 1), (38, .ireturn, 1), (39, .iconst 0, 1), (40, .istore_n 3, 1), (41, .iconst 0, 1), (42, .istore 4, 2), (44, .iload 4, 2), (46, .bipush 6, 2), (48, .if_icmp .ge 24, 3), (51, .iload_n 3, 1), (52, .aload_n 0, 1), (53, .getfield 48, 3), (56, .iload_n 1, 1), (57, .iload 4, 2), (59, .iload_n 2, 1), (60, .invokestatic 185, 3), (63, .iaload, 1), (64, .iadd, 1), (65, .istore_n 3, 1), (66, .iinc 4 1, 3), (69, .goto (-25), 3), (72, .iload_n 3, 1), (73, .ireturn, 1)]
theorem dtX8_groupSum_0 : ∀ q ∈ dlX8_groupSum_0, decode cX8_groupSum q.1 = .ok q.2 := by decide +kernel
def dlX8_holes_0 : List (Nat × Instr × Nat) := [(0, .aload_n 0, 1), (1, .aload_n 0, 1), (2, .iload_n 1, 1), (3, .invokevirtual 178, 3), (6, .invokevirtual 120, 3), (9, .ifCond .le 5, 3), (12, .iconst 0, 1), (13, .ireturn, 1), (14, .iconst 0, 1), (15, .istore_n 2, 1), (16, .iconst 0, 1), (17, .istore_n 3, 1), (18, .iload_n 3, 1), (19, .bipush 24, 2), (21, .if_icmp .ge 31, 3), (24, .iload_n 2, 1), (25, .aload_n 0, 1), (26, .getfield 42, 3), (29, .bipush 24, 2), (31, .iload_n 1, 1), (32, .imul, 1), (33, .iload_n 3, 1), (34, .iadd, 1), (35, .baload, 1), (36, .ifCond .eq 7, 3), (39, .iconst 1, 1), (40, .goto 4, 3), (43, .iconst 0, 1), (44, .iadd, 1), (45, .istore_n 2, 1), (46, .iinc 3 1, 3), (49, .goto (-31), 3), (52, .iload_n 2, 1), (53, .ireturn, 1)]
theorem dtX8_holes_0 : ∀ q ∈ dlX8_holes_0, decode cX8_holes q.1 = .ok q.2 := by decide +kernel
def dlX8_isAtRisk_0 : List (Nat × Instr × Nat) := [(0, .aload_n 0, 1), (1, .aload_n 0, 1), (2, .iload_n 1, 1), (3, .iload_n 2, 1), (4, .iload_n 3, 1), (5, .invokevirtual 181, 3), (8, .putfield 54, 3), (11, .aload_n 0, 1), (12, .getfield 54, 3), (15, .ifCond .ne 27, 3), (18, .aload_n 0, 1), (19, .getfield 48, 3), (22, .iload_n 1, 1), (23, .iload_n 2, 1), (24, .iload_n 3, 1), (25, .invokestatic 185, 3), (28, .iaload, 1), (29, .iconst 1, 1), (30, .iconst 2, 1), (31, .invokestatic 91, 3), (34, .ifCond .ne 8, 3), (37, .aload_n 0, 1), (38, .iconst 4, 1), (39, .putfield 54, 3), (42, .aload_n 0, 1), (43, .getfield 54, 3), (46, .ifCond .le 5, 3), (49, .iconst 0, 1), (50, .ireturn, 1), (51, .aload_n 0, 1), (52, .iload_n 1, 1), (53, .invokevirtual 164, 3), (56, .aload_n 0, 1), (57, .iload_n 1, 1), (58, .iconst 4, 1), (59, .iload_n 2, 1), (60, .imul, 1), (61, .iload_n 3, 1), (62, .iadd, 1), (63, .invokevirtual 154, 3), (66, .istore 4, 2), (68, .aload_n 0, 1), (69, .iload_n 1, 1), (70, .invokevirtual 175, 3), (73, .istore 5, 2), (75, .iload 4, 2), (77, .ireturn, 1)]
theorem dtX8_isAtRisk_0 : ∀ q ∈ dlX8_isAtRisk_0, decode cX8_isAtRisk q.1 = .ok q.2 := by decide +kernel
def dlX8_found_0 : List (Nat × Instr × Nat) := [(0, .aload_n 0, 1), (1, .aload_n 0, 1), (2, .iload_n 1, 1), (3, .invokevirtual 178, 3), (6, .invokevirtual 120, 3), (9, .ifCond .gt 11, 3), (12, .aload_n 0, 1), (13, .iload_n 1, 1), (14, .invokevirtual 168, 3), (17, .ifCond .ge 7, 3), (20, .iconst 0, 1), (21, .goto 4, 3), (24, .iconst 1, 1), (25, .ireturn, 1)]
theorem dtX8_found_0 : ∀ q ∈ dlX8_found_0, decode cX8_found q.1 = .ok q.2 := by decide +kernel
def dlX8_foundByWays_0 : List (Nat × Instr × Nat) := [(0, .aload_n 0, 1), (1, .iload_n 1, 1), (2, .invokevirtual 188, 3), (5, .ireturn, 1)]
theorem dtX8_foundByWays_0 : ∀ q ∈ dlX8_foundByWays_0, decode cX8_foundByWays q.1 = .ok q.2 := by decide +kernel
def dlX8_line_0 : List (Nat × Instr × Nat) := [(0, .new 191, 3), (3, .dup, 1), (4, .invokespecial 193, 3), (7, .astore_n 2, 1), (8, .iconst 0, 1), (9, .istore_n 3, 1), (10, .iload_n 3, 1), (11, .iconst 4, 1), (12, .aload_n 0, 1), (13, .getfield 51, 3), (16, .iload_n 1, 1), (17, .iaload, 1), (18, .imul, 1), (19, .if_icmp .ge 76, 3), (22, .iload_n 3, 1), (23, .iconst 4, 1), (24, .irem, 1), (25, .ifCond .le 10, 3), (28, .aload_n 2, 1), (29, .bipush 44, 2), (31, .invokevirtual 194, 3), (34, .pop, 1), (35, .aload_n 0, 1), (36, .getfield 42, 3), (39, .bipush 24, 2), (41, .iload_n 1, 1), (42, .imul, 1), (43, .iload_n 3, 1), (44, .iadd, 1), (45, .baload, 1), (46, .ifCond .eq 13, 3), (49, .aload_n 2, 1), (50, .bipush 120, 2), (52, .invokevirtual 194, 3), (55, .pop, 1), (56, .goto 19, 3), (59, .aload_n 2, 1), (60, .aload_n 0, 1), (61, .getfield 48, 3), (64, .bipush 24, 2), (66, .iload_n 1, 1), (67, .imul, 1), (68, .iload_n 3, 1), (69, .iadd, 1), (70, .iaload, 1), (71, .invokevirtual 198, 3), (74, .pop, 1), (75, .iload_n 3, 1), (76, .iconst 4, 1), (77, .irem, 1), (78, .iconst 3, 1), (79, .if_icmp .ne 10, 3), (82, .aload_n 2, 1), (83, .bipush 59, 2), (85, .invokevirtual 194, 3), (88, .pop, 1), (89, .iinc 3 1, 3), (92, .goto (-82), 3), (95, .aload_n 2, 1), (96, .invokevirtual 201, 3)]
theorem dtX8_line_0 : ∀ q ∈ dlX8_line_0, decode cX8_line q.1 = .ok q.2 := by decide +kernel
def dlX8_line_1 : List (Nat × Instr × Nat) := [(99, .areturn, 1)]
theorem dtX8_line_1 : ∀ q ∈ dlX8_line_1, decode cX8_line q.1 = .ok q.2 := by decide +kernel
def dlX8_lineLength_0 : List (Nat × Instr × Nat) := [(0, .aload_n 0, 1), (1, .aload_n 0, 1), (2, .iload_n 1, 1), (3, .invokevirtual 178, 3), (6, .invokevirtual 120, 3), (9, .ifCond .le 7, 3), (12, .iconst 0, 1), (13, .goto 11, 3), (16, .aload_n 0, 1), (17, .iload_n 1, 1), (18, .invokevirtual 205, 3), (21, .invokevirtual 209, 3), (24, .ireturn, 1)]
theorem dtX8_lineLength_0 : ∀ q ∈ dlX8_lineLength_0, decode cX8_lineLength q.1 = .ok q.2 := by decide +kernel
def dlX8_lineAt_0 : List (Nat × Instr × Nat) := [(0, .aload_n 0, 1), (1, .aload_n 0, 1), (2, .iload_n 1, 1), (3, .invokevirtual 178, 3), (6, .ifCond .ne 7, 3), (9, .iconst 1, 1), (10, .goto 26, 3), (13, .iload_n 2, 1), (14, .iconst 0, 1), (15, .aload_n 0, 1), (16, .iload_n 1, 1), (17, .invokevirtual 205, 3), (20, .invokevirtual 209, 3), (23, .iconst 1, 1), (24, .isub, 1), (25, .invokestatic 91, 3), (28, .ifCond .ne 7, 3), (31, .iconst 2, 1), (32, .goto 4, 3), (35, .iconst 0, 1), (36, .putfield 54, 3), (39, .aload_n 0, 1), (40, .getfield 54, 3), (43, .ifCond .le 8, 3), (46, .bipush 32, 2), (48, .goto 12, 3), (51, .aload_n 0, 1), (52, .iload_n 1, 1), (53, .invokevirtual 205, 3), (56, .iload_n 2, 1), (57, .invokevirtual 214, 3), (60, .ireturn, 1)]
theorem dtX8_lineAt_0 : ∀ q ∈ dlX8_lineAt_0, decode cX8_lineAt q.1 = .ok q.2 := by decide +kernel
def dlX8_isSafe_0 : List (Nat × Instr × Nat) := [(0, .aload_n 0, 1), (1, .iconst 0, 1), (2, .putfield 54, 3), (5, .iconst 1, 1), (6, .ireturn, 1)]
theorem dtX8_isSafe_0 : ∀ q ∈ dlX8_isSafe_0, decode cX8_isSafe q.1 = .ok q.2 := by decide +kernel
def dlL_addBlock_0 : List (Nat × Instr × Nat) := [(0, .aload_n 1, 1), (1, .iconst 0, 1), (2, .aload_n 0, 1), (3, .invokevirtual 7, 3), (6, .i2l, 1), (7, .lastore, 1), (8, .goto 6, 3), (11, .astore_n 2, 1), (12, .iconst 1, 1), (13, .ireturn, 1), (14, .iconst 0, 1), (15, .ireturn, 1)]
theorem dtL_addBlock_0 : ∀ q ∈ dlL_addBlock_0, decode cL_addBlock q.1 = .ok q.2 := by decide +kernel
def dlL_addAddress_0 : List (Nat × Instr × Nat) := [(0, .aload_n 2, 1), (1, .iconst 0, 1), (2, .aload_n 0, 1), (3, .iload_n 1, 1), (4, .invokevirtual 15, 3), (7, .i2l, 1), (8, .lastore, 1), (9, .goto 9, 3), (12, .astore_n 3, 1), (13, .iconst 1, 1), (14, .ireturn, 1), (15, .astore_n 3, 1), (16, .iconst 2, 1), (17, .ireturn, 1), (18, .iconst 0, 1), (19, .ireturn, 1)]
theorem dtL_addAddress_0 : ∀ q ∈ dlL_addAddress_0, decode cL_addAddress q.1 = .ok q.2 := by decide +kernel
def dlL_split_0 : List (Nat × Instr × Nat) := [(0, .aload_n 3, 1), (1, .iconst 0, 1), (2, .aload_n 0, 1), (3, .iload_n 1, 1), (4, .iload_n 2, 1), (5, .invokevirtual 21, 3), (8, .i2l, 1), (9, .lastore, 1), (10, .goto 15, 3), (13, .astore 4, 2), (15, .iconst 1, 1), (16, .ireturn, 1), (17, .astore 4, 2), (19, .iconst 2, 1), (20, .ireturn, 1), (21, .astore 4, 2), (23, .iconst 3, 1), (24, .ireturn, 1), (25, .iconst 0, 1), (26, .ireturn, 1)]
theorem dtL_split_0 : ∀ q ∈ dlL_split_0, decode cL_split q.1 = .ok q.2 := by decide +kernel
def dlL_join_0 : List (Nat × Instr × Nat) := [(0, .aload_n 3, 1), (1, .iconst 0, 1), (2, .aload_n 0, 1), (3, .iload_n 1, 1), (4, .iload_n 2, 1), (5, .invokevirtual 27, 3), (8, .i2l, 1), (9, .lastore, 1), (10, .goto 11, 3), (13, .astore 4, 2), (15, .iconst 1, 1), (16, .ireturn, 1), (17, .astore 4, 2), (19, .iconst 2, 1), (20, .ireturn, 1), (21, .iconst 0, 1), (22, .ireturn, 1)]
theorem dtL_join_0 : ∀ q ∈ dlL_join_0, decode cL_join q.1 = .ok q.2 := by decide +kernel
def dlL_addRecord_0 : List (Nat × Instr × Nat) := [(0, .aload 5, 2), (2, .iconst 0, 1), (3, .aload_n 0, 1), (4, .iload_n 1, 1), (5, .iload_n 2, 1), (6, .iload_n 3, 1), (7, .iload 4, 2), (9, .invokevirtual 32, 3), (12, .i2l, 1), (13, .lastore, 1), (14, .goto 15, 3), (17, .astore 6, 2), (19, .iconst 1, 1), (20, .ireturn, 1), (21, .astore 6, 2), (23, .iconst 2, 1), (24, .ireturn, 1), (25, .astore 6, 2), (27, .iconst 3, 1), (28, .ireturn, 1), (29, .iconst 0, 1), (30, .ireturn, 1)]
theorem dtL_addRecord_0 : ∀ q ∈ dlL_addRecord_0, decode cL_addRecord q.1 = .ok q.2 := by decide +kernel
def dlL_blockOf_0 : List (Nat × Instr × Nat) := [(0, .aload_n 2, 1), (1, .iconst 0, 1), (2, .aload_n 0, 1), (3, .iload_n 1, 1), (4, .invokevirtual 36, 3), (7, .i2l, 1), (8, .lastore, 1), (9, .goto 6, 3), (12, .astore_n 3, 1), (13, .iconst 1, 1), (14, .ireturn, 1), (15, .iconst 0, 1), (16, .ireturn, 1)]
theorem dtL_blockOf_0 : ∀ q ∈ dlL_blockOf_0, decode cL_blockOf q.1 = .ok q.2 := by decide +kernel
def dlL_setPoints_0 : List (Nat × Instr × Nat) := [(0, .aload_n 3, 1), (1, .iconst 0, 1), (2, .aload_n 0, 1), (3, .iload_n 1, 1), (4, .iload_n 2, 1), (5, .invokevirtual 39, 3), (8, .i2l, 1), (9, .lastore, 1), (10, .goto 7, 3), (13, .astore 4, 2), (15, .iconst 1, 1), (16, .ireturn, 1), (17, .iconst 0, 1), (18, .ireturn, 1)]
theorem dtL_setPoints_0 : ∀ q ∈ dlL_setPoints_0, decode cL_setPoints q.1 = .ok q.2 := by decide +kernel
def dlL_setBounds_0 : List (Nat × Instr × Nat) := [(0, .aload_n 3, 1), (1, .iconst 0, 1), (2, .aload_n 0, 1), (3, .iload_n 1, 1), (4, .iload_n 2, 1), (5, .invokevirtual 43, 3), (8, .i2l, 1), (9, .lastore, 1), (10, .goto 7, 3), (13, .astore 4, 2), (15, .iconst 1, 1), (16, .ireturn, 1), (17, .iconst 0, 1), (18, .ireturn, 1)]
theorem dtL_setBounds_0 : ∀ q ∈ dlL_setBounds_0, decode cL_setBounds q.1 = .ok q.2 := by decide +kernel
def dlL_score_0 : List (Nat × Instr × Nat) := [(0, .aload_n 3, 1), (1, .iconst 0, 1), (2, .aload_n 0, 1), (3, .iload_n 1, 1), (4, .iload_n 2, 1), (5, .invokevirtual 46, 3), (8, .i2l, 1), (9, .lastore, 1), (10, .goto 11, 3), (13, .astore 4, 2), (15, .iconst 1, 1), (16, .ireturn, 1), (17, .astore 4, 2), (19, .iconst 2, 1), (20, .ireturn, 1), (21, .iconst 0, 1), (22, .ireturn, 1)]
theorem dtL_score_0 : ∀ q ∈ dlL_score_0, decode cL_score q.1 = .ok q.2 := by decide +kernel
def dlL_decide_0 : List (Nat × Instr × Nat) := [(0, .aload 4, 2), (2, .iconst 0, 1), (3, .aload_n 0, 1), (4, .iload_n 1, 1), (5, .iload_n 2, 1), (6, .iload_n 3, 1), (7, .invokevirtual 49, 3), (10, .i2l, 1), (11, .lastore, 1), (12, .goto 15, 3), (15, .astore 5, 2), (17, .iconst 1, 1), (18, .ireturn, 1), (19, .astore 5, 2), (21, .iconst 2, 1), (22, .ireturn, 1), (23, .astore 5, 2), (25, .iconst 3, 1), (26, .ireturn, 1), (27, .iconst 0, 1), (28, .ireturn, 1)]
theorem dtL_decide_0 : ∀ q ∈ dlL_decide_0, decode cL_decide q.1 = .ok q.2 := by decide +kernel
def dlL_takeBack_0 : List (Nat × Instr × Nat) := [(0, .aload_n 3, 1), (1, .iconst 0, 1), (2, .aload_n 0, 1), (3, .iload_n 1, 1), (4, .iload_n 2, 1), (5, .invokevirtual 55, 3), (8, .i2l, 1), (9, .lastore, 1), (10, .goto 11, 3), (13, .astore 4, 2), (15, .iconst 1, 1), (16, .ireturn, 1), (17, .astore 4, 2), (19, .iconst 2, 1), (20, .ireturn, 1), (21, .iconst 0, 1), (22, .ireturn, 1)]
theorem dtL_takeBack_0 : ∀ q ∈ dlL_takeBack_0, decode cL_takeBack q.1 = .ok q.2 := by decide +kernel
def dlL_link_0 : List (Nat × Instr × Nat) := [(0, .aload_n 3, 1), (1, .iconst 0, 1), (2, .aload_n 0, 1), (3, .iload_n 1, 1), (4, .iload_n 2, 1), (5, .invokevirtual 58, 3), (8, .i2l, 1), (9, .lastore, 1), (10, .goto 11, 3), (13, .astore 4, 2), (15, .iconst 1, 1), (16, .ireturn, 1), (17, .astore 4, 2), (19, .iconst 2, 1), (20, .ireturn, 1), (21, .iconst 0, 1), (22, .ireturn, 1)]
theorem dtL_link_0 : ∀ q ∈ dlL_link_0, decode cL_link q.1 = .ok q.2 := by decide +kernel
def dlL_isDouble_0 : List (Nat × Instr × Nat) := [(0, .aload_n 2, 1), (1, .iconst 0, 1), (2, .aload_n 0, 1), (3, .iload_n 1, 1), (4, .invokevirtual 62, 3), (7, .ifCond .eq 7, 3), (10, .lconst 1, 1), (11, .goto 4, 3), (14, .lconst 0, 1), (15, .lastore, 1), (16, .goto 6, 3), (19, .astore_n 3, 1), (20, .iconst 1, 1), (21, .ireturn, 1), (22, .iconst 0, 1), (23, .ireturn, 1)]
theorem dtL_isDouble_0 : ∀ q ∈ dlL_isDouble_0, decode cL_isDouble q.1 = .ok q.2 := by decide +kernel
def dlL_matchOf_0 : List (Nat × Instr × Nat) := [(0, .aload_n 2, 1), (1, .iconst 0, 1), (2, .aload_n 0, 1), (3, .iload_n 1, 1), (4, .invokevirtual 66, 3), (7, .i2l, 1), (8, .lastore, 1), (9, .goto 9, 3), (12, .astore_n 3, 1), (13, .iconst 1, 1), (14, .ireturn, 1), (15, .astore_n 3, 1), (16, .iconst 2, 1), (17, .ireturn, 1), (18, .iconst 0, 1), (19, .ireturn, 1)]
theorem dtL_matchOf_0 : ∀ q ∈ dlL_matchOf_0, decode cL_matchOf q.1 = .ok q.2 := by decide +kernel
def dlL_count_0 : List (Nat × Instr × Nat) := [(0, .aload_n 3, 1), (1, .iconst 0, 1), (2, .aload_n 0, 1), (3, .iload_n 1, 1), (4, .iload_n 2, 1), (5, .invokevirtual 69, 3), (8, .i2l, 1), (9, .lastore, 1), (10, .goto 11, 3), (13, .astore 4, 2), (15, .iconst 1, 1), (16, .ireturn, 1), (17, .astore 4, 2), (19, .iconst 2, 1), (20, .ireturn, 1), (21, .iconst 0, 1), (22, .ireturn, 1)]
theorem dtL_count_0 : ∀ q ∈ dlL_count_0, decode cL_count q.1 = .ok q.2 := by decide +kernel
def dlL_countAnew_0 : List (Nat × Instr × Nat) := [(0, .aload_n 3, 1), (1, .iconst 0, 1), (2, .aload_n 0, 1), (3, .iload_n 1, 1), (4, .iload_n 2, 1), (5, .invokevirtual 72, 3), (8, .i2l, 1), (9, .lastore, 1), (10, .goto 11, 3), (13, .astore 4, 2), (15, .iconst 1, 1), (16, .ireturn, 1), (17, .astore 4, 2), (19, .iconst 2, 1), (20, .ireturn, 1), (21, .iconst 0, 1), (22, .ireturn, 1)]
theorem dtL_countAnew_0 : ∀ q ∈ dlL_countAnew_0, decode cL_countAnew q.1 = .ok q.2 := by decide +kernel
def dlL_estimate_0 : List (Nat × Instr × Nat) := [(0, .aload_n 1, 1), (1, .iconst 0, 1), (2, .aload_n 0, 1), (3, .invokevirtual 75, 3), (6, .lastore, 1), (7, .goto 6, 3), (10, .astore_n 2, 1), (11, .iconst 1, 1), (12, .ireturn, 1), (13, .iconst 0, 1), (14, .ireturn, 1)]
theorem dtL_estimate_0 : ∀ q ∈ dlL_estimate_0, decode cL_estimate q.1 = .ok q.2 := by decide +kernel
def dlL_doubleShare_0 : List (Nat × Instr × Nat) := [(0, .aload_n 1, 1), (1, .iconst 0, 1), (2, .aload_n 0, 1), (3, .invokevirtual 81, 3), (6, .f2d, 1), (7, .dastore, 1), (8, .goto 6, 3), (11, .astore_n 2, 1), (12, .iconst 1, 1), (13, .ireturn, 1), (14, .iconst 0, 1), (15, .ireturn, 1)]
theorem dtL_doubleShare_0 : ∀ q ∈ dlL_doubleShare_0, decode cL_doubleShare q.1 = .ok q.2 := by decide +kernel
def dlL_meanScore_0 : List (Nat × Instr × Nat) := [(0, .aload_n 1, 1), (1, .iconst 0, 1), (2, .aload_n 0, 1), (3, .invokevirtual 85, 3), (6, .dastore, 1), (7, .goto 6, 3), (10, .astore_n 2, 1), (11, .iconst 1, 1), (12, .ireturn, 1), (13, .iconst 0, 1), (14, .ireturn, 1)]
theorem dtL_meanScore_0 : ∀ q ∈ dlL_meanScore_0, decode cL_meanScore q.1 = .ok q.2 := by decide +kernel
def dlL_tell_0 : List (Nat × Instr × Nat) := [(0, .aload_n 1, 1), (1, .iconst 0, 1), (2, .aload_n 0, 1), (3, .invokevirtual 89, 3), (6, .i2l, 1), (7, .lastore, 1), (8, .goto 9, 3), (11, .astore_n 2, 1), (12, .iconst 1, 1), (13, .ireturn, 1), (14, .astore_n 2, 1), (15, .iconst 2, 1), (16, .ireturn, 1), (17, .iconst 0, 1), (18, .ireturn, 1)]
theorem dtL_tell_0 : ∀ q ∈ dlL_tell_0, decode cL_tell q.1 = .ok q.2 := by decide +kernel
def dlL_stateOf_0 : List (Nat × Instr × Nat) := [(0, .aload_n 2, 1), (1, .iconst 0, 1), (2, .aload_n 0, 1), (3, .iload_n 1, 1), (4, .invokevirtual 92, 3), (7, .i2l, 1), (8, .lastore, 1), (9, .goto 6, 3), (12, .astore_n 3, 1), (13, .iconst 1, 1), (14, .ireturn, 1), (15, .iconst 0, 1), (16, .ireturn, 1)]
theorem dtL_stateOf_0 : ∀ q ∈ dlL_stateOf_0, decode cL_stateOf q.1 = .ok q.2 := by decide +kernel
def dlL_isHidden_0 : List (Nat × Instr × Nat) := [(0, .aload 4, 2), (2, .iconst 0, 1), (3, .aload_n 0, 1), (4, .iload_n 1, 1), (5, .iload_n 2, 1), (6, .iload_n 3, 1), (7, .invokevirtual 96, 3), (10, .ifCond .eq 7, 3), (13, .lconst 1, 1), (14, .goto 4, 3), (17, .lconst 0, 1), (18, .lastore, 1), (19, .goto 15, 3), (22, .astore 5, 2), (24, .iconst 1, 1), (25, .ireturn, 1), (26, .astore 5, 2), (28, .iconst 2, 1), (29, .ireturn, 1), (30, .astore 5, 2), (32, .iconst 3, 1), (33, .ireturn, 1), (34, .iconst 0, 1), (35, .ireturn, 1)]
theorem dtL_isHidden_0 : ∀ q ∈ dlL_isHidden_0, decode cL_isHidden q.1 = .ok q.2 := by decide +kernel
def dlL_cell_0 : List (Nat × Instr × Nat) := [(0, .aload 4, 2), (2, .iconst 0, 1), (3, .aload_n 0, 1), (4, .iload_n 1, 1), (5, .iload_n 2, 1), (6, .iload_n 3, 1), (7, .invokevirtual 100, 3), (10, .i2l, 1), (11, .lastore, 1), (12, .goto 19, 3), (15, .astore 5, 2), (17, .iconst 1, 1), (18, .ireturn, 1), (19, .astore 5, 2), (21, .iconst 2, 1), (22, .ireturn, 1), (23, .astore 5, 2), (25, .iconst 3, 1), (26, .ireturn, 1), (27, .astore 5, 2), (29, .iconst 4, 1), (30, .ireturn, 1), (31, .iconst 0, 1), (32, .ireturn, 1)]
theorem dtL_cell_0 : ∀ q ∈ dlL_cell_0, decode cL_cell q.1 = .ok q.2 := by decide +kernel
def dlL_blockSum_0 : List (Nat × Instr × Nat) := [(0, .aload_n 3, 1), (1, .iconst 0, 1), (2, .aload_n 0, 1), (3, .iload_n 1, 1), (4, .iload_n 2, 1), (5, .invokevirtual 104, 3), (8, .i2l, 1), (9, .lastore, 1), (10, .goto 11, 3), (13, .astore 4, 2), (15, .iconst 1, 1), (16, .ireturn, 1), (17, .astore 4, 2), (19, .iconst 2, 1), (20, .ireturn, 1), (21, .iconst 0, 1), (22, .ireturn, 1)]
theorem dtL_blockSum_0 : ∀ q ∈ dlL_blockSum_0, decode cL_blockSum q.1 = .ok q.2 := by decide +kernel
def dlL_groupSum_0 : List (Nat × Instr × Nat) := [(0, .aload_n 3, 1), (1, .iconst 0, 1), (2, .aload_n 0, 1), (3, .iload_n 1, 1), (4, .iload_n 2, 1), (5, .invokevirtual 107, 3), (8, .i2l, 1), (9, .lastore, 1), (10, .goto 11, 3), (13, .astore 4, 2), (15, .iconst 1, 1), (16, .ireturn, 1), (17, .astore 4, 2), (19, .iconst 2, 1), (20, .ireturn, 1), (21, .iconst 0, 1), (22, .ireturn, 1)]
theorem dtL_groupSum_0 : ∀ q ∈ dlL_groupSum_0, decode cL_groupSum q.1 = .ok q.2 := by decide +kernel
def dlL_holes_0 : List (Nat × Instr × Nat) := [(0, .aload_n 2, 1), (1, .iconst 0, 1), (2, .aload_n 0, 1), (3, .iload_n 1, 1), (4, .invokevirtual 110, 3), (7, .i2l, 1), (8, .lastore, 1), (9, .goto 6, 3), (12, .astore_n 3, 1), (13, .iconst 1, 1), (14, .ireturn, 1), (15, .iconst 0, 1), (16, .ireturn, 1)]
theorem dtL_holes_0 : ∀ q ∈ dlL_holes_0, decode cL_holes q.1 = .ok q.2 := by decide +kernel
def dlL_isAtRisk_0 : List (Nat × Instr × Nat) := [(0, .aload 4, 2), (2, .iconst 0, 1), (3, .aload_n 0, 1), (4, .iload_n 1, 1), (5, .iload_n 2, 1), (6, .iload_n 3, 1), (7, .invokevirtual 113, 3), (10, .ifCond .eq 7, 3), (13, .lconst 1, 1), (14, .goto 4, 3), (17, .lconst 0, 1), (18, .lastore, 1), (19, .goto 19, 3), (22, .astore 5, 2), (24, .iconst 1, 1), (25, .ireturn, 1), (26, .astore 5, 2), (28, .iconst 2, 1), (29, .ireturn, 1), (30, .astore 5, 2), (32, .iconst 3, 1), (33, .ireturn, 1), (34, .astore 5, 2), (36, .iconst 4, 1), (37, .ireturn, 1), (38, .iconst 0, 1), (39, .ireturn, 1)]
theorem dtL_isAtRisk_0 : ∀ q ∈ dlL_isAtRisk_0, decode cL_isAtRisk q.1 = .ok q.2 := by decide +kernel
def dlL_found_0 : List (Nat × Instr × Nat) := [(0, .aload_n 2, 1), (1, .iconst 0, 1), (2, .aload_n 0, 1), (3, .iload_n 1, 1), (4, .invokevirtual 116, 3), (7, .i2l, 1), (8, .lastore, 1), (9, .goto 6, 3), (12, .astore_n 3, 1), (13, .iconst 1, 1), (14, .ireturn, 1), (15, .iconst 0, 1), (16, .ireturn, 1)]
theorem dtL_found_0 : ∀ q ∈ dlL_found_0, decode cL_found q.1 = .ok q.2 := by decide +kernel
def dlL_foundByWays_0 : List (Nat × Instr × Nat) := [(0, .aload_n 2, 1), (1, .iconst 0, 1), (2, .aload_n 0, 1), (3, .iload_n 1, 1), (4, .invokevirtual 119, 3), (7, .i2l, 1), (8, .lastore, 1), (9, .goto 6, 3), (12, .astore_n 3, 1), (13, .iconst 1, 1), (14, .ireturn, 1), (15, .iconst 0, 1), (16, .ireturn, 1)]
theorem dtL_foundByWays_0 : ∀ q ∈ dlL_foundByWays_0, decode cL_foundByWays q.1 = .ok q.2 := by decide +kernel
def dlL_lineLength_0 : List (Nat × Instr × Nat) := [(0, .aload_n 2, 1), (1, .iconst 0, 1), (2, .aload_n 0, 1), (3, .iload_n 1, 1), (4, .invokevirtual 122, 3), (7, .i2l, 1), (8, .lastore, 1), (9, .goto 6, 3), (12, .astore_n 3, 1), (13, .iconst 1, 1), (14, .ireturn, 1), (15, .iconst 0, 1), (16, .ireturn, 1)]
theorem dtL_lineLength_0 : ∀ q ∈ dlL_lineLength_0, decode cL_lineLength q.1 = .ok q.2 := by decide +kernel
def dlL_lineAt_0 : List (Nat × Instr × Nat) := [(0, .aload_n 3, 1), (1, .iconst 0, 1), (2, .aload_n 0, 1), (3, .iload_n 1, 1), (4, .iload_n 2, 1), (5, .invokevirtual 125, 3), (8, .i2l, 1), (9, .lastore, 1), (10, .goto 11, 3), (13, .astore 4, 2), (15, .iconst 1, 1), (16, .ireturn, 1), (17, .astore 4, 2), (19, .iconst 2, 1), (20, .ireturn, 1), (21, .iconst 0, 1), (22, .ireturn, 1)]
theorem dtL_lineAt_0 : ∀ q ∈ dlL_lineAt_0, decode cL_lineAt q.1 = .ok q.2 := by decide +kernel
def dlL_law_0 : List (Nat × Instr × Nat) := [(0, .new 8, 3), (3, .dup, 1), (4, .invokespecial 128, 3), (7, .astore_n 1, 1), (8, .new 129, 3), (11, .dup, 1), (12, .invokespecial 131, 3), (15, .astore_n 2, 1), (16, .iconst 1, 1), (17, .newarray .long, 2), (19, .astore_n 3, 1), (20, .iconst 1, 1), (21, .newarray .double, 2), (23, .astore 4, 2), (25, .iconst 0, 1), (26, .istore 5, 2), (28, .iload 5, 2), (30, .aload_n 0, 1), (31, .arraylength, 1), (32, .iconst 5, 1), (33, .isub, 1), (34, .if_icmp .gt 2242, 3), (37, .aload_n 0, 1), (38, .iload 5, 2), (40, .iaload, 1), (41, .bipush 63, 2), (43, .iand, 1), (44, .tableswitch 2226 0 33 #[152, 196, 252, 320, 388, 482, 538, 608, 676, 744, 840, 908, 976, 989, 1052, 1108, 1121, 1189, 1257, 1300, 1366, 1431, 1475, 1531, 1618, 1698, 1766, 1834, 1890, 1977, 2033, 2089, 2145, 2213], 152), (196, .aload_n 1, 1), (197, .aload_n 3, 1), (198, .invokestatic 132, 3), (201, .istore 6, 2), (203, .aload_n 2, 1), (204, .invokevirtual 137, 3), (207, .istore 7, 2), (209, .aload_n 2, 1), (210, .invokevirtual 138, 3), (213, .iload 6, 2), (215, .if_icmp .eq 5, 3), (218, .iconst 0, 1), (219, .ireturn, 1), (220, .iload 6, 2), (222, .ifCond .ne 15, 3), (225, .aload_n 3, 1), (226, .iconst 0, 1), (227, .laload, 1), (228, .iload 7, 2), (230, .i2l, 1), (231, .lcmp, 1), (232, .ifCond .eq 5, 3), (235, .iconst 0, 1), (236, .ireturn, 1), (237, .goto 2033, 3), (240, .aload_n 1, 1), (241, .aload_n 0, 1), (242, .iload 5, 2), (244, .iconst 1, 1), (245, .iadd, 1), (246, .iaload, 1), (247, .aload_n 3, 1)]
theorem dtL_law_0 : ∀ q ∈ dlL_law_0, decode cL_law q.1 = .ok q.2 := by decide +kernel
def dlL_law_1 : List (Nat × Instr × Nat) := [(248, .invokestatic 141, 3), (251, .istore 6, 2), (253, .aload_n 2, 1), (254, .aload_n 0, 1), (255, .iload 5, 2), (257, .iconst 1, 1), (258, .iadd, 1), (259, .iaload, 1), (260, .invokevirtual 144, 3), (263, .istore 7, 2), (265, .aload_n 2, 1), (266, .invokevirtual 138, 3), (269, .iload 6, 2), (271, .if_icmp .eq 5, 3), (274, .iconst 0, 1), (275, .ireturn, 1), (276, .iload 6, 2), (278, .ifCond .ne 15, 3), (281, .aload_n 3, 1), (282, .iconst 0, 1), (283, .laload, 1), (284, .iload 7, 2), (286, .i2l, 1), (287, .lcmp, 1), (288, .ifCond .eq 5, 3), (291, .iconst 0, 1), (292, .ireturn, 1), (293, .goto 1977, 3), (296, .aload_n 1, 1), (297, .aload_n 0, 1), (298, .iload 5, 2), (300, .iconst 1, 1), (301, .iadd, 1), (302, .iaload, 1), (303, .aload_n 0, 1), (304, .iload 5, 2), (306, .iconst 2, 1), (307, .iadd, 1), (308, .iaload, 1), (309, .aload_n 3, 1), (310, .invokestatic 145, 3), (313, .istore 6, 2), (315, .aload_n 2, 1), (316, .aload_n 0, 1), (317, .iload 5, 2), (319, .iconst 1, 1), (320, .iadd, 1), (321, .iaload, 1), (322, .aload_n 0, 1), (323, .iload 5, 2), (325, .iconst 2, 1), (326, .iadd, 1), (327, .iaload, 1), (328, .invokevirtual 148, 3), (331, .istore 7, 2), (333, .aload_n 2, 1), (334, .invokevirtual 138, 3), (337, .iload 6, 2), (339, .if_icmp .eq 5, 3), (342, .iconst 0, 1)]
theorem dtL_law_1 : ∀ q ∈ dlL_law_1, decode cL_law q.1 = .ok q.2 := by decide +kernel
def dlL_law_2 : List (Nat × Instr × Nat) := [(343, .ireturn, 1), (344, .iload 6, 2), (346, .ifCond .ne 15, 3), (349, .aload_n 3, 1), (350, .iconst 0, 1), (351, .laload, 1), (352, .iload 7, 2), (354, .i2l, 1), (355, .lcmp, 1), (356, .ifCond .eq 5, 3), (359, .iconst 0, 1), (360, .ireturn, 1), (361, .goto 1909, 3), (364, .aload_n 1, 1), (365, .aload_n 0, 1), (366, .iload 5, 2), (368, .iconst 1, 1), (369, .iadd, 1), (370, .iaload, 1), (371, .aload_n 0, 1), (372, .iload 5, 2), (374, .iconst 2, 1), (375, .iadd, 1), (376, .iaload, 1), (377, .aload_n 3, 1), (378, .invokestatic 149, 3), (381, .istore 6, 2), (383, .aload_n 2, 1), (384, .aload_n 0, 1), (385, .iload 5, 2), (387, .iconst 1, 1), (388, .iadd, 1), (389, .iaload, 1), (390, .aload_n 0, 1), (391, .iload 5, 2), (393, .iconst 2, 1), (394, .iadd, 1), (395, .iaload, 1), (396, .invokevirtual 151, 3), (399, .istore 7, 2), (401, .aload_n 2, 1), (402, .invokevirtual 138, 3), (405, .iload 6, 2), (407, .if_icmp .eq 5, 3), (410, .iconst 0, 1), (411, .ireturn, 1), (412, .iload 6, 2), (414, .ifCond .ne 15, 3), (417, .aload_n 3, 1), (418, .iconst 0, 1), (419, .laload, 1), (420, .iload 7, 2), (422, .i2l, 1), (423, .lcmp, 1), (424, .ifCond .eq 5, 3), (427, .iconst 0, 1), (428, .ireturn, 1), (429, .goto 1841, 3), (432, .aload_n 1, 1), (433, .aload_n 0, 1)]
theorem dtL_law_2 : ∀ q ∈ dlL_law_2, decode cL_law q.1 = .ok q.2 := by decide +kernel
def dlL_law_3 : List (Nat × Instr × Nat) := [(434, .iload 5, 2), (436, .iconst 1, 1), (437, .iadd, 1), (438, .iaload, 1), (439, .i2c, 1), (440, .aload_n 0, 1), (441, .iload 5, 2), (443, .iconst 2, 1), (444, .iadd, 1), (445, .iaload, 1), (446, .aload_n 0, 1), (447, .iload 5, 2), (449, .iconst 3, 1), (450, .iadd, 1), (451, .iaload, 1), (452, .aload_n 0, 1), (453, .iload 5, 2), (455, .iconst 4, 1), (456, .iadd, 1), (457, .iaload, 1), (458, .aload_n 3, 1), (459, .invokestatic 152, 3), (462, .istore 6, 2), (464, .aload_n 2, 1), (465, .aload_n 0, 1), (466, .iload 5, 2), (468, .iconst 1, 1), (469, .iadd, 1), (470, .iaload, 1), (471, .i2c, 1), (472, .aload_n 0, 1), (473, .iload 5, 2), (475, .iconst 2, 1), (476, .iadd, 1), (477, .iaload, 1), (478, .aload_n 0, 1), (479, .iload 5, 2), (481, .iconst 3, 1), (482, .iadd, 1), (483, .iaload, 1), (484, .aload_n 0, 1), (485, .iload 5, 2), (487, .iconst 4, 1), (488, .iadd, 1), (489, .iaload, 1), (490, .invokevirtual 155, 3), (493, .istore 7, 2), (495, .aload_n 2, 1), (496, .invokevirtual 138, 3), (499, .iload 6, 2), (501, .if_icmp .eq 5, 3), (504, .iconst 0, 1), (505, .ireturn, 1), (506, .iload 6, 2), (508, .ifCond .ne 15, 3), (511, .aload_n 3, 1), (512, .iconst 0, 1), (513, .laload, 1), (514, .iload 7, 2), (516, .i2l, 1)]
theorem dtL_law_3 : ∀ q ∈ dlL_law_3, decode cL_law q.1 = .ok q.2 := by decide +kernel
def dlL_law_4 : List (Nat × Instr × Nat) := [(517, .lcmp, 1), (518, .ifCond .eq 5, 3), (521, .iconst 0, 1), (522, .ireturn, 1), (523, .goto 1747, 3), (526, .aload_n 1, 1), (527, .aload_n 0, 1), (528, .iload 5, 2), (530, .iconst 1, 1), (531, .iadd, 1), (532, .iaload, 1), (533, .aload_n 3, 1), (534, .invokestatic 156, 3), (537, .istore 6, 2), (539, .aload_n 2, 1), (540, .aload_n 0, 1), (541, .iload 5, 2), (543, .iconst 1, 1), (544, .iadd, 1), (545, .iaload, 1), (546, .invokevirtual 158, 3), (549, .istore 7, 2), (551, .aload_n 2, 1), (552, .invokevirtual 138, 3), (555, .iload 6, 2), (557, .if_icmp .eq 5, 3), (560, .iconst 0, 1), (561, .ireturn, 1), (562, .iload 6, 2), (564, .ifCond .ne 15, 3), (567, .aload_n 3, 1), (568, .iconst 0, 1), (569, .laload, 1), (570, .iload 7, 2), (572, .i2l, 1), (573, .lcmp, 1), (574, .ifCond .eq 5, 3), (577, .iconst 0, 1), (578, .ireturn, 1), (579, .goto 1691, 3), (582, .aload_n 1, 1), (583, .aload_n 0, 1), (584, .iload 5, 2), (586, .iconst 1, 1), (587, .iadd, 1), (588, .iaload, 1), (589, .i2c, 1), (590, .aload_n 0, 1), (591, .iload 5, 2), (593, .iconst 2, 1), (594, .iadd, 1), (595, .iaload, 1), (596, .aload_n 3, 1), (597, .invokestatic 159, 3), (600, .istore 6, 2), (602, .aload_n 2, 1), (603, .aload_n 0, 1), (604, .iload 5, 2), (606, .iconst 1, 1), (607, .iadd, 1)]
theorem dtL_law_4 : ∀ q ∈ dlL_law_4, decode cL_law q.1 = .ok q.2 := by decide +kernel
def dlL_law_5 : List (Nat × Instr × Nat) := [(608, .iaload, 1), (609, .i2c, 1), (610, .aload_n 0, 1), (611, .iload 5, 2), (613, .iconst 2, 1), (614, .iadd, 1), (615, .iaload, 1), (616, .invokevirtual 162, 3), (619, .istore 7, 2), (621, .aload_n 2, 1), (622, .invokevirtual 138, 3), (625, .iload 6, 2), (627, .if_icmp .eq 5, 3), (630, .iconst 0, 1), (631, .ireturn, 1), (632, .iload 6, 2), (634, .ifCond .ne 15, 3), (637, .aload_n 3, 1), (638, .iconst 0, 1), (639, .laload, 1), (640, .iload 7, 2), (642, .i2l, 1), (643, .lcmp, 1), (644, .ifCond .eq 5, 3), (647, .iconst 0, 1), (648, .ireturn, 1), (649, .goto 1621, 3), (652, .aload_n 1, 1), (653, .aload_n 0, 1), (654, .iload 5, 2), (656, .iconst 1, 1), (657, .iadd, 1), (658, .iaload, 1), (659, .aload_n 0, 1), (660, .iload 5, 2), (662, .iconst 2, 1), (663, .iadd, 1), (664, .iaload, 1), (665, .aload_n 3, 1), (666, .invokestatic 163, 3), (669, .istore 6, 2), (671, .aload_n 2, 1), (672, .aload_n 0, 1), (673, .iload 5, 2), (675, .iconst 1, 1), (676, .iadd, 1), (677, .iaload, 1), (678, .aload_n 0, 1), (679, .iload 5, 2), (681, .iconst 2, 1), (682, .iadd, 1), (683, .iaload, 1), (684, .invokevirtual 165, 3), (687, .istore 7, 2), (689, .aload_n 2, 1), (690, .invokevirtual 138, 3), (693, .iload 6, 2), (695, .if_icmp .eq 5, 3), (698, .iconst 0, 1), (699, .ireturn, 1)]
theorem dtL_law_5 : ∀ q ∈ dlL_law_5, decode cL_law q.1 = .ok q.2 := by decide +kernel
def dlL_law_6 : List (Nat × Instr × Nat) := [(700, .iload 6, 2), (702, .ifCond .ne 15, 3), (705, .aload_n 3, 1), (706, .iconst 0, 1), (707, .laload, 1), (708, .iload 7, 2), (710, .i2l, 1), (711, .lcmp, 1), (712, .ifCond .eq 5, 3), (715, .iconst 0, 1), (716, .ireturn, 1), (717, .goto 1553, 3), (720, .aload_n 1, 1), (721, .aload_n 0, 1), (722, .iload 5, 2), (724, .iconst 1, 1), (725, .iadd, 1), (726, .iaload, 1), (727, .aload_n 0, 1), (728, .iload 5, 2), (730, .iconst 2, 1), (731, .iadd, 1), (732, .iaload, 1), (733, .aload_n 3, 1), (734, .invokestatic 166, 3), (737, .istore 6, 2), (739, .aload_n 2, 1), (740, .aload_n 0, 1), (741, .iload 5, 2), (743, .iconst 1, 1), (744, .iadd, 1), (745, .iaload, 1), (746, .aload_n 0, 1), (747, .iload 5, 2), (749, .iconst 2, 1), (750, .iadd, 1), (751, .iaload, 1), (752, .invokevirtual 168, 3), (755, .istore 7, 2), (757, .aload_n 2, 1), (758, .invokevirtual 138, 3), (761, .iload 6, 2), (763, .if_icmp .eq 5, 3), (766, .iconst 0, 1), (767, .ireturn, 1), (768, .iload 6, 2), (770, .ifCond .ne 15, 3), (773, .aload_n 3, 1), (774, .iconst 0, 1), (775, .laload, 1), (776, .iload 7, 2), (778, .i2l, 1), (779, .lcmp, 1), (780, .ifCond .eq 5, 3), (783, .iconst 0, 1), (784, .ireturn, 1), (785, .goto 1485, 3), (788, .aload_n 1, 1), (789, .aload_n 0, 1), (790, .iload 5, 2)]
theorem dtL_law_6 : ∀ q ∈ dlL_law_6, decode cL_law q.1 = .ok q.2 := by decide +kernel
def dlL_law_7 : List (Nat × Instr × Nat) := [(792, .iconst 1, 1), (793, .iadd, 1), (794, .iaload, 1), (795, .aload_n 0, 1), (796, .iload 5, 2), (798, .iconst 2, 1), (799, .iadd, 1), (800, .iaload, 1), (801, .aload_n 0, 1), (802, .iload 5, 2), (804, .iconst 3, 1), (805, .iadd, 1), (806, .iaload, 1), (807, .ifCond .eq 7, 3), (810, .iconst 1, 1), (811, .goto 4, 3), (814, .iconst 0, 1), (815, .aload_n 3, 1), (816, .invokestatic 169, 3), (819, .istore 6, 2), (821, .aload_n 2, 1), (822, .aload_n 0, 1), (823, .iload 5, 2), (825, .iconst 1, 1), (826, .iadd, 1), (827, .iaload, 1), (828, .aload_n 0, 1), (829, .iload 5, 2), (831, .iconst 2, 1), (832, .iadd, 1), (833, .iaload, 1), (834, .aload_n 0, 1), (835, .iload 5, 2), (837, .iconst 3, 1), (838, .iadd, 1), (839, .iaload, 1), (840, .ifCond .eq 7, 3), (843, .iconst 1, 1), (844, .goto 4, 3), (847, .iconst 0, 1), (848, .invokevirtual 172, 3), (851, .istore 7, 2), (853, .aload_n 2, 1), (854, .invokevirtual 138, 3), (857, .iload 6, 2), (859, .if_icmp .eq 5, 3), (862, .iconst 0, 1), (863, .ireturn, 1), (864, .iload 6, 2), (866, .ifCond .ne 15, 3), (869, .aload_n 3, 1), (870, .iconst 0, 1), (871, .laload, 1), (872, .iload 7, 2), (874, .i2l, 1), (875, .lcmp, 1), (876, .ifCond .eq 5, 3), (879, .iconst 0, 1), (880, .ireturn, 1), (881, .goto 1389, 3)]
theorem dtL_law_7 : ∀ q ∈ dlL_law_7, decode cL_law q.1 = .ok q.2 := by decide +kernel
def dlL_law_8 : List (Nat × Instr × Nat) := [(884, .aload_n 1, 1), (885, .aload_n 0, 1), (886, .iload 5, 2), (888, .iconst 1, 1), (889, .iadd, 1), (890, .iaload, 1), (891, .aload_n 0, 1), (892, .iload 5, 2), (894, .iconst 2, 1), (895, .iadd, 1), (896, .iaload, 1), (897, .aload_n 3, 1), (898, .invokestatic 173, 3), (901, .istore 6, 2), (903, .aload_n 2, 1), (904, .aload_n 0, 1), (905, .iload 5, 2), (907, .iconst 1, 1), (908, .iadd, 1), (909, .iaload, 1), (910, .aload_n 0, 1), (911, .iload 5, 2), (913, .iconst 2, 1), (914, .iadd, 1), (915, .iaload, 1), (916, .invokevirtual 175, 3), (919, .istore 7, 2), (921, .aload_n 2, 1), (922, .invokevirtual 138, 3), (925, .iload 6, 2), (927, .if_icmp .eq 5, 3), (930, .iconst 0, 1), (931, .ireturn, 1), (932, .iload 6, 2), (934, .ifCond .ne 15, 3), (937, .aload_n 3, 1), (938, .iconst 0, 1), (939, .laload, 1), (940, .iload 7, 2), (942, .i2l, 1), (943, .lcmp, 1), (944, .ifCond .eq 5, 3), (947, .iconst 0, 1), (948, .ireturn, 1), (949, .goto 1321, 3), (952, .aload_n 1, 1), (953, .aload_n 0, 1), (954, .iload 5, 2), (956, .iconst 1, 1), (957, .iadd, 1), (958, .iaload, 1), (959, .aload_n 0, 1), (960, .iload 5, 2), (962, .iconst 2, 1), (963, .iadd, 1), (964, .iaload, 1), (965, .aload_n 3, 1), (966, .invokestatic 176, 3), (969, .istore 6, 2), (971, .aload_n 2, 1)]
theorem dtL_law_8 : ∀ q ∈ dlL_law_8, decode cL_law q.1 = .ok q.2 := by decide +kernel
def dlL_law_9 : List (Nat × Instr × Nat) := [(972, .aload_n 0, 1), (973, .iload 5, 2), (975, .iconst 1, 1), (976, .iadd, 1), (977, .iaload, 1), (978, .aload_n 0, 1), (979, .iload 5, 2), (981, .iconst 2, 1), (982, .iadd, 1), (983, .iaload, 1), (984, .invokevirtual 178, 3), (987, .istore 7, 2), (989, .aload_n 2, 1), (990, .invokevirtual 138, 3), (993, .iload 6, 2), (995, .if_icmp .eq 5, 3), (998, .iconst 0, 1), (999, .ireturn, 1), (1000, .iload 6, 2), (1002, .ifCond .ne 15, 3), (1005, .aload_n 3, 1), (1006, .iconst 0, 1), (1007, .laload, 1), (1008, .iload 7, 2), (1010, .i2l, 1), (1011, .lcmp, 1), (1012, .ifCond .eq 5, 3), (1015, .iconst 0, 1), (1016, .ireturn, 1), (1017, .goto 1253, 3), (1020, .aload_n 1, 1), (1021, .invokevirtual 179, 3), (1024, .aload_n 2, 1), (1025, .invokevirtual 182, 3), (1028, .if_icmp .eq 1242, 3), (1031, .iconst 0, 1), (1032, .ireturn, 1), (1033, .aload_n 1, 1), (1034, .aload_n 0, 1), (1035, .iload 5, 2), (1037, .iconst 1, 1), (1038, .iadd, 1), (1039, .iaload, 1), (1040, .aload_n 3, 1), (1041, .invokestatic 183, 3), (1044, .istore 6, 2), (1046, .aload_n 2, 1), (1047, .aload_n 0, 1), (1048, .iload 5, 2), (1050, .iconst 1, 1), (1051, .iadd, 1), (1052, .iaload, 1), (1053, .invokevirtual 185, 3), (1056, .istore 7, 2), (1058, .aload_n 2, 1), (1059, .invokevirtual 138, 3), (1062, .iload 6, 2), (1064, .if_icmp .eq 5, 3), (1067, .iconst 0, 1), (1068, .ireturn, 1)]
theorem dtL_law_9 : ∀ q ∈ dlL_law_9, decode cL_law q.1 = .ok q.2 := by decide +kernel
def dlL_law_10 : List (Nat × Instr × Nat) := [(1069, .iload 6, 2), (1071, .ifCond .ne 22, 3), (1074, .aload_n 3, 1), (1075, .iconst 0, 1), (1076, .laload, 1), (1077, .iload 7, 2), (1079, .ifCond .eq 7, 3), (1082, .lconst 1, 1), (1083, .goto 4, 3), (1086, .lconst 0, 1), (1087, .lcmp, 1), (1088, .ifCond .eq 5, 3), (1091, .iconst 0, 1), (1092, .ireturn, 1), (1093, .goto 1177, 3), (1096, .aload_n 1, 1), (1097, .aload_n 0, 1), (1098, .iload 5, 2), (1100, .iconst 1, 1), (1101, .iadd, 1), (1102, .iaload, 1), (1103, .aload_n 3, 1), (1104, .invokestatic 186, 3), (1107, .istore 6, 2), (1109, .aload_n 2, 1), (1110, .aload_n 0, 1), (1111, .iload 5, 2), (1113, .iconst 1, 1), (1114, .iadd, 1), (1115, .iaload, 1), (1116, .invokevirtual 188, 3), (1119, .istore 7, 2), (1121, .aload_n 2, 1), (1122, .invokevirtual 138, 3), (1125, .iload 6, 2), (1127, .if_icmp .eq 5, 3), (1130, .iconst 0, 1), (1131, .ireturn, 1), (1132, .iload 6, 2), (1134, .ifCond .ne 15, 3), (1137, .aload_n 3, 1), (1138, .iconst 0, 1), (1139, .laload, 1), (1140, .iload 7, 2), (1142, .i2l, 1), (1143, .lcmp, 1), (1144, .ifCond .eq 5, 3), (1147, .iconst 0, 1), (1148, .ireturn, 1), (1149, .goto 1121, 3), (1152, .aload_n 1, 1), (1153, .invokevirtual 189, 3), (1156, .aload_n 2, 1), (1157, .invokevirtual 192, 3), (1160, .if_icmp .eq 1110, 3), (1163, .iconst 0, 1), (1164, .ireturn, 1), (1165, .aload_n 1, 1), (1166, .aload_n 0, 1), (1167, .iload 5, 2)]
theorem dtL_law_10 : ∀ q ∈ dlL_law_10, decode cL_law q.1 = .ok q.2 := by decide +kernel
def dlL_law_11 : List (Nat × Instr × Nat) := [(1169, .iconst 1, 1), (1170, .iadd, 1), (1171, .iaload, 1), (1172, .aload_n 0, 1), (1173, .iload 5, 2), (1175, .iconst 2, 1), (1176, .iadd, 1), (1177, .iaload, 1), (1178, .aload_n 3, 1), (1179, .invokestatic 193, 3), (1182, .istore 6, 2), (1184, .aload_n 2, 1), (1185, .aload_n 0, 1), (1186, .iload 5, 2), (1188, .iconst 1, 1), (1189, .iadd, 1), (1190, .iaload, 1), (1191, .aload_n 0, 1), (1192, .iload 5, 2), (1194, .iconst 2, 1), (1195, .iadd, 1), (1196, .iaload, 1), (1197, .invokevirtual 195, 3), (1200, .istore 7, 2), (1202, .aload_n 2, 1), (1203, .invokevirtual 138, 3), (1206, .iload 6, 2), (1208, .if_icmp .eq 5, 3), (1211, .iconst 0, 1), (1212, .ireturn, 1), (1213, .iload 6, 2), (1215, .ifCond .ne 15, 3), (1218, .aload_n 3, 1), (1219, .iconst 0, 1), (1220, .laload, 1), (1221, .iload 7, 2), (1223, .i2l, 1), (1224, .lcmp, 1), (1225, .ifCond .eq 5, 3), (1228, .iconst 0, 1), (1229, .ireturn, 1), (1230, .goto 1040, 3), (1233, .aload_n 1, 1), (1234, .aload_n 0, 1), (1235, .iload 5, 2), (1237, .iconst 1, 1), (1238, .iadd, 1), (1239, .iaload, 1), (1240, .aload_n 0, 1), (1241, .iload 5, 2), (1243, .iconst 2, 1), (1244, .iadd, 1), (1245, .iaload, 1), (1246, .aload_n 3, 1), (1247, .invokestatic 196, 3), (1250, .istore 6, 2), (1252, .aload_n 2, 1), (1253, .aload_n 0, 1), (1254, .iload 5, 2), (1256, .iconst 1, 1)]
theorem dtL_law_11 : ∀ q ∈ dlL_law_11, decode cL_law q.1 = .ok q.2 := by decide +kernel
def dlL_law_12 : List (Nat × Instr × Nat) := [(1257, .iadd, 1), (1258, .iaload, 1), (1259, .aload_n 0, 1), (1260, .iload 5, 2), (1262, .iconst 2, 1), (1263, .iadd, 1), (1264, .iaload, 1), (1265, .invokevirtual 198, 3), (1268, .istore 7, 2), (1270, .aload_n 2, 1), (1271, .invokevirtual 138, 3), (1274, .iload 6, 2), (1276, .if_icmp .eq 5, 3), (1279, .iconst 0, 1), (1280, .ireturn, 1), (1281, .iload 6, 2), (1283, .ifCond .ne 15, 3), (1286, .aload_n 3, 1), (1287, .iconst 0, 1), (1288, .laload, 1), (1289, .iload 7, 2), (1291, .i2l, 1), (1292, .lcmp, 1), (1293, .ifCond .eq 5, 3), (1296, .iconst 0, 1), (1297, .ireturn, 1), (1298, .goto 972, 3), (1301, .aload_n 1, 1), (1302, .aload_n 3, 1), (1303, .invokestatic 199, 3), (1306, .istore 6, 2), (1308, .aload_n 2, 1), (1309, .invokevirtual 201, 3), (1312, .lstore 7, 2), (1314, .aload_n 2, 1), (1315, .invokevirtual 138, 3), (1318, .iload 6, 2), (1320, .if_icmp .eq 5, 3), (1323, .iconst 0, 1), (1324, .ireturn, 1), (1325, .iload 6, 2), (1327, .ifCond .ne 14, 3), (1330, .aload_n 3, 1), (1331, .iconst 0, 1), (1332, .laload, 1), (1333, .lload 7, 2), (1335, .lcmp, 1), (1336, .ifCond .eq 5, 3), (1339, .iconst 0, 1), (1340, .ireturn, 1), (1341, .goto 929, 3), (1344, .aload_n 1, 1), (1345, .aload 4, 2), (1347, .invokestatic 202, 3), (1350, .istore 6, 2), (1352, .aload_n 2, 1), (1353, .invokevirtual 205, 3), (1356, .fstore 7, 2), (1358, .aload_n 2, 1), (1359, .invokevirtual 138, 3)]
theorem dtL_law_12 : ∀ q ∈ dlL_law_12, decode cL_law q.1 = .ok q.2 := by decide +kernel
def dlL_law_13 : List (Nat × Instr × Nat) := [(1362, .iload 6, 2), (1364, .if_icmp .eq 5, 3), (1367, .iconst 0, 1), (1368, .ireturn, 1), (1369, .iload 6, 2), (1371, .ifCond .ne 36, 3), (1374, .aload 4, 2), (1376, .iconst 0, 1), (1377, .daload, 1), (1378, .fload 7, 2), (1380, .f2d, 1), (1381, .dcmp .l, 1), (1382, .ifCond .eq 25, 3), (1385, .aload 4, 2), (1387, .iconst 0, 1), (1388, .daload, 1), (1389, .aload 4, 2), (1391, .iconst 0, 1), (1392, .daload, 1), (1393, .dcmp .l, 1), (1394, .ifCond .eq 11, 3), (1397, .fload 7, 2), (1399, .fload 7, 2), (1401, .fcmp .l, 1), (1402, .ifCond .ne 5, 3), (1405, .iconst 0, 1), (1406, .ireturn, 1), (1407, .goto 863, 3), (1410, .aload_n 1, 1), (1411, .aload 4, 2), (1413, .invokestatic 206, 3), (1416, .istore 6, 2), (1418, .aload_n 2, 1), (1419, .invokevirtual 208, 3), (1422, .dstore 7, 2), (1424, .aload_n 2, 1), (1425, .invokevirtual 138, 3), (1428, .iload 6, 2), (1430, .if_icmp .eq 5, 3), (1433, .iconst 0, 1), (1434, .ireturn, 1), (1435, .iload 6, 2), (1437, .ifCond .ne 35, 3), (1440, .aload 4, 2), (1442, .iconst 0, 1), (1443, .daload, 1), (1444, .dload 7, 2), (1446, .dcmp .l, 1), (1447, .ifCond .eq 25, 3), (1450, .aload 4, 2), (1452, .iconst 0, 1), (1453, .daload, 1), (1454, .aload 4, 2), (1456, .iconst 0, 1), (1457, .daload, 1), (1458, .dcmp .l, 1), (1459, .ifCond .eq 11, 3), (1462, .dload 7, 2), (1464, .dload 7, 2), (1466, .dcmp .l, 1)]
theorem dtL_law_13 : ∀ q ∈ dlL_law_13, decode cL_law q.1 = .ok q.2 := by decide +kernel
def dlL_law_14 : List (Nat × Instr × Nat) := [(1467, .ifCond .ne 5, 3), (1470, .iconst 0, 1), (1471, .ireturn, 1), (1472, .goto 798, 3), (1475, .aload_n 1, 1), (1476, .aload_n 3, 1), (1477, .invokestatic 209, 3), (1480, .istore 6, 2), (1482, .aload_n 2, 1), (1483, .invokevirtual 211, 3), (1486, .istore 7, 2), (1488, .aload_n 2, 1), (1489, .invokevirtual 138, 3), (1492, .iload 6, 2), (1494, .if_icmp .eq 5, 3), (1497, .iconst 0, 1), (1498, .ireturn, 1), (1499, .iload 6, 2), (1501, .ifCond .ne 15, 3), (1504, .aload_n 3, 1), (1505, .iconst 0, 1), (1506, .laload, 1), (1507, .iload 7, 2), (1509, .i2l, 1), (1510, .lcmp, 1), (1511, .ifCond .eq 5, 3), (1514, .iconst 0, 1), (1515, .ireturn, 1), (1516, .goto 754, 3), (1519, .aload_n 1, 1), (1520, .aload_n 0, 1), (1521, .iload 5, 2), (1523, .iconst 1, 1), (1524, .iadd, 1), (1525, .iaload, 1), (1526, .aload_n 3, 1), (1527, .invokestatic 212, 3), (1530, .istore 6, 2), (1532, .aload_n 2, 1), (1533, .aload_n 0, 1), (1534, .iload 5, 2), (1536, .iconst 1, 1), (1537, .iadd, 1), (1538, .iaload, 1), (1539, .invokevirtual 214, 3), (1542, .istore 7, 2), (1544, .aload_n 2, 1), (1545, .invokevirtual 138, 3), (1548, .iload 6, 2), (1550, .if_icmp .eq 5, 3), (1553, .iconst 0, 1), (1554, .ireturn, 1), (1555, .iload 6, 2), (1557, .ifCond .ne 15, 3), (1560, .aload_n 3, 1), (1561, .iconst 0, 1), (1562, .laload, 1), (1563, .iload 7, 2), (1565, .i2l, 1), (1566, .lcmp, 1)]
theorem dtL_law_14 : ∀ q ∈ dlL_law_14, decode cL_law q.1 = .ok q.2 := by decide +kernel
def dlL_law_15 : List (Nat × Instr × Nat) := [(1567, .ifCond .eq 5, 3), (1570, .iconst 0, 1), (1571, .ireturn, 1), (1572, .goto 698, 3), (1575, .aload_n 1, 1), (1576, .aload_n 0, 1), (1577, .iload 5, 2), (1579, .iconst 1, 1), (1580, .iadd, 1), (1581, .iaload, 1), (1582, .aload_n 0, 1), (1583, .iload 5, 2), (1585, .iconst 2, 1), (1586, .iadd, 1), (1587, .iaload, 1), (1588, .aload_n 0, 1), (1589, .iload 5, 2), (1591, .iconst 3, 1), (1592, .iadd, 1), (1593, .iaload, 1), (1594, .aload_n 3, 1), (1595, .invokestatic 215, 3), (1598, .istore 6, 2), (1600, .aload_n 2, 1), (1601, .aload_n 0, 1), (1602, .iload 5, 2), (1604, .iconst 1, 1), (1605, .iadd, 1), (1606, .iaload, 1), (1607, .aload_n 0, 1), (1608, .iload 5, 2), (1610, .iconst 2, 1), (1611, .iadd, 1), (1612, .iaload, 1), (1613, .aload_n 0, 1), (1614, .iload 5, 2), (1616, .iconst 3, 1), (1617, .iadd, 1), (1618, .iaload, 1), (1619, .invokevirtual 218, 3), (1622, .istore 7, 2), (1624, .aload_n 2, 1), (1625, .invokevirtual 138, 3), (1628, .iload 6, 2), (1630, .if_icmp .eq 5, 3), (1633, .iconst 0, 1), (1634, .ireturn, 1), (1635, .iload 6, 2), (1637, .ifCond .ne 22, 3), (1640, .aload_n 3, 1), (1641, .iconst 0, 1), (1642, .laload, 1), (1643, .iload 7, 2), (1645, .ifCond .eq 7, 3), (1648, .lconst 1, 1), (1649, .goto 4, 3), (1652, .lconst 0, 1), (1653, .lcmp, 1), (1654, .ifCond .eq 5, 3), (1657, .iconst 0, 1)]
theorem dtL_law_15 : ∀ q ∈ dlL_law_15, decode cL_law q.1 = .ok q.2 := by decide +kernel
def dlL_law_16 : List (Nat × Instr × Nat) := [(1658, .ireturn, 1), (1659, .goto 611, 3), (1662, .aload_n 1, 1), (1663, .aload_n 0, 1), (1664, .iload 5, 2), (1666, .iconst 1, 1), (1667, .iadd, 1), (1668, .iaload, 1), (1669, .aload_n 0, 1), (1670, .iload 5, 2), (1672, .iconst 2, 1), (1673, .iadd, 1), (1674, .iaload, 1), (1675, .aload_n 0, 1), (1676, .iload 5, 2), (1678, .iconst 3, 1), (1679, .iadd, 1), (1680, .iaload, 1), (1681, .aload_n 3, 1), (1682, .invokestatic 219, 3), (1685, .istore 6, 2), (1687, .aload_n 2, 1), (1688, .aload_n 0, 1), (1689, .iload 5, 2), (1691, .iconst 1, 1), (1692, .iadd, 1), (1693, .iaload, 1), (1694, .aload_n 0, 1), (1695, .iload 5, 2), (1697, .iconst 2, 1), (1698, .iadd, 1), (1699, .iaload, 1), (1700, .aload_n 0, 1), (1701, .iload 5, 2), (1703, .iconst 3, 1), (1704, .iadd, 1), (1705, .iaload, 1), (1706, .invokevirtual 221, 3), (1709, .istore 7, 2), (1711, .aload_n 2, 1), (1712, .invokevirtual 138, 3), (1715, .iload 6, 2), (1717, .if_icmp .eq 5, 3), (1720, .iconst 0, 1), (1721, .ireturn, 1), (1722, .iload 6, 2), (1724, .ifCond .ne 15, 3), (1727, .aload_n 3, 1), (1728, .iconst 0, 1), (1729, .laload, 1), (1730, .iload 7, 2), (1732, .i2l, 1), (1733, .lcmp, 1), (1734, .ifCond .eq 5, 3), (1737, .iconst 0, 1), (1738, .ireturn, 1), (1739, .goto 531, 3), (1742, .aload_n 1, 1), (1743, .aload_n 0, 1), (1744, .iload 5, 2)]
theorem dtL_law_16 : ∀ q ∈ dlL_law_16, decode cL_law q.1 = .ok q.2 := by decide +kernel
def dlL_law_17 : List (Nat × Instr × Nat) := [(1746, .iconst 1, 1), (1747, .iadd, 1), (1748, .iaload, 1), (1749, .aload_n 0, 1), (1750, .iload 5, 2), (1752, .iconst 2, 1), (1753, .iadd, 1), (1754, .iaload, 1), (1755, .aload_n 3, 1), (1756, .invokestatic 222, 3), (1759, .istore 6, 2), (1761, .aload_n 2, 1), (1762, .aload_n 0, 1), (1763, .iload 5, 2), (1765, .iconst 1, 1), (1766, .iadd, 1), (1767, .iaload, 1), (1768, .aload_n 0, 1), (1769, .iload 5, 2), (1771, .iconst 2, 1), (1772, .iadd, 1), (1773, .iaload, 1), (1774, .invokevirtual 224, 3), (1777, .istore 7, 2), (1779, .aload_n 2, 1), (1780, .invokevirtual 138, 3), (1783, .iload 6, 2), (1785, .if_icmp .eq 5, 3), (1788, .iconst 0, 1), (1789, .ireturn, 1), (1790, .iload 6, 2), (1792, .ifCond .ne 15, 3), (1795, .aload_n 3, 1), (1796, .iconst 0, 1), (1797, .laload, 1), (1798, .iload 7, 2), (1800, .i2l, 1), (1801, .lcmp, 1), (1802, .ifCond .eq 5, 3), (1805, .iconst 0, 1), (1806, .ireturn, 1), (1807, .goto 463, 3), (1810, .aload_n 1, 1), (1811, .aload_n 0, 1), (1812, .iload 5, 2), (1814, .iconst 1, 1), (1815, .iadd, 1), (1816, .iaload, 1), (1817, .aload_n 0, 1), (1818, .iload 5, 2), (1820, .iconst 2, 1), (1821, .iadd, 1), (1822, .iaload, 1), (1823, .aload_n 3, 1), (1824, .invokestatic 225, 3), (1827, .istore 6, 2), (1829, .aload_n 2, 1), (1830, .aload_n 0, 1), (1831, .iload 5, 2), (1833, .iconst 1, 1)]
theorem dtL_law_17 : ∀ q ∈ dlL_law_17, decode cL_law q.1 = .ok q.2 := by decide +kernel
def dlL_law_18 : List (Nat × Instr × Nat) := [(1834, .iadd, 1), (1835, .iaload, 1), (1836, .aload_n 0, 1), (1837, .iload 5, 2), (1839, .iconst 2, 1), (1840, .iadd, 1), (1841, .iaload, 1), (1842, .invokevirtual 227, 3), (1845, .istore 7, 2), (1847, .aload_n 2, 1), (1848, .invokevirtual 138, 3), (1851, .iload 6, 2), (1853, .if_icmp .eq 5, 3), (1856, .iconst 0, 1), (1857, .ireturn, 1), (1858, .iload 6, 2), (1860, .ifCond .ne 15, 3), (1863, .aload_n 3, 1), (1864, .iconst 0, 1), (1865, .laload, 1), (1866, .iload 7, 2), (1868, .i2l, 1), (1869, .lcmp, 1), (1870, .ifCond .eq 5, 3), (1873, .iconst 0, 1), (1874, .ireturn, 1), (1875, .goto 395, 3), (1878, .aload_n 1, 1), (1879, .aload_n 0, 1), (1880, .iload 5, 2), (1882, .iconst 1, 1), (1883, .iadd, 1), (1884, .iaload, 1), (1885, .aload_n 3, 1), (1886, .invokestatic 228, 3), (1889, .istore 6, 2), (1891, .aload_n 2, 1), (1892, .aload_n 0, 1), (1893, .iload 5, 2), (1895, .iconst 1, 1), (1896, .iadd, 1), (1897, .iaload, 1), (1898, .invokevirtual 230, 3), (1901, .istore 7, 2), (1903, .aload_n 2, 1), (1904, .invokevirtual 138, 3), (1907, .iload 6, 2), (1909, .if_icmp .eq 5, 3), (1912, .iconst 0, 1), (1913, .ireturn, 1), (1914, .iload 6, 2), (1916, .ifCond .ne 15, 3), (1919, .aload_n 3, 1), (1920, .iconst 0, 1), (1921, .laload, 1), (1922, .iload 7, 2), (1924, .i2l, 1), (1925, .lcmp, 1), (1926, .ifCond .eq 5, 3), (1929, .iconst 0, 1)]
theorem dtL_law_18 : ∀ q ∈ dlL_law_18, decode cL_law q.1 = .ok q.2 := by decide +kernel
def dlL_law_19 : List (Nat × Instr × Nat) := [(1930, .ireturn, 1), (1931, .goto 339, 3), (1934, .aload_n 1, 1), (1935, .aload_n 0, 1), (1936, .iload 5, 2), (1938, .iconst 1, 1), (1939, .iadd, 1), (1940, .iaload, 1), (1941, .aload_n 0, 1), (1942, .iload 5, 2), (1944, .iconst 2, 1), (1945, .iadd, 1), (1946, .iaload, 1), (1947, .aload_n 0, 1), (1948, .iload 5, 2), (1950, .iconst 3, 1), (1951, .iadd, 1), (1952, .iaload, 1), (1953, .aload_n 3, 1), (1954, .invokestatic 231, 3), (1957, .istore 6, 2), (1959, .aload_n 2, 1), (1960, .aload_n 0, 1), (1961, .iload 5, 2), (1963, .iconst 1, 1), (1964, .iadd, 1), (1965, .iaload, 1), (1966, .aload_n 0, 1), (1967, .iload 5, 2), (1969, .iconst 2, 1), (1970, .iadd, 1), (1971, .iaload, 1), (1972, .aload_n 0, 1), (1973, .iload 5, 2), (1975, .iconst 3, 1), (1976, .iadd, 1), (1977, .iaload, 1), (1978, .invokevirtual 233, 3), (1981, .istore 7, 2), (1983, .aload_n 2, 1), (1984, .invokevirtual 138, 3), (1987, .iload 6, 2), (1989, .if_icmp .eq 5, 3), (1992, .iconst 0, 1), (1993, .ireturn, 1), (1994, .iload 6, 2), (1996, .ifCond .ne 22, 3), (1999, .aload_n 3, 1), (2000, .iconst 0, 1), (2001, .laload, 1), (2002, .iload 7, 2), (2004, .ifCond .eq 7, 3), (2007, .lconst 1, 1), (2008, .goto 4, 3), (2011, .lconst 0, 1), (2012, .lcmp, 1), (2013, .ifCond .eq 5, 3), (2016, .iconst 0, 1), (2017, .ireturn, 1), (2018, .goto 252, 3)]
theorem dtL_law_19 : ∀ q ∈ dlL_law_19, decode cL_law q.1 = .ok q.2 := by decide +kernel
def dlL_law_20 : List (Nat × Instr × Nat) := [(2021, .aload_n 1, 1), (2022, .aload_n 0, 1), (2023, .iload 5, 2), (2025, .iconst 1, 1), (2026, .iadd, 1), (2027, .iaload, 1), (2028, .aload_n 3, 1), (2029, .invokestatic 234, 3), (2032, .istore 6, 2), (2034, .aload_n 2, 1), (2035, .aload_n 0, 1), (2036, .iload 5, 2), (2038, .iconst 1, 1), (2039, .iadd, 1), (2040, .iaload, 1), (2041, .invokevirtual 236, 3), (2044, .istore 7, 2), (2046, .aload_n 2, 1), (2047, .invokevirtual 138, 3), (2050, .iload 6, 2), (2052, .if_icmp .eq 5, 3), (2055, .iconst 0, 1), (2056, .ireturn, 1), (2057, .iload 6, 2), (2059, .ifCond .ne 15, 3), (2062, .aload_n 3, 1), (2063, .iconst 0, 1), (2064, .laload, 1), (2065, .iload 7, 2), (2067, .i2l, 1), (2068, .lcmp, 1), (2069, .ifCond .eq 5, 3), (2072, .iconst 0, 1), (2073, .ireturn, 1), (2074, .goto 196, 3), (2077, .aload_n 1, 1), (2078, .aload_n 0, 1), (2079, .iload 5, 2), (2081, .iconst 1, 1), (2082, .iadd, 1), (2083, .iaload, 1), (2084, .aload_n 3, 1), (2085, .invokestatic 237, 3), (2088, .istore 6, 2), (2090, .aload_n 2, 1), (2091, .aload_n 0, 1), (2092, .iload 5, 2), (2094, .iconst 1, 1), (2095, .iadd, 1), (2096, .iaload, 1), (2097, .invokevirtual 239, 3), (2100, .istore 7, 2), (2102, .aload_n 2, 1), (2103, .invokevirtual 138, 3), (2106, .iload 6, 2), (2108, .if_icmp .eq 5, 3), (2111, .iconst 0, 1), (2112, .ireturn, 1), (2113, .iload 6, 2), (2115, .ifCond .ne 15, 3)]
theorem dtL_law_20 : ∀ q ∈ dlL_law_20, decode cL_law q.1 = .ok q.2 := by decide +kernel
def dlL_law_21 : List (Nat × Instr × Nat) := [(2118, .aload_n 3, 1), (2119, .iconst 0, 1), (2120, .laload, 1), (2121, .iload 7, 2), (2123, .i2l, 1), (2124, .lcmp, 1), (2125, .ifCond .eq 5, 3), (2128, .iconst 0, 1), (2129, .ireturn, 1), (2130, .goto 140, 3), (2133, .aload_n 1, 1), (2134, .aload_n 0, 1), (2135, .iload 5, 2), (2137, .iconst 1, 1), (2138, .iadd, 1), (2139, .iaload, 1), (2140, .aload_n 3, 1), (2141, .invokestatic 240, 3), (2144, .istore 6, 2), (2146, .aload_n 2, 1), (2147, .aload_n 0, 1), (2148, .iload 5, 2), (2150, .iconst 1, 1), (2151, .iadd, 1), (2152, .iaload, 1), (2153, .invokevirtual 242, 3), (2156, .istore 7, 2), (2158, .aload_n 2, 1), (2159, .invokevirtual 138, 3), (2162, .iload 6, 2), (2164, .if_icmp .eq 5, 3), (2167, .iconst 0, 1), (2168, .ireturn, 1), (2169, .iload 6, 2), (2171, .ifCond .ne 15, 3), (2174, .aload_n 3, 1), (2175, .iconst 0, 1), (2176, .laload, 1), (2177, .iload 7, 2), (2179, .i2l, 1), (2180, .lcmp, 1), (2181, .ifCond .eq 5, 3), (2184, .iconst 0, 1), (2185, .ireturn, 1), (2186, .goto 84, 3), (2189, .aload_n 1, 1), (2190, .aload_n 0, 1), (2191, .iload 5, 2), (2193, .iconst 1, 1), (2194, .iadd, 1), (2195, .iaload, 1), (2196, .aload_n 0, 1), (2197, .iload 5, 2), (2199, .iconst 2, 1), (2200, .iadd, 1), (2201, .iaload, 1), (2202, .aload_n 3, 1), (2203, .invokestatic 243, 3), (2206, .istore 6, 2), (2208, .aload_n 2, 1)]
theorem dtL_law_21 : ∀ q ∈ dlL_law_21, decode cL_law q.1 = .ok q.2 := by decide +kernel
def dlL_law_22 : List (Nat × Instr × Nat) := [(2209, .aload_n 0, 1), (2210, .iload 5, 2), (2212, .iconst 1, 1), (2213, .iadd, 1), (2214, .iaload, 1), (2215, .aload_n 0, 1), (2216, .iload 5, 2), (2218, .iconst 2, 1), (2219, .iadd, 1), (2220, .iaload, 1), (2221, .invokevirtual 245, 3), (2224, .istore 7, 2), (2226, .aload_n 2, 1), (2227, .invokevirtual 138, 3), (2230, .iload 6, 2), (2232, .if_icmp .eq 5, 3), (2235, .iconst 0, 1), (2236, .ireturn, 1), (2237, .iload 6, 2), (2239, .ifCond .ne 15, 3), (2242, .aload_n 3, 1), (2243, .iconst 0, 1), (2244, .laload, 1), (2245, .iload 7, 2), (2247, .i2l, 1), (2248, .lcmp, 1), (2249, .ifCond .eq 5, 3), (2252, .iconst 0, 1), (2253, .ireturn, 1), (2254, .goto 16, 3), (2257, .aload_n 1, 1), (2258, .invokevirtual 246, 3), (2261, .aload_n 2, 1), (2262, .invokevirtual 250, 3), (2265, .if_icmp .eq 5, 3), (2268, .iconst 0, 1), (2269, .ireturn, 1), (2270, .iinc 5 5, 3), (2273, .goto (-2245), 3), (2276, .iconst 1, 1), (2277, .ireturn, 1)]
theorem dtL_law_22 : ∀ q ∈ dlL_law_22, decode cL_law q.1 = .ok q.2 := by decide +kernel
end
section
theorem dt {c : ByteArray} {l : List (Nat × Instr × Nat)} (h : ∀ q ∈ l, decode c q.1 = .ok q.2) (i : Nat) {pc : Nat} {ins : Instr} {len : Nat} (e : l[i]? = some (pc, ins, len)) : decode c pc = .ok (ins, len) := by
  have h1 := h (pc, ins, len) (List.mem_of_getElem? e)
  exact h1
/-! the world: every cell of the class's and the reference's own state, the law's two answer arrays, and the tables told so far -/
abbrev wM : Type := Nat → Nat → Int32
abbrev wR : Type := Int64 × UInt64 × (Nat → Nat)
abbrev wS : Type := wM × wM × wR
abbrev wB : Type := Nat × (Nat → Nat) × (Nat → ClassId) × (Nat → Nat → Nat) × (Nat → ClassId) × (Nat → Nat)
def wad (B : wB) : Nat → Nat := B.2.1
def wdG (B : wB) : va_G := (B.2.2.1, B.2.2.2.1)
def wdA (B : wB) : Nat → ClassId := B.2.2.2.2.1
def wsa (B : wB) : Nat → Nat := B.2.2.2.2.2
def wA (B : wB) : Nat → Prop := fun q => B.1 ≤ q
def updM (X : wM) (k : Nat) (g : Nat → Int32) : wM := fun j => if j = k then g else X j
theorem updM_self (X : wM) (k : Nat) (g : Nat → Int32) : updM X k g k = g := if_pos rfl
theorem updM_ne (X : wM) {k j : Nat} (g : Nat → Int32) (h : j ≠ k) : updM X k g j = X j := if_neg h
/-- how many tables there are -/
def wT (X : wM) : Nat := (X 0 7).toNatClampNeg
def wTf (X : wM) (td : Nat → Nat) : Nat → Option Nat := fun i => if i < wT X then some (td (4 * i)) else none
def wo1 (o : Int64) : Nat → Int64 := fun j => if j = 0 then o else 0
def wo2 (o : UInt64) : Nat → UInt64 := fun j => if j = 0 then o else 0
theorem wo1_set (o v : Int64) : vp_updL (wo1 o) 0 v = wo1 v := by
  funext j
  unfold vp_updL wo1
  split <;> rfl
theorem wo2_set (o v : UInt64) : vf_upd (wo2 o) 0 v = wo2 v := by
  funext j
  unfold vf_upd wo2
  split <;> rfl
def wty (B : wB) : List (ClassId × FieldType) := [(wdA B 0, .int), (wdA B 1, .boolean), (wdA B 2, .char), (wdA B 3, .object "CensusLoom$Table"), (wdA B 4, .byte), (wdA B 5, .long), (wdA B 6, .double)]
def wst (B : wB) (σ : wS) : va_W := [
  (wad B 0, .inr (9, [.ref (wad B 1), .ref (wad B 3), .ref (wad B 8), .ref (wad B 10), .ref (wad B 13), .ref (wad B 16), .ref (wad B 21), .int (σ.1 0 7)])),
  (wad B 1, .inr (6, [.ref (wad B 2), .int (σ.1 1 1), .int (σ.1 1 2)])),
  (wad B 2, .inl (wdA B 0, 20, .inl (σ.1 2))),
  (wad B 3, .inr (5, [.ref (wad B 1), .ref (wad B 4), .ref (wad B 5), .ref (wad B 6), .ref (wad B 7), .int (σ.1 3 5)])),
  (wad B 4, .inl (wdA B 1, 40, .inl (σ.1 4))),
  (wad B 5, .inl (wdA B 0, 40, .inl (σ.1 5))),
  (wad B 6, .inl (wdA B 0, 40, .inl (σ.1 6))),
  (wad B 7, .inl (wdA B 0, 40, .inl (σ.1 7))),
  (wad B 8, .inr (3, [.ref (wad B 3), .ref (wad B 9), .int (σ.1 8 2), .int (σ.1 8 3), .int (σ.1 8 4), .int (σ.1 8 5), .int (σ.1 8 6)])),
  (wad B 9, .inl (wdA B 2, 1600, .inl (σ.1 9))),
  (wad B 10, .inr (8, [.ref (wad B 3), .ref (wad B 8), .ref (wad B 11), .ref (wad B 12), .int (σ.1 10 4), .int (σ.1 10 5)])),
  (wad B 11, .inl (wdA B 1, 40, .inl (σ.1 11))),
  (wad B 12, .inl (wdA B 0, 24, .inl (σ.1 12))),
  (wad B 13, .inr (8, [.ref (wad B 3), .ref (wad B 8), .ref (wad B 14), .ref (wad B 15), .int (σ.1 13 4), .int (σ.1 13 5)])),
  (wad B 14, .inl (wdA B 1, 40, .inl (σ.1 14))),
  (wad B 15, .inl (wdA B 0, 24, .inl (σ.1 15))),
  (wad B 16, .inr (4, [.ref (wad B 3), .ref (wad B 8), .ref (wad B 10), .ref (wad B 17), .ref (wad B 18), .ref (wad B 19), .ref (wad B 20), .int (σ.1 16 7), .int (σ.1 16 8), .int (σ.1 16 9)])),
  (wad B 17, .inl (wdA B 0, 40, .inl (σ.1 17))),
  (wad B 18, .inl (wdA B 0, 400, .inl (σ.1 18))),
  (wad B 19, .inl (wdA B 0, 400, .inl (σ.1 19))),
  (wad B 20, .inl (wdA B 0, 400, .inl (σ.1 20))),
  (wad B 21, .inl (wdA B 3, 8, .inr (.inr (.inr (.inr (wTf σ.1 σ.2.2.2.2)))))),
  (wad B 22, .inr (10, [.ref (wad B 23), .ref (wad B 24), .ref (wad B 25), .ref (wad B 26), .ref (wad B 27), .ref (wad B 28), .ref (wad B 29), .ref (wad B 30), .ref (wad B 31), .ref (wad B 32), .ref (wad B 33), .ref (wad B 34), .ref (wad B 35), .ref (wad B 36), .int (σ.2.1 22 14), .int (σ.2.1 22 15), .int (σ.2.1 22 16), .int (σ.2.1 22 17), .int (σ.2.1 22 18), .int (σ.2.1 22 19), .int (σ.2.1 22 20), .int (σ.2.1 22 21), .int (σ.2.1 22 22), .int (σ.2.1 22 23), .int (σ.2.1 22 24), .int (σ.2.1 22 25)])),
  (wad B 23, .inl (wdA B 0, 20, .inl (σ.2.1 23))),
  (wad B 24, .inl (wdA B 0, 40, .inl (σ.2.1 24))),
  (wad B 25, .inl (wdA B 0, 40, .inl (σ.2.1 25))),
  (wad B 26, .inl (wdA B 0, 40, .inl (σ.2.1 26))),
  (wad B 27, .inl (wdA B 0, 40, .inl (σ.2.1 27))),
  (wad B 28, .inl (wdA B 0, 24, .inl (σ.2.1 28))),
  (wad B 29, .inl (wdA B 2, 40, .inl (σ.2.1 29))),
  (wad B 30, .inl (wdA B 2, 1600, .inl (σ.2.1 30))),
  (wad B 31, .inl (wdA B 1, 40, .inl (σ.2.1 31))),
  (wad B 32, .inl (wdA B 1, 8, .inl (σ.2.1 32))),
  (wad B 33, .inl (wdA B 1, 192, .inl (σ.2.1 33))),
  (wad B 34, .inl (wdA B 1, 10, .inl (σ.2.1 34))),
  (wad B 35, .inl (wdA B 0, 192, .inl (σ.2.1 35))),
  (wad B 36, .inl (wdA B 0, 8, .inl (σ.2.1 36))),
  (wad B 37, .inl (wdA B 5, 1, .inr (.inl (wo1 σ.2.2.1)))),
  (wad B 38, .inl (wdA B 6, 1, .inr (.inr (.inr (.inl (wo2 σ.2.2.2.1))))))]
/-- the cells of table j / 4: the object, its counts, its line, the line's bytes -/
def wtc (B : wB) (X : wM) (td : Nat → Nat) (j : Nat) : Nat → va_E := fun c => match c with
  | 0 => .inr (7, [.int (X (39 + j) 0), .ref (td (j + 1)), .int (X (39 + j) 2), .ref (td (j + 2)), .int (X (39 + j) 4)])
  | 1 => .inl (wdA B 0, 24, .inl (X (39 + j)))
  | 2 => .inr (0, [.ref (td (j + 1)), .int (X (39 + j) 1), .int (X (39 + j) 2), .int (X (39 + j) 3)])
  | _ => .inl (wdA B 4, (X (39 + j) 1000).toNatClampNeg, .inl (X (39 + j)))
def wtb (B : wB) (σ : wS) (j : Nat) : Nat × va_E := (σ.2.2.2.2 j, wtc B σ.1 σ.2.2.2.2 j (j % 4))
def wl (B : wB) (σ : wS) : va_W := wst B σ ++ (List.range (4 * wT σ.1)).map (wtb B σ)
theorem wst_len (B : wB) (σ : wS) : (wst B σ).length = 39 := rfl
theorem wl_st {B : wB} {σ : wS} {k : Nat} {q : Nat × va_E} (h : (wst B σ)[k]? = some q) : (wl B σ)[k]? = some q := by
  have hl := (List.getElem?_eq_some_iff.mp h).1
  rw [wl, List.getElem?_append_left hl]
  exact h
theorem wl_tb (B : wB) (σ : wS) {j : Nat} (h : j < 4 * wT σ.1) : (wl B σ)[39 + j]? = some (wtb B σ j) := by
  rw [wl, List.getElem?_append_right (by rw [wst_len]; omega), wst_len, show 39 + j - 39 = j by omega, List.getElem?_map, List.getElem?_range h]
  rfl
theorem wtc_upd (B : wB) (X : wM) (td : Nat → Nat) (j : Nat) {k : Nat} (g : Nat → Int32) (h : 39 + j ≠ k) (c : Nat) : wtc B (updM X k g) td j c = wtc B X td j c := by
  unfold wtc
  rw [updM_ne X g h]
theorem wl_set_st {B : wB} {σ σ' : wS} {k : Nat} {q : Nat × va_E} (hk : k < 39) (hT : wT σ'.1 = wT σ.1) (hd : σ'.2.2.2.2 = σ.2.2.2.2) (hX : ∀ j, σ'.1 (39 + j) = σ.1 (39 + j)) (h : (wst B σ).set k q = wst B σ') : (wl B σ).set k q = wl B σ' := by
  rw [wl, List.set_append_left _ _ (by rw [wst_len]; exact hk), h, wl, hT]
  congr 1
  refine List.map_congr_left (fun j _ => ?_)
  unfold wtb wtc
  rw [hd, hX]
/-- the table cells are set -/
theorem wl_set_tb {B : wB} {X : wM} {r : wM × wR} {j : Nat} {g : Nat → Int32} {q : Nat × va_E} (hj : j < 4 * wT X) (hq : q = wtb B (updM X (39 + j) g, r) j) : (wl B (X, r)).set (39 + j) q = wl B (updM X (39 + j) g, r) := by
  have e0 : ∀ k, k < 39 → updM X (39 + j) g k = X k := fun k hk => updM_ne X g (by omega)
  have hT : wT (updM X (39 + j) g) = wT X := by unfold wT; rw [e0 0 (by omega)]
  have h1 : wst B (updM X (39 + j) g, r) = wst B (X, r) := by
    unfold wst wTf
    simp only [hT]
    rw [e0 0 (by omega), e0 1 (by omega), e0 2 (by omega), e0 3 (by omega), e0 4 (by omega), e0 5 (by omega), e0 6 (by omega), e0 7 (by omega), e0 8 (by omega), e0 9 (by omega), e0 10 (by omega), e0 11 (by omega), e0 12 (by omega), e0 13 (by omega), e0 14 (by omega), e0 15 (by omega), e0 16 (by omega), e0 17 (by omega), e0 18 (by omega), e0 19 (by omega), e0 20 (by omega)]
  apply List.ext_getElem?
  intro i
  by_cases hi : i < 39
  · rw [List.getElem?_set_ne (by omega), wl, wl, List.getElem?_append_left (by rw [wst_len]; exact hi), List.getElem?_append_left (by rw [wst_len]; exact hi), h1]
  · obtain ⟨a, rfl⟩ : ∃ a, i = 39 + a := ⟨i - 39, by omega⟩
    have hlen : (wl B (X, r)).length = 39 + 4 * wT X := by simp [wl, wst_len]
    by_cases ha : a = j
    · subst ha
      rw [List.getElem?_set_self (by rw [hlen]; omega), wl_tb _ _ (by show a < 4 * wT (updM X (39 + a) g); rw [hT]; exact hj), hq]
    · rw [List.getElem?_set_ne (by omega)]
      by_cases hb : a < 4 * wT X
      · rw [wl_tb _ _ hb, wl_tb _ _ (by show a < 4 * wT (updM X (39 + j) g); rw [hT]; exact hb)]
        show some ((r.2.2.2 a, wtc B X r.2.2.2 a (a % 4)) : Nat × va_E) = some (r.2.2.2 a, wtc B (updM X (39 + j) g) r.2.2.2 a (a % 4))
        rw [wtc_upd _ _ _ _ _ (by omega)]
      · have l2 : (wl B (updM X (39 + j) g, r)).length = 39 + 4 * wT X := by
          show (wst B _ ++ (List.range (4 * wT (updM X (39 + j) g))).map _).length = _
          rw [hT]
          simp [wst_len]
        rw [List.getElem?_eq_none (by rw [hlen]; omega), List.getElem?_eq_none (by rw [l2]; omega)]
theorem cv_0 (B : wB) (X Y : wM) (r : wR) : (wl B (X, Y, r))[0]? = some (wad B 0, .inr (9, [.ref (wad B 1), .ref (wad B 3), .ref (wad B 8), .ref (wad B 10), .ref (wad B 13), .ref (wad B 16), .ref (wad B 21), .int (X 0 7)])) := wl_st rfl
theorem cv_1 (B : wB) (X Y : wM) (r : wR) : (wl B (X, Y, r))[1]? = some (wad B 1, .inr (6, [.ref (wad B 2), .int (X 1 1), .int (X 1 2)])) := wl_st rfl
theorem cs_1 (B : wB) (X Y : wM) (r : wR) (g : Nat → Int32) : (wl B (X, Y, r)).set 1 (wad B 1, .inr (6, [.ref (wad B 2), .int (g 1), .int (g 2)])) = wl B (updM X 1 g, Y, r) := wl_set_st (by decide) rfl rfl (fun j => updM_ne X g (by omega)) rfl
theorem cv_2 (B : wB) (X Y : wM) (r : wR) : (wl B (X, Y, r))[2]? = some (wad B 2, .inl (wdA B 0, 20, .inl (X 2))) := wl_st rfl
theorem cs_2 (B : wB) (X Y : wM) (r : wR) (g : Nat → Int32) : (wl B (X, Y, r)).set 2 (wad B 2, .inl (wdA B 0, 20, .inl g)) = wl B (updM X 2 g, Y, r) := wl_set_st (by decide) rfl rfl (fun j => updM_ne X g (by omega)) rfl
theorem cv_3 (B : wB) (X Y : wM) (r : wR) : (wl B (X, Y, r))[3]? = some (wad B 3, .inr (5, [.ref (wad B 1), .ref (wad B 4), .ref (wad B 5), .ref (wad B 6), .ref (wad B 7), .int (X 3 5)])) := wl_st rfl
theorem cs_3 (B : wB) (X Y : wM) (r : wR) (g : Nat → Int32) : (wl B (X, Y, r)).set 3 (wad B 3, .inr (5, [.ref (wad B 1), .ref (wad B 4), .ref (wad B 5), .ref (wad B 6), .ref (wad B 7), .int (g 5)])) = wl B (updM X 3 g, Y, r) := wl_set_st (by decide) rfl rfl (fun j => updM_ne X g (by omega)) rfl
theorem cv_4 (B : wB) (X Y : wM) (r : wR) : (wl B (X, Y, r))[4]? = some (wad B 4, .inl (wdA B 1, 40, .inl (X 4))) := wl_st rfl
theorem cs_4 (B : wB) (X Y : wM) (r : wR) (g : Nat → Int32) : (wl B (X, Y, r)).set 4 (wad B 4, .inl (wdA B 1, 40, .inl g)) = wl B (updM X 4 g, Y, r) := wl_set_st (by decide) rfl rfl (fun j => updM_ne X g (by omega)) rfl
theorem cv_5 (B : wB) (X Y : wM) (r : wR) : (wl B (X, Y, r))[5]? = some (wad B 5, .inl (wdA B 0, 40, .inl (X 5))) := wl_st rfl
theorem cs_5 (B : wB) (X Y : wM) (r : wR) (g : Nat → Int32) : (wl B (X, Y, r)).set 5 (wad B 5, .inl (wdA B 0, 40, .inl g)) = wl B (updM X 5 g, Y, r) := wl_set_st (by decide) rfl rfl (fun j => updM_ne X g (by omega)) rfl
theorem cv_6 (B : wB) (X Y : wM) (r : wR) : (wl B (X, Y, r))[6]? = some (wad B 6, .inl (wdA B 0, 40, .inl (X 6))) := wl_st rfl
theorem cs_6 (B : wB) (X Y : wM) (r : wR) (g : Nat → Int32) : (wl B (X, Y, r)).set 6 (wad B 6, .inl (wdA B 0, 40, .inl g)) = wl B (updM X 6 g, Y, r) := wl_set_st (by decide) rfl rfl (fun j => updM_ne X g (by omega)) rfl
theorem cv_7 (B : wB) (X Y : wM) (r : wR) : (wl B (X, Y, r))[7]? = some (wad B 7, .inl (wdA B 0, 40, .inl (X 7))) := wl_st rfl
theorem cs_7 (B : wB) (X Y : wM) (r : wR) (g : Nat → Int32) : (wl B (X, Y, r)).set 7 (wad B 7, .inl (wdA B 0, 40, .inl g)) = wl B (updM X 7 g, Y, r) := wl_set_st (by decide) rfl rfl (fun j => updM_ne X g (by omega)) rfl
theorem cv_8 (B : wB) (X Y : wM) (r : wR) : (wl B (X, Y, r))[8]? = some (wad B 8, .inr (3, [.ref (wad B 3), .ref (wad B 9), .int (X 8 2), .int (X 8 3), .int (X 8 4), .int (X 8 5), .int (X 8 6)])) := wl_st rfl
theorem cs_8 (B : wB) (X Y : wM) (r : wR) (g : Nat → Int32) : (wl B (X, Y, r)).set 8 (wad B 8, .inr (3, [.ref (wad B 3), .ref (wad B 9), .int (g 2), .int (g 3), .int (g 4), .int (g 5), .int (g 6)])) = wl B (updM X 8 g, Y, r) := wl_set_st (by decide) rfl rfl (fun j => updM_ne X g (by omega)) rfl
theorem cv_9 (B : wB) (X Y : wM) (r : wR) : (wl B (X, Y, r))[9]? = some (wad B 9, .inl (wdA B 2, 1600, .inl (X 9))) := wl_st rfl
theorem cs_9 (B : wB) (X Y : wM) (r : wR) (g : Nat → Int32) : (wl B (X, Y, r)).set 9 (wad B 9, .inl (wdA B 2, 1600, .inl g)) = wl B (updM X 9 g, Y, r) := wl_set_st (by decide) rfl rfl (fun j => updM_ne X g (by omega)) rfl
theorem cv_10 (B : wB) (X Y : wM) (r : wR) : (wl B (X, Y, r))[10]? = some (wad B 10, .inr (8, [.ref (wad B 3), .ref (wad B 8), .ref (wad B 11), .ref (wad B 12), .int (X 10 4), .int (X 10 5)])) := wl_st rfl
theorem cs_10 (B : wB) (X Y : wM) (r : wR) (g : Nat → Int32) : (wl B (X, Y, r)).set 10 (wad B 10, .inr (8, [.ref (wad B 3), .ref (wad B 8), .ref (wad B 11), .ref (wad B 12), .int (g 4), .int (g 5)])) = wl B (updM X 10 g, Y, r) := wl_set_st (by decide) rfl rfl (fun j => updM_ne X g (by omega)) rfl
theorem cv_11 (B : wB) (X Y : wM) (r : wR) : (wl B (X, Y, r))[11]? = some (wad B 11, .inl (wdA B 1, 40, .inl (X 11))) := wl_st rfl
theorem cs_11 (B : wB) (X Y : wM) (r : wR) (g : Nat → Int32) : (wl B (X, Y, r)).set 11 (wad B 11, .inl (wdA B 1, 40, .inl g)) = wl B (updM X 11 g, Y, r) := wl_set_st (by decide) rfl rfl (fun j => updM_ne X g (by omega)) rfl
theorem cv_12 (B : wB) (X Y : wM) (r : wR) : (wl B (X, Y, r))[12]? = some (wad B 12, .inl (wdA B 0, 24, .inl (X 12))) := wl_st rfl
theorem cs_12 (B : wB) (X Y : wM) (r : wR) (g : Nat → Int32) : (wl B (X, Y, r)).set 12 (wad B 12, .inl (wdA B 0, 24, .inl g)) = wl B (updM X 12 g, Y, r) := wl_set_st (by decide) rfl rfl (fun j => updM_ne X g (by omega)) rfl
theorem cv_13 (B : wB) (X Y : wM) (r : wR) : (wl B (X, Y, r))[13]? = some (wad B 13, .inr (8, [.ref (wad B 3), .ref (wad B 8), .ref (wad B 14), .ref (wad B 15), .int (X 13 4), .int (X 13 5)])) := wl_st rfl
theorem cs_13 (B : wB) (X Y : wM) (r : wR) (g : Nat → Int32) : (wl B (X, Y, r)).set 13 (wad B 13, .inr (8, [.ref (wad B 3), .ref (wad B 8), .ref (wad B 14), .ref (wad B 15), .int (g 4), .int (g 5)])) = wl B (updM X 13 g, Y, r) := wl_set_st (by decide) rfl rfl (fun j => updM_ne X g (by omega)) rfl
theorem cv_14 (B : wB) (X Y : wM) (r : wR) : (wl B (X, Y, r))[14]? = some (wad B 14, .inl (wdA B 1, 40, .inl (X 14))) := wl_st rfl
theorem cs_14 (B : wB) (X Y : wM) (r : wR) (g : Nat → Int32) : (wl B (X, Y, r)).set 14 (wad B 14, .inl (wdA B 1, 40, .inl g)) = wl B (updM X 14 g, Y, r) := wl_set_st (by decide) rfl rfl (fun j => updM_ne X g (by omega)) rfl
theorem cv_15 (B : wB) (X Y : wM) (r : wR) : (wl B (X, Y, r))[15]? = some (wad B 15, .inl (wdA B 0, 24, .inl (X 15))) := wl_st rfl
theorem cs_15 (B : wB) (X Y : wM) (r : wR) (g : Nat → Int32) : (wl B (X, Y, r)).set 15 (wad B 15, .inl (wdA B 0, 24, .inl g)) = wl B (updM X 15 g, Y, r) := wl_set_st (by decide) rfl rfl (fun j => updM_ne X g (by omega)) rfl
theorem cv_16 (B : wB) (X Y : wM) (r : wR) : (wl B (X, Y, r))[16]? = some (wad B 16, .inr (4, [.ref (wad B 3), .ref (wad B 8), .ref (wad B 10), .ref (wad B 17), .ref (wad B 18), .ref (wad B 19), .ref (wad B 20), .int (X 16 7), .int (X 16 8), .int (X 16 9)])) := wl_st rfl
theorem cs_16 (B : wB) (X Y : wM) (r : wR) (g : Nat → Int32) : (wl B (X, Y, r)).set 16 (wad B 16, .inr (4, [.ref (wad B 3), .ref (wad B 8), .ref (wad B 10), .ref (wad B 17), .ref (wad B 18), .ref (wad B 19), .ref (wad B 20), .int (g 7), .int (g 8), .int (g 9)])) = wl B (updM X 16 g, Y, r) := wl_set_st (by decide) rfl rfl (fun j => updM_ne X g (by omega)) rfl
theorem cv_17 (B : wB) (X Y : wM) (r : wR) : (wl B (X, Y, r))[17]? = some (wad B 17, .inl (wdA B 0, 40, .inl (X 17))) := wl_st rfl
theorem cs_17 (B : wB) (X Y : wM) (r : wR) (g : Nat → Int32) : (wl B (X, Y, r)).set 17 (wad B 17, .inl (wdA B 0, 40, .inl g)) = wl B (updM X 17 g, Y, r) := wl_set_st (by decide) rfl rfl (fun j => updM_ne X g (by omega)) rfl
theorem cv_18 (B : wB) (X Y : wM) (r : wR) : (wl B (X, Y, r))[18]? = some (wad B 18, .inl (wdA B 0, 400, .inl (X 18))) := wl_st rfl
theorem cs_18 (B : wB) (X Y : wM) (r : wR) (g : Nat → Int32) : (wl B (X, Y, r)).set 18 (wad B 18, .inl (wdA B 0, 400, .inl g)) = wl B (updM X 18 g, Y, r) := wl_set_st (by decide) rfl rfl (fun j => updM_ne X g (by omega)) rfl
theorem cv_19 (B : wB) (X Y : wM) (r : wR) : (wl B (X, Y, r))[19]? = some (wad B 19, .inl (wdA B 0, 400, .inl (X 19))) := wl_st rfl
theorem cs_19 (B : wB) (X Y : wM) (r : wR) (g : Nat → Int32) : (wl B (X, Y, r)).set 19 (wad B 19, .inl (wdA B 0, 400, .inl g)) = wl B (updM X 19 g, Y, r) := wl_set_st (by decide) rfl rfl (fun j => updM_ne X g (by omega)) rfl
theorem cv_20 (B : wB) (X Y : wM) (r : wR) : (wl B (X, Y, r))[20]? = some (wad B 20, .inl (wdA B 0, 400, .inl (X 20))) := wl_st rfl
theorem cs_20 (B : wB) (X Y : wM) (r : wR) (g : Nat → Int32) : (wl B (X, Y, r)).set 20 (wad B 20, .inl (wdA B 0, 400, .inl g)) = wl B (updM X 20 g, Y, r) := wl_set_st (by decide) rfl rfl (fun j => updM_ne X g (by omega)) rfl
theorem cv_22 (B : wB) (X Y : wM) (r : wR) : (wl B (X, Y, r))[22]? = some (wad B 22, .inr (10, [.ref (wad B 23), .ref (wad B 24), .ref (wad B 25), .ref (wad B 26), .ref (wad B 27), .ref (wad B 28), .ref (wad B 29), .ref (wad B 30), .ref (wad B 31), .ref (wad B 32), .ref (wad B 33), .ref (wad B 34), .ref (wad B 35), .ref (wad B 36), .int (Y 22 14), .int (Y 22 15), .int (Y 22 16), .int (Y 22 17), .int (Y 22 18), .int (Y 22 19), .int (Y 22 20), .int (Y 22 21), .int (Y 22 22), .int (Y 22 23), .int (Y 22 24), .int (Y 22 25)])) := wl_st rfl
theorem cs_22 (B : wB) (X Y : wM) (r : wR) (g : Nat → Int32) : (wl B (X, Y, r)).set 22 (wad B 22, .inr (10, [.ref (wad B 23), .ref (wad B 24), .ref (wad B 25), .ref (wad B 26), .ref (wad B 27), .ref (wad B 28), .ref (wad B 29), .ref (wad B 30), .ref (wad B 31), .ref (wad B 32), .ref (wad B 33), .ref (wad B 34), .ref (wad B 35), .ref (wad B 36), .int (g 14), .int (g 15), .int (g 16), .int (g 17), .int (g 18), .int (g 19), .int (g 20), .int (g 21), .int (g 22), .int (g 23), .int (g 24), .int (g 25)])) = wl B (X, updM Y 22 g, r) := wl_set_st (by decide) rfl rfl (fun _ => rfl) rfl
theorem cv_23 (B : wB) (X Y : wM) (r : wR) : (wl B (X, Y, r))[23]? = some (wad B 23, .inl (wdA B 0, 20, .inl (Y 23))) := wl_st rfl
theorem cs_23 (B : wB) (X Y : wM) (r : wR) (g : Nat → Int32) : (wl B (X, Y, r)).set 23 (wad B 23, .inl (wdA B 0, 20, .inl g)) = wl B (X, updM Y 23 g, r) := wl_set_st (by decide) rfl rfl (fun _ => rfl) rfl
theorem cv_24 (B : wB) (X Y : wM) (r : wR) : (wl B (X, Y, r))[24]? = some (wad B 24, .inl (wdA B 0, 40, .inl (Y 24))) := wl_st rfl
theorem cs_24 (B : wB) (X Y : wM) (r : wR) (g : Nat → Int32) : (wl B (X, Y, r)).set 24 (wad B 24, .inl (wdA B 0, 40, .inl g)) = wl B (X, updM Y 24 g, r) := wl_set_st (by decide) rfl rfl (fun _ => rfl) rfl
theorem cv_25 (B : wB) (X Y : wM) (r : wR) : (wl B (X, Y, r))[25]? = some (wad B 25, .inl (wdA B 0, 40, .inl (Y 25))) := wl_st rfl
theorem cs_25 (B : wB) (X Y : wM) (r : wR) (g : Nat → Int32) : (wl B (X, Y, r)).set 25 (wad B 25, .inl (wdA B 0, 40, .inl g)) = wl B (X, updM Y 25 g, r) := wl_set_st (by decide) rfl rfl (fun _ => rfl) rfl
theorem cv_26 (B : wB) (X Y : wM) (r : wR) : (wl B (X, Y, r))[26]? = some (wad B 26, .inl (wdA B 0, 40, .inl (Y 26))) := wl_st rfl
theorem cs_26 (B : wB) (X Y : wM) (r : wR) (g : Nat → Int32) : (wl B (X, Y, r)).set 26 (wad B 26, .inl (wdA B 0, 40, .inl g)) = wl B (X, updM Y 26 g, r) := wl_set_st (by decide) rfl rfl (fun _ => rfl) rfl
theorem cv_27 (B : wB) (X Y : wM) (r : wR) : (wl B (X, Y, r))[27]? = some (wad B 27, .inl (wdA B 0, 40, .inl (Y 27))) := wl_st rfl
theorem cs_27 (B : wB) (X Y : wM) (r : wR) (g : Nat → Int32) : (wl B (X, Y, r)).set 27 (wad B 27, .inl (wdA B 0, 40, .inl g)) = wl B (X, updM Y 27 g, r) := wl_set_st (by decide) rfl rfl (fun _ => rfl) rfl
theorem cv_28 (B : wB) (X Y : wM) (r : wR) : (wl B (X, Y, r))[28]? = some (wad B 28, .inl (wdA B 0, 24, .inl (Y 28))) := wl_st rfl
theorem cs_28 (B : wB) (X Y : wM) (r : wR) (g : Nat → Int32) : (wl B (X, Y, r)).set 28 (wad B 28, .inl (wdA B 0, 24, .inl g)) = wl B (X, updM Y 28 g, r) := wl_set_st (by decide) rfl rfl (fun _ => rfl) rfl
theorem cv_29 (B : wB) (X Y : wM) (r : wR) : (wl B (X, Y, r))[29]? = some (wad B 29, .inl (wdA B 2, 40, .inl (Y 29))) := wl_st rfl
theorem cs_29 (B : wB) (X Y : wM) (r : wR) (g : Nat → Int32) : (wl B (X, Y, r)).set 29 (wad B 29, .inl (wdA B 2, 40, .inl g)) = wl B (X, updM Y 29 g, r) := wl_set_st (by decide) rfl rfl (fun _ => rfl) rfl
theorem cv_30 (B : wB) (X Y : wM) (r : wR) : (wl B (X, Y, r))[30]? = some (wad B 30, .inl (wdA B 2, 1600, .inl (Y 30))) := wl_st rfl
theorem cs_30 (B : wB) (X Y : wM) (r : wR) (g : Nat → Int32) : (wl B (X, Y, r)).set 30 (wad B 30, .inl (wdA B 2, 1600, .inl g)) = wl B (X, updM Y 30 g, r) := wl_set_st (by decide) rfl rfl (fun _ => rfl) rfl
theorem cv_31 (B : wB) (X Y : wM) (r : wR) : (wl B (X, Y, r))[31]? = some (wad B 31, .inl (wdA B 1, 40, .inl (Y 31))) := wl_st rfl
theorem cs_31 (B : wB) (X Y : wM) (r : wR) (g : Nat → Int32) : (wl B (X, Y, r)).set 31 (wad B 31, .inl (wdA B 1, 40, .inl g)) = wl B (X, updM Y 31 g, r) := wl_set_st (by decide) rfl rfl (fun _ => rfl) rfl
theorem cv_32 (B : wB) (X Y : wM) (r : wR) : (wl B (X, Y, r))[32]? = some (wad B 32, .inl (wdA B 1, 8, .inl (Y 32))) := wl_st rfl
theorem cs_32 (B : wB) (X Y : wM) (r : wR) (g : Nat → Int32) : (wl B (X, Y, r)).set 32 (wad B 32, .inl (wdA B 1, 8, .inl g)) = wl B (X, updM Y 32 g, r) := wl_set_st (by decide) rfl rfl (fun _ => rfl) rfl
theorem cv_33 (B : wB) (X Y : wM) (r : wR) : (wl B (X, Y, r))[33]? = some (wad B 33, .inl (wdA B 1, 192, .inl (Y 33))) := wl_st rfl
theorem cs_33 (B : wB) (X Y : wM) (r : wR) (g : Nat → Int32) : (wl B (X, Y, r)).set 33 (wad B 33, .inl (wdA B 1, 192, .inl g)) = wl B (X, updM Y 33 g, r) := wl_set_st (by decide) rfl rfl (fun _ => rfl) rfl
theorem cv_34 (B : wB) (X Y : wM) (r : wR) : (wl B (X, Y, r))[34]? = some (wad B 34, .inl (wdA B 1, 10, .inl (Y 34))) := wl_st rfl
theorem cs_34 (B : wB) (X Y : wM) (r : wR) (g : Nat → Int32) : (wl B (X, Y, r)).set 34 (wad B 34, .inl (wdA B 1, 10, .inl g)) = wl B (X, updM Y 34 g, r) := wl_set_st (by decide) rfl rfl (fun _ => rfl) rfl
theorem cv_35 (B : wB) (X Y : wM) (r : wR) : (wl B (X, Y, r))[35]? = some (wad B 35, .inl (wdA B 0, 192, .inl (Y 35))) := wl_st rfl
theorem cs_35 (B : wB) (X Y : wM) (r : wR) (g : Nat → Int32) : (wl B (X, Y, r)).set 35 (wad B 35, .inl (wdA B 0, 192, .inl g)) = wl B (X, updM Y 35 g, r) := wl_set_st (by decide) rfl rfl (fun _ => rfl) rfl
theorem cv_36 (B : wB) (X Y : wM) (r : wR) : (wl B (X, Y, r))[36]? = some (wad B 36, .inl (wdA B 0, 8, .inl (Y 36))) := wl_st rfl
theorem cs_36 (B : wB) (X Y : wM) (r : wR) (g : Nat → Int32) : (wl B (X, Y, r)).set 36 (wad B 36, .inl (wdA B 0, 8, .inl g)) = wl B (X, updM Y 36 g, r) := wl_set_st (by decide) rfl rfl (fun _ => rfl) rfl
theorem cv_21 (B : wB) (X Y : wM) (o : Int64) (d : UInt64) (td : Nat → Nat) : (wl B (X, Y, o, d, td))[21]? = some (wad B 21, .inl (wdA B 3, 8, .inr (.inr (.inr (.inr (wTf X td)))))) := wl_st rfl
theorem cv_37 (B : wB) (X Y : wM) (o : Int64) (d : UInt64) (td : Nat → Nat) : (wl B (X, Y, o, d, td))[37]? = some (wad B 37, .inl (wdA B 5, 1, .inr (.inl (wo1 o)))) := wl_st rfl
theorem cv_38 (B : wB) (X Y : wM) (o : Int64) (d : UInt64) (td : Nat → Nat) : (wl B (X, Y, o, d, td))[38]? = some (wad B 38, .inl (wdA B 6, 1, .inr (.inr (.inr (.inl (wo2 d)))))) := wl_st rfl
theorem cs_37 (B : wB) (X Y : wM) (o : Int64) (d : UInt64) (td : Nat → Nat) (v : Int64) : (wl B (X, Y, o, d, td)).set 37 (wad B 37, .inl (wdA B 5, 1, .inr (.inl (wo1 v)))) = wl B (X, Y, v, d, td) := wl_set_st (by decide) rfl rfl (fun _ => rfl) rfl
theorem cs_38 (B : wB) (X Y : wM) (o : Int64) (d : UInt64) (td : Nat → Nat) (v : UInt64) : (wl B (X, Y, o, d, td)).set 38 (wad B 38, .inl (wdA B 6, 1, .inr (.inr (.inr (.inl (wo2 v)))))) = wl B (X, Y, o, v, td) := wl_set_st (by decide) rfl rfl (fun _ => rfl) rfl
theorem ct_0 (B : wB) (X Y : wM) (o : Int64) (d : UInt64) (td : Nat → Nat) {i : Nat} (h : i < wT X) : (wl B (X, Y, o, d, td))[39 + 4 * i]? = some (td (4 * i), .inr (7, [.int (X (39 + 4 * i) 0), .ref (td (4 * i + 1)), .int (X (39 + 4 * i) 2), .ref (td (4 * i + 2)), .int (X (39 + 4 * i) 4)])) := by
  rw [wl_tb B (X, Y, o, d, td) (j := 4 * i) (by show 4 * i < 4 * wT X; omega), wtb, show 4 * i % 4 = 0 by omega]
  rfl
theorem ct_1 (B : wB) (X Y : wM) (o : Int64) (d : UInt64) (td : Nat → Nat) {i : Nat} (h : i < wT X) : (wl B (X, Y, o, d, td))[39 + (4 * i + 1)]? = some (td (4 * i + 1), .inl (wdA B 0, 24, .inl (X (39 + (4 * i + 1))))) := by
  rw [wl_tb B (X, Y, o, d, td) (j := 4 * i + 1) (by show 4 * i + 1 < 4 * wT X; omega), wtb, show (4 * i + 1) % 4 = 1 by omega]
  rfl
theorem ct_2 (B : wB) (X Y : wM) (o : Int64) (d : UInt64) (td : Nat → Nat) {i : Nat} (h : i < wT X) : (wl B (X, Y, o, d, td))[39 + (4 * i + 2)]? = some (td (4 * i + 2), .inr (0, [.ref (td (4 * i + 2 + 1)), .int (X (39 + (4 * i + 2)) 1), .int (X (39 + (4 * i + 2)) 2), .int (X (39 + (4 * i + 2)) 3)])) := by
  rw [wl_tb B (X, Y, o, d, td) (j := 4 * i + 2) (by show 4 * i + 2 < 4 * wT X; omega), wtb, show (4 * i + 2) % 4 = 2 by omega]
  rfl
theorem ct_3 (B : wB) (X Y : wM) (o : Int64) (d : UInt64) (td : Nat → Nat) {i : Nat} (h : i < wT X) : (wl B (X, Y, o, d, td))[39 + (4 * i + 3)]? = some (td (4 * i + 3), .inl (wdA B 4, (X (39 + (4 * i + 3)) 1000).toNatClampNeg, .inl (X (39 + (4 * i + 3))))) := by
  rw [wl_tb B (X, Y, o, d, td) (j := 4 * i + 3) (by show 4 * i + 3 < 4 * wT X; omega), wtb, show (4 * i + 3) % 4 = 3 by omega]
  rfl
/-- isUndone of a table is set -/
theorem cs_undone (B : wB) (X Y : wM) (o : Int64) (d : UInt64) (td : Nat → Nat) {i : Nat} (h : i < wT X) (v : Int32) : (wl B (X, Y, o, d, td)).set (39 + 4 * i) (td (4 * i), .inr (7, [.int (X (39 + 4 * i) 0), .ref (td (4 * i + 1)), .int (X (39 + 4 * i) 2), .ref (td (4 * i + 2)), .int v])) = wl B (updM X (39 + 4 * i) (upd (X (39 + 4 * i)) 4 v), Y, o, d, td) := by
  refine wl_set_tb (by omega) ?_
  rw [wtb, show 4 * i % 4 = 0 by omega, wtc]
  simp only [updM_self]
  rfl
end
section
/-! the judgement J: from this point of the method's own frame, with these locals and this stack over the world σ, the method's end is reached -/
/-- words that hold at every state of the run: of the tables alone, kept by warming -/
def wgood : Cond → Bool
  | .arrayClass _ => true
  | c => c.onTables && c.keepsCast
def wTs : List Cond := lw_tbl.filter wgood
def wW (U : State) : Prop := ∀ c ∈ wTs, ∀ a : Array Value, c.before a U = true
theorem wTs_in {c : Cond} (i : Nat) (h : lw_tbl[i]? = some c) (g : wgood c = true) : c ∈ wTs := List.mem_filter.mpr ⟨List.mem_of_getElem? h, g⟩
theorem wgood_any {c : Cond} (g : wgood c = true) {a a' : Array Value} {U : State} (h : c.before a U = true) : c.before a' U = true := by
  cases c <;> first | (simp [wgood, Cond.onTables] at g; done) | exact h
theorem wgood_at {c : Cond} (g : wgood c = true) {a : Array Value} {s U : State} (hW : s.WarmedH U.vm) (h : c.before a s = true) : c.before a U = true := by
  by_cases hA : ∃ ty, c = .arrayClass ty
  · exact word_at hW (Or.inr hA) h
  · have g2 : (c.onTables && c.keepsCast) = true := by
      cases c <;> first | exact g | exact absurd ⟨_, rfl⟩ hA
    simp only [Bool.and_eq_true] at g2
    have h1 : c.before a (s.setVm U.vm) = true := Cond.before_shiftedCast (State.Shifted.of_warmed hW) c g2.2 h
    have h2 := (Cond.onTables_vm (A := a) (A' := a) (U := s) (U' := U) U.vm c g2.1).symm.trans h1
    rwa [State.setVm_self] at h2
theorem wW.warm {s U : State} (hW : s.WarmedH U.vm) (h : wW s) : wW U := fun c hc a => wgood_at (List.mem_filter.mp hc).2 hW (h c hc a)
theorem wW.of {s : State} {a : Array Value} (h : ∀ c ∈ lw_tbl, c.before a s = true) : wW s := fun c hc _ => wgood_any (List.mem_filter.mp hc).2 (h c (List.mem_filter.mp hc).1)
/-- the texts of the class's exceptions, and which exception is of no class of which handler -/
def wStr (strs : List (String × Nat × String)) (B : wB) (U : State) : Prop := ∀ (i : Nat) (q : String × Nat × String), strs[i]? = some q → vk_R q.1 q.2.1 q.2.2 (wsa B i) U
def wNc (ncs : List (String × String)) (U : State) : Prop := ∀ (i : Nat) (q : String × String), ncs[i]? = some q → va_Nc q.1 q.2 U
abbrev wStrs : List (String × Nat × String) := [(RX7, 70, "there are 6 blocks"), (RX7, 89, "there are 20 addresses"), (RX7, 105, "there is no such address in the block"), (RX7, 114, "both blocks are the same"), (RX7, 117, "there is no such list"), (RX7, 119, "the name or the year is out of range"), (RX7, 127, "there are 40 records"), (RX7, 133, "there is no such part"), (RX7, 135, "the points are out of range"), (RX7, 141, "a bound is out of range"), (RX7, 163, "both records are of the check"), (RX7, 177, "there is no decision on these records"), (RX7, 189, "the record has no match"), (RX7, 203, "there are no matches"), (RX7, 212, "there are no census records"), (RX7, 217, "there are less than 2 blocks"), (RX7, 219, "8 tables were told"), (RX7, 227, "the table cannot be told"), (RX7, 250, "the cell is hidden"), (RX7, 271, "the count is neither 1 nor 2"), (RX7, 293, "there is no such index"), (RX7, 313, "there is no such block"), (RX7, 315, "there is no such address"), (RX7, 317, "the group is out of range"), (RX7, 319, "there is no such record"), (RX7, 321, "both records are the same"), (RX7, 323, "there is no such table"), (RX7, 326, "the table has no such block")]
abbrev wNcs : List (String × String) := [("java/lang/IllegalStateException", "java/lang/IllegalArgumentException"), ("java/lang/IllegalStateException", "java/lang/IndexOutOfBoundsException"), ("java/lang/IllegalStateException", "java/lang/ArithmeticException"), ("java/lang/IllegalStateException", "java/lang/UnsupportedOperationException"), ("java/lang/IllegalStateException", "java/util/NoSuchElementException"), ("java/lang/IllegalArgumentException", "java/lang/IllegalStateException"), ("java/lang/IllegalArgumentException", "java/lang/IndexOutOfBoundsException"), ("java/lang/IllegalArgumentException", "java/lang/ArithmeticException"), ("java/lang/IllegalArgumentException", "java/lang/UnsupportedOperationException"), ("java/lang/IllegalArgumentException", "java/util/NoSuchElementException"), ("java/lang/IndexOutOfBoundsException", "java/lang/IllegalStateException"), ("java/lang/IndexOutOfBoundsException", "java/lang/IllegalArgumentException"), ("java/lang/IndexOutOfBoundsException", "java/lang/ArithmeticException"), ("java/lang/IndexOutOfBoundsException", "java/lang/UnsupportedOperationException"), ("java/lang/IndexOutOfBoundsException", "java/util/NoSuchElementException"), ("java/lang/ArithmeticException", "java/lang/IllegalStateException"), ("java/lang/ArithmeticException", "java/lang/IllegalArgumentException"), ("java/lang/ArithmeticException", "java/lang/IndexOutOfBoundsException"), ("java/lang/ArithmeticException", "java/lang/UnsupportedOperationException"), ("java/lang/ArithmeticException", "java/util/NoSuchElementException"), ("java/lang/UnsupportedOperationException", "java/lang/IllegalStateException"), ("java/lang/UnsupportedOperationException", "java/lang/IllegalArgumentException"), ("java/lang/UnsupportedOperationException", "java/lang/IndexOutOfBoundsException"), ("java/lang/UnsupportedOperationException", "java/lang/ArithmeticException"), ("java/lang/UnsupportedOperationException", "java/util/NoSuchElementException"), ("java/util/NoSuchElementException", "java/lang/IllegalStateException"), ("java/util/NoSuchElementException", "java/lang/IllegalArgumentException"), ("java/util/NoSuchElementException", "java/lang/IndexOutOfBoundsException"), ("java/util/NoSuchElementException", "java/lang/ArithmeticException"), ("java/util/NoSuchElementException", "java/lang/UnsupportedOperationException")]
def wE (B : wB) (U : State) : Prop := vx_Zq Bundle.tN "UNASSIGNED_STACK" Bundle.steD (wA B) U U.heap ∧ vx_Zq Bundle.tN "SUPPRESSED_SENTINEL" Bundle.listD (wA B) U U.heap ∧ wStr wStrs B U ∧ wNc wNcs U
theorem wE.warm {B : wB} {s U : State} (hW : s.WarmedH U.vm) (hq : ∀ a : Nat, a < s.heap.size → ¬ wA B a → U.heap[a]? = s.heap[a]?) (h : wE B s) : wE B U :=
  ⟨vx_Zq.moved hW.alike (h.1.kept hq), vx_Zq.moved hW.alike (h.2.1.kept hq), fun i q hi => vk_R.warm hW (h.2.2.1 i q hi), fun i q hi => va_Nc.moved hW.alike (h.2.2.2 i q hi)⟩
/-- what every contract gives at its start -/
def wPre (B : wB) (σ : wS) (U : State) : Prop := va_P (wdG B) vwCl (wl B σ) U.heap ∧ va_K (wdG B) vwCl (wty B) U ∧ va_D (wA B) (wl B σ) ∧ wW U ∧ wE B U ∧ B.1 ≤ U.heap.size
def wPost (B : wB) (σ : wS) (t : State) : Prop := va_P (wdG B) vwCl (wl B σ) t.heap ∧ va_D (wA B) (wl B σ)
def wQc (B : wB) (RP : Option Value → wS → Prop) : Array Value → State → Outcome → State → Prop := fun _ st oc t => (∃ (v : Option Value) (σ : wS), oc = .returned v ∧ RP v σ ∧ wPost B σ t) ∧ va_F (wA B) st t
def wXC (B : wB) (XP : String → wS → Prop) : String → State → State → Prop := fun E st t => (∃ σ : wS, XP E σ ∧ wPost B σ t) ∧ va_F (wA B) st t
/-- a method's contract: it returns, and RP says what and to which world; or it throws, and XP says what -/
def wMet (l : Launch) (B : wB) (y : MethodName) (cc : ByteArray) (nL : Nat) (ret : Option FieldType) (fr lo mc ms : Nat) (As : List Value) (σ : wS) (RP : Option Value → wS → Prop) (XP : String → wS → Prop) : Prop :=
  vx_Met l y [.code y cc nL ret] { frames := fr, cells := mc, slots := ms, locals := lo } (va_Pc As (wPre B σ)) (wQc B RP) (wXC B XP) mc ms (wA B)
theorem wPre.blind {B : wB} {σ : wS} {As : List Value} : FrameBlind (va_Pc As (wPre B σ)) := fun a U g mk q => by
  obtain ⟨q0, q1, q2, q3, q4, q5, q6⟩ := q
  have hW : U.WarmedH (U.calling g mk a).vm := State.WarmedH.refl U
  exact ⟨q0, q1, va_K.moved (u := U) (U := U.calling g mk a) (Vm.Alike.refl U.vm) q2, q3, q4.warm (U := U.calling g mk a) hW, wE.warm (U := U.calling g mk a) hW (fun _ _ _ => rfl) q5, q6⟩
abbrev wG : Type := (Program × Launch × Env × Room × State) × (MethodId × Array Value × List Frame × Method × Code) × (State → Prop) × (Nat × Nat) × wB
abbrev gp (G : wG) := G.1.1
abbrev gl (G : wG) := G.1.2.1
abbrev ge (G : wG) := G.1.2.2.1
abbrev gR (G : wG) := G.1.2.2.2.1
abbrev gs (G : wG) := G.1.2.2.2.2
abbrev gm (G : wG) := G.2.1.1
abbrev ga (G : wG) := G.2.1.2.1
abbrev gbl (G : wG) := G.2.1.2.2.1
abbrev gme (G : wG) := G.2.1.2.2.2.1
abbrev gc (G : wG) := G.2.1.2.2.2.2
abbrev gQ (G : wG) := G.2.2.1
abbrev gmc (G : wG) := G.2.2.2.1.1
abbrev gms (G : wG) := G.2.2.2.1.2
abbrev gB (G : wG) := G.2.2.2.2
def J (G : wG) (nL kc ks pc : Nat) (lv : List (Nat × Value)) (st : List Value) (σ : wS) : Prop :=
  ∀ (ls : Array Slot) (H : Heap) (locs : List Loc) (cells slots : Nat), lv_has ls nL lv → va_P (wdG (gB G)) vwCl (wl (gB G) σ) H → va_D (wA (gB G)) (wl (gB G) σ) → va_S (wA (gB G)) (gs G).heap H locs → cells + kc ≤ gmc G → slots + ks ≤ gms G →
    W (gp G) (gl G) (ge G) (gR G) (gs G) (gm G) (ga G) (gbl G) (gme G) (gc G) H locs cells slots (gQ G) (F0 (gm G) pc ls st)
/-- the same with an exception of the class E thrown over the frame -/
def JX (G : wG) (nL kc ks pc : Nat) (lv : List (Nat × Value)) (σ : wS) (E : String) : Prop :=
  ∀ (ls : Array Slot) (H : Heap) (locs : List Loc) (cells slots : Nat) (rest : List Value) (ce : Cell) (q : Addr), lv_has ls nL lv → va_P (wdG (gB G)) vwCl (wl (gB G) σ) H → va_D (wA (gB G)) (wl (gB G) σ) → va_S (wA (gB G)) (gs G).heap H locs → cells + kc ≤ gmc G → slots + ks ≤ gms G →
    H[q]? = some ce → ce.vm = .none → (gs G).vm.findClass E = some ce.cls →
    vx_W (gp G) (gl G) (ge G) (gR G) (gs G) (gm G) (ga G) (gbl G) (gme G) (gc G) H locs cells slots (gQ G) (F0 (gm G) pc ls rest) q
def wOk (G : wG) (own : String) (cc : ByteArray) (nL fr lo : Nat) : Prop :=
  ((gp G).tables.exec = Jvm.exec ∧ (gc G).code = cc ∧ (gc G).maxLocals = nL ∧ (gs G).vm.findClass own = some (gm G).cls ∧ wW (gs G)) ∧ va_K (wdG (gB G)) vwCl (wty (gB G)) (gs G) ∧ (gl G).stackTraces = false ∧ wE (gB G) (gs G) ∧ (gB G).1 ≤ (gs G).heap.size ∧ (gme G).locks = false ∧ fr ≤ (gR G).frames ∧ lo ≤ (gR G).locals ∧ gmc G ≤ (gR G).cells ∧ gms G ≤ (gR G).slots
/-- the method's own end -/
def wEnd (G : wG) (ret : Option FieldType) (RP : Option Value → wS → Prop) (XP : String → wS → Prop) : Prop :=
  (gme G).sig.returnType = ret ∧ gQ G = vx_MQ (gbl G) (wQc (gB G) RP) (wXC (gB G) XP) (ga G) (gs G) (gmc G) (gms G) (wA (gB G))
def wNoTab (G : wG) : Prop := ∀ x ∈ (gc G).exceptionTable.toList, False
theorem wMet.of {l : Launch} {B : wB} {y : MethodName} {cc : ByteArray} {nL : Nat} {ret : Option FieldType} {fr lo mc ms : Nat} {As : List Value} {σ : wS} {RP : Option Value → wS → Prop} {XP : String → wS → Prop} (hl : l.stackTraces = false) (hy : plainName y.cls = true) (hn : (lg_sl As).length ≤ nL)
    (h : ∀ G : wG, gB G = B → gl G = l → wOk G y.cls cc nL fr lo → wEnd G ret RP XP → wNoTab G → J G nL mc ms 0 (lv_args 0 As) [] σ) : wMet l B y cc nL ret fr lo mc ms As σ RP XP := by
  refine vx_ofW (cc := cc) (maxL := nL) (ret := ret) hy rfl ?_
  intro p e s m args below meth c s₁ Bd hml ht hv
  obtain ⟨rfl, hP, hK, hD, hw, hE, hb⟩ := hv
  have hlv := lv_entry As hn
  rw [lg_entry_eq]
  exact h ((p, l, e, { frames := fr, cells := mc, slots := ms, locals := lo }, s), (m, As.toArray, below, meth, c), vx_MQ below (wQc B RP) (wXC B XP) As.toArray s mc ms (wA B), (mc, ms), B) rfl rfl
    ⟨⟨Bd.exec, Bd.bytes, hml, findClass_of_methodNamed Bd.named, hw⟩, hK, hl, hE, hb, Bd.notSynchronized, Nat.le_refl _, Nat.le_refl _, Nat.le_refl _, Nat.le_refl _⟩ ⟨Bd.returns, rfl⟩ ht _ s.heap [] 0 0 hlv hP hD va_S.rf (by show 0 + mc ≤ mc; omega) (by show 0 + ms ≤ ms; omega)
section JR
variable {G : wG} {own : String} {cc : ByteArray} {nL fr lo kc ks pc : Nat} {lv : List (Nat × Value)} {st : List Value} {σ : wS}
theorem J.weak {kc' ks' : Nat} (hc : kc ≤ kc') (hs : ks ≤ ks') (h : J G nL kc ks pc lv st σ) : J G nL kc' ks' pc lv st σ := fun ls H locs cells slots h1 h2 h3 h4 h5 h6 => h ls H locs cells slots h1 h2 h3 h4 (by omega) (by omega)
/-- locals that are not needed any more are dropped, others put in order -/
theorem j_lv {lv' : List (Nat × Value)} (is : List Nat) (hl : lv_pick lv is = lv') (h : J G nL kc ks pc lv' st σ) : J G nL kc ks pc lv st σ := fun ls H locs cells slots h1 => h ls H locs cells slots (lv_sub h1 is hl)
theorem wOk.word (hG : wOk G own cc nL fr lo) {c : Cond} (h : c ∈ wTs) : c.before (ga G) (gs G) = true := hG.1.2.2.2.2 c h _
theorem j_iconst (hG : wOk G own cc nL fr lo) {n : Int} {v : Int32} (d : decode cc pc = .ok (.iconst n, 1)) (hv : Int32.ofInt n = v) (kk : J G nL kc ks (pc + 1) lv (.int v :: st) σ) : J G nL kc ks pc lv (st) σ :=
  fun ls H locs cells slots h1 h2 h3 h4 h5 h6 => lv_iconst hG.1.1 hG.1.2.1 d hv (kk ls H locs cells slots h1 h2 h3 h4 h5 h6)
theorem j_bipush (hG : wOk G own cc nL fr lo) {n : Int} {v : Int32} (d : decode cc pc = .ok (.bipush n, 2)) (hv : (Int8.ofInt n).toInt32 = v) (kk : J G nL kc ks (pc + 2) lv (.int v :: st) σ) : J G nL kc ks pc lv (st) σ :=
  fun ls H locs cells slots h1 h2 h3 h4 h5 h6 => lv_bipush hG.1.1 hG.1.2.1 d hv (kk ls H locs cells slots h1 h2 h3 h4 h5 h6)
theorem j_sipush (hG : wOk G own cc nL fr lo) {n : Int} {v : Int32} (d : decode cc pc = .ok (.sipush n, 3)) (hv : (Int16.ofInt n).toInt32 = v) (kk : J G nL kc ks (pc + 3) lv (.int v :: st) σ) : J G nL kc ks pc lv (st) σ :=
  fun ls H locs cells slots h1 h2 h3 h4 h5 h6 => lv_sipush hG.1.1 hG.1.2.1 d hv (kk ls H locs cells slots h1 h2 h3 h4 h5 h6)
theorem j_lconst (hG : wOk G own cc nL fr lo) {n : Fin 2} {v : Int64} (d : decode cc pc = .ok (.lconst n, 1)) (hv : Int64.ofNat (n : Nat) = v) (kk : J G nL kc ks (pc + 1) lv (.long v :: st) σ) : J G nL kc ks pc lv (st) σ :=
  fun ls H locs cells slots h1 h2 h3 h4 h5 h6 => lv_lconst hG.1.1 hG.1.2.1 d hv (kk ls H locs cells slots h1 h2 h3 h4 h5 h6)
theorem j_fconst0 (hG : wOk G own cc nL fr lo) (d : decode cc pc = .ok (.fconst 0, 1)) (kk : J G nL kc ks (pc + 1) lv (.float 0 :: st) σ) : J G nL kc ks pc lv (st) σ :=
  fun ls H locs cells slots h1 h2 h3 h4 h5 h6 => lv_fconst0 hG.1.1 hG.1.2.1 d (kk ls H locs cells slots h1 h2 h3 h4 h5 h6)
theorem j_dconst0 (hG : wOk G own cc nL fr lo) (d : decode cc pc = .ok (.dconst 0, 1)) (kk : J G nL kc ks (pc + 1) lv (.double 0 :: st) σ) : J G nL kc ks pc lv (st) σ :=
  fun ls H locs cells slots h1 h2 h3 h4 h5 h6 => lv_dconst0 hG.1.1 hG.1.2.1 d (kk ls H locs cells slots h1 h2 h3 h4 h5 h6)
theorem j_null (hG : wOk G own cc nL fr lo) (d : decode cc pc = .ok (.aconst_null, 1)) (kk : J G nL kc ks (pc + 1) lv (.null :: st) σ) : J G nL kc ks pc lv (st) σ :=
  fun ls H locs cells slots h1 h2 h3 h4 h5 h6 => lv_null hG.1.1 hG.1.2.1 d (kk ls H locs cells slots h1 h2 h3 h4 h5 h6)
theorem j_iload_n (hG : wOk G own cc nL fr lo) (j : Nat) {i : Nat} {k : Fin 4} {x : Int32} (d : decode cc pc = .ok (.iload_n k, 1)) (hi : (k : Nat) = i) (hl : lv[j]? = some (i, .int x)) (kk : J G nL kc ks (pc + 1) lv (.int x :: st) σ) : J G nL kc ks pc lv st σ :=
  fun ls H locs cells slots h1 h2 h3 h4 h5 h6 => lv_iload_n hG.1.1 hG.1.2.1 d hi (lv_at h1 j hl) (kk ls H locs cells slots h1 h2 h3 h4 h5 h6)
theorem j_iload (hG : wOk G own cc nL fr lo) (j : Nat) {i : Nat} {x : Int32} (d : decode cc pc = .ok (.iload i, 2)) (hl : lv[j]? = some (i, .int x)) (kk : J G nL kc ks (pc + 2) lv (.int x :: st) σ) : J G nL kc ks pc lv st σ :=
  fun ls H locs cells slots h1 h2 h3 h4 h5 h6 => lv_iload hG.1.1 hG.1.2.1 d (lv_at h1 j hl) (kk ls H locs cells slots h1 h2 h3 h4 h5 h6)
theorem j_istore_n (hG : wOk G own cc nL fr lo) {i : Nat} {k : Fin 4} {x : Int32} {lv' : List (Nat × Value)} (d : decode cc pc = .ok (.istore_n k, 1)) (hi : (k : Nat) = i) (hn : i < nL) (hl : (i, Value.int x) :: lv.filter (fun q => !(q.1 == i) && !(q.1 + 1 == i && q.2.category == 2)) = lv') (kk : J G nL kc ks (pc + 1) lv' st σ) : J G nL kc ks pc lv (.int x :: st) σ :=
  fun ls H locs cells slots h1 h2 h3 h4 h5 h6 => lv_istore_n hG.1.1 hG.1.2.1 d hi h1 hn hl (fun ls' h' => kk ls' H locs cells slots h' h2 h3 h4 h5 h6)
theorem j_istore (hG : wOk G own cc nL fr lo) {i : Nat} {x : Int32} {lv' : List (Nat × Value)} (d : decode cc pc = .ok (.istore i, 2)) (hn : i < nL) (hl : (i, Value.int x) :: lv.filter (fun q => !(q.1 == i) && !(q.1 + 1 == i && q.2.category == 2)) = lv') (kk : J G nL kc ks (pc + 2) lv' st σ) : J G nL kc ks pc lv (.int x :: st) σ :=
  fun ls H locs cells slots h1 h2 h3 h4 h5 h6 => lv_istore hG.1.1 hG.1.2.1 d h1 hn hl (fun ls' h' => kk ls' H locs cells slots h' h2 h3 h4 h5 h6)
theorem j_lload_n (hG : wOk G own cc nL fr lo) (j : Nat) {i : Nat} {k : Fin 4} {x : Int64} (d : decode cc pc = .ok (.lload_n k, 1)) (hi : (k : Nat) = i) (hl : lv[j]? = some (i, .long x)) (kk : J G nL kc ks (pc + 1) lv (.long x :: st) σ) : J G nL kc ks pc lv st σ :=
  fun ls H locs cells slots h1 h2 h3 h4 h5 h6 => lv_lload_n hG.1.1 hG.1.2.1 d hi (lv_at h1 j hl) (kk ls H locs cells slots h1 h2 h3 h4 h5 h6)
theorem j_lload (hG : wOk G own cc nL fr lo) (j : Nat) {i : Nat} {x : Int64} (d : decode cc pc = .ok (.lload i, 2)) (hl : lv[j]? = some (i, .long x)) (kk : J G nL kc ks (pc + 2) lv (.long x :: st) σ) : J G nL kc ks pc lv st σ :=
  fun ls H locs cells slots h1 h2 h3 h4 h5 h6 => lv_lload hG.1.1 hG.1.2.1 d (lv_at h1 j hl) (kk ls H locs cells slots h1 h2 h3 h4 h5 h6)
theorem j_lstore_n (hG : wOk G own cc nL fr lo) {i : Nat} {k : Fin 4} {x : Int64} {lv' : List (Nat × Value)} (d : decode cc pc = .ok (.lstore_n k, 1)) (hi : (k : Nat) = i) (hn : i + 1 < nL) (hl : (i, Value.long x) :: lv.filter (fun q => !(q.1 == i) && (!(q.1 == i + 1) && !(q.1 + 1 == i && q.2.category == 2))) = lv') (kk : J G nL kc ks (pc + 1) lv' st σ) : J G nL kc ks pc lv (.long x :: st) σ :=
  fun ls H locs cells slots h1 h2 h3 h4 h5 h6 => lv_lstore_n hG.1.1 hG.1.2.1 d hi h1 hn hl (fun ls' h' => kk ls' H locs cells slots h' h2 h3 h4 h5 h6)
theorem j_lstore (hG : wOk G own cc nL fr lo) {i : Nat} {x : Int64} {lv' : List (Nat × Value)} (d : decode cc pc = .ok (.lstore i, 2)) (hn : i + 1 < nL) (hl : (i, Value.long x) :: lv.filter (fun q => !(q.1 == i) && (!(q.1 == i + 1) && !(q.1 + 1 == i && q.2.category == 2))) = lv') (kk : J G nL kc ks (pc + 2) lv' st σ) : J G nL kc ks pc lv (.long x :: st) σ :=
  fun ls H locs cells slots h1 h2 h3 h4 h5 h6 => lv_lstore hG.1.1 hG.1.2.1 d h1 hn hl (fun ls' h' => kk ls' H locs cells slots h' h2 h3 h4 h5 h6)
theorem j_aload_n (hG : wOk G own cc nL fr lo) (j : Nat) {i : Nat} {k : Fin 4} {x : Nat} (d : decode cc pc = .ok (.aload_n k, 1)) (hi : (k : Nat) = i) (hl : lv[j]? = some (i, .ref x)) (kk : J G nL kc ks (pc + 1) lv (.ref x :: st) σ) : J G nL kc ks pc lv st σ :=
  fun ls H locs cells slots h1 h2 h3 h4 h5 h6 => lv_aload_n hG.1.1 hG.1.2.1 d hi (lv_at h1 j hl) (kk ls H locs cells slots h1 h2 h3 h4 h5 h6)
theorem j_aload (hG : wOk G own cc nL fr lo) (j : Nat) {i : Nat} {x : Nat} (d : decode cc pc = .ok (.aload i, 2)) (hl : lv[j]? = some (i, .ref x)) (kk : J G nL kc ks (pc + 2) lv (.ref x :: st) σ) : J G nL kc ks pc lv st σ :=
  fun ls H locs cells slots h1 h2 h3 h4 h5 h6 => lv_aload hG.1.1 hG.1.2.1 d (lv_at h1 j hl) (kk ls H locs cells slots h1 h2 h3 h4 h5 h6)
theorem j_astore_n (hG : wOk G own cc nL fr lo) {i : Nat} {k : Fin 4} {x : Nat} {lv' : List (Nat × Value)} (d : decode cc pc = .ok (.astore_n k, 1)) (hi : (k : Nat) = i) (hn : i < nL) (hl : (i, Value.ref x) :: lv.filter (fun q => !(q.1 == i) && !(q.1 + 1 == i && q.2.category == 2)) = lv') (kk : J G nL kc ks (pc + 1) lv' st σ) : J G nL kc ks pc lv (.ref x :: st) σ :=
  fun ls H locs cells slots h1 h2 h3 h4 h5 h6 => lv_astore_n hG.1.1 hG.1.2.1 d hi h1 hn hl (fun ls' h' => kk ls' H locs cells slots h' h2 h3 h4 h5 h6)
theorem j_astore (hG : wOk G own cc nL fr lo) {i : Nat} {x : Nat} {lv' : List (Nat × Value)} (d : decode cc pc = .ok (.astore i, 2)) (hn : i < nL) (hl : (i, Value.ref x) :: lv.filter (fun q => !(q.1 == i) && !(q.1 + 1 == i && q.2.category == 2)) = lv') (kk : J G nL kc ks (pc + 2) lv' st σ) : J G nL kc ks pc lv (.ref x :: st) σ :=
  fun ls H locs cells slots h1 h2 h3 h4 h5 h6 => lv_astore hG.1.1 hG.1.2.1 d h1 hn hl (fun ls' h' => kk ls' H locs cells slots h' h2 h3 h4 h5 h6)
theorem j_fload_n (hG : wOk G own cc nL fr lo) (j : Nat) {i : Nat} {k : Fin 4} {x : UInt32} (d : decode cc pc = .ok (.fload_n k, 1)) (hi : (k : Nat) = i) (hl : lv[j]? = some (i, .float x)) (kk : J G nL kc ks (pc + 1) lv (.float x :: st) σ) : J G nL kc ks pc lv st σ :=
  fun ls H locs cells slots h1 h2 h3 h4 h5 h6 => lv_fload_n hG.1.1 hG.1.2.1 d hi (lv_at h1 j hl) (kk ls H locs cells slots h1 h2 h3 h4 h5 h6)
theorem j_fload (hG : wOk G own cc nL fr lo) (j : Nat) {i : Nat} {x : UInt32} (d : decode cc pc = .ok (.fload i, 2)) (hl : lv[j]? = some (i, .float x)) (kk : J G nL kc ks (pc + 2) lv (.float x :: st) σ) : J G nL kc ks pc lv st σ :=
  fun ls H locs cells slots h1 h2 h3 h4 h5 h6 => lv_fload hG.1.1 hG.1.2.1 d (lv_at h1 j hl) (kk ls H locs cells slots h1 h2 h3 h4 h5 h6)
theorem j_fstore_n (hG : wOk G own cc nL fr lo) {i : Nat} {k : Fin 4} {x : UInt32} {lv' : List (Nat × Value)} (d : decode cc pc = .ok (.fstore_n k, 1)) (hi : (k : Nat) = i) (hn : i < nL) (hl : (i, Value.float x) :: lv.filter (fun q => !(q.1 == i) && !(q.1 + 1 == i && q.2.category == 2)) = lv') (kk : J G nL kc ks (pc + 1) lv' st σ) : J G nL kc ks pc lv (.float x :: st) σ :=
  fun ls H locs cells slots h1 h2 h3 h4 h5 h6 => lv_fstore_n hG.1.1 hG.1.2.1 d hi h1 hn hl (fun ls' h' => kk ls' H locs cells slots h' h2 h3 h4 h5 h6)
theorem j_fstore (hG : wOk G own cc nL fr lo) {i : Nat} {x : UInt32} {lv' : List (Nat × Value)} (d : decode cc pc = .ok (.fstore i, 2)) (hn : i < nL) (hl : (i, Value.float x) :: lv.filter (fun q => !(q.1 == i) && !(q.1 + 1 == i && q.2.category == 2)) = lv') (kk : J G nL kc ks (pc + 2) lv' st σ) : J G nL kc ks pc lv (.float x :: st) σ :=
  fun ls H locs cells slots h1 h2 h3 h4 h5 h6 => lv_fstore hG.1.1 hG.1.2.1 d h1 hn hl (fun ls' h' => kk ls' H locs cells slots h' h2 h3 h4 h5 h6)
theorem j_dload_n (hG : wOk G own cc nL fr lo) (j : Nat) {i : Nat} {k : Fin 4} {x : UInt64} (d : decode cc pc = .ok (.dload_n k, 1)) (hi : (k : Nat) = i) (hl : lv[j]? = some (i, .double x)) (kk : J G nL kc ks (pc + 1) lv (.double x :: st) σ) : J G nL kc ks pc lv st σ :=
  fun ls H locs cells slots h1 h2 h3 h4 h5 h6 => lv_dload_n hG.1.1 hG.1.2.1 d hi (lv_at h1 j hl) (kk ls H locs cells slots h1 h2 h3 h4 h5 h6)
theorem j_dload (hG : wOk G own cc nL fr lo) (j : Nat) {i : Nat} {x : UInt64} (d : decode cc pc = .ok (.dload i, 2)) (hl : lv[j]? = some (i, .double x)) (kk : J G nL kc ks (pc + 2) lv (.double x :: st) σ) : J G nL kc ks pc lv st σ :=
  fun ls H locs cells slots h1 h2 h3 h4 h5 h6 => lv_dload hG.1.1 hG.1.2.1 d (lv_at h1 j hl) (kk ls H locs cells slots h1 h2 h3 h4 h5 h6)
theorem j_dstore_n (hG : wOk G own cc nL fr lo) {i : Nat} {k : Fin 4} {x : UInt64} {lv' : List (Nat × Value)} (d : decode cc pc = .ok (.dstore_n k, 1)) (hi : (k : Nat) = i) (hn : i + 1 < nL) (hl : (i, Value.double x) :: lv.filter (fun q => !(q.1 == i) && (!(q.1 == i + 1) && !(q.1 + 1 == i && q.2.category == 2))) = lv') (kk : J G nL kc ks (pc + 1) lv' st σ) : J G nL kc ks pc lv (.double x :: st) σ :=
  fun ls H locs cells slots h1 h2 h3 h4 h5 h6 => lv_dstore_n hG.1.1 hG.1.2.1 d hi h1 hn hl (fun ls' h' => kk ls' H locs cells slots h' h2 h3 h4 h5 h6)
theorem j_dstore (hG : wOk G own cc nL fr lo) {i : Nat} {x : UInt64} {lv' : List (Nat × Value)} (d : decode cc pc = .ok (.dstore i, 2)) (hn : i + 1 < nL) (hl : (i, Value.double x) :: lv.filter (fun q => !(q.1 == i) && (!(q.1 == i + 1) && !(q.1 + 1 == i && q.2.category == 2))) = lv') (kk : J G nL kc ks (pc + 2) lv' st σ) : J G nL kc ks pc lv (.double x :: st) σ :=
  fun ls H locs cells slots h1 h2 h3 h4 h5 h6 => lv_dstore hG.1.1 hG.1.2.1 d h1 hn hl (fun ls' h' => kk ls' H locs cells slots h' h2 h3 h4 h5 h6)
theorem j_iinc (hG : wOk G own cc nL fr lo) (j : Nat) {i : Nat} {n : Int} {x v : Int32} {lv' : List (Nat × Value)} (d : decode cc pc = .ok (.iinc i n, 3)) (hk : lv[j]? = some (i, .int x)) (hv : x + Int32.ofInt n = v) (hn : i < nL) (hl : (i, Value.int v) :: lv.filter (fun q => !(q.1 == i) && !(q.1 + 1 == i && q.2.category == 2)) = lv') (kk : J G nL kc ks (pc + 3) lv' st σ) : J G nL kc ks pc lv st σ :=
  fun ls H locs cells slots h1 h2 h3 h4 h5 h6 => lv_iinc hG.1.1 hG.1.2.1 d h1 hk hv hn hl (fun ls' h' => kk ls' H locs cells slots h' h2 h3 h4 h5 h6)
theorem j_iadd (hG : wOk G own cc nL fr lo) {x y : Int32} (d : decode cc pc = .ok (.iadd, 1)) (kk : J G nL kc ks (pc + 1) lv (.int (x + y) :: st) σ) : J G nL kc ks pc lv (.int y :: .int x :: st) σ :=
  fun ls H locs cells slots h1 h2 h3 h4 h5 h6 => lv_iadd hG.1.1 hG.1.2.1 d (kk ls H locs cells slots h1 h2 h3 h4 h5 h6)
theorem j_isub (hG : wOk G own cc nL fr lo) {x y : Int32} (d : decode cc pc = .ok (.isub, 1)) (kk : J G nL kc ks (pc + 1) lv (.int (x - y) :: st) σ) : J G nL kc ks pc lv (.int y :: .int x :: st) σ :=
  fun ls H locs cells slots h1 h2 h3 h4 h5 h6 => lv_isub hG.1.1 hG.1.2.1 d (kk ls H locs cells slots h1 h2 h3 h4 h5 h6)
theorem j_imul (hG : wOk G own cc nL fr lo) {x y : Int32} (d : decode cc pc = .ok (.imul, 1)) (kk : J G nL kc ks (pc + 1) lv (.int (x * y) :: st) σ) : J G nL kc ks pc lv (.int y :: .int x :: st) σ :=
  fun ls H locs cells slots h1 h2 h3 h4 h5 h6 => lv_imul hG.1.1 hG.1.2.1 d (kk ls H locs cells slots h1 h2 h3 h4 h5 h6)
theorem j_iand (hG : wOk G own cc nL fr lo) {x y : Int32} (d : decode cc pc = .ok (.iand, 1)) (kk : J G nL kc ks (pc + 1) lv (.int (x &&& y) :: st) σ) : J G nL kc ks pc lv (.int y :: .int x :: st) σ :=
  fun ls H locs cells slots h1 h2 h3 h4 h5 h6 => lv_iand hG.1.1 hG.1.2.1 d (kk ls H locs cells slots h1 h2 h3 h4 h5 h6)
theorem j_ior (hG : wOk G own cc nL fr lo) {x y : Int32} (d : decode cc pc = .ok (.ior, 1)) (kk : J G nL kc ks (pc + 1) lv (.int (x ||| y) :: st) σ) : J G nL kc ks pc lv (.int y :: .int x :: st) σ :=
  fun ls H locs cells slots h1 h2 h3 h4 h5 h6 => lv_ior hG.1.1 hG.1.2.1 d (kk ls H locs cells slots h1 h2 h3 h4 h5 h6)
theorem j_ixor (hG : wOk G own cc nL fr lo) {x y : Int32} (d : decode cc pc = .ok (.ixor, 1)) (kk : J G nL kc ks (pc + 1) lv (.int (x ^^^ y) :: st) σ) : J G nL kc ks pc lv (.int y :: .int x :: st) σ :=
  fun ls H locs cells slots h1 h2 h3 h4 h5 h6 => lv_ixor hG.1.1 hG.1.2.1 d (kk ls H locs cells slots h1 h2 h3 h4 h5 h6)
theorem j_ishl (hG : wOk G own cc nL fr lo) {x y : Int32} (d : decode cc pc = .ok (.ishl, 1)) (kk : J G nL kc ks (pc + 1) lv (.int (x <<< (y &&& 31)) :: st) σ) : J G nL kc ks pc lv (.int y :: .int x :: st) σ :=
  fun ls H locs cells slots h1 h2 h3 h4 h5 h6 => lv_ishl hG.1.1 hG.1.2.1 d (kk ls H locs cells slots h1 h2 h3 h4 h5 h6)
theorem j_ishr (hG : wOk G own cc nL fr lo) {x y : Int32} (d : decode cc pc = .ok (.ishr, 1)) (kk : J G nL kc ks (pc + 1) lv (.int (x >>> (y &&& 31)) :: st) σ) : J G nL kc ks pc lv (.int y :: .int x :: st) σ :=
  fun ls H locs cells slots h1 h2 h3 h4 h5 h6 => lv_ishr hG.1.1 hG.1.2.1 d (kk ls H locs cells slots h1 h2 h3 h4 h5 h6)
theorem j_lmul (hG : wOk G own cc nL fr lo) {x y : Int64} (d : decode cc pc = .ok (.lmul, 1)) (kk : J G nL kc ks (pc + 1) lv (.long (x * y) :: st) σ) : J G nL kc ks pc lv (.long y :: .long x :: st) σ :=
  fun ls H locs cells slots h1 h2 h3 h4 h5 h6 => lv_lmul hG.1.1 hG.1.2.1 d (kk ls H locs cells slots h1 h2 h3 h4 h5 h6)
theorem j_idiv (hG : wOk G own cc nL fr lo) {x y : Int32} (d : decode cc pc = .ok (.idiv, 1)) (hne : ¬ y = 0) (kk : J G nL kc ks (pc + 1) lv (.int (x / y) :: st) σ) : J G nL kc ks pc lv (.int y :: .int x :: st) σ :=
  fun ls H locs cells slots h1 h2 h3 h4 h5 h6 => lv_idiv hG.1.1 hG.1.2.1 d hne (kk ls H locs cells slots h1 h2 h3 h4 h5 h6)
theorem j_irem (hG : wOk G own cc nL fr lo) {x y : Int32} (d : decode cc pc = .ok (.irem, 1)) (hne : ¬ y = 0) (kk : J G nL kc ks (pc + 1) lv (.int (x - x / y * y) :: st) σ) : J G nL kc ks pc lv (.int y :: .int x :: st) σ :=
  fun ls H locs cells slots h1 h2 h3 h4 h5 h6 => lv_irem hG.1.1 hG.1.2.1 d hne (kk ls H locs cells slots h1 h2 h3 h4 h5 h6)
theorem j_ldiv (hG : wOk G own cc nL fr lo) {x y : Int64} (d : decode cc pc = .ok (.ldiv, 1)) (hne : ¬ y = 0) (kk : J G nL kc ks (pc + 1) lv (.long (x / y) :: st) σ) : J G nL kc ks pc lv (.long y :: .long x :: st) σ :=
  fun ls H locs cells slots h1 h2 h3 h4 h5 h6 => lv_ldiv hG.1.1 hG.1.2.1 d hne (kk ls H locs cells slots h1 h2 h3 h4 h5 h6)
theorem j_lcmp (hG : wOk G own cc nL fr lo) {x y : Int64} (d : decode cc pc = .ok (.lcmp, 1)) (kk : J G nL kc ks (pc + 1) lv (.int (lg_cmp x y) :: st) σ) : J G nL kc ks pc lv (.long y :: .long x :: st) σ :=
  fun ls H locs cells slots h1 h2 h3 h4 h5 h6 => W.lcmp hG.1.1 hG.1.2.1 d (kk ls H locs cells slots h1 h2 h3 h4 h5 h6)
theorem j_i2l (hG : wOk G own cc nL fr lo) {x : Int32} (d : decode cc pc = .ok (.i2l, 1)) (kk : J G nL kc ks (pc + 1) lv (.long x.toInt64 :: st) σ) : J G nL kc ks pc lv (.int x :: st) σ :=
  fun ls H locs cells slots h1 h2 h3 h4 h5 h6 => lv_i2l hG.1.1 hG.1.2.1 d rfl (kk ls H locs cells slots h1 h2 h3 h4 h5 h6)
theorem j_i2c (hG : wOk G own cc nL fr lo) {x : Int32} (d : decode cc pc = .ok (.i2c, 1)) (kk : J G nL kc ks (pc + 1) lv (.int (x.toUInt32 % 65536).toInt32 :: st) σ) : J G nL kc ks pc lv (.int x :: st) σ :=
  fun ls H locs cells slots h1 h2 h3 h4 h5 h6 => lv_i2c hG.1.1 hG.1.2.1 d rfl (kk ls H locs cells slots h1 h2 h3 h4 h5 h6)
theorem j_i2f (hG : wOk G own cc nL fr lo) {x : Int32} (d : decode cc pc = .ok (.i2f, 1)) (kk : J G nL kc ks (pc + 1) lv (.float (FP.i2f x) :: st) σ) : J G nL kc ks pc lv (.int x :: st) σ :=
  fun ls H locs cells slots h1 h2 h3 h4 h5 h6 => lv_i2f hG.1.1 hG.1.2.1 d (kk ls H locs cells slots h1 h2 h3 h4 h5 h6)
theorem j_i2d (hG : wOk G own cc nL fr lo) {x : Int32} (d : decode cc pc = .ok (.i2d, 1)) (kk : J G nL kc ks (pc + 1) lv (.double (FP.i2d x) :: st) σ) : J G nL kc ks pc lv (.int x :: st) σ :=
  fun ls H locs cells slots h1 h2 h3 h4 h5 h6 => lv_i2d hG.1.1 hG.1.2.1 d (kk ls H locs cells slots h1 h2 h3 h4 h5 h6)
theorem j_f2d (hG : wOk G own cc nL fr lo) {x : UInt32} (d : decode cc pc = .ok (.f2d, 1)) (hne : vf_n64 (FP.f2d x)) (kk : J G nL kc ks (pc + 1) lv (.double (FP.f2d x) :: st) σ) : J G nL kc ks pc lv (.float x :: st) σ :=
  fun ls H locs cells slots h1 h2 h3 h4 h5 h6 => lv_f2d hG.1.1 hG.1.2.1 d hne (kk ls H locs cells slots h1 h2 h3 h4 h5 h6)
theorem j_fdiv (hG : wOk G own cc nL fr lo) {x y : UInt32} (d : decode cc pc = .ok (.fdiv, 1)) (hne : vf_n32 (FP.fdiv x y)) (kk : J G nL kc ks (pc + 1) lv (.float (FP.fdiv x y) :: st) σ) : J G nL kc ks pc lv (.float y :: .float x :: st) σ :=
  fun ls H locs cells slots h1 h2 h3 h4 h5 h6 => lv_fdiv hG.1.1 hG.1.2.1 d hne (kk ls H locs cells slots h1 h2 h3 h4 h5 h6)
theorem j_ddiv (hG : wOk G own cc nL fr lo) {x y : UInt64} (d : decode cc pc = .ok (.ddiv, 1)) (hne : vf_n64 (FP.ddiv x y)) (kk : J G nL kc ks (pc + 1) lv (.double (FP.ddiv x y) :: st) σ) : J G nL kc ks pc lv (.double y :: .double x :: st) σ :=
  fun ls H locs cells slots h1 h2 h3 h4 h5 h6 => lv_ddiv hG.1.1 hG.1.2.1 d hne (kk ls H locs cells slots h1 h2 h3 h4 h5 h6)
theorem j_fcmp (hG : wOk G own cc nL fr lo) {x y : UInt32} {op : CmpOp} (d : decode cc pc = .ok (.fcmp op, 1)) (kk : J G nL kc ks (pc + 1) lv (.int (Op.cmpValue (FP.fcmp x y) op) :: st) σ) : J G nL kc ks pc lv (.float y :: .float x :: st) σ :=
  fun ls H locs cells slots h1 h2 h3 h4 h5 h6 => lv_fcmp hG.1.1 hG.1.2.1 d (kk ls H locs cells slots h1 h2 h3 h4 h5 h6)
theorem j_dcmp (hG : wOk G own cc nL fr lo) {x y : UInt64} {op : CmpOp} (d : decode cc pc = .ok (.dcmp op, 1)) (kk : J G nL kc ks (pc + 1) lv (.int (Op.cmpValue (FP.dcmp x y) op) :: st) σ) : J G nL kc ks pc lv (.double y :: .double x :: st) σ :=
  fun ls H locs cells slots h1 h2 h3 h4 h5 h6 => lv_dcmp hG.1.1 hG.1.2.1 d (kk ls H locs cells slots h1 h2 h3 h4 h5 h6)
theorem j_dup (hG : wOk G own cc nL fr lo) {va : Value} (d : decode cc pc = .ok (.dup, 1)) (hva : va.category = 1) (kk : J G nL kc ks (pc + 1) lv (va :: va :: st) σ) : J G nL kc ks pc lv (va :: st) σ :=
  fun ls H locs cells slots h1 h2 h3 h4 h5 h6 => lv_dup hG.1.1 hG.1.2.1 d hva (kk ls H locs cells slots h1 h2 h3 h4 h5 h6)
theorem j_pop (hG : wOk G own cc nL fr lo) {va : Value} (d : decode cc pc = .ok (.pop, 1)) (hva : va.category = 1) (kk : J G nL kc ks (pc + 1) lv (st) σ) : J G nL kc ks pc lv (va :: st) σ :=
  fun ls H locs cells slots h1 h2 h3 h4 h5 h6 => lv_pop hG.1.1 hG.1.2.1 d hva (kk ls H locs cells slots h1 h2 h3 h4 h5 h6)
theorem j_dup2 (hG : wOk G own cc nL fr lo) {va vb : Value} (d : decode cc pc = .ok (.dup2, 1)) (hva : va.category = 1) (hvb : vb.category = 1) (kk : J G nL kc ks (pc + 1) lv (va :: vb :: va :: vb :: st) σ) : J G nL kc ks pc lv (va :: vb :: st) σ :=
  fun ls H locs cells slots h1 h2 h3 h4 h5 h6 => lv_dup2_11 hG.1.1 hG.1.2.1 d hva hvb (kk ls H locs cells slots h1 h2 h3 h4 h5 h6)
variable {ρ : Type} {res : ρ}
/-- a part of a run's pure side that is there -/
def inb (i : Int32) (n : Nat) : Bool := !(decide (i < 0)) && decide (i.toNatClampNeg < n)
theorem inb_vp {i : Int32} {n : Nat} (h : inb i n = true) : vp_in i n := by
  simp only [inb, Bool.and_eq_true, Bool.not_eq_true', decide_eq_false_iff_not, decide_eq_true_eq] at h
  unfold vp_in
  exact fun q => q.elim h.1 (fun z => by omega)
def wget {ρ : Type} (n : Nat) (f : Nat → Int32) (i : Int32) (K : Int32 → Option ρ) : Option ρ := if inb i n = true then K (f i.toNatClampNeg) else none
def wput {ρ : Type} (X : wM) (k n : Nat) (i x : Int32) (K : wM → Option ρ) : Option ρ := if inb i n = true then K (updM X k (upd (X k) i.toNatClampNeg x)) else none
def wfld {ρ : Type} (X : wM) (k j : Nat) (x : Int32) (K : wM → Option ρ) : Option ρ := K (updM X k (upd (X k) j x))
def wbd {α ρ : Type} (a : α) (K : α → Option ρ) : Option ρ := K a
def wgd {ρ : Type} (c : Bool) (a : Option ρ) : Option ρ := if c = true then a else none
theorem wget_ok {n : Nat} {f : Nat → Int32} {i : Int32} {K : Int32 → Option ρ} (h : wget n f i K = some res) : vp_in i n ∧ K (f i.toNatClampNeg) = some res := by
  unfold wget at h
  split at h
  · rename_i g; exact ⟨inb_vp g, h⟩
  · cases h
theorem wput_ok {X : wM} {k n : Nat} {i x : Int32} {K : wM → Option ρ} (h : wput X k n i x K = some res) : vp_in i n ∧ K (updM X k (upd (X k) i.toNatClampNeg x)) = some res := by
  unfold wput at h
  split at h
  · rename_i g; exact ⟨inb_vp g, h⟩
  · cases h
theorem wgd_ok {c : Bool} {a : Option ρ} (h : wgd c a = some res) : c = true ∧ a = some res := by
  unfold wgd at h
  split at h
  · rename_i g; exact ⟨g, h⟩
  · cases h
theorem ob {α : Type} {o : Option α} {K : α → Option ρ} (h : o.bind K = some res) : ∃ y, o = some y ∧ K y = some res := Option.bind_eq_some_iff.mp h
theorem j_if_eq (hG : wOk G own cc nL fr lo) {x : Int32} {off : Int} {tgt : Nat} {A B : Option ρ} (d : decode cc pc = .ok (.ifCond .eq off, 3)) (ht : (pc : Int) + off = (tgt : Int)) (h : (if x = 0 then A else B) = some res) (kA : A = some res → J G nL kc ks tgt lv st σ) (kB : B = some res → J G nL kc ks (pc + 3) lv st σ) : J G nL kc ks pc lv (.int x :: st) σ :=
  fun ls H locs cells slots h1 h2 h3 h4 h5 h6 => lv_if_eq hG.1.1 hG.1.2.1 d ht (fun q => kA (by rw [if_pos q] at h; exact h) ls H locs cells slots h1 h2 h3 h4 h5 h6) (fun q => kB (by rw [if_neg q] at h; exact h) ls H locs cells slots h1 h2 h3 h4 h5 h6)
theorem j_if_ne (hG : wOk G own cc nL fr lo) {x : Int32} {off : Int} {tgt : Nat} {A B : Option ρ} (d : decode cc pc = .ok (.ifCond .ne off, 3)) (ht : (pc : Int) + off = (tgt : Int)) (h : (if x = 0 then A else B) = some res) (kA : A = some res → J G nL kc ks (pc + 3) lv st σ) (kB : B = some res → J G nL kc ks tgt lv st σ) : J G nL kc ks pc lv (.int x :: st) σ :=
  fun ls H locs cells slots h1 h2 h3 h4 h5 h6 => lv_if_ne hG.1.1 hG.1.2.1 d ht (fun q => kB (by rw [if_neg q] at h; exact h) ls H locs cells slots h1 h2 h3 h4 h5 h6) (fun q => kA (by rw [if_pos q] at h; exact h) ls H locs cells slots h1 h2 h3 h4 h5 h6)
theorem j_if_lt (hG : wOk G own cc nL fr lo) {x : Int32} {off : Int} {tgt : Nat} {A B : Option ρ} (d : decode cc pc = .ok (.ifCond .lt off, 3)) (ht : (pc : Int) + off = (tgt : Int)) (h : (if x < 0 then A else B) = some res) (kA : A = some res → J G nL kc ks tgt lv st σ) (kB : B = some res → J G nL kc ks (pc + 3) lv st σ) : J G nL kc ks pc lv (.int x :: st) σ :=
  fun ls H locs cells slots h1 h2 h3 h4 h5 h6 => lv_if_lt hG.1.1 hG.1.2.1 d ht (fun q => kA (by rw [if_pos q] at h; exact h) ls H locs cells slots h1 h2 h3 h4 h5 h6) (fun q => kB (by rw [if_neg q] at h; exact h) ls H locs cells slots h1 h2 h3 h4 h5 h6)
theorem j_if_ge (hG : wOk G own cc nL fr lo) {x : Int32} {off : Int} {tgt : Nat} {A B : Option ρ} (d : decode cc pc = .ok (.ifCond .ge off, 3)) (ht : (pc : Int) + off = (tgt : Int)) (h : (if x < 0 then A else B) = some res) (kA : A = some res → J G nL kc ks (pc + 3) lv st σ) (kB : B = some res → J G nL kc ks tgt lv st σ) : J G nL kc ks pc lv (.int x :: st) σ :=
  fun ls H locs cells slots h1 h2 h3 h4 h5 h6 => lv_if_ge hG.1.1 hG.1.2.1 d ht (fun q => kB (by rw [if_neg (Int32.not_lt.mpr q)] at h; exact h) ls H locs cells slots h1 h2 h3 h4 h5 h6) (fun q => kA (by rw [if_pos (Int32.not_le.mp q)] at h; exact h) ls H locs cells slots h1 h2 h3 h4 h5 h6)
theorem j_if_gt (hG : wOk G own cc nL fr lo) {x : Int32} {off : Int} {tgt : Nat} {A B : Option ρ} (d : decode cc pc = .ok (.ifCond .gt off, 3)) (ht : (pc : Int) + off = (tgt : Int)) (h : (if 0 < x then A else B) = some res) (kA : A = some res → J G nL kc ks tgt lv st σ) (kB : B = some res → J G nL kc ks (pc + 3) lv st σ) : J G nL kc ks pc lv (.int x :: st) σ :=
  fun ls H locs cells slots h1 h2 h3 h4 h5 h6 => lv_if_gt hG.1.1 hG.1.2.1 d ht (fun q => kA (by rw [if_pos q] at h; exact h) ls H locs cells slots h1 h2 h3 h4 h5 h6) (fun q => kB (by rw [if_neg q] at h; exact h) ls H locs cells slots h1 h2 h3 h4 h5 h6)
theorem j_if_le (hG : wOk G own cc nL fr lo) {x : Int32} {off : Int} {tgt : Nat} {A B : Option ρ} (d : decode cc pc = .ok (.ifCond .le off, 3)) (ht : (pc : Int) + off = (tgt : Int)) (h : (if 0 < x then A else B) = some res) (kA : A = some res → J G nL kc ks (pc + 3) lv st σ) (kB : B = some res → J G nL kc ks tgt lv st σ) : J G nL kc ks pc lv (.int x :: st) σ :=
  fun ls H locs cells slots h1 h2 h3 h4 h5 h6 => lv_if_le hG.1.1 hG.1.2.1 d ht (fun q => kB (by rw [if_neg (Int32.not_lt.mpr q)] at h; exact h) ls H locs cells slots h1 h2 h3 h4 h5 h6) (fun q => kA (by rw [if_pos (Int32.not_le.mp q)] at h; exact h) ls H locs cells slots h1 h2 h3 h4 h5 h6)
theorem j_icmp_eq (hG : wOk G own cc nL fr lo) {x y : Int32} {off : Int} {tgt : Nat} {A B : Option ρ} (d : decode cc pc = .ok (.if_icmp .eq off, 3)) (ht : (pc : Int) + off = (tgt : Int)) (h : (if x = y then A else B) = some res) (kA : A = some res → J G nL kc ks tgt lv st σ) (kB : B = some res → J G nL kc ks (pc + 3) lv st σ) : J G nL kc ks pc lv (.int y :: .int x :: st) σ :=
  fun ls H locs cells slots h1 h2 h3 h4 h5 h6 => lv_icmp_eq hG.1.1 hG.1.2.1 d ht (fun q => kA (by rw [if_pos q] at h; exact h) ls H locs cells slots h1 h2 h3 h4 h5 h6) (fun q => kB (by rw [if_neg q] at h; exact h) ls H locs cells slots h1 h2 h3 h4 h5 h6)
theorem j_icmp_ne (hG : wOk G own cc nL fr lo) {x y : Int32} {off : Int} {tgt : Nat} {A B : Option ρ} (d : decode cc pc = .ok (.if_icmp .ne off, 3)) (ht : (pc : Int) + off = (tgt : Int)) (h : (if x = y then A else B) = some res) (kA : A = some res → J G nL kc ks (pc + 3) lv st σ) (kB : B = some res → J G nL kc ks tgt lv st σ) : J G nL kc ks pc lv (.int y :: .int x :: st) σ :=
  fun ls H locs cells slots h1 h2 h3 h4 h5 h6 => lv_icmp_ne hG.1.1 hG.1.2.1 d ht (fun q => kB (by rw [if_neg q] at h; exact h) ls H locs cells slots h1 h2 h3 h4 h5 h6) (fun q => kA (by rw [if_pos q] at h; exact h) ls H locs cells slots h1 h2 h3 h4 h5 h6)
theorem j_icmp_lt (hG : wOk G own cc nL fr lo) {x y : Int32} {off : Int} {tgt : Nat} {A B : Option ρ} (d : decode cc pc = .ok (.if_icmp .lt off, 3)) (ht : (pc : Int) + off = (tgt : Int)) (h : (if x < y then A else B) = some res) (kA : A = some res → J G nL kc ks tgt lv st σ) (kB : B = some res → J G nL kc ks (pc + 3) lv st σ) : J G nL kc ks pc lv (.int y :: .int x :: st) σ :=
  fun ls H locs cells slots h1 h2 h3 h4 h5 h6 => lv_icmp_lt hG.1.1 hG.1.2.1 d ht (fun q => kA (by rw [if_pos q] at h; exact h) ls H locs cells slots h1 h2 h3 h4 h5 h6) (fun q => kB (by rw [if_neg q] at h; exact h) ls H locs cells slots h1 h2 h3 h4 h5 h6)
theorem j_icmp_ge (hG : wOk G own cc nL fr lo) {x y : Int32} {off : Int} {tgt : Nat} {A B : Option ρ} (d : decode cc pc = .ok (.if_icmp .ge off, 3)) (ht : (pc : Int) + off = (tgt : Int)) (h : (if x < y then A else B) = some res) (kA : A = some res → J G nL kc ks (pc + 3) lv st σ) (kB : B = some res → J G nL kc ks tgt lv st σ) : J G nL kc ks pc lv (.int y :: .int x :: st) σ :=
  fun ls H locs cells slots h1 h2 h3 h4 h5 h6 => lv_icmp_ge hG.1.1 hG.1.2.1 d ht (fun q => kB (by rw [if_neg (Int32.not_lt.mpr q)] at h; exact h) ls H locs cells slots h1 h2 h3 h4 h5 h6) (fun q => kA (by rw [if_pos (Int32.not_le.mp q)] at h; exact h) ls H locs cells slots h1 h2 h3 h4 h5 h6)
theorem j_icmp_gt (hG : wOk G own cc nL fr lo) {x y : Int32} {off : Int} {tgt : Nat} {A B : Option ρ} (d : decode cc pc = .ok (.if_icmp .gt off, 3)) (ht : (pc : Int) + off = (tgt : Int)) (h : (if y < x then A else B) = some res) (kA : A = some res → J G nL kc ks tgt lv st σ) (kB : B = some res → J G nL kc ks (pc + 3) lv st σ) : J G nL kc ks pc lv (.int y :: .int x :: st) σ :=
  fun ls H locs cells slots h1 h2 h3 h4 h5 h6 => lv_icmp_gt hG.1.1 hG.1.2.1 d ht (fun q => kA (by rw [if_pos q] at h; exact h) ls H locs cells slots h1 h2 h3 h4 h5 h6) (fun q => kB (by rw [if_neg q] at h; exact h) ls H locs cells slots h1 h2 h3 h4 h5 h6)
theorem j_icmp_le (hG : wOk G own cc nL fr lo) {x y : Int32} {off : Int} {tgt : Nat} {A B : Option ρ} (d : decode cc pc = .ok (.if_icmp .le off, 3)) (ht : (pc : Int) + off = (tgt : Int)) (h : (if y < x then A else B) = some res) (kA : A = some res → J G nL kc ks (pc + 3) lv st σ) (kB : B = some res → J G nL kc ks tgt lv st σ) : J G nL kc ks pc lv (.int y :: .int x :: st) σ :=
  fun ls H locs cells slots h1 h2 h3 h4 h5 h6 => lv_icmp_le hG.1.1 hG.1.2.1 d ht (fun q => kB (by rw [if_neg (Int32.not_lt.mpr q)] at h; exact h) ls H locs cells slots h1 h2 h3 h4 h5 h6) (fun q => kA (by rw [if_pos (Int32.not_le.mp q)] at h; exact h) ls H locs cells slots h1 h2 h3 h4 h5 h6)
theorem j_goto (hG : wOk G own cc nL fr lo) {off : Int} {tgt : Nat} (d : decode cc pc = .ok (.goto off, 3)) (ht : (pc : Int) + off = (tgt : Int)) (kk : J G nL kc ks tgt lv st σ) : J G nL kc ks pc lv st σ :=
  fun ls H locs cells slots h1 h2 h3 h4 h5 h6 => lv_goto hG.1.1 hG.1.2.1 d ht (kk ls H locs cells slots h1 h2 h3 h4 h5 h6)
/-- a table's reference that may be null -/
theorem j_ifnull (hG : wOk G own cc nL fr lo) {td : Nat → Nat} {o : Option Nat} {off : Int} {tgt : Nat} {A : Option ρ} {B : Nat → Option ρ} (d : decode cc pc = .ok (.ifnull off, 3)) (ht : (pc : Int) + off = (tgt : Int)) (h : (match o with | none => A | some i => B i) = some res) (kA : o = none → A = some res → J G nL kc ks tgt lv st σ) (kB : ∀ i, o = some i → B i = some res → J G nL kc ks (pc + 3) lv st σ) : J G nL kc ks pc lv (va_rf (o.map td) :: st) σ := by
  intro ls H locs cells slots h1 h2 h3 h4 h5 h6
  cases o with
  | none => exact lv_ifnullN hG.1.1 hG.1.2.1 d ht (kA rfl h ls H locs cells slots h1 h2 h3 h4 h5 h6)
  | some i => exact lv_ifnull hG.1.1 hG.1.2.1 d (kB i rfl h ls H locs cells slots h1 h2 h3 h4 h5 h6)
theorem j_ifnonnull (hG : wOk G own cc nL fr lo) {td : Nat → Nat} {o : Option Nat} {off : Int} {tgt : Nat} {A : Option ρ} {B : Nat → Option ρ} (d : decode cc pc = .ok (.ifnonnull off, 3)) (ht : (pc : Int) + off = (tgt : Int)) (h : (match o with | none => A | some i => B i) = some res) (kA : o = none → A = some res → J G nL kc ks (pc + 3) lv st σ) (kB : ∀ i, o = some i → B i = some res → J G nL kc ks tgt lv st σ) : J G nL kc ks pc lv (va_rf (o.map td) :: st) σ := by
  intro ls H locs cells slots h1 h2 h3 h4 h5 h6
  cases o with
  | none => exact lv_ifnonnullN hG.1.1 hG.1.2.1 d (kA rfl h ls H locs cells slots h1 h2 h3 h4 h5 h6)
  | some i => exact lv_ifnonnull hG.1.1 hG.1.2.1 d ht (kB i rfl h ls H locs cells slots h1 h2 h3 h4 h5 h6)
/-- a class of the world -/
def wCl (ci : Nat) (C : String) (T : u_T) (N : Nat) (ty : Nat → FieldType) : Prop := vwCl[ci]? = some (C, T, N) ∧ (∀ c ∈ u_ws C T N, c ∈ wTs) ∧ (∀ k, k < N → parseFieldDescriptor (T k).2.2.1 = some (ty k)) ∧ ∀ a, a < N → ∀ b, b < N → a ≠ b → (T a).2.1 ≠ (T b).2.1
theorem j_get (hG : wOk G own cc nL fr lo) {ci : Nat} {C : String} {T : u_T} {N : Nat} {ty : Nat → FieldType} (hc : wCl ci C T N ty) (k0 kf : Nat) {index a : Nat} {fs : List Value} {v : Value} (he : (wl (gB G) σ)[k0]? = some (a, .inr (ci, fs))) (hk : kf < N) (hl : Cond.fieldLink own index C (T kf).2.1 (T kf).2.2.1 ∈ wTs) (hd : (T kf).1 = C) (hv : fs[kf]? = some v) (d : decode cc pc = .ok (.getfield index, 3)) (kk : J G nL kc ks (pc + 3) lv (v :: st) σ) : J G nL kc ks pc lv (.ref a :: st) σ :=
  fun ls H locs cells slots h1 h2 h3 h4 h5 h6 => va_get hG.1.1 hG.1.2.1 (Ts := wTs) (fun c q => hG.word q) hc.2.1 hG.1.2.2.2.1 hG.2.1 h2 k0 he hc.1 kf hk (hG.word hl) (fun x q => by rw [← hd]; exact q) hv d (kk ls H locs cells slots h1 h2 h3 h4 h5 h6)
theorem j_putK (hG : wOk G own cc nL fr lo) {ci : Nat} {C : String} {T : u_T} {N : Nat} {ty : Nat → FieldType} (hc : wCl ci C T N ty) (k0 kf : Nat) {index a : Nat} {fs : List Value} {v : Value} {fty : FieldType} {σ' : wS} (he : (wl (gB G) σ)[k0]? = some (a, .inr (ci, fs))) (hk : kf < N) (hl : Cond.fieldLink own index C (T kf).2.1 (T kf).2.2.1 ∈ wTs) (hd : (T kf).1 = C) (hf : (T kf).2.2.2 = false) (hp : parseFieldDescriptor (T kf).2.2.1 = some fty) (hn : narrow fty v = v) (ht : fits fty v = true) (hlen : kf < fs.length) (hset : (wl (gB G) σ).set k0 (a, .inr (ci, fs.set kf v)) = wl (gB G) σ') (d : decode cc pc = .ok (.putfield index, 3)) (kk : J G nL kc ks (pc + 3) lv st σ') : J G nL kc ks pc lv (v :: .ref a :: st) σ :=
  fun ls H locs cells slots h1 h2 h3 h4 h5 h6 => va_put hG.1.1 hG.1.2.1 (Ts := wTs) (fun c q => hG.word q) hc.2.1 ty hc.2.2.1 hc.2.2.2 hG.1.2.2.2.1 hG.2.1 h2 h3 h4 k0 he hc.1 kf hk (hG.word hl) (fun x q => by rw [← hd]; exact q) hf hp hn ht hlen d (fun H1 locs1 g2 g3 g4 => kk ls H1 locs1 cells slots h1 (by rw [← hset]; exact g2) (by rw [← hset]; exact g3) g4 h5 h6)
/-- a field of int is written; X goes on under a new name -/
theorem j_put (hG : wOk G own cc nL fr lo) {ci : Nat} {C : String} {T : u_T} {N : Nat} {ty : Nat → FieldType} (hc : wCl ci C T N ty) (k0 kf : Nat) {index a : Nat} {fs : List Value} {x : Int32} {fty : FieldType} {X : wM} {k : Nat} {K : wM → Option ρ} (sf : wM → wS) (he : (wl (gB G) σ)[k0]? = some (a, .inr (ci, fs))) (hk : kf < N) (hl : Cond.fieldLink own index C (T kf).2.1 (T kf).2.2.1 ∈ wTs) (hd : (T kf).1 = C) (hf : (T kf).2.2.2 = false) (hp : parseFieldDescriptor (T kf).2.2.1 = some fty) (hn : narrow fty (.int x) = .int x) (ht : fits fty (.int x) = true) (hlen : kf < fs.length) (hset : (wl (gB G) σ).set k0 (a, .inr (ci, fs.set kf (.int x))) = wl (gB G) (sf (updM X k (upd (X k) kf x)))) (h : wfld X k kf x K = some res) (d : decode cc pc = .ok (.putfield index, 3)) (kk : ∀ X', K X' = some res → J G nL kc ks (pc + 3) lv st (sf X')) : J G nL kc ks pc lv (.int x :: .ref a :: st) σ :=
  j_putK hG hc k0 kf he hk hl hd hf hp hn ht hlen hset d (kk _ h)
theorem j_iald (hG : wOk G own cc nL fr lo) (k0 : Nat) {a n : Nat} {f : Nat → Int32} {i : Int32} {K : Int32 → Option ρ} (he : (wl (gB G) σ)[k0]? = some (a, .inl (wdA (gB G) 0, n, .inl f))) (h : wget n f i K = some res) (d : decode cc pc = .ok (.iaload, 1)) (kk : ∀ v, K v = some res → J G nL kc ks (pc + 1) lv (.int v :: st) σ) : J G nL kc ks pc lv (.int i :: .ref a :: st) σ :=
  fun ls H locs cells slots h1 h2 h3 h4 h5 h6 => va_iald hG.1.1 hG.1.2.1 hG.2.1 h2 k0 0 he rfl (wget_ok h).1 d (kk _ (wget_ok h).2 ls H locs cells slots h1 h2 h3 h4 h5 h6)
theorem j_zald (hG : wOk G own cc nL fr lo) (k0 : Nat) {a n : Nat} {f : Nat → Int32} {i : Int32} {K : Int32 → Option ρ} (he : (wl (gB G) σ)[k0]? = some (a, .inl (wdA (gB G) 1, n, .inl f))) (h : wget n f i K = some res) (d : decode cc pc = .ok (.baload, 1)) (kk : ∀ v, K v = some res → J G nL kc ks (pc + 1) lv (.int v :: st) σ) : J G nL kc ks pc lv (.int i :: .ref a :: st) σ :=
  fun ls H locs cells slots h1 h2 h3 h4 h5 h6 => va_zald hG.1.1 hG.1.2.1 hG.2.1 h2 k0 1 he rfl (wget_ok h).1 d (kk _ (wget_ok h).2 ls H locs cells slots h1 h2 h3 h4 h5 h6)
theorem j_cald (hG : wOk G own cc nL fr lo) (k0 : Nat) {a n : Nat} {f : Nat → Int32} {i : Int32} {K : Int32 → Option ρ} (he : (wl (gB G) σ)[k0]? = some (a, .inl (wdA (gB G) 2, n, .inl f))) (h : wget n f i K = some res) (d : decode cc pc = .ok (.caload, 1)) (kk : ∀ v, K v = some res → J G nL kc ks (pc + 1) lv (.int v :: st) σ) : J G nL kc ks pc lv (.int i :: .ref a :: st) σ :=
  fun ls H locs cells slots h1 h2 h3 h4 h5 h6 => va_cald hG.1.1 hG.1.2.1 hG.2.1 h2 k0 2 he rfl (wget_ok h).1 d (kk _ (wget_ok h).2 ls H locs cells slots h1 h2 h3 h4 h5 h6)
theorem j_iast (hG : wOk G own cc nL fr lo) (k0 : Nat) {a n k : Nat} {i x : Int32} {X : wM} {K : wM → Option ρ} (sf : wM → wS) (he : (wl (gB G) σ)[k0]? = some (a, .inl (wdA (gB G) 0, n, .inl (X k)))) (hset : ∀ g, (wl (gB G) σ).set k0 (a, .inl (wdA (gB G) 0, n, .inl g)) = wl (gB G) (sf (updM X k g))) (h : wput X k n i x K = some res) (d : decode cc pc = .ok (.iastore, 1)) (kk : ∀ X', K X' = some res → J G nL kc ks (pc + 1) lv st (sf X')) : J G nL kc ks pc lv (.int x :: .int i :: .ref a :: st) σ :=
  fun ls H locs cells slots h1 h2 h3 h4 h5 h6 => va_iast hG.1.1 hG.1.2.1 hG.2.1 h2 h3 h4 k0 0 he rfl (wput_ok h).1 d (fun H1 locs1 g2 g3 g4 => kk _ (wput_ok h).2 ls H1 locs1 cells slots h1 (by rw [← hset]; exact g2) (by rw [← hset]; exact g3) g4 h5 h6)
theorem j_zast (hG : wOk G own cc nL fr lo) (k0 : Nat) {a n k : Nat} {i x : Int32} {X : wM} {K : wM → Option ρ} (sf : wM → wS) (he : (wl (gB G) σ)[k0]? = some (a, .inl (wdA (gB G) 1, n, .inl (X k)))) (hset : ∀ g, (wl (gB G) σ).set k0 (a, .inl (wdA (gB G) 1, n, .inl g)) = wl (gB G) (sf (updM X k g))) (h : wput X k n i (vp_nar .boolean x) K = some res) (d : decode cc pc = .ok (.bastore, 1)) (kk : ∀ X', K X' = some res → J G nL kc ks (pc + 1) lv st (sf X')) : J G nL kc ks pc lv (.int x :: .int i :: .ref a :: st) σ :=
  fun ls H locs cells slots h1 h2 h3 h4 h5 h6 => va_zast hG.1.1 hG.1.2.1 hG.2.1 h2 h3 h4 k0 1 he rfl (wput_ok h).1 d (fun H1 locs1 g2 g3 g4 => kk _ (wput_ok h).2 ls H1 locs1 cells slots h1 (by rw [← hset]; exact g2) (by rw [← hset]; exact g3) g4 h5 h6)
theorem j_cast (hG : wOk G own cc nL fr lo) (k0 : Nat) {a n k : Nat} {i x : Int32} {X : wM} {K : wM → Option ρ} (sf : wM → wS) (he : (wl (gB G) σ)[k0]? = some (a, .inl (wdA (gB G) 2, n, .inl (X k)))) (hset : ∀ g, (wl (gB G) σ).set k0 (a, .inl (wdA (gB G) 2, n, .inl g)) = wl (gB G) (sf (updM X k g))) (h : wput X k n i (vp_nar .char x) K = some res) (d : decode cc pc = .ok (.castore, 1)) (kk : ∀ X', K X' = some res → J G nL kc ks (pc + 1) lv st (sf X')) : J G nL kc ks pc lv (.int x :: .int i :: .ref a :: st) σ :=
  fun ls H locs cells slots h1 h2 h3 h4 h5 h6 => va_cast hG.1.1 hG.1.2.1 hG.2.1 h2 h3 h4 k0 2 he rfl (wput_ok h).1 d (fun H1 locs1 g2 g3 g4 => kk _ (wput_ok h).2 ls H1 locs1 cells slots h1 (by rw [← hset]; exact g2) (by rw [← hset]; exact g3) g4 h5 h6)
/-- the class's tables: the i-th, or null -/
theorem j_aald (hG : wOk G own cc nL fr lo) {X Y : wM} {o : Int64} {dd : UInt64} {td : Nat → Nat} {i : Int32} {K : Option Nat → Option ρ} (h : (if inb i 8 = true then K (if i.toNatClampNeg < wT X then some i.toNatClampNeg else none) else none) = some res) (d : decode cc pc = .ok (.aaload, 1)) (kk : ∀ v, K v = some res → J G nL kc ks (pc + 1) lv (va_rf (v.map (fun i => td (4 * i))) :: st) (X, Y, o, dd, td)) : J G nL kc ks pc lv (.int i :: .ref (wad (gB G) 21) :: st) (X, Y, o, dd, td) := by
  intro ls H locs cells slots h1 h2 h3 h4 h5 h6
  have hin : inb i 8 = true := by
    by_cases q : inb i 8 = true
    · exact q
    · rw [if_neg q] at h; cases h
  rw [if_pos hin] at h
  refine va_aldq hG.1.1 hG.1.2.1 hG.2.1 h2 21 3 (C := "CensusLoom$Table") (cv_21 _ X Y o dd td) rfl (inb_vp hin) d ?_
  have h9 := kk _ h ls H locs cells slots h1 h2 h3 h4 h5 h6
  rw [show (if i.toNatClampNeg < wT X then some i.toNatClampNeg else none).map (fun i => td (4 * i)) = wTf X td i.toNatClampNeg by unfold wTf; split <;> rfl] at h9
  exact h9
theorem j_alen (hG : wOk G own cc nL fr lo) (k0 t0 : Nat) {a : Nat} {ty : FieldType} {x : vp_A} {v : Int32} {cA : ClassId} (he : (wl (gB G) σ)[k0]? = some (a, .inl (cA, x))) (ht : (wty (gB G))[t0]? = some (cA, ty)) (hv : Int32.ofNat x.1 = v) (d : decode cc pc = .ok (.arraylength, 1)) (kk : J G nL kc ks (pc + 1) lv (.int v :: st) σ) : J G nL kc ks pc lv (.ref a :: st) σ :=
  fun ls H locs cells slots h1 h2 h3 h4 h5 h6 => va_alen hG.1.1 hG.1.2.1 hG.2.1 h2 k0 t0 he ht hv d (kk ls H locs cells slots h1 h2 h3 h4 h5 h6)
/-- the law's answer cells -/
theorem vp_in_0 : vp_in 0 1 := inb_vp rfl
theorem z_cl : (0 : Int32).toNatClampNeg = 0 := by decide
theorem j_last (hG : wOk G own cc nL fr lo) {X Y : wM} {o : Int64} {dd : UInt64} {td : Nat → Nat} {v : Int64} (d : decode cc pc = .ok (.lastore, 1)) (kk : J G nL kc ks (pc + 1) lv st (X, Y, v, dd, td)) : J G nL kc ks pc lv (.long v :: .int 0 :: .ref (wad (gB G) 37) :: st) (X, Y, o, dd, td) := by
  intro ls H locs cells slots h1 h2 h3 h4 h5 h6
  refine va_last hG.1.1 hG.1.2.1 hG.2.1 h2 h3 h4 37 5 (cv_37 _ X Y o dd td) rfl vp_in_0 d (fun H1 locs1 g2 g3 g4 => ?_)
  rw [z_cl, wo1_set, cs_37] at g2 g3
  exact kk ls H1 locs1 cells slots h1 g2 g3 g4 h5 h6
theorem j_dast (hG : wOk G own cc nL fr lo) {X Y : wM} {o : Int64} {dd : UInt64} {td : Nat → Nat} {v : UInt64} (d : decode cc pc = .ok (.dastore, 1)) (kk : J G nL kc ks (pc + 1) lv st (X, Y, o, v, td)) : J G nL kc ks pc lv (.double v :: .int 0 :: .ref (wad (gB G) 38) :: st) (X, Y, o, dd, td) := by
  intro ls H locs cells slots h1 h2 h3 h4 h5 h6
  refine va_dast hG.1.1 hG.1.2.1 hG.2.1 h2 h3 h4 38 6 (cv_38 _ X Y o dd td) rfl vp_in_0 d (fun H1 locs1 g2 g3 g4 => ?_)
  rw [z_cl, wo2_set, cs_38] at g2 g3
  exact kk ls H1 locs1 cells slots h1 g2 g3 g4 h5 h6
theorem j_lald (hG : wOk G own cc nL fr lo) {X Y : wM} {o : Int64} {dd : UInt64} {td : Nat → Nat} (d : decode cc pc = .ok (.laload, 1)) (kk : J G nL kc ks (pc + 1) lv (.long o :: st) (X, Y, o, dd, td)) : J G nL kc ks pc lv (.int 0 :: .ref (wad (gB G) 37) :: st) (X, Y, o, dd, td) :=
  fun ls H locs cells slots h1 h2 h3 h4 h5 h6 => va_lald hG.1.1 hG.1.2.1 hG.2.1 h2 37 5 (cv_37 _ X Y o dd td) rfl vp_in_0 d (kk ls H locs cells slots h1 h2 h3 h4 h5 h6)
theorem j_dald (hG : wOk G own cc nL fr lo) {X Y : wM} {o : Int64} {dd : UInt64} {td : Nat → Nat} (d : decode cc pc = .ok (.daload, 1)) (kk : J G nL kc ks (pc + 1) lv (.double dd :: st) (X, Y, o, dd, td)) : J G nL kc ks pc lv (.int 0 :: .ref (wad (gB G) 38) :: st) (X, Y, o, dd, td) :=
  fun ls H locs cells slots h1 h2 h3 h4 h5 h6 => va_dald hG.1.1 hG.1.2.1 hG.2.1 h2 38 6 (cv_38 _ X Y o dd td) rfl vp_in_0 d (kk ls H locs cells slots h1 h2 h3 h4 h5 h6)
theorem j_iret (hG : wOk G own cc nL fr lo) {RP : Option Value → wS → Prop} {XP : String → wS → Prop} (hE : wEnd G (some .int) RP XP) {v : Int32} (h : RP (some (.int v)) σ) (d : decode cc pc = .ok (.ireturn, 1)) : J G nL kc ks pc lv [.int v] σ := by
  intro ls H locs cells slots h1 h2 h3 h4 h5 h6
  rw [hE.2]
  exact W.widen (by omega) (by omega) (vx_ret (W.iret hG.1.1 hG.1.2.1 hE.1 (fun t ht hW => ⟨⟨_, σ, rfl, h, by rw [ht]; exact h2, h3⟩, h4.F ht⟩) h4.2.2 d hG.2.2.2.2.2.1))
theorem j_zret (hG : wOk G own cc nL fr lo) {RP : Option Value → wS → Prop} {XP : String → wS → Prop} {ty : FieldType} (hE : wEnd G (some ty) RP XP) {v : Int32} (hn : narrow ty (.int v) = .int v) (h : RP (some (.int v)) σ) (d : decode cc pc = .ok (.ireturn, 1)) : J G nL kc ks pc lv [.int v] σ := by
  intro ls H locs cells slots h1 h2 h3 h4 h5 h6
  rw [hE.2]
  exact W.widen (by omega) (by omega) (vx_ret (W.zret hG.1.1 hG.1.2.1 hE.1 hn (fun t ht hW => ⟨⟨_, σ, rfl, h, by rw [ht]; exact h2, h3⟩, h4.F ht⟩) h4.2.2 d hG.2.2.2.2.2.1))
theorem j_vret (hG : wOk G own cc nL fr lo) {RP : Option Value → wS → Prop} {XP : String → wS → Prop} (hE : wEnd G none RP XP) (h : RP none σ) (d : decode cc pc = .ok (.return_, 1)) : J G nL kc ks pc lv [] σ := by
  intro ls H locs cells slots h1 h2 h3 h4 h5 h6
  rw [hE.2]
  exact W.widen (by omega) (by omega) (vx_ret (W.vret hG.1.1 hG.1.2.1 hE.1 (fun t ht hW => ⟨⟨_, σ, rfl, h, by rw [ht]; exact h2, h3⟩, h4.F ht⟩) h4.2.2 d hG.2.2.2.2.2.1))
theorem j_aret (hG : wOk G own cc nL fr lo) {RP : Option Value → wS → Prop} {XP : String → wS → Prop} {n : String} (hE : wEnd G (some (.object n)) RP XP) {a : Nat} (h : RP (some (.ref a)) σ) (d : decode cc pc = .ok (.areturn, 1)) : J G nL kc ks pc lv [.ref a] σ := by
  intro ls H locs cells slots h1 h2 h3 h4 h5 h6
  rw [hE.2]
  exact W.widen (by omega) (by omega) (vx_ret (W.aret hG.1.1 hG.1.2.1 hE.1 (Or.inl ⟨n, rfl⟩) (Or.inr ⟨a, rfl⟩) (fun t ht hW => ⟨⟨_, σ, rfl, h, by rw [ht]; exact h2, h3⟩, h4.F ht⟩) h4.2.2 d hG.2.2.2.2.2.1))
theorem wOk.pre (hG : wOk G own cc nL fr lo) {H : Heap} {locs : List Loc} {σ : wS} (h2 : va_P (wdG (gB G)) vwCl (wl (gB G) σ) H) (h3 : va_D (wA (gB G)) (wl (gB G) σ)) (h4 : va_S (wA (gB G)) (gs G).heap H locs) {U : State} (hU : U.heap = H) (hW : (gs G).WarmedH U.vm) : wPre (gB G) σ U := by
  obtain ⟨hA, hK, hl, hE, hb, -⟩ := hG
  refine ⟨by rw [hU]; exact h2, va_K.moved hW.alike hK, h3, wW.warm hW hA.2.2.2.2, wE.warm hW (fun a q1 q2 => by rw [hU]; exact h4.2.1 a q1 q2) hE, ?_⟩
  rw [hU]
  exact Nat.le_trans hb h4.1
/-- any call -/
theorem j_run {mc ms : Nat} {RP : Option Value → wS → Prop} {XP : String → wS → Prop} {rest : List Value} {a : Array Value} (hr : ∀ (ls : Array Slot) (H : Heap) (locs : List Loc) (cells slots : Nat), lv_has ls nL lv → va_P (wdG (gB G)) vwCl (wl (gB G) σ) H → va_D (wA (gB G)) (wl (gB G) σ) → va_S (wA (gB G)) (gs G).heap H locs → cells + (kc + mc) ≤ gmc G → slots + (ks + ms) ≤ gms G →
      vx_Run (gp G) (gl G) (ge G) (gR G) (gs G) (gm G) (ga G) (gbl G) (gme G) (gc G) H locs cells slots mc ms (F0 (gm G) pc ls st) rest (wQc (gB G) RP a) (wXC (gB G) XP) (wA (gB G)))
    (kk : ∀ v σ', RP v σ' → J G nL kc ks (pc + 3) lv (v.toList ++ rest) σ') (kx : ∀ E σ', XP E σ' → JX G nL kc ks pc lv σ' E) : J G nL (kc + mc) (ks + ms) pc lv st σ := by
  intro ls H locs cells slots h1 h2 h3 h4 h5 h6
  intro T hT X
  rcases hr ls H locs cells slots h1 h2 h3 h4 h5 h6 T hT X with ⟨v, st₀, t, T', L, h0, X', hL, e1, e2, ⟨⟨v', σ', hv, hp, hPo⟩, hF⟩, g⟩ | ⟨q, st₀, t, T', L, E, ce, h0, X', hL, e1, e2, ⟨⟨σ', hp, hPo⟩, hF⟩, hce, hcv, hcl, g⟩
  · cases hv
    obtain ⟨k1, k2, k3⟩ := vx_keep h0 e1 h4 (fun _ _ z => z) (fun _ z => z) hL hF
    obtain ⟨t2, a1, b1⟩ := kk v σ' hp ls T'.heap (locs ++ L) (cells + mc) (slots + ms) h1 (by rw [e1]; exact hPo.1) hPo.2 k3 (by omega) (by omega) T' rfl X'
    exact ⟨t2, g t2 a1, b1⟩
  · obtain ⟨k1, k2, k3⟩ := vx_keep h0 e1 h4 (fun _ _ z => z) (fun _ z => z) hL hF
    obtain ⟨t2, a1, b1⟩ := kx E σ' hp ls T'.heap (locs ++ L) (cells + mc) (slots + ms) rest ce q h1 (by rw [e1]; exact hPo.1) hPo.2 k3 (by omega) (by omega) (by rw [e1]; exact hce) hcv hcl T' rfl X'
    exact ⟨t2, g.trans a1, b1⟩
/-- a method's own facts of the tables -/
def wMF (y : MethodName) (cc : ByteArray) (nL : Nat) (ret : Option FieldType) (n : Nat) : Prop := (y.cls ≠ "java/lang/invoke/MethodHandle" ∧ y.cls ≠ "java/lang/invoke/VarHandle") ∧ (parseMethodDescriptor y.desc).map (fun d => d.parameters.length) = some n ∧ Cond.code y cc nL ret ∈ wTs ∧ Cond.initialized y.cls ∈ wTs
def wMFv (y : MethodName) (cc : ByteArray) (nL : Nat) (ret : Option FieldType) (n : Nat) : Prop := wMF y cc nL ret n ∧ Cond.instanceMethod y ∈ wTs ∧ Cond.selects y.cls y y ∈ wTs
def wMFs (y : MethodName) (cc : ByteArray) (nL : Nat) (ret : Option FieldType) (n : Nat) : Prop := wMF y cc nL ret n ∧ Cond.static y ∈ wTs
theorem wMF.cb (hG : wOk G own cc nL fr lo) {y : MethodName} {cc' : ByteArray} {nL' n mc ms fr' lo' index : Nat} {ret : Option FieldType} (mf : wMF y cc' nL' ret n) (ml : Cond.methodLink own index y ∈ wTs) (hfr : fr' + 1 ≤ fr) (hlo : 8 + (nL' + 11) + lo' ≤ lo) : CallB (gR G) (gs G) (ga G) own index y cc' nL' ret [.code y cc' nL' ret] { frames := fr', cells := mc, slots := ms, locals := lo' } mc ms n := by
  obtain ⟨hn, hp, hc, hi⟩ := mf
  refine ⟨rfl, rfl, Nat.le_trans hfr hG.2.2.2.2.2.2.1, Nat.le_trans hlo hG.2.2.2.2.2.2.2.1, fun c hm a' U hW => ?_, List.mem_cons_self, hG.word hc, hG.word hi, hn, fun sig h => ?_, hG.word ml⟩
  · rw [List.mem_singleton.mp hm]
    exact wgood_at (List.mem_filter.mp hc).2 hW (hG.1.2.2.2.2 _ hc _)
  · rw [h] at hp
    exact (Option.some.inj hp).symm
theorem j_callV (hG : wOk G own cc nL fr lo) {y : MethodName} {cc' : ByteArray} {nL' n mc ms fr' lo' index : Nat} {ret : Option FieldType} {b : Addr} {As rest : List Value} {RP : Option Value → wS → Prop} {XP : String → wS → Prop} (ct : wMet (gl G) (gB G) y cc' nL' ret fr' lo' mc ms (.ref b :: As) σ RP XP) (mf : wMFv y cc' nL' ret n) (ml : Cond.methodLink own index y ∈ wTs)
    (k0 : Nat) {ci N : Nat} {T : u_T} {fs : List Value} (he : (wl (gB G) σ)[k0]? = some (b, .inr (ci, fs))) (hc : vwCl[ci]? = some (y.cls, T, N)) (hn : As.length = n) (hst : st = As.reverse ++ .ref b :: rest) (hroom : (rest.map fun v => v.category).sum ≤ 8) (d : decode cc pc = .ok (.invokevirtual index, 3)) (hfr : fr' + 1 ≤ fr) (hlo : 8 + (nL' + 11) + lo' ≤ lo)
    (kk : ∀ v σ', RP v σ' → J G nL kc ks (pc + 3) lv (v.toList ++ rest) σ') (kx : ∀ E σ', XP E σ' → JX G nL kc ks pc lv σ' E) : J G nL (kc + mc) (ks + ms) pc lv st σ := by
  refine j_run (a := (Value.ref b :: As).toArray) (fun ls H locs cells slots h1 h2 h3 h4 h5 h6 => ?_) kk kx
  exact vx_runV (Ts := []) (rest := rest) ⟨hG.1.1, hG.1.2.1, hG.1.2.2.1, hG.1.2.2.2.1, fun c q => absurd q List.not_mem_nil⟩ ct ⟨mf.1.cb hG ml hfr hlo, hG.word mf.2.1, hG.word mf.2.2⟩ ⟨wPre.blind, va_recv hG.2.1 h2 hc he, fun U hU hW => ⟨rfl, hG.pre h2 h3 h4 hU hW⟩⟩ rfl hn h1.1 hst (lv_room hroom) d ⟨by have := hG.2.2.2.2.2.2.2.2.1; omega, by have := hG.2.2.2.2.2.2.2.2.2; omega⟩
theorem j_callS (hG : wOk G own cc nL fr lo) {y : MethodName} {cc' : ByteArray} {nL' n mc ms fr' lo' index : Nat} {ret : Option FieldType} {As rest : List Value} {RP : Option Value → wS → Prop} {XP : String → wS → Prop} (ct : wMet (gl G) (gB G) y cc' nL' ret fr' lo' mc ms As σ RP XP) (mf : wMFs y cc' nL' ret n) (ml : Cond.methodLink own index y ∈ wTs)
    (hn : As.length = n) (hst : st = As.reverse ++ rest) (hroom : (rest.map fun v => v.category).sum ≤ 8) (d : decode cc pc = .ok (.invokestatic index, 3)) (hfr : fr' + 1 ≤ fr) (hlo : 8 + (nL' + 11) + lo' ≤ lo)
    (kk : ∀ v σ', RP v σ' → J G nL kc ks (pc + 3) lv (v.toList ++ rest) σ') (kx : ∀ E σ', XP E σ' → JX G nL kc ks pc lv σ' E) : J G nL (kc + mc) (ks + ms) pc lv st σ := by
  refine j_run (a := As.toArray) (fun ls H locs cells slots h1 h2 h3 h4 h5 h6 => ?_) kk kx
  exact vx_runS (Ts := []) (rest := rest) ⟨hG.1.1, hG.1.2.1, hG.1.2.2.1, hG.1.2.2.2.1, fun c q => absurd q List.not_mem_nil⟩ ct ⟨mf.1.cb hG ml hfr hlo, hG.word mf.2⟩ ⟨wPre.blind, fun U hU hW => ⟨rfl, hG.pre h2 h3 h4 hU hW⟩⟩ rfl hn h1.1 hst (lv_room hroom) d ⟨by have := hG.2.2.2.2.2.2.2.2.1; omega, by have := hG.2.2.2.2.2.2.2.2.2; omega⟩
/-- an exception that passes on to the caller -/
theorem jx_out (hG : wOk G own cc nL fr lo) {ret : Option FieldType} {RP : Option Value → wS → Prop} {XP : String → wS → Prop} (hE : wEnd G ret RP XP) (hT : wNoTab G) {E : String} (h : XP E σ) : JX G nL kc ks pc lv σ E := by
  intro ls H locs cells slots rest ce q h1 h2 h3 h4 h5 h6 hce hcv hcl
  rw [hE.2]
  exact vx_out (fun x hx => (hT x hx).elim) hG.2.2.2.2.2.1 hce hcv hcl (fun t ht hal => ⟨⟨σ, h, by rw [ht]; exact h2, h3⟩, h4.F ht⟩) h4.2.2 (by omega) (by omega)
/-- what 'throw new E(text)' needs of the tables -/
def wTF (own cls text : String) (names : List String) (ik is ic i : Nat) : Prop := (Bundle.fit cls = true ∧ ∀ n ∈ names, Bundle.fit n = true) ∧ Cond.classLink own ik cls ∈ wTs ∧ Cond.initialized cls ∈ wTs ∧ (∀ c ∈ vx_atS own ic cls names, c ∈ wTs) ∧ wStrs[i]? = some (own, is, text)
theorem wTs_ot {c : Cond} (h : c ∈ wTs) : vx_ot c = true := by
  have g := (List.mem_filter.mp h).2
  unfold vx_ot
  cases c <;> first | rfl | (simp [wgood, Cond.onTables] at g; done) | (simp [Cond.onTables]; done)
theorem j_throwS (hG : wOk G own cc nL fr lo) {ret : Option FieldType} {RP : Option Value → wS → Prop} {XP : String → wS → Prop} (hE : wEnd G ret RP XP) (hT : wNoTab G) {cls text : String} {names : List String} {ik is ic i : Nat} (tf : wTF own cls text names ik is ic i)
    (d0 : decode cc pc = .ok (.new ik, 3)) (d3 : decode cc (pc + 3) = .ok (.dup, 1)) (d4 : decode cc (pc + 4) = .ok (.ldc is, 2)) (d6 : decode cc (pc + 6) = .ok (.invokespecial ic, 3)) (d9 : decode cc (pc + 9) = .ok (.athrow, 1)) (hfr : names.length + 3 < fr) (hlo : (st.map fun v => v.category).sum + (13 * (names.length + 1) + 43) ≤ lo) (h : XP cls σ) : J G nL (kc + 1) (ks + 6) pc lv st σ := by
  intro ls H locs cells slots h1 h2 h3 h4 h5 h6
  have r1 := hG.2.2.2.2.2.2.1
  have r2 := hG.2.2.2.2.2.2.2.1
  have r3 := hG.2.2.2.2.2.2.2.2.1
  have r4 := hG.2.2.2.2.2.2.2.2.2
  rw [hE.2]
  obtain ⟨⟨f1, f2⟩, f3, f4, f5, f6⟩ := tf
  refine vx_throwS hG.1.1 hG.1.2.1 hG.2.2.1 (own := own) (cls := cls) (text := text) (names := names) (A := wA (gB G)) hG.1.2.2.2.1 f1 f2 (hG.word f3) (hG.word f4) (hG.2.2.2.1.2.2.1 i _ f6) (fun c q => hG.word (f5 c q)) (fun c q => ?_) hG.2.2.2.1.1 hG.2.2.2.1.2.1 h4 (h1.1.trans hG.1.2.2.1.symm) d0 d3 d4 d6 d9 (fun x hx => (hT x hx).elim) (by omega) (by omega) (by omega) (by omega) hG.2.2.2.2.2.1 (fun t hal hz hk => ⟨⟨σ, h, h2.kept (fun k q hq => hk _ ((h2 k q hq).lt)), h3⟩, Nat.le_trans h4.1 hz, fun q q1 q2 => (hk q (Nat.lt_of_lt_of_le q1 h4.1)).trans (h4.2.1 q q1 q2)⟩) h4.2.2 (by omega) (by omega)
  rcases List.mem_cons.mp q with rfl | q
  · exact wTs_ot f3
  · rcases List.mem_cons.mp q with rfl | q
    · exact wTs_ot f4
    · exact wTs_ot (f5 c q)
end JR
end
section
/-! an exception whose constructor links its parent's by its own index ix: adapted from the library's chainSX, ctorThrowS and the kit's vx_throwS -/
def nx_chainAt (X : String) (ix : Nat) (rx : ByteArray) : List String → List Cond
  | [] => Bundle.passSAtoms X Bundle.tN ix rx
  | Y :: r => Bundle.passSAtoms X Y ix rx ++ Bundle.chainSAtoms Y r
def nx_atoms (own : String) (ic : Nat) (X : String) (ix : Nat) (rx : ByteArray) (names : List String) : List Cond :=
  Bundle.throwableAtoms ++ Bundle.throwableSAtoms ++ nx_chainAt X ix rx names ++
  [.methodLink own ic (Bundle.initS X), .instantiable X 6, .castable X X, .selects X Bundle.tFill0 Bundle.tFill0, .selects X Bundle.tFill Bundle.tFill,
   .lays X Bundle.tN "cause" "Ljava/lang/Throwable;", .lays X Bundle.tN "stackTrace" Bundle.steD, .lays X Bundle.tN "suppressedExceptions" Bundle.listD, .lays X Bundle.tN "detailMessage" "Ljava/lang/String;",
   .isRef (.static Bundle.tN "UNASSIGNED_STACK" Bundle.steD), .isRef (.static Bundle.tN "SUPPRESSED_SENTINEL" Bundle.listD),
   .fieldLink Bundle.tN 198 Bundle.tN "backtrace" "Ljava/lang/Object;", .lays Bundle.tN Bundle.tN "backtrace" "Ljava/lang/Object;", .lays X Bundle.tN "backtrace" "Ljava/lang/Object;"]
theorem nx_chain {args : Array Value} {s : State} {pl : Platform} (hpl : pl.magicAccessors = ({} : Platform).magicAccessors) {top : MethodId} (htop : s.methodNamed? (Bundle.initS Bundle.tN) = some top)
    {ix : Nat} {rx : ByteArray} (x0 : decode rx 0 = .ok (.aload_n 0, 1)) (x1 : decode rx 1 = .ok (.aload_n 1, 1)) (x2 : decode rx 2 = .ok (.invokespecial ix, 3)) (x5 : decode rx 5 = .ok (.return_, 1)) :
    ∀ (names : List String) (X : String), Bundle.fit X = true → (∀ n ∈ names, Bundle.fit n = true) → (∀ c ∈ nx_chainAt X ix rx names, c.before args s = true) →
      ∃ (P1 : PassC) (Ps : List PassC), Ps.length = names.length ∧ P1.LinksS pl s ∧ (∀ P, P ∈ Ps → P.LinksS pl s) ∧ s.methodNamed? (Bundle.initS X) = some P1.m ∧
        P1.sup = firstOf top (Ps.map (·.toPassT)) ∧ PassesOn top (Ps.map (·.toPassT)) := by
  intro names
  cases names with
  | nil =>
    intro X hX _ h
    obtain ⟨P, L, hm, hs⟩ := PassC.ofS_atoms (args := args) (s := s) hpl (X := X) (Y := Bundle.tN) (Bundle.fit_spec hX).1 (by decide) x0 x1 x2 x5 h
    exact ⟨P, [], rfl, L, (fun _ hP => by cases hP), hm, Option.some.inj (hs.symm.trans htop), trivial⟩
  | cons Y r =>
    intro X hX hn h
    obtain ⟨P, L, hm, hs⟩ := PassC.ofS_atoms (args := args) (s := s) hpl (X := X) (Y := Y) (Bundle.fit_spec hX).1 (Bundle.fit_spec (hn Y List.mem_cons_self)).2 x0 x1 x2 x5
      (fun c hc => h c (by simp only [nx_chainAt, List.mem_append]; exact Or.inl hc))
    obtain ⟨P', Ps, hlen, L', hL, hm', hsup, hpass⟩ := Bundle.chainS (args := args) hpl htop r Y (hn Y List.mem_cons_self) (fun n hn' => hn n (List.mem_cons_of_mem _ hn')) (fun c hc => h c (by simp only [nx_chainAt, List.mem_append]; exact Or.inr hc))
    refine ⟨P, P' :: Ps, by simp [hlen], L, ?_, hm, Option.some.inj (hs.symm.trans hm'), hsup, hpass⟩
    intro Q hQ
    rcases List.mem_cons.mp hQ with rfl | hQ
    · exact L'
    · exact hL Q hQ
section NX
variable {p : Program} {l : Launch} {e : Env} {R : Room} {s : State} {m₀ : MethodId} {args : Array Value} {below : List Frame} {meth : Method} {c : Code} {W : State} {locs : List Loc} {cells slots : Nat}
set_option maxHeartbeats 4000000 in
theorem nx_ctor (X : Stand p l e R s m₀ args below meth c W locs cells slots) (hexec : p.tables.exec = Jvm.exec) (htr : e.platform.stackTraces = false) {own cls : String} {names : List String} {ic ix : Nat} {rx : ByteArray} (x0 : decode rx 0 = .ok (.aload_n 0, 1)) (x1 : decode rx 1 = .ok (.aload_n 1, 1)) (x2 : decode rx 2 = .ok (.invokespecial ix, 3)) (x5 : decode rx 5 = .ok (.return_, 1))
    (hown : s.vm.findClass own = some m₀.cls) (hcls : Bundle.fit cls = true) (hnames : ∀ n ∈ names, Bundle.fit n = true)
    (h : ∀ a ∈ nx_atoms own ic cls ix rx names, a.before args s = true)
    (hlocs : ∀ x ∈ locs, ∀ cell, s.heap[x.base]? = some cell → cell.vm.isStatics = false)
    {a : Addr} {cX : ClassId} {kX : Class} (hfoundX : s.vm.findClass cls = some cX) (hkX : s.vm.classes[cX]? = some kX) (hcell : W.heap[a]? = some (freshCell cX kX)) (hnew : s.heap.size ≤ a)
    {msg : Value} (hmsg : msg.isRef = true)
    {g : JFrame} (hg : g.method = m₀) (hsize : g.locals.size = c.maxLocals) (hlocked : g.locked = none) (hentered : g.entered = []) {rest : List Value} (hstack : g.stack = msg :: .ref a :: .ref a :: rest)
    (hd6 : decode c.code g.pc = .ok (.invokespecial ic, 3)) (hd9 : decode c.code (g.pc + 3) = .ok (.athrow, 1)) (hout : ∀ x ∈ c.exceptionTable.toList, covers x (g.pc + 3) = false)
    (hRframes : names.length + 3 < R.frames) (hRlocals : 2 * g.monitorRoom + ((Value.ref a :: rest).map fun v => v.category).sum + (13 * (names.length + 1) + 42) ≤ R.locals) (hlocks : meth.locks = false := by first | assumption | exact BodyLoose.notSynchronized (by assumption) | exact Body.notSynchronized (by assumption)) :
    ∃ U : State, Steps p.tables e below (W.setTop g) U ∧ U.status = .running ∧ Ended U below (.threw a) ∧ s.WarmedH U.vm ∧ s.sameButNew ({ U with vm := s.vm } : State) locs cells slots ∧
      ∃ ce, U.heap[a]? = some ce ∧ Bundle.OwnCell args s cls a msg ce := by
  have howns : e.platform.frameOwnsMonitors = true := by rw [X.admits.platform]
  have hfin : e.platform.finalization = false := by rw [X.admits.platform]
  have hpl : e.platform.magicAccessors = ({} : Platform).magicAccessors := by rw [X.admits.platform]
  have a' : ∀ x, x ∈ nx_atoms own ic cls ix rx names → x.holds args s none s [] = true := fun x hx => h x hx
  obtain ⟨T, Z0, L, -, Y⟩ := ThrowableC.of_atoms (args := args) howns hfin hpl (fun x hx => h x (by simp [nx_atoms, hx]))
  obtain ⟨Z, M, LZ, LM, hnZ⟩ := Init0T.ofS_atoms (args := args) hpl L Y (fun x hx => h x (by simp [nx_atoms, hx]))
  obtain ⟨P1, Ps, hlen, L1, hL, hP1m, hlink1, hlink⟩ := nx_chain (args := args) hpl hnZ x0 x1 x2 x5 names cls hcls hnames (fun x hx => h x (by simp [nx_atoms, hx]))
              
  have hfound : s.vm.findClass cls = some P1.m.cls := findClass_of_methodNamed hP1m
  cases Option.some.inj (hfoundX.symm.trans hfound)
  obtain ⟨c1, kX', hc1, hk, hord, -, -, hn6⟩ := Cond.instantiable_spec (a' (.instantiable cls 6) (by simp [nx_atoms]))
  cases Option.some.inj (hc1.symm.trans hfound)
  cases Option.some.inj (hkX.symm.trans hk)
  have hsel0 : selectMethod e.platform s.vm P1.m.cls T.fill0 = .method T.fill0 := by
    obtain ⟨c2, r2, m2, q1, q2, q3, q4, -⟩ := Cond.selects_spec (a' (.selects cls Bundle.tFill0 Bundle.tFill0) (by simp [nx_atoms]))
    cases Option.some.inj (q1.symm.trans hfound)
    cases Option.some.inj (q2.symm.trans (State.methodFound?_of_named Y.fill0 (by decide)))
    cases Option.some.inj (q3.symm.trans Y.fill0)
    rw [Launch.admits_selectMethod X.admits]; exact q4
  have hselF : selectMethod e.platform s.vm P1.m.cls T.fill = .method T.fill := by
    obtain ⟨c2, r2, m2, q1, q2, q3, q4, -⟩ := Cond.selects_spec (a' (.selects cls Bundle.tFill Bundle.tFill) (by simp [nx_atoms]))
    cases Option.some.inj (q1.symm.trans hfound)
    cases Option.some.inj (q2.symm.trans (State.methodFound?_of_named Y.fill (by decide)))
    cases Option.some.inj (q3.symm.trans Y.fill)
    rw [Launch.admits_selectMethod X.admits]; exact q4
  obtain ⟨cellS0, hcS0, hiss⟩ := Y.statics
  obtain ⟨u0, hu0⟩ := Cond.staticRefV Y.unassigned L.unassignedStatic L.statics hcS0 hiss (a' (.isRef (.static Bundle.tN "UNASSIGNED_STACK" Bundle.steD)) (by simp [nx_atoms]))
  obtain ⟨sen, hsen⟩ := Cond.staticRefV Y.sentinel L.sentinelStatic L.statics hcS0 hiss (a' (.isRef (.static Bundle.tN "SUPPRESSED_SENTINEL" Bundle.listD)) (by simp [nx_atoms]))
  obtain ⟨ci198, i198, fB, hk198, hg198, ha198, hsB, -, hnB, htB, hffB⟩ := Cond.ownField (t := .object "java/lang/Object") Y.found L.cls (by decide +kernel) (a' (.fieldLink Bundle.tN 198 Bundle.tN "backtrace" "Ljava/lang/Object;") (by simp [nx_atoms])) (a' (.lays Bundle.tN Bundle.tN "backtrace" "Ljava/lang/Object;") (by simp [nx_atoms])) e.platform hpl
  obtain ⟨cellS, hcS', heS, -, hkeep⟩ := X.same.2.2.2.2.2 T.aS cellS0 hcS0
  have hcellS : W.heap[T.aS]? = some cellS := hcS'
  have hout' : ∀ i, (⟨T.aS, i⟩ : Loc) ∉ locs := fun i hmem => by
    have := hlocs _ hmem cellS0 hcS0
    rw [hiss] at this; cases this
  have hknownS : cellS.vm ≠ .unknown := by
    rw [heS]; intro hu
    rw [show cellS0.vm = .unknown from hu] at hiss
    cases hiss
  have hneS : T.aS ≠ a := Nat.ne_of_lt (Nat.lt_of_lt_of_le (Array.getElem?_eq_some_iff.mp hcS0).1 hnew)
  obtain ⟨iM, hffM⟩ := Y.msg
  obtain ⟨tyC, dC, hdC, hdnC⟩ := Cond.laysAt hfound hk Y.cause (a' (.lays cls Bundle.tN "cause" "Ljava/lang/Throwable;") (by simp [nx_atoms]))
  obtain ⟨tyS, dS, hdS, hdnS⟩ := Cond.laysAt hfound hk Y.stack (a' (.lays cls Bundle.tN "stackTrace" Bundle.steD) (by simp [nx_atoms]))
  obtain ⟨tyP, dP, hdP, hdnP⟩ := Cond.laysAt hfound hk Y.supp (a' (.lays cls Bundle.tN "suppressedExceptions" Bundle.listD) (by simp [nx_atoms]))
  obtain ⟨tyM, dM, hdM, hdnM⟩ := Cond.laysAt hfound hk hffM (a' (.lays cls Bundle.tN "detailMessage" "Ljava/lang/String;") (by simp [nx_atoms]))
  obtain ⟨tyB, dB, hdB, hdnB⟩ := Cond.laysAt hfound hk hffB (a' (.lays cls Bundle.tN "backtrace" "Ljava/lang/Object;") (by simp [nx_atoms]))
  have bC := Cond.laysApart hdB hdC hdnB hdnC (by rw [hnB, Y.causeName]; decide)
  have bS := Cond.laysApart hdB hdS hdnB hdnS (by rw [hnB, Y.stackName]; decide)
  have bP := Cond.laysApart hdB hdP hdnB hdnP (by rw [hnB, Y.suppName]; decide)
  have hskip : SkipFacts T e.platform s (fun u => u) u0 ((preparedCellV T.toThrowableT (freshCell P1.m.cls kX) a u0 sen).withEntry W.cur) :=
    ⟨{ ci198 := ci198, i198 := i198, fBack := fB }, ⟨hk198, hg198, ha198, hsB⟩, by
      have := fresh_default (c := P1.m.cls) tyB
      rw [htB] at this
      simpa [preparedCellV, Cell.setSlot, Cell.withEntry, Array.getElem?_setIfInBounds, bC, bS, bP, bC.symm, bS.symm, bP.symm, defaultValue] using this, fun _ _ => rfl⟩
                                     
  obtain ⟨tm, methC, cdC, kC, vm₁, hnC, -, -, -, -, -, -, -, hW₁, st1⟩ := Steps.initColdS (tb := p.tables) (e := e) (below := below) (s := s) (U := W) X.here hexec X.warmed hpl hown (t := Bundle.initS cls) rfl rfl (Bundle.fit_spec hcls).2
    (a' (.methodLink own ic (Bundle.initS cls)) (by simp [nx_atoms])) (h (.instanceMethod (Bundle.initS cls)) (by cases names <;> simp [nx_atoms, nx_chainAt, Bundle.passSAtoms])) (bytes := rx) (maxL := 2) (h (.code (Bundle.initS cls) rx 2 none) (by cases names <;> simp [nx_atoms, nx_chainAt, Bundle.passSAtoms]))
    (f := g) hg (a := a) (msg := msg) (rest := .ref a :: rest) hstack hd6
  cases Option.some.inj (hnC.symm.trans hP1m)
  have X₁ := X.noted hW₁
                                 
  obtain ⟨vm₂, X₂, st2⟩ := X₁.ctorMessageOffV hexec (g := { g with stack := .ref a :: rest }) hg hsize T L Z LZ M LM (P1 :: Ps)
    (fun P hP => by rcases List.mem_cons.mp hP with rfl | hP; exact L1; exact hL P hP) ⟨hlink1, hlink⟩ (u0 := u0) (sen := sen) (self := a) hmsg (cell := freshCell P1.m.cls kX) (cellS := cellS)
    hcell (fun _ => by simp) (by simp) rfl rfl hsel0 hselF hcellS hneS hknownS (by rw [hkeep _ (hout' _)]; exact hu0) (by rw [hkeep _ (hout' _)]; exact hsen)
    (Takes.of_laid hk hord tyC (by rw [Y.causeType]; rfl)) (Takes.of_laid hk hord tyS (by rw [Y.stackType]; exact fits_refV_array _ u0)) (Takes.of_laid hk hord tyP (by rw [Y.suppType]; exact fits_refV_object _ sen))
    (Takes.of_laid hk hord tyM (by rw [Y.msgType]; exact fits_refV_object _ ⟨msg, hmsg⟩)) Y.objLocals hskip htr [] hd6
    (by simp only [List.length_cons, hlen]; omega) (by simp only [List.length_cons, hlen]; exact hRlocals)
                                    
  obtain ⟨hwalk, hrun, hended, hWU, hsame⟩ := X₂.athrowLeaves hexec (g := { g with stack := .ref a :: rest, pc := g.pc + 3 }) hg hlocked hentered hout (a := a) (rest := rest) rfl hd9
  obtain ⟨c3, c4, hc3, hc4, hasg⟩ := Cond.castable_spec (a' (.castable cls cls) (by simp [nx_atoms]))
  cases Option.some.inj (hc3.symm.trans hfound)
  cases Option.some.inj (hc4.symm.trans hfound)
  have hlt : a < ((W.setVm vm₁).setVm vm₂).heap.size := (Array.getElem?_eq_some_iff.mp hcell).1
  have hU := heapAt_setCell_self (s := (W.setVm vm₁).setVm vm₂) (plainBareV T.toThrowableT (freshCell P1.m.cls kX) a u0 sen msg) hlt
  have hnM : T.fMsg.name = "detailMessage" := (State.fieldFound?_type hffM (t := .object "java/lang/String") (by decide +kernel)).1
  have nCS := Cond.laysApart hdC hdS hdnC hdnS (by rw [Y.causeName, Y.stackName]; decide)
  have nCP := Cond.laysApart hdC hdP hdnC hdnP (by rw [Y.causeName, Y.suppName]; decide)
  have nCM := Cond.laysApart hdC hdM hdnC hdnM (by rw [Y.causeName, hnM]; decide)
  have nSP := Cond.laysApart hdS hdP hdnS hdnP (by rw [Y.stackName, Y.suppName]; decide)
  have nSM := Cond.laysApart hdS hdM hdnS hdnM (by rw [Y.stackName, hnM]; decide)
  have nPM := Cond.laysApart hdP hdM hdnP hdnM (by rw [Y.suppName, hnM]; decide)
  have lC : T.fCause.slot < kX.instanceTypes.size := (Array.getElem?_eq_some_iff.mp tyC).1
  have lS : T.fStack.slot < kX.instanceTypes.size := (Array.getElem?_eq_some_iff.mp tyS).1
  have lP : T.fSupp.slot < kX.instanceTypes.size := (Array.getElem?_eq_some_iff.mp tyP).1
  have lM : T.fMsg.slot < kX.instanceTypes.size := (Array.getElem?_eq_some_iff.mp tyM).1
  have evU : ∀ o, (Term.static Bundle.tN "UNASSIGNED_STACK" Bundle.steD).eval args s o [] s = some u0.v := by
    intro o
    simp [Term.eval, State.fieldNamed?, Y.unassigned, L.unassignedStatic, L.statics, hcS0, hiss, hu0]
  have evS : ∀ o, (Term.static Bundle.tN "SUPPRESSED_SENTINEL" Bundle.listD).eval args s o [] s = some sen.v := by
    intro o
    simp [Term.eval, State.fieldNamed?, Y.sentinel, L.sentinelStatic, L.statics, hcS0, hiss, hsen]
  refine ⟨_, st1 _ (fun acts => ?_), hrun, hended, hWU, hsame.weaken (fun y hy hlt' => ?_) (Nat.le_refl _) (Nat.le_refl _), _, hU, ?_⟩
  · rw [doInvoke_state]
    exact st2 _ hwalk
  · rcases List.mem_append.mp hy with h1 | h1
    · exact h1
    · exfalso
      have hb : y.base = a := by
        simp only [List.mem_cons, List.not_mem_nil, or_false] at h1
        rcases h1 with rfl | rfl | rfl | rfl | rfl <;> rfl
      rw [hb] at hlt'
      exact Nat.not_lt.mpr hnew hlt'
  · exact { cls := hfound, self := hasg, monitor := rfl, hash := rfl, vm := rfl, size := by simp [plainBareV, preparedCellV, Cell.setSlot, hn6]
            cause := ⟨_, _, _, _, Y.cause, by simp [plainBareV, preparedCellV, Cell.setSlot, nCS.symm, nCP.symm, nCM.symm, lC]⟩
            stack := ⟨_, _, _, _, u0, Y.stack, by simp [plainBareV, preparedCellV, Cell.setSlot, nSM.symm, lS], evU⟩
            supp := ⟨_, _, _, _, sen, Y.supp, by simp [plainBareV, preparedCellV, Cell.setSlot, nSP, nPM.symm, lP], evS⟩
            msg := ⟨_, _, _, _, hffM, by simp [plainBareV, preparedCellV, Cell.setSlot, lM]⟩
            other := fun O f d c k i fd hf hy n1 n2 n3 n4 => by
              obtain ⟨ty, dd, hdd, hddn⟩ := Cond.laysAt hfound hk hf hy
              have m1 := Cond.laysApart hdd hdC hddn hdnC (by rw [Y.causeName]; exact n1)
              have m2 := Cond.laysApart hdd hdS hddn hdnS (by rw [Y.stackName]; exact n2)
              have m3 := Cond.laysApart hdd hdP hddn hdnP (by rw [Y.suppName]; exact n3)
              have m4 := Cond.laysApart hdd hdM hddn hdnM (by rw [hnM]; exact n4)
              have := fresh_default (c := P1.m.cls) ty
              simpa [plainBareV, preparedCellV, Cell.setSlot, Array.getElem?_setIfInBounds, m1, m2, m3, m4, m1.symm, m2.symm, m3.symm, m4.symm] using this }
end NX
def nx_atX (own : String) (ic : Nat) (X : String) (ix : Nat) (rx : ByteArray) (names : List String) : List Cond := (nx_atoms own ic X ix rx names).filter vx_no
section NXE
variable {p : Program} {l : Launch} {e : Env} {R : Room} {s : State} {m : MethodId} {args : Array Value} {below : List Frame} {meth : Method} {c : Code} {H : Heap} {locs : List Loc} {cells slots : Nat} {Q : State → Prop}
variable {mc ms : Nat} {free : Addr → Prop} {A0 A1 : Nat → Prop} {H0 : Heap} {a : Array Value} {ls : Array Slot} {st0 rest : List Value}
variable {Qc : Array Value → State → Outcome → State → Prop} {XC : String → State → State → Prop}
/-- as vx_throwS, with the index ix: new; dup; ldc; invokespecial; athrow -/
theorem nx_throwS {cc : ByteArray} {pc : Nat} (hexec : p.tables.exec = Jvm.exec) (hb : c.code = cc) (hl : l.stackTraces = false) {own cls text : String} {names : List String} {ik is ic ix mc ms sa : Nat} {rx : ByteArray} (x0 : decode rx 0 = .ok (.aload_n 0, 1)) (x1 : decode rx 1 = .ok (.aload_n 1, 1)) (x2 : decode rx 2 = .ok (.invokespecial ix, 3)) (x5 : decode rx 5 = .ok (.return_, 1)) {A : Nat → Prop}
    (hown : s.vm.findClass own = some m.cls) (hcls : Bundle.fit cls = true) (hnames : ∀ n ∈ names, Bundle.fit n = true)
    (hk : (Cond.classLink own ik cls).before args s = true) (hini : (Cond.initialized cls).before args s = true) (hstr : vk_R own is text sa s) (hat : ∀ w ∈ nx_atX own ic cls ix rx names, w.before args s = true)
    (hgood : ∀ w ∈ Cond.classLink own ik cls :: Cond.initialized cls :: nx_atX own ic cls ix rx names, vx_ot w = true)
    (hU : vx_Zq Bundle.tN "UNASSIGNED_STACK" Bundle.steD A s s.heap) (hN : vx_Zq Bundle.tN "SUPPRESSED_SENTINEL" Bundle.listD A s s.heap) (hS : va_S A s.heap H locs) (hsize : ls.size = c.maxLocals)
    (d0 : decode cc pc = .ok (.new ik, 3)) (d3 : decode cc (pc + 3) = .ok (.dup, 1)) (d4 : decode cc (pc + 4) = .ok (.ldc is, 2)) (d6 : decode cc (pc + 6) = .ok (.invokespecial ic, 3)) (d9 : decode cc (pc + 9) = .ok (.athrow, 1))
    (hout : ∀ x ∈ c.exceptionTable.toList, covers x (pc + 9) = false)
    (hRframes : names.length + 3 < R.frames) (hRlocals : (rest.map fun v => v.category).sum + (13 * (names.length + 1) + 43) ≤ R.locals) (hRcells : cells + 1 ≤ R.cells) (hRslots : slots + 6 ≤ R.slots) (hlocks : meth.locks = false)
    (hx : ∀ t : State, s.vm.Alike t.vm → H.size ≤ t.heap.size → (∀ q : Nat, q < H.size → t.heap[q]? = H[q]?) → XC cls s t)
    (hf : ∀ z ∈ locs, free z.base) (hc : cells + 1 ≤ mc) (hs : slots + 6 ≤ ms) :
    W p l e R s m args below meth c H locs cells slots (vx_MQ below Qc XC args s mc ms free) (F0 m pc ls rest) := by
  intro T hT X
  have htr : e.platform.stackTraces = false := (show e.platform.stackTraces = l.stackTraces by rw [X.admits.platform]).trans hl
  have Y := vx_rebase X (R' := { frames := R.frames, locals := R.locals, cells := 1, slots := 6 }) (Nat.le_refl _) (Nat.le_refl _) hRcells hRslots
  obtain ⟨s', hA⟩ : ∃ z, z = (T.setVm s.vm).setFrames (.invoking m args :: below) := ⟨_, rfl⟩
  rw [← hA] at Y
  have hvm : s'.vm = s.vm := by rw [hA]; rfl
  have hhp : s'.heap = H := by rw [hA]; exact hT
  have hW0 : s.WarmedH s'.vm := by rw [hvm]; exact State.WarmedH.refl s
  have hat' : ∀ w ∈ nx_atX own ic cls ix rx names, w.before args s' = true := fun w hw => vx_ot_at hW0 hvm.symm (hgood w (List.mem_cons_of_mem _ (List.mem_cons_of_mem _ hw))) (hat w hw)
  have hk' : (Cond.classLink own ik cls).before args s' = true := vx_ot_at hW0 hvm.symm (hgood _ List.mem_cons_self) hk
  have hini' : (Cond.initialized cls).before args s' = true := vx_ot_at hW0 hvm.symm (hgood _ (List.mem_cons_of_mem _ List.mem_cons_self)) hini
  have hU' : vx_Zq Bundle.tN "UNASSIGNED_STACK" Bundle.steD A s' s'.heap := by rw [hhp]; exact vx_Zq.moved hW0.alike (hU.kept hS.2.1)
  have hN' : vx_Zq Bundle.tN "SUPPRESSED_SENTINEL" Bundle.listD A s' s'.heap := by rw [hhp]; exact vx_Zq.moved hW0.alike (hN.kept hS.2.1)
  have h : ∀ w ∈ nx_atoms own ic cls ix rx names, w.before args s' = true := vx_own hat' (vx_isRefq hU'.1) (vx_isRefq hN'.1) hU'.2.word hN'.2.word
  have hown' : s'.vm.findClass own = some m.cls := by rw [hvm]; exact hown
  have hins : (Cond.instantiable cls 6).before args s' = true := h _ (by simp [nx_atoms])
  obtain ⟨vm₁, cX, kX, hfX, hkX, -, -, X₁, st1⟩ := Y.newCold hexec (own := own) (C := cls) (index := ik) (n := 6) hown' hk' hins hini'
    (g := F0 m pc ls rest) rfl (by rw [hb]; exact d0) (Nat.le_refl _) (Nat.le_refl _)
  generalize hT1 : (T.setVm vm₁).pushCell { cls := cX, slots := kX.instanceTypes.map defaultValue, vm := .none } = T1 at X₁ st1
  have hcat : (Value.ref T.heap.size).category = 1 := rfl
  have hcellA : T1.heap[T.heap.size]? = some (freshCell cX kX) := by rw [← hT1]; exact State.heap_pushCell_size _ _
  have d3' : decode c.code (pc + 3) = .ok (.dup, 1) := by rw [hb]; exact d3
  have d4' : decode c.code (pc + 4) = .ok (.ldc is, 2) := by rw [hb]; exact d4
  have hstr' : vk_R own is text sa s' := vk_R.warm hW0 hstr
  obtain ⟨U, hsteps, hrun, hend, hW, hsame, ce, hce, hO⟩ := nx_ctor X₁ hexec htr x0 x1 x2 x5 (own := own) (cls := cls) (names := names) (ic := ic) hown' hcls hnames h (fun x hx => nomatch hx) hfX hkX hcellA (by rw [hhp, hT]; exact Nat.le_refl _) (msg := .ref sa) rfl
    (g := { method := m, pc := pc + 6, locals := ls, stack := .ref sa :: .ref T.heap.size :: .ref T.heap.size :: rest, locked := none }) rfl hsize rfl rfl (rest := rest) rfl
    (by rw [hb]; exact d6) (by rw [hb]; exact d9) hout hRframes (by simp only [List.map_cons, List.sum_cons, hcat]; omega) hlocks
  obtain ⟨f1, f2⟩ := vx_frame hsame
  rw [hhp] at f1 f2
  have hWs : s.WarmedH U.vm := State.WarmedH.trans hW0 hW
  have hcl : s.vm.findClass cls = some ce.cls := by
    have h9 := hO.cls
    rw [hvm] at h9
    exact h9
  have hall : s.sameButNew ({ U with vm := s.vm } : State) locs mc ms := by
    subst hA
    obtain ⟨e1, e2⟩ := hsame
    rw [State.setFrames_setFrames] at e1
    have h2 : (T.setVm s.vm).sameButNew ({ U with vm := s.vm } : State) [] (0 + 1) (0 + 6) := ⟨e1, e2⟩
    have h3 := X.same.trans h2
    rw [List.append_nil] at h3
    exact h3.mono hc hs
  refine ⟨U, ?_, .threw T.heap.size, hrun, hend, Or.inr ⟨T.heap.size, rfl, cls, ce, locs, hx U hWs.alike f1 (fun q hq => f2 q hq (fun z hz => nomatch hz)), hce, hO.vm, hcl, hWs, hall, hf⟩⟩
  refine st1 _ ?_
  show Steps p.tables e below (T1.setTop { method := m, pc := pc + 3, locals := ls, stack := .ref T.heap.size :: rest, locked := none }) _
  jvm_step X₁.here [X₁.here.top, hexec, d3', Value.category]
  exact X₁.ldcString hexec (own := own) (text := text) (index := is) (a := sa) hown' hstr'.1 hstr'.2
    (g := { method := m, pc := pc + 4, locals := ls, stack := .ref T.heap.size :: .ref T.heap.size :: rest, locked := none }) rfl d4' _ hsteps
/-- 'throw new E("text")', the text by a wide index -/
theorem nx_throwSW {cc : ByteArray} {pc : Nat} (hexec : p.tables.exec = Jvm.exec) (hb : c.code = cc) (hl : l.stackTraces = false) {own cls text : String} {names : List String} {ik is ic ix mc ms sa : Nat} {rx : ByteArray} (x0 : decode rx 0 = .ok (.aload_n 0, 1)) (x1 : decode rx 1 = .ok (.aload_n 1, 1)) (x2 : decode rx 2 = .ok (.invokespecial ix, 3)) (x5 : decode rx 5 = .ok (.return_, 1)) {A : Nat → Prop}
    (hown : s.vm.findClass own = some m.cls) (hcls : Bundle.fit cls = true) (hnames : ∀ n ∈ names, Bundle.fit n = true)
    (hk : (Cond.classLink own ik cls).before args s = true) (hini : (Cond.initialized cls).before args s = true) (hstr : vk_R own is text sa s) (hat : ∀ w ∈ nx_atX own ic cls ix rx names, w.before args s = true)
    (hgood : ∀ w ∈ Cond.classLink own ik cls :: Cond.initialized cls :: nx_atX own ic cls ix rx names, vx_ot w = true)
    (hU : vx_Zq Bundle.tN "UNASSIGNED_STACK" Bundle.steD A s s.heap) (hN : vx_Zq Bundle.tN "SUPPRESSED_SENTINEL" Bundle.listD A s s.heap) (hS : va_S A s.heap H locs) (hsize : ls.size = c.maxLocals)
    (d0 : decode cc pc = .ok (.new ik, 3)) (d3 : decode cc (pc + 3) = .ok (.dup, 1)) (d4 : decode cc (pc + 4) = .ok (.ldc_w is, 3)) (d7 : decode cc (pc + 7) = .ok (.invokespecial ic, 3)) (d10 : decode cc (pc + 10) = .ok (.athrow, 1))
    (hout : ∀ x ∈ c.exceptionTable.toList, covers x (pc + 10) = false)
    (hRframes : names.length + 3 < R.frames) (hRlocals : (rest.map fun v => v.category).sum + (13 * (names.length + 1) + 43) ≤ R.locals) (hRcells : cells + 1 ≤ R.cells) (hRslots : slots + 6 ≤ R.slots) (hlocks : meth.locks = false)
    (hx : ∀ t : State, s.vm.Alike t.vm → H.size ≤ t.heap.size → (∀ q : Nat, q < H.size → t.heap[q]? = H[q]?) → XC cls s t)
    (hf : ∀ z ∈ locs, free z.base) (hc : cells + 1 ≤ mc) (hs : slots + 6 ≤ ms) :
    W p l e R s m args below meth c H locs cells slots (vx_MQ below Qc XC args s mc ms free) (F0 m pc ls rest) := by
  intro T hT X
  have htr : e.platform.stackTraces = false := (show e.platform.stackTraces = l.stackTraces by rw [X.admits.platform]).trans hl
  have Y := vx_rebase X (R' := { frames := R.frames, locals := R.locals, cells := 1, slots := 6 }) (Nat.le_refl _) (Nat.le_refl _) hRcells hRslots
  obtain ⟨s', hA⟩ : ∃ z, z = (T.setVm s.vm).setFrames (.invoking m args :: below) := ⟨_, rfl⟩
  rw [← hA] at Y
  have hvm : s'.vm = s.vm := by rw [hA]; rfl
  have hhp : s'.heap = H := by rw [hA]; exact hT
  have hW0 : s.WarmedH s'.vm := by rw [hvm]; exact State.WarmedH.refl s
  have hat' : ∀ w ∈ nx_atX own ic cls ix rx names, w.before args s' = true := fun w hw => vx_ot_at hW0 hvm.symm (hgood w (List.mem_cons_of_mem _ (List.mem_cons_of_mem _ hw))) (hat w hw)
  have hk' : (Cond.classLink own ik cls).before args s' = true := vx_ot_at hW0 hvm.symm (hgood _ List.mem_cons_self) hk
  have hini' : (Cond.initialized cls).before args s' = true := vx_ot_at hW0 hvm.symm (hgood _ (List.mem_cons_of_mem _ List.mem_cons_self)) hini
  have hU' : vx_Zq Bundle.tN "UNASSIGNED_STACK" Bundle.steD A s' s'.heap := by rw [hhp]; exact vx_Zq.moved hW0.alike (hU.kept hS.2.1)
  have hN' : vx_Zq Bundle.tN "SUPPRESSED_SENTINEL" Bundle.listD A s' s'.heap := by rw [hhp]; exact vx_Zq.moved hW0.alike (hN.kept hS.2.1)
  have h : ∀ w ∈ nx_atoms own ic cls ix rx names, w.before args s' = true := vx_own hat' (vx_isRefq hU'.1) (vx_isRefq hN'.1) hU'.2.word hN'.2.word
  have hown' : s'.vm.findClass own = some m.cls := by rw [hvm]; exact hown
  have hins : (Cond.instantiable cls 6).before args s' = true := h _ (by simp [nx_atoms])
  obtain ⟨vm₁, cX, kX, hfX, hkX, -, -, X₁, st1⟩ := Y.newCold hexec (own := own) (C := cls) (index := ik) (n := 6) hown' hk' hins hini'
    (g := F0 m pc ls rest) rfl (by rw [hb]; exact d0) (Nat.le_refl _) (Nat.le_refl _)
  generalize hT1 : (T.setVm vm₁).pushCell { cls := cX, slots := kX.instanceTypes.map defaultValue, vm := .none } = T1 at X₁ st1
  have hcat : (Value.ref T.heap.size).category = 1 := rfl
  have hcellA : T1.heap[T.heap.size]? = some (freshCell cX kX) := by rw [← hT1]; exact State.heap_pushCell_size _ _
  have d3' : decode c.code (pc + 3) = .ok (.dup, 1) := by rw [hb]; exact d3
  have d4' : decode c.code (pc + 4) = .ok (.ldc_w is, 3) := by rw [hb]; exact d4
  have hstr' : vk_R own is text sa s' := vk_R.warm hW0 hstr
  obtain ⟨U, hsteps, hrun, hend, hW, hsame, ce, hce, hO⟩ := nx_ctor X₁ hexec htr x0 x1 x2 x5 (own := own) (cls := cls) (names := names) (ic := ic) hown' hcls hnames h (fun x hx => nomatch hx) hfX hkX hcellA (by rw [hhp, hT]; exact Nat.le_refl _) (msg := .ref sa) rfl
    (g := { method := m, pc := pc + 7, locals := ls, stack := .ref sa :: .ref T.heap.size :: .ref T.heap.size :: rest, locked := none }) rfl hsize rfl rfl (rest := rest) rfl
    (by rw [hb]; exact d7) (by rw [hb]; exact d10) hout hRframes (by simp only [List.map_cons, List.sum_cons, hcat]; omega) hlocks
  obtain ⟨f1, f2⟩ := vx_frame hsame
  rw [hhp] at f1 f2
  have hWs : s.WarmedH U.vm := State.WarmedH.trans hW0 hW
  have hcl : s.vm.findClass cls = some ce.cls := by
    have h9 := hO.cls
    rw [hvm] at h9
    exact h9
  have hall : s.sameButNew ({ U with vm := s.vm } : State) locs mc ms := by
    subst hA
    obtain ⟨e1, e2⟩ := hsame
    rw [State.setFrames_setFrames] at e1
    have h2 : (T.setVm s.vm).sameButNew ({ U with vm := s.vm } : State) [] (0 + 1) (0 + 6) := ⟨e1, e2⟩
    have h3 := X.same.trans h2
    rw [List.append_nil] at h3
    exact h3.mono hc hs
  refine ⟨U, ?_, .threw T.heap.size, hrun, hend, Or.inr ⟨T.heap.size, rfl, cls, ce, locs, hx U hWs.alike f1 (fun q hq => f2 q hq (fun z hz => nomatch hz)), hce, hO.vm, hcl, hWs, hall, hf⟩⟩
  refine st1 _ ?_
  show Steps p.tables e below (T1.setTop { method := m, pc := pc + 3, locals := ls, stack := .ref T.heap.size :: rest, locked := none }) _
  jvm_step X₁.here [X₁.here.top, hexec, d3', Value.category]
  exact X₁.ldcStringW hexec (own := own) (text := text) (index := is) (a := sa) hown' hstr'.1 hstr'.2
    (g := { method := m, pc := pc + 4, locals := ls, stack := .ref T.heap.size :: .ref T.heap.size :: rest, locked := none }) rfl d4' _ hsteps
end NXE
def wTX (own cls text : String) (names : List String) (ik is ic i ix : Nat) (rx : ByteArray) : Prop := (Bundle.fit cls = true ∧ ∀ n ∈ names, Bundle.fit n = true) ∧ Cond.classLink own ik cls ∈ wTs ∧ Cond.initialized cls ∈ wTs ∧ (∀ c ∈ nx_atX own ic cls ix rx names, c ∈ wTs) ∧ wStrs[i]? = some (own, is, text) ∧ decode rx 0 = .ok (.aload_n 0, 1) ∧ decode rx 1 = .ok (.aload_n 1, 1) ∧ decode rx 2 = .ok (.invokespecial ix, 3) ∧ decode rx 5 = .ok (.return_, 1)
section JN
variable {G : wG} {own : String} {cc : ByteArray} {nL fr lo kc ks pc : Nat} {lv : List (Nat × Value)} {st : List Value} {σ : wS}
theorem j_throwSW (hG : wOk G own cc nL fr lo) {ret : Option FieldType} {RP : Option Value → wS → Prop} {XP : String → wS → Prop} (hE : wEnd G ret RP XP) (hT : wNoTab G) {cls text : String} {names : List String} {ik is ic i : Nat} (tf : wTF own cls text names ik is ic i)
    (d0 : decode cc pc = .ok (.new ik, 3)) (d3 : decode cc (pc + 3) = .ok (.dup, 1)) (d4 : decode cc (pc + 4) = .ok (.ldc_w is, 3)) (d6 : decode cc (pc + 7) = .ok (.invokespecial ic, 3)) (d9 : decode cc (pc + 10) = .ok (.athrow, 1)) (hfr : names.length + 3 < fr) (hlo : (st.map fun v => v.category).sum + (13 * (names.length + 1) + 43) ≤ lo) (h : XP cls σ) : J G nL (kc + 1) (ks + 6) pc lv st σ := by
  intro ls H locs cells slots h1 h2 h3 h4 h5 h6
  have r1 := hG.2.2.2.2.2.2.1
  have r2 := hG.2.2.2.2.2.2.2.1
  have r3 := hG.2.2.2.2.2.2.2.2.1
  have r4 := hG.2.2.2.2.2.2.2.2.2
  rw [hE.2]
  obtain ⟨⟨f1, f2⟩, f3, f4, f5, f6⟩ := tf
  refine vx_throwSW hG.1.1 hG.1.2.1 hG.2.2.1 (own := own) (cls := cls) (text := text) (names := names) (A := wA (gB G)) hG.1.2.2.2.1 f1 f2 (hG.word f3) (hG.word f4) (hG.2.2.2.1.2.2.1 i _ f6) (fun c q => hG.word (f5 c q)) (fun c q => ?_) hG.2.2.2.1.1 hG.2.2.2.1.2.1 h4 (h1.1.trans hG.1.2.2.1.symm) d0 d3 d4 d6 d9 (fun x hx => (hT x hx).elim) (by omega) (by omega) (by omega) (by omega) hG.2.2.2.2.2.1 (fun t hal hz hk => ⟨⟨σ, h, h2.kept (fun k q hq => hk _ ((h2 k q hq).lt)), h3⟩, Nat.le_trans h4.1 hz, fun q q1 q2 => (hk q (Nat.lt_of_lt_of_le q1 h4.1)).trans (h4.2.1 q q1 q2)⟩) h4.2.2 (by omega) (by omega)
  rcases List.mem_cons.mp q with rfl | q
  · exact wTs_ot f3
  · rcases List.mem_cons.mp q with rfl | q
    · exact wTs_ot f4
    · exact wTs_ot (f5 c q)
theorem j_throwX (hG : wOk G own cc nL fr lo) {ret : Option FieldType} {RP : Option Value → wS → Prop} {XP : String → wS → Prop} (hE : wEnd G ret RP XP) (hT : wNoTab G) {cls text : String} {names : List String} {ik is ic i : Nat} {ix : Nat} {rx : ByteArray} (tf : wTX own cls text names ik is ic i ix rx)
    (d0 : decode cc pc = .ok (.new ik, 3)) (d3 : decode cc (pc + 3) = .ok (.dup, 1)) (d4 : decode cc (pc + 4) = .ok (.ldc is, 2)) (d6 : decode cc (pc + 6) = .ok (.invokespecial ic, 3)) (d9 : decode cc (pc + 9) = .ok (.athrow, 1)) (hfr : names.length + 3 < fr) (hlo : (st.map fun v => v.category).sum + (13 * (names.length + 1) + 43) ≤ lo) (h : XP cls σ) : J G nL (kc + 1) (ks + 6) pc lv st σ := by
  intro ls H locs cells slots h1 h2 h3 h4 h5 h6
  have r1 := hG.2.2.2.2.2.2.1
  have r2 := hG.2.2.2.2.2.2.2.1
  have r3 := hG.2.2.2.2.2.2.2.2.1
  have r4 := hG.2.2.2.2.2.2.2.2.2
  rw [hE.2]
  obtain ⟨⟨f1, f2⟩, f3, f4, f5, f6, x0, x1, x2, x5⟩ := tf
  refine nx_throwS hG.1.1 hG.1.2.1 hG.2.2.1 (own := own) (cls := cls) (text := text) (names := names) (A := wA (gB G)) x0 x1 x2 x5 hG.1.2.2.2.1 f1 f2 (hG.word f3) (hG.word f4) (hG.2.2.2.1.2.2.1 i _ f6) (fun c q => hG.word (f5 c q)) (fun c q => ?_) hG.2.2.2.1.1 hG.2.2.2.1.2.1 h4 (h1.1.trans hG.1.2.2.1.symm) d0 d3 d4 d6 d9 (fun x hx => (hT x hx).elim) (by omega) (by omega) (by omega) (by omega) hG.2.2.2.2.2.1 (fun t hal hz hk => ⟨⟨σ, h, h2.kept (fun k q hq => hk _ ((h2 k q hq).lt)), h3⟩, Nat.le_trans h4.1 hz, fun q q1 q2 => (hk q (Nat.lt_of_lt_of_le q1 h4.1)).trans (h4.2.1 q q1 q2)⟩) h4.2.2 (by omega) (by omega)
  rcases List.mem_cons.mp q with rfl | q
  · exact wTs_ot f3
  · rcases List.mem_cons.mp q with rfl | q
    · exact wTs_ot f4
    · exact wTs_ot (f5 c q)
theorem j_throwXW (hG : wOk G own cc nL fr lo) {ret : Option FieldType} {RP : Option Value → wS → Prop} {XP : String → wS → Prop} (hE : wEnd G ret RP XP) (hT : wNoTab G) {cls text : String} {names : List String} {ik is ic i : Nat} {ix : Nat} {rx : ByteArray} (tf : wTX own cls text names ik is ic i ix rx)
    (d0 : decode cc pc = .ok (.new ik, 3)) (d3 : decode cc (pc + 3) = .ok (.dup, 1)) (d4 : decode cc (pc + 4) = .ok (.ldc_w is, 3)) (d6 : decode cc (pc + 7) = .ok (.invokespecial ic, 3)) (d9 : decode cc (pc + 10) = .ok (.athrow, 1)) (hfr : names.length + 3 < fr) (hlo : (st.map fun v => v.category).sum + (13 * (names.length + 1) + 43) ≤ lo) (h : XP cls σ) : J G nL (kc + 1) (ks + 6) pc lv st σ := by
  intro ls H locs cells slots h1 h2 h3 h4 h5 h6
  have r1 := hG.2.2.2.2.2.2.1
  have r2 := hG.2.2.2.2.2.2.2.1
  have r3 := hG.2.2.2.2.2.2.2.2.1
  have r4 := hG.2.2.2.2.2.2.2.2.2
  rw [hE.2]
  obtain ⟨⟨f1, f2⟩, f3, f4, f5, f6, x0, x1, x2, x5⟩ := tf
  refine nx_throwSW hG.1.1 hG.1.2.1 hG.2.2.1 (own := own) (cls := cls) (text := text) (names := names) (A := wA (gB G)) x0 x1 x2 x5 hG.1.2.2.2.1 f1 f2 (hG.word f3) (hG.word f4) (hG.2.2.2.1.2.2.1 i _ f6) (fun c q => hG.word (f5 c q)) (fun c q => ?_) hG.2.2.2.1.1 hG.2.2.2.1.2.1 h4 (h1.1.trans hG.1.2.2.1.symm) d0 d3 d4 d6 d9 (fun x hx => (hT x hx).elim) (by omega) (by omega) (by omega) (by omega) hG.2.2.2.2.2.1 (fun t hal hz hk => ⟨⟨σ, h, h2.kept (fun k q hq => hk _ ((h2 k q hq).lt)), h3⟩, Nat.le_trans h4.1 hz, fun q q1 q2 => (hk q (Nat.lt_of_lt_of_le q1 h4.1)).trans (h4.2.1 q q1 q2)⟩) h4.2.2 (by omega) (by omega)
  rcases List.mem_cons.mp q with rfl | q
  · exact wTs_ot f3
  · rcases List.mem_cons.mp q with rfl | q
    · exact wTs_ot f4
    · exact wTs_ot (f5 c q)
end JN
end
section
theorem cl_X1 : wCl 3 RX1 TX1 7 tyX1 := ⟨rfl, by decide +kernel, tyX1_ok, nmX1⟩
theorem cl_X2 : wCl 4 RX2 TX2 10 tyX2 := ⟨rfl, by decide +kernel, tyX2_ok, nmX2⟩
theorem cl_X3 : wCl 5 RX3 TX3 6 tyX3 := ⟨rfl, by decide +kernel, tyX3_ok, nmX3⟩
theorem cl_X4 : wCl 6 RX4 TX4 3 tyX4 := ⟨rfl, by decide +kernel, tyX4_ok, nmX4⟩
theorem cl_X5 : wCl 7 RX5 TX5 5 tyX5 := ⟨rfl, by decide +kernel, tyX5_ok, nmX5⟩
theorem cl_X6 : wCl 8 RX6 TX6 6 tyX6 := ⟨rfl, by decide +kernel, tyX6_ok, nmX6⟩
theorem cl_X7 : wCl 9 RX7 TX7 8 tyX7 := ⟨rfl, by decide +kernel, tyX7_ok, nmX7⟩
theorem cl_X8 : wCl 10 RX8 TX8 26 tyX8 := ⟨rfl, by decide +kernel, tyX8_ok, nmX8⟩
theorem ml_L_128 : Cond.methodLink RL 128 yX7_init ∈ wTs := wTs_in 70 (by decide +kernel) rfl
theorem fl_X4_9 : Cond.fieldLink RX4 9 RX4 (TX4 0).2.1 (TX4 0).2.2.1 ∈ wTs := wTs_in 82 (by decide +kernel) rfl
theorem fl_X3_33 : Cond.fieldLink RX3 33 RX4 (TX4 0).2.1 (TX4 0).2.2.1 ∈ wTs := wTs_in 83 (by decide +kernel) rfl
theorem fl_X7_99 : Cond.fieldLink RX7 99 RX4 (TX4 0).2.1 (TX4 0).2.2.1 ∈ wTs := wTs_in 84 (by decide +kernel) rfl
theorem fl_X4_15 : Cond.fieldLink RX4 15 RX4 (TX4 1).2.1 (TX4 1).2.2.1 ∈ wTs := wTs_in 85 (by decide +kernel) rfl
theorem fl_X7_65 : Cond.fieldLink RX7 65 RX4 (TX4 1).2.1 (TX4 1).2.2.1 ∈ wTs := wTs_in 86 (by decide +kernel) rfl
theorem fl_X4_19 : Cond.fieldLink RX4 19 RX4 (TX4 2).2.1 (TX4 2).2.2.1 ∈ wTs := wTs_in 87 (by decide +kernel) rfl
theorem fl_X7_86 : Cond.fieldLink RX7 86 RX4 (TX4 2).2.1 (TX4 2).2.2.1 ∈ wTs := wTs_in 88 (by decide +kernel) rfl
theorem ml_X7_18 : Cond.methodLink RX7 18 yX3_init ∈ wTs := wTs_in 99 (by decide +kernel) rfl
theorem fl_X3_29 : Cond.fieldLink RX3 29 RX3 (TX3 0).2.1 (TX3 0).2.2.1 ∈ wTs := wTs_in 103 (by decide +kernel) rfl
theorem fl_X3_9 : Cond.fieldLink RX3 9 RX3 (TX3 1).2.1 (TX3 1).2.2.1 ∈ wTs := wTs_in 104 (by decide +kernel) rfl
theorem fl_X6_39 : Cond.fieldLink RX6 39 RX3 (TX3 1).2.1 (TX3 1).2.2.1 ∈ wTs := wTs_in 105 (by decide +kernel) rfl
theorem fl_X2_68 : Cond.fieldLink RX2 68 RX3 (TX3 1).2.1 (TX3 1).2.2.1 ∈ wTs := wTs_in 106 (by decide +kernel) rfl
theorem fl_X7_157 : Cond.fieldLink RX7 157 RX3 (TX3 1).2.1 (TX3 1).2.2.1 ∈ wTs := wTs_in 107 (by decide +kernel) rfl
theorem fl_X3_15 : Cond.fieldLink RX3 15 RX3 (TX3 2).2.1 (TX3 2).2.2.1 ∈ wTs := wTs_in 108 (by decide +kernel) rfl
theorem fl_X1_35 : Cond.fieldLink RX1 35 RX3 (TX3 2).2.1 (TX3 2).2.2.1 ∈ wTs := wTs_in 109 (by decide +kernel) rfl
theorem fl_X3_19 : Cond.fieldLink RX3 19 RX3 (TX3 3).2.1 (TX3 3).2.2.1 ∈ wTs := wTs_in 110 (by decide +kernel) rfl
theorem fl_X1_45 : Cond.fieldLink RX1 45 RX3 (TX3 3).2.1 (TX3 3).2.2.1 ∈ wTs := wTs_in 111 (by decide +kernel) rfl
theorem fl_X3_22 : Cond.fieldLink RX3 22 RX3 (TX3 4).2.1 (TX3 4).2.2.1 ∈ wTs := wTs_in 112 (by decide +kernel) rfl
theorem fl_X1_52 : Cond.fieldLink RX1 52 RX3 (TX3 4).2.1 (TX3 4).2.2.1 ∈ wTs := wTs_in 113 (by decide +kernel) rfl
theorem fl_X3_25 : Cond.fieldLink RX3 25 RX3 (TX3 5).2.1 (TX3 5).2.2.1 ∈ wTs := wTs_in 114 (by decide +kernel) rfl
theorem fl_X6_34 : Cond.fieldLink RX6 34 RX3 (TX3 5).2.1 (TX3 5).2.2.1 ∈ wTs := wTs_in 115 (by decide +kernel) rfl
theorem fl_X2_59 : Cond.fieldLink RX2 59 RX3 (TX3 5).2.1 (TX3 5).2.2.1 ∈ wTs := wTs_in 116 (by decide +kernel) rfl
theorem fl_X7_124 : Cond.fieldLink RX7 124 RX3 (TX3 5).2.1 (TX3 5).2.2.1 ∈ wTs := wTs_in 117 (by decide +kernel) rfl
theorem ml_X7_27 : Cond.methodLink RX7 27 yX1_init ∈ wTs := wTs_in 134 (by decide +kernel) rfl
theorem fl_X1_31 : Cond.fieldLink RX1 31 RX1 (TX1 0).2.1 (TX1 0).2.2.1 ∈ wTs := wTs_in 138 (by decide +kernel) rfl
theorem fl_X1_9 : Cond.fieldLink RX1 9 RX1 (TX1 1).2.1 (TX1 1).2.2.1 ∈ wTs := wTs_in 139 (by decide +kernel) rfl
theorem fl_X1_15 : Cond.fieldLink RX1 15 RX1 (TX1 2).2.1 (TX1 2).2.2.1 ∈ wTs := wTs_in 140 (by decide +kernel) rfl
theorem fl_X1_19 : Cond.fieldLink RX1 19 RX1 (TX1 3).2.1 (TX1 3).2.2.1 ∈ wTs := wTs_in 141 (by decide +kernel) rfl
theorem fl_X1_22 : Cond.fieldLink RX1 22 RX1 (TX1 4).2.1 (TX1 4).2.2.1 ∈ wTs := wTs_in 142 (by decide +kernel) rfl
theorem fl_X1_25 : Cond.fieldLink RX1 25 RX1 (TX1 5).2.1 (TX1 5).2.2.1 ∈ wTs := wTs_in 143 (by decide +kernel) rfl
theorem fl_X7_146 : Cond.fieldLink RX7 146 RX1 (TX1 5).2.1 (TX1 5).2.2.1 ∈ wTs := wTs_in 144 (by decide +kernel) rfl
theorem fl_X1_28 : Cond.fieldLink RX1 28 RX1 (TX1 6).2.1 (TX1 6).2.2.1 ∈ wTs := wTs_in 145 (by decide +kernel) rfl
theorem fl_X7_143 : Cond.fieldLink RX7 143 RX1 (TX1 6).2.1 (TX1 6).2.2.1 ∈ wTs := wTs_in 146 (by decide +kernel) rfl
theorem ml_X7_36 : Cond.methodLink RX7 36 yX6_init ∈ wTs := wTs_in 165 (by decide +kernel) rfl
theorem fl_X6_26 : Cond.fieldLink RX6 26 RX6 (TX6 0).2.1 (TX6 0).2.2.1 ∈ wTs := wTs_in 169 (by decide +kernel) rfl
theorem fl_X6_30 : Cond.fieldLink RX6 30 RX6 (TX6 1).2.1 (TX6 1).2.2.1 ∈ wTs := wTs_in 170 (by decide +kernel) rfl
theorem fl_X6_9 : Cond.fieldLink RX6 9 RX6 (TX6 2).2.1 (TX6 2).2.2.1 ∈ wTs := wTs_in 171 (by decide +kernel) rfl
theorem fl_X7_183 : Cond.fieldLink RX7 183 RX6 (TX6 2).2.1 (TX6 2).2.2.1 ∈ wTs := wTs_in 172 (by decide +kernel) rfl
theorem fl_X6_15 : Cond.fieldLink RX6 15 RX6 (TX6 3).2.1 (TX6 3).2.2.1 ∈ wTs := wTs_in 173 (by decide +kernel) rfl
theorem fl_X7_195 : Cond.fieldLink RX7 195 RX6 (TX6 3).2.1 (TX6 3).2.2.1 ∈ wTs := wTs_in 174 (by decide +kernel) rfl
theorem fl_X6_19 : Cond.fieldLink RX6 19 RX6 (TX6 4).2.1 (TX6 4).2.2.1 ∈ wTs := wTs_in 175 (by decide +kernel) rfl
theorem fl_X7_206 : Cond.fieldLink RX7 206 RX6 (TX6 4).2.1 (TX6 4).2.2.1 ∈ wTs := wTs_in 176 (by decide +kernel) rfl
theorem fl_X6_23 : Cond.fieldLink RX6 23 RX6 (TX6 5).2.1 (TX6 5).2.2.1 ∈ wTs := wTs_in 177 (by decide +kernel) rfl
theorem fl_X7_209 : Cond.fieldLink RX7 209 RX6 (TX6 5).2.1 (TX6 5).2.2.1 ∈ wTs := wTs_in 178 (by decide +kernel) rfl
theorem ml_X7_48 : Cond.methodLink RX7 48 yX2_init ∈ wTs := wTs_in 194 (by decide +kernel) rfl
theorem fl_X2_34 : Cond.fieldLink RX2 34 RX2 (TX2 0).2.1 (TX2 0).2.2.1 ∈ wTs := wTs_in 198 (by decide +kernel) rfl
theorem fl_X2_38 : Cond.fieldLink RX2 38 RX2 (TX2 1).2.1 (TX2 1).2.2.1 ∈ wTs := wTs_in 199 (by decide +kernel) rfl
theorem fl_X2_42 : Cond.fieldLink RX2 42 RX2 (TX2 2).2.1 (TX2 2).2.2.1 ∈ wTs := wTs_in 200 (by decide +kernel) rfl
theorem fl_X2_9 : Cond.fieldLink RX2 9 RX2 (TX2 3).2.1 (TX2 3).2.2.1 ∈ wTs := wTs_in 201 (by decide +kernel) rfl
theorem fl_X7_186 : Cond.fieldLink RX7 186 RX2 (TX2 3).2.1 (TX2 3).2.2.1 ∈ wTs := wTs_in 202 (by decide +kernel) rfl
theorem fl_X2_15 : Cond.fieldLink RX2 15 RX2 (TX2 4).2.1 (TX2 4).2.2.1 ∈ wTs := wTs_in 203 (by decide +kernel) rfl
theorem fl_X2_18 : Cond.fieldLink RX2 18 RX2 (TX2 5).2.1 (TX2 5).2.2.1 ∈ wTs := wTs_in 204 (by decide +kernel) rfl
theorem fl_X2_21 : Cond.fieldLink RX2 21 RX2 (TX2 6).2.1 (TX2 6).2.2.1 ∈ wTs := wTs_in 205 (by decide +kernel) rfl
theorem fl_X2_24 : Cond.fieldLink RX2 24 RX2 (TX2 7).2.1 (TX2 7).2.2.1 ∈ wTs := wTs_in 206 (by decide +kernel) rfl
theorem fl_X2_28 : Cond.fieldLink RX2 28 RX2 (TX2 8).2.1 (TX2 8).2.2.1 ∈ wTs := wTs_in 207 (by decide +kernel) rfl
theorem fl_X7_191 : Cond.fieldLink RX7 191 RX2 (TX2 8).2.1 (TX2 8).2.2.1 ∈ wTs := wTs_in 208 (by decide +kernel) rfl
theorem fl_X2_31 : Cond.fieldLink RX2 31 RX2 (TX2 9).2.1 (TX2 9).2.2.1 ∈ wTs := wTs_in 209 (by decide +kernel) rfl
theorem fl_X7_214 : Cond.fieldLink RX7 214 RX2 (TX2 9).2.1 (TX2 9).2.2.1 ∈ wTs := wTs_in 210 (by decide +kernel) rfl
theorem fl_X7_12 : Cond.fieldLink RX7 12 RX7 (TX7 0).2.1 (TX7 0).2.2.1 ∈ wTs := wTs_in 234 (by decide +kernel) rfl
theorem fl_X7_21 : Cond.fieldLink RX7 21 RX7 (TX7 1).2.1 (TX7 1).2.2.1 ∈ wTs := wTs_in 235 (by decide +kernel) rfl
theorem fl_X7_30 : Cond.fieldLink RX7 30 RX7 (TX7 2).2.1 (TX7 2).2.2.1 ∈ wTs := wTs_in 236 (by decide +kernel) rfl
theorem fl_X7_39 : Cond.fieldLink RX7 39 RX7 (TX7 3).2.1 (TX7 3).2.2.1 ∈ wTs := wTs_in 237 (by decide +kernel) rfl
theorem fl_X7_43 : Cond.fieldLink RX7 43 RX7 (TX7 4).2.1 (TX7 4).2.2.1 ∈ wTs := wTs_in 238 (by decide +kernel) rfl
theorem fl_X7_51 : Cond.fieldLink RX7 51 RX7 (TX7 5).2.1 (TX7 5).2.2.1 ∈ wTs := wTs_in 239 (by decide +kernel) rfl
theorem fl_X7_57 : Cond.fieldLink RX7 57 RX7 (TX7 6).2.1 (TX7 6).2.2.1 ∈ wTs := wTs_in 240 (by decide +kernel) rfl
theorem fl_X7_61 : Cond.fieldLink RX7 61 RX7 (TX7 7).2.1 (TX7 7).2.2.1 ∈ wTs := wTs_in 241 (by decide +kernel) rfl
theorem ml_L_179 : Cond.methodLink RL 179 yX7_openPairs ∈ wTs := wTs_in 259 (by decide +kernel) rfl
theorem ml_X7_179 : Cond.methodLink RX7 179 yX1_kindOf ∈ wTs := wTs_in 263 (by decide +kernel) rfl
theorem ml_X1_70 : Cond.methodLink RX1 70 yX1_placeOfPair ∈ wTs := wTs_in 267 (by decide +kernel) rfl
theorem ml_X1_62 : Cond.methodLink RX1 62 yJ9_min_7cf53 ∈ wTs := wTs_in 271 (by decide +kernel) rfl
theorem ml_X1_67 : Cond.methodLink RX1 67 yJ9_max_7cf53 ∈ wTs := wTs_in 274 (by decide +kernel) rfl
theorem ml_X1_73 : Cond.methodLink RX1 73 yX1_scoreOf ∈ wTs := wTs_in 277 (by decide +kernel) rfl
theorem ml_X1_41 : Cond.methodLink RX1 41 yX3_blockAt ∈ wTs := wTs_in 281 (by decide +kernel) rfl
theorem ml_X1_48 : Cond.methodLink RX1 48 yX1_nameScore ∈ wTs := wTs_in 285 (by decide +kernel) rfl
theorem ml_X1_55 : Cond.methodLink RX1 55 yX1_yearScore ∈ wTs := wTs_in 289 (by decide +kernel) rfl
theorem ml_X1_58 : Cond.methodLink RX1 58 yX1_placeScore ∈ wTs := wTs_in 293 (by decide +kernel) rfl
theorem ml_L_189 : Cond.methodLink RL 189 yX7_matches ∈ wTs := wTs_in 297 (by decide +kernel) rfl
theorem ml_L_246 : Cond.methodLink RL 246 yX7_isSafe ∈ wTs := wTs_in 301 (by decide +kernel) rfl
theorem ml_X7_198 : Cond.methodLink RX7 198 yX6_renew ∈ wTs := wTs_in 305 (by decide +kernel) rfl
theorem ml_X6_42 : Cond.methodLink RX6 42 yX6_repeatsEarlier ∈ wTs := wTs_in 309 (by decide +kernel) rfl
theorem ml_X6_53 : Cond.methodLink RX6 53 yX6_isCounted ∈ wTs := wTs_in 313 (by decide +kernel) rfl
theorem ml_X6_56 : Cond.methodLink RX6 56 yX1_kindOf ∈ wTs := wTs_in 317 (by decide +kernel) rfl
theorem ml_X6_46 : Cond.methodLink RX6 46 yX3_blockAt ∈ wTs := wTs_in 318 (by decide +kernel) rfl
theorem ml_X6_50 : Cond.methodLink RX6 50 yX3_groupAt ∈ wTs := wTs_in 319 (by decide +kernel) rfl
theorem ml_X7_300 : Cond.methodLink RX7 300 yX6_hasCounts ∈ wTs := wTs_in 323 (by decide +kernel) rfl
theorem ml_X7_304 : Cond.methodLink RX7 304 yX7_isSafeTable ∈ wTs := wTs_in 327 (by decide +kernel) rfl
theorem ml_X7_276 : Cond.methodLink RX7 276 yX0_numberFound ∈ wTs := wTs_in 331 (by decide +kernel) rfl
theorem ml_X0_29 : Cond.methodLink RX0 29 yX0_has ∈ wTs := wTs_in 334 (by decide +kernel) rfl
theorem ml_X0_33 : Cond.methodLink RX0 33 yX0_isFound ∈ wTs := wTs_in 337 (by decide +kernel) rfl
theorem ml_X0_9 : Cond.methodLink RX0 9 yX0_blockEnd ∈ wTs := wTs_in 340 (by decide +kernel) rfl
theorem ml_X0_36 : Cond.methodLink RX0 36 yX0_tiedTo ∈ wTs := wTs_in 343 (by decide +kernel) rfl
theorem ml_X0_47 : Cond.methodLink RX0 47 yX0_endsInBlock ∈ wTs := wTs_in 346 (by decide +kernel) rfl
theorem ml_X0_15 : Cond.methodLink RX0 15 yX0_groupEnd ∈ wTs := wTs_in 349 (by decide +kernel) rfl
theorem ml_X7_279 : Cond.methodLink RX7 279 yX0_numberWithoutWay ∈ wTs := wTs_in 352 (by decide +kernel) rfl
theorem ml_X0_50 : Cond.methodLink RX0 50 yX0_hasClosedWay ∈ wTs := wTs_in 355 (by decide +kernel) rfl
theorem ml_X0_53 : Cond.methodLink RX0 53 yX0_besides ∈ wTs := wTs_in 358 (by decide +kernel) rfl
theorem ml_X0_60 : Cond.methodLink RX0 60 yX0_cellsOfBlock ∈ wTs := wTs_in 361 (by decide +kernel) rfl
theorem ml_X0_57 : Cond.methodLink RX0 57 yX0_cellsOfGroup ∈ wTs := wTs_in 364 (by decide +kernel) rfl
theorem ml_X7_308 : Cond.methodLink RX7 308 yX5_shows ∈ wTs := wTs_in 368 (by decide +kernel) rfl
theorem ml_L_132 : Cond.methodLink RL 132 yL_addBlock ∈ wTs := wTs_in 372 (by decide +kernel) rfl
theorem ml_L_7 : Cond.methodLink RL 7 yX7_addBlock ∈ wTs := wTs_in 376 (by decide +kernel) rfl
theorem ml_X7_75 : Cond.methodLink RX7 75 yX4_openBlock ∈ wTs := wTs_in 452 (by decide +kernel) rfl
theorem ml_X7_79 : Cond.methodLink RX7 79 yX7_settle ∈ wTs := wTs_in 456 (by decide +kernel) rfl
theorem ml_X7_312 : Cond.methodLink RX7 312 yX2_renew ∈ wTs := wTs_in 460 (by decide +kernel) rfl
theorem ml_X2_46 : Cond.methodLink RX2 46 yX2_gatherLinked ∈ wTs := wTs_in 464 (by decide +kernel) rfl
theorem ml_X2_62 : Cond.methodLink RX2 62 yX6_isCounted ∈ wTs := wTs_in 468 (by decide +kernel) rfl
theorem ml_X2_72 : Cond.methodLink RX2 72 yX1_kindOf ∈ wTs := wTs_in 469 (by decide +kernel) rfl
theorem ml_X2_76 : Cond.methodLink RX2 76 yX1_scoreOf ∈ wTs := wTs_in 470 (by decide +kernel) rfl
theorem ml_X2_49 : Cond.methodLink RX2 49 yX1_bestScore ∈ wTs := wTs_in 471 (by decide +kernel) rfl
theorem ml_X2_55 : Cond.methodLink RX2 55 yX2_takeWithScore ∈ wTs := wTs_in 475 (by decide +kernel) rfl
theorem ml_L_141 : Cond.methodLink RL 141 yL_addAddress ∈ wTs := wTs_in 479 (by decide +kernel) rfl
theorem ml_L_15 : Cond.methodLink RL 15 yX7_addAddress ∈ wTs := wTs_in 506 (by decide +kernel) rfl
theorem ml_X7_82 : Cond.methodLink RX7 82 yX7_needBlock ∈ wTs := wTs_in 510 (by decide +kernel) rfl
theorem ml_X7_91 : Cond.methodLink RX7 91 yX4_openAddress ∈ wTs := wTs_in 528 (by decide +kernel) rfl
theorem ml_L_145 : Cond.methodLink RL 145 yL_split ∈ wTs := wTs_in 532 (by decide +kernel) rfl
theorem ml_L_21 : Cond.methodLink RL 21 yX7_split ∈ wTs := wTs_in 536 (by decide +kernel) rfl
theorem ml_X7_95 : Cond.methodLink RX7 95 yX4_hasAddress ∈ wTs := wTs_in 540 (by decide +kernel) rfl
theorem ml_X7_108 : Cond.methodLink RX7 108 yX4_move ∈ wTs := wTs_in 560 (by decide +kernel) rfl
theorem ml_L_149 : Cond.methodLink RL 149 yL_join ∈ wTs := wTs_in 564 (by decide +kernel) rfl
theorem ml_L_27 : Cond.methodLink RL 27 yX7_join ∈ wTs := wTs_in 568 (by decide +kernel) rfl
theorem ml_L_152 : Cond.methodLink RL 152 yL_addRecord ∈ wTs := wTs_in 588 (by decide +kernel) rfl
theorem ml_L_32 : Cond.methodLink RL 32 yX7_addRecord ∈ wTs := wTs_in 591 (by decide +kernel) rfl
theorem ml_X7_121 : Cond.methodLink RX7 121 yX7_needAddress ∈ wTs := wTs_in 597 (by decide +kernel) rfl
theorem ml_X7_129 : Cond.methodLink RX7 129 yX3_add ∈ wTs := wTs_in 603 (by decide +kernel) rfl
theorem ml_L_156 : Cond.methodLink RL 156 yL_blockOf ∈ wTs := wTs_in 607 (by decide +kernel) rfl
theorem ml_L_36 : Cond.methodLink RL 36 yX7_blockOf ∈ wTs := wTs_in 610 (by decide +kernel) rfl
theorem ml_L_159 : Cond.methodLink RL 159 yL_setPoints ∈ wTs := wTs_in 614 (by decide +kernel) rfl
theorem ml_L_39 : Cond.methodLink RL 39 yX7_setPoints ∈ wTs := wTs_in 617 (by decide +kernel) rfl
theorem ml_X7_137 : Cond.methodLink RX7 137 yX1_changePoints ∈ wTs := wTs_in 623 (by decide +kernel) rfl
theorem ml_L_163 : Cond.methodLink RL 163 yL_setBounds ∈ wTs := wTs_in 627 (by decide +kernel) rfl
theorem ml_L_43 : Cond.methodLink RL 43 yX7_setBounds ∈ wTs := wTs_in 630 (by decide +kernel) rfl
theorem ml_L_166 : Cond.methodLink RL 166 yL_score ∈ wTs := wTs_in 635 (by decide +kernel) rfl
theorem ml_L_46 : Cond.methodLink RL 46 yX7_score ∈ wTs := wTs_in 638 (by decide +kernel) rfl
theorem ml_X7_149 : Cond.methodLink RX7 149 yX7_needTwoRecords ∈ wTs := wTs_in 642 (by decide +kernel) rfl
theorem ml_X7_170 : Cond.methodLink RX7 170 yX7_needRecord ∈ wTs := wTs_in 646 (by decide +kernel) rfl
theorem ml_X7_153 : Cond.methodLink RX7 153 yX1_scoreOf ∈ wTs := wTs_in 652 (by decide +kernel) rfl
theorem ml_L_169 : Cond.methodLink RL 169 yL_decide ∈ wTs := wTs_in 653 (by decide +kernel) rfl
theorem ml_L_49 : Cond.methodLink RL 49 yX7_decide ∈ wTs := wTs_in 657 (by decide +kernel) rfl
theorem ml_X7_166 : Cond.methodLink RX7 166 yX1_putDecision ∈ wTs := wTs_in 677 (by decide +kernel) rfl
theorem ml_L_173 : Cond.methodLink RL 173 yL_takeBack ∈ wTs := wTs_in 681 (by decide +kernel) rfl
theorem ml_L_55 : Cond.methodLink RL 55 yX7_takeBack ∈ wTs := wTs_in 684 (by decide +kernel) rfl
theorem ml_X7_173 : Cond.methodLink RX7 173 yX1_isDecided ∈ wTs := wTs_in 688 (by decide +kernel) rfl
theorem ml_L_176 : Cond.methodLink RL 176 yL_link ∈ wTs := wTs_in 693 (by decide +kernel) rfl
theorem ml_L_58 : Cond.methodLink RL 58 yX7_link ∈ wTs := wTs_in 696 (by decide +kernel) rfl
theorem ml_L_183 : Cond.methodLink RL 183 yL_isDouble ∈ wTs := wTs_in 700 (by decide +kernel) rfl
theorem ml_L_62 : Cond.methodLink RL 62 yX7_isDouble ∈ wTs := wTs_in 703 (by decide +kernel) rfl
theorem ml_L_186 : Cond.methodLink RL 186 yL_matchOf ∈ wTs := wTs_in 707 (by decide +kernel) rfl
theorem ml_L_66 : Cond.methodLink RL 66 yX7_matchOf ∈ wTs := wTs_in 710 (by decide +kernel) rfl
theorem ml_L_193 : Cond.methodLink RL 193 yL_count ∈ wTs := wTs_in 715 (by decide +kernel) rfl
theorem ml_L_69 : Cond.methodLink RL 69 yX7_count ∈ wTs := wTs_in 718 (by decide +kernel) rfl
theorem ml_X7_192 : Cond.methodLink RX7 192 yX7_needGroup ∈ wTs := wTs_in 722 (by decide +kernel) rfl
theorem ml_L_196 : Cond.methodLink RL 196 yL_countAnew ∈ wTs := wTs_in 727 (by decide +kernel) rfl
theorem ml_L_72 : Cond.methodLink RL 72 yX7_countAnew ∈ wTs := wTs_in 730 (by decide +kernel) rfl
theorem ml_L_199 : Cond.methodLink RL 199 yL_estimate ∈ wTs := wTs_in 734 (by decide +kernel) rfl
theorem ml_L_75 : Cond.methodLink RL 75 yX7_estimate ∈ wTs := wTs_in 751 (by decide +kernel) rfl
theorem ml_L_202 : Cond.methodLink RL 202 yL_doubleShare ∈ wTs := wTs_in 758 (by decide +kernel) rfl
theorem ml_L_81 : Cond.methodLink RL 81 yX7_doubleShare ∈ wTs := wTs_in 761 (by decide +kernel) rfl
theorem ml_L_206 : Cond.methodLink RL 206 yL_meanScore ∈ wTs := wTs_in 766 (by decide +kernel) rfl
theorem ml_L_85 : Cond.methodLink RL 85 yX7_meanScore ∈ wTs := wTs_in 769 (by decide +kernel) rfl
theorem ml_L_209 : Cond.methodLink RL 209 yL_tell ∈ wTs := wTs_in 773 (by decide +kernel) rfl
theorem ml_L_89 : Cond.methodLink RL 89 yX7_tell ∈ wTs := wTs_in 776 (by decide +kernel) rfl
theorem ml_X7_221 : Cond.methodLink RX7 221 yX0_choose ∈ wTs := wTs_in 782 (by decide +kernel) rfl
theorem ml_X0_18 : Cond.methodLink RX0 18 yX0_smallCells ∈ wTs := wTs_in 785 (by decide +kernel) rfl
theorem ml_X0_22 : Cond.methodLink RX0 22 yX0_firstFound ∈ wTs := wTs_in 788 (by decide +kernel) rfl
theorem ml_X0_25 : Cond.methodLink RX0 25 yX0_nextToHide ∈ wTs := wTs_in 791 (by decide +kernel) rfl
theorem ml_X0_40 : Cond.methodLink RX0 40 yX0_endsOf ∈ wTs := wTs_in 794 (by decide +kernel) rfl
theorem ml_X0_43 : Cond.methodLink RX0 43 yX0_leastOf ∈ wTs := wTs_in 797 (by decide +kernel) rfl
theorem ml_X7_229 : Cond.methodLink RX7 229 yX5_init ∈ wTs := wTs_in 802 (by decide +kernel) rfl
theorem ml_X5_26 : Cond.methodLink RX5 26 yX5_lineOf ∈ wTs := wTs_in 806 (by decide +kernel) rfl
theorem ml_X5_36 : Cond.methodLink RX5 36 yJ4_init_da8c8 ∈ wTs := wTs_in 811 (by decide +kernel) rfl
theorem ml_J4_1 : Cond.methodLink RJ4 1 yJ5_init_d00df ∈ wTs := wTs_in 814 (by decide +kernel) rfl
theorem ml_J5_26 : Cond.methodLink RJ5 26 yJ2_newBytesFor_77867 ∈ wTs := wTs_in 820 (by decide +kernel) rfl
theorem ml_J2_11 : Cond.methodLink RJ2 11 yJ2_newBytesLength_0f7a4 ∈ wTs := wTs_in 823 (by decide +kernel) rfl
theorem ml_X5_37 : Cond.methodLink RX5 37 yX0_has ∈ wTs := wTs_in 840 (by decide +kernel) rfl
theorem ml_X5_43 : Cond.methodLink RX5 43 yJ4_append_cf468 ∈ wTs := wTs_in 841 (by decide +kernel) rfl
theorem ml_J4_50 : Cond.methodLink RJ4 50 yJ5_append_3fe6f ∈ wTs := wTs_in 845 (by decide +kernel) rfl
theorem ml_J5_100 : Cond.methodLink RJ5 100 yJ5_ensureCapacityInternal_d00df ∈ wTs := wTs_in 848 (by decide +kernel) rfl
theorem ml_J5_104 : Cond.methodLink RJ5 104 yJ5_newCapacity_0f7a4 ∈ wTs := wTs_in 852 (by decide +kernel) rfl
theorem ml_J5_114 : Cond.methodLink RJ5 114 yJ8_newLength_cabcc ∈ wTs := wTs_in 856 (by decide +kernel) rfl
theorem ml_J8_194 : Cond.methodLink RJ8 194 yJ9_max_7cf53 ∈ wTs := wTs_in 859 (by decide +kernel) rfl
theorem ml_J8_201 : Cond.methodLink RJ8 201 yJ8_hugeLength_7cf53 ∈ wTs := wTs_in 861 (by decide +kernel) rfl
theorem ml_J5_108 : Cond.methodLink RJ5 108 yJ7_copyOf_9075b ∈ wTs := wTs_in 865 (by decide +kernel) rfl
theorem ml_J7_304 : Cond.methodLink RJ7 304 yJ9_min_7cf53 ∈ wTs := wTs_in 875 (by decide +kernel) rfl
theorem ml_J5_83 : Cond.methodLink RJ5 83 yJ5_isLatin1_aae02 ∈ wTs := wTs_in 879 (by decide +kernel) rfl
theorem ml_J5_191 : Cond.methodLink RJ5 191 yJ1_canEncode_fc78d ∈ wTs := wTs_in 884 (by decide +kernel) rfl
theorem ml_J5_195 : Cond.methodLink RJ5 195 yJ5_inflate_da8c8 ∈ wTs := wTs_in 887 (by decide +kernel) rfl
theorem ml_J5_125 : Cond.methodLink RJ5 125 yJ1_inflate_0e8fd ∈ wTs := wTs_in 891 (by decide +kernel) rfl
theorem ml_J1_240 : Cond.methodLink RJ1 240 yJ2_inflate_0e8fd ∈ wTs := wTs_in 894 (by decide +kernel) rfl
theorem ml_J2_173 : Cond.methodLink RJ2 173 yJ2_checkBoundsOffCount_d044e ∈ wTs := wTs_in 897 (by decide +kernel) rfl
theorem ml_J2_48 : Cond.methodLink RJ2 48 yJ2_length_9d52b ∈ wTs := wTs_in 900 (by decide +kernel) rfl
theorem ml_J2_419 : Cond.methodLink RJ2 419 yJ0_checkBoundsOffCount_cabcc ∈ wTs := wTs_in 903 (by decide +kernel) rfl
theorem ml_J0_1065 : Cond.methodLink RJ0 1065 yJ3_checkFromIndexSize_8c36e ∈ wTs := wTs_in 908 (by decide +kernel) rfl
theorem ml_J2_111 : Cond.methodLink RJ2 111 yJ2_putChar_b72d1 ∈ wTs := wTs_in 911 (by decide +kernel) rfl
theorem ml_J5_197 : Cond.methodLink RJ5 197 yJ2_putCharSB_b72d1 ∈ wTs := wTs_in 920 (by decide +kernel) rfl
theorem ml_J2_67 : Cond.methodLink RJ2 67 yJ2_checkIndex_2214a ∈ wTs := wTs_in 923 (by decide +kernel) rfl
theorem ml_J2_414 : Cond.methodLink RJ2 414 yJ0_checkIndex_df160 ∈ wTs := wTs_in 926 (by decide +kernel) rfl
theorem ml_J0_1059 : Cond.methodLink RJ0 1059 yJ3_checkIndex_8e157 ∈ wTs := wTs_in 929 (by decide +kernel) rfl
theorem ml_X5_47 : Cond.methodLink RX5 47 yJ4_append_bf812 ∈ wTs := wTs_in 932 (by decide +kernel) rfl
theorem ml_J4_53 : Cond.methodLink RJ4 53 yJ5_append_c97b9 ∈ wTs := wTs_in 936 (by decide +kernel) rfl
theorem ml_J5_245 : Cond.methodLink RJ5 245 yJ6_stringSize_0f7a4 ∈ wTs := wTs_in 939 (by decide +kernel) rfl
theorem ml_J5_248 : Cond.methodLink RJ5 248 yJ6_getChars_ba4f3 ∈ wTs := wTs_in 942 (by decide +kernel) rfl
theorem ml_J5_251 : Cond.methodLink RJ5 251 yJ2_getChars_46870 ∈ wTs := wTs_in 949 (by decide +kernel) rfl
theorem ml_J2_96 : Cond.methodLink RJ2 96 yJ2_checkBoundsBeginEnd_d044e ∈ wTs := wTs_in 952 (by decide +kernel) rfl
theorem ml_J2_241 : Cond.methodLink RJ2 241 yJ0_checkBoundsBeginEnd_23922 ∈ wTs := wTs_in 955 (by decide +kernel) rfl
theorem ml_J0_1062 : Cond.methodLink RJ0 1062 yJ3_checkFromToIndex_8c36e ∈ wTs := wTs_in 958 (by decide +kernel) rfl
theorem ml_J2_393 : Cond.methodLink RJ2 393 yJ2_getChars_ba4f3 ∈ wTs := wTs_in 961 (by decide +kernel) rfl
theorem ml_X5_50 : Cond.methodLink RX5 50 yJ4_toString_0e30d ∈ wTs := wTs_in 966 (by decide +kernel) rfl
theorem ml_J4_137 : Cond.methodLink RJ4 137 yJ0_init_81219 ∈ wTs := wTs_in 971 (by decide +kernel) rfl
theorem ml_J0_489 : Cond.methodLink RJ0 489 yJ0_init_db425 ∈ wTs := wTs_in 974 (by decide +kernel) rfl
theorem ml_J0_552 : Cond.methodLink RJ0 552 yJ5_getValue_6d5f1 ∈ wTs := wTs_in 978 (by decide +kernel) rfl
theorem ml_J0_549 : Cond.methodLink RJ0 549 yJ5_length_8abf5 ∈ wTs := wTs_in 983 (by decide +kernel) rfl
theorem ml_J4_343 : Cond.methodLink RJ4 343 yJ5_length_8abf5 ∈ wTs := wTs_in 989 (by decide +kernel) rfl
theorem ml_J0_1047 : Cond.methodLink RJ0 1047 yJ5_isLatin1_aae02 ∈ wTs := wTs_in 991 (by decide +kernel) rfl
theorem ml_J0_54 : Cond.methodLink RJ0 54 yJ7_copyOfRange_39247 ∈ wTs := wTs_in 992 (by decide +kernel) rfl
theorem ml_J7_339 : Cond.methodLink RJ7 339 yJ7_copyOfRangeByte_39247 ∈ wTs := wTs_in 995 (by decide +kernel) rfl
theorem ml_J7_343 : Cond.methodLink RJ7 343 yJ7_checkLength_df160 ∈ wTs := wTs_in 998 (by decide +kernel) rfl
theorem ml_J7_47 : Cond.methodLink RJ7 47 yJ4_init_da8c8 ∈ wTs := wTs_in 1003 (by decide +kernel) rfl
theorem ml_J7_54 : Cond.methodLink RJ7 54 yJ4_append_bf812 ∈ wTs := wTs_in 1004 (by decide +kernel) rfl
theorem ml_J7_50 : Cond.methodLink RJ7 50 yJ4_append_15ec4 ∈ wTs := wTs_in 1006 (by decide +kernel) rfl
theorem ml_J4_29 : Cond.methodLink RJ4 29 yJ5_append_cf1ce ∈ wTs := wTs_in 1010 (by decide +kernel) rfl
theorem ml_J5_204 : Cond.methodLink RJ5 204 yJ5_appendNull_278bc ∈ wTs := wTs_in 1013 (by decide +kernel) rfl
theorem ml_J5_226 : Cond.methodLink RJ5 226 yJ2_putCharsAt_cd4e5 ∈ wTs := wTs_in 1017 (by decide +kernel) rfl
theorem ml_J5_32 : Cond.methodLink RJ5 32 yJ0_length_8abf5 ∈ wTs := wTs_in 1020 (by decide +kernel) rfl
theorem ml_J0_335 : Cond.methodLink RJ0 335 yJ0_coder_7d493 ∈ wTs := wTs_in 1024 (by decide +kernel) rfl
theorem ml_J5_208 : Cond.methodLink RJ5 208 yJ5_putStringAt_47b60 ∈ wTs := wTs_in 1029 (by decide +kernel) rfl
theorem ml_J5_397 : Cond.methodLink RJ5 397 yJ5_inflateIfNeededFor_a7421 ∈ wTs := wTs_in 1033 (by decide +kernel) rfl
theorem ml_J5_40 : Cond.methodLink RJ5 40 yJ0_coder_7d493 ∈ wTs := wTs_in 1037 (by decide +kernel) rfl
theorem ml_J5_399 : Cond.methodLink RJ5 399 yJ0_getBytes_840e7 ∈ wTs := wTs_in 1038 (by decide +kernel) rfl
theorem ml_J0_106 : Cond.methodLink RJ0 106 yJ1_inflate_0e8fd ∈ wTs := wTs_in 1043 (by decide +kernel) rfl
theorem ml_J7_61 : Cond.methodLink RJ7 61 yJ4_toString_0e30d ∈ wTs := wTs_in 1044 (by decide +kernel) rfl
theorem ml_J0_1051 : Cond.methodLink RJ0 1051 yJ2_compress_39247 ∈ wTs := wTs_in 1046 (by decide +kernel) rfl
theorem ml_J2_123 : Cond.methodLink RJ2 123 yJ2_compress_5af95 ∈ wTs := wTs_in 1049 (by decide +kernel) rfl
theorem ml_J2_71 : Cond.methodLink RJ2 71 yJ2_getChar_3b067 ∈ wTs := wTs_in 1052 (by decide +kernel) rfl
theorem ml_J2_126 : Cond.methodLink RJ2 126 yJ7_copyOfRange_39247 ∈ wTs := wTs_in 1055 (by decide +kernel) rfl
theorem ml_J0_47 : Cond.methodLink RJ0 47 yJ2_coderFromArrayLen_85cad ∈ wTs := wTs_in 1056 (by decide +kernel) rfl
theorem fl_X5_19 : Cond.fieldLink RX5 19 RX5 (TX5 0).2.1 (TX5 0).2.2.1 ∈ wTs := wTs_in 1066 (by decide +kernel) rfl
theorem fl_X7_325 : Cond.fieldLink RX7 325 RX5 (TX5 0).2.1 (TX5 0).2.2.1 ∈ wTs := wTs_in 1067 (by decide +kernel) rfl
theorem fl_X5_9 : Cond.fieldLink RX5 9 RX5 (TX5 1).2.1 (TX5 1).2.2.1 ∈ wTs := wTs_in 1068 (by decide +kernel) rfl
theorem fl_X7_252 : Cond.fieldLink RX7 252 RX5 (TX5 1).2.1 (TX5 1).2.2.1 ∈ wTs := wTs_in 1069 (by decide +kernel) rfl
theorem fl_X5_23 : Cond.fieldLink RX5 23 RX5 (TX5 2).2.1 (TX5 2).2.2.1 ∈ wTs := wTs_in 1070 (by decide +kernel) rfl
theorem fl_X7_244 : Cond.fieldLink RX7 244 RX5 (TX5 2).2.1 (TX5 2).2.2.1 ∈ wTs := wTs_in 1071 (by decide +kernel) rfl
theorem fl_X5_30 : Cond.fieldLink RX5 30 RX5 (TX5 3).2.1 (TX5 3).2.2.1 ∈ wTs := wTs_in 1072 (by decide +kernel) rfl
theorem fl_X7_282 : Cond.fieldLink RX7 282 RX5 (TX5 3).2.1 (TX5 3).2.2.1 ∈ wTs := wTs_in 1073 (by decide +kernel) rfl
theorem fl_X5_15 : Cond.fieldLink RX5 15 RX5 (TX5 4).2.1 (TX5 4).2.2.1 ∈ wTs := wTs_in 1074 (by decide +kernel) rfl
theorem fl_X7_236 : Cond.fieldLink RX7 236 RX5 (TX5 4).2.1 (TX5 4).2.2.1 ∈ wTs := wTs_in 1075 (by decide +kernel) rfl
theorem ml_L_212 : Cond.methodLink RL 212 yL_stateOf ∈ wTs := wTs_in 1087 (by decide +kernel) rfl
theorem ml_L_92 : Cond.methodLink RL 92 yX7_stateOf ∈ wTs := wTs_in 1090 (by decide +kernel) rfl
theorem ml_X7_232 : Cond.methodLink RX7 232 yX7_toldTable ∈ wTs := wTs_in 1094 (by decide +kernel) rfl
theorem ml_L_215 : Cond.methodLink RL 215 yL_isHidden ∈ wTs := wTs_in 1099 (by decide +kernel) rfl
theorem ml_L_96 : Cond.methodLink RL 96 yX7_isHidden ∈ wTs := wTs_in 1102 (by decide +kernel) rfl
theorem ml_X7_240 : Cond.methodLink RX7 240 yX7_needCell ∈ wTs := wTs_in 1106 (by decide +kernel) rfl
theorem ml_X7_253 : Cond.methodLink RX7 253 yX7_needBlockIn ∈ wTs := wTs_in 1110 (by decide +kernel) rfl
theorem ml_X7_247 : Cond.methodLink RX7 247 yX0_has ∈ wTs := wTs_in 1115 (by decide +kernel) rfl
theorem ml_L_219 : Cond.methodLink RL 219 yL_cell ∈ wTs := wTs_in 1116 (by decide +kernel) rfl
theorem ml_L_100 : Cond.methodLink RL 100 yX7_cell ∈ wTs := wTs_in 1119 (by decide +kernel) rfl
theorem ml_L_222 : Cond.methodLink RL 222 yL_blockSum ∈ wTs := wTs_in 1124 (by decide +kernel) rfl
theorem ml_L_104 : Cond.methodLink RL 104 yX7_blockSum ∈ wTs := wTs_in 1127 (by decide +kernel) rfl
theorem ml_X7_257 : Cond.methodLink RX7 257 yX5_sumOfBlock ∈ wTs := wTs_in 1131 (by decide +kernel) rfl
theorem ml_L_225 : Cond.methodLink RL 225 yL_groupSum ∈ wTs := wTs_in 1135 (by decide +kernel) rfl
theorem ml_L_107 : Cond.methodLink RL 107 yX7_groupSum ∈ wTs := wTs_in 1138 (by decide +kernel) rfl
theorem ml_X7_260 : Cond.methodLink RX7 260 yX5_sumOfGroup ∈ wTs := wTs_in 1142 (by decide +kernel) rfl
theorem ml_L_228 : Cond.methodLink RL 228 yL_holes ∈ wTs := wTs_in 1146 (by decide +kernel) rfl
theorem ml_L_110 : Cond.methodLink RL 110 yX7_holes ∈ wTs := wTs_in 1149 (by decide +kernel) rfl
theorem ml_X7_263 : Cond.methodLink RX7 263 yJ6_bitCount_0f7a4 ∈ wTs := wTs_in 1153 (by decide +kernel) rfl
theorem ml_L_231 : Cond.methodLink RL 231 yL_isAtRisk ∈ wTs := wTs_in 1159 (by decide +kernel) rfl
theorem ml_L_113 : Cond.methodLink RL 113 yX7_isAtRisk ∈ wTs := wTs_in 1162 (by decide +kernel) rfl
theorem ml_X7_268 : Cond.methodLink RX7 268 yX0_smallCells ∈ wTs := wTs_in 1166 (by decide +kernel) rfl
theorem ml_X7_273 : Cond.methodLink RX7 273 yX0_isFound ∈ wTs := wTs_in 1168 (by decide +kernel) rfl
theorem ml_L_234 : Cond.methodLink RL 234 yL_found ∈ wTs := wTs_in 1169 (by decide +kernel) rfl
theorem ml_L_116 : Cond.methodLink RL 116 yX7_found ∈ wTs := wTs_in 1172 (by decide +kernel) rfl
theorem ml_L_237 : Cond.methodLink RL 237 yL_foundByWays ∈ wTs := wTs_in 1176 (by decide +kernel) rfl
theorem ml_L_119 : Cond.methodLink RL 119 yX7_foundByWays ∈ wTs := wTs_in 1179 (by decide +kernel) rfl
theorem ml_L_240 : Cond.methodLink RL 240 yL_lineLength ∈ wTs := wTs_in 1183 (by decide +kernel) rfl
theorem ml_L_122 : Cond.methodLink RL 122 yX7_lineLength ∈ wTs := wTs_in 1186 (by decide +kernel) rfl
theorem ml_X7_286 : Cond.methodLink RX7 286 yJ0_length_8abf5 ∈ wTs := wTs_in 1190 (by decide +kernel) rfl
theorem ml_L_243 : Cond.methodLink RL 243 yL_lineAt ∈ wTs := wTs_in 1191 (by decide +kernel) rfl
theorem ml_L_125 : Cond.methodLink RL 125 yX7_lineAt ∈ wTs := wTs_in 1194 (by decide +kernel) rfl
theorem ml_X7_296 : Cond.methodLink RX7 296 yJ0_charAt_5068e ∈ wTs := wTs_in 1199 (by decide +kernel) rfl
theorem ml_J0_492 : Cond.methodLink RJ0 492 yJ0_isLatin1_aae02 ∈ wTs := wTs_in 1203 (by decide +kernel) rfl
theorem ml_J0_495 : Cond.methodLink RJ0 495 yJ1_charAt_3b067 ∈ wTs := wTs_in 1207 (by decide +kernel) rfl
theorem ml_J1_9 : Cond.methodLink RJ1 9 yJ0_checkIndex_df160 ∈ wTs := wTs_in 1210 (by decide +kernel) rfl
theorem ml_J0_498 : Cond.methodLink RJ0 498 yJ2_charAt_3b067 ∈ wTs := wTs_in 1211 (by decide +kernel) rfl
theorem ml_L_131 : Cond.methodLink RL 131 yX8_init ∈ wTs := wTs_in 1216 (by decide +kernel) rfl
theorem fl_X8_7 : Cond.fieldLink RX8 7 RX8 (TX8 0).2.1 (TX8 0).2.2.1 ∈ wTs := wTs_in 1220 (by decide +kernel) rfl
theorem fl_X8_13 : Cond.fieldLink RX8 13 RX8 (TX8 1).2.1 (TX8 1).2.2.1 ∈ wTs := wTs_in 1221 (by decide +kernel) rfl
theorem fl_X8_16 : Cond.fieldLink RX8 16 RX8 (TX8 2).2.1 (TX8 2).2.2.1 ∈ wTs := wTs_in 1222 (by decide +kernel) rfl
theorem fl_X8_19 : Cond.fieldLink RX8 19 RX8 (TX8 3).2.1 (TX8 3).2.2.1 ∈ wTs := wTs_in 1223 (by decide +kernel) rfl
theorem fl_X8_22 : Cond.fieldLink RX8 22 RX8 (TX8 4).2.1 (TX8 4).2.2.1 ∈ wTs := wTs_in 1224 (by decide +kernel) rfl
theorem fl_X8_25 : Cond.fieldLink RX8 25 RX8 (TX8 5).2.1 (TX8 5).2.2.1 ∈ wTs := wTs_in 1225 (by decide +kernel) rfl
theorem fl_X8_28 : Cond.fieldLink RX8 28 RX8 (TX8 6).2.1 (TX8 6).2.2.1 ∈ wTs := wTs_in 1226 (by decide +kernel) rfl
theorem fl_X8_32 : Cond.fieldLink RX8 32 RX8 (TX8 7).2.1 (TX8 7).2.2.1 ∈ wTs := wTs_in 1227 (by decide +kernel) rfl
theorem fl_X8_35 : Cond.fieldLink RX8 35 RX8 (TX8 8).2.1 (TX8 8).2.2.1 ∈ wTs := wTs_in 1228 (by decide +kernel) rfl
theorem fl_X8_39 : Cond.fieldLink RX8 39 RX8 (TX8 9).2.1 (TX8 9).2.2.1 ∈ wTs := wTs_in 1229 (by decide +kernel) rfl
theorem fl_X8_42 : Cond.fieldLink RX8 42 RX8 (TX8 10).2.1 (TX8 10).2.2.1 ∈ wTs := wTs_in 1230 (by decide +kernel) rfl
theorem fl_X8_45 : Cond.fieldLink RX8 45 RX8 (TX8 11).2.1 (TX8 11).2.2.1 ∈ wTs := wTs_in 1231 (by decide +kernel) rfl
theorem fl_X8_48 : Cond.fieldLink RX8 48 RX8 (TX8 12).2.1 (TX8 12).2.2.1 ∈ wTs := wTs_in 1232 (by decide +kernel) rfl
theorem fl_X8_51 : Cond.fieldLink RX8 51 RX8 (TX8 13).2.1 (TX8 13).2.2.1 ∈ wTs := wTs_in 1233 (by decide +kernel) rfl
theorem fl_X8_54 : Cond.fieldLink RX8 54 RX8 (TX8 14).2.1 (TX8 14).2.2.1 ∈ wTs := wTs_in 1234 (by decide +kernel) rfl
theorem fl_X8_58 : Cond.fieldLink RX8 58 RX8 (TX8 15).2.1 (TX8 15).2.2.1 ∈ wTs := wTs_in 1235 (by decide +kernel) rfl
theorem fl_X8_61 : Cond.fieldLink RX8 61 RX8 (TX8 16).2.1 (TX8 16).2.2.1 ∈ wTs := wTs_in 1236 (by decide +kernel) rfl
theorem fl_X8_64 : Cond.fieldLink RX8 64 RX8 (TX8 17).2.1 (TX8 17).2.2.1 ∈ wTs := wTs_in 1237 (by decide +kernel) rfl
theorem fl_X8_67 : Cond.fieldLink RX8 67 RX8 (TX8 18).2.1 (TX8 18).2.2.1 ∈ wTs := wTs_in 1238 (by decide +kernel) rfl
theorem fl_X8_70 : Cond.fieldLink RX8 70 RX8 (TX8 19).2.1 (TX8 19).2.2.1 ∈ wTs := wTs_in 1239 (by decide +kernel) rfl
theorem fl_X8_73 : Cond.fieldLink RX8 73 RX8 (TX8 20).2.1 (TX8 20).2.2.1 ∈ wTs := wTs_in 1240 (by decide +kernel) rfl
theorem fl_X8_76 : Cond.fieldLink RX8 76 RX8 (TX8 21).2.1 (TX8 21).2.2.1 ∈ wTs := wTs_in 1241 (by decide +kernel) rfl
theorem fl_X8_79 : Cond.fieldLink RX8 79 RX8 (TX8 22).2.1 (TX8 22).2.2.1 ∈ wTs := wTs_in 1242 (by decide +kernel) rfl
theorem fl_X8_82 : Cond.fieldLink RX8 82 RX8 (TX8 23).2.1 (TX8 23).2.2.1 ∈ wTs := wTs_in 1243 (by decide +kernel) rfl
theorem fl_X8_85 : Cond.fieldLink RX8 85 RX8 (TX8 24).2.1 (TX8 24).2.2.1 ∈ wTs := wTs_in 1244 (by decide +kernel) rfl
theorem fl_X8_88 : Cond.fieldLink RX8 88 RX8 (TX8 25).2.1 (TX8 25).2.2.1 ∈ wTs := wTs_in 1245 (by decide +kernel) rfl
theorem ml_L_138 : Cond.methodLink RL 138 yX8_thrown ∈ wTs := wTs_in 1299 (by decide +kernel) rfl
theorem ml_L_137 : Cond.methodLink RL 137 yX8_addBlock ∈ wTs := wTs_in 1303 (by decide +kernel) rfl
theorem ml_X8_120 : Cond.methodLink RX8 120 yX8_checked ∈ wTs := wTs_in 1307 (by decide +kernel) rfl
theorem ml_X8_124 : Cond.methodLink RX8 124 yX8_looks ∈ wTs := wTs_in 1311 (by decide +kernel) rfl
theorem ml_X8_117 : Cond.methodLink RX8 117 yX8_layCounts ∈ wTs := wTs_in 1315 (by decide +kernel) rfl
theorem ml_X8_107 : Cond.methodLink RX8 107 yX8_layDoubles ∈ wTs := wTs_in 1319 (by decide +kernel) rfl
theorem ml_X8_103 : Cond.methodLink RX8 103 yX8_linkOf ∈ wTs := wTs_in 1323 (by decide +kernel) rfl
theorem ml_X8_99 : Cond.methodLink RX8 99 yX8_scoreOf ∈ wTs := wTs_in 1327 (by decide +kernel) rfl
theorem ml_X8_95 : Cond.methodLink RX8 95 yX8_blockFor ∈ wTs := wTs_in 1331 (by decide +kernel) rfl
theorem ml_X8_110 : Cond.methodLink RX8 110 yX8_isCounted ∈ wTs := wTs_in 1335 (by decide +kernel) rfl
theorem ml_X8_114 : Cond.methodLink RX8 114 yX8_group ∈ wTs := wTs_in 1339 (by decide +kernel) rfl
theorem ml_L_144 : Cond.methodLink RL 144 yX8_addAddress ∈ wTs := wTs_in 1342 (by decide +kernel) rfl
theorem ml_X8_128 : Cond.methodLink RX8 128 yX8_isBlock ∈ wTs := wTs_in 1346 (by decide +kernel) rfl
theorem ml_X8_91 : Cond.methodLink RX8 91 yX8_in ∈ wTs := wTs_in 1350 (by decide +kernel) rfl
theorem ml_L_148 : Cond.methodLink RL 148 yX8_split ∈ wTs := wTs_in 1353 (by decide +kernel) rfl
theorem ml_L_151 : Cond.methodLink RL 151 yX8_join ∈ wTs := wTs_in 1357 (by decide +kernel) rfl
theorem ml_L_155 : Cond.methodLink RL 155 yX8_addRecord ∈ wTs := wTs_in 1361 (by decide +kernel) rfl
theorem ml_L_158 : Cond.methodLink RL 158 yX8_blockOf ∈ wTs := wTs_in 1365 (by decide +kernel) rfl
theorem ml_L_162 : Cond.methodLink RL 162 yX8_setPoints ∈ wTs := wTs_in 1369 (by decide +kernel) rfl
theorem ml_L_165 : Cond.methodLink RL 165 yX8_setBounds ∈ wTs := wTs_in 1373 (by decide +kernel) rfl
theorem ml_L_168 : Cond.methodLink RL 168 yX8_score ∈ wTs := wTs_in 1377 (by decide +kernel) rfl
theorem ml_X8_134 : Cond.methodLink RX8 134 yX8_wrongPair ∈ wTs := wTs_in 1381 (by decide +kernel) rfl
theorem ml_X8_131 : Cond.methodLink RX8 131 yX8_isRecord ∈ wTs := wTs_in 1385 (by decide +kernel) rfl
theorem ml_L_172 : Cond.methodLink RL 172 yX8_decide ∈ wTs := wTs_in 1389 (by decide +kernel) rfl
theorem ml_X8_137 : Cond.methodLink RX8 137 yX8_decides ∈ wTs := wTs_in 1393 (by decide +kernel) rfl
theorem ml_L_175 : Cond.methodLink RL 175 yX8_takeBack ∈ wTs := wTs_in 1397 (by decide +kernel) rfl
theorem ml_L_178 : Cond.methodLink RL 178 yX8_link ∈ wTs := wTs_in 1401 (by decide +kernel) rfl
theorem ml_L_182 : Cond.methodLink RL 182 yX8_openPairs ∈ wTs := wTs_in 1405 (by decide +kernel) rfl
theorem ml_X8_141 : Cond.methodLink RX8 141 yX8_plain ∈ wTs := wTs_in 1409 (by decide +kernel) rfl
theorem ml_L_185 : Cond.methodLink RL 185 yX8_isDouble ∈ wTs := wTs_in 1413 (by decide +kernel) rfl
theorem ml_L_188 : Cond.methodLink RL 188 yX8_matchOf ∈ wTs := wTs_in 1417 (by decide +kernel) rfl
theorem ml_X8_144 : Cond.methodLink RX8 144 yX8_layMatches ∈ wTs := wTs_in 1421 (by decide +kernel) rfl
theorem ml_L_192 : Cond.methodLink RL 192 yX8_matches ∈ wTs := wTs_in 1425 (by decide +kernel) rfl
theorem ml_L_195 : Cond.methodLink RL 195 yX8_count ∈ wTs := wTs_in 1429 (by decide +kernel) rfl
theorem ml_L_198 : Cond.methodLink RL 198 yX8_countAnew ∈ wTs := wTs_in 1433 (by decide +kernel) rfl
theorem ml_X8_147 : Cond.methodLink RX8 147 yX8_count ∈ wTs := wTs_in 1437 (by decide +kernel) rfl
theorem ml_L_201 : Cond.methodLink RL 201 yX8_estimate ∈ wTs := wTs_in 1438 (by decide +kernel) rfl
theorem ml_X8_150 : Cond.methodLink RX8 150 yX8_many ∈ wTs := wTs_in 1442 (by decide +kernel) rfl
theorem ml_L_205 : Cond.methodLink RL 205 yX8_doubleShare ∈ wTs := wTs_in 1446 (by decide +kernel) rfl
theorem ml_L_208 : Cond.methodLink RL 208 yX8_meanScore ∈ wTs := wTs_in 1450 (by decide +kernel) rfl
theorem ml_L_211 : Cond.methodLink RL 211 yX8_tell ∈ wTs := wTs_in 1454 (by decide +kernel) rfl
theorem ml_X8_175 : Cond.methodLink RX8 175 yX8_hides ∈ wTs := wTs_in 1458 (by decide +kernel) rfl
theorem ml_X8_164 : Cond.methodLink RX8 164 yX8_hidesSmall ∈ wTs := wTs_in 1462 (by decide +kernel) rfl
theorem ml_X8_168 : Cond.methodLink RX8 168 yX8_firstFound ∈ wTs := wTs_in 1466 (by decide +kernel) rfl
theorem ml_X8_154 : Cond.methodLink RX8 154 yX8_isFound ∈ wTs := wTs_in 1470 (by decide +kernel) rfl
theorem ml_X8_171 : Cond.methodLink RX8 171 yX8_next ∈ wTs := wTs_in 1474 (by decide +kernel) rfl
theorem ml_X8_158 : Cond.methodLink RX8 158 yX8_canHide ∈ wTs := wTs_in 1478 (by decide +kernel) rfl
theorem ml_X8_161 : Cond.methodLink RX8 161 yX8_helps ∈ wTs := wTs_in 1482 (by decide +kernel) rfl
theorem ml_L_214 : Cond.methodLink RL 214 yX8_stateOf ∈ wTs := wTs_in 1486 (by decide +kernel) rfl
theorem ml_X8_178 : Cond.methodLink RX8 178 yX8_isTable ∈ wTs := wTs_in 1490 (by decide +kernel) rfl
theorem ml_L_218 : Cond.methodLink RL 218 yX8_isHidden ∈ wTs := wTs_in 1494 (by decide +kernel) rfl
theorem ml_X8_181 : Cond.methodLink RX8 181 yX8_wrongCell ∈ wTs := wTs_in 1498 (by decide +kernel) rfl
theorem ml_X8_185 : Cond.methodLink RX8 185 yX8_place ∈ wTs := wTs_in 1502 (by decide +kernel) rfl
theorem ml_L_221 : Cond.methodLink RL 221 yX8_cell ∈ wTs := wTs_in 1505 (by decide +kernel) rfl
theorem ml_L_224 : Cond.methodLink RL 224 yX8_blockSum ∈ wTs := wTs_in 1509 (by decide +kernel) rfl
theorem ml_L_227 : Cond.methodLink RL 227 yX8_groupSum ∈ wTs := wTs_in 1513 (by decide +kernel) rfl
theorem ml_L_230 : Cond.methodLink RL 230 yX8_holes ∈ wTs := wTs_in 1517 (by decide +kernel) rfl
theorem ml_L_233 : Cond.methodLink RL 233 yX8_isAtRisk ∈ wTs := wTs_in 1521 (by decide +kernel) rfl
theorem ml_L_236 : Cond.methodLink RL 236 yX8_found ∈ wTs := wTs_in 1525 (by decide +kernel) rfl
theorem ml_L_239 : Cond.methodLink RL 239 yX8_foundByWays ∈ wTs := wTs_in 1529 (by decide +kernel) rfl
theorem ml_X8_188 : Cond.methodLink RX8 188 yX8_found ∈ wTs := wTs_in 1533 (by decide +kernel) rfl
theorem ml_L_242 : Cond.methodLink RL 242 yX8_lineLength ∈ wTs := wTs_in 1534 (by decide +kernel) rfl
theorem ml_X8_205 : Cond.methodLink RX8 205 yX8_line ∈ wTs := wTs_in 1538 (by decide +kernel) rfl
theorem ml_X8_193 : Cond.methodLink RX8 193 yJ4_init_da8c8 ∈ wTs := wTs_in 1543 (by decide +kernel) rfl
theorem ml_X8_194 : Cond.methodLink RX8 194 yJ4_append_cf468 ∈ wTs := wTs_in 1544 (by decide +kernel) rfl
theorem ml_X8_198 : Cond.methodLink RX8 198 yJ4_append_bf812 ∈ wTs := wTs_in 1545 (by decide +kernel) rfl
theorem ml_X8_201 : Cond.methodLink RX8 201 yJ4_toString_0e30d ∈ wTs := wTs_in 1546 (by decide +kernel) rfl
theorem ml_X8_209 : Cond.methodLink RX8 209 yJ0_length_8abf5 ∈ wTs := wTs_in 1547 (by decide +kernel) rfl
theorem ml_L_245 : Cond.methodLink RL 245 yX8_lineAt ∈ wTs := wTs_in 1548 (by decide +kernel) rfl
theorem ml_X8_214 : Cond.methodLink RX8 214 yJ0_charAt_5068e ∈ wTs := wTs_in 1552 (by decide +kernel) rfl
theorem ml_L_250 : Cond.methodLink RL 250 yX8_isSafe ∈ wTs := wTs_in 1553 (by decide +kernel) rfl
theorem mf_X0_has : wMFs yX0_has cX0_has 2 (some .boolean) 2 := ⟨⟨⟨by decide +kernel, by decide +kernel⟩, by decide +kernel, wTs_in 336 (by decide +kernel) rfl, wTs_in 56 (by decide +kernel) rfl⟩, wTs_in 335 (by decide +kernel) rfl⟩
theorem mf_X0_blockEnd : wMFs yX0_blockEnd cX0_blockEnd 1 (some .int) 1 := ⟨⟨⟨by decide +kernel, by decide +kernel⟩, by decide +kernel, wTs_in 342 (by decide +kernel) rfl, wTs_in 56 (by decide +kernel) rfl⟩, wTs_in 341 (by decide +kernel) rfl⟩
theorem mf_X0_groupEnd : wMFs yX0_groupEnd cX0_groupEnd 1 (some .int) 1 := ⟨⟨⟨by decide +kernel, by decide +kernel⟩, by decide +kernel, wTs_in 351 (by decide +kernel) rfl, wTs_in 56 (by decide +kernel) rfl⟩, wTs_in 350 (by decide +kernel) rfl⟩
theorem mf_X0_endsOf : wMFs yX0_endsOf cX0_endsOf 1 (some .int) 1 := ⟨⟨⟨by decide +kernel, by decide +kernel⟩, by decide +kernel, wTs_in 796 (by decide +kernel) rfl, wTs_in 56 (by decide +kernel) rfl⟩, wTs_in 795 (by decide +kernel) rfl⟩
theorem mf_X0_endsInBlock : wMFs yX0_endsInBlock cX0_endsInBlock 3 (some .int) 2 := ⟨⟨⟨by decide +kernel, by decide +kernel⟩, by decide +kernel, wTs_in 348 (by decide +kernel) rfl, wTs_in 56 (by decide +kernel) rfl⟩, wTs_in 347 (by decide +kernel) rfl⟩
theorem mf_X0_smallCells : wMFs yX0_smallCells cX0_smallCells 3 (some .int) 1 := ⟨⟨⟨by decide +kernel, by decide +kernel⟩, by decide +kernel, wTs_in 787 (by decide +kernel) rfl, wTs_in 56 (by decide +kernel) rfl⟩, wTs_in 786 (by decide +kernel) rfl⟩
theorem mf_X0_choose : wMFs yX0_choose cX0_choose 5 (some .int) 1 := ⟨⟨⟨by decide +kernel, by decide +kernel⟩, by decide +kernel, wTs_in 784 (by decide +kernel) rfl, wTs_in 56 (by decide +kernel) rfl⟩, wTs_in 783 (by decide +kernel) rfl⟩
theorem mf_X0_firstFound : wMFs yX0_firstFound cX0_firstFound 2 (some .int) 1 := ⟨⟨⟨by decide +kernel, by decide +kernel⟩, by decide +kernel, wTs_in 790 (by decide +kernel) rfl, wTs_in 56 (by decide +kernel) rfl⟩, wTs_in 789 (by decide +kernel) rfl⟩
theorem mf_X0_nextToHide : wMFs yX0_nextToHide cX0_nextToHide 9 (some .int) 3 := ⟨⟨⟨by decide +kernel, by decide +kernel⟩, by decide +kernel, wTs_in 793 (by decide +kernel) rfl, wTs_in 56 (by decide +kernel) rfl⟩, wTs_in 792 (by decide +kernel) rfl⟩
theorem mf_X0_leastOf : wMFs yX0_leastOf cX0_leastOf 4 (some .int) 2 := ⟨⟨⟨by decide +kernel, by decide +kernel⟩, by decide +kernel, wTs_in 799 (by decide +kernel) rfl, wTs_in 56 (by decide +kernel) rfl⟩, wTs_in 798 (by decide +kernel) rfl⟩
theorem mf_X0_tiedTo : wMFs yX0_tiedTo cX0_tiedTo 7 (some .int) 2 := ⟨⟨⟨by decide +kernel, by decide +kernel⟩, by decide +kernel, wTs_in 345 (by decide +kernel) rfl, wTs_in 56 (by decide +kernel) rfl⟩, wTs_in 344 (by decide +kernel) rfl⟩
theorem mf_X0_isFound : wMFs yX0_isFound cX0_isFound 3 (some .boolean) 2 := ⟨⟨⟨by decide +kernel, by decide +kernel⟩, by decide +kernel, wTs_in 339 (by decide +kernel) rfl, wTs_in 56 (by decide +kernel) rfl⟩, wTs_in 338 (by decide +kernel) rfl⟩
theorem mf_X0_numberFound : wMFs yX0_numberFound cX0_numberFound 3 (some .int) 1 := ⟨⟨⟨by decide +kernel, by decide +kernel⟩, by decide +kernel, wTs_in 333 (by decide +kernel) rfl, wTs_in 56 (by decide +kernel) rfl⟩, wTs_in 332 (by decide +kernel) rfl⟩
theorem mf_X0_numberWithoutWay : wMFs yX0_numberWithoutWay cX0_numberWithoutWay 3 (some .int) 1 := ⟨⟨⟨by decide +kernel, by decide +kernel⟩, by decide +kernel, wTs_in 354 (by decide +kernel) rfl, wTs_in 56 (by decide +kernel) rfl⟩, wTs_in 353 (by decide +kernel) rfl⟩
theorem mf_X0_hasClosedWay : wMFs yX0_hasClosedWay cX0_hasClosedWay 6 (some .boolean) 2 := ⟨⟨⟨by decide +kernel, by decide +kernel⟩, by decide +kernel, wTs_in 357 (by decide +kernel) rfl, wTs_in 56 (by decide +kernel) rfl⟩, wTs_in 356 (by decide +kernel) rfl⟩
theorem mf_X0_besides : wMFs yX0_besides cX0_besides 4 (some .int) 2 := ⟨⟨⟨by decide +kernel, by decide +kernel⟩, by decide +kernel, wTs_in 360 (by decide +kernel) rfl, wTs_in 56 (by decide +kernel) rfl⟩, wTs_in 359 (by decide +kernel) rfl⟩
theorem mf_X0_cellsOfBlock : wMFs yX0_cellsOfBlock cX0_cellsOfBlock 1 (some .int) 1 := ⟨⟨⟨by decide +kernel, by decide +kernel⟩, by decide +kernel, wTs_in 363 (by decide +kernel) rfl, wTs_in 56 (by decide +kernel) rfl⟩, wTs_in 362 (by decide +kernel) rfl⟩
theorem mf_X0_cellsOfGroup : wMFs yX0_cellsOfGroup cX0_cellsOfGroup 1 (some .int) 1 := ⟨⟨⟨by decide +kernel, by decide +kernel⟩, by decide +kernel, wTs_in 366 (by decide +kernel) rfl, wTs_in 56 (by decide +kernel) rfl⟩, wTs_in 365 (by decide +kernel) rfl⟩
theorem mi_X1_init : wMF yX1_init cX1_init 3 none 1 ∧ Cond.instanceMethod yX1_init ∈ wTs := ⟨⟨⟨by decide +kernel, by decide +kernel⟩, by decide +kernel, wTs_in 136 (by decide +kernel) rfl, wTs_in 40 (by decide +kernel) rfl⟩, wTs_in 135 (by decide +kernel) rfl⟩
theorem mf_X1_changePoints : wMFv yX1_changePoints cX1_changePoints 4 (some .int) 2 := ⟨⟨⟨by decide +kernel, by decide +kernel⟩, by decide +kernel, wTs_in 626 (by decide +kernel) rfl, wTs_in 40 (by decide +kernel) rfl⟩, wTs_in 624 (by decide +kernel) rfl, wTs_in 625 (by decide +kernel) rfl⟩
theorem mf_X1_bestScore : wMFv yX1_bestScore cX1_bestScore 1 (some .int) 0 := ⟨⟨⟨by decide +kernel, by decide +kernel⟩, by decide +kernel, wTs_in 474 (by decide +kernel) rfl, wTs_in 40 (by decide +kernel) rfl⟩, wTs_in 472 (by decide +kernel) rfl, wTs_in 473 (by decide +kernel) rfl⟩
theorem mf_X1_scoreOf : wMFv yX1_scoreOf cX1_scoreOf 5 (some .int) 2 := ⟨⟨⟨by decide +kernel, by decide +kernel⟩, by decide +kernel, wTs_in 280 (by decide +kernel) rfl, wTs_in 40 (by decide +kernel) rfl⟩, wTs_in 278 (by decide +kernel) rfl, wTs_in 279 (by decide +kernel) rfl⟩
theorem mf_X1_nameScore : wMFv yX1_nameScore cX1_nameScore 3 (some .int) 2 := ⟨⟨⟨by decide +kernel, by decide +kernel⟩, by decide +kernel, wTs_in 288 (by decide +kernel) rfl, wTs_in 40 (by decide +kernel) rfl⟩, wTs_in 286 (by decide +kernel) rfl, wTs_in 287 (by decide +kernel) rfl⟩
theorem mf_X1_yearScore : wMFv yX1_yearScore cX1_yearScore 2 (some .int) 1 := ⟨⟨⟨by decide +kernel, by decide +kernel⟩, by decide +kernel, wTs_in 292 (by decide +kernel) rfl, wTs_in 40 (by decide +kernel) rfl⟩, wTs_in 290 (by decide +kernel) rfl, wTs_in 291 (by decide +kernel) rfl⟩
theorem mf_X1_placeScore : wMFv yX1_placeScore cX1_placeScore 3 (some .int) 2 := ⟨⟨⟨by decide +kernel, by decide +kernel⟩, by decide +kernel, wTs_in 296 (by decide +kernel) rfl, wTs_in 40 (by decide +kernel) rfl⟩, wTs_in 294 (by decide +kernel) rfl, wTs_in 295 (by decide +kernel) rfl⟩
theorem mf_X1_placeOfPair : wMFv yX1_placeOfPair cX1_placeOfPair 3 (some .int) 2 := ⟨⟨⟨by decide +kernel, by decide +kernel⟩, by decide +kernel, wTs_in 270 (by decide +kernel) rfl, wTs_in 40 (by decide +kernel) rfl⟩, wTs_in 268 (by decide +kernel) rfl, wTs_in 269 (by decide +kernel) rfl⟩
theorem mf_X1_isDecided : wMFv yX1_isDecided cX1_isDecided 3 (some .boolean) 2 := ⟨⟨⟨by decide +kernel, by decide +kernel⟩, by decide +kernel, wTs_in 691 (by decide +kernel) rfl, wTs_in 40 (by decide +kernel) rfl⟩, wTs_in 689 (by decide +kernel) rfl, wTs_in 690 (by decide +kernel) rfl⟩
theorem mf_X1_putDecision : wMFv yX1_putDecision cX1_putDecision 4 none 3 := ⟨⟨⟨by decide +kernel, by decide +kernel⟩, by decide +kernel, wTs_in 680 (by decide +kernel) rfl, wTs_in 40 (by decide +kernel) rfl⟩, wTs_in 678 (by decide +kernel) rfl, wTs_in 679 (by decide +kernel) rfl⟩
theorem mf_X1_kindOf : wMFv yX1_kindOf cX1_kindOf 5 (some .char) 2 := ⟨⟨⟨by decide +kernel, by decide +kernel⟩, by decide +kernel, wTs_in 266 (by decide +kernel) rfl, wTs_in 40 (by decide +kernel) rfl⟩, wTs_in 264 (by decide +kernel) rfl, wTs_in 265 (by decide +kernel) rfl⟩
theorem mi_X2_init : wMF yX2_init cX2_init 4 none 3 ∧ Cond.instanceMethod yX2_init ∈ wTs := ⟨⟨⟨by decide +kernel, by decide +kernel⟩, by decide +kernel, wTs_in 196 (by decide +kernel) rfl, wTs_in 42 (by decide +kernel) rfl⟩, wTs_in 195 (by decide +kernel) rfl⟩
theorem mf_X2_renew : wMFv yX2_renew cX2_renew 2 none 0 := ⟨⟨⟨by decide +kernel, by decide +kernel⟩, by decide +kernel, wTs_in 463 (by decide +kernel) rfl, wTs_in 42 (by decide +kernel) rfl⟩, wTs_in 461 (by decide +kernel) rfl, wTs_in 462 (by decide +kernel) rfl⟩
theorem mf_X2_gatherLinked : wMFv yX2_gatherLinked cX2_gatherLinked 3 none 0 := ⟨⟨⟨by decide +kernel, by decide +kernel⟩, by decide +kernel, wTs_in 467 (by decide +kernel) rfl, wTs_in 42 (by decide +kernel) rfl⟩, wTs_in 465 (by decide +kernel) rfl, wTs_in 466 (by decide +kernel) rfl⟩
theorem mf_X2_takeWithScore : wMFv yX2_takeWithScore cX2_takeWithScore 5 none 1 := ⟨⟨⟨by decide +kernel, by decide +kernel⟩, by decide +kernel, wTs_in 478 (by decide +kernel) rfl, wTs_in 42 (by decide +kernel) rfl⟩, wTs_in 476 (by decide +kernel) rfl, wTs_in 477 (by decide +kernel) rfl⟩
theorem mi_X3_init : wMF yX3_init cX3_init 2 none 1 ∧ Cond.instanceMethod yX3_init ∈ wTs := ⟨⟨⟨by decide +kernel, by decide +kernel⟩, by decide +kernel, wTs_in 101 (by decide +kernel) rfl, wTs_in 39 (by decide +kernel) rfl⟩, wTs_in 100 (by decide +kernel) rfl⟩
theorem mf_X3_add : wMFv yX3_add cX3_add 5 (some .int) 4 := ⟨⟨⟨by decide +kernel, by decide +kernel⟩, by decide +kernel, wTs_in 606 (by decide +kernel) rfl, wTs_in 39 (by decide +kernel) rfl⟩, wTs_in 604 (by decide +kernel) rfl, wTs_in 605 (by decide +kernel) rfl⟩
theorem mf_X3_blockAt : wMFv yX3_blockAt cX3_blockAt 2 (some .int) 1 := ⟨⟨⟨by decide +kernel, by decide +kernel⟩, by decide +kernel, wTs_in 284 (by decide +kernel) rfl, wTs_in 39 (by decide +kernel) rfl⟩, wTs_in 282 (by decide +kernel) rfl, wTs_in 283 (by decide +kernel) rfl⟩
theorem mf_X3_groupAt : wMFv yX3_groupAt cX3_groupAt 3 (some .int) 1 := ⟨⟨⟨by decide +kernel, by decide +kernel⟩, by decide +kernel, wTs_in 322 (by decide +kernel) rfl, wTs_in 39 (by decide +kernel) rfl⟩, wTs_in 320 (by decide +kernel) rfl, wTs_in 321 (by decide +kernel) rfl⟩
theorem mi_X4_init : wMF yX4_init cX4_init 1 none 0 ∧ Cond.instanceMethod yX4_init ∈ wTs := ⟨⟨⟨by decide +kernel, by decide +kernel⟩, by decide +kernel, wTs_in 80 (by decide +kernel) rfl, wTs_in 38 (by decide +kernel) rfl⟩, wTs_in 79 (by decide +kernel) rfl⟩
theorem mf_X4_hasAddress : wMFv yX4_hasAddress cX4_hasAddress 2 (some .boolean) 1 := ⟨⟨⟨by decide +kernel, by decide +kernel⟩, by decide +kernel, wTs_in 543 (by decide +kernel) rfl, wTs_in 38 (by decide +kernel) rfl⟩, wTs_in 541 (by decide +kernel) rfl, wTs_in 542 (by decide +kernel) rfl⟩
theorem mf_X4_openBlock : wMFv yX4_openBlock cX4_openBlock 1 (some .int) 0 := ⟨⟨⟨by decide +kernel, by decide +kernel⟩, by decide +kernel, wTs_in 455 (by decide +kernel) rfl, wTs_in 38 (by decide +kernel) rfl⟩, wTs_in 453 (by decide +kernel) rfl, wTs_in 454 (by decide +kernel) rfl⟩
theorem mf_X4_openAddress : wMFv yX4_openAddress cX4_openAddress 2 (some .int) 1 := ⟨⟨⟨by decide +kernel, by decide +kernel⟩, by decide +kernel, wTs_in 531 (by decide +kernel) rfl, wTs_in 38 (by decide +kernel) rfl⟩, wTs_in 529 (by decide +kernel) rfl, wTs_in 530 (by decide +kernel) rfl⟩
theorem mf_X4_move : wMFv yX4_move cX4_move 6 (some .int) 3 := ⟨⟨⟨by decide +kernel, by decide +kernel⟩, by decide +kernel, wTs_in 563 (by decide +kernel) rfl, wTs_in 38 (by decide +kernel) rfl⟩, wTs_in 561 (by decide +kernel) rfl, wTs_in 562 (by decide +kernel) rfl⟩
theorem mi_X5_init : wMF yX5_init cX5_init 5 none 3 ∧ Cond.instanceMethod yX5_init ∈ wTs := ⟨⟨⟨by decide +kernel, by decide +kernel⟩, by decide +kernel, wTs_in 804 (by decide +kernel) rfl, wTs_in 57 (by decide +kernel) rfl⟩, wTs_in 803 (by decide +kernel) rfl⟩
theorem mf_X5_lineOf : wMFs yX5_lineOf cX5_lineOf 5 (some (.object "java/lang/String")) 3 := ⟨⟨⟨by decide +kernel, by decide +kernel⟩, by decide +kernel, wTs_in 808 (by decide +kernel) rfl, wTs_in 57 (by decide +kernel) rfl⟩, wTs_in 807 (by decide +kernel) rfl⟩
theorem mf_X5_shows : wMFv yX5_shows cX5_shows 4 (some .boolean) 2 := ⟨⟨⟨by decide +kernel, by decide +kernel⟩, by decide +kernel, wTs_in 371 (by decide +kernel) rfl, wTs_in 57 (by decide +kernel) rfl⟩, wTs_in 369 (by decide +kernel) rfl, wTs_in 370 (by decide +kernel) rfl⟩
theorem mf_X5_sumOfBlock : wMFv yX5_sumOfBlock cX5_sumOfBlock 4 (some .int) 1 := ⟨⟨⟨by decide +kernel, by decide +kernel⟩, by decide +kernel, wTs_in 1134 (by decide +kernel) rfl, wTs_in 57 (by decide +kernel) rfl⟩, wTs_in 1132 (by decide +kernel) rfl, wTs_in 1133 (by decide +kernel) rfl⟩
theorem mf_X5_sumOfGroup : wMFv yX5_sumOfGroup cX5_sumOfGroup 4 (some .int) 1 := ⟨⟨⟨by decide +kernel, by decide +kernel⟩, by decide +kernel, wTs_in 1145 (by decide +kernel) rfl, wTs_in 57 (by decide +kernel) rfl⟩, wTs_in 1143 (by decide +kernel) rfl, wTs_in 1144 (by decide +kernel) rfl⟩
theorem mi_X6_init : wMF yX6_init cX6_init 3 none 2 ∧ Cond.instanceMethod yX6_init ∈ wTs := ⟨⟨⟨by decide +kernel, by decide +kernel⟩, by decide +kernel, wTs_in 167 (by decide +kernel) rfl, wTs_in 41 (by decide +kernel) rfl⟩, wTs_in 166 (by decide +kernel) rfl⟩
theorem mf_X6_renew : wMFv yX6_renew cX6_renew 2 none 0 := ⟨⟨⟨by decide +kernel, by decide +kernel⟩, by decide +kernel, wTs_in 308 (by decide +kernel) rfl, wTs_in 41 (by decide +kernel) rfl⟩, wTs_in 306 (by decide +kernel) rfl, wTs_in 307 (by decide +kernel) rfl⟩
theorem mf_X6_repeatsEarlier : wMFv yX6_repeatsEarlier cX6_repeatsEarlier 3 (some .boolean) 1 := ⟨⟨⟨by decide +kernel, by decide +kernel⟩, by decide +kernel, wTs_in 312 (by decide +kernel) rfl, wTs_in 41 (by decide +kernel) rfl⟩, wTs_in 310 (by decide +kernel) rfl, wTs_in 311 (by decide +kernel) rfl⟩
theorem mf_X6_isCounted : wMFv yX6_isCounted cX6_isCounted 2 (some .boolean) 1 := ⟨⟨⟨by decide +kernel, by decide +kernel⟩, by decide +kernel, wTs_in 316 (by decide +kernel) rfl, wTs_in 41 (by decide +kernel) rfl⟩, wTs_in 314 (by decide +kernel) rfl, wTs_in 315 (by decide +kernel) rfl⟩
theorem mf_X6_hasCounts : wMFv yX6_hasCounts cX6_hasCounts 3 (some .boolean) 1 := ⟨⟨⟨by decide +kernel, by decide +kernel⟩, by decide +kernel, wTs_in 326 (by decide +kernel) rfl, wTs_in 41 (by decide +kernel) rfl⟩, wTs_in 324 (by decide +kernel) rfl, wTs_in 325 (by decide +kernel) rfl⟩
theorem mi_X7_init : wMF yX7_init cX7_init 1 none 0 ∧ Cond.instanceMethod yX7_init ∈ wTs := ⟨⟨⟨by decide +kernel, by decide +kernel⟩, by decide +kernel, wTs_in 72 (by decide +kernel) rfl, wTs_in 37 (by decide +kernel) rfl⟩, wTs_in 71 (by decide +kernel) rfl⟩
theorem mf_X7_addBlock : wMFv yX7_addBlock cX7_addBlock 2 (some .int) 0 := ⟨⟨⟨by decide +kernel, by decide +kernel⟩, by decide +kernel, wTs_in 379 (by decide +kernel) rfl, wTs_in 37 (by decide +kernel) rfl⟩, wTs_in 377 (by decide +kernel) rfl, wTs_in 378 (by decide +kernel) rfl⟩
theorem mf_X7_addAddress : wMFv yX7_addAddress cX7_addAddress 2 (some .int) 1 := ⟨⟨⟨by decide +kernel, by decide +kernel⟩, by decide +kernel, wTs_in 509 (by decide +kernel) rfl, wTs_in 37 (by decide +kernel) rfl⟩, wTs_in 507 (by decide +kernel) rfl, wTs_in 508 (by decide +kernel) rfl⟩
theorem mf_X7_split : wMFv yX7_split cX7_split 4 (some .int) 2 := ⟨⟨⟨by decide +kernel, by decide +kernel⟩, by decide +kernel, wTs_in 539 (by decide +kernel) rfl, wTs_in 37 (by decide +kernel) rfl⟩, wTs_in 537 (by decide +kernel) rfl, wTs_in 538 (by decide +kernel) rfl⟩
theorem mf_X7_join : wMFv yX7_join cX7_join 4 (some .int) 2 := ⟨⟨⟨by decide +kernel, by decide +kernel⟩, by decide +kernel, wTs_in 571 (by decide +kernel) rfl, wTs_in 37 (by decide +kernel) rfl⟩, wTs_in 569 (by decide +kernel) rfl, wTs_in 570 (by decide +kernel) rfl⟩
theorem mf_X7_addRecord : wMFv yX7_addRecord cX7_addRecord 6 (some .int) 4 := ⟨⟨⟨by decide +kernel, by decide +kernel⟩, by decide +kernel, wTs_in 594 (by decide +kernel) rfl, wTs_in 37 (by decide +kernel) rfl⟩, wTs_in 592 (by decide +kernel) rfl, wTs_in 593 (by decide +kernel) rfl⟩
theorem mf_X7_blockOf : wMFv yX7_blockOf cX7_blockOf 2 (some .int) 1 := ⟨⟨⟨by decide +kernel, by decide +kernel⟩, by decide +kernel, wTs_in 613 (by decide +kernel) rfl, wTs_in 37 (by decide +kernel) rfl⟩, wTs_in 611 (by decide +kernel) rfl, wTs_in 612 (by decide +kernel) rfl⟩
theorem mf_X7_setPoints : wMFv yX7_setPoints cX7_setPoints 4 (some .int) 2 := ⟨⟨⟨by decide +kernel, by decide +kernel⟩, by decide +kernel, wTs_in 620 (by decide +kernel) rfl, wTs_in 37 (by decide +kernel) rfl⟩, wTs_in 618 (by decide +kernel) rfl, wTs_in 619 (by decide +kernel) rfl⟩
theorem mf_X7_setBounds : wMFv yX7_setBounds cX7_setBounds 4 (some .int) 2 := ⟨⟨⟨by decide +kernel, by decide +kernel⟩, by decide +kernel, wTs_in 633 (by decide +kernel) rfl, wTs_in 37 (by decide +kernel) rfl⟩, wTs_in 631 (by decide +kernel) rfl, wTs_in 632 (by decide +kernel) rfl⟩
theorem mf_X7_score : wMFv yX7_score cX7_score 3 (some .int) 2 := ⟨⟨⟨by decide +kernel, by decide +kernel⟩, by decide +kernel, wTs_in 641 (by decide +kernel) rfl, wTs_in 37 (by decide +kernel) rfl⟩, wTs_in 639 (by decide +kernel) rfl, wTs_in 640 (by decide +kernel) rfl⟩
theorem mf_X7_decide : wMFv yX7_decide cX7_decide 4 (some .int) 3 := ⟨⟨⟨by decide +kernel, by decide +kernel⟩, by decide +kernel, wTs_in 660 (by decide +kernel) rfl, wTs_in 37 (by decide +kernel) rfl⟩, wTs_in 658 (by decide +kernel) rfl, wTs_in 659 (by decide +kernel) rfl⟩
theorem mf_X7_takeBack : wMFv yX7_takeBack cX7_takeBack 3 (some .int) 2 := ⟨⟨⟨by decide +kernel, by decide +kernel⟩, by decide +kernel, wTs_in 687 (by decide +kernel) rfl, wTs_in 37 (by decide +kernel) rfl⟩, wTs_in 685 (by decide +kernel) rfl, wTs_in 686 (by decide +kernel) rfl⟩
theorem mf_X7_link : wMFv yX7_link cX7_link 3 (some .char) 2 := ⟨⟨⟨by decide +kernel, by decide +kernel⟩, by decide +kernel, wTs_in 699 (by decide +kernel) rfl, wTs_in 37 (by decide +kernel) rfl⟩, wTs_in 697 (by decide +kernel) rfl, wTs_in 698 (by decide +kernel) rfl⟩
theorem mf_X7_openPairs : wMFv yX7_openPairs cX7_openPairs 5 (some .int) 0 := ⟨⟨⟨by decide +kernel, by decide +kernel⟩, by decide +kernel, wTs_in 262 (by decide +kernel) rfl, wTs_in 37 (by decide +kernel) rfl⟩, wTs_in 260 (by decide +kernel) rfl, wTs_in 261 (by decide +kernel) rfl⟩
theorem mf_X7_isDouble : wMFv yX7_isDouble cX7_isDouble 2 (some .boolean) 1 := ⟨⟨⟨by decide +kernel, by decide +kernel⟩, by decide +kernel, wTs_in 706 (by decide +kernel) rfl, wTs_in 37 (by decide +kernel) rfl⟩, wTs_in 704 (by decide +kernel) rfl, wTs_in 705 (by decide +kernel) rfl⟩
theorem mf_X7_matchOf : wMFv yX7_matchOf cX7_matchOf 2 (some .int) 1 := ⟨⟨⟨by decide +kernel, by decide +kernel⟩, by decide +kernel, wTs_in 713 (by decide +kernel) rfl, wTs_in 37 (by decide +kernel) rfl⟩, wTs_in 711 (by decide +kernel) rfl, wTs_in 712 (by decide +kernel) rfl⟩
theorem mf_X7_matches : wMFv yX7_matches cX7_matches 1 (some .int) 0 := ⟨⟨⟨by decide +kernel, by decide +kernel⟩, by decide +kernel, wTs_in 300 (by decide +kernel) rfl, wTs_in 37 (by decide +kernel) rfl⟩, wTs_in 298 (by decide +kernel) rfl, wTs_in 299 (by decide +kernel) rfl⟩
theorem mf_X7_count : wMFv yX7_count cX7_count 3 (some .int) 2 := ⟨⟨⟨by decide +kernel, by decide +kernel⟩, by decide +kernel, wTs_in 721 (by decide +kernel) rfl, wTs_in 37 (by decide +kernel) rfl⟩, wTs_in 719 (by decide +kernel) rfl, wTs_in 720 (by decide +kernel) rfl⟩
theorem mf_X7_countAnew : wMFv yX7_countAnew cX7_countAnew 3 (some .int) 2 := ⟨⟨⟨by decide +kernel, by decide +kernel⟩, by decide +kernel, wTs_in 733 (by decide +kernel) rfl, wTs_in 37 (by decide +kernel) rfl⟩, wTs_in 731 (by decide +kernel) rfl, wTs_in 732 (by decide +kernel) rfl⟩
theorem mf_X7_estimate : wMFv yX7_estimate cX7_estimate 2 (some .long) 0 := ⟨⟨⟨by decide +kernel, by decide +kernel⟩, by decide +kernel, wTs_in 754 (by decide +kernel) rfl, wTs_in 37 (by decide +kernel) rfl⟩, wTs_in 752 (by decide +kernel) rfl, wTs_in 753 (by decide +kernel) rfl⟩
theorem mf_X7_doubleShare : wMFv yX7_doubleShare cX7_doubleShare 2 (some .float) 0 := ⟨⟨⟨by decide +kernel, by decide +kernel⟩, by decide +kernel, wTs_in 764 (by decide +kernel) rfl, wTs_in 37 (by decide +kernel) rfl⟩, wTs_in 762 (by decide +kernel) rfl, wTs_in 763 (by decide +kernel) rfl⟩
theorem mf_X7_meanScore : wMFv yX7_meanScore cX7_meanScore 1 (some .double) 0 := ⟨⟨⟨by decide +kernel, by decide +kernel⟩, by decide +kernel, wTs_in 772 (by decide +kernel) rfl, wTs_in 37 (by decide +kernel) rfl⟩, wTs_in 770 (by decide +kernel) rfl, wTs_in 771 (by decide +kernel) rfl⟩
theorem mf_X7_tell : wMFv yX7_tell cX7_tell 2 (some .int) 0 := ⟨⟨⟨by decide +kernel, by decide +kernel⟩, by decide +kernel, wTs_in 779 (by decide +kernel) rfl, wTs_in 37 (by decide +kernel) rfl⟩, wTs_in 777 (by decide +kernel) rfl, wTs_in 778 (by decide +kernel) rfl⟩
theorem mf_X7_stateOf : wMFv yX7_stateOf cX7_stateOf 2 (some .char) 1 := ⟨⟨⟨by decide +kernel, by decide +kernel⟩, by decide +kernel, wTs_in 1093 (by decide +kernel) rfl, wTs_in 37 (by decide +kernel) rfl⟩, wTs_in 1091 (by decide +kernel) rfl, wTs_in 1092 (by decide +kernel) rfl⟩
theorem mf_X7_isHidden : wMFv yX7_isHidden cX7_isHidden 5 (some .boolean) 3 := ⟨⟨⟨by decide +kernel, by decide +kernel⟩, by decide +kernel, wTs_in 1105 (by decide +kernel) rfl, wTs_in 37 (by decide +kernel) rfl⟩, wTs_in 1103 (by decide +kernel) rfl, wTs_in 1104 (by decide +kernel) rfl⟩
theorem mf_X7_cell : wMFv yX7_cell cX7_cell 5 (some .int) 3 := ⟨⟨⟨by decide +kernel, by decide +kernel⟩, by decide +kernel, wTs_in 1122 (by decide +kernel) rfl, wTs_in 37 (by decide +kernel) rfl⟩, wTs_in 1120 (by decide +kernel) rfl, wTs_in 1121 (by decide +kernel) rfl⟩
theorem mf_X7_blockSum : wMFv yX7_blockSum cX7_blockSum 4 (some .int) 2 := ⟨⟨⟨by decide +kernel, by decide +kernel⟩, by decide +kernel, wTs_in 1130 (by decide +kernel) rfl, wTs_in 37 (by decide +kernel) rfl⟩, wTs_in 1128 (by decide +kernel) rfl, wTs_in 1129 (by decide +kernel) rfl⟩
theorem mf_X7_groupSum : wMFv yX7_groupSum cX7_groupSum 4 (some .int) 2 := ⟨⟨⟨by decide +kernel, by decide +kernel⟩, by decide +kernel, wTs_in 1141 (by decide +kernel) rfl, wTs_in 37 (by decide +kernel) rfl⟩, wTs_in 1139 (by decide +kernel) rfl, wTs_in 1140 (by decide +kernel) rfl⟩
theorem mf_X7_holes : wMFv yX7_holes cX7_holes 2 (some .int) 1 := ⟨⟨⟨by decide +kernel, by decide +kernel⟩, by decide +kernel, wTs_in 1152 (by decide +kernel) rfl, wTs_in 37 (by decide +kernel) rfl⟩, wTs_in 1150 (by decide +kernel) rfl, wTs_in 1151 (by decide +kernel) rfl⟩
theorem mf_X7_isAtRisk : wMFv yX7_isAtRisk cX7_isAtRisk 6 (some .boolean) 3 := ⟨⟨⟨by decide +kernel, by decide +kernel⟩, by decide +kernel, wTs_in 1165 (by decide +kernel) rfl, wTs_in 37 (by decide +kernel) rfl⟩, wTs_in 1163 (by decide +kernel) rfl, wTs_in 1164 (by decide +kernel) rfl⟩
theorem mf_X7_found : wMFv yX7_found cX7_found 2 (some .int) 1 := ⟨⟨⟨by decide +kernel, by decide +kernel⟩, by decide +kernel, wTs_in 1175 (by decide +kernel) rfl, wTs_in 37 (by decide +kernel) rfl⟩, wTs_in 1173 (by decide +kernel) rfl, wTs_in 1174 (by decide +kernel) rfl⟩
theorem mf_X7_foundByWays : wMFv yX7_foundByWays cX7_foundByWays 2 (some .int) 1 := ⟨⟨⟨by decide +kernel, by decide +kernel⟩, by decide +kernel, wTs_in 1182 (by decide +kernel) rfl, wTs_in 37 (by decide +kernel) rfl⟩, wTs_in 1180 (by decide +kernel) rfl, wTs_in 1181 (by decide +kernel) rfl⟩
theorem mf_X7_lineLength : wMFv yX7_lineLength cX7_lineLength 2 (some .int) 1 := ⟨⟨⟨by decide +kernel, by decide +kernel⟩, by decide +kernel, wTs_in 1189 (by decide +kernel) rfl, wTs_in 37 (by decide +kernel) rfl⟩, wTs_in 1187 (by decide +kernel) rfl, wTs_in 1188 (by decide +kernel) rfl⟩
theorem mf_X7_lineAt : wMFv yX7_lineAt cX7_lineAt 4 (some .char) 2 := ⟨⟨⟨by decide +kernel, by decide +kernel⟩, by decide +kernel, wTs_in 1197 (by decide +kernel) rfl, wTs_in 37 (by decide +kernel) rfl⟩, wTs_in 1195 (by decide +kernel) rfl, wTs_in 1196 (by decide +kernel) rfl⟩
theorem mf_X7_isSafe : wMFv yX7_isSafe cX7_isSafe 2 (some .boolean) 0 := ⟨⟨⟨by decide +kernel, by decide +kernel⟩, by decide +kernel, wTs_in 304 (by decide +kernel) rfl, wTs_in 37 (by decide +kernel) rfl⟩, wTs_in 302 (by decide +kernel) rfl, wTs_in 303 (by decide +kernel) rfl⟩
theorem mf_X7_isSafeTable : wMFv yX7_isSafeTable cX7_isSafeTable 3 (some .boolean) 1 := ⟨⟨⟨by decide +kernel, by decide +kernel⟩, by decide +kernel, wTs_in 330 (by decide +kernel) rfl, wTs_in 37 (by decide +kernel) rfl⟩, wTs_in 329 (by decide +kernel) rfl, wTs_in 0 (by decide +kernel) rfl⟩
theorem mf_X7_settle : wMFv yX7_settle cX7_settle 4 (some .int) 0 := ⟨⟨⟨by decide +kernel, by decide +kernel⟩, by decide +kernel, wTs_in 459 (by decide +kernel) rfl, wTs_in 37 (by decide +kernel) rfl⟩, wTs_in 458 (by decide +kernel) rfl, wTs_in 2 (by decide +kernel) rfl⟩
theorem mf_X7_needBlock : wMFv yX7_needBlock cX7_needBlock 2 none 1 := ⟨⟨⟨by decide +kernel, by decide +kernel⟩, by decide +kernel, wTs_in 513 (by decide +kernel) rfl, wTs_in 37 (by decide +kernel) rfl⟩, wTs_in 512 (by decide +kernel) rfl, wTs_in 3 (by decide +kernel) rfl⟩
theorem mf_X7_needAddress : wMFv yX7_needAddress cX7_needAddress 2 none 1 := ⟨⟨⟨by decide +kernel, by decide +kernel⟩, by decide +kernel, wTs_in 600 (by decide +kernel) rfl, wTs_in 37 (by decide +kernel) rfl⟩, wTs_in 599 (by decide +kernel) rfl, wTs_in 4 (by decide +kernel) rfl⟩
theorem mf_X7_needGroup : wMFv yX7_needGroup cX7_needGroup 2 none 1 := ⟨⟨⟨by decide +kernel, by decide +kernel⟩, by decide +kernel, wTs_in 725 (by decide +kernel) rfl, wTs_in 37 (by decide +kernel) rfl⟩, wTs_in 724 (by decide +kernel) rfl, wTs_in 7 (by decide +kernel) rfl⟩
theorem mf_X7_needRecord : wMFv yX7_needRecord cX7_needRecord 2 none 1 := ⟨⟨⟨by decide +kernel, by decide +kernel⟩, by decide +kernel, wTs_in 649 (by decide +kernel) rfl, wTs_in 37 (by decide +kernel) rfl⟩, wTs_in 648 (by decide +kernel) rfl, wTs_in 6 (by decide +kernel) rfl⟩
theorem mf_X7_needTwoRecords : wMFv yX7_needTwoRecords cX7_needTwoRecords 3 none 2 := ⟨⟨⟨by decide +kernel, by decide +kernel⟩, by decide +kernel, wTs_in 645 (by decide +kernel) rfl, wTs_in 37 (by decide +kernel) rfl⟩, wTs_in 644 (by decide +kernel) rfl, wTs_in 5 (by decide +kernel) rfl⟩
theorem mf_X7_toldTable : wMFv yX7_toldTable cX7_toldTable 3 (some (.object "CensusLoom$Table")) 1 := ⟨⟨⟨by decide +kernel, by decide +kernel⟩, by decide +kernel, wTs_in 1097 (by decide +kernel) rfl, wTs_in 37 (by decide +kernel) rfl⟩, wTs_in 1096 (by decide +kernel) rfl, wTs_in 8 (by decide +kernel) rfl⟩
theorem mf_X7_needBlockIn : wMFv yX7_needBlockIn cX7_needBlockIn 3 none 2 := ⟨⟨⟨by decide +kernel, by decide +kernel⟩, by decide +kernel, wTs_in 1113 (by decide +kernel) rfl, wTs_in 37 (by decide +kernel) rfl⟩, wTs_in 1112 (by decide +kernel) rfl, wTs_in 10 (by decide +kernel) rfl⟩
theorem mf_X7_needCell : wMFv yX7_needCell cX7_needCell 4 none 3 := ⟨⟨⟨by decide +kernel, by decide +kernel⟩, by decide +kernel, wTs_in 1109 (by decide +kernel) rfl, wTs_in 37 (by decide +kernel) rfl⟩, wTs_in 1108 (by decide +kernel) rfl, wTs_in 9 (by decide +kernel) rfl⟩
theorem mi_X8_init : wMF yX8_init cX8_init 1 none 0 ∧ Cond.instanceMethod yX8_init ∈ wTs := ⟨⟨⟨by decide +kernel, by decide +kernel⟩, by decide +kernel, wTs_in 1218 (by decide +kernel) rfl, wTs_in 43 (by decide +kernel) rfl⟩, wTs_in 1217 (by decide +kernel) rfl⟩
theorem mf_X8_thrown : wMFv yX8_thrown cX8_thrown 1 (some .int) 0 := ⟨⟨⟨by decide +kernel, by decide +kernel⟩, by decide +kernel, wTs_in 1302 (by decide +kernel) rfl, wTs_in 43 (by decide +kernel) rfl⟩, wTs_in 1300 (by decide +kernel) rfl, wTs_in 1301 (by decide +kernel) rfl⟩
theorem mf_X8_in : wMFs yX8_in cX8_in 3 (some .boolean) 3 := ⟨⟨⟨by decide +kernel, by decide +kernel⟩, by decide +kernel, wTs_in 1352 (by decide +kernel) rfl, wTs_in 43 (by decide +kernel) rfl⟩, wTs_in 1351 (by decide +kernel) rfl⟩
theorem mf_X8_plain : wMFv yX8_plain cX8_plain 2 (some .int) 1 := ⟨⟨⟨by decide +kernel, by decide +kernel⟩, by decide +kernel, wTs_in 1412 (by decide +kernel) rfl, wTs_in 43 (by decide +kernel) rfl⟩, wTs_in 1411 (by decide +kernel) rfl, wTs_in 23 (by decide +kernel) rfl⟩
theorem mf_X8_checked : wMFv yX8_checked cX8_checked 2 (some .int) 1 := ⟨⟨⟨by decide +kernel, by decide +kernel⟩, by decide +kernel, wTs_in 1310 (by decide +kernel) rfl, wTs_in 43 (by decide +kernel) rfl⟩, wTs_in 1309 (by decide +kernel) rfl, wTs_in 11 (by decide +kernel) rfl⟩
theorem mf_X8_isBlock : wMFv yX8_isBlock cX8_isBlock 2 (some .boolean) 1 := ⟨⟨⟨by decide +kernel, by decide +kernel⟩, by decide +kernel, wTs_in 1349 (by decide +kernel) rfl, wTs_in 43 (by decide +kernel) rfl⟩, wTs_in 1348 (by decide +kernel) rfl, wTs_in 19 (by decide +kernel) rfl⟩
theorem mf_X8_isRecord : wMFv yX8_isRecord cX8_isRecord 2 (some .boolean) 1 := ⟨⟨⟨by decide +kernel, by decide +kernel⟩, by decide +kernel, wTs_in 1388 (by decide +kernel) rfl, wTs_in 43 (by decide +kernel) rfl⟩, wTs_in 1387 (by decide +kernel) rfl, wTs_in 21 (by decide +kernel) rfl⟩
theorem mf_X8_group : wMFs yX8_group cX8_group 1 (some .int) 1 := ⟨⟨⟨by decide +kernel, by decide +kernel⟩, by decide +kernel, wTs_in 1341 (by decide +kernel) rfl, wTs_in 43 (by decide +kernel) rfl⟩, wTs_in 1340 (by decide +kernel) rfl⟩
theorem mf_X8_blockFor : wMFv yX8_blockFor cX8_blockFor 2 (some .int) 1 := ⟨⟨⟨by decide +kernel, by decide +kernel⟩, by decide +kernel, wTs_in 1334 (by decide +kernel) rfl, wTs_in 43 (by decide +kernel) rfl⟩, wTs_in 1333 (by decide +kernel) rfl, wTs_in 17 (by decide +kernel) rfl⟩
theorem mf_X8_scoreOf : wMFv yX8_scoreOf cX8_scoreOf 5 (some .int) 2 := ⟨⟨⟨by decide +kernel, by decide +kernel⟩, by decide +kernel, wTs_in 1330 (by decide +kernel) rfl, wTs_in 43 (by decide +kernel) rfl⟩, wTs_in 1329 (by decide +kernel) rfl, wTs_in 16 (by decide +kernel) rfl⟩
theorem mf_X8_linkOf : wMFv yX8_linkOf cX8_linkOf 5 (some .char) 2 := ⟨⟨⟨by decide +kernel, by decide +kernel⟩, by decide +kernel, wTs_in 1326 (by decide +kernel) rfl, wTs_in 43 (by decide +kernel) rfl⟩, wTs_in 1325 (by decide +kernel) rfl, wTs_in 15 (by decide +kernel) rfl⟩
theorem mf_X8_layDoubles : wMFv yX8_layDoubles cX8_layDoubles 3 none 0 := ⟨⟨⟨by decide +kernel, by decide +kernel⟩, by decide +kernel, wTs_in 1322 (by decide +kernel) rfl, wTs_in 43 (by decide +kernel) rfl⟩, wTs_in 1321 (by decide +kernel) rfl, wTs_in 14 (by decide +kernel) rfl⟩
theorem mf_X8_isCounted : wMFv yX8_isCounted cX8_isCounted 2 (some .boolean) 1 := ⟨⟨⟨by decide +kernel, by decide +kernel⟩, by decide +kernel, wTs_in 1338 (by decide +kernel) rfl, wTs_in 43 (by decide +kernel) rfl⟩, wTs_in 1337 (by decide +kernel) rfl, wTs_in 18 (by decide +kernel) rfl⟩
theorem mf_X8_layCounts : wMFv yX8_layCounts cX8_layCounts 2 none 0 := ⟨⟨⟨by decide +kernel, by decide +kernel⟩, by decide +kernel, wTs_in 1318 (by decide +kernel) rfl, wTs_in 43 (by decide +kernel) rfl⟩, wTs_in 1317 (by decide +kernel) rfl, wTs_in 13 (by decide +kernel) rfl⟩
theorem mf_X8_layMatches : wMFv yX8_layMatches cX8_layMatches 4 none 0 := ⟨⟨⟨by decide +kernel, by decide +kernel⟩, by decide +kernel, wTs_in 1424 (by decide +kernel) rfl, wTs_in 43 (by decide +kernel) rfl⟩, wTs_in 1423 (by decide +kernel) rfl, wTs_in 24 (by decide +kernel) rfl⟩
theorem mf_X8_looks : wMFv yX8_looks cX8_looks 5 (some .int) 0 := ⟨⟨⟨by decide +kernel, by decide +kernel⟩, by decide +kernel, wTs_in 1314 (by decide +kernel) rfl, wTs_in 43 (by decide +kernel) rfl⟩, wTs_in 1313 (by decide +kernel) rfl, wTs_in 12 (by decide +kernel) rfl⟩
theorem mf_X8_addBlock : wMFv yX8_addBlock cX8_addBlock 2 (some .int) 0 := ⟨⟨⟨by decide +kernel, by decide +kernel⟩, by decide +kernel, wTs_in 1306 (by decide +kernel) rfl, wTs_in 43 (by decide +kernel) rfl⟩, wTs_in 1304 (by decide +kernel) rfl, wTs_in 1305 (by decide +kernel) rfl⟩
theorem mf_X8_addAddress : wMFv yX8_addAddress cX8_addAddress 2 (some .int) 1 := ⟨⟨⟨by decide +kernel, by decide +kernel⟩, by decide +kernel, wTs_in 1345 (by decide +kernel) rfl, wTs_in 43 (by decide +kernel) rfl⟩, wTs_in 1343 (by decide +kernel) rfl, wTs_in 1344 (by decide +kernel) rfl⟩
theorem mf_X8_split : wMFv yX8_split cX8_split 4 (some .int) 2 := ⟨⟨⟨by decide +kernel, by decide +kernel⟩, by decide +kernel, wTs_in 1356 (by decide +kernel) rfl, wTs_in 43 (by decide +kernel) rfl⟩, wTs_in 1354 (by decide +kernel) rfl, wTs_in 1355 (by decide +kernel) rfl⟩
theorem mf_X8_join : wMFv yX8_join cX8_join 5 (some .int) 2 := ⟨⟨⟨by decide +kernel, by decide +kernel⟩, by decide +kernel, wTs_in 1360 (by decide +kernel) rfl, wTs_in 43 (by decide +kernel) rfl⟩, wTs_in 1358 (by decide +kernel) rfl, wTs_in 1359 (by decide +kernel) rfl⟩
theorem mf_X8_addRecord : wMFv yX8_addRecord cX8_addRecord 6 (some .int) 4 := ⟨⟨⟨by decide +kernel, by decide +kernel⟩, by decide +kernel, wTs_in 1364 (by decide +kernel) rfl, wTs_in 43 (by decide +kernel) rfl⟩, wTs_in 1362 (by decide +kernel) rfl, wTs_in 1363 (by decide +kernel) rfl⟩
theorem mf_X8_blockOf : wMFv yX8_blockOf cX8_blockOf 2 (some .int) 1 := ⟨⟨⟨by decide +kernel, by decide +kernel⟩, by decide +kernel, wTs_in 1368 (by decide +kernel) rfl, wTs_in 43 (by decide +kernel) rfl⟩, wTs_in 1366 (by decide +kernel) rfl, wTs_in 1367 (by decide +kernel) rfl⟩
theorem mf_X8_setPoints : wMFv yX8_setPoints cX8_setPoints 5 (some .int) 2 := ⟨⟨⟨by decide +kernel, by decide +kernel⟩, by decide +kernel, wTs_in 1372 (by decide +kernel) rfl, wTs_in 43 (by decide +kernel) rfl⟩, wTs_in 1370 (by decide +kernel) rfl, wTs_in 1371 (by decide +kernel) rfl⟩
theorem mf_X8_setBounds : wMFv yX8_setBounds cX8_setBounds 5 (some .int) 2 := ⟨⟨⟨by decide +kernel, by decide +kernel⟩, by decide +kernel, wTs_in 1376 (by decide +kernel) rfl, wTs_in 43 (by decide +kernel) rfl⟩, wTs_in 1374 (by decide +kernel) rfl, wTs_in 1375 (by decide +kernel) rfl⟩
theorem mf_X8_wrongPair : wMFv yX8_wrongPair cX8_wrongPair 3 (some .int) 2 := ⟨⟨⟨by decide +kernel, by decide +kernel⟩, by decide +kernel, wTs_in 1384 (by decide +kernel) rfl, wTs_in 43 (by decide +kernel) rfl⟩, wTs_in 1383 (by decide +kernel) rfl, wTs_in 20 (by decide +kernel) rfl⟩
theorem mf_X8_score : wMFv yX8_score cX8_score 3 (some .int) 2 := ⟨⟨⟨by decide +kernel, by decide +kernel⟩, by decide +kernel, wTs_in 1380 (by decide +kernel) rfl, wTs_in 43 (by decide +kernel) rfl⟩, wTs_in 1378 (by decide +kernel) rfl, wTs_in 1379 (by decide +kernel) rfl⟩
theorem mf_X8_decides : wMFv yX8_decides cX8_decides 4 none 3 := ⟨⟨⟨by decide +kernel, by decide +kernel⟩, by decide +kernel, wTs_in 1396 (by decide +kernel) rfl, wTs_in 43 (by decide +kernel) rfl⟩, wTs_in 1395 (by decide +kernel) rfl, wTs_in 22 (by decide +kernel) rfl⟩
theorem mf_X8_decide : wMFv yX8_decide cX8_decide 4 (some .int) 3 := ⟨⟨⟨by decide +kernel, by decide +kernel⟩, by decide +kernel, wTs_in 1392 (by decide +kernel) rfl, wTs_in 43 (by decide +kernel) rfl⟩, wTs_in 1390 (by decide +kernel) rfl, wTs_in 1391 (by decide +kernel) rfl⟩
theorem mf_X8_takeBack : wMFv yX8_takeBack cX8_takeBack 3 (some .int) 2 := ⟨⟨⟨by decide +kernel, by decide +kernel⟩, by decide +kernel, wTs_in 1400 (by decide +kernel) rfl, wTs_in 43 (by decide +kernel) rfl⟩, wTs_in 1398 (by decide +kernel) rfl, wTs_in 1399 (by decide +kernel) rfl⟩
theorem mf_X8_link : wMFv yX8_link cX8_link 3 (some .char) 2 := ⟨⟨⟨by decide +kernel, by decide +kernel⟩, by decide +kernel, wTs_in 1404 (by decide +kernel) rfl, wTs_in 43 (by decide +kernel) rfl⟩, wTs_in 1402 (by decide +kernel) rfl, wTs_in 1403 (by decide +kernel) rfl⟩
theorem mf_X8_openPairs : wMFv yX8_openPairs cX8_openPairs 4 (some .int) 0 := ⟨⟨⟨by decide +kernel, by decide +kernel⟩, by decide +kernel, wTs_in 1408 (by decide +kernel) rfl, wTs_in 43 (by decide +kernel) rfl⟩, wTs_in 1406 (by decide +kernel) rfl, wTs_in 1407 (by decide +kernel) rfl⟩
theorem mf_X8_isDouble : wMFv yX8_isDouble cX8_isDouble 2 (some .boolean) 1 := ⟨⟨⟨by decide +kernel, by decide +kernel⟩, by decide +kernel, wTs_in 1416 (by decide +kernel) rfl, wTs_in 43 (by decide +kernel) rfl⟩, wTs_in 1414 (by decide +kernel) rfl, wTs_in 1415 (by decide +kernel) rfl⟩
theorem mf_X8_matchOf : wMFv yX8_matchOf cX8_matchOf 2 (some .int) 1 := ⟨⟨⟨by decide +kernel, by decide +kernel⟩, by decide +kernel, wTs_in 1420 (by decide +kernel) rfl, wTs_in 43 (by decide +kernel) rfl⟩, wTs_in 1418 (by decide +kernel) rfl, wTs_in 1419 (by decide +kernel) rfl⟩
theorem mf_X8_matches : wMFv yX8_matches cX8_matches 1 (some .int) 0 := ⟨⟨⟨by decide +kernel, by decide +kernel⟩, by decide +kernel, wTs_in 1428 (by decide +kernel) rfl, wTs_in 43 (by decide +kernel) rfl⟩, wTs_in 1426 (by decide +kernel) rfl, wTs_in 1427 (by decide +kernel) rfl⟩
theorem mf_X8_count : wMFv yX8_count cX8_count 3 (some .int) 2 := ⟨⟨⟨by decide +kernel, by decide +kernel⟩, by decide +kernel, wTs_in 1432 (by decide +kernel) rfl, wTs_in 43 (by decide +kernel) rfl⟩, wTs_in 1430 (by decide +kernel) rfl, wTs_in 1431 (by decide +kernel) rfl⟩
theorem mf_X8_countAnew : wMFv yX8_countAnew cX8_countAnew 3 (some .int) 2 := ⟨⟨⟨by decide +kernel, by decide +kernel⟩, by decide +kernel, wTs_in 1436 (by decide +kernel) rfl, wTs_in 43 (by decide +kernel) rfl⟩, wTs_in 1434 (by decide +kernel) rfl, wTs_in 1435 (by decide +kernel) rfl⟩
theorem mf_X8_many : wMFv yX8_many cX8_many 5 (some .int) 2 := ⟨⟨⟨by decide +kernel, by decide +kernel⟩, by decide +kernel, wTs_in 1445 (by decide +kernel) rfl, wTs_in 43 (by decide +kernel) rfl⟩, wTs_in 1444 (by decide +kernel) rfl, wTs_in 25 (by decide +kernel) rfl⟩
theorem mf_X8_estimate : wMFv yX8_estimate cX8_estimate 1 (some .long) 0 := ⟨⟨⟨by decide +kernel, by decide +kernel⟩, by decide +kernel, wTs_in 1441 (by decide +kernel) rfl, wTs_in 43 (by decide +kernel) rfl⟩, wTs_in 1439 (by decide +kernel) rfl, wTs_in 1440 (by decide +kernel) rfl⟩
theorem mf_X8_doubleShare : wMFv yX8_doubleShare cX8_doubleShare 2 (some .float) 0 := ⟨⟨⟨by decide +kernel, by decide +kernel⟩, by decide +kernel, wTs_in 1449 (by decide +kernel) rfl, wTs_in 43 (by decide +kernel) rfl⟩, wTs_in 1447 (by decide +kernel) rfl, wTs_in 1448 (by decide +kernel) rfl⟩
theorem mf_X8_meanScore : wMFv yX8_meanScore cX8_meanScore 1 (some .double) 0 := ⟨⟨⟨by decide +kernel, by decide +kernel⟩, by decide +kernel, wTs_in 1453 (by decide +kernel) rfl, wTs_in 43 (by decide +kernel) rfl⟩, wTs_in 1451 (by decide +kernel) rfl, wTs_in 1452 (by decide +kernel) rfl⟩
theorem mf_X8_isFound : wMFv yX8_isFound cX8_isFound 6 (some .boolean) 2 := ⟨⟨⟨by decide +kernel, by decide +kernel⟩, by decide +kernel, wTs_in 1473 (by decide +kernel) rfl, wTs_in 43 (by decide +kernel) rfl⟩, wTs_in 1472 (by decide +kernel) rfl, wTs_in 29 (by decide +kernel) rfl⟩
theorem mf_X8_firstFound : wMFv yX8_firstFound cX8_firstFound 3 (some .int) 1 := ⟨⟨⟨by decide +kernel, by decide +kernel⟩, by decide +kernel, wTs_in 1469 (by decide +kernel) rfl, wTs_in 43 (by decide +kernel) rfl⟩, wTs_in 1468 (by decide +kernel) rfl, wTs_in 28 (by decide +kernel) rfl⟩
theorem mf_X8_canHide : wMFv yX8_canHide cX8_canHide 3 (some .boolean) 2 := ⟨⟨⟨by decide +kernel, by decide +kernel⟩, by decide +kernel, wTs_in 1481 (by decide +kernel) rfl, wTs_in 43 (by decide +kernel) rfl⟩, wTs_in 1480 (by decide +kernel) rfl, wTs_in 31 (by decide +kernel) rfl⟩
theorem mf_X8_helps : wMFv yX8_helps cX8_helps 5 (some .boolean) 3 := ⟨⟨⟨by decide +kernel, by decide +kernel⟩, by decide +kernel, wTs_in 1485 (by decide +kernel) rfl, wTs_in 43 (by decide +kernel) rfl⟩, wTs_in 1484 (by decide +kernel) rfl, wTs_in 32 (by decide +kernel) rfl⟩
theorem mf_X8_next : wMFv yX8_next cX8_next 6 (some .int) 3 := ⟨⟨⟨by decide +kernel, by decide +kernel⟩, by decide +kernel, wTs_in 1477 (by decide +kernel) rfl, wTs_in 43 (by decide +kernel) rfl⟩, wTs_in 1476 (by decide +kernel) rfl, wTs_in 30 (by decide +kernel) rfl⟩
theorem mf_X8_hidesSmall : wMFv yX8_hidesSmall cX8_hidesSmall 3 none 1 := ⟨⟨⟨by decide +kernel, by decide +kernel⟩, by decide +kernel, wTs_in 1465 (by decide +kernel) rfl, wTs_in 43 (by decide +kernel) rfl⟩, wTs_in 1464 (by decide +kernel) rfl, wTs_in 27 (by decide +kernel) rfl⟩
theorem mf_X8_hides : wMFv yX8_hides cX8_hides 4 (some .boolean) 1 := ⟨⟨⟨by decide +kernel, by decide +kernel⟩, by decide +kernel, wTs_in 1461 (by decide +kernel) rfl, wTs_in 43 (by decide +kernel) rfl⟩, wTs_in 1460 (by decide +kernel) rfl, wTs_in 26 (by decide +kernel) rfl⟩
theorem mf_X8_tell : wMFv yX8_tell cX8_tell 2 (some .int) 0 := ⟨⟨⟨by decide +kernel, by decide +kernel⟩, by decide +kernel, wTs_in 1457 (by decide +kernel) rfl, wTs_in 43 (by decide +kernel) rfl⟩, wTs_in 1455 (by decide +kernel) rfl, wTs_in 1456 (by decide +kernel) rfl⟩
theorem mf_X8_isTable : wMFv yX8_isTable cX8_isTable 2 (some .boolean) 1 := ⟨⟨⟨by decide +kernel, by decide +kernel⟩, by decide +kernel, wTs_in 1493 (by decide +kernel) rfl, wTs_in 43 (by decide +kernel) rfl⟩, wTs_in 1492 (by decide +kernel) rfl, wTs_in 33 (by decide +kernel) rfl⟩
theorem mf_X8_stateOf : wMFv yX8_stateOf cX8_stateOf 2 (some .char) 1 := ⟨⟨⟨by decide +kernel, by decide +kernel⟩, by decide +kernel, wTs_in 1489 (by decide +kernel) rfl, wTs_in 43 (by decide +kernel) rfl⟩, wTs_in 1487 (by decide +kernel) rfl, wTs_in 1488 (by decide +kernel) rfl⟩
theorem mf_X8_wrongCell : wMFv yX8_wrongCell cX8_wrongCell 4 (some .int) 3 := ⟨⟨⟨by decide +kernel, by decide +kernel⟩, by decide +kernel, wTs_in 1501 (by decide +kernel) rfl, wTs_in 43 (by decide +kernel) rfl⟩, wTs_in 1500 (by decide +kernel) rfl, wTs_in 34 (by decide +kernel) rfl⟩
theorem mf_X8_place : wMFs yX8_place cX8_place 3 (some .int) 3 := ⟨⟨⟨by decide +kernel, by decide +kernel⟩, by decide +kernel, wTs_in 1504 (by decide +kernel) rfl, wTs_in 43 (by decide +kernel) rfl⟩, wTs_in 1503 (by decide +kernel) rfl⟩
theorem mf_X8_isHidden : wMFv yX8_isHidden cX8_isHidden 4 (some .boolean) 3 := ⟨⟨⟨by decide +kernel, by decide +kernel⟩, by decide +kernel, wTs_in 1497 (by decide +kernel) rfl, wTs_in 43 (by decide +kernel) rfl⟩, wTs_in 1495 (by decide +kernel) rfl, wTs_in 1496 (by decide +kernel) rfl⟩
theorem mf_X8_cell : wMFv yX8_cell cX8_cell 4 (some .int) 3 := ⟨⟨⟨by decide +kernel, by decide +kernel⟩, by decide +kernel, wTs_in 1508 (by decide +kernel) rfl, wTs_in 43 (by decide +kernel) rfl⟩, wTs_in 1506 (by decide +kernel) rfl, wTs_in 1507 (by decide +kernel) rfl⟩
theorem mf_X8_blockSum : wMFv yX8_blockSum cX8_blockSum 5 (some .int) 2 := ⟨⟨⟨by decide +kernel, by decide +kernel⟩, by decide +kernel, wTs_in 1512 (by decide +kernel) rfl, wTs_in 43 (by decide +kernel) rfl⟩, wTs_in 1510 (by decide +kernel) rfl, wTs_in 1511 (by decide +kernel) rfl⟩
theorem mf_X8_groupSum : wMFv yX8_groupSum cX8_groupSum 5 (some .int) 2 := ⟨⟨⟨by decide +kernel, by decide +kernel⟩, by decide +kernel, wTs_in 1516 (by decide +kernel) rfl, wTs_in 43 (by decide +kernel) rfl⟩, wTs_in 1514 (by decide +kernel) rfl, wTs_in 1515 (by decide +kernel) rfl⟩
theorem mf_X8_holes : wMFv yX8_holes cX8_holes 4 (some .int) 1 := ⟨⟨⟨by decide +kernel, by decide +kernel⟩, by decide +kernel, wTs_in 1520 (by decide +kernel) rfl, wTs_in 43 (by decide +kernel) rfl⟩, wTs_in 1518 (by decide +kernel) rfl, wTs_in 1519 (by decide +kernel) rfl⟩
theorem mf_X8_isAtRisk : wMFv yX8_isAtRisk cX8_isAtRisk 6 (some .boolean) 3 := ⟨⟨⟨by decide +kernel, by decide +kernel⟩, by decide +kernel, wTs_in 1524 (by decide +kernel) rfl, wTs_in 43 (by decide +kernel) rfl⟩, wTs_in 1522 (by decide +kernel) rfl, wTs_in 1523 (by decide +kernel) rfl⟩
theorem mf_X8_found : wMFv yX8_found cX8_found 2 (some .int) 1 := ⟨⟨⟨by decide +kernel, by decide +kernel⟩, by decide +kernel, wTs_in 1528 (by decide +kernel) rfl, wTs_in 43 (by decide +kernel) rfl⟩, wTs_in 1526 (by decide +kernel) rfl, wTs_in 1527 (by decide +kernel) rfl⟩
theorem mf_X8_foundByWays : wMFv yX8_foundByWays cX8_foundByWays 2 (some .int) 1 := ⟨⟨⟨by decide +kernel, by decide +kernel⟩, by decide +kernel, wTs_in 1532 (by decide +kernel) rfl, wTs_in 43 (by decide +kernel) rfl⟩, wTs_in 1530 (by decide +kernel) rfl, wTs_in 1531 (by decide +kernel) rfl⟩
theorem mf_X8_line : wMFv yX8_line cX8_line 4 (some (.object "java/lang/String")) 1 := ⟨⟨⟨by decide +kernel, by decide +kernel⟩, by decide +kernel, wTs_in 1541 (by decide +kernel) rfl, wTs_in 43 (by decide +kernel) rfl⟩, wTs_in 1540 (by decide +kernel) rfl, wTs_in 35 (by decide +kernel) rfl⟩
theorem mf_X8_lineLength : wMFv yX8_lineLength cX8_lineLength 2 (some .int) 1 := ⟨⟨⟨by decide +kernel, by decide +kernel⟩, by decide +kernel, wTs_in 1537 (by decide +kernel) rfl, wTs_in 43 (by decide +kernel) rfl⟩, wTs_in 1535 (by decide +kernel) rfl, wTs_in 1536 (by decide +kernel) rfl⟩
theorem mf_X8_lineAt : wMFv yX8_lineAt cX8_lineAt 3 (some .char) 2 := ⟨⟨⟨by decide +kernel, by decide +kernel⟩, by decide +kernel, wTs_in 1551 (by decide +kernel) rfl, wTs_in 43 (by decide +kernel) rfl⟩, wTs_in 1549 (by decide +kernel) rfl, wTs_in 1550 (by decide +kernel) rfl⟩
theorem mf_X8_isSafe : wMFv yX8_isSafe cX8_isSafe 1 (some .boolean) 0 := ⟨⟨⟨by decide +kernel, by decide +kernel⟩, by decide +kernel, wTs_in 1556 (by decide +kernel) rfl, wTs_in 43 (by decide +kernel) rfl⟩, wTs_in 1554 (by decide +kernel) rfl, wTs_in 1555 (by decide +kernel) rfl⟩
theorem mi_J5_init_d00df : wMF yJ5_init_d00df cJ5_init_d00df 2 none 1 ∧ Cond.instanceMethod yJ5_init_d00df ∈ wTs := ⟨⟨⟨by decide +kernel, by decide +kernel⟩, by decide +kernel, wTs_in 816 (by decide +kernel) rfl, wTs_in 58 (by decide +kernel) rfl⟩, wTs_in 815 (by decide +kernel) rfl⟩
theorem mi_J5_length_8abf5 : wMF yJ5_length_8abf5 cJ5_length_8abf5 1 (some .int) 0 ∧ Cond.instanceMethod yJ5_length_8abf5 ∈ wTs := ⟨⟨⟨by decide +kernel, by decide +kernel⟩, by decide +kernel, wTs_in 990 (by decide +kernel) rfl, wTs_in 58 (by decide +kernel) rfl⟩, wTs_in 984 (by decide +kernel) rfl⟩
theorem mi_J5_ensureCapacityInternal_d00df : wMF yJ5_ensureCapacityInternal_d00df cJ5_ensureCapacityInternal_d00df 3 none 1 ∧ Cond.instanceMethod yJ5_ensureCapacityInternal_d00df ∈ wTs := ⟨⟨⟨by decide +kernel, by decide +kernel⟩, by decide +kernel, wTs_in 851 (by decide +kernel) rfl, wTs_in 58 (by decide +kernel) rfl⟩, wTs_in 850 (by decide +kernel) rfl⟩
theorem mi_J5_newCapacity_0f7a4 : wMF yJ5_newCapacity_0f7a4 cJ5_newCapacity_0f7a4 6 (some .int) 1 ∧ Cond.instanceMethod yJ5_newCapacity_0f7a4 ∈ wTs := ⟨⟨⟨by decide +kernel, by decide +kernel⟩, by decide +kernel, wTs_in 855 (by decide +kernel) rfl, wTs_in 58 (by decide +kernel) rfl⟩, wTs_in 854 (by decide +kernel) rfl⟩
theorem mi_J5_inflate_da8c8 : wMF yJ5_inflate_da8c8 cJ5_inflate_da8c8 2 none 0 ∧ Cond.instanceMethod yJ5_inflate_da8c8 ∈ wTs := ⟨⟨⟨by decide +kernel, by decide +kernel⟩, by decide +kernel, wTs_in 890 (by decide +kernel) rfl, wTs_in 58 (by decide +kernel) rfl⟩, wTs_in 889 (by decide +kernel) rfl⟩
theorem mi_J5_append_cf1ce : wMF yJ5_append_cf1ce cJ5_append_cf1ce 3 (some (.object "java/lang/AbstractStringBuilder")) 1 ∧ Cond.instanceMethod yJ5_append_cf1ce ∈ wTs := ⟨⟨⟨by decide +kernel, by decide +kernel⟩, by decide +kernel, wTs_in 1012 (by decide +kernel) rfl, wTs_in 58 (by decide +kernel) rfl⟩, wTs_in 1011 (by decide +kernel) rfl⟩
theorem mi_J5_appendNull_278bc : wMF yJ5_appendNull_278bc cJ5_appendNull_278bc 3 (some (.object "java/lang/AbstractStringBuilder")) 0 ∧ Cond.instanceMethod yJ5_appendNull_278bc ∈ wTs := ⟨⟨⟨by decide +kernel, by decide +kernel⟩, by decide +kernel, wTs_in 1016 (by decide +kernel) rfl, wTs_in 58 (by decide +kernel) rfl⟩, wTs_in 1015 (by decide +kernel) rfl⟩
theorem mi_J5_append_3fe6f : wMF yJ5_append_3fe6f cJ5_append_3fe6f 2 (some (.object "java/lang/AbstractStringBuilder")) 1 ∧ Cond.instanceMethod yJ5_append_3fe6f ∈ wTs := ⟨⟨⟨by decide +kernel, by decide +kernel⟩, by decide +kernel, wTs_in 847 (by decide +kernel) rfl, wTs_in 58 (by decide +kernel) rfl⟩, wTs_in 846 (by decide +kernel) rfl⟩
theorem mi_J5_append_c97b9 : wMF yJ5_append_c97b9 cJ5_append_c97b9 4 (some (.object "java/lang/AbstractStringBuilder")) 1 ∧ Cond.instanceMethod yJ5_append_c97b9 ∈ wTs := ⟨⟨⟨by decide +kernel, by decide +kernel⟩, by decide +kernel, wTs_in 938 (by decide +kernel) rfl, wTs_in 58 (by decide +kernel) rfl⟩, wTs_in 937 (by decide +kernel) rfl⟩
theorem mi_J5_getValue_6d5f1 : wMF yJ5_getValue_6d5f1 cJ5_getValue_6d5f1 1 (some (.array .byte)) 0 ∧ Cond.instanceMethod yJ5_getValue_6d5f1 ∈ wTs := ⟨⟨⟨by decide +kernel, by decide +kernel⟩, by decide +kernel, wTs_in 982 (by decide +kernel) rfl, wTs_in 58 (by decide +kernel) rfl⟩, wTs_in 979 (by decide +kernel) rfl⟩
theorem mi_J5_isLatin1_aae02 : wMF yJ5_isLatin1_aae02 cJ5_isLatin1_aae02 1 (some .boolean) 0 ∧ Cond.instanceMethod yJ5_isLatin1_aae02 ∈ wTs := ⟨⟨⟨by decide +kernel, by decide +kernel⟩, by decide +kernel, wTs_in 883 (by decide +kernel) rfl, wTs_in 58 (by decide +kernel) rfl⟩, wTs_in 880 (by decide +kernel) rfl⟩
theorem mi_J5_inflateIfNeededFor_a7421 : wMF yJ5_inflateIfNeededFor_a7421 cJ5_inflateIfNeededFor_a7421 2 none 1 ∧ Cond.instanceMethod yJ5_inflateIfNeededFor_a7421 ∈ wTs := ⟨⟨⟨by decide +kernel, by decide +kernel⟩, by decide +kernel, wTs_in 1036 (by decide +kernel) rfl, wTs_in 58 (by decide +kernel) rfl⟩, wTs_in 1035 (by decide +kernel) rfl⟩
theorem mi_J5_putStringAt_47b60 : wMF yJ5_putStringAt_47b60 cJ5_putStringAt_47b60 3 none 2 ∧ Cond.instanceMethod yJ5_putStringAt_47b60 ∈ wTs := ⟨⟨⟨by decide +kernel, by decide +kernel⟩, by decide +kernel, wTs_in 1032 (by decide +kernel) rfl, wTs_in 58 (by decide +kernel) rfl⟩, wTs_in 1031 (by decide +kernel) rfl⟩
theorem mi_Jx00060_init_a7421 : wMF yJx00060_init_a7421 cJx00060_init_a7421 2 none 1 ∧ Cond.instanceMethod yJx00060_init_a7421 ∈ wTs := ⟨⟨⟨by decide +kernel, by decide +kernel⟩, by decide +kernel, wTs_in 485 (by decide +kernel) rfl, wTs_in 50 (by decide +kernel) rfl⟩, wTs_in 484 (by decide +kernel) rfl⟩
theorem mf_J6_getChars_ba4f3 : wMFs yJ6_getChars_ba4f3 cJ6_getChars_ba4f3 7 (some .int) 3 := ⟨⟨⟨by decide +kernel, by decide +kernel⟩, by decide +kernel, wTs_in 944 (by decide +kernel) rfl, wTs_in 67 (by decide +kernel) rfl⟩, wTs_in 943 (by decide +kernel) rfl⟩
theorem mf_J6_stringSize_0f7a4 : wMFs yJ6_stringSize_0f7a4 cJ6_stringSize_0f7a4 4 (some .int) 1 := ⟨⟨⟨by decide +kernel, by decide +kernel⟩, by decide +kernel, wTs_in 941 (by decide +kernel) rfl, wTs_in 67 (by decide +kernel) rfl⟩, wTs_in 940 (by decide +kernel) rfl⟩
theorem mf_J6_bitCount_0f7a4 : wMFs yJ6_bitCount_0f7a4 cJ6_bitCount_0f7a4 1 (some .int) 1 := ⟨⟨⟨by decide +kernel, by decide +kernel⟩, by decide +kernel, wTs_in 1155 (by decide +kernel) rfl, wTs_in 67 (by decide +kernel) rfl⟩, wTs_in 1154 (by decide +kernel) rfl⟩
theorem mf_J9_max_7cf53 : wMFs yJ9_max_7cf53 cJ9_max_7cf53 2 (some .int) 2 := ⟨⟨⟨by decide +kernel, by decide +kernel⟩, by decide +kernel, wTs_in 276 (by decide +kernel) rfl, wTs_in 48 (by decide +kernel) rfl⟩, wTs_in 275 (by decide +kernel) rfl⟩
theorem mf_J9_min_7cf53 : wMFs yJ9_min_7cf53 cJ9_min_7cf53 2 (some .int) 2 := ⟨⟨⟨by decide +kernel, by decide +kernel⟩, by decide +kernel, wTs_in 273 (by decide +kernel) rfl, wTs_in 48 (by decide +kernel) rfl⟩, wTs_in 272 (by decide +kernel) rfl⟩
theorem mi_J0_init_81219 : wMF yJ0_init_81219 cJ0_init_81219 2 none 1 ∧ Cond.instanceMethod yJ0_init_81219 ∈ wTs := ⟨⟨⟨by decide +kernel, by decide +kernel⟩, by decide +kernel, wTs_in 973 (by decide +kernel) rfl, wTs_in 51 (by decide +kernel) rfl⟩, wTs_in 972 (by decide +kernel) rfl⟩
theorem mf_J0_length_8abf5 : wMFv yJ0_length_8abf5 cJ0_length_8abf5 1 (some .int) 0 := ⟨⟨⟨by decide +kernel, by decide +kernel⟩, by decide +kernel, wTs_in 1023 (by decide +kernel) rfl, wTs_in 51 (by decide +kernel) rfl⟩, wTs_in 1021 (by decide +kernel) rfl, wTs_in 1022 (by decide +kernel) rfl⟩
theorem mf_J0_charAt_5068e : wMFv yJ0_charAt_5068e cJ0_charAt_5068e 2 (some .char) 1 := ⟨⟨⟨by decide +kernel, by decide +kernel⟩, by decide +kernel, wTs_in 1202 (by decide +kernel) rfl, wTs_in 51 (by decide +kernel) rfl⟩, wTs_in 1200 (by decide +kernel) rfl, wTs_in 1201 (by decide +kernel) rfl⟩
theorem mf_J0_getBytes_840e7 : wMFv yJ0_getBytes_840e7 cJ0_getBytes_840e7 4 none 3 := ⟨⟨⟨by decide +kernel, by decide +kernel⟩, by decide +kernel, wTs_in 1041 (by decide +kernel) rfl, wTs_in 51 (by decide +kernel) rfl⟩, wTs_in 1039 (by decide +kernel) rfl, wTs_in 1040 (by decide +kernel) rfl⟩
theorem mi_J0_init_db425 : wMF yJ0_init_db425 cJ0_init_db425 5 none 2 ∧ Cond.instanceMethod yJ0_init_db425 ∈ wTs := ⟨⟨⟨by decide +kernel, by decide +kernel⟩, by decide +kernel, wTs_in 976 (by decide +kernel) rfl, wTs_in 51 (by decide +kernel) rfl⟩, wTs_in 975 (by decide +kernel) rfl⟩
theorem mf_J0_isLatin1_aae02 : wMFv yJ0_isLatin1_aae02 cJ0_isLatin1_aae02 1 (some .boolean) 0 := ⟨⟨⟨by decide +kernel, by decide +kernel⟩, by decide +kernel, wTs_in 1206 (by decide +kernel) rfl, wTs_in 51 (by decide +kernel) rfl⟩, wTs_in 1204 (by decide +kernel) rfl, wTs_in 1205 (by decide +kernel) rfl⟩
theorem mf_J0_checkIndex_df160 : wMFs yJ0_checkIndex_df160 cJ0_checkIndex_df160 2 none 2 := ⟨⟨⟨by decide +kernel, by decide +kernel⟩, by decide +kernel, wTs_in 928 (by decide +kernel) rfl, wTs_in 51 (by decide +kernel) rfl⟩, wTs_in 927 (by decide +kernel) rfl⟩
theorem mf_J0_checkBoundsOffCount_cabcc : wMFs yJ0_checkBoundsOffCount_cabcc cJ0_checkBoundsOffCount_cabcc 3 (some .int) 3 := ⟨⟨⟨by decide +kernel, by decide +kernel⟩, by decide +kernel, wTs_in 905 (by decide +kernel) rfl, wTs_in 51 (by decide +kernel) rfl⟩, wTs_in 904 (by decide +kernel) rfl⟩
theorem mf_J0_checkBoundsBeginEnd_23922 : wMFs yJ0_checkBoundsBeginEnd_23922 cJ0_checkBoundsBeginEnd_23922 3 none 3 := ⟨⟨⟨by decide +kernel, by decide +kernel⟩, by decide +kernel, wTs_in 957 (by decide +kernel) rfl, wTs_in 51 (by decide +kernel) rfl⟩, wTs_in 956 (by decide +kernel) rfl⟩
theorem mi_J4_init_da8c8 : wMF yJ4_init_da8c8 cJ4_init_da8c8 1 none 0 ∧ Cond.instanceMethod yJ4_init_da8c8 ∈ wTs := ⟨⟨⟨by decide +kernel, by decide +kernel⟩, by decide +kernel, wTs_in 813 (by decide +kernel) rfl, wTs_in 59 (by decide +kernel) rfl⟩, wTs_in 812 (by decide +kernel) rfl⟩
theorem mf_J4_append_15ec4 : wMFv yJ4_append_15ec4 cJ4_append_15ec4 2 (some (.object "java/lang/StringBuilder")) 1 := ⟨⟨⟨by decide +kernel, by decide +kernel⟩, by decide +kernel, wTs_in 1009 (by decide +kernel) rfl, wTs_in 59 (by decide +kernel) rfl⟩, wTs_in 1007 (by decide +kernel) rfl, wTs_in 1008 (by decide +kernel) rfl⟩
theorem mf_J4_append_cf468 : wMFv yJ4_append_cf468 cJ4_append_cf468 2 (some (.object "java/lang/StringBuilder")) 1 := ⟨⟨⟨by decide +kernel, by decide +kernel⟩, by decide +kernel, wTs_in 844 (by decide +kernel) rfl, wTs_in 59 (by decide +kernel) rfl⟩, wTs_in 842 (by decide +kernel) rfl, wTs_in 843 (by decide +kernel) rfl⟩
theorem mf_J4_append_bf812 : wMFv yJ4_append_bf812 cJ4_append_bf812 2 (some (.object "java/lang/StringBuilder")) 1 := ⟨⟨⟨by decide +kernel, by decide +kernel⟩, by decide +kernel, wTs_in 935 (by decide +kernel) rfl, wTs_in 59 (by decide +kernel) rfl⟩, wTs_in 933 (by decide +kernel) rfl, wTs_in 934 (by decide +kernel) rfl⟩
theorem mf_J4_toString_0e30d : wMFv yJ4_toString_0e30d cJ4_toString_0e30d 1 (some (.object "java/lang/String")) 0 := ⟨⟨⟨by decide +kernel, by decide +kernel⟩, by decide +kernel, wTs_in 969 (by decide +kernel) rfl, wTs_in 59 (by decide +kernel) rfl⟩, wTs_in 967 (by decide +kernel) rfl, wTs_in 968 (by decide +kernel) rfl⟩
theorem mi_J4_length_8abf5 : wMF yJ4_length_8abf5 cJ4_length_8abf5 1 (some .int) 0 ∧ Cond.instanceMethod yJ4_length_8abf5 ∈ wTs := ⟨⟨⟨by decide +kernel, by decide +kernel⟩, by decide +kernel, wTs_in 988 (by decide +kernel) rfl, wTs_in 59 (by decide +kernel) rfl⟩, wTs_in 987 (by decide +kernel) rfl⟩
theorem mf_J1_charAt_3b067 : wMFs yJ1_charAt_3b067 cJ1_charAt_3b067 2 (some .char) 2 := ⟨⟨⟨by decide +kernel, by decide +kernel⟩, by decide +kernel, wTs_in 1209 (by decide +kernel) rfl, wTs_in 64 (by decide +kernel) rfl⟩, wTs_in 1208 (by decide +kernel) rfl⟩
theorem mf_J1_canEncode_fc78d : wMFs yJ1_canEncode_fc78d cJ1_canEncode_fc78d 1 (some .boolean) 1 := ⟨⟨⟨by decide +kernel, by decide +kernel⟩, by decide +kernel, wTs_in 886 (by decide +kernel) rfl, wTs_in 64 (by decide +kernel) rfl⟩, wTs_in 885 (by decide +kernel) rfl⟩
theorem mf_J1_inflate_0e8fd : wMFs yJ1_inflate_0e8fd cJ1_inflate_0e8fd 5 none 5 := ⟨⟨⟨by decide +kernel, by decide +kernel⟩, by decide +kernel, wTs_in 893 (by decide +kernel) rfl, wTs_in 64 (by decide +kernel) rfl⟩, wTs_in 892 (by decide +kernel) rfl⟩
theorem mf_J2_newBytesFor_77867 : wMFs yJ2_newBytesFor_77867 cJ2_newBytesFor_77867 1 (some (.array .byte)) 1 := ⟨⟨⟨by decide +kernel, by decide +kernel⟩, by decide +kernel, wTs_in 822 (by decide +kernel) rfl, wTs_in 60 (by decide +kernel) rfl⟩, wTs_in 821 (by decide +kernel) rfl⟩
theorem mf_J2_newBytesLength_0f7a4 : wMFs yJ2_newBytesLength_0f7a4 cJ2_newBytesLength_0f7a4 1 (some .int) 1 := ⟨⟨⟨by decide +kernel, by decide +kernel⟩, by decide +kernel, wTs_in 825 (by decide +kernel) rfl, wTs_in 60 (by decide +kernel) rfl⟩, wTs_in 824 (by decide +kernel) rfl⟩
theorem mf_J2_putChar_b72d1 : wMFs yJ2_putChar_b72d1 cJ2_putChar_b72d1 3 none 3 := ⟨⟨⟨by decide +kernel, by decide +kernel⟩, by decide +kernel, wTs_in 913 (by decide +kernel) rfl, wTs_in 60 (by decide +kernel) rfl⟩, wTs_in 912 (by decide +kernel) rfl⟩
theorem mf_J2_getChar_3b067 : wMFs yJ2_getChar_3b067 cJ2_getChar_3b067 2 (some .char) 2 := ⟨⟨⟨by decide +kernel, by decide +kernel⟩, by decide +kernel, wTs_in 1054 (by decide +kernel) rfl, wTs_in 60 (by decide +kernel) rfl⟩, wTs_in 1053 (by decide +kernel) rfl⟩
theorem mf_J2_length_9d52b : wMFs yJ2_length_9d52b cJ2_length_9d52b 1 (some .int) 1 := ⟨⟨⟨by decide +kernel, by decide +kernel⟩, by decide +kernel, wTs_in 902 (by decide +kernel) rfl, wTs_in 60 (by decide +kernel) rfl⟩, wTs_in 901 (by decide +kernel) rfl⟩
theorem mf_J2_compress_39247 : wMFs yJ2_compress_39247 cJ2_compress_39247 6 (some (.array .byte)) 3 := ⟨⟨⟨by decide +kernel, by decide +kernel⟩, by decide +kernel, wTs_in 1048 (by decide +kernel) rfl, wTs_in 60 (by decide +kernel) rfl⟩, wTs_in 1047 (by decide +kernel) rfl⟩
theorem mf_J2_compress_5af95 : wMFs yJ2_compress_5af95 cJ2_compress_5af95 7 (some .int) 5 := ⟨⟨⟨by decide +kernel, by decide +kernel⟩, by decide +kernel, wTs_in 1051 (by decide +kernel) rfl, wTs_in 60 (by decide +kernel) rfl⟩, wTs_in 1050 (by decide +kernel) rfl⟩
theorem mf_J2_putCharSB_b72d1 : wMFs yJ2_putCharSB_b72d1 cJ2_putCharSB_b72d1 3 none 3 := ⟨⟨⟨by decide +kernel, by decide +kernel⟩, by decide +kernel, wTs_in 922 (by decide +kernel) rfl, wTs_in 60 (by decide +kernel) rfl⟩, wTs_in 921 (by decide +kernel) rfl⟩
theorem mf_J2_getChars_46870 : wMFs yJ2_getChars_46870 cJ2_getChars_46870 5 (some .int) 4 := ⟨⟨⟨by decide +kernel, by decide +kernel⟩, by decide +kernel, wTs_in 951 (by decide +kernel) rfl, wTs_in 60 (by decide +kernel) rfl⟩, wTs_in 950 (by decide +kernel) rfl⟩
theorem mf_J2_putCharsAt_cd4e5 : wMFs yJ2_putCharsAt_cd4e5 cJ2_putCharsAt_cd4e5 7 (some .int) 6 := ⟨⟨⟨by decide +kernel, by decide +kernel⟩, by decide +kernel, wTs_in 1019 (by decide +kernel) rfl, wTs_in 60 (by decide +kernel) rfl⟩, wTs_in 1018 (by decide +kernel) rfl⟩
theorem mf_J2_charAt_3b067 : wMFs yJ2_charAt_3b067 cJ2_charAt_3b067 2 (some .char) 2 := ⟨⟨⟨by decide +kernel, by decide +kernel⟩, by decide +kernel, wTs_in 1213 (by decide +kernel) rfl, wTs_in 60 (by decide +kernel) rfl⟩, wTs_in 1212 (by decide +kernel) rfl⟩
theorem mf_J2_inflate_0e8fd : wMFs yJ2_inflate_0e8fd cJ2_inflate_0e8fd 6 none 5 := ⟨⟨⟨by decide +kernel, by decide +kernel⟩, by decide +kernel, wTs_in 896 (by decide +kernel) rfl, wTs_in 60 (by decide +kernel) rfl⟩, wTs_in 895 (by decide +kernel) rfl⟩
theorem mf_J2_getChars_ba4f3 : wMFs yJ2_getChars_ba4f3 cJ2_getChars_ba4f3 7 (some .int) 3 := ⟨⟨⟨by decide +kernel, by decide +kernel⟩, by decide +kernel, wTs_in 963 (by decide +kernel) rfl, wTs_in 60 (by decide +kernel) rfl⟩, wTs_in 962 (by decide +kernel) rfl⟩
theorem mf_J2_checkIndex_2214a : wMFs yJ2_checkIndex_2214a cJ2_checkIndex_2214a 2 none 2 := ⟨⟨⟨by decide +kernel, by decide +kernel⟩, by decide +kernel, wTs_in 925 (by decide +kernel) rfl, wTs_in 60 (by decide +kernel) rfl⟩, wTs_in 924 (by decide +kernel) rfl⟩
theorem mf_J2_checkBoundsBeginEnd_d044e : wMFs yJ2_checkBoundsBeginEnd_d044e cJ2_checkBoundsBeginEnd_d044e 3 none 3 := ⟨⟨⟨by decide +kernel, by decide +kernel⟩, by decide +kernel, wTs_in 954 (by decide +kernel) rfl, wTs_in 60 (by decide +kernel) rfl⟩, wTs_in 953 (by decide +kernel) rfl⟩
theorem mf_J2_checkBoundsOffCount_d044e : wMFs yJ2_checkBoundsOffCount_d044e cJ2_checkBoundsOffCount_d044e 3 none 3 := ⟨⟨⟨by decide +kernel, by decide +kernel⟩, by decide +kernel, wTs_in 899 (by decide +kernel) rfl, wTs_in 60 (by decide +kernel) rfl⟩, wTs_in 898 (by decide +kernel) rfl⟩
theorem mf_J7_copyOf_9075b : wMFs yJ7_copyOf_9075b cJ7_copyOf_9075b 3 (some (.array .byte)) 2 := ⟨⟨⟨by decide +kernel, by decide +kernel⟩, by decide +kernel, wTs_in 867 (by decide +kernel) rfl, wTs_in 62 (by decide +kernel) rfl⟩, wTs_in 866 (by decide +kernel) rfl⟩
theorem mf_J7_checkLength_df160 : wMFs yJ7_checkLength_df160 cJ7_checkLength_df160 2 none 2 := ⟨⟨⟨by decide +kernel, by decide +kernel⟩, by decide +kernel, wTs_in 1000 (by decide +kernel) rfl, wTs_in 62 (by decide +kernel) rfl⟩, wTs_in 999 (by decide +kernel) rfl⟩
theorem mf_J7_copyOfRange_39247 : wMFs yJ7_copyOfRange_39247 cJ7_copyOfRange_39247 3 (some (.array .byte)) 3 := ⟨⟨⟨by decide +kernel, by decide +kernel⟩, by decide +kernel, wTs_in 994 (by decide +kernel) rfl, wTs_in 62 (by decide +kernel) rfl⟩, wTs_in 993 (by decide +kernel) rfl⟩
theorem mf_J7_copyOfRangeByte_39247 : wMFs yJ7_copyOfRangeByte_39247 cJ7_copyOfRangeByte_39247 5 (some (.array .byte)) 3 := ⟨⟨⟨by decide +kernel, by decide +kernel⟩, by decide +kernel, wTs_in 997 (by decide +kernel) rfl, wTs_in 62 (by decide +kernel) rfl⟩, wTs_in 996 (by decide +kernel) rfl⟩
theorem mf_J8_newLength_cabcc : wMFs yJ8_newLength_cabcc cJ8_newLength_cabcc 4 (some .int) 3 := ⟨⟨⟨by decide +kernel, by decide +kernel⟩, by decide +kernel, wTs_in 858 (by decide +kernel) rfl, wTs_in 61 (by decide +kernel) rfl⟩, wTs_in 857 (by decide +kernel) rfl⟩
theorem mf_J8_hugeLength_7cf53 : wMFs yJ8_hugeLength_7cf53 cJ8_hugeLength_7cf53 3 (some .int) 2 := ⟨⟨⟨by decide +kernel, by decide +kernel⟩, by decide +kernel, wTs_in 863 (by decide +kernel) rfl, wTs_in 61 (by decide +kernel) rfl⟩, wTs_in 862 (by decide +kernel) rfl⟩
theorem mf_J3_checkIndex_8e157 : wMFs yJ3_checkIndex_8e157 cJ3_checkIndex_8e157 3 (some .int) 3 := ⟨⟨⟨by decide +kernel, by decide +kernel⟩, by decide +kernel, wTs_in 931 (by decide +kernel) rfl, wTs_in 65 (by decide +kernel) rfl⟩, wTs_in 930 (by decide +kernel) rfl⟩
theorem mf_J3_checkFromToIndex_8c36e : wMFs yJ3_checkFromToIndex_8c36e cJ3_checkFromToIndex_8c36e 4 (some .int) 4 := ⟨⟨⟨by decide +kernel, by decide +kernel⟩, by decide +kernel, wTs_in 960 (by decide +kernel) rfl, wTs_in 65 (by decide +kernel) rfl⟩, wTs_in 959 (by decide +kernel) rfl⟩
theorem mf_J3_checkFromIndexSize_8c36e : wMFs yJ3_checkFromIndexSize_8c36e cJ3_checkFromIndexSize_8c36e 4 (some .int) 4 := ⟨⟨⟨by decide +kernel, by decide +kernel⟩, by decide +kernel, wTs_in 910 (by decide +kernel) rfl, wTs_in 65 (by decide +kernel) rfl⟩, wTs_in 909 (by decide +kernel) rfl⟩
def exn : Nat → String := fun k => match k with
  | 0 => "java/lang/IllegalStateException"
  | 1 => "java/lang/IllegalArgumentException"
  | 2 => "java/lang/IndexOutOfBoundsException"
  | 3 => "java/lang/ArithmeticException"
  | 4 => "java/lang/UnsupportedOperationException"
  | 5 => "java/util/NoSuchElementException"
  | _ => ""
theorem at_common : ∀ c ∈ Bundle.throwableAtoms ++ Bundle.throwableSAtoms, vx_no c = true → c ∈ wTs := by decide +kernel
theorem at_ex0 : ∀ c ∈ Bundle.chainSAtoms "java/lang/IllegalStateException" ["java/lang/RuntimeException", "java/lang/Exception"] ++ [Cond.instantiable "java/lang/IllegalStateException" 6, .castable "java/lang/IllegalStateException" "java/lang/IllegalStateException", .selects "java/lang/IllegalStateException" Bundle.tFill0 Bundle.tFill0, .selects "java/lang/IllegalStateException" Bundle.tFill Bundle.tFill, .lays "java/lang/IllegalStateException" Bundle.tN "cause" "Ljava/lang/Throwable;", .lays "java/lang/IllegalStateException" Bundle.tN "stackTrace" Bundle.steD, .lays "java/lang/IllegalStateException" Bundle.tN "suppressedExceptions" Bundle.listD, .lays "java/lang/IllegalStateException" Bundle.tN "detailMessage" "Ljava/lang/String;", .fieldLink Bundle.tN 198 Bundle.tN "backtrace" "Ljava/lang/Object;", .lays Bundle.tN Bundle.tN "backtrace" "Ljava/lang/Object;", .lays "java/lang/IllegalStateException" Bundle.tN "backtrace" "Ljava/lang/Object;"], c ∈ wTs := by decide +kernel
theorem at_ex1 : ∀ c ∈ Bundle.chainSAtoms "java/lang/IllegalArgumentException" ["java/lang/RuntimeException", "java/lang/Exception"] ++ [Cond.instantiable "java/lang/IllegalArgumentException" 6, .castable "java/lang/IllegalArgumentException" "java/lang/IllegalArgumentException", .selects "java/lang/IllegalArgumentException" Bundle.tFill0 Bundle.tFill0, .selects "java/lang/IllegalArgumentException" Bundle.tFill Bundle.tFill, .lays "java/lang/IllegalArgumentException" Bundle.tN "cause" "Ljava/lang/Throwable;", .lays "java/lang/IllegalArgumentException" Bundle.tN "stackTrace" Bundle.steD, .lays "java/lang/IllegalArgumentException" Bundle.tN "suppressedExceptions" Bundle.listD, .lays "java/lang/IllegalArgumentException" Bundle.tN "detailMessage" "Ljava/lang/String;", .fieldLink Bundle.tN 198 Bundle.tN "backtrace" "Ljava/lang/Object;", .lays Bundle.tN Bundle.tN "backtrace" "Ljava/lang/Object;", .lays "java/lang/IllegalArgumentException" Bundle.tN "backtrace" "Ljava/lang/Object;"], c ∈ wTs := by decide +kernel
theorem at_ex2 : ∀ c ∈ Bundle.chainSAtoms "java/lang/IndexOutOfBoundsException" ["java/lang/RuntimeException", "java/lang/Exception"] ++ [Cond.instantiable "java/lang/IndexOutOfBoundsException" 6, .castable "java/lang/IndexOutOfBoundsException" "java/lang/IndexOutOfBoundsException", .selects "java/lang/IndexOutOfBoundsException" Bundle.tFill0 Bundle.tFill0, .selects "java/lang/IndexOutOfBoundsException" Bundle.tFill Bundle.tFill, .lays "java/lang/IndexOutOfBoundsException" Bundle.tN "cause" "Ljava/lang/Throwable;", .lays "java/lang/IndexOutOfBoundsException" Bundle.tN "stackTrace" Bundle.steD, .lays "java/lang/IndexOutOfBoundsException" Bundle.tN "suppressedExceptions" Bundle.listD, .lays "java/lang/IndexOutOfBoundsException" Bundle.tN "detailMessage" "Ljava/lang/String;", .fieldLink Bundle.tN 198 Bundle.tN "backtrace" "Ljava/lang/Object;", .lays Bundle.tN Bundle.tN "backtrace" "Ljava/lang/Object;", .lays "java/lang/IndexOutOfBoundsException" Bundle.tN "backtrace" "Ljava/lang/Object;"], c ∈ wTs := by decide +kernel
theorem at_ex3 : ∀ c ∈ Bundle.chainSAtoms "java/lang/ArithmeticException" ["java/lang/RuntimeException", "java/lang/Exception"] ++ [Cond.instantiable "java/lang/ArithmeticException" 6, .castable "java/lang/ArithmeticException" "java/lang/ArithmeticException", .selects "java/lang/ArithmeticException" Bundle.tFill0 Bundle.tFill0, .selects "java/lang/ArithmeticException" Bundle.tFill Bundle.tFill, .lays "java/lang/ArithmeticException" Bundle.tN "cause" "Ljava/lang/Throwable;", .lays "java/lang/ArithmeticException" Bundle.tN "stackTrace" Bundle.steD, .lays "java/lang/ArithmeticException" Bundle.tN "suppressedExceptions" Bundle.listD, .lays "java/lang/ArithmeticException" Bundle.tN "detailMessage" "Ljava/lang/String;", .fieldLink Bundle.tN 198 Bundle.tN "backtrace" "Ljava/lang/Object;", .lays Bundle.tN Bundle.tN "backtrace" "Ljava/lang/Object;", .lays "java/lang/ArithmeticException" Bundle.tN "backtrace" "Ljava/lang/Object;"], c ∈ wTs := by decide +kernel
theorem at_ex4 : ∀ c ∈ Bundle.chainSAtoms "java/lang/UnsupportedOperationException" ["java/lang/RuntimeException", "java/lang/Exception"] ++ [Cond.instantiable "java/lang/UnsupportedOperationException" 6, .castable "java/lang/UnsupportedOperationException" "java/lang/UnsupportedOperationException", .selects "java/lang/UnsupportedOperationException" Bundle.tFill0 Bundle.tFill0, .selects "java/lang/UnsupportedOperationException" Bundle.tFill Bundle.tFill, .lays "java/lang/UnsupportedOperationException" Bundle.tN "cause" "Ljava/lang/Throwable;", .lays "java/lang/UnsupportedOperationException" Bundle.tN "stackTrace" Bundle.steD, .lays "java/lang/UnsupportedOperationException" Bundle.tN "suppressedExceptions" Bundle.listD, .lays "java/lang/UnsupportedOperationException" Bundle.tN "detailMessage" "Ljava/lang/String;", .fieldLink Bundle.tN 198 Bundle.tN "backtrace" "Ljava/lang/Object;", .lays Bundle.tN Bundle.tN "backtrace" "Ljava/lang/Object;", .lays "java/lang/UnsupportedOperationException" Bundle.tN "backtrace" "Ljava/lang/Object;"], c ∈ wTs := by decide +kernel
theorem at_ex5 : ∀ c ∈ nx_chainAt "java/util/NoSuchElementException" 13 prog_37_method_4_code ["java/lang/RuntimeException", "java/lang/Exception"] ++ [Cond.instantiable "java/util/NoSuchElementException" 6, .castable "java/util/NoSuchElementException" "java/util/NoSuchElementException", .selects "java/util/NoSuchElementException" Bundle.tFill0 Bundle.tFill0, .selects "java/util/NoSuchElementException" Bundle.tFill Bundle.tFill, .lays "java/util/NoSuchElementException" Bundle.tN "cause" "Ljava/lang/Throwable;", .lays "java/util/NoSuchElementException" Bundle.tN "stackTrace" Bundle.steD, .lays "java/util/NoSuchElementException" Bundle.tN "suppressedExceptions" Bundle.listD, .lays "java/util/NoSuchElementException" Bundle.tN "detailMessage" "Ljava/lang/String;", .fieldLink Bundle.tN 198 Bundle.tN "backtrace" "Ljava/lang/Object;", .lays Bundle.tN Bundle.tN "backtrace" "Ljava/lang/Object;", .lays "java/util/NoSuchElementException" Bundle.tN "backtrace" "Ljava/lang/Object;"], c ∈ wTs := by decide +kernel
theorem at_mk {own X : String} {ic : Nat} {names : List String} (hm : Cond.methodLink own ic (Bundle.initS X) ∈ wTs) (hX : ∀ c ∈ Bundle.chainSAtoms X names ++ [Cond.instantiable X 6, .castable X X, .selects X Bundle.tFill0 Bundle.tFill0, .selects X Bundle.tFill Bundle.tFill, .lays X Bundle.tN "cause" "Ljava/lang/Throwable;", .lays X Bundle.tN "stackTrace" Bundle.steD, .lays X Bundle.tN "suppressedExceptions" Bundle.listD, .lays X Bundle.tN "detailMessage" "Ljava/lang/String;", .fieldLink Bundle.tN 198 Bundle.tN "backtrace" "Ljava/lang/Object;", .lays Bundle.tN Bundle.tN "backtrace" "Ljava/lang/Object;", .lays X Bundle.tN "backtrace" "Ljava/lang/Object;"], c ∈ wTs) : ∀ c ∈ vx_atS own ic X names, c ∈ wTs := by
  intro c hc
  obtain ⟨h1, h2⟩ := List.mem_filter.mp hc
  rcases List.mem_append.mp h1 with h1 | h1
  · rcases List.mem_append.mp h1 with h1 | h1
    · exact at_common c h1 h2
    · exact hX c (List.mem_append_left _ h1)
  · simp only [List.mem_cons, List.not_mem_nil, or_false] at h1
    rcases h1 with h1 | h1 | h1 | h1 | h1 | h1 | h1 | h1 | h1 | h1 | h1 | h1 | h1 | h1
    · rw [h1]; exact hm
    · exact hX c (List.mem_append_right _ (by simp [h1]))
    · exact hX c (List.mem_append_right _ (by simp [h1]))
    · exact hX c (List.mem_append_right _ (by simp [h1]))
    · exact hX c (List.mem_append_right _ (by simp [h1]))
    · exact hX c (List.mem_append_right _ (by simp [h1]))
    · exact hX c (List.mem_append_right _ (by simp [h1]))
    · exact hX c (List.mem_append_right _ (by simp [h1]))
    · exact hX c (List.mem_append_right _ (by simp [h1]))
    · rw [h1] at h2; exact absurd h2 (by decide +kernel)
    · rw [h1] at h2; exact absurd h2 (by decide +kernel)
    · exact hX c (List.mem_append_right _ (by simp [h1]))
    · exact hX c (List.mem_append_right _ (by simp [h1]))
    · exact hX c (List.mem_append_right _ (by simp [h1]))
theorem at_mx {own X : String} {ic ix : Nat} {rx : ByteArray} {names : List String} (hm : Cond.methodLink own ic (Bundle.initS X) ∈ wTs) (hX : ∀ c ∈ nx_chainAt X ix rx names ++ [Cond.instantiable X 6, .castable X X, .selects X Bundle.tFill0 Bundle.tFill0, .selects X Bundle.tFill Bundle.tFill, .lays X Bundle.tN "cause" "Ljava/lang/Throwable;", .lays X Bundle.tN "stackTrace" Bundle.steD, .lays X Bundle.tN "suppressedExceptions" Bundle.listD, .lays X Bundle.tN "detailMessage" "Ljava/lang/String;", .fieldLink Bundle.tN 198 Bundle.tN "backtrace" "Ljava/lang/Object;", .lays Bundle.tN Bundle.tN "backtrace" "Ljava/lang/Object;", .lays X Bundle.tN "backtrace" "Ljava/lang/Object;"], c ∈ wTs) : ∀ c ∈ nx_atX own ic X ix rx names, c ∈ wTs := by
  intro c hc
  obtain ⟨h1, h2⟩ := List.mem_filter.mp hc
  rcases List.mem_append.mp h1 with h1 | h1
  · rcases List.mem_append.mp h1 with h1 | h1
    · exact at_common c h1 h2
    · exact hX c (List.mem_append_left _ h1)
  · simp only [List.mem_cons, List.not_mem_nil, or_false] at h1
    rcases h1 with h1 | h1 | h1 | h1 | h1 | h1 | h1 | h1 | h1 | h1 | h1 | h1 | h1 | h1
    · rw [h1]; exact hm
    · exact hX c (List.mem_append_right _ (by simp [h1]))
    · exact hX c (List.mem_append_right _ (by simp [h1]))
    · exact hX c (List.mem_append_right _ (by simp [h1]))
    · exact hX c (List.mem_append_right _ (by simp [h1]))
    · exact hX c (List.mem_append_right _ (by simp [h1]))
    · exact hX c (List.mem_append_right _ (by simp [h1]))
    · exact hX c (List.mem_append_right _ (by simp [h1]))
    · exact hX c (List.mem_append_right _ (by simp [h1]))
    · rw [h1] at h2; exact absurd h2 (by decide +kernel)
    · rw [h1] at h2; exact absurd h2 (by decide +kernel)
    · exact hX c (List.mem_append_right _ (by simp [h1]))
    · exact hX c (List.mem_append_right _ (by simp [h1]))
    · exact hX c (List.mem_append_right _ (by simp [h1]))
theorem tf_X7_68_70_72 : wTF RX7 (exn 0) "there are 6 blocks" ["java/lang/RuntimeException", "java/lang/Exception"] 68 70 72 0 := ⟨⟨by decide +kernel, by decide +kernel⟩, wTs_in 380 (by decide +kernel) rfl, wTs_in 47 (by decide +kernel) rfl, at_mk (wTs_in 426 (by decide +kernel) rfl) at_ex0, rfl⟩
theorem tf_X7_68_89_72 : wTF RX7 (exn 0) "there are 20 addresses" ["java/lang/RuntimeException", "java/lang/Exception"] 68 89 72 1 := ⟨⟨by decide +kernel, by decide +kernel⟩, wTs_in 380 (by decide +kernel) rfl, wTs_in 47 (by decide +kernel) rfl, at_mk (wTs_in 426 (by decide +kernel) rfl) at_ex0, rfl⟩
theorem tf_X7_103_105_107 : wTX RX7 (exn 5) "there is no such address in the block" ["java/lang/RuntimeException", "java/lang/Exception"] 103 105 107 2 13 prog_37_method_4_code := ⟨⟨by decide +kernel, by decide +kernel⟩, wTs_in 544 (by decide +kernel) rfl, wTs_in 52 (by decide +kernel) rfl, at_mx (wTs_in 554 (by decide +kernel) rfl) at_ex5, rfl, by decide +kernel, by decide +kernel, by decide +kernel, by decide +kernel⟩
theorem tf_X7_112_114_116 : wTF RX7 (exn 1) "both blocks are the same" ["java/lang/RuntimeException", "java/lang/Exception"] 112 114 116 3 := ⟨⟨by decide +kernel, by decide +kernel⟩, wTs_in 572 (by decide +kernel) rfl, wTs_in 53 (by decide +kernel) rfl, at_mk (wTs_in 582 (by decide +kernel) rfl) at_ex1, rfl⟩
theorem tf_X7_112_117_116 : wTF RX7 (exn 1) "there is no such list" ["java/lang/RuntimeException", "java/lang/Exception"] 112 117 116 4 := ⟨⟨by decide +kernel, by decide +kernel⟩, wTs_in 572 (by decide +kernel) rfl, wTs_in 53 (by decide +kernel) rfl, at_mk (wTs_in 582 (by decide +kernel) rfl) at_ex1, rfl⟩
theorem tf_X7_112_119_116 : wTF RX7 (exn 1) "the name or the year is out of range" ["java/lang/RuntimeException", "java/lang/Exception"] 112 119 116 5 := ⟨⟨by decide +kernel, by decide +kernel⟩, wTs_in 572 (by decide +kernel) rfl, wTs_in 53 (by decide +kernel) rfl, at_mk (wTs_in 582 (by decide +kernel) rfl) at_ex1, rfl⟩
theorem tf_X7_68_127_72 : wTF RX7 (exn 0) "there are 40 records" ["java/lang/RuntimeException", "java/lang/Exception"] 68 127 72 6 := ⟨⟨by decide +kernel, by decide +kernel⟩, wTs_in 380 (by decide +kernel) rfl, wTs_in 47 (by decide +kernel) rfl, at_mk (wTs_in 426 (by decide +kernel) rfl) at_ex0, rfl⟩
theorem tf_X7_112_133_116 : wTF RX7 (exn 1) "there is no such part" ["java/lang/RuntimeException", "java/lang/Exception"] 112 133 116 7 := ⟨⟨by decide +kernel, by decide +kernel⟩, wTs_in 572 (by decide +kernel) rfl, wTs_in 53 (by decide +kernel) rfl, at_mk (wTs_in 582 (by decide +kernel) rfl) at_ex1, rfl⟩
theorem tf_X7_112_135_116 : wTF RX7 (exn 1) "the points are out of range" ["java/lang/RuntimeException", "java/lang/Exception"] 112 135 116 8 := ⟨⟨by decide +kernel, by decide +kernel⟩, wTs_in 572 (by decide +kernel) rfl, wTs_in 53 (by decide +kernel) rfl, at_mk (wTs_in 582 (by decide +kernel) rfl) at_ex1, rfl⟩
theorem tf_X7_112_141_116 : wTF RX7 (exn 1) "a bound is out of range" ["java/lang/RuntimeException", "java/lang/Exception"] 112 141 116 9 := ⟨⟨by decide +kernel, by decide +kernel⟩, wTs_in 572 (by decide +kernel) rfl, wTs_in 53 (by decide +kernel) rfl, at_mk (wTs_in 582 (by decide +kernel) rfl) at_ex1, rfl⟩
theorem tf_X7_161_163_165 : wTF RX7 (exn 4) "both records are of the check" ["java/lang/RuntimeException", "java/lang/Exception"] 161 163 165 10 := ⟨⟨by decide +kernel, by decide +kernel⟩, wTs_in 661 (by decide +kernel) rfl, wTs_in 54 (by decide +kernel) rfl, at_mk (wTs_in 671 (by decide +kernel) rfl) at_ex4, rfl⟩
theorem tf_X7_68_177_72 : wTF RX7 (exn 0) "there is no decision on these records" ["java/lang/RuntimeException", "java/lang/Exception"] 68 177 72 11 := ⟨⟨by decide +kernel, by decide +kernel⟩, wTs_in 380 (by decide +kernel) rfl, wTs_in 47 (by decide +kernel) rfl, at_mk (wTs_in 426 (by decide +kernel) rfl) at_ex0, rfl⟩
theorem tf_X7_68_189_72 : wTF RX7 (exn 0) "the record has no match" ["java/lang/RuntimeException", "java/lang/Exception"] 68 189 72 12 := ⟨⟨by decide +kernel, by decide +kernel⟩, wTs_in 380 (by decide +kernel) rfl, wTs_in 47 (by decide +kernel) rfl, at_mk (wTs_in 426 (by decide +kernel) rfl) at_ex0, rfl⟩
theorem tf_X7_201_203_205 : wTF RX7 (exn 3) "there are no matches" ["java/lang/RuntimeException", "java/lang/Exception"] 201 203 205 13 := ⟨⟨by decide +kernel, by decide +kernel⟩, wTs_in 755 (by decide +kernel) rfl, wTs_in 55 (by decide +kernel) rfl, at_mk (wTs_in 757 (by decide +kernel) rfl) at_ex3, rfl⟩
theorem tf_X7_201_212_205 : wTF RX7 (exn 3) "there are no census records" ["java/lang/RuntimeException", "java/lang/Exception"] 201 212 205 14 := ⟨⟨by decide +kernel, by decide +kernel⟩, wTs_in 755 (by decide +kernel) rfl, wTs_in 55 (by decide +kernel) rfl, at_mk (wTs_in 757 (by decide +kernel) rfl) at_ex3, rfl⟩
theorem tf_X7_68_217_72 : wTF RX7 (exn 0) "there are less than 2 blocks" ["java/lang/RuntimeException", "java/lang/Exception"] 68 217 72 15 := ⟨⟨by decide +kernel, by decide +kernel⟩, wTs_in 380 (by decide +kernel) rfl, wTs_in 47 (by decide +kernel) rfl, at_mk (wTs_in 426 (by decide +kernel) rfl) at_ex0, rfl⟩
theorem tf_X7_68_219_72 : wTF RX7 (exn 0) "8 tables were told" ["java/lang/RuntimeException", "java/lang/Exception"] 68 219 72 16 := ⟨⟨by decide +kernel, by decide +kernel⟩, wTs_in 380 (by decide +kernel) rfl, wTs_in 47 (by decide +kernel) rfl, at_mk (wTs_in 426 (by decide +kernel) rfl) at_ex0, rfl⟩
theorem tf_X7_161_227_165 : wTF RX7 (exn 4) "the table cannot be told" ["java/lang/RuntimeException", "java/lang/Exception"] 161 227 165 17 := ⟨⟨by decide +kernel, by decide +kernel⟩, wTs_in 661 (by decide +kernel) rfl, wTs_in 54 (by decide +kernel) rfl, at_mk (wTs_in 671 (by decide +kernel) rfl) at_ex4, rfl⟩
theorem tf_X7_161_250_165 : wTF RX7 (exn 4) "the cell is hidden" ["java/lang/RuntimeException", "java/lang/Exception"] 161 250 165 18 := ⟨⟨by decide +kernel, by decide +kernel⟩, wTs_in 661 (by decide +kernel) rfl, wTs_in 54 (by decide +kernel) rfl, at_mk (wTs_in 671 (by decide +kernel) rfl) at_ex4, rfl⟩
theorem tf_X7_161_271_165 : wTF RX7 (exn 4) "the count is neither 1 nor 2" ["java/lang/RuntimeException", "java/lang/Exception"] 161 271 165 19 := ⟨⟨by decide +kernel, by decide +kernel⟩, wTs_in 661 (by decide +kernel) rfl, wTs_in 54 (by decide +kernel) rfl, at_mk (wTs_in 671 (by decide +kernel) rfl) at_ex4, rfl⟩
theorem tf_X7_291_293_295 : wTF RX7 (exn 2) "there is no such index" ["java/lang/RuntimeException", "java/lang/Exception"] 291 293 295 20 := ⟨⟨by decide +kernel, by decide +kernel⟩, wTs_in 514 (by decide +kernel) rfl, wTs_in 49 (by decide +kernel) rfl, at_mk (wTs_in 524 (by decide +kernel) rfl) at_ex2, rfl⟩
theorem tf_X7_291_313_295 : wTF RX7 (exn 2) "there is no such block" ["java/lang/RuntimeException", "java/lang/Exception"] 291 313 295 21 := ⟨⟨by decide +kernel, by decide +kernel⟩, wTs_in 514 (by decide +kernel) rfl, wTs_in 49 (by decide +kernel) rfl, at_mk (wTs_in 524 (by decide +kernel) rfl) at_ex2, rfl⟩
theorem tf_X7_291_315_295 : wTF RX7 (exn 2) "there is no such address" ["java/lang/RuntimeException", "java/lang/Exception"] 291 315 295 22 := ⟨⟨by decide +kernel, by decide +kernel⟩, wTs_in 514 (by decide +kernel) rfl, wTs_in 49 (by decide +kernel) rfl, at_mk (wTs_in 524 (by decide +kernel) rfl) at_ex2, rfl⟩
theorem tf_X7_112_317_116 : wTF RX7 (exn 1) "the group is out of range" ["java/lang/RuntimeException", "java/lang/Exception"] 112 317 116 23 := ⟨⟨by decide +kernel, by decide +kernel⟩, wTs_in 572 (by decide +kernel) rfl, wTs_in 53 (by decide +kernel) rfl, at_mk (wTs_in 582 (by decide +kernel) rfl) at_ex1, rfl⟩
theorem tf_X7_103_319_107 : wTX RX7 (exn 5) "there is no such record" ["java/lang/RuntimeException", "java/lang/Exception"] 103 319 107 24 13 prog_37_method_4_code := ⟨⟨by decide +kernel, by decide +kernel⟩, wTs_in 544 (by decide +kernel) rfl, wTs_in 52 (by decide +kernel) rfl, at_mx (wTs_in 554 (by decide +kernel) rfl) at_ex5, rfl, by decide +kernel, by decide +kernel, by decide +kernel, by decide +kernel⟩
theorem tf_X7_112_321_116 : wTF RX7 (exn 1) "both records are the same" ["java/lang/RuntimeException", "java/lang/Exception"] 112 321 116 25 := ⟨⟨by decide +kernel, by decide +kernel⟩, wTs_in 572 (by decide +kernel) rfl, wTs_in 53 (by decide +kernel) rfl, at_mk (wTs_in 582 (by decide +kernel) rfl) at_ex1, rfl⟩
theorem tf_X7_103_323_107 : wTX RX7 (exn 5) "there is no such table" ["java/lang/RuntimeException", "java/lang/Exception"] 103 323 107 26 13 prog_37_method_4_code := ⟨⟨by decide +kernel, by decide +kernel⟩, wTs_in 544 (by decide +kernel) rfl, wTs_in 52 (by decide +kernel) rfl, at_mx (wTs_in 554 (by decide +kernel) rfl) at_ex5, rfl, by decide +kernel, by decide +kernel, by decide +kernel, by decide +kernel⟩
theorem tf_X7_291_326_295 : wTF RX7 (exn 2) "the table has no such block" ["java/lang/RuntimeException", "java/lang/Exception"] 291 326 295 27 := ⟨⟨by decide +kernel, by decide +kernel⟩, wTs_in 514 (by decide +kernel) rfl, wTs_in 49 (by decide +kernel) rfl, at_mk (wTs_in 524 (by decide +kernel) rfl) at_ex2, rfl⟩
end
