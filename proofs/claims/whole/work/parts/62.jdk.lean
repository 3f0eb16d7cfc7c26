/-! the JDK's methods of texts, of bytes alone -/
theorem app_lt {ws l : va_W} {k : Nat} {x : Nat × va_E} (h : ws[k]? = some x) : (ws ++ l)[k]? = some x := by
  rw [List.getElem?_append_left (List.getElem?_eq_some_iff.mp h).1]
  exact h
def rpl (V : Option Value) (ws : va_W) : Option Value → va_W → Prop := fun v w => v = V ∧ ws = w
theorem cl_J0 : wCl 0 RJ0 TJ0 4 tyJ0 := ⟨rfl, by decide +kernel, tyJ0_ok, nmJ0⟩
theorem cl_J4 : wCl 1 RJ4 TJ4 4 tyJ4 := ⟨rfl, by decide +kernel, tyJ4_ok, nmJ4⟩
def gwc (q P : Nat) : Nat := if q ≤ P then 0 else 1
def gws (q P : Nat) : Nat := if q ≤ P then 0 else 2 * P + 2
def gwP (q P : Nat) : Nat := if q ≤ P then P else 2 * P + 2
theorem gwP_t {q P : Nat} (h : q ≤ P) : gwP q P = P := if_pos h
theorem gwP_f {q P : Nat} (h : ¬ q ≤ P) : gwP q P = 2 * P + 2 := if_neg h
def sbT (f : Nat → Int32) (P : Nat) (L : List Int32) : Prop := sb_Fit f ∧ L.length ≤ P ∧ ∀ j, j < L.length → f j = L.getD j 0
def sbw (B : wB) (w0 : va_W) (sb a P : Nat) (f : Nat → Int32) (L : List Int32) : va_W := w0 ++ [(sb, .inr (1, [.ref a, .int 0, .int 0, .int (nI L.length)])), (a, .inl (wdA B 4, P, .inl f))]
def sbP (B : wB) (w0 : va_W) (sb P : Nat) (L : List Int32) : Option Value → va_W → Prop := fun v w => v = some (.ref sb) ∧ ∃ a f, w = sbw B w0 sb a P f L ∧ sbT f P L
theorem byte7 : ∀ x, x < 128 → (nI x).toInt8.toInt32 = nI x := by decide +kernel
theorem nar7 : ∀ x, x < 128 → vp_nar .byte (nI x) = nI x := fun x h => (vp_nar_byte (nI x)).trans (byte7 x h)
theorem fit7 {x : Nat} (h : x < 128) : fits .byte (.int (nI x)) = true := by
  have := sb_fitB x
  unfold sb_b at this
  rwa [byte7 x h] at this
/-- one more letter -/
theorem sbT_put {f : Nat → Int32} {P : Nat} {L : List Int32} {x : Nat} (h : sbT f P L) (hx : x < 128) (hP : L.length + 1 ≤ P) : sbT (upd f L.length (nI x)) P (L ++ [nI x]) := by
  obtain ⟨h1, h2, h3⟩ := h
  refine ⟨sb_fitU h1 (fit7 hx), by rw [List.length_append]; exact hP, fun j hj => ?_⟩
  rw [List.length_append, List.length_singleton] at hj
  by_cases e : j = L.length
  · subst e
    rw [pk_us, List.getD_eq_getElem?_getD, List.getElem?_append_right (Nat.le_refl _), Nat.sub_self]
    rfl
  · rw [pk_un e, h3 j (by omega), List.getD_eq_getElem?_getD, List.getD_eq_getElem?_getD, List.getElem?_append_left (by omega)]
theorem sbT_grow {f g : Nat → Int32} {P Q : Nat} {L : List Int32} (h : sbT f P L) (hg : sb_Fit g) (hPQ : P ≤ Q) (e : ∀ j, j < P → g j = f j) : sbT g Q L :=
  ⟨hg, Nat.le_trans h.2.1 hPQ, fun j hj => (e j (Nat.lt_of_lt_of_le hj h.2.1)).trans (h.2.2 j hj)⟩
theorem sbT_two {f : Nat → Int32} {P : Nat} {L : List Int32} {x y : Nat} (h : sbT f P L) (hx : x < 128) (hy : y < 128) (hP : L.length + 2 ≤ P) : sbT (upd (upd f (L.length + 1) (nI y)) L.length (nI x)) P (L ++ [nI x, nI y]) := by
  have h1 := sbT_put (sbT_put h hx (by omega)) hy (by rw [List.length_append, List.length_singleton]; omega)
  rw [List.length_append, List.length_singleton, List.append_assoc] at h1
  have e : upd (upd f L.length (nI x)) (L.length + 1) (nI y) = upd (upd f (L.length + 1) (nI y)) L.length (nI x) := by
    funext j
    unfold upd
    by_cases a : j = L.length
    · subst a
      rw [if_neg (by omega), if_pos rfl, if_pos rfl]
    · by_cases b : j = L.length + 1
      · rw [if_pos b, if_neg a, if_pos b]
      · rw [if_neg b, if_neg a, if_neg a, if_neg b]
  rw [← e]
  exact h1
def l_dec (v : Nat) : List Int32 := (q_dig v).map nI
theorem l_dec_1 {v : Nat} (h : v < 10) : l_dec v = [nI (48 + v)] := by unfold l_dec q_dig; rw [if_pos h]; rfl
theorem l_dec_2 {v : Nat} (h : ¬ v < 10) : l_dec v = [nI (48 + v / 10), nI (48 + v % 10)] := by unfold l_dec q_dig; rw [if_neg h]; rfl
def dgn (v : Nat) : Nat := if v < 10 then 1 else 2
theorem l_dec_len (v : Nat) : (l_dec v).length = dgn v := by
  unfold dgn
  by_cases h : v < 10
  · rw [l_dec_1 h, if_pos h]; rfl
  · rw [l_dec_2 h, if_neg h]; rfl
theorem min_q {P q : Nat} (h1 : q ≤ P) (h2 : P < 2 ^ 31) : (if nI q < nI P then nI q else nI P) = nI q := by
  by_cases e : q = P
  · rw [e, if_neg (nI_nlt (Nat.le_refl _) h2)]
  · exact if_pos (nI_lt (by omega) h2)
theorem asc7 : ∀ x, x < 128 → nI x &&& 255 = nI x ∧ ((nI x).toUInt32 % 65536).toInt32 = nI x := by decide +kernel
theorem neg_lt {a b : Nat} (ha : a < 2 ^ 30) (hb : b < 2 ^ 30) : (-nI a) < (-nI b) ↔ b < a := sb_nlt (by omega) (by omega)
theorem neg_le {a b : Nat} (ha : a < 2 ^ 30) (hb : b < 2 ^ 30) : (-nI a) ≤ (-nI b) ↔ b ≤ a := sb_nle (by omega) (by omega)
theorem neg_neg7 {a : Nat} : -(-nI a) = nI a := by apply Int32.toBitVec_inj.mp; simp
theorem pos_ge {a : Nat} (h : a < 2 ^ 31) : (0 : Int32) ≤ nI a := Int32.not_lt.mp (nI_pos h)
theorem newCap_r {P q : Nat} (h1 : P < q) (h2 : q ≤ P + (P + 2)) (h3 : P ≤ 2000) : nI P + (if nI q - nI P < nI P + 2 then nI P + 2 else nI q - nI P) = nI (2 * P + 2) := by
  have e1 : nI q - nI P = nI (q - P) := pk_sub (by omega)
  have e2 : nI P + 2 = nI (P + 2) := nI_add P 2
  rw [e1, e2]
  by_cases e : q - P < P + 2
  · rw [if_pos (nI_lt e (by omega)), nI_add]
    congr 1
    omega
  · rw [if_neg (nI_nlt (by omega) (by omega)), nI_add]
    congr 1
    omega
def dgf (f : Nat → Int32) (q x : Nat) : Nat → Int32 := if x < 10 then upd f (q - 1) (nI (48 + x)) else upd (upd f (q - 1) (nI (48 + x % 10))) (q - 2) (nI (48 + x / 10))
theorem sbT_dec {f : Nat → Int32} {P x : Nat} {L : List Int32} (h : sbT f P L) (hx : x < 100) (hP : L.length + dgn x ≤ P) : sbT (dgf f (L.length + dgn x) x) P (L ++ l_dec x) := by
  unfold dgf
  by_cases e : x < 10
  · have hd : dgn x = 1 := if_pos e
    rw [hd] at hP ⊢
    rw [if_pos e, l_dec_1 e, Nat.add_sub_cancel]
    exact sbT_put h (by omega) hP
  · have hd : dgn x = 2 := if_neg e
    rw [hd] at hP ⊢
    rw [if_neg e, l_dec_2 e, Nat.add_sub_cancel, show L.length + 2 - 1 = L.length + 1 by omega]
    exact sbT_two h (by omega) (by omega) hP
theorem sl_isL : Cond.selects RJ4 yJ5_isLatin1_aae02 yJ5_isLatin1_aae02 ∈ wTs := wTs_in 882 (by decide +kernel) rfl
theorem sl_getV : Cond.selects RJ4 yJ5_getValue_6d5f1 yJ5_getValue_6d5f1 ∈ wTs := wTs_in 981 (by decide +kernel) rfl
theorem sl_len : Cond.selects RJ4 yJ5_length_8abf5 yJ4_length_8abf5 ∈ wTs := wTs_in 986 (by decide +kernel) rfl
theorem pm_newCap : Cond.privateMethod yJ5_newCapacity_0f7a4 ∈ wTs := wTs_in 853 (by decide +kernel) rfl
theorem pm_ensure : Cond.privateMethod yJ5_ensureCapacityInternal_d00df ∈ wTs := wTs_in 849 (by decide +kernel) rfl
theorem sm_appC : Cond.sameMethod yJ5_append_3fe6f.cls yJ5_append_3fe6f.cls yJ5_append_3fe6f.name yJ5_append_3fe6f.desc ∈ wTs := wTs_in 1560 (by decide +kernel) rfl
theorem sm_appI : Cond.sameMethod yJ5_append_c97b9.cls yJ5_append_c97b9.cls yJ5_append_c97b9.name yJ5_append_c97b9.desc ∈ wTs := wTs_in 1564 (by decide +kernel) rfl
theorem sm_len : Cond.sameMethod yJ5_length_8abf5.cls yJ5_length_8abf5.cls yJ5_length_8abf5.name yJ5_length_8abf5.desc ∈ wTs := wTs_in 985 (by decide +kernel) rfl
theorem su_SB : Cond.superclass RJ4 RJ5 ∈ wTs := wTs_in 839 (by decide +kernel) rfl
theorem ac_w : (Cond.native arraycopyName ∈ wTs ∧ Cond.static arraycopyName ∈ wTs) ∧ Cond.initialized "java/lang/System" ∈ wTs := ⟨⟨wTs_in 878 (by decide +kernel) rfl, wTs_in 877 (by decide +kernel) rfl⟩, wTs_in 63 (by decide +kernel) rfl⟩
theorem ac_J7 : Cond.methodLink RJ7 150 arraycopyName ∈ wTs := wTs_in 876 (by decide +kernel) rfl
theorem oi_w : Cond.instanceMethod objectInit ∈ wTs ∧ Cond.code objectInit ⟨#[0xb1]⟩ 1 none ∈ wTs := ⟨wTs_in 74 (by decide +kernel) rfl, wTs_in 75 (by decide +kernel) rfl⟩
theorem cw_w : Cond.sameMethod "[B" "java/lang/Object" "clone" "()Ljava/lang/Object;" ∈ wTs ∧ Cond.native ⟨"java/lang/Object", "clone", "()Ljava/lang/Object;"⟩ ∈ wTs ∧ Cond.instanceMethod ⟨"java/lang/Object", "clone", "()Ljava/lang/Object;"⟩ ∈ wTs ∧ Cond.selects "[B" ⟨"[B", "clone", "()Ljava/lang/Object;"⟩ ⟨"java/lang/Object", "clone", "()Ljava/lang/Object;"⟩ ∈ wTs ∧ Cond.castable "[B" "java/lang/Cloneable" ∈ wTs := ⟨wTs_in 869 (by decide +kernel) rfl, wTs_in 870 (by decide +kernel) rfl, wTs_in 871 (by decide +kernel) rfl, wTs_in 872 (by decide +kernel) rfl, wTs_in 873 (by decide +kernel) rfl⟩
theorem cw_l : Cond.methodLink RJ7 310 ⟨"[B", "clone", "()Ljava/lang/Object;"⟩ ∈ wTs := wTs_in 868 (by decide +kernel) rfl
theorem nw_str : Cond.classLink RJ4 18 RJ0 ∈ wTs ∧ Cond.instantiable RJ0 4 ∈ wTs ∧ Cond.initialized RJ0 ∈ wTs := ⟨wTs_in 970 (by decide +kernel) rfl, wTs_in 501 (by decide +kernel) rfl, wTs_in 51 (by decide +kernel) rfl⟩
theorem mf_J0_coder_7d493 : wMFv yJ0_coder_7d493 cJ0_coder_7d493 1 (some .byte) 0 := ⟨⟨⟨by decide +kernel, by decide +kernel⟩, by decide +kernel, wTs_in 1027 (by decide +kernel) rfl, wTs_in 51 (by decide +kernel) rfl⟩, wTs_in 1025 (by decide +kernel) rfl, wTs_in 1026 (by decide +kernel) rfl⟩
theorem cw_c : Cond.classLink RJ7 311 "[B" ∈ wTs := wTs_in 874 (by decide +kernel) rfl
theorem fk_J5_18 : Cond.fieldLink RJ5 18 "java/lang/String" "COMPACT_STRINGS" "Z" ∈ wTs := wTs_in 818 (by decide +kernel) rfl
theorem fk_J5_22 : Cond.fieldLink RJ5 22 "java/lang/AbstractStringBuilder" "coder" "B" ∈ wTs := wTs_in 828 (by decide +kernel) rfl
theorem fk_J5_15 : Cond.fieldLink RJ5 15 "java/lang/AbstractStringBuilder" "value" "[B" ∈ wTs := wTs_in 827 (by decide +kernel) rfl
theorem fk_J5_79 : Cond.fieldLink RJ5 79 "java/lang/AbstractStringBuilder" "count" "I" ∈ wTs := wTs_in 830 (by decide +kernel) rfl
theorem fk_J6_83 : Cond.fieldLink RJ6 83 "java/lang/Integer" "DigitOnes" "[B" ∈ wTs := wTs_in 945 (by decide +kernel) rfl
theorem fk_J6_87 : Cond.fieldLink RJ6 87 "java/lang/Integer" "DigitTens" "[B" ∈ wTs := wTs_in 947 (by decide +kernel) rfl
theorem fk_J0_15 : Cond.fieldLink RJ0 15 "java/lang/String" "coder" "B" ∈ wTs := wTs_in 1060 (by decide +kernel) rfl
theorem fk_J0_9 : Cond.fieldLink RJ0 9 "java/lang/String" "value" "[B" ∈ wTs := wTs_in 1059 (by decide +kernel) rfl
theorem fk_J0_38 : Cond.fieldLink RJ0 38 "java/lang/String" "COMPACT_STRINGS" "Z" ∈ wTs := wTs_in 1028 (by decide +kernel) rfl
theorem fk_J0_1053 : Cond.fieldLink RJ0 1053 "jdk/internal/util/Preconditions" "SIOOBE_FORMATTER" "Ljava/util/function/BiFunction;" ∈ wTs := wTs_in 906 (by decide +kernel) rfl
def dlJ5_isLatin1_aae02 : List (Nat × Instr × Nat) := [(0, .getstatic 18, 3), (3, .ifCond .eq 14, 3), (6, .aload_n 0, 1), (7, .getfield 22, 3), (10, .ifCond .ne 7, 3), (13, .iconst 1, 1), (14, .goto 4, 3), (18, .ireturn, 1)]
theorem dtJ5_isLatin1_aae02 : ∀ q ∈ dlJ5_isLatin1_aae02, decode cJ5_isLatin1_aae02 q.1 = .ok q.2 := by decide +kernel
def dlJ8_newLength_cabcc : List (Nat × Instr × Nat) := [(0, .iload_n 0, 1), (1, .iload_n 1, 1), (2, .iload_n 2, 1), (3, .invokestatic 194, 3), (6, .iadd, 1), (7, .istore_n 3, 1), (8, .iconst 0, 1), (9, .iload_n 3, 1), (10, .if_icmp .ge 11, 3), (13, .iload_n 3, 1), (14, .ldc 200, 2), (16, .if_icmp .gt 5, 3), (19, .iload_n 3, 1), (20, .ireturn, 1)]
theorem dtJ8_newLength_cabcc : ∀ q ∈ dlJ8_newLength_cabcc, decode cJ8_newLength_cabcc q.1 = .ok q.2 := by decide +kernel
def dlJ5_newCapacity_0f7a4 : List (Nat × Instr × Nat) := [(0, .aload_n 0, 1), (1, .getfield 15, 3), (4, .arraylength, 1), (5, .istore_n 2, 1), (6, .iload_n 1, 1), (7, .aload_n 0, 1), (8, .getfield 22, 3), (11, .ishl, 1), (12, .istore_n 3, 1), (13, .iload_n 3, 1), (14, .iload_n 2, 1), (15, .isub, 1), (16, .istore 4, 2), (18, .iload_n 2, 1), (19, .iload 4, 2), (21, .iload_n 2, 1), (22, .iconst 2, 1), (23, .aload_n 0, 1), (24, .getfield 22, 3), (27, .ishl, 1), (28, .iadd, 1), (29, .invokestatic 114, 3), (32, .istore 5, 2), (34, .iload 5, 2), (36, .ldc 39, 2), (38, .if_icmp .ne 13, 3), (51, .iload 5, 2), (53, .aload_n 0, 1), (54, .getfield 22, 3), (57, .ishr, 1), (58, .ireturn, 1)]
theorem dtJ5_newCapacity_0f7a4 : ∀ q ∈ dlJ5_newCapacity_0f7a4, decode cJ5_newCapacity_0f7a4 q.1 = .ok q.2 := by decide +kernel
def dlJ7_copyOf_9075b : List (Nat × Instr × Nat) := [(0, .iload_n 1, 1), (1, .aload_n 0, 1), (2, .arraylength, 1), (3, .if_icmp .ne 11, 3), (14, .iload_n 1, 1), (15, .newarray .byte, 2), (17, .astore_n 2, 1), (18, .aload_n 0, 1), (19, .iconst 0, 1), (20, .aload_n 2, 1), (21, .iconst 0, 1), (22, .aload_n 0, 1), (23, .arraylength, 1), (24, .iload_n 1, 1), (25, .invokestatic 304, 3), (28, .invokestatic 150, 3), (31, .aload_n 2, 1), (32, .areturn, 1)]
theorem dtJ7_copyOf_9075b : ∀ q ∈ dlJ7_copyOf_9075b, decode cJ7_copyOf_9075b q.1 = .ok q.2 := by decide +kernel
def dlJ5_ensureCapacityInternal_d00df : List (Nat × Instr × Nat) := [(0, .aload_n 0, 1), (1, .getfield 15, 3), (4, .arraylength, 1), (5, .aload_n 0, 1), (6, .getfield 22, 3), (9, .ishr, 1), (10, .istore_n 2, 1), (11, .iload_n 1, 1), (12, .iload_n 2, 1), (13, .isub, 1), (14, .ifCond .le 24, 3), (38, .return_, 1), (17, .aload_n 0, 1), (18, .aload_n 0, 1), (19, .getfield 15, 3), (22, .aload_n 0, 1), (23, .iload_n 1, 1), (24, .invokevirtual 104, 3), (27, .aload_n 0, 1), (28, .getfield 22, 3), (31, .ishl, 1), (32, .invokestatic 108, 3), (35, .putfield 15, 3)]
theorem dtJ5_ensureCapacityInternal_d00df : ∀ q ∈ dlJ5_ensureCapacityInternal_d00df, decode cJ5_ensureCapacityInternal_d00df q.1 = .ok q.2 := by decide +kernel
def dlJ1_canEncode_fc78d : List (Nat × Instr × Nat) := [(0, .iload_n 0, 1), (1, .sipush 255, 3), (4, .if_icmp .gt 7, 3), (7, .iconst 1, 1), (8, .goto 4, 3), (12, .ireturn, 1)]
theorem dtJ1_canEncode_fc78d : ∀ q ∈ dlJ1_canEncode_fc78d, decode cJ1_canEncode_fc78d q.1 = .ok q.2 := by decide +kernel
def dlJ5_append_3fe6f : List (Nat × Instr × Nat) := [(0, .aload_n 0, 1), (1, .aload_n 0, 1), (2, .getfield 79, 3), (5, .iconst 1, 1), (6, .iadd, 1), (7, .invokevirtual 100, 3), (10, .aload_n 0, 1), (11, .invokevirtual 83, 3), (14, .ifCond .eq 31, 3), (17, .iload_n 1, 1), (18, .invokestatic 191, 3), (21, .ifCond .eq 24, 3), (24, .aload_n 0, 1), (25, .getfield 15, 3), (28, .aload_n 0, 1), (29, .dup, 1), (30, .getfield 79, 3), (33, .dup_x1, 1), (34, .iconst 1, 1), (35, .iadd, 1), (36, .putfield 79, 3), (39, .iload_n 1, 1), (40, .i2b, 1), (41, .bastore, 1), (42, .goto 33, 3), (75, .aload_n 0, 1), (76, .areturn, 1)]
theorem dtJ5_append_3fe6f : ∀ q ∈ dlJ5_append_3fe6f, decode cJ5_append_3fe6f q.1 = .ok q.2 := by decide +kernel
def dlJ4_append_cf468 : List (Nat × Instr × Nat) := [(0, .aload_n 0, 1), (1, .iload_n 1, 1), (2, .invokespecial 50, 3), (5, .pop, 1), (6, .aload_n 0, 1), (7, .areturn, 1)]
theorem dtJ4_append_cf468 : ∀ q ∈ dlJ4_append_cf468, decode cJ4_append_cf468 q.1 = .ok q.2 := by decide +kernel
def dlJ6_stringSize_0f7a4 : List (Nat × Instr × Nat) := [(0, .iconst 1, 1), (1, .istore_n 1, 1), (2, .iload_n 0, 1), (3, .ifCond .lt 8, 3), (6, .iconst 0, 1), (7, .istore_n 1, 1), (8, .iload_n 0, 1), (9, .ineg, 1), (10, .istore_n 0, 1), (11, .bipush (-10), 2), (13, .istore_n 2, 1), (14, .iconst 1, 1), (15, .istore_n 3, 1), (16, .iload_n 3, 1), (17, .bipush 10, 2), (19, .if_icmp .ge 23, 3), (22, .iload_n 0, 1), (23, .iload_n 2, 1), (24, .if_icmp .le 7, 3), (27, .iload_n 3, 1), (28, .iload_n 1, 1), (29, .iadd, 1), (30, .ireturn, 1), (31, .bipush 10, 2), (33, .iload_n 2, 1), (34, .imul, 1), (35, .istore_n 2, 1), (36, .iinc 3 1, 3), (39, .goto (-23), 3)]
theorem dtJ6_stringSize_0f7a4 : ∀ q ∈ dlJ6_stringSize_0f7a4, decode cJ6_stringSize_0f7a4 q.1 = .ok q.2 := by decide +kernel
def dlJ6_getChars_ba4f3 : List (Nat × Instr × Nat) := [(0, .iload_n 1, 1), (1, .istore 5, 2), (3, .iload_n 0, 1), (4, .ifCond .ge 7, 3), (11, .iconst 0, 1), (12, .istore 6, 2), (14, .iload 6, 2), (16, .ifCond .ne 6, 3), (19, .iload_n 0, 1), (20, .ineg, 1), (21, .istore_n 0, 1), (22, .iload_n 0, 1), (23, .bipush (-100), 2), (25, .if_icmp .gt 47, 3), (72, .aload_n 2, 1), (73, .iinc 5 (-1), 3), (76, .iload 5, 2), (78, .getstatic 83, 3), (81, .iload_n 0, 1), (82, .ineg, 1), (83, .baload, 1), (84, .bastore, 1), (85, .iload_n 0, 1), (86, .bipush (-9), 2), (88, .if_icmp .ge 16, 3), (104, .iload 6, 2), (106, .ifCond .eq 12, 3), (118, .iload 5, 2), (120, .ireturn, 1), (91, .aload_n 2, 1), (92, .iinc 5 (-1), 3), (95, .iload 5, 2), (97, .getstatic 87, 3), (100, .iload_n 0, 1), (101, .ineg, 1), (102, .baload, 1), (103, .bastore, 1)]
theorem dtJ6_getChars_ba4f3 : ∀ q ∈ dlJ6_getChars_ba4f3, decode cJ6_getChars_ba4f3 q.1 = .ok q.2 := by decide +kernel
def dlJ5_append_c97b9 : List (Nat × Instr × Nat) := [(0, .aload_n 0, 1), (1, .getfield 79, 3), (4, .istore_n 2, 1), (5, .iload_n 2, 1), (6, .iload_n 1, 1), (7, .invokestatic 245, 3), (10, .iadd, 1), (11, .istore_n 3, 1), (12, .aload_n 0, 1), (13, .iload_n 3, 1), (14, .invokevirtual 100, 3), (17, .aload_n 0, 1), (18, .invokevirtual 83, 3), (21, .ifCond .eq 16, 3), (24, .iload_n 1, 1), (25, .iload_n 3, 1), (26, .aload_n 0, 1), (27, .getfield 15, 3), (30, .invokestatic 248, 3), (33, .pop, 1), (34, .goto 14, 3), (48, .aload_n 0, 1), (49, .iload_n 3, 1), (50, .putfield 79, 3), (53, .aload_n 0, 1), (54, .areturn, 1)]
theorem dtJ5_append_c97b9 : ∀ q ∈ dlJ5_append_c97b9, decode cJ5_append_c97b9 q.1 = .ok q.2 := by decide +kernel
def dlJ4_append_bf812 : List (Nat × Instr × Nat) := [(0, .aload_n 0, 1), (1, .iload_n 1, 1), (2, .invokespecial 53, 3), (5, .pop, 1), (6, .aload_n 0, 1), (7, .areturn, 1)]
theorem dtJ4_append_bf812 : ∀ q ∈ dlJ4_append_bf812, decode cJ4_append_bf812 q.1 = .ok q.2 := by decide +kernel
def dlJ5_init_d00df : List (Nat × Instr × Nat) := [(0, .aload_n 0, 1), (1, .invokespecial 3, 3), (4, .getstatic 18, 3), (7, .ifCond .eq 18, 3), (10, .aload_n 0, 1), (11, .iload_n 1, 1), (12, .newarray .byte, 2), (14, .putfield 15, 3), (17, .aload_n 0, 1), (18, .iconst 0, 1), (19, .putfield 22, 3), (22, .goto 16, 3), (38, .return_, 1)]
theorem dtJ5_init_d00df : ∀ q ∈ dlJ5_init_d00df, decode cJ5_init_d00df q.1 = .ok q.2 := by decide +kernel
def dlJ4_init_da8c8 : List (Nat × Instr × Nat) := [(0, .aload_n 0, 1), (1, .bipush 16, 2), (3, .invokespecial 1, 3), (6, .return_, 1)]
theorem dtJ4_init_da8c8 : ∀ q ∈ dlJ4_init_da8c8, decode cJ4_init_da8c8 q.1 = .ok q.2 := by decide +kernel
def dlJ5_getValue_6d5f1 : List (Nat × Instr × Nat) := [(0, .aload_n 0, 1), (1, .getfield 15, 3), (4, .areturn, 1)]
theorem dtJ5_getValue_6d5f1 : ∀ q ∈ dlJ5_getValue_6d5f1, decode cJ5_getValue_6d5f1 q.1 = .ok q.2 := by decide +kernel
def dlJ5_length_8abf5 : List (Nat × Instr × Nat) := [(0, .aload_n 0, 1), (1, .getfield 79, 3), (4, .ireturn, 1)]
theorem dtJ5_length_8abf5 : ∀ q ∈ dlJ5_length_8abf5, decode cJ5_length_8abf5 q.1 = .ok q.2 := by decide +kernel
def dlJ4_length_8abf5 : List (Nat × Instr × Nat) := [(0, .aload_n 0, 1), (1, .invokespecial 343, 3), (4, .ireturn, 1)]
theorem dtJ4_length_8abf5 : ∀ q ∈ dlJ4_length_8abf5, decode cJ4_length_8abf5 q.1 = .ok q.2 := by decide +kernel
def dlJ7_checkLength_df160 : List (Nat × Instr × Nat) := [(0, .iload_n 1, 1), (1, .iload_n 0, 1), (2, .if_icmp .ge 35, 3), (37, .return_, 1)]
theorem dtJ7_checkLength_df160 : ∀ q ∈ dlJ7_checkLength_df160, decode cJ7_checkLength_df160 q.1 = .ok q.2 := by decide +kernel
def dlJ7_copyOfRangeByte_39247 : List (Nat × Instr × Nat) := [(0, .iload_n 1, 1), (1, .iload_n 2, 1), (2, .invokestatic 343, 3), (5, .iload_n 2, 1), (6, .iload_n 1, 1), (7, .isub, 1), (8, .istore_n 3, 1), (9, .iload_n 3, 1), (10, .newarray .byte, 2), (12, .astore 4, 2), (14, .aload_n 0, 1), (15, .iload_n 1, 1), (16, .aload 4, 2), (18, .iconst 0, 1), (19, .aload_n 0, 1), (20, .arraylength, 1), (21, .iload_n 1, 1), (22, .isub, 1), (23, .iload_n 3, 1), (24, .invokestatic 304, 3), (27, .invokestatic 150, 3), (30, .aload 4, 2), (32, .areturn, 1)]
theorem dtJ7_copyOfRangeByte_39247 : ∀ q ∈ dlJ7_copyOfRangeByte_39247, decode cJ7_copyOfRangeByte_39247 q.1 = .ok q.2 := by decide +kernel
def dlJ7_copyOfRange_39247 : List (Nat × Instr × Nat) := [(0, .iload_n 1, 1), (1, .ifCond .ne 9, 3), (4, .iload_n 2, 1), (5, .aload_n 0, 1), (6, .arraylength, 1), (7, .if_icmp .eq 10, 3), (17, .aload_n 0, 1), (18, .invokevirtual 310, 3), (21, .checkcast 311, 3), (24, .areturn, 1), (10, .aload_n 0, 1), (11, .iload_n 1, 1), (12, .iload_n 2, 1), (13, .invokestatic 339, 3), (16, .areturn, 1)]
theorem dtJ7_copyOfRange_39247 : ∀ q ∈ dlJ7_copyOfRange_39247, decode cJ7_copyOfRange_39247 q.1 = .ok q.2 := by decide +kernel
def dlJ0_init_db425 : List (Nat × Instr × Nat) := [(0, .aload_n 0, 1), (1, .invokespecial 1, 3), (4, .aload_n 1, 1), (5, .invokevirtual 552, 3), (8, .astore_n 3, 1), (9, .aload_n 1, 1), (10, .invokevirtual 549, 3), (13, .istore 4, 2), (15, .aload_n 1, 1), (16, .invokevirtual 1047, 3), (19, .ifCond .eq 22, 3), (22, .aload_n 0, 1), (23, .iconst 0, 1), (24, .putfield 15, 3), (27, .aload_n 0, 1), (28, .aload_n 3, 1), (29, .iconst 0, 1), (30, .iload 4, 2), (32, .invokestatic 54, 3), (35, .putfield 9, 3), (38, .goto 59, 3), (97, .return_, 1)]
theorem dtJ0_init_db425 : ∀ q ∈ dlJ0_init_db425, decode cJ0_init_db425 q.1 = .ok q.2 := by decide +kernel
def dlJ0_init_81219 : List (Nat × Instr × Nat) := [(0, .aload_n 0, 1), (1, .aload_n 1, 1), (2, .aconst_null, 1), (3, .invokespecial 489, 3), (6, .return_, 1)]
theorem dtJ0_init_81219 : ∀ q ∈ dlJ0_init_81219, decode cJ0_init_81219 q.1 = .ok q.2 := by decide +kernel
def dlJ4_toString_0e30d : List (Nat × Instr × Nat) := [(0, .new 18, 3), (3, .dup, 1), (4, .aload_n 0, 1), (5, .invokespecial 137, 3), (8, .areturn, 1)]
theorem dtJ4_toString_0e30d : ∀ q ∈ dlJ4_toString_0e30d, decode cJ4_toString_0e30d q.1 = .ok q.2 := by decide +kernel
def dlJ0_coder_7d493 : List (Nat × Instr × Nat) := [(0, .getstatic 38, 3), (3, .ifCond .eq 10, 3), (6, .aload_n 0, 1), (7, .getfield 15, 3), (10, .goto 4, 3), (14, .ireturn, 1)]
theorem dtJ0_coder_7d493 : ∀ q ∈ dlJ0_coder_7d493, decode cJ0_coder_7d493 q.1 = .ok q.2 := by decide +kernel
def dlJ0_length_8abf5 : List (Nat × Instr × Nat) := [(0, .aload_n 0, 1), (1, .getfield 9, 3), (4, .arraylength, 1), (5, .aload_n 0, 1), (6, .invokevirtual 335, 3), (9, .ishr, 1), (10, .ireturn, 1)]
theorem dtJ0_length_8abf5 : ∀ q ∈ dlJ0_length_8abf5, decode cJ0_length_8abf5 q.1 = .ok q.2 := by decide +kernel
def dlJ0_isLatin1_aae02 : List (Nat × Instr × Nat) := [(0, .getstatic 38, 3), (3, .ifCond .eq 14, 3), (6, .aload_n 0, 1), (7, .getfield 15, 3), (10, .ifCond .ne 7, 3), (13, .iconst 1, 1), (14, .goto 4, 3), (18, .ireturn, 1)]
theorem dtJ0_isLatin1_aae02 : ∀ q ∈ dlJ0_isLatin1_aae02, decode cJ0_isLatin1_aae02 q.1 = .ok q.2 := by decide +kernel
def dlJ3_checkIndex_8e157 : List (Nat × Instr × Nat) := [(0, .iload_n 0, 1), (1, .ifCond .lt 8, 3), (4, .iload_n 0, 1), (5, .iload_n 1, 1), (6, .if_icmp .lt 10, 3), (16, .iload_n 0, 1), (17, .ireturn, 1)]
theorem dtJ3_checkIndex_8e157 : ∀ q ∈ dlJ3_checkIndex_8e157, decode cJ3_checkIndex_8e157 q.1 = .ok q.2 := by decide +kernel
def dlJ0_checkIndex_df160 : List (Nat × Instr × Nat) := [(0, .iload_n 0, 1), (1, .iload_n 1, 1), (2, .getstatic 1053, 3), (5, .invokestatic 1059, 3), (8, .pop, 1), (9, .return_, 1)]
theorem dtJ0_checkIndex_df160 : ∀ q ∈ dlJ0_checkIndex_df160, decode cJ0_checkIndex_df160 q.1 = .ok q.2 := by decide +kernel
def dlJ1_charAt_3b067 : List (Nat × Instr × Nat) := [(0, .iload_n 1, 1), (1, .aload_n 0, 1), (2, .arraylength, 1), (3, .invokestatic 9, 3), (6, .aload_n 0, 1), (7, .iload_n 1, 1), (8, .baload, 1), (9, .sipush 255, 3), (12, .iand, 1), (13, .i2c, 1), (14, .ireturn, 1)]
theorem dtJ1_charAt_3b067 : ∀ q ∈ dlJ1_charAt_3b067, decode cJ1_charAt_3b067 q.1 = .ok q.2 := by decide +kernel
def dlJ0_charAt_5068e : List (Nat × Instr × Nat) := [(0, .aload_n 0, 1), (1, .invokevirtual 492, 3), (4, .ifCond .eq 12, 3), (7, .aload_n 0, 1), (8, .getfield 9, 3), (11, .iload_n 1, 1), (12, .invokestatic 495, 3), (15, .ireturn, 1)]
theorem dtJ0_charAt_5068e : ∀ q ∈ dlJ0_charAt_5068e, decode cJ0_charAt_5068e q.1 = .ok q.2 := by decide +kernel
theorem g_c_isL {G : wG} (hG : wOk G RJ5 cJ5_isLatin1_aae02 1 0 0) {ws : va_W} {sb a k0 : Nat} {c : Int32} (hE : wEndL G (some .boolean) (rpl (some (.int 1)) ws)) (he : ws[k0]? = some (sb, .inr (1, [.ref a, .int 0, .int 0, .int c]))) : JL G 1 0 0 0 [(0, .ref sb)] [] (ws) := by
  refine jl_gets1 hG fk_J5_18 (dt dtJ5_isLatin1_aae02 0 rfl) ?_
  refine jl_if_eq hG (tgt := 17) (dt dtJ5_isLatin1_aae02 1 rfl) (by decide) (fun qz => absurd qz (show ¬ (1 : Int32) = 0 by decide)) (fun _ => ?_)
  refine jl_aload_n hG 0 (dt dtJ5_isLatin1_aae02 2 rfl) rfl rfl ?_
  refine jl_get hG cl_J4 k0 1 he (by decide) fk_J5_22 rfl (dt dtJ5_isLatin1_aae02 3 rfl) ?_
  refine jl_if_ne hG (tgt := 17) (dt dtJ5_isLatin1_aae02 4 rfl) (by decide) (fun qz => absurd (rfl) qz) (fun _ => ?_)
  refine jl_iconst hG (v := 1) (dt dtJ5_isLatin1_aae02 5 rfl) (by decide) ?_
  refine jl_goto hG (tgt := 18) (dt dtJ5_isLatin1_aae02 6 rfl) (by decide) ?_
  exact jl_zret hG hE (by decide) ⟨rfl, rfl⟩ (dt dtJ5_isLatin1_aae02 7 rfl)
theorem c_isL {l : Launch} (hl : l.stackTraces = false) {B : wB} {ws : va_W} {sb a k0 : Nat} {c : Int32} (he : ws[k0]? = some (sb, .inr (1, [.ref a, .int 0, .int 0, .int c]))) : LMet l B yJ5_isLatin1_aae02 cJ5_isLatin1_aae02 1 (some .boolean) 0 0 0 0 [.ref sb] (ws) (rpl (some (.int 1)) ws) :=
  LMet.of hl (by decide +kernel) (Nat.le_of_ble_eq_true rfl) (fun G hB hL hG hE hI => by subst hB; exact g_c_isL hG hE he)
theorem g_c_newLen {G : wG} (hG : wOk G RJ8 cJ8_newLength_cabcc 4 1 14) {ws : va_W} {x y z : Int32} {r : Nat} (hE : wEndL G (some .int) (rpl (some (.int (nI r))) ws)) (hr : x + (if y < z then z else y) = nI r) (h0 : 0 < r) (h1 : r < 100000) : JL G 4 0 0 0 [(0, .int x), (1, .int y), (2, .int z)] [] (ws) := by
  refine jl_iload_n hG 0 (dt dtJ8_newLength_cabcc 0 rfl) rfl rfl ?_
  refine jl_iload_n hG 1 (dt dtJ8_newLength_cabcc 1 rfl) rfl rfl ?_
  refine jl_iload_n hG 2 (dt dtJ8_newLength_cabcc 2 rfl) rfl rfl ?_
  refine jl_mmax hG mlm_J8_194 mm_max.1 mm_max.2.1 mm_max.2.2 (dt dtJ8_newLength_cabcc 3 rfl) (by decide) (Nat.le_of_ble_eq_true rfl) ?_
  refine jl_iadd hG (dt dtJ8_newLength_cabcc 4 rfl) ?_
  rw [hr]
  refine jl_istore_n hG (lv' := [(3, .int (nI r)), (0, .int x), (1, .int y), (2, .int z)]) (dt dtJ8_newLength_cabcc 5 rfl) rfl (by decide) rfl ?_
  refine jl_iconst hG (v := 0) (dt dtJ8_newLength_cabcc 6 rfl) (by decide) ?_
  refine jl_iload_n hG 0 (dt dtJ8_newLength_cabcc 7 rfl) rfl rfl ?_
  refine jl_icmp_ge hG (tgt := 21) (dt dtJ8_newLength_cabcc 8 rfl) (by decide) (fun qz => absurd qz (show ¬ nI r ≤ 0 from nI_nle h0 (by omega))) (fun _ => ?_)
  refine jl_iload_n hG 0 (dt dtJ8_newLength_cabcc 9 rfl) rfl rfl ?_
  refine jl_ldc hG (v := 2147483639) (wTs_in 860 (by decide +kernel) rfl) (dt dtJ8_newLength_cabcc 10 rfl) ?_
  refine jl_icmp_gt hG (tgt := 21) (dt dtJ8_newLength_cabcc 11 rfl) (by decide) (fun qz => absurd qz (show ¬ (2147483639 : Int32) < nI r from nI_nlt (a := 2147483639) (b := r) (by omega) (by omega))) (fun _ => ?_)
  refine jl_iload_n hG 0 (dt dtJ8_newLength_cabcc 12 rfl) rfl rfl ?_
  exact jl_iret hG hE ⟨rfl, rfl⟩ (dt dtJ8_newLength_cabcc 13 rfl)
theorem c_newLen {l : Launch} (hl : l.stackTraces = false) {B : wB} {ws : va_W} {x y z : Int32} {r : Nat} (hr : x + (if y < z then z else y) = nI r) (h0 : 0 < r) (h1 : r < 100000) : LMet l B yJ8_newLength_cabcc cJ8_newLength_cabcc 4 (some .int) 1 14 0 0 [.int x, .int y, .int z] (ws) (rpl (some (.int (nI r))) ws) :=
  LMet.of hl (by decide +kernel) (Nat.le_of_ble_eq_true rfl) (fun G hB hL hG hE hI => by subst hB; exact g_c_newLen hG hE hr h0 h1)
theorem g_c_newCap {G : wG} (hG : wOk G RJ5 cJ5_newCapacity_0f7a4 6 2 37) {ws : va_W} {sb a k0 k1 P q : Nat} {c : Int32} {f : Nat → Int32} (hE : wEndL G (some .int) (rpl (some (.int (nI (2 * P + 2)))) ws)) (he : ws[k0]? = some (sb, .inr (1, [.ref a, .int 0, .int 0, .int c]))) (ha : ws[k1]? = some (a, .inl (wdA (gB G) 4, P, .inl f))) (h1 : P < q) (h2 : q ≤ P + (P + 2)) (h3 : P ≤ 2000) : JL G 6 0 0 0 [(0, .ref sb), (1, .int (nI q))] [] (ws) := by
  refine jl_aload_n hG 0 (dt dtJ5_newCapacity_0f7a4 0 rfl) rfl rfl ?_
  refine jl_get hG cl_J4 k0 0 he (by decide) fk_J5_15 rfl (dt dtJ5_newCapacity_0f7a4 1 rfl) ?_
  refine jl_alen hG (v := nI P) k1 4 ha rfl rfl (dt dtJ5_newCapacity_0f7a4 2 rfl) ?_
  refine jl_istore_n hG (lv' := [(2, .int ((nI P))), (0, .ref sb), (1, .int (nI q))]) (dt dtJ5_newCapacity_0f7a4 3 rfl) rfl (by decide) rfl ?_
  refine jl_iload_n hG 2 (dt dtJ5_newCapacity_0f7a4 4 rfl) rfl rfl ?_
  refine jl_aload_n hG 1 (dt dtJ5_newCapacity_0f7a4 5 rfl) rfl rfl ?_
  refine jl_get hG cl_J4 k0 1 he (by decide) fk_J5_22 rfl (dt dtJ5_newCapacity_0f7a4 6 rfl) ?_
  refine jl_ishl hG (dt dtJ5_newCapacity_0f7a4 7 rfl) ?_
  rw [sb_shl0]
  refine jl_istore_n hG (lv' := [(3, .int (nI q)), (2, .int ((nI P))), (0, .ref sb), (1, .int (nI q))]) (dt dtJ5_newCapacity_0f7a4 8 rfl) rfl (by decide) rfl ?_
  refine jl_iload_n hG 0 (dt dtJ5_newCapacity_0f7a4 9 rfl) rfl rfl ?_
  refine jl_iload_n hG 1 (dt dtJ5_newCapacity_0f7a4 10 rfl) rfl rfl ?_
  refine jl_isub hG (dt dtJ5_newCapacity_0f7a4 11 rfl) ?_
  refine jl_istore hG (lv' := [(4, .int ((nI q - (nI P)))), (3, .int (nI q)), (2, .int ((nI P))), (0, .ref sb), (1, .int (nI q))]) (dt dtJ5_newCapacity_0f7a4 12 rfl) (by decide) rfl ?_
  refine jl_iload_n hG 2 (dt dtJ5_newCapacity_0f7a4 13 rfl) rfl rfl ?_
  refine jl_iload hG 0 (dt dtJ5_newCapacity_0f7a4 14 rfl) rfl ?_
  refine jl_iload_n hG 2 (dt dtJ5_newCapacity_0f7a4 15 rfl) rfl rfl ?_
  refine jl_iconst hG (v := 2) (dt dtJ5_newCapacity_0f7a4 16 rfl) (by decide) ?_
  refine jl_aload_n hG 3 (dt dtJ5_newCapacity_0f7a4 17 rfl) rfl rfl ?_
  refine jl_get hG cl_J4 k0 1 he (by decide) fk_J5_22 rfl (dt dtJ5_newCapacity_0f7a4 18 rfl) ?_
  refine jl_ishl hG (dt dtJ5_newCapacity_0f7a4 19 rfl) ?_
  rw [sb_shl0]
  refine jl_iadd hG (dt dtJ5_newCapacity_0f7a4 20 rfl) ?_
  refine JL.weak (kc := 0 + 0) (ks := 0 + 0) (by omega) (by omega) ?_
  refine jl_callS hG (kc := 0) (ks := 0) (c_newLen hG.2.2.1 (newCap_r h1 h2 h3) (by omega) (by omega)) mf_J8_newLength_cabcc ml_J5_114 rfl (rest := []) rfl (Nat.le_of_ble_eq_true rfl) (dt dtJ5_newCapacity_0f7a4 21 rfl) (by decide) (by decide) (fun v w h => ?_)
  obtain ⟨rfl, rfl⟩ := h
  refine jl_istore hG (lv' := [(5, .int (nI (2 * P + 2))), (4, .int ((nI q - (nI P)))), (3, .int (nI q)), (2, .int ((nI P))), (0, .ref sb), (1, .int (nI q))]) (dt dtJ5_newCapacity_0f7a4 22 rfl) (by decide) rfl ?_
  refine jl_iload hG 0 (dt dtJ5_newCapacity_0f7a4 23 rfl) rfl ?_
  refine jl_ldc hG (v := 2147483647) (wTs_in 864 (by decide +kernel) rfl) (dt dtJ5_newCapacity_0f7a4 24 rfl) ?_
  refine jl_icmp_ne hG (tgt := 51) (dt dtJ5_newCapacity_0f7a4 25 rfl) (by decide) (fun _ => ?_) (fun qz => absurd qz (show ¬ nI (2 * P + 2) = 2147483647 from fun z => by have := (nI_eq (a := 2 * P + 2) (b := 2147483647) (by omega) (by omega)).mp z; omega))
  refine jl_iload hG 0 (dt dtJ5_newCapacity_0f7a4 26 rfl) rfl ?_
  refine jl_aload_n hG 4 (dt dtJ5_newCapacity_0f7a4 27 rfl) rfl rfl ?_
  refine jl_get hG cl_J4 k0 1 he (by decide) fk_J5_22 rfl (dt dtJ5_newCapacity_0f7a4 28 rfl) ?_
  refine jl_ishr hG (dt dtJ5_newCapacity_0f7a4 29 rfl) ?_
  rw [sb_shr0]
  exact jl_iret hG hE ⟨rfl, rfl⟩ (dt dtJ5_newCapacity_0f7a4 30 rfl)
theorem c_newCap {l : Launch} (hl : l.stackTraces = false) {B : wB} {ws : va_W} {sb a k0 k1 P q : Nat} {c : Int32} {f : Nat → Int32} (he : ws[k0]? = some (sb, .inr (1, [.ref a, .int 0, .int 0, .int c]))) (ha : ws[k1]? = some (a, .inl (wdA B 4, P, .inl f))) (h1 : P < q) (h2 : q ≤ P + (P + 2)) (h3 : P ≤ 2000) : LMet l B yJ5_newCapacity_0f7a4 cJ5_newCapacity_0f7a4 6 (some .int) 2 37 0 0 [.ref sb, .int (nI q)] (ws) (rpl (some (.int (nI (2 * P + 2)))) ws) :=
  LMet.of hl (by decide +kernel) (Nat.le_of_ble_eq_true rfl) (fun G hB hL hG hE hI => by subst hB; exact g_c_newCap hG hE he ha h1 h2 h3)
theorem g_c_copyOf {G : wG} (hG : wOk G RJ7 cJ7_copyOf_9075b 3 1 60) {ws : va_W} {a k1 P q : Nat} {f : Nat → Int32} (hE : wEndL G (some (.array .byte)) (fun v w => ∃ b g, v = some (.ref b) ∧ w = ws ++ [(b, .inl (wdA (gB G) 4, q, .inl g))] ∧ sb_Fit g ∧ ∀ j, j < P → g j = f j)) (ha : ws[k1]? = some (a, .inl (wdA (gB G) 4, P, .inl f))) (hf : sb_Fit f) (h1 : P < q) (h2 : q ≤ 5000) : JL G 3 1 q 0 [(0, .ref a), (1, .int (nI q))] [] (ws) := by
  refine jl_iload_n hG 1 (dt dtJ7_copyOf_9075b 0 rfl) rfl rfl ?_
  refine jl_aload_n hG 0 (dt dtJ7_copyOf_9075b 1 rfl) rfl rfl ?_
  refine jl_alen hG (v := nI P) k1 4 ha rfl rfl (dt dtJ7_copyOf_9075b 2 rfl) ?_
  refine jl_icmp_ne hG (tgt := 14) (dt dtJ7_copyOf_9075b 3 rfl) (by decide) (fun _ => ?_) (fun qz => absurd qz (show ¬ nI q = nI P from fun z => by have := (nI_eq (a := q) (b := P) (by omega) (by omega)).mp z; omega))
  refine jl_iload_n hG 1 (dt dtJ7_copyOf_9075b 4 rfl) rfl rfl ?_
  refine JL.weak (kc := 0 + 1) (ks := 0 + q) (by omega) (by omega) ?_
  refine jl_newa hG (atype := .byte) (N := q) 4 rfl (wTs_in 451 (by decide +kernel) rfl) rfl (q, .inl (fun _ => 0)) (fun _ => rfl) (nI_pos (by omega)) (nI_clamp (by omega)) (by show q * 1 ≤ _; omega) (dt dtJ7_copyOf_9075b 5 rfl) (fun q1 => ?_)
  refine jl_astore_n hG (lv' := [(2, .ref q1), (0, .ref a), (1, .int (nI q))]) (dt dtJ7_copyOf_9075b 6 rfl) rfl (by decide) rfl ?_
  refine jl_aload_n hG 1 (dt dtJ7_copyOf_9075b 7 rfl) rfl rfl ?_
  refine jl_iconst hG (v := 0) (dt dtJ7_copyOf_9075b 8 rfl) (by decide) ?_
  refine jl_aload_n hG 0 (dt dtJ7_copyOf_9075b 9 rfl) rfl rfl ?_
  refine jl_iconst hG (v := 0) (dt dtJ7_copyOf_9075b 10 rfl) (by decide) ?_
  refine jl_aload_n hG 1 (dt dtJ7_copyOf_9075b 11 rfl) rfl rfl ?_
  refine jl_alen hG (v := nI P) k1 4 (app_lt ha) rfl rfl (dt dtJ7_copyOf_9075b 12 rfl) ?_
  refine jl_iload_n hG 2 (dt dtJ7_copyOf_9075b 13 rfl) rfl rfl ?_
  refine jl_mmin hG mlm_J7_304 mm_min.1 mm_min.2.1 mm_min.2.2 (dt dtJ7_copyOf_9075b 14 rfl) (by decide) (Nat.le_of_ble_eq_true rfl) ?_
  rw [show (if nI q < nI P then nI q else nI P) = nI P from if_neg (nI_nlt (by omega) (by omega))]
  refine jl_copyb (ws' := ws ++ [(q1, .inl (wdA (gB G) 4, q, .inl (va_cpy f (fun _ => 0) (0 : Int32).toNatClampNeg (0 : Int32).toNatClampNeg (nI P).toNatClampNeg)))]) hG k1 (ws.length + 0) ac_J7 ac_w (app_lt ha) ((app_get _ _ rfl 0).trans rfl) (by decide) (by decide) (nI_pos (by omega)) (by rw [nI_clamp (by omega)]; show 0 + P ≤ P; omega) (by rw [nI_clamp (by omega)]; show 0 + P ≤ q; omega) (fun _ _ => hf _) ((app_set _ _ rfl 0 _).trans rfl) (by decide) (Nat.le_of_ble_eq_true rfl) (dt dtJ7_copyOf_9075b 15 rfl) ?_
  refine jl_aload_n hG 0 (dt dtJ7_copyOf_9075b 16 rfl) rfl rfl ?_
  exact jl_aret hG hE (Or.inr ⟨_, rfl⟩) ⟨_, _, rfl, rfl, sb_fitC hf sb_fit0, fun j hj => by rw [nI_clamp (by omega)]; exact sb_cpy0 hj⟩ (dt dtJ7_copyOf_9075b 17 rfl)
theorem c_copyOf {l : Launch} (hl : l.stackTraces = false) {B : wB} {ws : va_W} {a k1 P q : Nat} {f : Nat → Int32} (ha : ws[k1]? = some (a, .inl (wdA B 4, P, .inl f))) (hf : sb_Fit f) (h1 : P < q) (h2 : q ≤ 5000) : LMet l B yJ7_copyOf_9075b cJ7_copyOf_9075b 3 (some (.array .byte)) 1 60 1 q [.ref a, .int (nI q)] (ws) (fun v w => ∃ b g, v = some (.ref b) ∧ w = ws ++ [(b, .inl (wdA B 4, q, .inl g))] ∧ sb_Fit g ∧ ∀ j, j < P → g j = f j) :=
  LMet.of hl (by decide +kernel) (Nat.le_of_ble_eq_true rfl) (fun G hB hL hG hE hI => by subst hB; exact g_c_copyOf hG hE ha hf h1 h2)
theorem g_c_ensure {G : wG} (hG : wOk G RJ5 cJ5_ensureCapacityInternal_d00df 3 3 82) {w0 : va_W} {sb a P q : Nat} {f : Nat → Int32} {L : List Int32} (hE : wEndL G none (fun v w => v = none ∧ ∃ a2 f2, w = sbw (gB G) w0 sb a2 (gwP q P) f2 L ∧ sbT f2 (gwP q P) L)) (hT : sbT f P L) (h2 : q ≤ P + (P + 2)) (h3 : P ≤ 2000) : JL G 3 (gwc q P) (gws q P) 0 [(0, .ref sb), (1, .int (nI q))] [] (sbw (gB G) w0 sb a P f L) := by
  by_cases h : q ≤ P
  · refine JL.eqw (ws' := w0 ++ [(sb, .inr (1, [.ref a, .int 0, .int 0, .int (nI L.length)])), (a, .inl (wdA (gB G) 4, P, .inl f))]) rfl ?_
    refine jl_aload_n hG 0 (dt dtJ5_ensureCapacityInternal_d00df 0 rfl) rfl rfl ?_
    refine jl_get hG cl_J4 (w0.length + 0) 0 ((app_get _ _ rfl 0).trans rfl) (by decide) fk_J5_15 rfl (dt dtJ5_ensureCapacityInternal_d00df 1 rfl) ?_
    refine jl_alen hG (v := nI P) (w0.length + 1) 4 ((app_get _ _ rfl 1).trans rfl) rfl rfl (dt dtJ5_ensureCapacityInternal_d00df 2 rfl) ?_
    refine jl_aload_n hG 0 (dt dtJ5_ensureCapacityInternal_d00df 3 rfl) rfl rfl ?_
    refine jl_get hG cl_J4 (w0.length + 0) 1 ((app_get _ _ rfl 0).trans rfl) (by decide) fk_J5_22 rfl (dt dtJ5_ensureCapacityInternal_d00df 4 rfl) ?_
    refine jl_ishr hG (dt dtJ5_ensureCapacityInternal_d00df 5 rfl) ?_
    rw [sb_shr0]
    refine jl_istore_n hG (lv' := [(2, .int (nI P)), (0, .ref sb), (1, .int (nI q))]) (dt dtJ5_ensureCapacityInternal_d00df 6 rfl) rfl (by decide) rfl ?_
    refine jl_iload_n hG 2 (dt dtJ5_ensureCapacityInternal_d00df 7 rfl) rfl rfl ?_
    refine jl_iload_n hG 0 (dt dtJ5_ensureCapacityInternal_d00df 8 rfl) rfl rfl ?_
    refine jl_isub hG (dt dtJ5_ensureCapacityInternal_d00df 9 rfl) ?_
    refine jl_if_le hG (tgt := 38) (dt dtJ5_ensureCapacityInternal_d00df 10 rfl) (by decide) (fun _ => ?_) (fun qz => absurd (show nI q - nI P ≤ 0 from by rw [Int32.le_iff_toInt_le, pk_sub_toInt (by omega) (by omega), Int32.toInt_zero]; omega) qz)
    exact jl_vret hG hE ⟨rfl, a, f, by rw [gwP_t h]; rfl, by rw [gwP_t h]; exact hT⟩ (dt dtJ5_ensureCapacityInternal_d00df 11 rfl)
  · rw [show gwc q P = 1 from if_neg h, show gws q P = 2 * P + 2 from if_neg h]
    refine JL.eqw (ws' := w0 ++ [(sb, .inr (1, [.ref a, .int 0, .int 0, .int (nI L.length)])), (a, .inl (wdA (gB G) 4, P, .inl f))]) rfl ?_
    refine jl_aload_n hG 0 (dt dtJ5_ensureCapacityInternal_d00df 0 rfl) rfl rfl ?_
    refine jl_get hG cl_J4 (w0.length + 0) 0 ((app_get _ _ rfl 0).trans rfl) (by decide) fk_J5_15 rfl (dt dtJ5_ensureCapacityInternal_d00df 1 rfl) ?_
    refine jl_alen hG (v := nI P) (w0.length + 1) 4 ((app_get _ _ rfl 1).trans rfl) rfl rfl (dt dtJ5_ensureCapacityInternal_d00df 2 rfl) ?_
    refine jl_aload_n hG 0 (dt dtJ5_ensureCapacityInternal_d00df 3 rfl) rfl rfl ?_
    refine jl_get hG cl_J4 (w0.length + 0) 1 ((app_get _ _ rfl 0).trans rfl) (by decide) fk_J5_22 rfl (dt dtJ5_ensureCapacityInternal_d00df 4 rfl) ?_
    refine jl_ishr hG (dt dtJ5_ensureCapacityInternal_d00df 5 rfl) ?_
    rw [sb_shr0]
    refine jl_istore_n hG (lv' := [(2, .int (nI P)), (0, .ref sb), (1, .int (nI q))]) (dt dtJ5_ensureCapacityInternal_d00df 6 rfl) rfl (by decide) rfl ?_
    refine jl_iload_n hG 2 (dt dtJ5_ensureCapacityInternal_d00df 7 rfl) rfl rfl ?_
    refine jl_iload_n hG 0 (dt dtJ5_ensureCapacityInternal_d00df 8 rfl) rfl rfl ?_
    refine jl_isub hG (dt dtJ5_ensureCapacityInternal_d00df 9 rfl) ?_
    refine jl_if_le hG (tgt := 38) (dt dtJ5_ensureCapacityInternal_d00df 10 rfl) (by decide) (fun qz => absurd qz (show ¬ nI q - nI P ≤ 0 from by rw [Int32.le_iff_toInt_le, pk_sub_toInt (by omega) (by omega), Int32.toInt_zero]; omega)) (fun _ => ?_)
    refine jl_aload_n hG 1 (dt dtJ5_ensureCapacityInternal_d00df 12 rfl) rfl rfl ?_
    refine jl_aload_n hG 1 (dt dtJ5_ensureCapacityInternal_d00df 13 rfl) rfl rfl ?_
    refine jl_get hG cl_J4 (w0.length + 0) 0 ((app_get _ _ rfl 0).trans rfl) (by decide) fk_J5_15 rfl (dt dtJ5_ensureCapacityInternal_d00df 14 rfl) ?_
    refine jl_aload_n hG 1 (dt dtJ5_ensureCapacityInternal_d00df 15 rfl) rfl rfl ?_
    refine jl_iload_n hG 2 (dt dtJ5_ensureCapacityInternal_d00df 16 rfl) rfl rfl ?_
    refine JL.weak (kc := 1 + 0) (ks := (((2 * P + 2))) + 0) (by omega) (by omega) ?_
    refine jl_callV hG (kc := 1) (ks := (((2 * P + 2)))) (c_newCap hG.2.2.1 ((app_get _ _ rfl 0).trans rfl) ((app_get _ _ rfl 1).trans rfl) (by omega) (by omega) (by omega)) mi_J5_newCapacity_0f7a4 ml_J5_104 (w0.length + 0) ((app_get _ _ rfl 0).trans rfl) rfl (sel_priv (hG.word sl_isL) rfl ⟨by decide +kernel, by decide +kernel⟩ (hG.word pm_newCap) (hG.word mi_J5_newCapacity_0f7a4.2)) rfl (rest := [.ref a, .ref sb]) rfl (Nat.le_of_ble_eq_true rfl) (dt dtJ5_ensureCapacityInternal_d00df 17 rfl) (by decide) (by decide) (fun v w h => ?_)
    obtain ⟨rfl, rfl⟩ := h
    refine jl_aload_n hG 1 (dt dtJ5_ensureCapacityInternal_d00df 18 rfl) rfl rfl ?_
    refine jl_get hG cl_J4 (w0.length + 0) 1 ((app_get _ _ rfl 0).trans rfl) (by decide) fk_J5_22 rfl (dt dtJ5_ensureCapacityInternal_d00df 19 rfl) ?_
    refine jl_ishl hG (dt dtJ5_ensureCapacityInternal_d00df 20 rfl) ?_
    rw [sb_shl0]
    refine JL.weak (kc := 0 + 1) (ks := 0 + ((2 * P + 2))) (by omega) (by omega) ?_
    refine jl_callS hG (kc := 0) (ks := 0) (c_copyOf hG.2.2.1 ((app_get _ _ rfl 1).trans rfl) hT.1 (by omega) (by omega)) mf_J7_copyOf_9075b ml_J5_108 rfl (rest := [.ref sb]) rfl (Nat.le_of_ble_eq_true rfl) (dt dtJ5_ensureCapacityInternal_d00df 21 rfl) (by decide) (by decide) (fun v w h => ?_)
    obtain ⟨b, g, rfl, rfl, hg1, hg2⟩ := h
    refine JL.eqw (ws' := w0 ++ [(sb, .inr (1, [.ref a, .int 0, .int 0, .int (nI L.length)])), (a, .inl (wdA (gB G) 4, P, .inl f)), (b, .inl (wdA (gB G) 4, (2 * P + 2), .inl g))]) (by rw [List.append_assoc]; rfl) ?_
    refine jl_put (ws' := w0 ++ [(sb, .inr (1, [.ref b, .int 0, .int 0, .int (nI L.length)])), (a, .inl (wdA (gB G) 4, P, .inl f)), (b, .inl (wdA (gB G) 4, (2 * P + 2), .inl g))]) hG cl_J4 (w0.length + 0) 0 ((app_get _ _ rfl 0).trans rfl) (by decide) fk_J5_15 rfl rfl rfl rfl (Nat.le_of_ble_eq_true rfl) ((app_set _ _ rfl 0 _).trans rfl) (dt dtJ5_ensureCapacityInternal_d00df 22 rfl) ?_
    refine JL.eqw (ws' := (w0 ++ [(sb, .inr (1, [.ref b, .int 0, .int 0, .int (nI L.length)]))]) ++ ([(a, .inl (wdA (gB G) 4, P, .inl f))] ++ [(b, .inl (wdA (gB G) 4, (2 * P + 2), .inl g))])) (by simp) ?_
    refine JL.take ?_
    refine JL.eqw (ws' := w0 ++ [(sb, .inr (1, [.ref b, .int 0, .int 0, .int (nI L.length)])), (b, .inl (wdA (gB G) 4, (2 * P + 2), .inl g))]) (by simp) ?_
    exact jl_vret hG hE ⟨rfl, b, g, by rw [gwP_f h]; rfl, by rw [gwP_f h]; exact sbT_grow hT hg1 (by omega) hg2⟩ (dt dtJ5_ensureCapacityInternal_d00df 11 rfl)
theorem c_ensure {l : Launch} (hl : l.stackTraces = false) {B : wB} {w0 : va_W} {sb a P q : Nat} {f : Nat → Int32} {L : List Int32} (hT : sbT f P L) (h2 : q ≤ P + (P + 2)) (h3 : P ≤ 2000) : LMet l B yJ5_ensureCapacityInternal_d00df cJ5_ensureCapacityInternal_d00df 3 none 3 82 (gwc q P) (gws q P) [.ref sb, .int (nI q)] (sbw B w0 sb a P f L) (fun v w => v = none ∧ ∃ a2 f2, w = sbw B w0 sb a2 (gwP q P) f2 L ∧ sbT f2 (gwP q P) L) :=
  LMet.of hl (by decide +kernel) (Nat.le_of_ble_eq_true rfl) (fun G hB hL hG hE hI => by subst hB; exact g_c_ensure hG hE hT h2 h3)
theorem g_c_canEnc {G : wG} (hG : wOk G RJ1 cJ1_canEncode_fc78d 1 0 0) {ws : va_W} {x : Nat} (hE : wEndL G (some .boolean) (rpl (some (.int 1)) ws)) (hx : x < 128) : JL G 1 0 0 0 [(0, .int (nI x))] [] (ws) := by
  refine jl_iload_n hG 0 (dt dtJ1_canEncode_fc78d 0 rfl) rfl rfl ?_
  refine jl_sipush hG (v := 255) (dt dtJ1_canEncode_fc78d 1 rfl) (by decide) ?_
  refine jl_icmp_gt hG (tgt := 11) (dt dtJ1_canEncode_fc78d 2 rfl) (by decide) (fun qz => absurd qz (show ¬ (255 : Int32) < nI x from nI_nlt (a := 255) (b := x) (by omega) (by omega))) (fun _ => ?_)
  refine jl_iconst hG (v := 1) (dt dtJ1_canEncode_fc78d 3 rfl) (by decide) ?_
  refine jl_goto hG (tgt := 12) (dt dtJ1_canEncode_fc78d 4 rfl) (by decide) ?_
  exact jl_zret hG hE (by decide) ⟨rfl, rfl⟩ (dt dtJ1_canEncode_fc78d 5 rfl)
theorem c_canEnc {l : Launch} (hl : l.stackTraces = false) {B : wB} {ws : va_W} {x : Nat} (hx : x < 128) : LMet l B yJ1_canEncode_fc78d cJ1_canEncode_fc78d 1 (some .boolean) 0 0 0 0 [.int (nI x)] (ws) (rpl (some (.int 1)) ws) :=
  LMet.of hl (by decide +kernel) (Nat.le_of_ble_eq_true rfl) (fun G hB hL hG hE hI => by subst hB; exact g_c_canEnc hG hE hx)
theorem g_c_appC5 {G : wG} (hG : wOk G RJ5 cJ5_append_3fe6f 2 4 104) {w0 : va_W} {sb a P x : Nat} {f : Nat → Int32} {L : List Int32} (hE : wEndL G (some (.object "java/lang/AbstractStringBuilder")) (sbP (gB G) w0 sb (gwP (L.length + 1) P) (L ++ [nI x]))) (hT : sbT f P L) (hx : x < 128) (h3 : P ≤ 2000) : JL G 2 (gwc (L.length + 1) P) (gws (L.length + 1) P) 0 [(0, .ref sb), (1, .int (nI x))] [] (sbw (gB G) w0 sb a P f L) := by
  refine JL.eqw (ws' := w0 ++ [(sb, .inr (1, [.ref a, .int 0, .int 0, .int (nI L.length)])), (a, .inl (wdA (gB G) 4, P, .inl f))]) rfl ?_
  have hG1 : L.length + 1 ≤ gwP (L.length + 1) P := by have := hT.2.1; unfold gwP; split <;> omega
  have hG2 : gwP (L.length + 1) P < 2 ^ 31 := by unfold gwP; split <;> omega
  refine jl_aload_n hG 0 (dt dtJ5_append_3fe6f 0 rfl) rfl rfl ?_
  refine jl_aload_n hG 0 (dt dtJ5_append_3fe6f 1 rfl) rfl rfl ?_
  refine jl_get hG cl_J4 (w0.length + 0) 3 ((app_get _ _ rfl 0).trans rfl) (by decide) fk_J5_79 rfl (dt dtJ5_append_3fe6f 2 rfl) ?_
  refine jl_iconst hG (v := 1) (dt dtJ5_append_3fe6f 3 rfl) (by decide) ?_
  refine jl_iadd hG (dt dtJ5_append_3fe6f 4 rfl) ?_
  rw [nI_1]
  refine JL.weak (kc := 0 + (gwc (L.length + 1) P)) (ks := 0 + (gws (L.length + 1) P)) (by omega) (by omega) ?_
  refine jl_callV hG (kc := 0) (ks := 0) (c_ensure hG.2.2.1 hT (by have := hT.2.1; omega) h3) mi_J5_ensureCapacityInternal_d00df ml_J5_100 (w0.length + 0) ((app_get _ _ rfl 0).trans rfl) rfl (sel_priv (hG.word sl_isL) rfl ⟨by decide +kernel, by decide +kernel⟩ (hG.word pm_ensure) (hG.word mi_J5_ensureCapacityInternal_d00df.2)) rfl (rest := []) rfl (Nat.le_of_ble_eq_true rfl) (dt dtJ5_append_3fe6f 5 rfl) (by decide) (by decide) (fun v w h => ?_)
  obtain ⟨rfl, a2, f2, rfl, hT2⟩ := h
  refine JL.eqw (ws' := w0 ++ [(sb, .inr (1, [.ref a2, .int 0, .int 0, .int (nI L.length)])), (a2, .inl (wdA (gB G) 4, (gwP (L.length + 1) P), .inl f2))]) rfl ?_
  refine jl_aload_n hG 0 (dt dtJ5_append_3fe6f 6 rfl) rfl rfl ?_
  refine JL.weak (kc := 0 + 0) (ks := 0 + 0) (by omega) (by omega) ?_
  refine jl_callV hG (kc := 0) (ks := 0) (c_isL hG.2.2.1 ((app_get _ _ rfl 0).trans rfl)) mi_J5_isLatin1_aae02 ml_J5_83 (w0.length + 0) ((app_get _ _ rfl 0).trans rfl) rfl (hG.word sl_isL) rfl (rest := []) rfl (Nat.le_of_ble_eq_true rfl) (dt dtJ5_append_3fe6f 7 rfl) (by decide) (by decide) (fun v w h => ?_)
  obtain ⟨rfl, rfl⟩ := h
  refine jl_if_eq hG (tgt := 45) (dt dtJ5_append_3fe6f 8 rfl) (by decide) (fun qz => absurd qz (show ¬ (1 : Int32) = 0 by decide)) (fun _ => ?_)
  refine jl_iload_n hG 1 (dt dtJ5_append_3fe6f 9 rfl) rfl rfl ?_
  refine JL.weak (kc := 0 + 0) (ks := 0 + 0) (by omega) (by omega) ?_
  refine jl_callS hG (kc := 0) (ks := 0) (c_canEnc hG.2.2.1 hx) mf_J1_canEncode_fc78d ml_J5_191 rfl (rest := []) rfl (Nat.le_of_ble_eq_true rfl) (dt dtJ5_append_3fe6f 10 rfl) (by decide) (by decide) (fun v w h => ?_)
  obtain ⟨rfl, rfl⟩ := h
  refine jl_if_eq hG (tgt := 45) (dt dtJ5_append_3fe6f 11 rfl) (by decide) (fun qz => absurd qz (show ¬ (1 : Int32) = 0 by decide)) (fun _ => ?_)
  refine jl_aload_n hG 0 (dt dtJ5_append_3fe6f 12 rfl) rfl rfl ?_
  refine jl_get hG cl_J4 (w0.length + 0) 0 ((app_get _ _ rfl 0).trans rfl) (by decide) fk_J5_15 rfl (dt dtJ5_append_3fe6f 13 rfl) ?_
  refine jl_aload_n hG 0 (dt dtJ5_append_3fe6f 14 rfl) rfl rfl ?_
  refine jl_dup hG (dt dtJ5_append_3fe6f 15 rfl) rfl ?_
  refine jl_get hG cl_J4 (w0.length + 0) 3 ((app_get _ _ rfl 0).trans rfl) (by decide) fk_J5_79 rfl (dt dtJ5_append_3fe6f 16 rfl) ?_
  refine jl_dup_x1 hG (dt dtJ5_append_3fe6f 17 rfl) rfl rfl ?_
  refine jl_iconst hG (v := 1) (dt dtJ5_append_3fe6f 18 rfl) (by decide) ?_
  refine jl_iadd hG (dt dtJ5_append_3fe6f 19 rfl) ?_
  rw [show nI L.length + 1 = nI (L ++ [nI x]).length by rw [List.length_append]; exact nI_1 _]
  refine jl_put (ws' := w0 ++ [(sb, .inr (1, [.ref a2, .int 0, .int 0, .int (nI (L ++ [nI x]).length)])), (a2, .inl (wdA (gB G) 4, (gwP (L.length + 1) P), .inl f2))]) hG cl_J4 (w0.length + 0) 3 ((app_get _ _ rfl 0).trans rfl) (by decide) fk_J5_79 rfl rfl rfl rfl (Nat.le_of_ble_eq_true rfl) ((app_set _ _ rfl 0 _).trans rfl) (dt dtJ5_append_3fe6f 20 rfl) ?_
  refine jl_iload_n hG 1 (dt dtJ5_append_3fe6f 21 rfl) rfl rfl ?_
  refine jl_i2b hG (dt dtJ5_append_3fe6f 22 rfl) (byte7 x hx) ?_
  refine jl_bast (ws' := w0 ++ [(sb, .inr (1, [.ref a2, .int 0, .int 0, .int (nI (L ++ [nI x]).length)])), (a2, .inl (wdA (gB G) 4, (gwP (L.length + 1) P), .inl (upd f2 (nI L.length).toNatClampNeg (nI x))))]) hG (w0.length + 1) ((app_get _ _ rfl 1).trans rfl) (vp_in_nI (show L.length < gwP (L.length + 1) P from hG1) hG2) (nar7 x hx) ((app_set _ _ rfl 1 _).trans rfl) (dt dtJ5_append_3fe6f 23 rfl) ?_
  refine jl_goto hG (tgt := 75) (dt dtJ5_append_3fe6f 24 rfl) (by decide) ?_
  refine jl_aload_n hG 0 (dt dtJ5_append_3fe6f 25 rfl) rfl rfl ?_
  exact jl_aret hG hE (Or.inl ⟨_, rfl⟩) ⟨rfl, a2, _, rfl, by rw [nI_clamp (show L.length < 2 ^ 31 by omega)]; exact sbT_put hT2 hx hG1⟩ (dt dtJ5_append_3fe6f 26 rfl)
theorem c_appC5 {l : Launch} (hl : l.stackTraces = false) {B : wB} {w0 : va_W} {sb a P x : Nat} {f : Nat → Int32} {L : List Int32} (hT : sbT f P L) (hx : x < 128) (h3 : P ≤ 2000) : LMet l B yJ5_append_3fe6f cJ5_append_3fe6f 2 (some (.object "java/lang/AbstractStringBuilder")) 4 104 (gwc (L.length + 1) P) (gws (L.length + 1) P) [.ref sb, .int (nI x)] (sbw B w0 sb a P f L) (sbP B w0 sb (gwP (L.length + 1) P) (L ++ [nI x])) :=
  LMet.of hl (by decide +kernel) (Nat.le_of_ble_eq_true rfl) (fun G hB hL hG hE hI => by subst hB; exact g_c_appC5 hG hE hT hx h3)
theorem g_c_appC {G : wG} (hG : wOk G RJ4 cJ4_append_cf468 2 5 125) {w0 : va_W} {sb a P x : Nat} {f : Nat → Int32} {L : List Int32} (hE : wEndL G (some (.object "java/lang/StringBuilder")) (sbP (gB G) w0 sb (gwP (L.length + 1) P) (L ++ [nI x]))) (hT : sbT f P L) (hx : x < 128) (h3 : P ≤ 2000) : JL G 2 (gwc (L.length + 1) P) (gws (L.length + 1) P) 0 [(0, .ref sb), (1, .int (nI x))] [] (sbw (gB G) w0 sb a P f L) := by
  refine JL.eqw (ws' := w0 ++ [(sb, .inr (1, [.ref a, .int 0, .int 0, .int (nI L.length)])), (a, .inl (wdA (gB G) 4, P, .inl f))]) rfl ?_
  refine jl_aload_n hG 0 (dt dtJ4_append_cf468 0 rfl) rfl rfl ?_
  refine jl_iload_n hG 1 (dt dtJ4_append_cf468 1 rfl) rfl rfl ?_
  refine JL.weak (kc := 0 + (gwc (L.length + 1) P)) (ks := 0 + (gws (L.length + 1) P)) (by omega) (by omega) ?_
  refine jl_callSU hG (kc := 0) (ks := 0) (c_appC5 hG.2.2.1 hT hx h3) mi_J5_append_3fe6f ml_J4_50 ⟨sm_appC, su_SB, by decide +kernel⟩ (w0.length + 0) ((app_get _ _ rfl 0).trans rfl) rfl rfl (rest := []) rfl (Nat.le_of_ble_eq_true rfl) (dt dtJ4_append_cf468 2 rfl) (by decide) (by decide) (fun v w h => ?_)
  obtain ⟨rfl, a2, f2, rfl, hT2⟩ := h
  refine jl_pop hG (dt dtJ4_append_cf468 3 rfl) rfl ?_
  refine jl_aload_n hG 0 (dt dtJ4_append_cf468 4 rfl) rfl rfl ?_
  exact jl_aret hG hE (Or.inl ⟨_, rfl⟩) ⟨rfl, a2, f2, rfl, hT2⟩ (dt dtJ4_append_cf468 5 rfl)
theorem c_appC {l : Launch} (hl : l.stackTraces = false) {B : wB} {w0 : va_W} {sb a P x : Nat} {f : Nat → Int32} {L : List Int32} (hT : sbT f P L) (hx : x < 128) (h3 : P ≤ 2000) : LMet l B yJ4_append_cf468 cJ4_append_cf468 2 (some (.object "java/lang/StringBuilder")) 5 125 (gwc (L.length + 1) P) (gws (L.length + 1) P) [.ref sb, .int (nI x)] (sbw B w0 sb a P f L) (sbP B w0 sb (gwP (L.length + 1) P) (L ++ [nI x])) :=
  LMet.of hl (by decide +kernel) (Nat.le_of_ble_eq_true rfl) (fun G hB hL hG hE hI => by subst hB; exact g_c_appC hG hE hT hx h3)
theorem g_c_strSize {G : wG} (hG : wOk G RJ6 cJ6_stringSize_0f7a4 4 0 0) {ws : va_W} {x : Nat} (hE : wEndL G (some .int) (rpl (some (.int (nI (dgn x)))) ws)) (hx : x < 100) : JL G 4 0 0 0 [(0, .int (nI x))] [] (ws) := by
  by_cases h : x < 10
  · refine jl_iconst hG (v := 1) (dt dtJ6_stringSize_0f7a4 0 rfl) (by decide) ?_
    refine jl_istore_n hG (lv' := [(1, .int 1), (0, .int (nI x))]) (dt dtJ6_stringSize_0f7a4 1 rfl) rfl (by decide) rfl ?_
    refine jl_iload_n hG 1 (dt dtJ6_stringSize_0f7a4 2 rfl) rfl rfl ?_
    refine jl_if_lt hG (tgt := 11) (dt dtJ6_stringSize_0f7a4 3 rfl) (by decide) (fun qz => absurd qz (show ¬ nI x < 0 from nI_pos (by omega))) (fun _ => ?_)
    refine jl_iconst hG (v := 0) (dt dtJ6_stringSize_0f7a4 4 rfl) (by decide) ?_
    refine jl_istore_n hG (lv' := [(1, .int 0), (0, .int (nI x))]) (dt dtJ6_stringSize_0f7a4 5 rfl) rfl (by decide) rfl ?_
    refine jl_iload_n hG 1 (dt dtJ6_stringSize_0f7a4 6 rfl) rfl rfl ?_
    refine jl_ineg hG (dt dtJ6_stringSize_0f7a4 7 rfl) ?_
    refine jl_istore_n hG (lv' := [(0, .int ((-nI x))), (1, .int 0)]) (dt dtJ6_stringSize_0f7a4 8 rfl) rfl (by decide) rfl ?_
    refine jl_bipush hG (v := (-10)) (dt dtJ6_stringSize_0f7a4 9 rfl) (by decide) ?_
    refine jl_istore_n hG (lv' := [(2, .int ((-10))), (0, .int ((-nI x))), (1, .int 0)]) (dt dtJ6_stringSize_0f7a4 10 rfl) rfl (by decide) rfl ?_
    refine jl_iconst hG (v := 1) (dt dtJ6_stringSize_0f7a4 11 rfl) (by decide) ?_
    refine jl_istore_n hG (lv' := [(3, .int 1), (2, .int ((-10))), (0, .int ((-nI x))), (1, .int 0)]) (dt dtJ6_stringSize_0f7a4 12 rfl) rfl (by decide) rfl ?_
    refine jl_iload_n hG 0 (dt dtJ6_stringSize_0f7a4 13 rfl) rfl rfl ?_
    refine jl_bipush hG (v := 10) (dt dtJ6_stringSize_0f7a4 14 rfl) (by decide) ?_
    refine jl_icmp_ge hG (tgt := 42) (dt dtJ6_stringSize_0f7a4 15 rfl) (by decide) (fun qz => absurd qz (show ¬ (10 : Int32) ≤ 1 by decide)) (fun _ => ?_)
    refine jl_iload_n hG 2 (dt dtJ6_stringSize_0f7a4 16 rfl) rfl rfl ?_
    refine jl_iload_n hG 1 (dt dtJ6_stringSize_0f7a4 17 rfl) rfl rfl ?_
    refine jl_icmp_le hG (tgt := 31) (dt dtJ6_stringSize_0f7a4 18 rfl) (by decide) (fun qz => absurd qz (show ¬ -nI x ≤ -10 from fun z => by have := (neg_le (a := x) (b := 10) (by omega) (by omega)).mp z; omega)) (fun _ => ?_)
    refine jl_iload_n hG 0 (dt dtJ6_stringSize_0f7a4 19 rfl) rfl rfl ?_
    refine jl_iload_n hG 3 (dt dtJ6_stringSize_0f7a4 20 rfl) rfl rfl ?_
    refine jl_iadd hG (dt dtJ6_stringSize_0f7a4 21 rfl) ?_
    exact jl_iret hG hE ⟨by rw [show dgn x = 1 from if_pos h]; rfl, rfl⟩ (dt dtJ6_stringSize_0f7a4 22 rfl)
  · refine jl_iconst hG (v := 1) (dt dtJ6_stringSize_0f7a4 0 rfl) (by decide) ?_
    refine jl_istore_n hG (lv' := [(1, .int 1), (0, .int (nI x))]) (dt dtJ6_stringSize_0f7a4 1 rfl) rfl (by decide) rfl ?_
    refine jl_iload_n hG 1 (dt dtJ6_stringSize_0f7a4 2 rfl) rfl rfl ?_
    refine jl_if_lt hG (tgt := 11) (dt dtJ6_stringSize_0f7a4 3 rfl) (by decide) (fun qz => absurd qz (show ¬ nI x < 0 from nI_pos (by omega))) (fun _ => ?_)
    refine jl_iconst hG (v := 0) (dt dtJ6_stringSize_0f7a4 4 rfl) (by decide) ?_
    refine jl_istore_n hG (lv' := [(1, .int 0), (0, .int (nI x))]) (dt dtJ6_stringSize_0f7a4 5 rfl) rfl (by decide) rfl ?_
    refine jl_iload_n hG 1 (dt dtJ6_stringSize_0f7a4 6 rfl) rfl rfl ?_
    refine jl_ineg hG (dt dtJ6_stringSize_0f7a4 7 rfl) ?_
    refine jl_istore_n hG (lv' := [(0, .int ((-nI x))), (1, .int 0)]) (dt dtJ6_stringSize_0f7a4 8 rfl) rfl (by decide) rfl ?_
    refine jl_bipush hG (v := (-10)) (dt dtJ6_stringSize_0f7a4 9 rfl) (by decide) ?_
    refine jl_istore_n hG (lv' := [(2, .int ((-10))), (0, .int ((-nI x))), (1, .int 0)]) (dt dtJ6_stringSize_0f7a4 10 rfl) rfl (by decide) rfl ?_
    refine jl_iconst hG (v := 1) (dt dtJ6_stringSize_0f7a4 11 rfl) (by decide) ?_
    refine jl_istore_n hG (lv' := [(3, .int 1), (2, .int ((-10))), (0, .int ((-nI x))), (1, .int 0)]) (dt dtJ6_stringSize_0f7a4 12 rfl) rfl (by decide) rfl ?_
    refine jl_iload_n hG 0 (dt dtJ6_stringSize_0f7a4 13 rfl) rfl rfl ?_
    refine jl_bipush hG (v := 10) (dt dtJ6_stringSize_0f7a4 14 rfl) (by decide) ?_
    refine jl_icmp_ge hG (tgt := 42) (dt dtJ6_stringSize_0f7a4 15 rfl) (by decide) (fun qz => absurd qz (show ¬ (10 : Int32) ≤ 1 by decide)) (fun _ => ?_)
    refine jl_iload_n hG 2 (dt dtJ6_stringSize_0f7a4 16 rfl) rfl rfl ?_
    refine jl_iload_n hG 1 (dt dtJ6_stringSize_0f7a4 17 rfl) rfl rfl ?_
    refine jl_icmp_le hG (tgt := 31) (dt dtJ6_stringSize_0f7a4 18 rfl) (by decide) (fun _ => ?_) (fun qz => absurd (show -nI x ≤ -10 from (neg_le (a := x) (b := 10) (by omega) (by omega)).mpr (by omega)) qz)
    refine jl_bipush hG (v := 10) (dt dtJ6_stringSize_0f7a4 23 rfl) (by decide) ?_
    refine jl_iload_n hG 1 (dt dtJ6_stringSize_0f7a4 24 rfl) rfl rfl ?_
    refine jl_imul hG (dt dtJ6_stringSize_0f7a4 25 rfl) ?_
    rw [show (10 : Int32) * (-10) = -100 by decide]
    refine jl_istore_n hG (lv' := [(2, .int ((-100))), (3, .int 1), (0, .int ((-nI x))), (1, .int 0)]) (dt dtJ6_stringSize_0f7a4 26 rfl) rfl (by decide) rfl ?_
    refine jl_iinc hG 1 (v := 2) (lv' := [(3, .int 2), (2, .int ((-100))), (0, .int ((-nI x))), (1, .int 0)]) (dt dtJ6_stringSize_0f7a4 27 rfl) rfl (by decide) (by decide) rfl ?_
    refine jl_goto hG (tgt := 16) (dt dtJ6_stringSize_0f7a4 28 rfl) (by decide) ?_
    refine jl_iload_n hG 0 (dt dtJ6_stringSize_0f7a4 13 rfl) rfl rfl ?_
    refine jl_bipush hG (v := 10) (dt dtJ6_stringSize_0f7a4 14 rfl) (by decide) ?_
    refine jl_icmp_ge hG (tgt := 42) (dt dtJ6_stringSize_0f7a4 15 rfl) (by decide) (fun qz => absurd qz (show ¬ (10 : Int32) ≤ 2 by decide)) (fun _ => ?_)
    refine jl_iload_n hG 2 (dt dtJ6_stringSize_0f7a4 16 rfl) rfl rfl ?_
    refine jl_iload_n hG 1 (dt dtJ6_stringSize_0f7a4 17 rfl) rfl rfl ?_
    refine jl_icmp_le hG (tgt := 31) (dt dtJ6_stringSize_0f7a4 18 rfl) (by decide) (fun qz => absurd qz (show ¬ -nI x ≤ -100 from fun z => by have := (neg_le (a := x) (b := 100) (by omega) (by omega)).mp z; omega)) (fun _ => ?_)
    refine jl_iload_n hG 0 (dt dtJ6_stringSize_0f7a4 19 rfl) rfl rfl ?_
    refine jl_iload_n hG 3 (dt dtJ6_stringSize_0f7a4 20 rfl) rfl rfl ?_
    refine jl_iadd hG (dt dtJ6_stringSize_0f7a4 21 rfl) ?_
    exact jl_iret hG hE ⟨by rw [show dgn x = 2 from if_neg h]; rfl, rfl⟩ (dt dtJ6_stringSize_0f7a4 22 rfl)
theorem c_strSize {l : Launch} (hl : l.stackTraces = false) {B : wB} {ws : va_W} {x : Nat} (hx : x < 100) : LMet l B yJ6_stringSize_0f7a4 cJ6_stringSize_0f7a4 4 (some .int) 0 0 0 0 [.int (nI x)] (ws) (rpl (some (.int (nI (dgn x)))) ws) :=
  LMet.of hl (by decide +kernel) (Nat.le_of_ble_eq_true rfl) (fun G hB hL hG hE hI => by subst hB; exact g_c_strSize hG hE hx)
theorem g_c_getChars {G : wG} (hG : wOk G RJ6 cJ6_getChars_ba4f3 7 0 0) {ws : va_W} {a k1 P x q : Nat} {f : Nat → Int32} (hE : wEndL G (some .int) (fun v w => v = some (.int (nI (q - dgn x))) ∧ w = ws.set k1 (a, .inl (wdA (gB G) 4, P, .inl (dgf f q x))))) (ha : ws[k1]? = some (a, .inl (wdA (gB G) 4, P, .inl f))) (hx : x < 100) (h1 : dgn x ≤ q) (h2 : q ≤ P) (h3 : P ≤ 5000) : JL G 7 0 0 0 [(0, .int (nI x)), (1, .int (nI q)), (2, .ref a)] [] (ws) := by
  have hq1 : dgn x ≤ 2 ∧ 1 ≤ dgn x := by unfold dgn; split <;> omega
  by_cases h : x < 10
  · have hd : dgn x = 1 := if_pos h
    refine JL.weak (kc := 0) (ks := 0) (by omega) (by omega) ?_
    refine jl_iload_n hG 1 (dt dtJ6_getChars_ba4f3 0 rfl) rfl rfl ?_
    refine jl_istore hG (lv' := [(5, .int (nI q)), (0, .int (nI x)), (1, .int (nI q)), (2, .ref a)]) (dt dtJ6_getChars_ba4f3 1 rfl) (by decide) rfl ?_
    refine jl_iload_n hG 1 (dt dtJ6_getChars_ba4f3 2 rfl) rfl rfl ?_
    refine jl_if_ge hG (tgt := 11) (dt dtJ6_getChars_ba4f3 3 rfl) (by decide) (fun _ => ?_) (fun qz => absurd (show (0 : Int32) ≤ nI x from pos_ge (by omega)) qz)
    refine jl_iconst hG (v := 0) (dt dtJ6_getChars_ba4f3 4 rfl) (by decide) ?_
    refine jl_istore hG (lv' := [(6, .int 0), (5, .int (nI q)), (0, .int (nI x)), (1, .int (nI q)), (2, .ref a)]) (dt dtJ6_getChars_ba4f3 5 rfl) (by decide) rfl ?_
    refine jl_iload hG 0 (dt dtJ6_getChars_ba4f3 6 rfl) rfl ?_
    refine jl_if_ne hG (tgt := 22) (dt dtJ6_getChars_ba4f3 7 rfl) (by decide) (fun qz => absurd (rfl) qz) (fun _ => ?_)
    refine jl_iload_n hG 2 (dt dtJ6_getChars_ba4f3 8 rfl) rfl rfl ?_
    refine jl_ineg hG (dt dtJ6_getChars_ba4f3 9 rfl) ?_
    refine jl_istore_n hG (lv' := [(0, .int ((-nI x))), (6, .int 0), (5, .int (nI q)), (1, .int (nI q)), (2, .ref a)]) (dt dtJ6_getChars_ba4f3 10 rfl) rfl (by decide) rfl ?_
    refine jl_iload_n hG 0 (dt dtJ6_getChars_ba4f3 11 rfl) rfl rfl ?_
    refine jl_bipush hG (v := (-100)) (dt dtJ6_getChars_ba4f3 12 rfl) (by decide) ?_
    refine jl_icmp_gt hG (tgt := 72) (dt dtJ6_getChars_ba4f3 13 rfl) (by decide) (fun _ => ?_) (fun qz => absurd (show (-100 : Int32) < -nI x from (neg_lt (a := 100) (b := x) (by omega) (by omega)).mpr (by omega)) qz)
    refine jl_aload_n hG 4 (dt dtJ6_getChars_ba4f3 14 rfl) rfl rfl ?_
    refine jl_iinc hG 2 (v := nI (q - 1)) (lv' := [(5, .int (nI (q - 1))), (0, .int ((-nI x))), (6, .int 0), (1, .int (nI q)), (2, .ref a)]) (dt dtJ6_getChars_ba4f3 15 rfl) rfl (by have e := pk_m1 (q - 1); rw [show q - 1 + 1 = q by omega] at e; exact e) (by decide) rfl ?_
    refine jl_iload hG 0 (dt dtJ6_getChars_ba4f3 16 rfl) rfl ?_
    refine jl_getsT hG hG.2.2.2.1.2.2.2.2.2.2.1 fk_J6_83 (dt dtJ6_getChars_ba4f3 17 rfl) (fun tOnes htOnes => ?_)
    refine jl_iload_n hG 1 (dt dtJ6_getChars_ba4f3 18 rfl) rfl rfl ?_
    refine jl_ineg hG (dt dtJ6_getChars_ba4f3 19 rfl) ?_
    rw [neg_neg7]
    refine jl_tb hG (v := .int (Int32.ofNat (48 + x % 10))) htOnes (vp_in_nI (by omega) (by omega)) (by rw [nI_clamp (by omega)]) (dt dtJ6_getChars_ba4f3 20 rfl) ?_
    refine jl_bast (ws' := ws.set k1 (a, .inl (wdA (gB G) 4, P, .inl (upd f (nI (q - 1)).toNatClampNeg (Int32.ofNat (48 + x % 10)))))) hG k1 ha (vp_in_nI (by omega) (by omega)) (nar7 (48 + x % 10) (by omega)) rfl (dt dtJ6_getChars_ba4f3 21 rfl) ?_
    refine jl_iload_n hG 1 (dt dtJ6_getChars_ba4f3 22 rfl) rfl rfl ?_
    refine jl_bipush hG (v := (-9)) (dt dtJ6_getChars_ba4f3 23 rfl) (by decide) ?_
    refine jl_icmp_ge hG (tgt := 104) (dt dtJ6_getChars_ba4f3 24 rfl) (by decide) (fun _ => ?_) (fun qz => absurd (show (-9 : Int32) ≤ -nI x from (neg_le (a := 9) (b := x) (by omega) (by omega)).mpr (by omega)) qz)
    refine jl_iload hG 2 (dt dtJ6_getChars_ba4f3 25 rfl) rfl ?_
    refine jl_if_eq hG (tgt := 118) (dt dtJ6_getChars_ba4f3 26 rfl) (by decide) (fun _ => ?_) (fun qz => absurd (rfl) qz)
    refine jl_iload hG 0 (dt dtJ6_getChars_ba4f3 27 rfl) rfl ?_
    exact jl_iret hG hE ⟨by rw [hd], by rw [nI_clamp (by omega), show x % 10 = x by omega]; unfold dgf; rw [if_pos h]; rfl⟩ (dt dtJ6_getChars_ba4f3 28 rfl)
  · have hd : dgn x = 2 := if_neg h
    refine JL.weak (kc := 0) (ks := 0) (by omega) (by omega) ?_
    refine jl_iload_n hG 1 (dt dtJ6_getChars_ba4f3 0 rfl) rfl rfl ?_
    refine jl_istore hG (lv' := [(5, .int (nI q)), (0, .int (nI x)), (1, .int (nI q)), (2, .ref a)]) (dt dtJ6_getChars_ba4f3 1 rfl) (by decide) rfl ?_
    refine jl_iload_n hG 1 (dt dtJ6_getChars_ba4f3 2 rfl) rfl rfl ?_
    refine jl_if_ge hG (tgt := 11) (dt dtJ6_getChars_ba4f3 3 rfl) (by decide) (fun _ => ?_) (fun qz => absurd (show (0 : Int32) ≤ nI x from pos_ge (by omega)) qz)
    refine jl_iconst hG (v := 0) (dt dtJ6_getChars_ba4f3 4 rfl) (by decide) ?_
    refine jl_istore hG (lv' := [(6, .int 0), (5, .int (nI q)), (0, .int (nI x)), (1, .int (nI q)), (2, .ref a)]) (dt dtJ6_getChars_ba4f3 5 rfl) (by decide) rfl ?_
    refine jl_iload hG 0 (dt dtJ6_getChars_ba4f3 6 rfl) rfl ?_
    refine jl_if_ne hG (tgt := 22) (dt dtJ6_getChars_ba4f3 7 rfl) (by decide) (fun qz => absurd (rfl) qz) (fun _ => ?_)
    refine jl_iload_n hG 2 (dt dtJ6_getChars_ba4f3 8 rfl) rfl rfl ?_
    refine jl_ineg hG (dt dtJ6_getChars_ba4f3 9 rfl) ?_
    refine jl_istore_n hG (lv' := [(0, .int ((-nI x))), (6, .int 0), (5, .int (nI q)), (1, .int (nI q)), (2, .ref a)]) (dt dtJ6_getChars_ba4f3 10 rfl) rfl (by decide) rfl ?_
    refine jl_iload_n hG 0 (dt dtJ6_getChars_ba4f3 11 rfl) rfl rfl ?_
    refine jl_bipush hG (v := (-100)) (dt dtJ6_getChars_ba4f3 12 rfl) (by decide) ?_
    refine jl_icmp_gt hG (tgt := 72) (dt dtJ6_getChars_ba4f3 13 rfl) (by decide) (fun _ => ?_) (fun qz => absurd (show (-100 : Int32) < -nI x from (neg_lt (a := 100) (b := x) (by omega) (by omega)).mpr (by omega)) qz)
    refine jl_aload_n hG 4 (dt dtJ6_getChars_ba4f3 14 rfl) rfl rfl ?_
    refine jl_iinc hG 2 (v := nI (q - 1)) (lv' := [(5, .int (nI (q - 1))), (0, .int ((-nI x))), (6, .int 0), (1, .int (nI q)), (2, .ref a)]) (dt dtJ6_getChars_ba4f3 15 rfl) rfl (by have e := pk_m1 (q - 1); rw [show q - 1 + 1 = q by omega] at e; exact e) (by decide) rfl ?_
    refine jl_iload hG 0 (dt dtJ6_getChars_ba4f3 16 rfl) rfl ?_
    refine jl_getsT hG hG.2.2.2.1.2.2.2.2.2.2.1 fk_J6_83 (dt dtJ6_getChars_ba4f3 17 rfl) (fun tOnes htOnes => ?_)
    refine jl_iload_n hG 1 (dt dtJ6_getChars_ba4f3 18 rfl) rfl rfl ?_
    refine jl_ineg hG (dt dtJ6_getChars_ba4f3 19 rfl) ?_
    rw [neg_neg7]
    refine jl_tb hG (v := .int (Int32.ofNat (48 + x % 10))) htOnes (vp_in_nI (by omega) (by omega)) (by rw [nI_clamp (by omega)]) (dt dtJ6_getChars_ba4f3 20 rfl) ?_
    refine jl_bast (ws' := ws.set k1 (a, .inl (wdA (gB G) 4, P, .inl (upd f (nI (q - 1)).toNatClampNeg (Int32.ofNat (48 + x % 10)))))) hG k1 ha (vp_in_nI (by omega) (by omega)) (nar7 (48 + x % 10) (by omega)) rfl (dt dtJ6_getChars_ba4f3 21 rfl) ?_
    refine jl_iload_n hG 1 (dt dtJ6_getChars_ba4f3 22 rfl) rfl rfl ?_
    refine jl_bipush hG (v := (-9)) (dt dtJ6_getChars_ba4f3 23 rfl) (by decide) ?_
    refine jl_icmp_ge hG (tgt := 104) (dt dtJ6_getChars_ba4f3 24 rfl) (by decide) (fun qz => absurd qz (show ¬ (-9 : Int32) ≤ -nI x from fun z => by have := (neg_le (a := 9) (b := x) (by omega) (by omega)).mp z; omega)) (fun _ => ?_)
    refine jl_aload_n hG 4 (dt dtJ6_getChars_ba4f3 29 rfl) rfl rfl ?_
    refine jl_iinc hG 0 (v := nI (q - 2)) (lv' := [(5, .int (nI (q - 2))), (0, .int ((-nI x))), (6, .int 0), (1, .int (nI q)), (2, .ref a)]) (dt dtJ6_getChars_ba4f3 30 rfl) rfl (by have e := pk_m1 (q - 2); rw [show q - 2 + 1 = (q - 1) by omega] at e; exact e) (by decide) rfl ?_
    refine jl_iload hG 0 (dt dtJ6_getChars_ba4f3 31 rfl) rfl ?_
    refine jl_getsT hG hG.2.2.2.1.2.2.2.2.2.2.2 fk_J6_87 (dt dtJ6_getChars_ba4f3 32 rfl) (fun tTens htTens => ?_)
    refine jl_iload_n hG 1 (dt dtJ6_getChars_ba4f3 33 rfl) rfl rfl ?_
    refine jl_ineg hG (dt dtJ6_getChars_ba4f3 34 rfl) ?_
    rw [neg_neg7]
    refine jl_tb hG (v := .int (Int32.ofNat (48 + x / 10))) htTens (vp_in_nI (by omega) (by omega)) (by rw [nI_clamp (by omega)]) (dt dtJ6_getChars_ba4f3 35 rfl) ?_
    refine jl_bast (ws' := ws.set k1 (a, .inl (wdA (gB G) 4, P, .inl (upd (upd f (nI (q - 1)).toNatClampNeg (Int32.ofNat (48 + x % 10))) (nI (q - 2)).toNatClampNeg (Int32.ofNat (48 + x / 10)))))) hG k1 (List.getElem?_set_self (List.getElem?_eq_some_iff.mp ha).1) (vp_in_nI (by omega) (by omega)) (nar7 (48 + x / 10) (by omega)) (by rw [List.set_set]; rfl) (dt dtJ6_getChars_ba4f3 36 rfl) ?_
    refine jl_iload hG 2 (dt dtJ6_getChars_ba4f3 25 rfl) rfl ?_
    refine jl_if_eq hG (tgt := 118) (dt dtJ6_getChars_ba4f3 26 rfl) (by decide) (fun _ => ?_) (fun qz => absurd (rfl) qz)
    refine jl_iload hG 0 (dt dtJ6_getChars_ba4f3 27 rfl) rfl ?_
    exact jl_iret hG hE ⟨by rw [hd], by rw [nI_clamp (by omega), nI_clamp (by omega)]; unfold dgf; rw [if_neg h]; rfl⟩ (dt dtJ6_getChars_ba4f3 28 rfl)
theorem c_getChars {l : Launch} (hl : l.stackTraces = false) {B : wB} {ws : va_W} {a k1 P x q : Nat} {f : Nat → Int32} (ha : ws[k1]? = some (a, .inl (wdA B 4, P, .inl f))) (hx : x < 100) (h1 : dgn x ≤ q) (h2 : q ≤ P) (h3 : P ≤ 5000) : LMet l B yJ6_getChars_ba4f3 cJ6_getChars_ba4f3 7 (some .int) 0 0 0 0 [.int (nI x), .int (nI q), .ref a] (ws) (fun v w => v = some (.int (nI (q - dgn x))) ∧ w = ws.set k1 (a, .inl (wdA B 4, P, .inl (dgf f q x)))) :=
  LMet.of hl (by decide +kernel) (Nat.le_of_ble_eq_true rfl) (fun G hB hL hG hE hI => by subst hB; exact g_c_getChars hG hE ha hx h1 h2 h3)
theorem g_c_appI5 {G : wG} (hG : wOk G RJ5 cJ5_append_c97b9 4 4 104) {w0 : va_W} {sb a P x : Nat} {f : Nat → Int32} {L : List Int32} (hE : wEndL G (some (.object "java/lang/AbstractStringBuilder")) (sbP (gB G) w0 sb (gwP (L.length + dgn x) P) (L ++ l_dec x))) (hT : sbT f P L) (hx : x < 100) (h3 : P ≤ 2000) : JL G 4 (gwc (L.length + dgn x) P) (gws (L.length + dgn x) P) 0 [(0, .ref sb), (1, .int (nI x))] [] (sbw (gB G) w0 sb a P f L) := by
  refine JL.eqw (ws' := w0 ++ [(sb, .inr (1, [.ref a, .int 0, .int 0, .int (nI L.length)])), (a, .inl (wdA (gB G) 4, P, .inl f))]) rfl ?_
  have hG1 : L.length + dgn x ≤ gwP (L.length + dgn x) P := by have := hT.2.1; have : dgn x ≤ 2 := (by unfold dgn; split <;> omega); unfold gwP; split <;> omega
  have hG2 : gwP (L.length + dgn x) P < 5000 := by unfold gwP; split <;> omega
  have hd2 : dgn x ≤ 2 ∧ 1 ≤ dgn x := by unfold dgn; split <;> omega
  refine jl_aload_n hG 0 (dt dtJ5_append_c97b9 0 rfl) rfl rfl ?_
  refine jl_get hG cl_J4 (w0.length + 0) 3 ((app_get _ _ rfl 0).trans rfl) (by decide) fk_J5_79 rfl (dt dtJ5_append_c97b9 1 rfl) ?_
  refine jl_istore_n hG (lv' := [(2, .int (nI L.length)), (0, .ref sb), (1, .int (nI x))]) (dt dtJ5_append_c97b9 2 rfl) rfl (by decide) rfl ?_
  refine jl_iload_n hG 0 (dt dtJ5_append_c97b9 3 rfl) rfl rfl ?_
  refine jl_iload_n hG 2 (dt dtJ5_append_c97b9 4 rfl) rfl rfl ?_
  refine JL.weak (kc := ((gwc (L.length + dgn x) P)) + 0) (ks := ((gws (L.length + dgn x) P)) + 0) (by omega) (by omega) ?_
  refine jl_callS hG (kc := ((gwc (L.length + dgn x) P))) (ks := ((gws (L.length + dgn x) P))) (c_strSize hG.2.2.1 hx) mf_J6_stringSize_0f7a4 ml_J5_245 rfl (rest := [.int (nI L.length)]) rfl (Nat.le_of_ble_eq_true rfl) (dt dtJ5_append_c97b9 5 rfl) (by decide) (by decide) (fun v w h => ?_)
  obtain ⟨rfl, rfl⟩ := h
  refine jl_iadd hG (dt dtJ5_append_c97b9 6 rfl) ?_
  rw [nI_add]
  refine jl_istore_n hG (lv' := [(3, .int (nI (L.length + dgn x))), (2, .int (nI L.length)), (0, .ref sb), (1, .int (nI x))]) (dt dtJ5_append_c97b9 7 rfl) rfl (by decide) rfl ?_
  refine jl_aload_n hG 2 (dt dtJ5_append_c97b9 8 rfl) rfl rfl ?_
  refine jl_iload_n hG 0 (dt dtJ5_append_c97b9 9 rfl) rfl rfl ?_
  refine JL.weak (kc := 0 + (gwc (L.length + dgn x) P)) (ks := 0 + (gws (L.length + dgn x) P)) (by omega) (by omega) ?_
  refine jl_callV hG (kc := 0) (ks := 0) (c_ensure hG.2.2.1 hT (by have := hT.2.1; omega) h3) mi_J5_ensureCapacityInternal_d00df ml_J5_100 (w0.length + 0) ((app_get _ _ rfl 0).trans rfl) rfl (sel_priv (hG.word sl_isL) rfl ⟨by decide +kernel, by decide +kernel⟩ (hG.word pm_ensure) (hG.word mi_J5_ensureCapacityInternal_d00df.2)) rfl (rest := []) rfl (Nat.le_of_ble_eq_true rfl) (dt dtJ5_append_c97b9 10 rfl) (by decide) (by decide) (fun v w h => ?_)
  obtain ⟨rfl, a2, f2, rfl, hT2⟩ := h
  refine JL.eqw (ws' := w0 ++ [(sb, .inr (1, [.ref a2, .int 0, .int 0, .int (nI L.length)])), (a2, .inl (wdA (gB G) 4, (gwP (L.length + dgn x) P), .inl f2))]) rfl ?_
  refine jl_aload_n hG 2 (dt dtJ5_append_c97b9 11 rfl) rfl rfl ?_
  refine JL.weak (kc := 0 + 0) (ks := 0 + 0) (by omega) (by omega) ?_
  refine jl_callV hG (kc := 0) (ks := 0) (c_isL hG.2.2.1 ((app_get _ _ rfl 0).trans rfl)) mi_J5_isLatin1_aae02 ml_J5_83 (w0.length + 0) ((app_get _ _ rfl 0).trans rfl) rfl (hG.word sl_isL) rfl (rest := []) rfl (Nat.le_of_ble_eq_true rfl) (dt dtJ5_append_c97b9 12 rfl) (by decide) (by decide) (fun v w h => ?_)
  obtain ⟨rfl, rfl⟩ := h
  refine jl_if_eq hG (tgt := 37) (dt dtJ5_append_c97b9 13 rfl) (by decide) (fun qz => absurd qz (show ¬ (1 : Int32) = 0 by decide)) (fun _ => ?_)
  refine jl_iload_n hG 3 (dt dtJ5_append_c97b9 14 rfl) rfl rfl ?_
  refine jl_iload_n hG 0 (dt dtJ5_append_c97b9 15 rfl) rfl rfl ?_
  refine jl_aload_n hG 2 (dt dtJ5_append_c97b9 16 rfl) rfl rfl ?_
  refine jl_get hG cl_J4 (w0.length + 0) 0 ((app_get _ _ rfl 0).trans rfl) (by decide) fk_J5_15 rfl (dt dtJ5_append_c97b9 17 rfl) ?_
  refine JL.weak (kc := 0 + 0) (ks := 0 + 0) (by omega) (by omega) ?_
  refine jl_callS hG (kc := 0) (ks := 0) (c_getChars hG.2.2.1 ((app_get _ _ rfl 1).trans rfl) hx (by omega) hG1 (by omega)) mf_J6_getChars_ba4f3 ml_J5_248 rfl (rest := []) rfl (Nat.le_of_ble_eq_true rfl) (dt dtJ5_append_c97b9 18 rfl) (by decide) (by decide) (fun v w h => ?_)
  obtain ⟨rfl, rfl⟩ := h
  refine JL.eqw (ws' := w0 ++ [(sb, .inr (1, [.ref a2, .int 0, .int 0, .int (nI L.length)])), (a2, .inl (wdA (gB G) 4, (gwP (L.length + dgn x) P), .inl (dgf f2 (L.length + dgn x) x)))]) ((app_set _ _ rfl 1 _).trans rfl) ?_
  refine jl_pop hG (dt dtJ5_append_c97b9 19 rfl) rfl ?_
  refine jl_goto hG (tgt := 48) (dt dtJ5_append_c97b9 20 rfl) (by decide) ?_
  refine jl_aload_n hG 2 (dt dtJ5_append_c97b9 21 rfl) rfl rfl ?_
  refine jl_iload_n hG 0 (dt dtJ5_append_c97b9 22 rfl) rfl rfl ?_
  refine jl_put (ws' := w0 ++ [(sb, .inr (1, [.ref a2, .int 0, .int 0, .int (nI (L.length + dgn x))])), (a2, .inl (wdA (gB G) 4, (gwP (L.length + dgn x) P), .inl (dgf f2 (L.length + dgn x) x)))]) hG cl_J4 (w0.length + 0) 3 ((app_get _ _ rfl 0).trans rfl) (by decide) fk_J5_79 rfl rfl rfl rfl (Nat.le_of_ble_eq_true rfl) ((app_set _ _ rfl 0 _).trans rfl) (dt dtJ5_append_c97b9 23 rfl) ?_
  refine jl_aload_n hG 2 (dt dtJ5_append_c97b9 24 rfl) rfl rfl ?_
  exact jl_aret hG hE (Or.inl ⟨_, rfl⟩) ⟨rfl, a2, _, by unfold sbw; rw [List.length_append, l_dec_len], sbT_dec hT2 hx hG1⟩ (dt dtJ5_append_c97b9 25 rfl)
theorem c_appI5 {l : Launch} (hl : l.stackTraces = false) {B : wB} {w0 : va_W} {sb a P x : Nat} {f : Nat → Int32} {L : List Int32} (hT : sbT f P L) (hx : x < 100) (h3 : P ≤ 2000) : LMet l B yJ5_append_c97b9 cJ5_append_c97b9 4 (some (.object "java/lang/AbstractStringBuilder")) 4 104 (gwc (L.length + dgn x) P) (gws (L.length + dgn x) P) [.ref sb, .int (nI x)] (sbw B w0 sb a P f L) (sbP B w0 sb (gwP (L.length + dgn x) P) (L ++ l_dec x)) :=
  LMet.of hl (by decide +kernel) (Nat.le_of_ble_eq_true rfl) (fun G hB hL hG hE hI => by subst hB; exact g_c_appI5 hG hE hT hx h3)
theorem g_c_appI {G : wG} (hG : wOk G RJ4 cJ4_append_bf812 2 5 127) {w0 : va_W} {sb a P x : Nat} {f : Nat → Int32} {L : List Int32} (hE : wEndL G (some (.object "java/lang/StringBuilder")) (sbP (gB G) w0 sb (gwP (L.length + dgn x) P) (L ++ l_dec x))) (hT : sbT f P L) (hx : x < 100) (h3 : P ≤ 2000) : JL G 2 (gwc (L.length + dgn x) P) (gws (L.length + dgn x) P) 0 [(0, .ref sb), (1, .int (nI x))] [] (sbw (gB G) w0 sb a P f L) := by
  refine JL.eqw (ws' := w0 ++ [(sb, .inr (1, [.ref a, .int 0, .int 0, .int (nI L.length)])), (a, .inl (wdA (gB G) 4, P, .inl f))]) rfl ?_
  refine jl_aload_n hG 0 (dt dtJ4_append_bf812 0 rfl) rfl rfl ?_
  refine jl_iload_n hG 1 (dt dtJ4_append_bf812 1 rfl) rfl rfl ?_
  refine JL.weak (kc := 0 + (gwc (L.length + dgn x) P)) (ks := 0 + (gws (L.length + dgn x) P)) (by omega) (by omega) ?_
  refine jl_callSU hG (kc := 0) (ks := 0) (c_appI5 hG.2.2.1 hT hx h3) mi_J5_append_c97b9 ml_J4_53 ⟨sm_appI, su_SB, by decide +kernel⟩ (w0.length + 0) ((app_get _ _ rfl 0).trans rfl) rfl rfl (rest := []) rfl (Nat.le_of_ble_eq_true rfl) (dt dtJ4_append_bf812 2 rfl) (by decide) (by decide) (fun v w h => ?_)
  obtain ⟨rfl, a2, f2, rfl, hT2⟩ := h
  refine jl_pop hG (dt dtJ4_append_bf812 3 rfl) rfl ?_
  refine jl_aload_n hG 0 (dt dtJ4_append_bf812 4 rfl) rfl rfl ?_
  exact jl_aret hG hE (Or.inl ⟨_, rfl⟩) ⟨rfl, a2, f2, rfl, hT2⟩ (dt dtJ4_append_bf812 5 rfl)
theorem c_appI {l : Launch} (hl : l.stackTraces = false) {B : wB} {w0 : va_W} {sb a P x : Nat} {f : Nat → Int32} {L : List Int32} (hT : sbT f P L) (hx : x < 100) (h3 : P ≤ 2000) : LMet l B yJ4_append_bf812 cJ4_append_bf812 2 (some (.object "java/lang/StringBuilder")) 5 127 (gwc (L.length + dgn x) P) (gws (L.length + dgn x) P) [.ref sb, .int (nI x)] (sbw B w0 sb a P f L) (sbP B w0 sb (gwP (L.length + dgn x) P) (L ++ l_dec x)) :=
  LMet.of hl (by decide +kernel) (Nat.le_of_ble_eq_true rfl) (fun G hB hL hG hE hI => by subst hB; exact g_c_appI hG hE hT hx h3)
theorem g_c_sbI5 {G : wG} (hG : wOk G RJ5 cJ5_init_d00df 2 1 12) {w0 : va_W} {sb : Nat} (hE : wEndL G none (fun v w => v = none ∧ ∃ a f, w = sbw (gB G) w0 sb a 16 f [] ∧ sbT f 16 [])) (hI : (gme G).name = "<init>") : JL G 2 1 16 0 [(0, .ref sb), (1, .int 16)] [] (w0 ++ [(sb, .inr (1, [.null, .int 0, .int 0, .int 0]))]) := by
  refine jl_aload_n hG 0 (dt dtJ5_init_d00df 0 rfl) rfl rfl ?_
  refine jl_objInit hG (wTs_in 817 (by decide +kernel) rfl) oi_w (by decide) (Nat.le_of_ble_eq_true rfl) (dt dtJ5_init_d00df 1 rfl) ?_
  refine jl_gets1 hG fk_J5_18 (dt dtJ5_init_d00df 2 rfl) ?_
  refine jl_if_eq hG (tgt := 25) (dt dtJ5_init_d00df 3 rfl) (by decide) (fun qz => absurd qz (show ¬ (1 : Int32) = 0 by decide)) (fun _ => ?_)
  refine jl_aload_n hG 0 (dt dtJ5_init_d00df 4 rfl) rfl rfl ?_
  refine jl_iload_n hG 1 (dt dtJ5_init_d00df 5 rfl) rfl rfl ?_
  refine JL.weak (kc := 0 + 1) (ks := 0 + 16) (by omega) (by omega) ?_
  refine jl_newa hG (atype := .byte) (N := 16) 4 rfl (wTs_in 451 (by decide +kernel) rfl) rfl (16, .inl (fun _ => 0)) (fun _ => rfl) (by decide) (by decide) (Nat.le_of_ble_eq_true rfl) (dt dtJ5_init_d00df 6 rfl) (fun q1 => ?_)
  refine JL.eqw (ws' := w0 ++ [(sb, .inr (1, [.null, .int 0, .int 0, .int 0])), (q1, .inl (wdA (gB G) 4, 16, .inl (fun _ => 0)))]) (by rw [List.append_assoc]; rfl) ?_
  refine jl_put (ws' := w0 ++ [(sb, .inr (1, [.ref q1, .int 0, .int 0, .int 0])), (q1, .inl (wdA (gB G) 4, 16, .inl (fun _ => 0)))]) hG cl_J4 (w0.length + 0) 0 ((app_get _ _ rfl 0).trans rfl) (by decide) fk_J5_15 rfl rfl rfl rfl (Nat.le_of_ble_eq_true rfl) ((app_set _ _ rfl 0 _).trans rfl) (dt dtJ5_init_d00df 7 rfl) ?_
  refine jl_aload_n hG 0 (dt dtJ5_init_d00df 8 rfl) rfl rfl ?_
  refine jl_iconst hG (v := 0) (dt dtJ5_init_d00df 9 rfl) (by decide) ?_
  refine jl_put (ws' := w0 ++ [(sb, .inr (1, [.ref q1, .int 0, .int 0, .int 0])), (q1, .inl (wdA (gB G) 4, 16, .inl (fun _ => 0)))]) hG cl_J4 (w0.length + 0) 1 ((app_get _ _ rfl 0).trans rfl) (by decide) fk_J5_22 rfl rfl (by decide) (by decide) (Nat.le_of_ble_eq_true rfl) ((app_set _ _ rfl 0 _).trans rfl) (dt dtJ5_init_d00df 10 rfl) ?_
  refine jl_goto hG (tgt := 38) (dt dtJ5_init_d00df 11 rfl) (by decide) ?_
  exact jl_vret hG hE ⟨rfl, _, _, rfl, sb_fit0, Nat.zero_le _, fun j hj => absurd hj (Nat.not_lt_zero j)⟩ (dt dtJ5_init_d00df 12 rfl)
theorem c_sbI5 {l : Launch} (hl : l.stackTraces = false) {B : wB} {w0 : va_W} {sb : Nat} : LMet l B yJ5_init_d00df cJ5_init_d00df 2 none 1 12 1 16 [.ref sb, .int 16] (w0 ++ [(sb, .inr (1, [.null, .int 0, .int 0, .int 0]))]) (fun v w => v = none ∧ ∃ a f, w = sbw B w0 sb a 16 f [] ∧ sbT f 16 []) :=
  LMet.of hl (by decide +kernel) (Nat.le_of_ble_eq_true rfl) (fun G hB hL hG hE hI => by subst hB; exact g_c_sbI5 hG hE hI)
theorem g_c_sbI {G : wG} (hG : wOk G RJ4 cJ4_init_da8c8 1 2 33) {w0 : va_W} {sb : Nat} (hE : wEndL G none (fun v w => v = none ∧ ∃ a f, w = sbw (gB G) w0 sb a 16 f [] ∧ sbT f 16 [])) (hI : (gme G).name = "<init>") : JL G 1 1 16 0 [(0, .ref sb)] [] (w0 ++ [(sb, .inr (1, [.null, .int 0, .int 0, .int 0]))]) := by
  refine jl_aload_n hG 0 (dt dtJ4_init_da8c8 0 rfl) rfl rfl ?_
  refine jl_bipush hG (v := 16) (dt dtJ4_init_da8c8 1 rfl) (by decide) ?_
  refine JL.weak (kc := 0 + 1) (ks := 0 + 16) (by omega) (by omega) ?_
  refine jl_callI hG (kc := 0) (ks := 0) (c_sbI5 hG.2.2.1) mi_J5_init_d00df ml_J4_1 rfl rfl (rest := []) rfl (Nat.le_of_ble_eq_true rfl) (dt dtJ4_init_da8c8 2 rfl) (by decide) (by decide) (fun v w h => ?_)
  obtain ⟨rfl, a, f, rfl, hT⟩ := h
  exact jl_vret hG hE ⟨rfl, a, f, rfl, hT⟩ (dt dtJ4_init_da8c8 3 rfl)
theorem c_sbI {l : Launch} (hl : l.stackTraces = false) {B : wB} {w0 : va_W} {sb : Nat} : LMet l B yJ4_init_da8c8 cJ4_init_da8c8 1 none 2 33 1 16 [.ref sb] (w0 ++ [(sb, .inr (1, [.null, .int 0, .int 0, .int 0]))]) (fun v w => v = none ∧ ∃ a f, w = sbw B w0 sb a 16 f [] ∧ sbT f 16 []) :=
  LMet.of hl (by decide +kernel) (Nat.le_of_ble_eq_true rfl) (fun G hB hL hG hE hI => by subst hB; exact g_c_sbI hG hE hI)
theorem g_c_getV {G : wG} (hG : wOk G RJ5 cJ5_getValue_6d5f1 1 0 0) {ws : va_W} {sb a k0 : Nat} {c : Int32} (hE : wEndL G (some (.array .byte)) (rpl (some (.ref a)) ws)) (he : ws[k0]? = some (sb, .inr (1, [.ref a, .int 0, .int 0, .int c]))) : JL G 1 0 0 0 [(0, .ref sb)] [] (ws) := by
  refine jl_aload_n hG 0 (dt dtJ5_getValue_6d5f1 0 rfl) rfl rfl ?_
  refine jl_get hG cl_J4 k0 0 he (by decide) fk_J5_15 rfl (dt dtJ5_getValue_6d5f1 1 rfl) ?_
  exact jl_aret hG hE (Or.inr ⟨_, rfl⟩) ⟨rfl, rfl⟩ (dt dtJ5_getValue_6d5f1 2 rfl)
theorem c_getV {l : Launch} (hl : l.stackTraces = false) {B : wB} {ws : va_W} {sb a k0 : Nat} {c : Int32} (he : ws[k0]? = some (sb, .inr (1, [.ref a, .int 0, .int 0, .int c]))) : LMet l B yJ5_getValue_6d5f1 cJ5_getValue_6d5f1 1 (some (.array .byte)) 0 0 0 0 [.ref sb] (ws) (rpl (some (.ref a)) ws) :=
  LMet.of hl (by decide +kernel) (Nat.le_of_ble_eq_true rfl) (fun G hB hL hG hE hI => by subst hB; exact g_c_getV hG hE he)
theorem g_c_len5 {G : wG} (hG : wOk G RJ5 cJ5_length_8abf5 1 0 0) {ws : va_W} {sb a k0 : Nat} {c : Int32} (hE : wEndL G (some .int) (rpl (some (.int c)) ws)) (he : ws[k0]? = some (sb, .inr (1, [.ref a, .int 0, .int 0, .int c]))) : JL G 1 0 0 0 [(0, .ref sb)] [] (ws) := by
  refine jl_aload_n hG 0 (dt dtJ5_length_8abf5 0 rfl) rfl rfl ?_
  refine jl_get hG cl_J4 k0 3 he (by decide) fk_J5_79 rfl (dt dtJ5_length_8abf5 1 rfl) ?_
  exact jl_iret hG hE ⟨rfl, rfl⟩ (dt dtJ5_length_8abf5 2 rfl)
theorem c_len5 {l : Launch} (hl : l.stackTraces = false) {B : wB} {ws : va_W} {sb a k0 : Nat} {c : Int32} (he : ws[k0]? = some (sb, .inr (1, [.ref a, .int 0, .int 0, .int c]))) : LMet l B yJ5_length_8abf5 cJ5_length_8abf5 1 (some .int) 0 0 0 0 [.ref sb] (ws) (rpl (some (.int c)) ws) :=
  LMet.of hl (by decide +kernel) (Nat.le_of_ble_eq_true rfl) (fun G hB hL hG hE hI => by subst hB; exact g_c_len5 hG hE he)
theorem g_c_len4 {G : wG} (hG : wOk G RJ4 cJ4_length_8abf5 1 1 20) {ws : va_W} {sb a k0 : Nat} {c : Int32} (hE : wEndL G (some .int) (rpl (some (.int c)) ws)) (he : ws[k0]? = some (sb, .inr (1, [.ref a, .int 0, .int 0, .int c]))) : JL G 1 0 0 0 [(0, .ref sb)] [] (ws) := by
  refine jl_aload_n hG 0 (dt dtJ4_length_8abf5 0 rfl) rfl rfl ?_
  refine JL.weak (kc := 0 + 0) (ks := 0 + 0) (by omega) (by omega) ?_
  refine jl_callSU hG (kc := 0) (ks := 0) (c_len5 hG.2.2.1 he) mi_J5_length_8abf5 ml_J4_343 ⟨sm_len, su_SB, by decide +kernel⟩ k0 he rfl rfl (rest := []) rfl (Nat.le_of_ble_eq_true rfl) (dt dtJ4_length_8abf5 1 rfl) (by decide) (by decide) (fun v w h => ?_)
  obtain ⟨rfl, rfl⟩ := h
  exact jl_iret hG hE ⟨rfl, rfl⟩ (dt dtJ4_length_8abf5 2 rfl)
theorem c_len4 {l : Launch} (hl : l.stackTraces = false) {B : wB} {ws : va_W} {sb a k0 : Nat} {c : Int32} (he : ws[k0]? = some (sb, .inr (1, [.ref a, .int 0, .int 0, .int c]))) : LMet l B yJ4_length_8abf5 cJ4_length_8abf5 1 (some .int) 1 20 0 0 [.ref sb] (ws) (rpl (some (.int c)) ws) :=
  LMet.of hl (by decide +kernel) (Nat.le_of_ble_eq_true rfl) (fun G hB hL hG hE hI => by subst hB; exact g_c_len4 hG hE he)
theorem g_c_chkLen {G : wG} (hG : wOk G RJ7 cJ7_checkLength_df160 2 0 0) {ws : va_W} {q : Nat} (hE : wEndL G none (rpl none ws)) (h2 : q ≤ 5000) : JL G 2 0 0 0 [(0, .int 0), (1, .int (nI q))] [] (ws) := by
  refine jl_iload_n hG 1 (dt dtJ7_checkLength_df160 0 rfl) rfl rfl ?_
  refine jl_iload_n hG 0 (dt dtJ7_checkLength_df160 1 rfl) rfl rfl ?_
  refine jl_icmp_ge hG (tgt := 37) (dt dtJ7_checkLength_df160 2 rfl) (by decide) (fun _ => ?_) (fun qz => absurd (show (0 : Int32) ≤ nI q from pos_ge (by omega)) qz)
  exact jl_vret hG hE ⟨rfl, rfl⟩ (dt dtJ7_checkLength_df160 3 rfl)
theorem c_chkLen {l : Launch} (hl : l.stackTraces = false) {B : wB} {ws : va_W} {q : Nat} (h2 : q ≤ 5000) : LMet l B yJ7_checkLength_df160 cJ7_checkLength_df160 2 none 0 0 0 0 [.int 0, .int (nI q)] (ws) (rpl none ws) :=
  LMet.of hl (by decide +kernel) (Nat.le_of_ble_eq_true rfl) (fun G hB hL hG hE hI => by subst hB; exact g_c_chkLen hG hE h2)
theorem g_c_rangeB {G : wG} (hG : wOk G RJ7 cJ7_copyOfRangeByte_39247 5 1 60) {ws : va_W} {a k1 P q : Nat} {f : Nat → Int32} (hE : wEndL G (some (.array .byte)) (fun v w => ∃ b g, v = some (.ref b) ∧ w = ws ++ [(b, .inl (wdA (gB G) 4, q, .inl g))] ∧ ∀ j, j < q → g j = f j)) (ha : ws[k1]? = some (a, .inl (wdA (gB G) 4, P, .inl f))) (hf : sb_Fit f) (h1 : q ≤ P) (h2 : P ≤ 5000) : JL G 5 1 q 0 [(0, .ref a), (1, .int 0), (2, .int (nI q))] [] (ws) := by
  refine jl_iload_n hG 1 (dt dtJ7_copyOfRangeByte_39247 0 rfl) rfl rfl ?_
  refine jl_iload_n hG 2 (dt dtJ7_copyOfRangeByte_39247 1 rfl) rfl rfl ?_
  refine JL.weak (kc := 1 + 0) (ks := q + 0) (by omega) (by omega) ?_
  refine jl_callS hG (kc := 1) (ks := q) (c_chkLen hG.2.2.1 (by omega)) mf_J7_checkLength_df160 ml_J7_343 rfl (rest := []) rfl (Nat.le_of_ble_eq_true rfl) (dt dtJ7_copyOfRangeByte_39247 2 rfl) (by decide) (by decide) (fun v w h => ?_)
  obtain ⟨rfl, rfl⟩ := h
  refine jl_iload_n hG 2 (dt dtJ7_copyOfRangeByte_39247 3 rfl) rfl rfl ?_
  refine jl_iload_n hG 1 (dt dtJ7_copyOfRangeByte_39247 4 rfl) rfl rfl ?_
  refine jl_isub hG (dt dtJ7_copyOfRangeByte_39247 5 rfl) ?_
  rw [show nI q - 0 = nI q from pk_sub (a := q) (b := 0) (by omega)]
  refine jl_istore_n hG (lv' := [(3, .int (nI q)), (0, .ref a), (1, .int 0), (2, .int (nI q))]) (dt dtJ7_copyOfRangeByte_39247 6 rfl) rfl (by decide) rfl ?_
  refine jl_iload_n hG 0 (dt dtJ7_copyOfRangeByte_39247 7 rfl) rfl rfl ?_
  refine JL.weak (kc := 0 + 1) (ks := 0 + q) (by omega) (by omega) ?_
  refine jl_newa hG (atype := .byte) (N := q) 4 rfl (wTs_in 451 (by decide +kernel) rfl) rfl (q, .inl (fun _ => 0)) (fun _ => rfl) (nI_pos (by omega)) (nI_clamp (by omega)) (by show q * 1 ≤ _; omega) (dt dtJ7_copyOfRangeByte_39247 8 rfl) (fun q1 => ?_)
  refine jl_astore hG (lv' := [(4, .ref q1), (3, .int (nI q)), (0, .ref a), (1, .int 0), (2, .int (nI q))]) (dt dtJ7_copyOfRangeByte_39247 9 rfl) (by decide) rfl ?_
  refine jl_aload_n hG 2 (dt dtJ7_copyOfRangeByte_39247 10 rfl) rfl rfl ?_
  refine jl_iload_n hG 3 (dt dtJ7_copyOfRangeByte_39247 11 rfl) rfl rfl ?_
  refine jl_aload hG 0 (dt dtJ7_copyOfRangeByte_39247 12 rfl) rfl ?_
  refine jl_iconst hG (v := 0) (dt dtJ7_copyOfRangeByte_39247 13 rfl) (by decide) ?_
  refine jl_aload_n hG 2 (dt dtJ7_copyOfRangeByte_39247 14 rfl) rfl rfl ?_
  refine jl_alen hG (v := nI P) k1 4 (app_lt ha) rfl rfl (dt dtJ7_copyOfRangeByte_39247 15 rfl) ?_
  refine jl_iload_n hG 3 (dt dtJ7_copyOfRangeByte_39247 16 rfl) rfl rfl ?_
  refine jl_isub hG (dt dtJ7_copyOfRangeByte_39247 17 rfl) ?_
  rw [show nI P - 0 = nI P from pk_sub (a := P) (b := 0) (by omega)]
  refine jl_iload_n hG 1 (dt dtJ7_copyOfRangeByte_39247 18 rfl) rfl rfl ?_
  refine jl_mmin hG mlm_J7_304 mm_min.1 mm_min.2.1 mm_min.2.2 (dt dtJ7_copyOfRangeByte_39247 19 rfl) (by decide) (Nat.le_of_ble_eq_true rfl) ?_
  rw [show (if nI q < nI P then nI q else nI P) = nI q from min_q h1 (by omega)]
  refine jl_copyb (ws' := ws ++ [(q1, .inl (wdA (gB G) 4, q, .inl (va_cpy f (fun _ => 0) (0 : Int32).toNatClampNeg (0 : Int32).toNatClampNeg (nI q).toNatClampNeg)))]) hG k1 (ws.length + 0) ac_J7 ac_w (app_lt ha) ((app_get _ _ rfl 0).trans rfl) (by decide) (by decide) (nI_pos (by omega)) (by rw [nI_clamp (by omega)]; show 0 + q ≤ P; omega) (by rw [nI_clamp (by omega)]; show 0 + q ≤ q; omega) (fun _ _ => hf _) ((app_set _ _ rfl 0 _).trans rfl) (by decide) (Nat.le_of_ble_eq_true rfl) (dt dtJ7_copyOfRangeByte_39247 20 rfl) ?_
  refine jl_aload hG 0 (dt dtJ7_copyOfRangeByte_39247 21 rfl) rfl ?_
  exact jl_aret hG hE (Or.inr ⟨_, rfl⟩) ⟨_, _, rfl, rfl, fun j hj => by rw [nI_clamp (by omega)]; exact sb_cpy0 hj⟩ (dt dtJ7_copyOfRangeByte_39247 22 rfl)
theorem c_rangeB {l : Launch} (hl : l.stackTraces = false) {B : wB} {ws : va_W} {a k1 P q : Nat} {f : Nat → Int32} (ha : ws[k1]? = some (a, .inl (wdA B 4, P, .inl f))) (hf : sb_Fit f) (h1 : q ≤ P) (h2 : P ≤ 5000) : LMet l B yJ7_copyOfRangeByte_39247 cJ7_copyOfRangeByte_39247 5 (some (.array .byte)) 1 60 1 q [.ref a, .int 0, .int (nI q)] (ws) (fun v w => ∃ b g, v = some (.ref b) ∧ w = ws ++ [(b, .inl (wdA B 4, q, .inl g))] ∧ ∀ j, j < q → g j = f j) :=
  LMet.of hl (by decide +kernel) (Nat.le_of_ble_eq_true rfl) (fun G hB hL hG hE hI => by subst hB; exact g_c_rangeB hG hE ha hf h1 h2)
theorem g_c_range {G : wG} (hG : wOk G RJ7 cJ7_copyOfRange_39247 3 2 84) {ws : va_W} {a k1 P q : Nat} {f : Nat → Int32} (hE : wEndL G (some (.array .byte)) (fun v w => ∃ b g, v = some (.ref b) ∧ w = ws ++ [(b, .inl (wdA (gB G) 4, q, .inl g))] ∧ ∀ j, j < q → g j = f j)) (ha : ws[k1]? = some (a, .inl (wdA (gB G) 4, P, .inl f))) (hf : sb_Fit f) (h1 : q ≤ P) (h2 : P ≤ 5000) : JL G 3 1 q 0 [(0, .ref a), (1, .int 0), (2, .int (nI q))] [] (ws) := by
  by_cases h : q = P
  · rw [show JL G 3 1 q 0 = JL G 3 1 P 0 by rw [h]]
    refine jl_iload_n hG 1 (dt dtJ7_copyOfRange_39247 0 rfl) rfl rfl ?_
    refine jl_if_ne hG (tgt := 10) (dt dtJ7_copyOfRange_39247 1 rfl) (by decide) (fun qz => absurd (rfl) qz) (fun _ => ?_)
    refine jl_iload_n hG 2 (dt dtJ7_copyOfRange_39247 2 rfl) rfl rfl ?_
    refine jl_aload_n hG 0 (dt dtJ7_copyOfRange_39247 3 rfl) rfl rfl ?_
    refine jl_alen hG (v := nI P) k1 4 ha rfl rfl (dt dtJ7_copyOfRange_39247 4 rfl) ?_
    refine jl_icmp_eq hG (tgt := 17) (dt dtJ7_copyOfRange_39247 5 rfl) (by decide) (fun _ => ?_) (fun qz => absurd (show nI q = nI P from by rw [h]) qz)
    refine jl_aload_n hG 0 (dt dtJ7_copyOfRange_39247 6 rfl) rfl rfl ?_
    refine JL.weak (kc := 0 + 1) (ks := 0 + P) (by omega) (by omega) ?_
    refine jl_cloneb hG k1 cw_l cw_w ha (fun i _ => hf i) (by decide) (Nat.le_of_ble_eq_true rfl) (dt dtJ7_copyOfRange_39247 7 rfl) (fun b => ?_)
    refine jl_castA hG (ws.length + 0) cw_c ((app_get _ _ rfl 0).trans rfl) (dt dtJ7_copyOfRange_39247 8 rfl) ?_
    exact jl_aret hG hE (Or.inr ⟨_, rfl⟩) ⟨b, f, rfl, by rw [h], fun j _ => rfl⟩ (dt dtJ7_copyOfRange_39247 9 rfl)
  · refine jl_iload_n hG 1 (dt dtJ7_copyOfRange_39247 0 rfl) rfl rfl ?_
    refine jl_if_ne hG (tgt := 10) (dt dtJ7_copyOfRange_39247 1 rfl) (by decide) (fun qz => absurd (rfl) qz) (fun _ => ?_)
    refine jl_iload_n hG 2 (dt dtJ7_copyOfRange_39247 2 rfl) rfl rfl ?_
    refine jl_aload_n hG 0 (dt dtJ7_copyOfRange_39247 3 rfl) rfl rfl ?_
    refine jl_alen hG (v := nI P) k1 4 ha rfl rfl (dt dtJ7_copyOfRange_39247 4 rfl) ?_
    refine jl_icmp_eq hG (tgt := 17) (dt dtJ7_copyOfRange_39247 5 rfl) (by decide) (fun qz => absurd qz (show ¬ nI q = nI P from fun z => h ((nI_eq (a := q) (b := P) (by omega) (by omega)).mp z))) (fun _ => ?_)
    refine jl_aload_n hG 0 (dt dtJ7_copyOfRange_39247 10 rfl) rfl rfl ?_
    refine jl_iload_n hG 1 (dt dtJ7_copyOfRange_39247 11 rfl) rfl rfl ?_
    refine jl_iload_n hG 2 (dt dtJ7_copyOfRange_39247 12 rfl) rfl rfl ?_
    refine JL.weak (kc := 0 + 1) (ks := 0 + q) (by omega) (by omega) ?_
    refine jl_callS hG (kc := 0) (ks := 0) (c_rangeB hG.2.2.1 ha hf h1 h2) mf_J7_copyOfRangeByte_39247 ml_J7_339 rfl (rest := []) rfl (Nat.le_of_ble_eq_true rfl) (dt dtJ7_copyOfRange_39247 13 rfl) (by decide) (by decide) (fun v w h => ?_)
    obtain ⟨b, g, rfl, rfl, hg⟩ := h
    exact jl_aret hG hE (Or.inr ⟨_, rfl⟩) ⟨b, g, rfl, rfl, hg⟩ (dt dtJ7_copyOfRange_39247 14 rfl)
theorem c_range {l : Launch} (hl : l.stackTraces = false) {B : wB} {ws : va_W} {a k1 P q : Nat} {f : Nat → Int32} (ha : ws[k1]? = some (a, .inl (wdA B 4, P, .inl f))) (hf : sb_Fit f) (h1 : q ≤ P) (h2 : P ≤ 5000) : LMet l B yJ7_copyOfRange_39247 cJ7_copyOfRange_39247 3 (some (.array .byte)) 2 84 1 q [.ref a, .int 0, .int (nI q)] (ws) (fun v w => ∃ b g, v = some (.ref b) ∧ w = ws ++ [(b, .inl (wdA B 4, q, .inl g))] ∧ ∀ j, j < q → g j = f j) :=
  LMet.of hl (by decide +kernel) (Nat.le_of_ble_eq_true rfl) (fun G hB hL hG hE hI => by subst hB; exact g_c_range hG hE ha hf h1 h2)
theorem g_c_strI5 {G : wG} (hG : wOk G RJ0 cJ0_init_db425 5 3 106) {w0 : va_W} {sb a P st : Nat} {f : Nat → Int32} {L : List Int32} (hE : wEndL G none (fun v w => v = none ∧ ∃ b g, w = w0 ++ [(sb, .inr (1, [.ref a, .int 0, .int 0, .int (nI L.length)])), (a, .inl (wdA (gB G) 4, P, .inl f)), (st, .inr (0, [.ref b, .int 0, .int 0, .int 0])), (b, .inl (wdA (gB G) 4, L.length, .inl g))] ∧ ∀ j, j < L.length → g j = L.getD j 0)) (hI : (gme G).name = "<init>") (hT : sbT f P L) (h3 : P ≤ 5000) : JL G 5 1 (L.length) 0 [(0, .ref st), (1, .ref sb), (2, .null)] [] (w0 ++ [(sb, .inr (1, [.ref a, .int 0, .int 0, .int (nI L.length)])), (a, .inl (wdA (gB G) 4, P, .inl f)), (st, .inr (0, [.null, .int 0, .int 0, .int 0]))]) := by
  refine jl_aload_n hG 0 (dt dtJ0_init_db425 0 rfl) rfl rfl ?_
  refine jl_objInit hG (wTs_in 977 (by decide +kernel) rfl) oi_w (by decide) (Nat.le_of_ble_eq_true rfl) (dt dtJ0_init_db425 1 rfl) ?_
  refine jl_aload_n hG 1 (dt dtJ0_init_db425 2 rfl) rfl rfl ?_
  refine JL.weak (kc := 1 + 0) (ks := ((L.length)) + 0) (by omega) (by omega) ?_
  refine jl_callV hG (kc := 1) (ks := ((L.length))) (c_getV hG.2.2.1 ((app_get _ _ rfl 0).trans rfl)) mi_J5_getValue_6d5f1 ml_J0_552 (w0.length + 0) ((app_get _ _ rfl 0).trans rfl) rfl (hG.word sl_getV) rfl (rest := []) rfl (Nat.le_of_ble_eq_true rfl) (dt dtJ0_init_db425 3 rfl) (by decide) (by decide) (fun v w h => ?_)
  obtain ⟨rfl, rfl⟩ := h
  refine jl_astore_n hG (lv' := [(3, .ref a), (0, .ref st), (1, .ref sb), (2, .null)]) (dt dtJ0_init_db425 4 rfl) rfl (by decide) rfl ?_
  refine jl_aload_n hG 2 (dt dtJ0_init_db425 5 rfl) rfl rfl ?_
  refine JL.weak (kc := 1 + 0) (ks := ((L.length)) + 0) (by omega) (by omega) ?_
  refine jl_callO (x := yJ5_length_8abf5) hG (kc := 1) (ks := ((L.length))) (c_len4 hG.2.2.1 ((app_get _ _ rfl 0).trans rfl)) mi_J4_length_8abf5 rfl ml_J0_549 sm_len ⟨by decide +kernel, by decide +kernel⟩ ⟨mi_J5_length_8abf5.2, mi_J5_length_8abf5.1.2.2.1⟩ (w0.length + 0) ((app_get _ _ rfl 0).trans rfl) rfl sl_len rfl (rest := []) rfl (Nat.le_of_ble_eq_true rfl) (dt dtJ0_init_db425 6 rfl) (by decide) (by decide) (fun v w h => ?_)
  obtain ⟨rfl, rfl⟩ := h
  refine jl_istore hG (lv' := [(4, .int (nI L.length)), (3, .ref a), (0, .ref st), (1, .ref sb), (2, .null)]) (dt dtJ0_init_db425 7 rfl) (by decide) rfl ?_
  refine jl_aload_n hG 3 (dt dtJ0_init_db425 8 rfl) rfl rfl ?_
  refine JL.weak (kc := 1 + 0) (ks := ((L.length)) + 0) (by omega) (by omega) ?_
  refine jl_callV hG (kc := 1) (ks := ((L.length))) (c_isL hG.2.2.1 ((app_get _ _ rfl 0).trans rfl)) mi_J5_isLatin1_aae02 ml_J0_1047 (w0.length + 0) ((app_get _ _ rfl 0).trans rfl) rfl (hG.word sl_isL) rfl (rest := []) rfl (Nat.le_of_ble_eq_true rfl) (dt dtJ0_init_db425 9 rfl) (by decide) (by decide) (fun v w h => ?_)
  obtain ⟨rfl, rfl⟩ := h
  refine jl_if_eq hG (tgt := 41) (dt dtJ0_init_db425 10 rfl) (by decide) (fun qz => absurd qz (show ¬ (1 : Int32) = 0 by decide)) (fun _ => ?_)
  refine jl_aload_n hG 2 (dt dtJ0_init_db425 11 rfl) rfl rfl ?_
  refine jl_iconst hG (v := 0) (dt dtJ0_init_db425 12 rfl) (by decide) ?_
  refine jl_putF (ws' := w0 ++ [(sb, .inr (1, [.ref a, .int 0, .int 0, .int (nI L.length)])), (a, .inl (wdA (gB G) 4, P, .inl f)), (st, .inr (0, [.null, .int 0, .int 0, .int 0]))]) hG hI cl_J0 (w0.length + 2) 1 ((app_get _ _ rfl 2).trans rfl) (by decide) fk_J0_15 rfl rfl rfl (by decide) (by decide) (Nat.le_of_ble_eq_true rfl) ((app_set _ _ rfl 2 _).trans rfl) (dt dtJ0_init_db425 13 rfl) ?_
  refine jl_aload_n hG 2 (dt dtJ0_init_db425 14 rfl) rfl rfl ?_
  refine jl_aload_n hG 1 (dt dtJ0_init_db425 15 rfl) rfl rfl ?_
  refine jl_iconst hG (v := 0) (dt dtJ0_init_db425 16 rfl) (by decide) ?_
  refine jl_iload hG 0 (dt dtJ0_init_db425 17 rfl) rfl ?_
  refine JL.weak (kc := 0 + 1) (ks := 0 + (L.length)) (by omega) (by omega) ?_
  refine jl_callS hG (kc := 0) (ks := 0) (c_range hG.2.2.1 ((app_get _ _ rfl 1).trans rfl) hT.1 hT.2.1 h3) mf_J7_copyOfRange_39247 ml_J0_54 rfl (rest := [.ref st]) rfl (Nat.le_of_ble_eq_true rfl) (dt dtJ0_init_db425 18 rfl) (by decide) (by decide) (fun v w h => ?_)
  obtain ⟨b, g, rfl, rfl, hg⟩ := h
  refine JL.eqw (ws' := w0 ++ [(sb, .inr (1, [.ref a, .int 0, .int 0, .int (nI L.length)])), (a, .inl (wdA (gB G) 4, P, .inl f)), (st, .inr (0, [.null, .int 0, .int 0, .int 0])), (b, .inl (wdA (gB G) 4, L.length, .inl g))]) (by rw [List.append_assoc]; rfl) ?_
  refine jl_putF (ws' := w0 ++ [(sb, .inr (1, [.ref a, .int 0, .int 0, .int (nI L.length)])), (a, .inl (wdA (gB G) 4, P, .inl f)), (st, .inr (0, [.ref b, .int 0, .int 0, .int 0])), (b, .inl (wdA (gB G) 4, L.length, .inl g))]) hG hI cl_J0 (w0.length + 2) 0 ((app_get _ _ rfl 2).trans rfl) (by decide) fk_J0_9 rfl rfl rfl rfl rfl (Nat.le_of_ble_eq_true rfl) ((app_set _ _ rfl 2 _).trans rfl) (dt dtJ0_init_db425 19 rfl) ?_
  refine jl_goto hG (tgt := 97) (dt dtJ0_init_db425 20 rfl) (by decide) ?_
  exact jl_vret hG hE ⟨rfl, b, g, rfl, fun j hj => (hg j hj).trans (hT.2.2 j hj)⟩ (dt dtJ0_init_db425 21 rfl)
theorem c_strI5 {l : Launch} (hl : l.stackTraces = false) {B : wB} {w0 : va_W} {sb a P st : Nat} {f : Nat → Int32} {L : List Int32} (hT : sbT f P L) (h3 : P ≤ 5000) : LMet l B yJ0_init_db425 cJ0_init_db425 5 none 3 106 1 (L.length) [.ref st, .ref sb, .null] (w0 ++ [(sb, .inr (1, [.ref a, .int 0, .int 0, .int (nI L.length)])), (a, .inl (wdA B 4, P, .inl f)), (st, .inr (0, [.null, .int 0, .int 0, .int 0]))]) (fun v w => v = none ∧ ∃ b g, w = w0 ++ [(sb, .inr (1, [.ref a, .int 0, .int 0, .int (nI L.length)])), (a, .inl (wdA B 4, P, .inl f)), (st, .inr (0, [.ref b, .int 0, .int 0, .int 0])), (b, .inl (wdA B 4, L.length, .inl g))] ∧ ∀ j, j < L.length → g j = L.getD j 0) :=
  LMet.of hl (by decide +kernel) (Nat.le_of_ble_eq_true rfl) (fun G hB hL hG hE hI => by subst hB; exact g_c_strI5 hG hE hI hT h3)
theorem g_c_strI {G : wG} (hG : wOk G RJ0 cJ0_init_81219 2 4 130) {w0 : va_W} {sb a P st : Nat} {f : Nat → Int32} {L : List Int32} (hE : wEndL G none (fun v w => v = none ∧ ∃ b g, w = w0 ++ [(sb, .inr (1, [.ref a, .int 0, .int 0, .int (nI L.length)])), (a, .inl (wdA (gB G) 4, P, .inl f)), (st, .inr (0, [.ref b, .int 0, .int 0, .int 0])), (b, .inl (wdA (gB G) 4, L.length, .inl g))] ∧ ∀ j, j < L.length → g j = L.getD j 0)) (hI : (gme G).name = "<init>") (hT : sbT f P L) (h3 : P ≤ 5000) : JL G 2 1 (L.length) 0 [(0, .ref st), (1, .ref sb)] [] (w0 ++ [(sb, .inr (1, [.ref a, .int 0, .int 0, .int (nI L.length)])), (a, .inl (wdA (gB G) 4, P, .inl f)), (st, .inr (0, [.null, .int 0, .int 0, .int 0]))]) := by
  refine jl_aload_n hG 0 (dt dtJ0_init_81219 0 rfl) rfl rfl ?_
  refine jl_aload_n hG 1 (dt dtJ0_init_81219 1 rfl) rfl rfl ?_
  refine jl_null hG (dt dtJ0_init_81219 2 rfl) ?_
  refine JL.weak (kc := 0 + 1) (ks := 0 + (L.length)) (by omega) (by omega) ?_
  refine jl_callI hG (kc := 0) (ks := 0) (c_strI5 hG.2.2.1 hT h3) mi_J0_init_db425 ml_J0_489 rfl rfl (rest := []) rfl (Nat.le_of_ble_eq_true rfl) (dt dtJ0_init_81219 3 rfl) (by decide) (by decide) (fun v w h => ?_)
  obtain ⟨rfl, b, g, rfl, hg⟩ := h
  exact jl_vret hG hE ⟨rfl, b, g, rfl, hg⟩ (dt dtJ0_init_81219 4 rfl)
theorem c_strI {l : Launch} (hl : l.stackTraces = false) {B : wB} {w0 : va_W} {sb a P st : Nat} {f : Nat → Int32} {L : List Int32} (hT : sbT f P L) (h3 : P ≤ 5000) : LMet l B yJ0_init_81219 cJ0_init_81219 2 none 4 130 1 (L.length) [.ref st, .ref sb] (w0 ++ [(sb, .inr (1, [.ref a, .int 0, .int 0, .int (nI L.length)])), (a, .inl (wdA B 4, P, .inl f)), (st, .inr (0, [.null, .int 0, .int 0, .int 0]))]) (fun v w => v = none ∧ ∃ b g, w = w0 ++ [(sb, .inr (1, [.ref a, .int 0, .int 0, .int (nI L.length)])), (a, .inl (wdA B 4, P, .inl f)), (st, .inr (0, [.ref b, .int 0, .int 0, .int 0])), (b, .inl (wdA B 4, L.length, .inl g))] ∧ ∀ j, j < L.length → g j = L.getD j 0) :=
  LMet.of hl (by decide +kernel) (Nat.le_of_ble_eq_true rfl) (fun G hB hL hG hE hI => by subst hB; exact g_c_strI hG hE hI hT h3)
theorem g_c_toStr {G : wG} (hG : wOk G RJ4 cJ4_toString_0e30d 1 5 151) {w0 : va_W} {sb a P : Nat} {f : Nat → Int32} {L : List Int32} (hE : wEndL G (some (.object "java/lang/String")) (fun v w => ∃ st b g, v = some (.ref st) ∧ w = w0 ++ [(sb, .inr (1, [.ref a, .int 0, .int 0, .int (nI L.length)])), (a, .inl (wdA (gB G) 4, P, .inl f)), (st, .inr (0, [.ref b, .int 0, .int 0, .int 0])), (b, .inl (wdA (gB G) 4, L.length, .inl g))] ∧ ∀ j, j < L.length → g j = L.getD j 0)) (hT : sbT f P L) (h3 : P ≤ 5000) : JL G 1 2 (4 + L.length) 0 [(0, .ref sb)] [] (sbw (gB G) w0 sb a P f L) := by
  refine JL.eqw (ws' := w0 ++ [(sb, .inr (1, [.ref a, .int 0, .int 0, .int (nI L.length)])), (a, .inl (wdA (gB G) 4, P, .inl f))]) rfl ?_
  refine JL.weak (kc := 1 + 1) (ks := ((L.length)) + 4) (by omega) (by omega) ?_
  refine jl_new hG cl_J0 (fs := [.null, .int 0, .int 0, .int 0]) nw_str.1 nw_str.2.1 nw_str.2.2 (by decide) (dt dtJ4_toString_0e30d 0 rfl) (fun st => ?_)
  refine JL.eqw (ws' := w0 ++ [(sb, .inr (1, [.ref a, .int 0, .int 0, .int (nI L.length)])), (a, .inl (wdA (gB G) 4, P, .inl f)), (st, .inr (0, [.null, .int 0, .int 0, .int 0]))]) (by rw [List.append_assoc]; rfl) ?_
  refine jl_dup hG (dt dtJ4_toString_0e30d 1 rfl) rfl ?_
  refine jl_aload_n hG 0 (dt dtJ4_toString_0e30d 2 rfl) rfl rfl ?_
  refine JL.weak (kc := 0 + 1) (ks := 0 + (L.length)) (by omega) (by omega) ?_
  refine jl_callI hG (kc := 0) (ks := 0) (c_strI hG.2.2.1 hT h3) mi_J0_init_81219 ml_J4_137 rfl rfl (rest := [.ref st]) rfl (Nat.le_of_ble_eq_true rfl) (dt dtJ4_toString_0e30d 3 rfl) (by decide) (by decide) (fun v w h => ?_)
  obtain ⟨rfl, b, g, rfl, hg⟩ := h
  exact jl_aret hG hE (Or.inl ⟨_, rfl⟩) ⟨st, b, g, rfl, rfl, hg⟩ (dt dtJ4_toString_0e30d 4 rfl)
theorem c_toStr {l : Launch} (hl : l.stackTraces = false) {B : wB} {w0 : va_W} {sb a P : Nat} {f : Nat → Int32} {L : List Int32} (hT : sbT f P L) (h3 : P ≤ 5000) : LMet l B yJ4_toString_0e30d cJ4_toString_0e30d 1 (some (.object "java/lang/String")) 5 151 2 (4 + L.length) [.ref sb] (sbw B w0 sb a P f L) (fun v w => ∃ st b g, v = some (.ref st) ∧ w = w0 ++ [(sb, .inr (1, [.ref a, .int 0, .int 0, .int (nI L.length)])), (a, .inl (wdA B 4, P, .inl f)), (st, .inr (0, [.ref b, .int 0, .int 0, .int 0])), (b, .inl (wdA B 4, L.length, .inl g))] ∧ ∀ j, j < L.length → g j = L.getD j 0) :=
  LMet.of hl (by decide +kernel) (Nat.le_of_ble_eq_true rfl) (fun G hB hL hG hE hI => by subst hB; exact g_c_toStr hG hE hT h3)
theorem g_c_coder {G : wG} (hG : wOk G RJ0 cJ0_coder_7d493 1 0 0) {ws : va_W} {st b k0 : Nat} {hh hz : Int32} (hE : wEndL G (some .byte) (rpl (some (.int 0)) ws)) (he : ws[k0]? = some (st, .inr (0, [.ref b, .int 0, .int hh, .int hz]))) : JL G 1 0 0 0 [(0, .ref st)] [] (ws) := by
  refine jl_gets1 hG fk_J0_38 (dt dtJ0_coder_7d493 0 rfl) ?_
  refine jl_if_eq hG (tgt := 13) (dt dtJ0_coder_7d493 1 rfl) (by decide) (fun qz => absurd qz (show ¬ (1 : Int32) = 0 by decide)) (fun _ => ?_)
  refine jl_aload_n hG 0 (dt dtJ0_coder_7d493 2 rfl) rfl rfl ?_
  refine jl_get hG cl_J0 k0 1 he (by decide) fk_J0_15 rfl (dt dtJ0_coder_7d493 3 rfl) ?_
  refine jl_goto hG (tgt := 14) (dt dtJ0_coder_7d493 4 rfl) (by decide) ?_
  exact jl_zret hG hE (by decide) ⟨rfl, rfl⟩ (dt dtJ0_coder_7d493 5 rfl)
theorem c_coder {l : Launch} (hl : l.stackTraces = false) {B : wB} {ws : va_W} {st b k0 : Nat} {hh hz : Int32} (he : ws[k0]? = some (st, .inr (0, [.ref b, .int 0, .int hh, .int hz]))) : LMet l B yJ0_coder_7d493 cJ0_coder_7d493 1 (some .byte) 0 0 0 0 [.ref st] (ws) (rpl (some (.int 0)) ws) :=
  LMet.of hl (by decide +kernel) (Nat.le_of_ble_eq_true rfl) (fun G hB hL hG hE hI => by subst hB; exact g_c_coder hG hE he)
theorem g_c_strLen {G : wG} (hG : wOk G RJ0 cJ0_length_8abf5 1 1 20) {ws : va_W} {st b k0 k1 P : Nat} {hh hz : Int32} {f : Nat → Int32} (hE : wEndL G (some .int) (rpl (some (.int (nI P))) ws)) (he : ws[k0]? = some (st, .inr (0, [.ref b, .int 0, .int hh, .int hz]))) (ha : ws[k1]? = some (b, .inl (wdA (gB G) 4, P, .inl f))) : JL G 1 0 0 0 [(0, .ref st)] [] (ws) := by
  refine jl_aload_n hG 0 (dt dtJ0_length_8abf5 0 rfl) rfl rfl ?_
  refine jl_get hG cl_J0 k0 0 he (by decide) fk_J0_9 rfl (dt dtJ0_length_8abf5 1 rfl) ?_
  refine jl_alen hG (v := nI P) k1 4 ha rfl rfl (dt dtJ0_length_8abf5 2 rfl) ?_
  refine jl_aload_n hG 0 (dt dtJ0_length_8abf5 3 rfl) rfl rfl ?_
  refine JL.weak (kc := 0 + 0) (ks := 0 + 0) (by omega) (by omega) ?_
  refine jl_callV hG (kc := 0) (ks := 0) (c_coder hG.2.2.1 he) ⟨mf_J0_coder_7d493.1, mf_J0_coder_7d493.2.1⟩ ml_J0_335 k0 he rfl (hG.word mf_J0_coder_7d493.2.2) rfl (rest := [.int ((nI P))]) rfl (Nat.le_of_ble_eq_true rfl) (dt dtJ0_length_8abf5 4 rfl) (by decide) (by decide) (fun v w h => ?_)
  obtain ⟨rfl, rfl⟩ := h
  refine jl_ishr hG (dt dtJ0_length_8abf5 5 rfl) ?_
  rw [sb_shr0]
  exact jl_iret hG hE ⟨rfl, rfl⟩ (dt dtJ0_length_8abf5 6 rfl)
theorem c_strLen {l : Launch} (hl : l.stackTraces = false) {B : wB} {ws : va_W} {st b k0 k1 P : Nat} {hh hz : Int32} {f : Nat → Int32} (he : ws[k0]? = some (st, .inr (0, [.ref b, .int 0, .int hh, .int hz]))) (ha : ws[k1]? = some (b, .inl (wdA B 4, P, .inl f))) : LMet l B yJ0_length_8abf5 cJ0_length_8abf5 1 (some .int) 1 20 0 0 [.ref st] (ws) (rpl (some (.int (nI P))) ws) :=
  LMet.of hl (by decide +kernel) (Nat.le_of_ble_eq_true rfl) (fun G hB hL hG hE hI => by subst hB; exact g_c_strLen hG hE he ha)
theorem g_c_strIsL {G : wG} (hG : wOk G RJ0 cJ0_isLatin1_aae02 1 0 0) {ws : va_W} {st b k0 : Nat} {hh hz : Int32} (hE : wEndL G (some .boolean) (rpl (some (.int 1)) ws)) (he : ws[k0]? = some (st, .inr (0, [.ref b, .int 0, .int hh, .int hz]))) : JL G 1 0 0 0 [(0, .ref st)] [] (ws) := by
  refine jl_gets1 hG fk_J0_38 (dt dtJ0_isLatin1_aae02 0 rfl) ?_
  refine jl_if_eq hG (tgt := 17) (dt dtJ0_isLatin1_aae02 1 rfl) (by decide) (fun qz => absurd qz (show ¬ (1 : Int32) = 0 by decide)) (fun _ => ?_)
  refine jl_aload_n hG 0 (dt dtJ0_isLatin1_aae02 2 rfl) rfl rfl ?_
  refine jl_get hG cl_J0 k0 1 he (by decide) fk_J0_15 rfl (dt dtJ0_isLatin1_aae02 3 rfl) ?_
  refine jl_if_ne hG (tgt := 17) (dt dtJ0_isLatin1_aae02 4 rfl) (by decide) (fun qz => absurd (rfl) qz) (fun _ => ?_)
  refine jl_iconst hG (v := 1) (dt dtJ0_isLatin1_aae02 5 rfl) (by decide) ?_
  refine jl_goto hG (tgt := 18) (dt dtJ0_isLatin1_aae02 6 rfl) (by decide) ?_
  exact jl_zret hG hE (by decide) ⟨rfl, rfl⟩ (dt dtJ0_isLatin1_aae02 7 rfl)
theorem c_strIsL {l : Launch} (hl : l.stackTraces = false) {B : wB} {ws : va_W} {st b k0 : Nat} {hh hz : Int32} (he : ws[k0]? = some (st, .inr (0, [.ref b, .int 0, .int hh, .int hz]))) : LMet l B yJ0_isLatin1_aae02 cJ0_isLatin1_aae02 1 (some .boolean) 0 0 0 0 [.ref st] (ws) (rpl (some (.int 1)) ws) :=
  LMet.of hl (by decide +kernel) (Nat.le_of_ble_eq_true rfl) (fun G hB hL hG hE hI => by subst hB; exact g_c_strIsL hG hE he)
theorem g_c_chkIx3 {G : wG} (hG : wOk G RJ3 cJ3_checkIndex_8e157 3 0 0) {ws : va_W} {j P : Nat} {vq : Value} (hE : wEndL G (some .int) (rpl (some (.int (nI j))) ws)) (hvq : vq = .null ∨ ∃ a, vq = .ref a) (hj : j < P) (h3 : P < 2147483648) : JL G 3 0 0 0 [(0, .int (nI j)), (1, .int (nI P)), (2, vq)] [] (ws) := by
  refine jl_iload_n hG 0 (dt dtJ3_checkIndex_8e157 0 rfl) rfl rfl ?_
  refine jl_if_lt hG (tgt := 9) (dt dtJ3_checkIndex_8e157 1 rfl) (by decide) (fun qz => absurd qz (show ¬ nI j < 0 from nI_pos (by omega))) (fun _ => ?_)
  refine jl_iload_n hG 0 (dt dtJ3_checkIndex_8e157 2 rfl) rfl rfl ?_
  refine jl_iload_n hG 1 (dt dtJ3_checkIndex_8e157 3 rfl) rfl rfl ?_
  refine jl_icmp_lt hG (tgt := 16) (dt dtJ3_checkIndex_8e157 4 rfl) (by decide) (fun _ => ?_) (fun qz => absurd (show nI j < nI P from nI_lt hj (by omega)) qz)
  refine jl_iload_n hG 0 (dt dtJ3_checkIndex_8e157 5 rfl) rfl rfl ?_
  exact jl_iret hG hE ⟨rfl, rfl⟩ (dt dtJ3_checkIndex_8e157 6 rfl)
theorem c_chkIx3 {l : Launch} (hl : l.stackTraces = false) {B : wB} {ws : va_W} {j P : Nat} {vq : Value} (hvq : vq = .null ∨ ∃ a, vq = .ref a) (hj : j < P) (h3 : P < 2147483648) : LMet l B yJ3_checkIndex_8e157 cJ3_checkIndex_8e157 3 (some .int) 0 0 0 0 [.int (nI j), .int (nI P), vq] (ws) (rpl (some (.int (nI j))) ws) :=
  LMet.of hl (by decide +kernel) (by rcases hvq with rfl | ⟨a, rfl⟩ <;> exact Nat.le_of_ble_eq_true rfl) (fun G hB hL hG hE hI => by subst hB; exact g_c_chkIx3 hG hE hvq hj h3)
theorem g_c_chkIx {G : wG} (hG : wOk G RJ0 cJ0_checkIndex_df160 2 1 22) {ws : va_W} {j P : Nat} (hE : wEndL G none (rpl none ws)) (hj : j < P) (h3 : P < 2147483648) : JL G 2 0 0 0 [(0, .int (nI j)), (1, .int (nI P))] [] (ws) := by
  refine jl_iload_n hG 0 (dt dtJ0_checkIndex_df160 0 rfl) rfl rfl ?_
  refine jl_iload_n hG 1 (dt dtJ0_checkIndex_df160 1 rfl) rfl rfl ?_
  refine jl_getsQ hG fk_J0_1053 (dt dtJ0_checkIndex_df160 2 rfl) (fun vq hvq => ?_)
  refine JL.weak (kc := 0 + 0) (ks := 0 + 0) (by omega) (by omega) ?_
  refine jl_callS hG (kc := 0) (ks := 0) (c_chkIx3 hG.2.2.1 hvq hj h3) mf_J3_checkIndex_8e157 ml_J0_1059 rfl (rest := []) rfl (Nat.le_of_ble_eq_true rfl) (dt dtJ0_checkIndex_df160 3 rfl) (by decide) (by decide) (fun v w h => ?_)
  obtain ⟨rfl, rfl⟩ := h
  refine jl_pop hG (dt dtJ0_checkIndex_df160 4 rfl) rfl ?_
  exact jl_vret hG hE ⟨rfl, rfl⟩ (dt dtJ0_checkIndex_df160 5 rfl)
theorem c_chkIx {l : Launch} (hl : l.stackTraces = false) {B : wB} {ws : va_W} {j P : Nat} (hj : j < P) (h3 : P < 2147483648) : LMet l B yJ0_checkIndex_df160 cJ0_checkIndex_df160 2 none 1 22 0 0 [.int (nI j), .int (nI P)] (ws) (rpl none ws) :=
  LMet.of hl (by decide +kernel) (Nat.le_of_ble_eq_true rfl) (fun G hB hL hG hE hI => by subst hB; exact g_c_chkIx hG hE hj h3)
theorem g_c_charB {G : wG} (hG : wOk G RJ1 cJ1_charAt_3b067 2 2 43) {ws : va_W} {b k1 P j x : Nat} {f : Nat → Int32} (hE : wEndL G (some .char) (rpl (some (.int (nI x))) ws)) (ha : ws[k1]? = some (b, .inl (wdA (gB G) 4, P, .inl f))) (hj : j < P) (h3 : P < 2147483648) (hx : x < 128) (hv : f j = nI x) : JL G 2 0 0 0 [(0, .ref b), (1, .int (nI j))] [] (ws) := by
  refine jl_iload_n hG 1 (dt dtJ1_charAt_3b067 0 rfl) rfl rfl ?_
  refine jl_aload_n hG 0 (dt dtJ1_charAt_3b067 1 rfl) rfl rfl ?_
  refine jl_alen hG (v := nI P) k1 4 ha rfl rfl (dt dtJ1_charAt_3b067 2 rfl) ?_
  refine JL.weak (kc := 0 + 0) (ks := 0 + 0) (by omega) (by omega) ?_
  refine jl_callS hG (kc := 0) (ks := 0) (c_chkIx hG.2.2.1 hj h3) mf_J0_checkIndex_df160 ml_J1_9 rfl (rest := []) rfl (Nat.le_of_ble_eq_true rfl) (dt dtJ1_charAt_3b067 3 rfl) (by decide) (by decide) (fun v w h => ?_)
  obtain ⟨rfl, rfl⟩ := h
  refine jl_aload_n hG 0 (dt dtJ1_charAt_3b067 4 rfl) rfl rfl ?_
  refine jl_iload_n hG 1 (dt dtJ1_charAt_3b067 5 rfl) rfl rfl ?_
  refine jl_bald hG (v := nI x) k1 ha (vp_in_nI hj (by omega)) (by rw [nI_clamp (by omega)]; exact hv) (dt dtJ1_charAt_3b067 6 rfl) ?_
  refine jl_sipush hG (v := 255) (dt dtJ1_charAt_3b067 7 rfl) (by decide) ?_
  refine jl_iand hG (dt dtJ1_charAt_3b067 8 rfl) ?_
  rw [show nI x &&& 255 = nI x from (asc7 x hx).1]
  refine jl_i2c hG (dt dtJ1_charAt_3b067 9 rfl) ?_
  rw [show ((nI x).toUInt32 % 65536).toInt32 = nI x from (asc7 x hx).2]
  exact jl_zret hG hE (pk_charN (q := x) (by omega)).1 ⟨rfl, rfl⟩ (dt dtJ1_charAt_3b067 10 rfl)
theorem c_charB {l : Launch} (hl : l.stackTraces = false) {B : wB} {ws : va_W} {b k1 P j x : Nat} {f : Nat → Int32} (ha : ws[k1]? = some (b, .inl (wdA B 4, P, .inl f))) (hj : j < P) (h3 : P < 2147483648) (hx : x < 128) (hv : f j = nI x) : LMet l B yJ1_charAt_3b067 cJ1_charAt_3b067 2 (some .char) 2 43 0 0 [.ref b, .int (nI j)] (ws) (rpl (some (.int (nI x))) ws) :=
  LMet.of hl (by decide +kernel) (Nat.le_of_ble_eq_true rfl) (fun G hB hL hG hE hI => by subst hB; exact g_c_charB hG hE ha hj h3 hx hv)
theorem g_c_charAt {G : wG} (hG : wOk G RJ0 cJ0_charAt_5068e 2 3 64) {ws : va_W} {st b k0 k1 P j x : Nat} {hh hz : Int32} {f : Nat → Int32} (hE : wEndL G (some .char) (rpl (some (.int (nI x))) ws)) (he : ws[k0]? = some (st, .inr (0, [.ref b, .int 0, .int hh, .int hz]))) (ha : ws[k1]? = some (b, .inl (wdA (gB G) 4, P, .inl f))) (hj : j < P) (h3 : P < 2147483648) (hx : x < 128) (hv : f j = nI x) : JL G 2 0 0 0 [(0, .ref st), (1, .int (nI j))] [] (ws) := by
  refine jl_aload_n hG 0 (dt dtJ0_charAt_5068e 0 rfl) rfl rfl ?_
  refine JL.weak (kc := 0 + 0) (ks := 0 + 0) (by omega) (by omega) ?_
  refine jl_callV hG (kc := 0) (ks := 0) (c_strIsL hG.2.2.1 he) ⟨mf_J0_isLatin1_aae02.1, mf_J0_isLatin1_aae02.2.1⟩ ml_J0_492 k0 he rfl (hG.word mf_J0_isLatin1_aae02.2.2) rfl (rest := []) rfl (Nat.le_of_ble_eq_true rfl) (dt dtJ0_charAt_5068e 1 rfl) (by decide) (by decide) (fun v w h => ?_)
  obtain ⟨rfl, rfl⟩ := h
  refine jl_if_eq hG (tgt := 16) (dt dtJ0_charAt_5068e 2 rfl) (by decide) (fun qz => absurd qz (show ¬ (1 : Int32) = 0 by decide)) (fun _ => ?_)
  refine jl_aload_n hG 0 (dt dtJ0_charAt_5068e 3 rfl) rfl rfl ?_
  refine jl_get hG cl_J0 k0 0 he (by decide) fk_J0_9 rfl (dt dtJ0_charAt_5068e 4 rfl) ?_
  refine jl_iload_n hG 1 (dt dtJ0_charAt_5068e 5 rfl) rfl rfl ?_
  refine JL.weak (kc := 0 + 0) (ks := 0 + 0) (by omega) (by omega) ?_
  refine jl_callS hG (kc := 0) (ks := 0) (c_charB hG.2.2.1 ha hj h3 hx hv) mf_J1_charAt_3b067 ml_J0_495 rfl (rest := []) rfl (Nat.le_of_ble_eq_true rfl) (dt dtJ0_charAt_5068e 6 rfl) (by decide) (by decide) (fun v w h => ?_)
  obtain ⟨rfl, rfl⟩ := h
  exact jl_zret hG hE (pk_charN (q := x) (by omega)).1 ⟨rfl, rfl⟩ (dt dtJ0_charAt_5068e 7 rfl)
theorem c_charAt {l : Launch} (hl : l.stackTraces = false) {B : wB} {ws : va_W} {st b k0 k1 P j x : Nat} {hh hz : Int32} {f : Nat → Int32} (he : ws[k0]? = some (st, .inr (0, [.ref b, .int 0, .int hh, .int hz]))) (ha : ws[k1]? = some (b, .inl (wdA B 4, P, .inl f))) (hj : j < P) (h3 : P < 2147483648) (hx : x < 128) (hv : f j = nI x) : LMet l B yJ0_charAt_5068e cJ0_charAt_5068e 2 (some .char) 3 64 0 0 [.ref st, .int (nI j)] (ws) (rpl (some (.int (nI x))) ws) :=
  LMet.of hl (by decide +kernel) (Nat.le_of_ble_eq_true rfl) (fun G hB hL hG hE hI => by subst hB; exact g_c_charAt hG hE he ha hj h3 hx hv)
