def RJ0 : String := "java/lang/String"
abbrev cJ0_length_8abf5 : ByteArray := prog_16_method_54_code
def yJ0_length_8abf5 : MethodName := ⟨RJ0, "length", "()I"⟩
abbrev cJ0_charAt_5068e : ByteArray := prog_16_method_56_code
def yJ0_charAt_5068e : MethodName := ⟨RJ0, "charAt", "(I)C"⟩
abbrev cJ0_coder_7d493 : ByteArray := prog_16_method_152_code
def yJ0_coder_7d493 : MethodName := ⟨RJ0, "coder", "()B"⟩
abbrev cJ0_isLatin1_aae02 : ByteArray := prog_16_method_154_code
def yJ0_isLatin1_aae02 : MethodName := ⟨RJ0, "isLatin1", "()Z"⟩
abbrev cJ0_checkIndex_df160 : ByteArray := prog_16_method_155_code
def yJ0_checkIndex_df160 : MethodName := ⟨RJ0, "checkIndex", "(II)V"⟩
def RJ1 : String := "java/lang/StringLatin1"
abbrev cJ1_charAt_3b067 : ByteArray := prog_17_method_2_code
def yJ1_charAt_3b067 : MethodName := ⟨RJ1, "charAt", "([BI)C"⟩
def RJ3 : String := "jdk/internal/util/Preconditions"
abbrev cJ3_checkIndex_8e157 : ByteArray := prog_21_method_11_code
def yJ3_checkIndex_8e157 : MethodName := ⟨RJ3, "checkIndex", "(IILjava/util/function/BiFunction;)I"⟩
theorem dJ0_length_8abf5_0 : decode cJ0_length_8abf5 0 = .ok (.aload_n 0, 1) := by decide +kernel
theorem dJ0_length_8abf5_1 : decode cJ0_length_8abf5 1 = .ok (.getfield 9, 3) := by decide +kernel
theorem dJ0_length_8abf5_4 : decode cJ0_length_8abf5 4 = .ok (.arraylength, 1) := by decide +kernel
theorem dJ0_length_8abf5_5 : decode cJ0_length_8abf5 5 = .ok (.aload_n 0, 1) := by decide +kernel
theorem dJ0_length_8abf5_6 : decode cJ0_length_8abf5 6 = .ok (.invokevirtual 335, 3) := by decide +kernel
theorem dJ0_length_8abf5_9 : decode cJ0_length_8abf5 9 = .ok (.ishr, 1) := by decide +kernel
theorem dJ0_length_8abf5_10 : decode cJ0_length_8abf5 10 = .ok (.ireturn, 1) := by decide +kernel
theorem dJ0_charAt_5068e_0 : decode cJ0_charAt_5068e 0 = .ok (.aload_n 0, 1) := by decide +kernel
theorem dJ0_charAt_5068e_1 : decode cJ0_charAt_5068e 1 = .ok (.invokevirtual 492, 3) := by decide +kernel
theorem dJ0_charAt_5068e_4 : decode cJ0_charAt_5068e 4 = .ok (.ifCond .eq 12, 3) := by decide +kernel
theorem dJ0_charAt_5068e_7 : decode cJ0_charAt_5068e 7 = .ok (.aload_n 0, 1) := by decide +kernel
theorem dJ0_charAt_5068e_8 : decode cJ0_charAt_5068e 8 = .ok (.getfield 9, 3) := by decide +kernel
theorem dJ0_charAt_5068e_11 : decode cJ0_charAt_5068e 11 = .ok (.iload_n 1, 1) := by decide +kernel
theorem dJ0_charAt_5068e_12 : decode cJ0_charAt_5068e 12 = .ok (.invokestatic 495, 3) := by decide +kernel
theorem dJ0_charAt_5068e_15 : decode cJ0_charAt_5068e 15 = .ok (.ireturn, 1) := by decide +kernel
theorem dJ0_charAt_5068e_16 : decode cJ0_charAt_5068e 16 = .ok (.aload_n 0, 1) := by decide +kernel
theorem dJ0_charAt_5068e_17 : decode cJ0_charAt_5068e 17 = .ok (.getfield 9, 3) := by decide +kernel
theorem dJ0_charAt_5068e_20 : decode cJ0_charAt_5068e 20 = .ok (.iload_n 1, 1) := by decide +kernel
theorem dJ0_charAt_5068e_21 : decode cJ0_charAt_5068e 21 = .ok (.invokestatic 498, 3) := by decide +kernel
theorem dJ0_charAt_5068e_24 : decode cJ0_charAt_5068e 24 = .ok (.ireturn, 1) := by decide +kernel
theorem dJ0_coder_7d493_0 : decode cJ0_coder_7d493 0 = .ok (.getstatic 38, 3) := by decide +kernel
theorem dJ0_coder_7d493_3 : decode cJ0_coder_7d493 3 = .ok (.ifCond .eq 10, 3) := by decide +kernel
theorem dJ0_coder_7d493_6 : decode cJ0_coder_7d493 6 = .ok (.aload_n 0, 1) := by decide +kernel
theorem dJ0_coder_7d493_7 : decode cJ0_coder_7d493 7 = .ok (.getfield 15, 3) := by decide +kernel
theorem dJ0_coder_7d493_10 : decode cJ0_coder_7d493 10 = .ok (.goto 4, 3) := by decide +kernel
theorem dJ0_coder_7d493_13 : decode cJ0_coder_7d493 13 = .ok (.iconst 1, 1) := by decide +kernel
theorem dJ0_coder_7d493_14 : decode cJ0_coder_7d493 14 = .ok (.ireturn, 1) := by decide +kernel
theorem dJ0_isLatin1_aae02_0 : decode cJ0_isLatin1_aae02 0 = .ok (.getstatic 38, 3) := by decide +kernel
theorem dJ0_isLatin1_aae02_3 : decode cJ0_isLatin1_aae02 3 = .ok (.ifCond .eq 14, 3) := by decide +kernel
theorem dJ0_isLatin1_aae02_6 : decode cJ0_isLatin1_aae02 6 = .ok (.aload_n 0, 1) := by decide +kernel
theorem dJ0_isLatin1_aae02_7 : decode cJ0_isLatin1_aae02 7 = .ok (.getfield 15, 3) := by decide +kernel
theorem dJ0_isLatin1_aae02_10 : decode cJ0_isLatin1_aae02 10 = .ok (.ifCond .ne 7, 3) := by decide +kernel
theorem dJ0_isLatin1_aae02_13 : decode cJ0_isLatin1_aae02 13 = .ok (.iconst 1, 1) := by decide +kernel
theorem dJ0_isLatin1_aae02_14 : decode cJ0_isLatin1_aae02 14 = .ok (.goto 4, 3) := by decide +kernel
theorem dJ0_isLatin1_aae02_17 : decode cJ0_isLatin1_aae02 17 = .ok (.iconst 0, 1) := by decide +kernel
theorem dJ0_isLatin1_aae02_18 : decode cJ0_isLatin1_aae02 18 = .ok (.ireturn, 1) := by decide +kernel
theorem dJ0_checkIndex_df160_0 : decode cJ0_checkIndex_df160 0 = .ok (.iload_n 0, 1) := by decide +kernel
theorem dJ0_checkIndex_df160_1 : decode cJ0_checkIndex_df160 1 = .ok (.iload_n 1, 1) := by decide +kernel
theorem dJ0_checkIndex_df160_2 : decode cJ0_checkIndex_df160 2 = .ok (.getstatic 1053, 3) := by decide +kernel
theorem dJ0_checkIndex_df160_5 : decode cJ0_checkIndex_df160 5 = .ok (.invokestatic 1059, 3) := by decide +kernel
theorem dJ0_checkIndex_df160_8 : decode cJ0_checkIndex_df160 8 = .ok (.pop, 1) := by decide +kernel
theorem dJ0_checkIndex_df160_9 : decode cJ0_checkIndex_df160 9 = .ok (.return_, 1) := by decide +kernel
theorem dJ1_charAt_3b067_0 : decode cJ1_charAt_3b067 0 = .ok (.iload_n 1, 1) := by decide +kernel
theorem dJ1_charAt_3b067_1 : decode cJ1_charAt_3b067 1 = .ok (.aload_n 0, 1) := by decide +kernel
theorem dJ1_charAt_3b067_2 : decode cJ1_charAt_3b067 2 = .ok (.arraylength, 1) := by decide +kernel
theorem dJ1_charAt_3b067_3 : decode cJ1_charAt_3b067 3 = .ok (.invokestatic 9, 3) := by decide +kernel
theorem dJ1_charAt_3b067_6 : decode cJ1_charAt_3b067 6 = .ok (.aload_n 0, 1) := by decide +kernel
theorem dJ1_charAt_3b067_7 : decode cJ1_charAt_3b067 7 = .ok (.iload_n 1, 1) := by decide +kernel
theorem dJ1_charAt_3b067_8 : decode cJ1_charAt_3b067 8 = .ok (.baload, 1) := by decide +kernel
theorem dJ1_charAt_3b067_9 : decode cJ1_charAt_3b067 9 = .ok (.sipush 255, 3) := by decide +kernel
theorem dJ1_charAt_3b067_12 : decode cJ1_charAt_3b067 12 = .ok (.iand, 1) := by decide +kernel
theorem dJ1_charAt_3b067_13 : decode cJ1_charAt_3b067 13 = .ok (.i2c, 1) := by decide +kernel
theorem dJ1_charAt_3b067_14 : decode cJ1_charAt_3b067 14 = .ok (.ireturn, 1) := by decide +kernel
theorem dJ3_checkIndex_8e157_0 : decode cJ3_checkIndex_8e157 0 = .ok (.iload_n 0, 1) := by decide +kernel
theorem dJ3_checkIndex_8e157_1 : decode cJ3_checkIndex_8e157 1 = .ok (.ifCond .lt 8, 3) := by decide +kernel
theorem dJ3_checkIndex_8e157_4 : decode cJ3_checkIndex_8e157 4 = .ok (.iload_n 0, 1) := by decide +kernel
theorem dJ3_checkIndex_8e157_5 : decode cJ3_checkIndex_8e157 5 = .ok (.iload_n 1, 1) := by decide +kernel
theorem dJ3_checkIndex_8e157_6 : decode cJ3_checkIndex_8e157 6 = .ok (.if_icmp .lt 10, 3) := by decide +kernel
theorem dJ3_checkIndex_8e157_9 : decode cJ3_checkIndex_8e157 9 = .ok (.aload_n 2, 1) := by decide +kernel
theorem dJ3_checkIndex_8e157_10 : decode cJ3_checkIndex_8e157 10 = .ok (.iload_n 0, 1) := by decide +kernel
theorem dJ3_checkIndex_8e157_11 : decode cJ3_checkIndex_8e157 11 = .ok (.iload_n 1, 1) := by decide +kernel
theorem dJ3_checkIndex_8e157_12 : decode cJ3_checkIndex_8e157 12 = .ok (.invokestatic 95, 3) := by decide +kernel
theorem dJ3_checkIndex_8e157_15 : decode cJ3_checkIndex_8e157 15 = .ok (.athrow, 1) := by decide +kernel
theorem dJ3_checkIndex_8e157_16 : decode cJ3_checkIndex_8e157 16 = .ok (.iload_n 0, 1) := by decide +kernel
theorem dJ3_checkIndex_8e157_17 : decode cJ3_checkIndex_8e157 17 = .ok (.ireturn, 1) := by decide +kernel
theorem inis_J0 : Cond.initialized RJ0 ∈ tbG := tb_1 (List.mem_of_getElem? (i := 3) rfl) rfl
theorem inis_J1 : Cond.initialized RJ1 ∈ tbG := tb_1 (List.mem_of_getElem? (i := 4) rfl) rfl
theorem inis_J3 : Cond.initialized RJ3 ∈ tbG := tb_1 (List.mem_of_getElem? (i := 5) rfl) rfl
theorem sref : Cond.stringRef RX6 21 "letter person born lifts dents title honour has heap age bears bridge year when or and not all old force names min max " ∈ lw_tbl := List.mem_append_right _ (List.mem_append_left _ (List.mem_of_getElem? (i := 39) rfl))
theorem lks_X6_23 : Cond.methodLink RX6 23 yJ0_length_8abf5 ∈ tbG := tb_1 (List.mem_of_getElem? (i := 40) rfl) rfl
theorem ins_J0_length_8abf5 : Cond.instanceMethod yJ0_length_8abf5 ∈ tbG := tb_1 (List.mem_of_getElem? (i := 41) rfl) rfl
theorem ses_J0_length_8abf5 : Cond.selects RJ0 yJ0_length_8abf5 yJ0_length_8abf5 ∈ tbG := tb_1 (List.mem_of_getElem? (i := 42) rfl) rfl
theorem cds_J0_length_8abf5 : Cond.code yJ0_length_8abf5 cJ0_length_8abf5 1 (some .int) ∈ tbG := tb_1 (List.mem_of_getElem? (i := 43) rfl) rfl
theorem lks_J0_335 : Cond.methodLink RJ0 335 yJ0_coder_7d493 ∈ tbG := tb_1 (List.mem_of_getElem? (i := 44) rfl) rfl
theorem ins_J0_coder_7d493 : Cond.instanceMethod yJ0_coder_7d493 ∈ tbG := tb_1 (List.mem_of_getElem? (i := 45) rfl) rfl
theorem ses_J0_coder_7d493 : Cond.selects RJ0 yJ0_coder_7d493 yJ0_coder_7d493 ∈ tbG := tb_1 (List.mem_of_getElem? (i := 46) rfl) rfl
theorem cds_J0_coder_7d493 : Cond.code yJ0_coder_7d493 cJ0_coder_7d493 1 (some .byte) ∈ tbG := tb_1 (List.mem_of_getElem? (i := 47) rfl) rfl
theorem lks_J0_38 : Cond.fieldLink RJ0 38 "java/lang/String" "COMPACT_STRINGS" "Z" ∈ tbG := tb_1 (List.mem_of_getElem? (i := 48) rfl) rfl
theorem lst_C : Cond.laysStatic "java/lang/String" "COMPACT_STRINGS" "Z" ∈ lw_tbl := List.mem_append_right _ (List.mem_append_left _ (List.mem_of_getElem? (i := 49) rfl))
theorem lks_X6_29 : Cond.methodLink RX6 29 yJ0_charAt_5068e ∈ tbG := tb_1 (List.mem_of_getElem? (i := 50) rfl) rfl
theorem ins_J0_charAt_5068e : Cond.instanceMethod yJ0_charAt_5068e ∈ tbG := tb_1 (List.mem_of_getElem? (i := 51) rfl) rfl
theorem ses_J0_charAt_5068e : Cond.selects RJ0 yJ0_charAt_5068e yJ0_charAt_5068e ∈ tbG := tb_1 (List.mem_of_getElem? (i := 52) rfl) rfl
theorem cds_J0_charAt_5068e : Cond.code yJ0_charAt_5068e cJ0_charAt_5068e 2 (some .char) ∈ tbG := tb_1 (List.mem_of_getElem? (i := 53) rfl) rfl
theorem lks_J0_492 : Cond.methodLink RJ0 492 yJ0_isLatin1_aae02 ∈ tbG := tb_1 (List.mem_of_getElem? (i := 54) rfl) rfl
theorem ins_J0_isLatin1_aae02 : Cond.instanceMethod yJ0_isLatin1_aae02 ∈ tbG := tb_1 (List.mem_of_getElem? (i := 55) rfl) rfl
theorem ses_J0_isLatin1_aae02 : Cond.selects RJ0 yJ0_isLatin1_aae02 yJ0_isLatin1_aae02 ∈ tbG := tb_1 (List.mem_of_getElem? (i := 56) rfl) rfl
theorem cds_J0_isLatin1_aae02 : Cond.code yJ0_isLatin1_aae02 cJ0_isLatin1_aae02 1 (some .boolean) ∈ tbG := tb_1 (List.mem_of_getElem? (i := 57) rfl) rfl
theorem lks_J0_495 : Cond.methodLink RJ0 495 yJ1_charAt_3b067 ∈ tbG := tb_1 (List.mem_of_getElem? (i := 58) rfl) rfl
theorem sts_J1_charAt_3b067 : Cond.static yJ1_charAt_3b067 ∈ tbG := tb_1 (List.mem_of_getElem? (i := 59) rfl) rfl
theorem cds_J1_charAt_3b067 : Cond.code yJ1_charAt_3b067 cJ1_charAt_3b067 2 (some .char) ∈ tbG := tb_1 (List.mem_of_getElem? (i := 60) rfl) rfl
theorem lks_J1_9 : Cond.methodLink RJ1 9 yJ0_checkIndex_df160 ∈ tbG := tb_1 (List.mem_of_getElem? (i := 61) rfl) rfl
theorem sts_J0_checkIndex_df160 : Cond.static yJ0_checkIndex_df160 ∈ tbG := tb_1 (List.mem_of_getElem? (i := 62) rfl) rfl
theorem cds_J0_checkIndex_df160 : Cond.code yJ0_checkIndex_df160 cJ0_checkIndex_df160 2 none ∈ tbG := tb_1 (List.mem_of_getElem? (i := 63) rfl) rfl
theorem lks_J0_1053 : Cond.fieldLink RJ0 1053 "jdk/internal/util/Preconditions" "SIOOBE_FORMATTER" "Ljava/util/function/BiFunction;" ∈ tbG := tb_1 (List.mem_of_getElem? (i := 64) rfl) rfl
theorem lst_S : Cond.laysStatic "jdk/internal/util/Preconditions" "SIOOBE_FORMATTER" "Ljava/util/function/BiFunction;" ∈ lw_tbl := List.mem_append_right _ (List.mem_append_left _ (List.mem_of_getElem? (i := 65) rfl))
theorem lks_J0_1059 : Cond.methodLink RJ0 1059 yJ3_checkIndex_8e157 ∈ tbG := tb_1 (List.mem_of_getElem? (i := 66) rfl) rfl
theorem sts_J3_checkIndex_8e157 : Cond.static yJ3_checkIndex_8e157 ∈ tbG := tb_1 (List.mem_of_getElem? (i := 67) rfl) rfl
theorem cds_J3_checkIndex_8e157 : Cond.code yJ3_checkIndex_8e157 cJ3_checkIndex_8e157 3 (some .int) ∈ tbG := tb_1 (List.mem_of_getElem? (i := 68) rfl) rfl
theorem lks_J0_9 : Cond.fieldLink RJ0 9 "java/lang/String" "value" "[B" ∈ tbG := tb_9 (List.mem_of_getElem? (i := 153) rfl) rfl
theorem lks_J0_15 : Cond.fieldLink RJ0 15 "java/lang/String" "coder" "B" ∈ tbG := tb_9 (List.mem_of_getElem? (i := 154) rfl) rfl
theorem mvs_J0_length_8abf5 : MV yJ0_length_8abf5 cJ0_length_8abf5 1 (some .int) 0 := ⟨cds_J0_length_8abf5, ins_J0_length_8abf5, ses_J0_length_8abf5, inis_J0, by decide +kernel, by decide +kernel, by decide +kernel⟩
theorem mvs_J0_coder_7d493 : MV yJ0_coder_7d493 cJ0_coder_7d493 1 (some .byte) 0 := ⟨cds_J0_coder_7d493, ins_J0_coder_7d493, ses_J0_coder_7d493, inis_J0, by decide +kernel, by decide +kernel, by decide +kernel⟩
theorem mvs_J0_charAt_5068e : MV yJ0_charAt_5068e cJ0_charAt_5068e 2 (some .char) 1 := ⟨cds_J0_charAt_5068e, ins_J0_charAt_5068e, ses_J0_charAt_5068e, inis_J0, by decide +kernel, by decide +kernel, by decide +kernel⟩
theorem mvs_J0_isLatin1_aae02 : MV yJ0_isLatin1_aae02 cJ0_isLatin1_aae02 1 (some .boolean) 0 := ⟨cds_J0_isLatin1_aae02, ins_J0_isLatin1_aae02, ses_J0_isLatin1_aae02, inis_J0, by decide +kernel, by decide +kernel, by decide +kernel⟩
theorem mss_J1_charAt_3b067 : MS yJ1_charAt_3b067 cJ1_charAt_3b067 2 (some .char) 2 := ⟨cds_J1_charAt_3b067, sts_J1_charAt_3b067, inis_J1, by decide +kernel, by decide +kernel, by decide +kernel⟩
theorem mss_J0_checkIndex_df160 : MS yJ0_checkIndex_df160 cJ0_checkIndex_df160 2 none 2 := ⟨cds_J0_checkIndex_df160, sts_J0_checkIndex_df160, inis_J0, by decide +kernel, by decide +kernel, by decide +kernel⟩
theorem mss_J3_checkIndex_8e157 : MS yJ3_checkIndex_8e157 cJ3_checkIndex_8e157 3 (some .int) 3 := ⟨cds_J3_checkIndex_8e157, sts_J3_checkIndex_8e157, inis_J3, by decide +kernel, by decide +kernel, by decide +kernel⟩
def owB : List Int32 := [108, 101, 116, 116, 101, 114, 32, 112, 101, 114, 115, 111, 110, 32, 98, 111, 114, 110, 32, 108, 105, 102, 116, 115, 32, 100, 101, 110, 116, 115, 32, 116, 105, 116, 108, 101, 32, 104, 111, 110, 111, 117, 114, 32, 104, 97, 115, 32, 104, 101, 97, 112, 32, 97, 103, 101, 32, 98, 101, 97, 114, 115, 32, 98, 114, 105, 100, 103, 101, 32, 121, 101, 97, 114, 32, 119, 104, 101, 110, 32, 111, 114, 32, 97, 110, 100, 32, 110, 111, 116, 32, 97, 108, 108, 32, 111, 108, 100, 32, 102, 111, 114, 99, 101, 32, 110, 97, 109, 101, 115, 32, 109, 105, 110, 32, 109, 97, 120, 32]
def owT : String := "letter person born lifts dents title honour has heap age bears bridge year when or and not all old force names min max "
abbrev Bq (B : Nat) : Nat → Prop := fun q => B ≤ q
def SG (a v B : Nat) (U : State) : Prop := vk_R RX6 21 owT a U ∧ va_O "java/lang/String" a (Bq B) U U.heap ∧ va_OF "java/lang/String" "coder" "B" (.int 0) a (Bq B) U U.heap ∧ va_OF "java/lang/String" "value" "[B" (.ref v) a (Bq B) U U.heap ∧ va_T .byte v 119 (fun j => .int (owB.getD j 0)) (Bq B) U U.heap ∧ va_Z "java/lang/String" "COMPACT_STRINGS" "Z" (.int 1) (Bq B) U U.heap ∧ va_Zq "jdk/internal/util/Preconditions" "SIOOBE_FORMATTER" "Ljava/util/function/BiFunction;" (Bq B) U U.heap
theorem SG.go {a v B : Nat} {s U : State} (h : SG a v B s) (hW : s.WarmedH U.vm) (hk : ∀ q : Nat, q < s.heap.size → ¬ Bq B q → U.heap[q]? = s.heap[q]?) : SG a v B U := by
  obtain ⟨h1, h2, h3, h4, h5, h6, h7⟩ := h
  exact ⟨h1.warm hW, (va_O.moved hW.alike h2).kept hk, (va_OF.moved hW.alike h3).kept hk, (va_OF.moved hW.alike h4).kept hk, (va_T.moved hW.alike h5).kept hk, (va_Z.moved hW.alike h6).kept hk, (va_Zq.moved hW.alike h7).kept hk⟩
theorem SG.call {av v B : Nat} {U : State} (h : SG av v B U) (a : Array Value) (g : JFrame) (mk : MethodId) : SG av v B (U.calling g mk a) := by
  obtain ⟨h1, h2, h3, h4, h5, h6, h7⟩ := h
  have e : U.vm.Alike (U.calling g mk a).vm := Vm.Alike.refl U.vm
  exact ⟨vk_R.same rfl h1, va_O.moved e h2, va_OF.moved e h3, va_OF.moved e h4, va_T.moved e h5, va_Z.moved e h6, va_Zq.moved e h7⟩
/-- a method that reads alone -/
def ST (l : Launch) (y : MethodName) (cc : ByteArray) (maxL : Nat) (ret : Option FieldType) (fr lo : Nat) (as : List Value) (a v B : Nat) (r : Option Value) : Prop :=
  Met l y (.code y cc maxL ret :: tbG) { frames := fr, cells := 0, slots := 0, locals := lo } (va_Pc as (SG a v B)) (fun _ st oc t => oc = .returned r ∧ t.heap = st.heap) 0 0 (fun _ => False)
def CS (z : Cz) (own : String) (cc : ByteArray) (nL : Nat) (ret : Option FieldType) (fr lo a v B : Nat) : Prop :=
  z.p.tables.exec = Jvm.exec ∧ z.c.code = cc ∧ z.c.maxLocals = nL ∧ z.s.vm.findClass own = some z.m.cls ∧ (∀ w ∈ tbG, w.before z.args z.s = true) ∧ z.meth.sig.returnType = ret ∧ z.meth.locks = false ∧ z.R = { frames := fr, cells := 0, slots := 0, locals := lo } ∧ SG a v B z.s
def RS (z : Cz) (nL : Nat) (r : Option Value) (pc : Nat) (lv : List (Nat × Value)) (st : List Value) : Prop :=
  ∀ ls : Array Slot, lv_has ls nL lv → W z.p z.l z.e z.R z.s z.m z.args z.below z.meth z.c z.s.heap [] 0 0 (MQ z.below (fun _ st oc t => oc = .returned r ∧ t.heap = st.heap) z.args z.s 0 0 (fun _ => False)) (F0 z.m pc ls st)
section RSs
variable {z : Cz} {own : String} {cc : ByteArray} {nL : Nat} {ret : Option FieldType} {fr lo a v B : Nat} {r : Option Value} {pc : Nat} {lv : List (Nat × Value)} {st : List Value}
theorem CS.exec (C : CS z own cc nL ret fr lo a v B) : z.p.tables.exec = Jvm.exec := C.1
theorem CS.code (C : CS z own cc nL ret fr lo a v B) : z.c.code = cc := C.2.1
theorem CS.maxl (C : CS z own cc nL ret fr lo a v B) : z.c.maxLocals = nL := C.2.2.1
theorem CS.ow (C : CS z own cc nL ret fr lo a v B) : z.s.vm.findClass own = some z.m.cls := C.2.2.2.1
theorem CS.hts (C : CS z own cc nL ret fr lo a v B) : ∀ w ∈ tbG, w.before z.args z.s = true := C.2.2.2.2.1
theorem CS.rt (C : CS z own cc nL ret fr lo a v B) : z.meth.sig.returnType = ret := C.2.2.2.2.2.1
theorem CS.lk (C : CS z own cc nL ret fr lo a v B) : z.meth.locks = false := C.2.2.2.2.2.2.1
theorem CS.room (C : CS z own cc nL ret fr lo a v B) : z.R = { frames := fr, cells := 0, slots := 0, locals := lo } := C.2.2.2.2.2.2.2.1
theorem CS.sg (C : CS z own cc nL ret fr lo a v B) : SG a v B z.s := C.2.2.2.2.2.2.2.2
theorem rs_ret {ty : FieldType} (C : CS z own cc nL (some ty) fr lo a v B) {x : Int32} (hn : narrow ty (.int x) = .int x) (hd : decode cc pc = .ok (.ireturn, 1)) : RS z nL (some (.int x)) pc lv [.int x] := fun ls _ => W.zret (hlocks := C.lk) C.exec C.code C.rt hn (fun t ht hW => ⟨rfl, ht⟩) (fun _ h => by cases h) hd
theorem rs_vret (C : CS z own cc nL none fr lo a v B) (hd : decode cc pc = .ok (.return_, 1)) : RS z nL none pc lv [] := fun ls _ => W.vret (hlocks := C.lk) C.exec C.code C.rt (fun t ht hW => ⟨rfl, ht⟩) (fun _ h => by cases h) hd
theorem rs_run {r1 : Option Value} {ls : Array Slot} {st0 rest : List Value} {Q : State → Prop} (hr : va_Run z.p z.l z.e z.R z.s z.m z.args z.below z.meth z.c z.s.heap [] 0 0 0 0 (F0 z.m pc ls st0) rest (fun st oc t => oc = .returned r1 ∧ t.heap = st.heap) (fun _ => False))
    (kk : W z.p z.l z.e z.R z.s z.m z.args z.below z.meth z.c z.s.heap [] 0 0 Q (F0 z.m (pc + 3) ls (r1.toList ++ rest))) : W z.p z.l z.e z.R z.s z.m z.args z.below z.meth z.c z.s.heap [] 0 0 Q (F0 z.m pc ls st0) := by
  intro T hT X
  obtain ⟨v, st₀, t, T', L, h0, X', hL, e1, e2, ⟨hv, hh⟩, st⟩ := hr T hT X
  cases hv
  have hL0 : L = [] := by
    cases L with
    | nil => rfl
    | cons q L => exact (hL q List.mem_cons_self).elim
  subst hL0
  obtain ⟨t2, a1, b1⟩ := kk T' (by rw [e1, hh]; exact h0) X'
  exact ⟨t2, st t2 a1, b1⟩
theorem sg_blind {as : List Value} : FrameBlind (va_Pc as (SG a v B)) := fun x U g mk q => ⟨q.1, q.2.call x g mk⟩
theorem rs_good {y : MethodName} {bytes : ByteArray} {maxL n idx : Nat} {ret1 : Option FieldType} (mf : MV y bytes maxL ret1 n) (hlk : Cond.methodLink own idx y ∈ tbG) : GoodIn tbG (wsV own idx y.cls y (.code y bytes maxL ret1 :: tbG)) := by
  obtain ⟨m1, m2, m3, m4, m5, m6, m7⟩ := mf
  intro w hw
  have hm : w ∈ tbG := by
    rcases List.mem_append.mp hw with h | h
    · rcases List.mem_cons.mp h with rfl | h
      · exact hlk
      · rcases List.mem_cons.mp h with rfl | h
        · exact m2
        · rcases List.mem_cons.mp h with rfl | h
          · exact m3
          · rcases List.mem_cons.mp h with rfl | h
            · exact m4
            · cases h
    · rcases List.mem_cons.mp h with rfl | h
      · exact m1
      · exact h
  exact tb_good w hm
theorem rs_goodS {y : MethodName} {bytes : ByteArray} {maxL n idx : Nat} {ret1 : Option FieldType} (mf : MS y bytes maxL ret1 n) (hlk : Cond.methodLink own idx y ∈ tbG) : GoodIn tbG (va_wsS own idx y (.code y bytes maxL ret1 :: tbG)) := by
  obtain ⟨m1, m2, m4, m5, m6, m7⟩ := mf
  intro w hw
  have hm : w ∈ tbG := by
    rcases List.mem_append.mp hw with h | h
    · rcases List.mem_cons.mp h with rfl | h
      · exact hlk
      · rcases List.mem_cons.mp h with rfl | h
        · exact m2
        · rcases List.mem_cons.mp h with rfl | h
          · exact m4
          · cases h
    · rcases List.mem_cons.mp h with rfl | h
      · exact m1
      · exact h
  exact tb_good w hm
theorem rs_callV (C : CS z own cc nL ret fr lo a v B) {y : MethodName} {bytes : ByteArray} {maxL n idx fr1 lo1 : Nat} {ret1 : Option FieldType} {r1 : Option Value} (As rest : List Value) {stk : List Value} {ls : Array Slot} (hl : lv_has ls nL lv) (hM : ST z.l y bytes maxL ret1 fr1 lo1 (.ref a :: As) a v B r1) (mf : MV y bytes maxL ret1 n) (hyc : y.cls = "java/lang/String") (hlk : Cond.methodLink own idx y ∈ tbG) (hn : As.length = n) (hst : stk = As.reverse ++ .ref a :: rest) (hcat : (rest.map fun v => v.category).sum ≤ 8) (hR : fr1 + 1 ≤ fr ∧ 8 + (maxL + 11) + lo1 ≤ lo) (hd : decode cc pc = .ok (.invokevirtual idx, 3)) {Q : State → Prop}
    (kk : W z.p z.l z.e z.R z.s z.m z.args z.below z.meth z.c z.s.heap [] 0 0 Q (F0 z.m (pc + 3) ls (r1.toList ++ rest))) : W z.p z.l z.e z.R z.s z.m z.args z.below z.meth z.c z.s.heap [] 0 0 Q (F0 z.m pc ls stk) := by
  have hg := rs_good mf hlk
  obtain ⟨m1, m2, m3, m4, m5, m6, m7⟩ := mf
  have hrc : ∃ cellB : Cell, z.s.heap[a]? = some cellB ∧ cellB.vm.isStatics = false ∧ z.s.vm.findClass y.cls = some cellB.cls := by
    obtain ⟨cell, h1, h2, h3, -⟩ := C.sg.2.1
    exact ⟨cell, h1, h2, by rw [hyc]; exact h3⟩
  exact rs_run (va_runV (rest := rest) (As := As) ⟨C.exec, C.code, C.maxl, C.ow, C.hts⟩ hM (cwV n C.hts hg rfl rfl rfl ⟨rfl, m5, m6, m7⟩ (by rw [C.room]; exact hR)) ⟨sg_blind, hrc, fun U hU hW => ⟨rfl, C.sg.go hW (fun q _ _ => by rw [hU])⟩⟩ rfl hn hl.1 hst (lv_room hcat) hd (by rw [C.room]; exact ⟨Nat.le_refl _, Nat.le_refl _⟩)) kk
theorem rs_callS (C : CS z own cc nL ret fr lo a v B) {y : MethodName} {bytes : ByteArray} {maxL n idx fr1 lo1 : Nat} {ret1 : Option FieldType} {r1 : Option Value} (As rest : List Value) {stk : List Value} {ls : Array Slot} (hl : lv_has ls nL lv) (hM : ST z.l y bytes maxL ret1 fr1 lo1 As a v B r1) (mf : MS y bytes maxL ret1 n) (hlk : Cond.methodLink own idx y ∈ tbG) (hn : As.length = n) (hst : stk = As.reverse ++ rest) (hcat : (rest.map fun v => v.category).sum ≤ 8) (hR : fr1 + 1 ≤ fr ∧ 8 + (maxL + 11) + lo1 ≤ lo) (hd : decode cc pc = .ok (.invokestatic idx, 3)) {Q : State → Prop}
    (kk : W z.p z.l z.e z.R z.s z.m z.args z.below z.meth z.c z.s.heap [] 0 0 Q (F0 z.m (pc + 3) ls (r1.toList ++ rest))) : W z.p z.l z.e z.R z.s z.m z.args z.below z.meth z.c z.s.heap [] 0 0 Q (F0 z.m pc ls stk) := by
  have hg := rs_goodS mf hlk
  obtain ⟨m1, m2, m4, m5, m6, m7⟩ := mf
  exact rs_run (va_runS (rest := rest) (As := As) ⟨C.exec, C.code, C.maxl, C.ow, C.hts⟩ hM (va_cwS n C.hts hg rfl rfl rfl ⟨m5, m6, m7⟩ (by rw [C.room]; exact hR)) ⟨sg_blind, fun U hU hW => ⟨rfl, C.sg.go hW (fun q _ _ => by rw [hU])⟩⟩ rfl hn hl.1 hst (lv_room hcat) hd (by rw [C.room]; exact ⟨Nat.le_refl _, Nat.le_refl _⟩)) kk
end RSs
theorem st_of {l : Launch} {y : MethodName} {cc : ByteArray} {maxL : Nat} {ret : Option FieldType} {fr lo : Nat} {as : List Value} {a v B : Nat} {r : Option Value} (hy : plainFor y = true) (hlen : (lg_sl as).length ≤ maxL) (h : ∀ z : Cz, z.l = l → CS z y.cls cc maxL ret fr lo a v B → RS z maxL r 0 (lv_args 0 as) []) : ST l y cc maxL ret fr lo as a v B r := by
  refine va_MetF (cc := cc) (maxL := maxL) (ret := ret) hy rfl ?_
  intro p e2 s m args below meth c s₁ B1 hml hv
  obtain ⟨rfl, hg⟩ := hv
  have hts := atoms_spec (ws := Cond.code y cc maxL ret :: tbG) B1.pre
  have hl := lv_entry as (n := maxL) hlen
  rw [lg_entry_eq]
  exact h (mkz p l e2 { frames := fr, cells := 0, slots := 0, locals := lo } s m as.toArray below meth c) rfl ⟨B1.exec, B1.bytes, hml, findClass_of_methodNamed B1.named, fun w hw => hts w (List.mem_cons_of_mem _ hw), B1.returns, B1.notSynchronized, rfl, hg⟩ _ hl
theorem s_coder (l : Launch) (a v B : Nat) : ST l yJ0_coder_7d493 cJ0_coder_7d493 1 (some .byte) 0 0 [.ref a] a v B (some (.int 0)) := by
  refine st_of (by decide +kernel) (Nat.le_of_ble_eq_true rfl) (fun z hz C ls hl => ?_)
  have hl : lv_has ls 1 [(0, .ref a)] := hl
  refine va_gets C.exec C.code C.sg.2.2.2.2.2.1 va_S.rf C.ow (C.hts _ lks_J0_38) (fun _ h => h) dJ0_coder_7d493_0 ?_
  refine lv_if_eq C.exec C.code (tgt := 13) dJ0_coder_7d493_3 (by decide) (fun h => absurd h (by decide)) (fun _ => ?_)
  refine lv_aload_n C.exec C.code dJ0_coder_7d493_6 rfl (lv_at hl 0 rfl) ?_
  refine vk_getf C.exec C.code C.sg.2.2.1 va_S.rf C.ow (C.hts _ lks_J0_15) (fun _ h => h) dJ0_coder_7d493_7 ?_
  refine lv_goto C.exec C.code (tgt := 14) dJ0_coder_7d493_10 (by decide) ?_
  exact rs_ret C rfl dJ0_coder_7d493_14 ls hl
theorem s_isLatin1 (l : Launch) (a v B : Nat) : ST l yJ0_isLatin1_aae02 cJ0_isLatin1_aae02 1 (some .boolean) 0 0 [.ref a] a v B (some (.int 1)) := by
  refine st_of (by decide +kernel) (Nat.le_of_ble_eq_true rfl) (fun z hz C ls hl => ?_)
  have hl : lv_has ls 1 [(0, .ref a)] := hl
  refine va_gets C.exec C.code C.sg.2.2.2.2.2.1 va_S.rf C.ow (C.hts _ lks_J0_38) (fun _ h => h) dJ0_isLatin1_aae02_0 ?_
  refine lv_if_eq C.exec C.code (tgt := 17) dJ0_isLatin1_aae02_3 (by decide) (fun h => absurd h (by decide)) (fun _ => ?_)
  refine lv_aload_n C.exec C.code dJ0_isLatin1_aae02_6 rfl (lv_at hl 0 rfl) ?_
  refine vk_getf C.exec C.code C.sg.2.2.1 va_S.rf C.ow (C.hts _ lks_J0_15) (fun _ h => h) dJ0_isLatin1_aae02_7 ?_
  refine lv_if_ne C.exec C.code (tgt := 17) dJ0_isLatin1_aae02_10 (by decide) (fun h => absurd rfl h) (fun _ => ?_)
  refine lv_iconst C.exec C.code (v := 1) dJ0_isLatin1_aae02_13 (by decide +kernel) ?_
  refine lv_goto C.exec C.code (tgt := 18) dJ0_isLatin1_aae02_14 (by decide) ?_
  exact rs_ret C rfl dJ0_isLatin1_aae02_18 ls hl
theorem s_length (l : Launch) (a v B : Nat) : ST l yJ0_length_8abf5 cJ0_length_8abf5 1 (some .int) 1 20 [.ref a] a v B (some (.int 119)) := by
  refine st_of (by decide +kernel) (Nat.le_of_ble_eq_true rfl) (fun z hz C ls hl => ?_)
  have hl : lv_has ls 1 [(0, .ref a)] := hl
  refine lv_aload_n C.exec C.code dJ0_length_8abf5_0 rfl (lv_at hl 0 rfl) ?_
  refine vk_getf C.exec C.code C.sg.2.2.2.1 va_S.rf C.ow (C.hts _ lks_J0_9) (fun _ h => h) dJ0_length_8abf5_1 ?_
  refine va_tlen C.exec C.code (v := 119) C.sg.2.2.2.2.1 va_S.rf (by decide +kernel) dJ0_length_8abf5_4 ?_
  refine lv_aload_n C.exec C.code dJ0_length_8abf5_5 rfl (lv_at hl 0 rfl) ?_
  refine rs_callV C [] [.int 119] hl (s_coder z.l a v B) mvs_J0_coder_7d493 rfl lks_J0_335 rfl rfl (Nat.le_of_ble_eq_true rfl) ⟨Nat.le_of_ble_eq_true rfl, Nat.le_of_ble_eq_true rfl⟩ dJ0_length_8abf5_6 ?_
  refine lv_ishr C.exec C.code dJ0_length_8abf5_9 ?_
  have e : (119 : Int32) >>> ((0 : Int32) &&& 31) = 119 := by decide +kernel
  rw [e]
  exact rs_ret C rfl dJ0_length_8abf5_10 ls hl
theorem s_preN (l : Launch) (a v B : Nat) {i : Nat} (hi : i < 119) : ST l yJ3_checkIndex_8e157 cJ3_checkIndex_8e157 3 (some .int) 0 0 [.int (nI i), .int 119, .null] a v B (some (.int (nI i))) := by
  refine st_of (by decide +kernel) (Nat.le_of_ble_eq_true rfl) (fun z hz C ls hl => ?_)
  have hl : lv_has ls 3 [(0, .int (nI i)), (1, .int 119), (2, .null)] := hl
  refine lv_iload_n C.exec C.code dJ3_checkIndex_8e157_0 rfl (lv_at hl 0 rfl) ?_
  refine lv_if_lt C.exec C.code (tgt := 9) dJ3_checkIndex_8e157_1 (by decide) (fun h => absurd h (nI_pos (by omega))) (fun _ => ?_)
  refine lv_iload_n C.exec C.code dJ3_checkIndex_8e157_4 rfl (lv_at hl 0 rfl) ?_
  refine lv_iload_n C.exec C.code dJ3_checkIndex_8e157_5 rfl (lv_at hl 1 rfl) ?_
  refine lv_icmp_lt C.exec C.code (tgt := 16) dJ3_checkIndex_8e157_6 (by decide) (fun _ => ?_) (fun h => absurd (nI_lt (b := 119) hi (by omega)) h)
  refine lv_iload_n C.exec C.code dJ3_checkIndex_8e157_16 rfl (lv_at hl 0 rfl) ?_
  exact rs_ret C rfl dJ3_checkIndex_8e157_17 ls hl
theorem s_preR (l : Launch) (a v B : Nat) (t : Nat) {i : Nat} (hi : i < 119) : ST l yJ3_checkIndex_8e157 cJ3_checkIndex_8e157 3 (some .int) 0 0 [.int (nI i), .int 119, .ref t] a v B (some (.int (nI i))) := by
  refine st_of (by decide +kernel) (Nat.le_of_ble_eq_true rfl) (fun z hz C ls hl => ?_)
  have hl : lv_has ls 3 [(0, .int (nI i)), (1, .int 119), (2, .ref t)] := hl
  refine lv_iload_n C.exec C.code dJ3_checkIndex_8e157_0 rfl (lv_at hl 0 rfl) ?_
  refine lv_if_lt C.exec C.code (tgt := 9) dJ3_checkIndex_8e157_1 (by decide) (fun h => absurd h (nI_pos (by omega))) (fun _ => ?_)
  refine lv_iload_n C.exec C.code dJ3_checkIndex_8e157_4 rfl (lv_at hl 0 rfl) ?_
  refine lv_iload_n C.exec C.code dJ3_checkIndex_8e157_5 rfl (lv_at hl 1 rfl) ?_
  refine lv_icmp_lt C.exec C.code (tgt := 16) dJ3_checkIndex_8e157_6 (by decide) (fun _ => ?_) (fun h => absurd (nI_lt (b := 119) hi (by omega)) h)
  refine lv_iload_n C.exec C.code dJ3_checkIndex_8e157_16 rfl (lv_at hl 0 rfl) ?_
  exact rs_ret C rfl dJ3_checkIndex_8e157_17 ls hl
theorem s_check (l : Launch) (a v B : Nat) {i : Nat} (hi : i < 119) : ST l yJ0_checkIndex_df160 cJ0_checkIndex_df160 2 none 1 22 [.int (nI i), .int 119] a v B none := by
  refine st_of (by decide +kernel) (Nat.le_of_ble_eq_true rfl) (fun z hz C ls hl => ?_)
  have hl : lv_has ls 2 [(0, .int (nI i)), (1, .int 119)] := hl
  refine lv_iload_n C.exec C.code dJ0_checkIndex_df160_0 rfl (lv_at hl 0 rfl) ?_
  refine lv_iload_n C.exec C.code dJ0_checkIndex_df160_1 rfl (lv_at hl 1 rfl) ?_
  rcases C.sg.2.2.2.2.2.2 with h | ⟨t, h⟩
  · refine va_gets C.exec C.code h va_S.rf C.ow (C.hts _ lks_J0_1053) (fun _ h => h) dJ0_checkIndex_df160_2 ?_
    refine rs_callS C [.int (nI i), .int 119, .null] [] hl (s_preN z.l a v B hi) mss_J3_checkIndex_8e157 lks_J0_1059 rfl rfl (Nat.le_of_ble_eq_true rfl) ⟨Nat.le_of_ble_eq_true rfl, Nat.le_of_ble_eq_true rfl⟩ dJ0_checkIndex_df160_5 ?_
    refine lv_pop C.exec C.code dJ0_checkIndex_df160_8 rfl ?_
    exact rs_vret C dJ0_checkIndex_df160_9 ls hl
  · refine va_gets C.exec C.code h va_S.rf C.ow (C.hts _ lks_J0_1053) (fun _ h => h) dJ0_checkIndex_df160_2 ?_
    refine rs_callS C [.int (nI i), .int 119, .ref t] [] hl (s_preR z.l a v B t hi) mss_J3_checkIndex_8e157 lks_J0_1059 rfl rfl (Nat.le_of_ble_eq_true rfl) ⟨Nat.le_of_ble_eq_true rfl, Nat.le_of_ble_eq_true rfl⟩ dJ0_checkIndex_df160_5 ?_
    refine lv_pop C.exec C.code dJ0_checkIndex_df160_8 rfl ?_
    exact rs_vret C dJ0_checkIndex_df160_9 ls hl
theorem owB_c : ∀ k, k < 119 → (((owB.getD k 0) &&& 255).toUInt32 % 65536).toInt32 = owB.getD k 0 := by decide +kernel
theorem owB_n : ∀ k, k < 119 → narrow .char (.int (owB.getD k 0)) = .int (owB.getD k 0) := by decide +kernel
theorem s_lat (l : Launch) (a v B : Nat) {i : Nat} (hi : i < 119) : ST l yJ1_charAt_3b067 cJ1_charAt_3b067 2 (some .char) 2 43 [.ref v, .int (nI i)] a v B (some (.int (owB.getD i 0))) := by
  refine st_of (by decide +kernel) (Nat.le_of_ble_eq_true rfl) (fun z hz C ls hl => ?_)
  have hl : lv_has ls 2 [(0, .ref v), (1, .int (nI i))] := hl
  refine lv_iload_n C.exec C.code dJ1_charAt_3b067_0 rfl (lv_at hl 1 rfl) ?_
  refine lv_aload_n C.exec C.code dJ1_charAt_3b067_1 rfl (lv_at hl 0 rfl) ?_
  refine va_tlen C.exec C.code (v := 119) C.sg.2.2.2.2.1 va_S.rf (by decide +kernel) dJ1_charAt_3b067_2 ?_
  refine rs_callS C [.int (nI i), .int 119] [] hl (s_check z.l a v B hi) mss_J0_checkIndex_df160 lks_J1_9 rfl rfl (Nat.le_of_ble_eq_true rfl) ⟨Nat.le_of_ble_eq_true rfl, Nat.le_of_ble_eq_true rfl⟩ dJ1_charAt_3b067_3 ?_
  refine lv_aload_n C.exec C.code dJ1_charAt_3b067_6 rfl (lv_at hl 0 rfl) ?_
  refine lv_iload_n C.exec C.code dJ1_charAt_3b067_7 rfl (lv_at hl 1 rfl) ?_
  refine va_tb C.exec C.code C.sg.2.2.2.2.1 va_S.rf (vp_in_nI hi (by omega)) (v := .int (owB.getD i 0)) (by rw [nI_clamp (by omega)]) dJ1_charAt_3b067_8 ?_
  refine lv_sipush C.exec C.code (v := 255) dJ1_charAt_3b067_9 (by decide +kernel) ?_
  refine lv_iand C.exec C.code dJ1_charAt_3b067_12 ?_
  refine lv_i2c C.exec C.code dJ1_charAt_3b067_13 (owB_c i hi) ?_
  exact rs_ret C (owB_n i hi) dJ1_charAt_3b067_14 ls hl
theorem s_charAt (l : Launch) (a v B : Nat) {i : Nat} (hi : i < 119) : ST l yJ0_charAt_5068e cJ0_charAt_5068e 2 (some .char) 3 64 [.ref a, .int (nI i)] a v B (some (.int (owB.getD i 0))) := by
  refine st_of (by decide +kernel) (Nat.le_of_ble_eq_true rfl) (fun z hz C ls hl => ?_)
  have hl : lv_has ls 2 [(0, .ref a), (1, .int (nI i))] := hl
  refine lv_aload_n C.exec C.code dJ0_charAt_5068e_0 rfl (lv_at hl 0 rfl) ?_
  refine rs_callV C [] [] hl (s_isLatin1 z.l a v B) mvs_J0_isLatin1_aae02 rfl lks_J0_492 rfl rfl (Nat.le_of_ble_eq_true rfl) ⟨Nat.le_of_ble_eq_true rfl, Nat.le_of_ble_eq_true rfl⟩ dJ0_charAt_5068e_1 ?_
  refine lv_if_eq C.exec C.code (tgt := 16) dJ0_charAt_5068e_4 (by decide) (fun h => absurd h (by decide)) (fun _ => ?_)
  refine lv_aload_n C.exec C.code dJ0_charAt_5068e_7 rfl (lv_at hl 0 rfl) ?_
  refine vk_getf C.exec C.code C.sg.2.2.2.1 va_S.rf C.ow (C.hts _ lks_J0_9) (fun _ h => h) dJ0_charAt_5068e_8 ?_
  refine lv_iload_n C.exec C.code dJ0_charAt_5068e_11 rfl (lv_at hl 1 rfl) ?_
  refine rs_callS C [.ref v, .int (nI i)] [] hl (s_lat z.l a v B hi) mss_J1_charAt_3b067 lks_J0_495 rfl rfl (Nat.le_of_ble_eq_true rfl) ⟨Nat.le_of_ble_eq_true rfl, Nat.le_of_ble_eq_true rfl⟩ dJ0_charAt_5068e_12 ?_
  exact rs_ret C (owB_n i hi) dJ0_charAt_5068e_15 ls hl
