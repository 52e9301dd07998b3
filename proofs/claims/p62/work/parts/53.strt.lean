/-! methods of String: tables, by wip/gen/gen.py -/
def zs_yP : MethodName := ⟨"jdk/internal/util/Preconditions", "checkIndex", "(IILjava/util/function/BiFunction;)I"⟩
def zs_bP : ByteArray := prog_24_method_11_code
def zs_cP : Cond := .code zs_yP zs_bP 3 (some FieldType.int)
def zs_yK : MethodName := ⟨"java/lang/String", "checkIndex", "(II)V"⟩
def zs_bK : ByteArray := prog_18_method_155_code
def zs_cK : Cond := .code zs_yK zs_bK 2 (none)
def zs_yL : MethodName := ⟨"java/lang/StringLatin1", "charAt", "([BI)C"⟩
def zs_bL : ByteArray := prog_19_method_2_code
def zs_cL : Cond := .code zs_yL zs_bL 2 (some FieldType.char)
def zs_yI : MethodName := ⟨"java/lang/String", "isLatin1", "()Z"⟩
def zs_bI : ByteArray := prog_18_method_154_code
def zs_cI : Cond := .code zs_yI zs_bI 1 (some FieldType.boolean)
def zs_yO : MethodName := ⟨"java/lang/String", "coder", "()B"⟩
def zs_bO : ByteArray := prog_18_method_152_code
def zs_cO : Cond := .code zs_yO zs_bO 1 (some FieldType.byte)
def zs_yN : MethodName := ⟨"java/lang/String", "length", "()I"⟩
def zs_bN : ByteArray := prog_18_method_54_code
def zs_cN : Cond := .code zs_yN zs_bN 1 (some FieldType.int)
def zs_yC : MethodName := ⟨"java/lang/String", "charAt", "(I)C"⟩
def zs_bC : ByteArray := prog_18_method_56_code
def zs_cC : Cond := .code zs_yC zs_bC 2 (some FieldType.char)
def zs_w : List Cond := [zs_cP, .static zs_yP, zs_cK, .static zs_yK, zs_cL, .static zs_yL, zs_cI, .instanceMethod zs_yI, .selects "java/lang/String" zs_yI zs_yI, zs_cO, .instanceMethod zs_yO, .selects "java/lang/String" zs_yO zs_yO, zs_cN, .instanceMethod zs_yN, .selects "java/lang/String" zs_yN zs_yN, zs_cC, .instanceMethod zs_yC, .selects "java/lang/String" zs_yC zs_yC, .initialized "java/lang/String", .initialized "java/lang/StringLatin1", .initialized "jdk/internal/util/Preconditions", .methodLink "java/lang/String" 335 zs_yO, .methodLink "java/lang/String" 492 zs_yI, .methodLink "java/lang/String" 495 zs_yL, .methodLink "java/lang/StringLatin1" 9 zs_yK, .methodLink "java/lang/String" 1059 zs_yP, .fieldLink "java/lang/String" 38 "java/lang/String" "COMPACT_STRINGS" "Z", .fieldLink "java/lang/String" 1053 "jdk/internal/util/Preconditions" "SIOOBE_FORMATTER" "Ljava/util/function/BiFunction;", .fieldLink "java/lang/String" 9 "java/lang/String" "value" "[B", .fieldLink "java/lang/String" 15 "java/lang/String" "coder" "B"]
set_option maxRecDepth 100000 in
theorem zs_w_in : GoodIn lw_tbl zs_w := goodIn_c _ [(3, 56), (3, 55), (3, 51), (3, 50), (3, 48), (3, 47), (3, 45), (3, 43), (3, 44), (3, 35), (3, 33), (3, 34), (3, 31), (3, 29), (3, 30), (3, 41), (3, 39), (3, 40), (1, 16), (1, 17), (1, 18), (3, 32), (3, 42), (3, 46), (3, 49), (3, 54), (3, 36), (3, 52), (10, 108), (10, 109)] (by decide +kernel) (by decide +kernel)
set_option maxRecDepth 100000 in
theorem zs_dP_0 : decode zs_bP 0 = .ok (.iload_n 0, 1) := by decide +kernel
set_option maxRecDepth 100000 in
theorem zs_dP_1 : decode zs_bP 1 = .ok (.ifCond .lt 8, 3) := by decide +kernel
set_option maxRecDepth 100000 in
theorem zs_dP_4 : decode zs_bP 4 = .ok (.iload_n 0, 1) := by decide +kernel
set_option maxRecDepth 100000 in
theorem zs_dP_5 : decode zs_bP 5 = .ok (.iload_n 1, 1) := by decide +kernel
set_option maxRecDepth 100000 in
theorem zs_dP_6 : decode zs_bP 6 = .ok (.if_icmp .lt 10, 3) := by decide +kernel
set_option maxRecDepth 100000 in
theorem zs_dP_9 : decode zs_bP 9 = .ok (.aload_n 2, 1) := by decide +kernel
set_option maxRecDepth 100000 in
theorem zs_dP_10 : decode zs_bP 10 = .ok (.iload_n 0, 1) := by decide +kernel
set_option maxRecDepth 100000 in
theorem zs_dP_11 : decode zs_bP 11 = .ok (.iload_n 1, 1) := by decide +kernel
set_option maxRecDepth 100000 in
theorem zs_dP_12 : decode zs_bP 12 = .ok (.invokestatic 95, 3) := by decide +kernel
set_option maxRecDepth 100000 in
theorem zs_dP_15 : decode zs_bP 15 = .ok (.athrow, 1) := by decide +kernel
set_option maxRecDepth 100000 in
theorem zs_dP_16 : decode zs_bP 16 = .ok (.iload_n 0, 1) := by decide +kernel
set_option maxRecDepth 100000 in
theorem zs_dP_17 : decode zs_bP 17 = .ok (.ireturn, 1) := by decide +kernel
set_option maxRecDepth 100000 in
theorem zs_dK_0 : decode zs_bK 0 = .ok (.iload_n 0, 1) := by decide +kernel
set_option maxRecDepth 100000 in
theorem zs_dK_1 : decode zs_bK 1 = .ok (.iload_n 1, 1) := by decide +kernel
set_option maxRecDepth 100000 in
theorem zs_dK_2 : decode zs_bK 2 = .ok (.getstatic 1053, 3) := by decide +kernel
set_option maxRecDepth 100000 in
theorem zs_dK_5 : decode zs_bK 5 = .ok (.invokestatic 1059, 3) := by decide +kernel
set_option maxRecDepth 100000 in
theorem zs_dK_8 : decode zs_bK 8 = .ok (.pop, 1) := by decide +kernel
set_option maxRecDepth 100000 in
theorem zs_dK_9 : decode zs_bK 9 = .ok (.return_, 1) := by decide +kernel
set_option maxRecDepth 100000 in
theorem zs_dL_0 : decode zs_bL 0 = .ok (.iload_n 1, 1) := by decide +kernel
set_option maxRecDepth 100000 in
theorem zs_dL_1 : decode zs_bL 1 = .ok (.aload_n 0, 1) := by decide +kernel
set_option maxRecDepth 100000 in
theorem zs_dL_2 : decode zs_bL 2 = .ok (.arraylength, 1) := by decide +kernel
set_option maxRecDepth 100000 in
theorem zs_dL_3 : decode zs_bL 3 = .ok (.invokestatic 9, 3) := by decide +kernel
set_option maxRecDepth 100000 in
theorem zs_dL_6 : decode zs_bL 6 = .ok (.aload_n 0, 1) := by decide +kernel
set_option maxRecDepth 100000 in
theorem zs_dL_7 : decode zs_bL 7 = .ok (.iload_n 1, 1) := by decide +kernel
set_option maxRecDepth 100000 in
theorem zs_dL_8 : decode zs_bL 8 = .ok (.baload, 1) := by decide +kernel
set_option maxRecDepth 100000 in
theorem zs_dL_9 : decode zs_bL 9 = .ok (.sipush 255, 3) := by decide +kernel
set_option maxRecDepth 100000 in
theorem zs_dL_12 : decode zs_bL 12 = .ok (.iand, 1) := by decide +kernel
set_option maxRecDepth 100000 in
theorem zs_dL_13 : decode zs_bL 13 = .ok (.i2c, 1) := by decide +kernel
set_option maxRecDepth 100000 in
theorem zs_dL_14 : decode zs_bL 14 = .ok (.ireturn, 1) := by decide +kernel
set_option maxRecDepth 100000 in
theorem zs_dI_0 : decode zs_bI 0 = .ok (.getstatic 38, 3) := by decide +kernel
set_option maxRecDepth 100000 in
theorem zs_dI_3 : decode zs_bI 3 = .ok (.ifCond .eq 14, 3) := by decide +kernel
set_option maxRecDepth 100000 in
theorem zs_dI_6 : decode zs_bI 6 = .ok (.aload_n 0, 1) := by decide +kernel
set_option maxRecDepth 100000 in
theorem zs_dI_7 : decode zs_bI 7 = .ok (.getfield 15, 3) := by decide +kernel
set_option maxRecDepth 100000 in
theorem zs_dI_10 : decode zs_bI 10 = .ok (.ifCond .ne 7, 3) := by decide +kernel
set_option maxRecDepth 100000 in
theorem zs_dI_13 : decode zs_bI 13 = .ok (.iconst 1, 1) := by decide +kernel
set_option maxRecDepth 100000 in
theorem zs_dI_14 : decode zs_bI 14 = .ok (.goto 4, 3) := by decide +kernel
set_option maxRecDepth 100000 in
theorem zs_dI_17 : decode zs_bI 17 = .ok (.iconst 0, 1) := by decide +kernel
set_option maxRecDepth 100000 in
theorem zs_dI_18 : decode zs_bI 18 = .ok (.ireturn, 1) := by decide +kernel
set_option maxRecDepth 100000 in
theorem zs_dO_0 : decode zs_bO 0 = .ok (.getstatic 38, 3) := by decide +kernel
set_option maxRecDepth 100000 in
theorem zs_dO_3 : decode zs_bO 3 = .ok (.ifCond .eq 10, 3) := by decide +kernel
set_option maxRecDepth 100000 in
theorem zs_dO_6 : decode zs_bO 6 = .ok (.aload_n 0, 1) := by decide +kernel
set_option maxRecDepth 100000 in
theorem zs_dO_7 : decode zs_bO 7 = .ok (.getfield 15, 3) := by decide +kernel
set_option maxRecDepth 100000 in
theorem zs_dO_10 : decode zs_bO 10 = .ok (.goto 4, 3) := by decide +kernel
set_option maxRecDepth 100000 in
theorem zs_dO_13 : decode zs_bO 13 = .ok (.iconst 1, 1) := by decide +kernel
set_option maxRecDepth 100000 in
theorem zs_dO_14 : decode zs_bO 14 = .ok (.ireturn, 1) := by decide +kernel
set_option maxRecDepth 100000 in
theorem zs_dN_0 : decode zs_bN 0 = .ok (.aload_n 0, 1) := by decide +kernel
set_option maxRecDepth 100000 in
theorem zs_dN_1 : decode zs_bN 1 = .ok (.getfield 9, 3) := by decide +kernel
set_option maxRecDepth 100000 in
theorem zs_dN_4 : decode zs_bN 4 = .ok (.arraylength, 1) := by decide +kernel
set_option maxRecDepth 100000 in
theorem zs_dN_5 : decode zs_bN 5 = .ok (.aload_n 0, 1) := by decide +kernel
set_option maxRecDepth 100000 in
theorem zs_dN_6 : decode zs_bN 6 = .ok (.invokevirtual 335, 3) := by decide +kernel
set_option maxRecDepth 100000 in
theorem zs_dN_9 : decode zs_bN 9 = .ok (.ishr, 1) := by decide +kernel
set_option maxRecDepth 100000 in
theorem zs_dN_10 : decode zs_bN 10 = .ok (.ireturn, 1) := by decide +kernel
set_option maxRecDepth 100000 in
theorem zs_dC_0 : decode zs_bC 0 = .ok (.aload_n 0, 1) := by decide +kernel
set_option maxRecDepth 100000 in
theorem zs_dC_1 : decode zs_bC 1 = .ok (.invokevirtual 492, 3) := by decide +kernel
set_option maxRecDepth 100000 in
theorem zs_dC_4 : decode zs_bC 4 = .ok (.ifCond .eq 12, 3) := by decide +kernel
set_option maxRecDepth 100000 in
theorem zs_dC_7 : decode zs_bC 7 = .ok (.aload_n 0, 1) := by decide +kernel
set_option maxRecDepth 100000 in
theorem zs_dC_8 : decode zs_bC 8 = .ok (.getfield 9, 3) := by decide +kernel
set_option maxRecDepth 100000 in
theorem zs_dC_11 : decode zs_bC 11 = .ok (.iload_n 1, 1) := by decide +kernel
set_option maxRecDepth 100000 in
theorem zs_dC_12 : decode zs_bC 12 = .ok (.invokestatic 495, 3) := by decide +kernel
set_option maxRecDepth 100000 in
theorem zs_dC_15 : decode zs_bC 15 = .ok (.ireturn, 1) := by decide +kernel
set_option maxRecDepth 100000 in
theorem zs_dC_16 : decode zs_bC 16 = .ok (.aload_n 0, 1) := by decide +kernel
set_option maxRecDepth 100000 in
theorem zs_dC_17 : decode zs_bC 17 = .ok (.getfield 9, 3) := by decide +kernel
set_option maxRecDepth 100000 in
theorem zs_dC_20 : decode zs_bC 20 = .ok (.iload_n 1, 1) := by decide +kernel
set_option maxRecDepth 100000 in
theorem zs_dC_21 : decode zs_bC 21 = .ok (.invokestatic 498, 3) := by decide +kernel
set_option maxRecDepth 100000 in
theorem zs_dC_24 : decode zs_bC 24 = .ok (.ireturn, 1) := by decide +kernel
