/-! ===== the String constants: their lengths, their characters ===== -/
def SR (x : Int) : Prop := ∃ k : Nat, k < 11 ∧ x = -10 - (k : Int)
def CT (M : MR) (n : Nat) : Prop := Cond.code M.1 M.2.1 M.2.2.1 M.2.2.2 ∈ Tbl ∧ Cond.instanceMethod M.1 ∈ Tbl ∧ Cond.selects M.1.cls M.1 M.1 ∈ Tbl ∧ Cond.initialized M.1.cls ∈ Tbl ∧ M.2.2.1 ≤ 20 ∧ M.1.cls ≠ "java/lang/invoke/MethodHandle" ∧ M.1.cls ≠ "java/lang/invoke/VarHandle" ∧ (parseMethodDescriptor M.1.desc).map (fun d => d.parameters.length) = some n ∧ M.1.cls = "java/lang/String"
def chS (k i : Nat) : Int := ((strB k).getD i 0).toInt
theorem strL_b : ∀ k, k < 11 → strL k < 60 := by decide +kernel
theorem strL_g : ∀ k, k < 11 → ((List.range 11).map strL).getD k 0 = strL k := by decide +kernel
theorem strB_g : ∀ k, k < 11 → ((List.range 11).map strB).getD k [] = strB k := by decide +kernel
theorem strB_7 : ∀ k, k < 11 → ∀ i, i < strL k → ((strB k).getD i 0 &&& 255 = (strB k).getD i 0 ∧ 32 ≤ chS k i ∧ chS k i < 123) := by decide +kernel
theorem shr_0 : ∀ n : Nat, n < 60 → shr32 (n : Int) 0 = (n : Int) := by decide +kernel
theorem cr_str (g : GG) (k : Nat) : cr g (-10 - (k : Int)) = .ref (gK g k) := by
  unfold cr
  rw [if_neg (by omega), if_neg (by omega), if_neg (by omega)]
  congr 2
  omega
theorem ct_JS_length : CT M_JS_length 0 := ⟨tk3 100 rfl rfl, tk3 98 rfl rfl, tk3 99 rfl rfl, tk1 17 rfl rfl, by decide, by decide, by decide, by decide +kernel, rfl⟩
theorem ct_JS_charAt : CT M_JS_charAt 1 := ⟨tk3 110 rfl rfl, tk3 108 rfl rfl, tk3 109 rfl rfl, tk1 17 rfl rfl, by decide, by decide, by decide, by decide +kernel, rfl⟩
theorem ct_JS_coder : CT M_JS_coder 0 := ⟨tk3 104 rfl rfl, tk3 102 rfl rfl, tk3 103 rfl rfl, tk1 17 rfl rfl, by decide, by decide, by decide, by decide +kernel, rfl⟩
theorem ct_JS_isLatin1 : CT M_JS_isLatin1 0 := ⟨tk3 114 rfl rfl, tk3 112 rfl rfl, tk3 113 rfl rfl, tk1 17 rfl rfl, by decide, by decide, by decide, by decide +kernel, rfl⟩
abbrev M_JP_checkIndex : MR := (⟨"jdk/internal/util/Preconditions", "checkIndex", "(IILjava/util/function/BiFunction;)I"⟩, prog_22_method_11_code, 3, some .int)
theorem cs_JP_checkIndex : CS M_JP_checkIndex 3 := ⟨tk3 125 rfl rfl, tk3 124 rfl rfl, tk1 19 rfl rfl, by decide, by decide, by decide, by decide +kernel⟩
theorem fl_S_9 : Cond.fieldLink "java/lang/String" 9 "java/lang/String" "value" "[B" ∈ Tbl := tk10 197 rfl rfl
theorem fl_S_15 : Cond.fieldLink "java/lang/String" 15 "java/lang/String" "coder" "B" ∈ Tbl := tk10 198 rfl rfl
theorem fl_S_38 : Cond.fieldLink "java/lang/String" 38 "java/lang/String" "COMPACT_STRINGS" "Z" ∈ Tbl := tk3 105 rfl rfl
theorem fl_S_1053 : Cond.fieldLink "java/lang/String" 1053 "jdk/internal/util/Preconditions" "SIOOBE_FORMATTER" "Ljava/util/function/BiFunction;" ∈ Tbl := tk3 121 rfl rfl
-- java/lang/String 335 ('java/lang/String', 'coder', '()B') tk3 101 rfl rfl
-- java/lang/String 492 ('java/lang/String', 'isLatin1', '()Z') tk3 111 rfl rfl
-- java/lang/String 495 ('java/lang/StringLatin1', 'charAt', '([BI)C') tk3 115 rfl rfl
-- java/lang/StringLatin1 9 ('java/lang/String', 'checkIndex', '(II)V') tk3 118 rfl rfl
-- java/lang/String 1059 ('jdk/internal/util/Preconditions', 'checkIndex', '(IILjava/util/function/BiFunction;)I') tk3 123 rfl rfl
-- BracketRoom$Tokens 62 ('java/lang/String', 'length', '()I') tk3 97 rfl rfl
-- BracketRoom$Tokens 67 ('java/lang/String', 'charAt', '(I)C') tk3 107 rfl rfl
theorem dJS_length_0 : decode prog_17_method_54_code 0 = .ok (.aload_n 0, 1) := by decide +kernel
theorem dJS_length_1 : decode prog_17_method_54_code 1 = .ok (.getfield 9, 3) := by decide +kernel
theorem dJS_length_4 : decode prog_17_method_54_code 4 = .ok (.arraylength, 1) := by decide +kernel
theorem dJS_length_5 : decode prog_17_method_54_code 5 = .ok (.aload_n 0, 1) := by decide +kernel
theorem dJS_length_6 : decode prog_17_method_54_code 6 = .ok (.invokevirtual 335, 3) := by decide +kernel
theorem dJS_length_9 : decode prog_17_method_54_code 9 = .ok (.ishr, 1) := by decide +kernel
theorem dJS_length_10 : decode prog_17_method_54_code 10 = .ok (.ireturn, 1) := by decide +kernel
theorem dJS_charAt_0 : decode prog_17_method_56_code 0 = .ok (.aload_n 0, 1) := by decide +kernel
theorem dJS_charAt_1 : decode prog_17_method_56_code 1 = .ok (.invokevirtual 492, 3) := by decide +kernel
theorem dJS_charAt_4 : decode prog_17_method_56_code 4 = .ok (.ifCond .eq 12, 3) := by decide +kernel
theorem dJS_charAt_7 : decode prog_17_method_56_code 7 = .ok (.aload_n 0, 1) := by decide +kernel
theorem dJS_charAt_8 : decode prog_17_method_56_code 8 = .ok (.getfield 9, 3) := by decide +kernel
theorem dJS_charAt_11 : decode prog_17_method_56_code 11 = .ok (.iload_n 1, 1) := by decide +kernel
theorem dJS_charAt_12 : decode prog_17_method_56_code 12 = .ok (.invokestatic 495, 3) := by decide +kernel
theorem dJS_charAt_15 : decode prog_17_method_56_code 15 = .ok (.ireturn, 1) := by decide +kernel
theorem dJS_charAt_16 : decode prog_17_method_56_code 16 = .ok (.aload_n 0, 1) := by decide +kernel
theorem dJS_charAt_17 : decode prog_17_method_56_code 17 = .ok (.getfield 9, 3) := by decide +kernel
theorem dJS_charAt_20 : decode prog_17_method_56_code 20 = .ok (.iload_n 1, 1) := by decide +kernel
theorem dJS_charAt_21 : decode prog_17_method_56_code 21 = .ok (.invokestatic 498, 3) := by decide +kernel
theorem dJS_charAt_24 : decode prog_17_method_56_code 24 = .ok (.ireturn, 1) := by decide +kernel
theorem dJS_coder_0 : decode prog_17_method_152_code 0 = .ok (.getstatic 38, 3) := by decide +kernel
theorem dJS_coder_3 : decode prog_17_method_152_code 3 = .ok (.ifCond .eq 10, 3) := by decide +kernel
theorem dJS_coder_6 : decode prog_17_method_152_code 6 = .ok (.aload_n 0, 1) := by decide +kernel
theorem dJS_coder_7 : decode prog_17_method_152_code 7 = .ok (.getfield 15, 3) := by decide +kernel
theorem dJS_coder_10 : decode prog_17_method_152_code 10 = .ok (.goto 4, 3) := by decide +kernel
theorem dJS_coder_13 : decode prog_17_method_152_code 13 = .ok (.iconst 1, 1) := by decide +kernel
theorem dJS_coder_14 : decode prog_17_method_152_code 14 = .ok (.ireturn, 1) := by decide +kernel
theorem dJS_isLatin1_0 : decode prog_17_method_154_code 0 = .ok (.getstatic 38, 3) := by decide +kernel
theorem dJS_isLatin1_3 : decode prog_17_method_154_code 3 = .ok (.ifCond .eq 14, 3) := by decide +kernel
theorem dJS_isLatin1_6 : decode prog_17_method_154_code 6 = .ok (.aload_n 0, 1) := by decide +kernel
theorem dJS_isLatin1_7 : decode prog_17_method_154_code 7 = .ok (.getfield 15, 3) := by decide +kernel
theorem dJS_isLatin1_10 : decode prog_17_method_154_code 10 = .ok (.ifCond .ne 7, 3) := by decide +kernel
theorem dJS_isLatin1_13 : decode prog_17_method_154_code 13 = .ok (.iconst 1, 1) := by decide +kernel
theorem dJS_isLatin1_14 : decode prog_17_method_154_code 14 = .ok (.goto 4, 3) := by decide +kernel
theorem dJS_isLatin1_17 : decode prog_17_method_154_code 17 = .ok (.iconst 0, 1) := by decide +kernel
theorem dJS_isLatin1_18 : decode prog_17_method_154_code 18 = .ok (.ireturn, 1) := by decide +kernel
theorem dJS_checkIndex_0 : decode prog_17_method_155_code 0 = .ok (.iload_n 0, 1) := by decide +kernel
theorem dJS_checkIndex_1 : decode prog_17_method_155_code 1 = .ok (.iload_n 1, 1) := by decide +kernel
theorem dJS_checkIndex_2 : decode prog_17_method_155_code 2 = .ok (.getstatic 1053, 3) := by decide +kernel
theorem dJS_checkIndex_5 : decode prog_17_method_155_code 5 = .ok (.invokestatic 1059, 3) := by decide +kernel
theorem dJS_checkIndex_8 : decode prog_17_method_155_code 8 = .ok (.pop, 1) := by decide +kernel
theorem dJS_checkIndex_9 : decode prog_17_method_155_code 9 = .ok (.return_, 1) := by decide +kernel
theorem dJL_charAt_0 : decode prog_18_method_2_code 0 = .ok (.iload_n 1, 1) := by decide +kernel
theorem dJL_charAt_1 : decode prog_18_method_2_code 1 = .ok (.aload_n 0, 1) := by decide +kernel
theorem dJL_charAt_2 : decode prog_18_method_2_code 2 = .ok (.arraylength, 1) := by decide +kernel
theorem dJL_charAt_3 : decode prog_18_method_2_code 3 = .ok (.invokestatic 9, 3) := by decide +kernel
theorem dJL_charAt_6 : decode prog_18_method_2_code 6 = .ok (.aload_n 0, 1) := by decide +kernel
theorem dJL_charAt_7 : decode prog_18_method_2_code 7 = .ok (.iload_n 1, 1) := by decide +kernel
theorem dJL_charAt_8 : decode prog_18_method_2_code 8 = .ok (.baload, 1) := by decide +kernel
theorem dJL_charAt_9 : decode prog_18_method_2_code 9 = .ok (.sipush 255, 3) := by decide +kernel
theorem dJL_charAt_12 : decode prog_18_method_2_code 12 = .ok (.iand, 1) := by decide +kernel
theorem dJL_charAt_13 : decode prog_18_method_2_code 13 = .ok (.i2c, 1) := by decide +kernel
theorem dJL_charAt_14 : decode prog_18_method_2_code 14 = .ok (.ireturn, 1) := by decide +kernel
theorem dTo_isWord_0 : decode prog_10_method_10_code 0 = .ok (.aload_n 0, 1) := by decide +kernel
theorem dTo_isWord_1 : decode prog_10_method_10_code 1 = .ok (.getfield 50, 3) := by decide +kernel
theorem dTo_isWord_4 : decode prog_10_method_10_code 4 = .ok (.iconst 1, 1) := by decide +kernel
theorem dTo_isWord_5 : decode prog_10_method_10_code 5 = .ok (.if_icmp .ne 30, 3) := by decide +kernel
theorem dTo_isWord_8 : decode prog_10_method_10_code 8 = .ok (.aload_n 0, 1) := by decide +kernel
theorem dTo_isWord_9 : decode prog_10_method_10_code 9 = .ok (.getfield 37, 3) := by decide +kernel
theorem dTo_isWord_12 : decode prog_10_method_10_code 12 = .ok (.aload_n 0, 1) := by decide +kernel
theorem dTo_isWord_13 : decode prog_10_method_10_code 13 = .ok (.getfield 43, 3) := by decide +kernel
theorem dTo_isWord_16 : decode prog_10_method_10_code 16 = .ok (.isub, 1) := by decide +kernel
theorem dTo_isWord_17 : decode prog_10_method_10_code 17 = .ok (.aload_n 1, 1) := by decide +kernel
theorem dTo_isWord_18 : decode prog_10_method_10_code 18 = .ok (.invokevirtual 62, 3) := by decide +kernel
theorem dTo_isWord_21 : decode prog_10_method_10_code 21 = .ok (.if_icmp .ne 14, 3) := by decide +kernel
theorem dTo_isWord_24 : decode prog_10_method_10_code 24 = .ok (.aload_n 0, 1) := by decide +kernel
theorem dTo_isWord_25 : decode prog_10_method_10_code 25 = .ok (.getfield 37, 3) := by decide +kernel
theorem dTo_isWord_28 : decode prog_10_method_10_code 28 = .ok (.aload_n 0, 1) := by decide +kernel
theorem dTo_isWord_29 : decode prog_10_method_10_code 29 = .ok (.getfield 34, 3) := by decide +kernel
theorem dTo_isWord_32 : decode prog_10_method_10_code 32 = .ok (.if_icmp .le 5, 3) := by decide +kernel
theorem dTo_isWord_35 : decode prog_10_method_10_code 35 = .ok (.iconst 0, 1) := by decide +kernel
theorem dTo_isWord_36 : decode prog_10_method_10_code 36 = .ok (.ireturn, 1) := by decide +kernel
theorem dTo_isWord_37 : decode prog_10_method_10_code 37 = .ok (.aload_n 0, 1) := by decide +kernel
theorem dTo_isWord_38 : decode prog_10_method_10_code 38 = .ok (.getfield 43, 3) := by decide +kernel
theorem dTo_isWord_41 : decode prog_10_method_10_code 41 = .ok (.istore_n 2, 1) := by decide +kernel
theorem dTo_isWord_42 : decode prog_10_method_10_code 42 = .ok (.iload_n 2, 1) := by decide +kernel
theorem dTo_isWord_43 : decode prog_10_method_10_code 43 = .ok (.aload_n 0, 1) := by decide +kernel
theorem dTo_isWord_44 : decode prog_10_method_10_code 44 = .ok (.getfield 37, 3) := by decide +kernel
theorem dTo_isWord_47 : decode prog_10_method_10_code 47 = .ok (.if_icmp .ge 30, 3) := by decide +kernel
theorem dTo_isWord_50 : decode prog_10_method_10_code 50 = .ok (.aload_n 0, 1) := by decide +kernel
theorem dTo_isWord_51 : decode prog_10_method_10_code 51 = .ok (.getfield 18, 3) := by decide +kernel
theorem dTo_isWord_54 : decode prog_10_method_10_code 54 = .ok (.iload_n 2, 1) := by decide +kernel
theorem dTo_isWord_55 : decode prog_10_method_10_code 55 = .ok (.baload, 1) := by decide +kernel
theorem dTo_isWord_56 : decode prog_10_method_10_code 56 = .ok (.aload_n 1, 1) := by decide +kernel
theorem dTo_isWord_57 : decode prog_10_method_10_code 57 = .ok (.iload_n 2, 1) := by decide +kernel
theorem dTo_isWord_58 : decode prog_10_method_10_code 58 = .ok (.aload_n 0, 1) := by decide +kernel
theorem dTo_isWord_59 : decode prog_10_method_10_code 59 = .ok (.getfield 43, 3) := by decide +kernel
theorem dTo_isWord_62 : decode prog_10_method_10_code 62 = .ok (.isub, 1) := by decide +kernel
theorem dTo_isWord_63 : decode prog_10_method_10_code 63 = .ok (.invokevirtual 67, 3) := by decide +kernel
theorem dTo_isWord_66 : decode prog_10_method_10_code 66 = .ok (.if_icmp .eq 5, 3) := by decide +kernel
theorem dTo_isWord_69 : decode prog_10_method_10_code 69 = .ok (.iconst 0, 1) := by decide +kernel
theorem dTo_isWord_70 : decode prog_10_method_10_code 70 = .ok (.ireturn, 1) := by decide +kernel
theorem dTo_isWord_71 : decode prog_10_method_10_code 71 = .ok (.iinc 2 1, 3) := by decide +kernel
theorem dTo_isWord_74 : decode prog_10_method_10_code 74 = .ok (.goto (-32), 3) := by decide +kernel
theorem dTo_isWord_77 : decode prog_10_method_10_code 77 = .ok (.iconst 1, 1) := by decide +kernel
theorem dTo_isWord_78 : decode prog_10_method_10_code 78 = .ok (.ireturn, 1) := by decide +kernel
theorem dTo_wordAmong_0 : decode prog_10_method_11_code 0 = .ok (.iconst 1, 1) := by decide +kernel
theorem dTo_wordAmong_1 : decode prog_10_method_11_code 1 = .ok (.istore_n 2, 1) := by decide +kernel
theorem dTo_wordAmong_2 : decode prog_10_method_11_code 2 = .ok (.aload_n 0, 1) := by decide +kernel
theorem dTo_wordAmong_3 : decode prog_10_method_11_code 3 = .ok (.getfield 43, 3) := by decide +kernel
theorem dTo_wordAmong_6 : decode prog_10_method_11_code 6 = .ok (.istore_n 3, 1) := by decide +kernel
theorem dTo_wordAmong_7 : decode prog_10_method_11_code 7 = .ok (.aload_n 0, 1) := by decide +kernel
theorem dTo_wordAmong_8 : decode prog_10_method_11_code 8 = .ok (.getfield 50, 3) := by decide +kernel
theorem dTo_wordAmong_11 : decode prog_10_method_11_code 11 = .ok (.iconst 1, 1) := by decide +kernel
theorem dTo_wordAmong_12 : decode prog_10_method_11_code 12 = .ok (.if_icmp .ne 7, 3) := by decide +kernel
theorem dTo_wordAmong_15 : decode prog_10_method_11_code 15 = .ok (.iconst 1, 1) := by decide +kernel
theorem dTo_wordAmong_16 : decode prog_10_method_11_code 16 = .ok (.goto 4, 3) := by decide +kernel
theorem dTo_wordAmong_19 : decode prog_10_method_11_code 19 = .ok (.iconst 0, 1) := by decide +kernel
theorem dTo_wordAmong_20 : decode prog_10_method_11_code 20 = .ok (.istore 4, 2) := by decide +kernel
theorem dTo_wordAmong_22 : decode prog_10_method_11_code 22 = .ok (.iconst 0, 1) := by decide +kernel
theorem dTo_wordAmong_23 : decode prog_10_method_11_code 23 = .ok (.istore 5, 2) := by decide +kernel
theorem dTo_wordAmong_25 : decode prog_10_method_11_code 25 = .ok (.iload 5, 2) := by decide +kernel
theorem dTo_wordAmong_27 : decode prog_10_method_11_code 27 = .ok (.aload_n 1, 1) := by decide +kernel
theorem dTo_wordAmong_28 : decode prog_10_method_11_code 28 = .ok (.invokevirtual 62, 3) := by decide +kernel
theorem dTo_wordAmong_31 : decode prog_10_method_11_code 31 = .ok (.if_icmp .ge 99, 3) := by decide +kernel
theorem dTo_wordAmong_34 : decode prog_10_method_11_code 34 = .ok (.aload_n 1, 1) := by decide +kernel
theorem dTo_wordAmong_35 : decode prog_10_method_11_code 35 = .ok (.iload 5, 2) := by decide +kernel
theorem dTo_wordAmong_37 : decode prog_10_method_11_code 37 = .ok (.invokevirtual 67, 3) := by decide +kernel
theorem dTo_wordAmong_40 : decode prog_10_method_11_code 40 = .ok (.istore 6, 2) := by decide +kernel
theorem dTo_wordAmong_42 : decode prog_10_method_11_code 42 = .ok (.iload 6, 2) := by decide +kernel
theorem dTo_wordAmong_44 : decode prog_10_method_11_code 44 = .ok (.bipush 32, 2) := by decide +kernel
theorem dTo_wordAmong_46 : decode prog_10_method_11_code 46 = .ok (.if_icmp .eq 40, 3) := by decide +kernel
theorem dTo_wordAmong_49 : decode prog_10_method_11_code 49 = .ok (.iload 4, 2) := by decide +kernel
theorem dTo_wordAmong_51 : decode prog_10_method_11_code 51 = .ok (.ifCond .eq 26, 3) := by decide +kernel
theorem dTo_wordAmong_54 : decode prog_10_method_11_code 54 = .ok (.iload_n 3, 1) := by decide +kernel
theorem dTo_wordAmong_55 : decode prog_10_method_11_code 55 = .ok (.aload_n 0, 1) := by decide +kernel
theorem dTo_wordAmong_56 : decode prog_10_method_11_code 56 = .ok (.getfield 37, 3) := by decide +kernel
theorem dTo_wordAmong_59 : decode prog_10_method_11_code 59 = .ok (.if_icmp .ge 18, 3) := by decide +kernel
theorem dTo_wordAmong_62 : decode prog_10_method_11_code 62 = .ok (.aload_n 0, 1) := by decide +kernel
theorem dTo_wordAmong_63 : decode prog_10_method_11_code 63 = .ok (.getfield 18, 3) := by decide +kernel
theorem dTo_wordAmong_66 : decode prog_10_method_11_code 66 = .ok (.iload_n 3, 1) := by decide +kernel
theorem dTo_wordAmong_67 : decode prog_10_method_11_code 67 = .ok (.baload, 1) := by decide +kernel
theorem dTo_wordAmong_68 : decode prog_10_method_11_code 68 = .ok (.iload 6, 2) := by decide +kernel
theorem dTo_wordAmong_70 : decode prog_10_method_11_code 70 = .ok (.if_icmp .ne 7, 3) := by decide +kernel
theorem dTo_wordAmong_73 : decode prog_10_method_11_code 73 = .ok (.iconst 1, 1) := by decide +kernel
theorem dTo_wordAmong_74 : decode prog_10_method_11_code 74 = .ok (.goto 4, 3) := by decide +kernel
theorem dTo_wordAmong_77 : decode prog_10_method_11_code 77 = .ok (.iconst 0, 1) := by decide +kernel
theorem dTo_wordAmong_78 : decode prog_10_method_11_code 78 = .ok (.istore 4, 2) := by decide +kernel
theorem dTo_wordAmong_80 : decode prog_10_method_11_code 80 = .ok (.iinc 3 1, 3) := by decide +kernel
theorem dTo_wordAmong_83 : decode prog_10_method_11_code 83 = .ok (.goto 41, 3) := by decide +kernel
theorem dTo_wordAmong_86 : decode prog_10_method_11_code 86 = .ok (.iload 4, 2) := by decide +kernel
theorem dTo_wordAmong_88 : decode prog_10_method_11_code 88 = .ok (.ifCond .eq 13, 3) := by decide +kernel
theorem dTo_wordAmong_91 : decode prog_10_method_11_code 91 = .ok (.iload_n 3, 1) := by decide +kernel
theorem dTo_wordAmong_92 : decode prog_10_method_11_code 92 = .ok (.aload_n 0, 1) := by decide +kernel
theorem dTo_wordAmong_93 : decode prog_10_method_11_code 93 = .ok (.getfield 37, 3) := by decide +kernel
theorem dTo_wordAmong_96 : decode prog_10_method_11_code 96 = .ok (.if_icmp .ne 5, 3) := by decide +kernel
theorem dTo_wordAmong_99 : decode prog_10_method_11_code 99 = .ok (.iload_n 2, 1) := by decide +kernel
theorem dTo_wordAmong_100 : decode prog_10_method_11_code 100 = .ok (.ireturn, 1) := by decide +kernel
theorem dTo_wordAmong_101 : decode prog_10_method_11_code 101 = .ok (.iinc 2 1, 3) := by decide +kernel
theorem dTo_wordAmong_104 : decode prog_10_method_11_code 104 = .ok (.aload_n 0, 1) := by decide +kernel
theorem dTo_wordAmong_105 : decode prog_10_method_11_code 105 = .ok (.getfield 43, 3) := by decide +kernel
theorem dTo_wordAmong_108 : decode prog_10_method_11_code 108 = .ok (.istore_n 3, 1) := by decide +kernel
theorem dTo_wordAmong_109 : decode prog_10_method_11_code 109 = .ok (.aload_n 0, 1) := by decide +kernel
theorem dTo_wordAmong_110 : decode prog_10_method_11_code 110 = .ok (.getfield 50, 3) := by decide +kernel
theorem dTo_wordAmong_113 : decode prog_10_method_11_code 113 = .ok (.iconst 1, 1) := by decide +kernel
theorem dTo_wordAmong_114 : decode prog_10_method_11_code 114 = .ok (.if_icmp .ne 7, 3) := by decide +kernel
theorem dTo_wordAmong_117 : decode prog_10_method_11_code 117 = .ok (.iconst 1, 1) := by decide +kernel
theorem dTo_wordAmong_118 : decode prog_10_method_11_code 118 = .ok (.goto 4, 3) := by decide +kernel
theorem dTo_wordAmong_121 : decode prog_10_method_11_code 121 = .ok (.iconst 0, 1) := by decide +kernel
theorem dTo_wordAmong_122 : decode prog_10_method_11_code 122 = .ok (.istore 4, 2) := by decide +kernel
theorem dTo_wordAmong_124 : decode prog_10_method_11_code 124 = .ok (.iinc 5 1, 3) := by decide +kernel
theorem dTo_wordAmong_127 : decode prog_10_method_11_code 127 = .ok (.goto (-102), 3) := by decide +kernel
theorem dTo_wordAmong_130 : decode prog_10_method_11_code 130 = .ok (.iconst 0, 1) := by decide +kernel
theorem dTo_wordAmong_131 : decode prog_10_method_11_code 131 = .ok (.ireturn, 1) := by decide +kernel
theorem dJP_checkIndex_0 : decode prog_22_method_11_code 0 = .ok (.iload_n 0, 1) := by decide +kernel
theorem dJP_checkIndex_1 : decode prog_22_method_11_code 1 = .ok (.ifCond .lt 8, 3) := by decide +kernel
theorem dJP_checkIndex_4 : decode prog_22_method_11_code 4 = .ok (.iload_n 0, 1) := by decide +kernel
theorem dJP_checkIndex_5 : decode prog_22_method_11_code 5 = .ok (.iload_n 1, 1) := by decide +kernel
theorem dJP_checkIndex_6 : decode prog_22_method_11_code 6 = .ok (.if_icmp .lt 10, 3) := by decide +kernel
theorem dJP_checkIndex_9 : decode prog_22_method_11_code 9 = .ok (.aload_n 2, 1) := by decide +kernel
theorem dJP_checkIndex_10 : decode prog_22_method_11_code 10 = .ok (.iload_n 0, 1) := by decide +kernel
theorem dJP_checkIndex_11 : decode prog_22_method_11_code 11 = .ok (.iload_n 1, 1) := by decide +kernel
theorem dJP_checkIndex_12 : decode prog_22_method_11_code 12 = .ok (.invokestatic 95, 3) := by decide +kernel
theorem dJP_checkIndex_15 : decode prog_22_method_11_code 15 = .ok (.athrow, 1) := by decide +kernel
theorem dJP_checkIndex_16 : decode prog_22_method_11_code 16 = .ok (.iload_n 0, 1) := by decide +kernel
theorem dJP_checkIndex_17 : decode prog_22_method_11_code 17 = .ok (.ireturn, 1) := by decide +kernel
section LST
variable {d pc : Nat} {M N : MR} {ls st st0 : List AV} {σ : SG} {Q : Int → SG → Prop}
theorem L_callTI {n idx : Nat} {a : Int} {As : List AV} (hS9 : SR a) (ht : rtg N.2.2.2 = 0) (hN : CT N n) (hn : As.length = n) (hw : Cond.methodLink M.1.cls idx N.1 ∈ Tbl) (hs : st0 = As.reverse ++ vA a :: st) (hc : (st.map catv).sum ≤ 8) (hd : decode M.2.1 pc = .ok (.invokevirtual idx, 3))
    (h : Tri d N (vA a :: As) σ (fun r σ' => L (d + 1) M (pc + 3) ls (vI r :: st) σ' Q)) : L (d + 1) M pc ls st0 σ Q := by
  intro l g p e s m args below meth c H locs A cx hR hl hL hst
  obtain ⟨k, hk, rfl⟩ := hS9
  obtain ⟨n1, n2, n3, n4, n5, n6, n7, n8, n9⟩ := hN
  subst hs
  have hS := Rp_S hR hl cx.2.2.2.2.2.2.2.2.2
  obtain ⟨_, _, _, hvk, _⟩ := cx.2.2.2.2.2.2.2.1.2.2.2
  have hvk2 := hvk.kept (fun a _ hn => cx.2.2.2.2.2.2.2.2.2 a (Nat.not_le.mp hn))
  have hok : ∀ v ∈ vA (-10 - (k : Int)) :: As, okv v := fun v hv => hst v (by
    rcases List.mem_cons.mp hv with rfl | h1
    · simp
    · simp [h1])
  have e0 : ((As.reverse ++ vA (-10 - (k : Int)) :: st).map (cv g)) = (As.map (cv g)).reverse ++ .ref (gK g k) :: st.map (cv g) := by
    rw [List.map_append, List.map_reverse]
    show _ ++ cr g _ :: _ = _
    rw [cr_str]
  rw [e0]
  have hrecv : ∃ cell : Cell, H[gK g k]? = some cell ∧ cell.vm.isStatics = false ∧ s.vm.findClass N.1.cls = some cell.cls := by
    rw [n9]
    exact vk_recv hvk2 hk hS
  have hgood : GoodIn Tbl (wsV M.1.cls idx N.1.cls N.1 (wsM N)) := good_Tbl (by
    intro w hw2
    unfold wsV at hw2
    rcases List.mem_append.mp hw2 with h1 | h1
    · simp only [List.mem_cons, List.not_mem_nil, or_false] at h1
      rcases h1 with rfl | rfl | rfl | rfl
      · exact hw
      · exact n2
      · exact n3
      · exact n4
    · exact wsM_in n1 w h1)
  have hst' : ∀ v ∈ st, okv v := fun v hv => hst v (by simp [hv])
  have h' : Tri d N (vA (-10 - (k : Int)) :: As) σ (fun r σ' => L (d + 1) M (pc + 3) ls (pu (rtg N.2.2.2) r st) σ' Q) := by rw [ht]; exact h
  refine L_ran (st := st) (t := rtg N.2.2.2) (as := (Value.ref (gK g k) :: As.map (cv g)).toArray) cx hR.2 hl hL hst' ?_
  exact va_runV (Ts := Tbl) (nL := M.2.2.1) (As := As.map (cv g)) (rest := st.map (cv g)) ⟨cx.1, cx.2.1, cx.2.2.1, cx.2.2.2.2.2.1, cx.2.2.2.2.2.2.1⟩ (h' l g)
    (cwV n cx.2.2.2.2.2.2.1 hgood rfl rfl rfl ⟨rfl, n6, n7, n8⟩ ⟨Nat.le_refl _, by show 8 + (N.2.2.1 + 11) + 40 * d ≤ 40 * (d + 1); omega⟩)
    ⟨Pc_blind g _ _, hrecv, fun U hU hW => ⟨by show _ = (cr g _ :: List.map (cv g) As).toArray; rw [cr_str], hok, by rw [hU]; exact hR.1, cx.2.2.2.2.2.2.2.1.warm hW⟩⟩
    rfl (by rw [List.length_map]; exact hn) (hL.1.1) rfl (by show 2 * 0 + _ ≤ 8; rw [cat_sum]; omega) hd ⟨Nat.le_refl _, Nat.le_refl _⟩
theorem L_getV {k : Nat} (hk : k < 11) (hcls : M.1.cls = "java/lang/String") (hd : decode M.2.1 pc = .ok (.getfield 9, 3)) (h : L d M (pc + 3) ls (vA (-21 - (k : Int)) :: st) σ Q) : L d M pc ls (vA (-10 - (k : Int)) :: st) σ Q := by
  intro l g p e s m args below meth c H locs A cx hR hl hL hst
  have hS := Rp_S hR hl cx.2.2.2.2.2.2.2.2.2
  obtain ⟨_, _, ⟨_, _, hV⟩, hvk, _⟩ := cx.2.2.2.2.2.2.2.1.2.2.2
  have hvk2 := hvk.kept (fun a _ hn => cx.2.2.2.2.2.2.2.2.2 a (Nat.not_le.mp hn))
  have e0 : (List.map (cv g) (vA (-10 - (k : Int)) :: st)) = .ref (gK g k) :: st.map (cv g) := by
    show cr g _ :: _ = _
    rw [cr_str]
  rw [e0]
  refine vk_getf cx.1 cx.2.1 (hvk2.1 k hk).2.2.1 hS (own := "java/lang/String") (by rw [← hcls]; exact cx.2.2.2.2.2.1) (cx.2.2.2.2.2.2.1 _ fl_S_9) (fun _ x => x) hd (h.push (v := vA (-21 - (k : Int))) trivial cx hR hl hL (ok_tail hst) ?_)
  show cr g _ = _
  rw [show (-21 - (k : Int)) = -10 - ((11 + k : Nat) : Int) by omega, cr_str, hV k hk]
theorem L_getC {k : Nat} (hk : k < 11) (hcls : M.1.cls = "java/lang/String") (hd : decode M.2.1 pc = .ok (.getfield 15, 3)) (h : L d M (pc + 3) ls (vI 0 :: st) σ Q) : L d M pc ls (vA (-10 - (k : Int)) :: st) σ Q := by
  intro l g p e s m args below meth c H locs A cx hR hl hL hst
  have hS := Rp_S hR hl cx.2.2.2.2.2.2.2.2.2
  obtain ⟨_, _, ⟨_, _, hV⟩, hvk, _⟩ := cx.2.2.2.2.2.2.2.1.2.2.2
  have hvk2 := hvk.kept (fun a _ hn => cx.2.2.2.2.2.2.2.2.2 a (Nat.not_le.mp hn))
  have e0 : (List.map (cv g) (vA (-10 - (k : Int)) :: st)) = .ref (gK g k) :: st.map (cv g) := by
    show cr g _ :: _ = _
    rw [cr_str]
  rw [e0]
  exact vk_getf cx.1 cx.2.1 (hvk2.1 k hk).2.1 hS (own := "java/lang/String") (by rw [← hcls]; exact cx.2.2.2.2.2.1) (cx.2.2.2.2.2.2.1 _ fl_S_15) (fun _ x => x) hd (h.push (v := vI 0) in0 cx hR hl hL (ok_tail hst) (congrArg Value.int (by decide : Int32.ofInt 0 = 0)))
theorem L_compact (hcls : M.1.cls = "java/lang/String") (hd : decode M.2.1 pc = .ok (.getstatic 38, 3)) (h : L d M (pc + 3) ls (vI 1 :: st) σ Q) : L d M pc ls st σ Q := by
  intro l g p e s m args below meth c H locs A cx hR hl hL hst
  have hS := Rp_S hR hl cx.2.2.2.2.2.2.2.2.2
  obtain ⟨_, _, ⟨hZ, _, hV⟩, hvk, _⟩ := cx.2.2.2.2.2.2.2.1.2.2.2
  have hZ2 := hZ.kept (fun a _ hn => cx.2.2.2.2.2.2.2.2.2 a (Nat.not_le.mp hn))
  exact va_gets cx.1 cx.2.1 hZ2 hS (own := "java/lang/String") (by rw [← hcls]; exact cx.2.2.2.2.2.1) (cx.2.2.2.2.2.2.1 _ fl_S_38) (fun _ x => x) hd (h.push (v := vI 1) (show inI 1 from ⟨by decide, by decide⟩) cx hR hl hL hst (congrArg Value.int (by decide : Int32.ofInt 1 = 1)))
theorem L_fmt (hcls : M.1.cls = "java/lang/String") (hd : decode M.2.1 pc = .ok (.getstatic 1053, 3)) (h : ∀ x, L d M (pc + 3) ls (vA x :: st) σ Q) : L d M pc ls st σ Q := by
  intro l g p e s m args below meth c H locs A cx hR hl hL hst
  have hS := Rp_S hR hl cx.2.2.2.2.2.2.2.2.2
  obtain ⟨_, _, ⟨_, hZ, hV⟩, hvk, _⟩ := cx.2.2.2.2.2.2.2.1.2.2.2
  rcases hZ with hZ | hZ
  · have hZ2 := hZ.kept (fun a _ hn => cx.2.2.2.2.2.2.2.2.2 a (Nat.not_le.mp hn))
    exact va_gets cx.1 cx.2.1 hZ2 hS (own := "java/lang/String") (by rw [← hcls]; exact cx.2.2.2.2.2.1) (cx.2.2.2.2.2.2.1 _ fl_S_1053) (fun _ x => x) hd ((h (-1)).push (v := vA (-1)) trivial cx hR hl hL hst rfl)
  · have hZ2 := hZ.kept (fun a _ hn => cx.2.2.2.2.2.2.2.2.2 a (Nat.not_le.mp hn))
    exact va_gets cx.1 cx.2.1 hZ2 hS (own := "java/lang/String") (by rw [← hcls]; exact cx.2.2.2.2.2.1) (cx.2.2.2.2.2.2.1 _ fl_S_1053) (fun _ x => x) hd ((h (-10 - ((22 : Nat) : Int))).push (v := vA (-10 - ((22 : Nat) : Int))) trivial cx hR hl hL hst (cr_str g 22))
theorem L_alenT {k : Nat} (hk : k < 11) (hd : decode M.2.1 pc = .ok (.arraylength, 1)) (h : L d M (pc + 1) ls (vI (strL k : Int) :: st) σ Q) : L d M pc ls (vA (-21 - (k : Int)) :: st) σ Q := by
  intro l g p e s m args below meth c H locs A cx hR hl hL hst
  have hS := Rp_S hR hl cx.2.2.2.2.2.2.2.2.2
  obtain ⟨_, _, ⟨_, _, hV⟩, hvk, _⟩ := cx.2.2.2.2.2.2.2.1.2.2.2
  have hvk2 := hvk.kept (fun a _ hn => cx.2.2.2.2.2.2.2.2.2 a (Nat.not_le.mp hn))
  have hb := strL_b k hk
  have e0 : (List.map (cv g) (vA (-21 - (k : Int)) :: st)) = .ref (gV g k) :: st.map (cv g) := by
    show cr g _ :: _ = _
    rw [show (-21 - (k : Int)) = -10 - ((11 + k : Nat) : Int) by omega, cr_str, hV k hk]
  rw [e0]
  refine va_tlen (v := Int32.ofInt (strL k : Int)) cx.1 cx.2.1 (hvk2.1 k hk).2.2.2 hS ?_ hd (h.push (v := vI (strL k : Int)) (show inI (strL k : Int) from ⟨by omega, by omega⟩) cx hR hl hL (ok_tail hst) rfl)
  rw [strL_g k hk]
  rfl
theorem L_baT {k : Nat} {i : Int} (hk : k < 11) (h0 : 0 ≤ i) (h1 : i < (strL k : Int)) (hd : decode M.2.1 pc = .ok (.baload, 1)) (h : L d M (pc + 1) ls (vI (chS k i.toNat) :: st) σ Q) : L d M pc ls (vI i :: vA (-21 - (k : Int)) :: st) σ Q := by
  intro l g p e s m args below meth c H locs A cx hR hl hL hst
  have hS := Rp_S hR hl cx.2.2.2.2.2.2.2.2.2
  obtain ⟨_, _, ⟨_, _, hV⟩, hvk, _⟩ := cx.2.2.2.2.2.2.2.1.2.2.2
  have hvk2 := hvk.kept (fun a _ hn => cx.2.2.2.2.2.2.2.2.2 a (Nat.not_le.mp hn))
  have hb := strL_b k hk
  have e0 : (List.map (cv g) (vI i :: vA (-21 - (k : Int)) :: st)) = .int (Int32.ofInt i) :: .ref (gV g k) :: st.map (cv g) := by
    show _ :: cr g _ :: _ = _
    rw [show (-21 - (k : Int)) = -10 - ((11 + k : Nat) : Int) by omega, cr_str, hV k hk]
    rfl
  rw [e0]
  have hi : inI i := ok_head hst
  have hc := clamp32 hi
  refine va_tb (v := .int ((strB k).getD i.toNat 0)) cx.1 cx.2.1 (hvk2.1 k hk).2.2.2 hS ?_ ?_ hd (h.push (v := vI (chS k i.toNat)) (show inI _ from ⟨Int32.le_toInt _, Int32.toInt_lt _⟩) cx hR hl hL (ok_tail (ok_tail hst)) ?_)
  · rw [strL_g k hk]
    unfold vp_in
    rw [hc]
    intro z
    rcases z with z | z
    · exact nlt32 hi h0 z
    · omega
  · show Value.int ((((List.range 11).map strB).getD k []).getD (Int32.ofInt i).toNatClampNeg 0) = _
    rw [hc, strB_g k hk]
  · show Value.int (Int32.ofInt (chS k i.toNat)) = _
    unfold chS
    rw [Int32.ofInt_toInt]
theorem L_i2cT {k i : Nat} (hk : k < 11) (hi : i < strL k) (hd : decode M.2.1 pc = .ok (.i2c, 1)) (h : L d M (pc + 1) ls (vI (chS k i) :: st) σ Q) : L d M pc ls (vI (chS k i) :: st) σ Q := by
  intro l g p e s m args below meth c H locs A cx hR hl hL hst
  have e7 := (strB_7 k hk i hi).1
  refine lv_i2c (v := Int32.ofInt (chS k i)) cx.1 cx.2.1 hd ?_ (h.push (v := vI (chS k i)) (ok_head hst) cx hR hl hL (ok_tail hst) rfl)
  unfold chS
  rw [Int32.ofInt_toInt, ← e7]
  exact sc_c2 _
theorem L_cretT {k i : Nat} (hk : k < 11) (hi : i < strL k) (hr : M.2.2.2 = some .char) (hd : decode M.2.1 pc = .ok (.ireturn, 1)) (h : Q (chS k i) σ) : L d M pc ls [vI (chS k i)] σ Q := by
  intro l g p e s m args below meth c H locs A cx hR hl hL hst
  have hlocks : meth.locks = false := cx.2.2.2.2.1
  refine W.zret (ty := .char) (v := Int32.ofInt (chS k i)) cx.1 cx.2.1 (by rw [cx.2.2.2.1, hr]) ?_ (fun t ht _ => ⟨chS k i, σ, ?_, ?_, by rw [ht]; exact hR, h⟩) hl hd hlocks
  · have e7 := (strB_7 k hk i hi).1
    unfold chS
    rw [Int32.ofInt_toInt, ← e7]
    exact sc_nar _
  · rw [hr]; rfl
  · rw [hr]; exact ok_head hst
theorem L_bret0 (hr : M.2.2.2 = some .byte) (hd : decode M.2.1 pc = .ok (.ireturn, 1)) (h : Q 0 σ) : L d M pc ls [vI 0] σ Q := by
  intro l g p e s m args below meth c H locs A cx hR hl hL hst
  have hlocks : meth.locks = false := cx.2.2.2.2.1
  refine W.zret (ty := .byte) (v := Int32.ofInt 0) cx.1 cx.2.1 (by rw [cx.2.2.2.1, hr]) rfl (fun t ht _ => ⟨0, σ, ?_, ?_, by rw [ht]; exact hR, h⟩) hl hd hlocks
  · rw [hr]; rfl
  · rw [hr]; exact ok_head hst
theorem t_JP_checkIndex {i n x : Int} (h0 : 0 ≤ i) (h1 : i < n) (h : Q i σ) : Tri d M_JP_checkIndex [vI i, vI n, vA x] σ Q :=
  Tri_intro rfl (Nat.le_of_ble_eq_true rfl) (ls := [vI i, vI n, vA x]) rfl (fun hok => L_iload_n dJP_checkIndex_0 rfl (L_if_lt dJP_checkIndex_1 (by decide) ⟨fun c => L_aload_n dJP_checkIndex_9 rfl (absurd c (by omega)), fun _ => L_iload_n dJP_checkIndex_4 rfl (L_iload_n dJP_checkIndex_5 rfl (L_icmp_lt dJP_checkIndex_6 (by decide) ⟨fun _ => L_iload_n dJP_checkIndex_16 rfl (L_ireturn rfl dJP_checkIndex_17 h), fun c => absurd c (by omega)⟩))⟩))
theorem t_JS_checkIndex {i n : Int} (h0 : 0 ≤ i) (h1 : i < n) (h : Q 0 σ) : Tri (d + 1) M_JS_checkIndex [vI i, vI n] σ Q :=
  Tri_intro rfl (Nat.le_of_ble_eq_true rfl) (ls := [vI i, vI n]) rfl (fun hok => L_iload_n dJS_checkIndex_0 rfl (L_iload_n dJS_checkIndex_1 rfl (L_fmt rfl dJS_checkIndex_2 (fun x => L_callSI (st := []) rfl cs_JP_checkIndex (As := [vI i, vI n, vA x]) rfl (tk3 123 rfl rfl) rfl (Nat.le_of_ble_eq_true rfl) dJS_checkIndex_5 (t_JP_checkIndex h0 h1 (L_pop dJS_checkIndex_8 n01 (L_return rfl dJS_checkIndex_9 h)))))))
theorem sp9_255 : (Int16.ofInt 255).toInt32 = Int32.ofInt 255 := by decide
theorem in9_255 : inI 255 := ⟨by decide, by decide⟩
theorem and9 {k i : Nat} (hk : k < 11) (hi : i < strL k) : and32 (chS k i) 255 = chS k i := by
  have e7 := (strB_7 k hk i hi).1
  unfold and32 chS
  rw [Int32.ofInt_toInt]
  show ((strB k).getD i 0 &&& 255).toInt = _
  rw [e7]
theorem t_JL_charAt {k : Nat} {i : Int} (hk : k < 11) (h0 : 0 ≤ i) (h1 : i < (strL k : Int)) (h : Q (chS k i.toNat) σ) : Tri (d + 2) M_JL_charAt [vA (-21 - (k : Int)), vI i] σ Q :=
  Tri_intro rfl (Nat.le_of_ble_eq_true rfl) (ls := [vA (-21 - (k : Int)), vI i]) rfl (fun hok => L_iload_n dJL_charAt_0 rfl (L_aload_n dJL_charAt_1 rfl (L_alenT hk dJL_charAt_2 (L_callSV (st := []) rfl cs_JS_checkIndex (As := [vI i, vI (strL k : Int)]) rfl (tk3 118 rfl rfl) rfl (Nat.le_of_ble_eq_true rfl) dJL_charAt_3 (t_JS_checkIndex h0 h1 (L_aload_n dJL_charAt_6 rfl (L_iload_n dJL_charAt_7 rfl (L_baT hk h0 h1 dJL_charAt_8 (L_sipush dJL_charAt_9 sp9_255 in9_255 (L_iand dJL_charAt_12 (by
    rw [and9 hk (by omega)]
    exact L_i2cT hk (by omega) dJL_charAt_13 (L_cretT hk (by omega) rfl dJL_charAt_14 h))))))))))))
theorem t_JS_coder {k : Nat} (hk : k < 11) (h : Q 0 σ) : Tri d M_JS_coder [vA (-10 - (k : Int))] σ Q :=
  Tri_intro rfl (Nat.le_of_ble_eq_true rfl) (ls := [vA (-10 - (k : Int))]) rfl (fun hok => L_compact rfl dJS_coder_0 (L_if_eq dJS_coder_3 (by decide) ⟨fun c => L_iconst dJS_coder_13 in_1 (absurd c (by omega)), fun _ => L_aload_n dJS_coder_6 rfl (L_getC hk rfl dJS_coder_7 (L_goto dJS_coder_10 (by decide) (L_bret0 rfl dJS_coder_14 h)))⟩))
theorem t_JS_isLatin1 {k : Nat} (hk : k < 11) (h : Q 1 σ) : Tri d M_JS_isLatin1 [vA (-10 - (k : Int))] σ Q :=
  Tri_intro rfl (Nat.le_of_ble_eq_true rfl) (ls := [vA (-10 - (k : Int))]) rfl (fun hok => L_compact rfl dJS_isLatin1_0 (L_if_eq dJS_isLatin1_3 (by decide) ⟨fun c => L_iconst dJS_isLatin1_17 in_0 (absurd c (by omega)), fun _ => L_aload_n dJS_isLatin1_6 rfl (L_getC hk rfl dJS_isLatin1_7 (L_if_ne dJS_isLatin1_10 (by decide) ⟨fun c => L_iconst dJS_isLatin1_17 in_0 (absurd rfl c), fun _ => L_iconst dJS_isLatin1_13 in_1 (L_goto dJS_isLatin1_14 (by decide) (L_zreturn1 rfl dJS_isLatin1_18 h))⟩))⟩))
theorem t_JS_charAt {k : Nat} {i : Int} (hk : k < 11) (h0 : 0 ≤ i) (h1 : i < (strL k : Int)) (h : Q (chS k i.toNat) σ) : Tri (d + 3) M_JS_charAt [vA (-10 - (k : Int)), vI i] σ Q :=
  Tri_intro rfl (Nat.le_of_ble_eq_true rfl) (ls := [vA (-10 - (k : Int)), vI i]) rfl (fun hok => L_aload_n dJS_charAt_0 rfl (L_callTI (st := []) ⟨k, hk, rfl⟩ rfl ct_JS_isLatin1 (As := []) rfl (tk3 111 rfl rfl) rfl (Nat.le_of_ble_eq_true rfl) dJS_charAt_1 (t_JS_isLatin1 hk (L_if_eq dJS_charAt_4 (by decide) ⟨fun c => L_aload_n dJS_charAt_16 rfl (absurd c (by omega)), fun _ => L_aload_n dJS_charAt_7 rfl (L_getV hk rfl dJS_charAt_8 (L_iload_n dJS_charAt_11 rfl (L_callSI (st := []) rfl cs_JL_charAt (As := [vA (-21 - (k : Int)), vI i]) rfl (tk3 115 rfl rfl) rfl (Nat.le_of_ble_eq_true rfl) dJS_charAt_12 (t_JL_charAt hk h0 h1 (L_cretT hk (by omega) rfl dJS_charAt_15 h)))))⟩))))
theorem t_JS_length {k : Nat} (hk : k < 11) (h : Q (strL k : Int) σ) : Tri (d + 1) M_JS_length [vA (-10 - (k : Int))] σ Q :=
  Tri_intro rfl (Nat.le_of_ble_eq_true rfl) (ls := [vA (-10 - (k : Int))]) rfl (fun hok => L_aload_n dJS_length_0 rfl (L_getV hk rfl dJS_length_1 (L_alenT hk dJS_length_4 (L_aload_n dJS_length_5 rfl (L_callTI (st := [vI (strL k : Int)]) ⟨k, hk, rfl⟩ rfl ct_JS_coder (As := []) rfl (tk3 101 rfl rfl) rfl (Nat.le_of_ble_eq_true rfl) dJS_length_6 (t_JS_coder hk (L_ishr dJS_length_9 (by
    rw [shr_0 _ (strL_b k hk)]
    exact L_ireturn rfl dJS_length_10 h))))))))
end LST
theorem t_To_isWord {d : Nat} {x1 : Int} {σ : SG} {Q : Int → SG → Prop} (hS9 : SR x1) (h : (σ 22 8 ≠ 1 → Q 0 σ) ∧ (σ 22 8 = 1 → Tri d M_JS_length [vA x1] σ (fun r2 σ2 => (w32 ((σ 22 7) - (σ 22 6)) ≠ r2 → Q 0 σ2) ∧ (w32 ((σ 22 7) - (σ 22 6)) = r2 → (σ2 22 7 ≤ σ2 22 5 → L (d + 1) M_To_isWord 42 [vA 22, vA x1, vI (σ2 22 6)] [] σ2 Q) ∧ (σ2 22 5 < σ2 22 7 → Q 0 σ2))))) : Tri (d + 1) M_To_isWord [vA 22, vA x1] σ Q :=
  Tri_intro rfl (Nat.le_of_ble_eq_true rfl) (ls := [vA 22, vA x1, vU]) rfl (fun hok => L_aload_n dTo_isWord_0 rfl (L_getf fw_To_50 rfl dTo_isWord_1 ⟨ob_22, L_iconst dTo_isWord_4 in_1 (L_icmp_ne dTo_isWord_5 (by decide) ⟨fun c1 => L_iconst dTo_isWord_35 in_0 (L_zreturn0 rfl dTo_isWord_36 (h.1 c1)), fun c1 => L_aload_n dTo_isWord_8 rfl (L_getf fw_To_37 rfl dTo_isWord_9 ⟨ob_22, L_aload_n dTo_isWord_12 rfl (L_getf fw_To_43 rfl dTo_isWord_13 ⟨ob_22, L_isub dTo_isWord_16 (L_aload_n dTo_isWord_17 rfl (L_callTI hS9 rfl ct_JS_length (As := []) rfl (tk3 97 rfl rfl) rfl (Nat.le_of_ble_eq_true rfl) dTo_isWord_18 (Tri.mono (h.2 c1) (fun r2 σ2 q2 => L_icmp_ne dTo_isWord_21 (by decide) ⟨fun c3 => L_iconst dTo_isWord_35 in_0 (L_zreturn0 rfl dTo_isWord_36 (q2.1 c3)), fun c3 => L_aload_n dTo_isWord_24 rfl (L_getf fw_To_37 rfl dTo_isWord_25 ⟨ob_22, L_aload_n dTo_isWord_28 rfl (L_getf fw_To_34 rfl dTo_isWord_29 ⟨ob_22, L_icmp_le dTo_isWord_32 (by decide) ⟨fun c4 => L_aload_n dTo_isWord_37 rfl (L_getf fw_To_43 rfl dTo_isWord_38 ⟨ob_22, L_istore_n dTo_isWord_41 (by decide) ((q2.2 c3).1 c4)⟩), fun c4 => L_iconst dTo_isWord_35 in_0 (L_zreturn0 rfl dTo_isWord_36 ((q2.2 c3).2 c4))⟩⟩)⟩)⟩))))⟩)⟩)⟩)⟩))
theorem s_To_isWord_42 {d : Nat} {x1 x2 : Int} {σ : SG} {Q : Int → SG → Prop} (hS9 : SR x1) (h : (σ 22 7 ≤ x2 → Q 1 σ) ∧ (x2 < σ 22 7 → (0 ≤ x2 ∧ x2 < 600) ∧ Tri d M_JS_charAt [vA x1, vI (w32 (x2 - (σ 22 6)))] σ (fun r2 σ2 => (σ 23 x2 = r2 → L (d + 1) M_To_isWord 42 [vA 22, vA x1, vI (w32 (x2 + 1))] [] σ2 Q) ∧ (σ 23 x2 ≠ r2 → Q 0 σ2)))) : L (d + 1) M_To_isWord 42 [vA 22, vA x1, vI x2] [] σ Q :=
  L_iload_n dTo_isWord_42 rfl (L_aload_n dTo_isWord_43 rfl (L_getf fw_To_37 rfl dTo_isWord_44 ⟨ob_22, L_icmp_ge dTo_isWord_47 (by decide) ⟨fun c1 => L_iconst dTo_isWord_77 in_1 (L_zreturn1 rfl dTo_isWord_78 (h.1 c1)), fun c1 => L_aload_n dTo_isWord_50 rfl (L_getF (b := 23) fw_To_18 rfl rfl (by decide) dTo_isWord_51 ⟨ob_22, L_iload_n dTo_isWord_54 rfl (L_baloadL kd_23 dTo_isWord_55 ⟨(h.2 c1).1, L_aload_n dTo_isWord_56 rfl (L_iload_n dTo_isWord_57 rfl (L_aload_n dTo_isWord_58 rfl (L_getf fw_To_43 rfl dTo_isWord_59 ⟨ob_22, L_isub dTo_isWord_62 (L_callTI hS9 rfl ct_JS_charAt (As := [vI (w32 (x2 - (σ 22 6)))]) rfl (tk3 107 rfl rfl) rfl (Nat.le_of_ble_eq_true rfl) dTo_isWord_63 (Tri.mono ((h.2 c1).2) (fun r2 σ2 q2 => L_icmp_eq dTo_isWord_66 (by decide) ⟨fun c3 => L_iinc dTo_isWord_71 rfl (by decide) (L_goto dTo_isWord_74 (by decide) (q2.1 c3)), fun c3 => L_iconst dTo_isWord_69 in_0 (L_zreturn0 rfl dTo_isWord_70 (q2.2 c3))⟩)))⟩)))⟩)⟩)⟩⟩))
theorem t_To_wordAmong {d : Nat} {x1 : Int} {σ : SG} {Q : Int → SG → Prop} (h : (σ 22 8 ≠ 1 → L (d + 1) M_To_wordAmong 25 [vA 22, vA x1, vI 1, vI (σ 22 6), vI 0, vI 0, vU] [] σ Q) ∧ (σ 22 8 = 1 → L (d + 1) M_To_wordAmong 25 [vA 22, vA x1, vI 1, vI (σ 22 6), vI 1, vI 0, vU] [] σ Q)) : Tri (d + 1) M_To_wordAmong [vA 22, vA x1] σ Q :=
  Tri_intro rfl (Nat.le_of_ble_eq_true rfl) (ls := [vA 22, vA x1, vU, vU, vU, vU, vU]) rfl (fun hok => L_iconst dTo_wordAmong_0 in_1 (L_istore_n dTo_wordAmong_1 (by decide) (L_aload_n dTo_wordAmong_2 rfl (L_getf fw_To_43 rfl dTo_wordAmong_3 ⟨ob_22, L_istore_n dTo_wordAmong_6 (by decide) (L_aload_n dTo_wordAmong_7 rfl (L_getf fw_To_50 rfl dTo_wordAmong_8 ⟨ob_22, L_iconst dTo_wordAmong_11 in_1 (L_icmp_ne dTo_wordAmong_12 (by decide) ⟨fun c1 => L_iconst dTo_wordAmong_19 in_0 (L_istore dTo_wordAmong_20 (by decide) (L_iconst dTo_wordAmong_22 in_0 (L_istore dTo_wordAmong_23 (by decide) (h.1 c1)))), fun c1 => L_iconst dTo_wordAmong_15 in_1 (L_goto dTo_wordAmong_16 (by decide) (L_istore dTo_wordAmong_20 (by decide) (L_iconst dTo_wordAmong_22 in_0 (L_istore dTo_wordAmong_23 (by decide) (h.2 c1)))))⟩)⟩))⟩))))
theorem s_To_wordAmong_25 {d : Nat} {x1 x2 x3 x4 x5 : Int} {σ : SG} {Q : Int → SG → Prop} (hS9 : SR x1) (h : Tri d M_JS_length [vA x1] σ (fun r1 σ1 => (r1 ≤ x5 → Q 0 σ1) ∧ (x5 < r1 → Tri d M_JS_charAt [vA x1, vI x5] σ1 (fun r3 σ3 => (r3 = 32 → (x4 = 0 → L (d + 1) M_To_wordAmong 101 [vA 22, vA x1, vI x2, vU, vU, vI x5, vU] [] σ3 Q) ∧ (x4 ≠ 0 → (x3 ≠ σ3 22 7 → L (d + 1) M_To_wordAmong 101 [vA 22, vA x1, vI x2, vU, vU, vI x5, vU] [] σ3 Q) ∧ (x3 = σ3 22 7 → Q x2 σ3))) ∧ (r3 ≠ 32 → (x4 = 0 → L (d + 1) M_To_wordAmong 25 [vA 22, vA x1, vI x2, vI (w32 (x3 + 1)), vI 0, vI (w32 (x5 + 1)), vU] [] σ3 Q) ∧ (x4 ≠ 0 → (σ3 22 7 ≤ x3 → L (d + 1) M_To_wordAmong 25 [vA 22, vA x1, vI x2, vI (w32 (x3 + 1)), vI 0, vI (w32 (x5 + 1)), vU] [] σ3 Q) ∧ (x3 < σ3 22 7 → (0 ≤ x3 ∧ x3 < 600) ∧ (σ3 23 x3 ≠ r3 → L (d + 1) M_To_wordAmong 25 [vA 22, vA x1, vI x2, vI (w32 (x3 + 1)), vI 0, vI (w32 (x5 + 1)), vU] [] σ3 Q) ∧ (σ3 23 x3 = r3 → L (d + 1) M_To_wordAmong 25 [vA 22, vA x1, vI x2, vI (w32 (x3 + 1)), vI 1, vI (w32 (x5 + 1)), vU] [] σ3 Q)))))))) : L (d + 1) M_To_wordAmong 25 [vA 22, vA x1, vI x2, vI x3, vI x4, vI x5, vU] [] σ Q :=
  L_iload dTo_wordAmong_25 rfl (L_aload_n dTo_wordAmong_27 rfl (L_callTI hS9 rfl ct_JS_length (As := []) rfl (tk3 97 rfl rfl) rfl (Nat.le_of_ble_eq_true rfl) dTo_wordAmong_28 (Tri.mono h (fun r1 σ1 q1 => L_icmp_ge dTo_wordAmong_31 (by decide) ⟨fun c2 => L_iconst dTo_wordAmong_130 in_0 (L_ireturn rfl dTo_wordAmong_131 (q1.1 c2)), fun c2 => L_aload_n dTo_wordAmong_34 rfl (L_iload dTo_wordAmong_35 rfl (L_callTI hS9 rfl ct_JS_charAt (As := [vI x5]) rfl (tk3 107 rfl rfl) rfl (Nat.le_of_ble_eq_true rfl) dTo_wordAmong_37 (Tri.mono (q1.2 c2) (fun r3 σ3 q3 => L_istore dTo_wordAmong_40 (by decide) (L_iload dTo_wordAmong_42 rfl (L_bipush dTo_wordAmong_44 bp_32 in_32 (L_icmp_eq dTo_wordAmong_46 (by decide) ⟨fun c4 => L_iload dTo_wordAmong_86 rfl (L_if_eq dTo_wordAmong_88 (by decide) ⟨fun c5 => L_weak [true, true, true, false, false, true, false] ((q3.1 c4).1 c5), fun c5 => L_iload_n dTo_wordAmong_91 rfl (L_aload_n dTo_wordAmong_92 rfl (L_getf fw_To_37 rfl dTo_wordAmong_93 ⟨ob_22, L_icmp_ne dTo_wordAmong_96 (by decide) ⟨fun c6 => L_weak [true, true, true, false, false, true, false] (((q3.1 c4).2 c5).1 c6), fun c6 => L_iload_n dTo_wordAmong_99 rfl (L_ireturn rfl dTo_wordAmong_100 (((q3.1 c4).2 c5).2 c6))⟩⟩))⟩), fun c4 => L_iload dTo_wordAmong_49 rfl (L_if_eq dTo_wordAmong_51 (by decide) ⟨fun c7 => L_iconst dTo_wordAmong_77 in_0 (L_istore dTo_wordAmong_78 (by decide) (L_iinc dTo_wordAmong_80 rfl (by decide) (L_goto dTo_wordAmong_83 (by decide) (L_iinc dTo_wordAmong_124 rfl (by decide) (L_goto dTo_wordAmong_127 (by decide) (L_weak [true, true, true, true, true, true, false] ((q3.2 c4).1 c7))))))), fun c7 => L_iload_n dTo_wordAmong_54 rfl (L_aload_n dTo_wordAmong_55 rfl (L_getf fw_To_37 rfl dTo_wordAmong_56 ⟨ob_22, L_icmp_ge dTo_wordAmong_59 (by decide) ⟨fun c8 => L_iconst dTo_wordAmong_77 in_0 (L_istore dTo_wordAmong_78 (by decide) (L_iinc dTo_wordAmong_80 rfl (by decide) (L_goto dTo_wordAmong_83 (by decide) (L_iinc dTo_wordAmong_124 rfl (by decide) (L_goto dTo_wordAmong_127 (by decide) (L_weak [true, true, true, true, true, true, false] (((q3.2 c4).2 c7).1 c8))))))), fun c8 => L_aload_n dTo_wordAmong_62 rfl (L_getF (b := 23) fw_To_18 rfl rfl (by decide) dTo_wordAmong_63 ⟨ob_22, L_iload_n dTo_wordAmong_66 rfl (L_baloadL kd_23 dTo_wordAmong_67 ⟨(((q3.2 c4).2 c7).2 c8).1, L_iload dTo_wordAmong_68 rfl (L_icmp_ne dTo_wordAmong_70 (by decide) ⟨fun c9 => L_iconst dTo_wordAmong_77 in_0 (L_istore dTo_wordAmong_78 (by decide) (L_iinc dTo_wordAmong_80 rfl (by decide) (L_goto dTo_wordAmong_83 (by decide) (L_iinc dTo_wordAmong_124 rfl (by decide) (L_goto dTo_wordAmong_127 (by decide) (L_weak [true, true, true, true, true, true, false] ((((q3.2 c4).2 c7).2 c8).2.1 c9))))))), fun c9 => L_iconst dTo_wordAmong_73 in_1 (L_goto dTo_wordAmong_74 (by decide) (L_istore dTo_wordAmong_78 (by decide) (L_iinc dTo_wordAmong_80 rfl (by decide) (L_goto dTo_wordAmong_83 (by decide) (L_iinc dTo_wordAmong_124 rfl (by decide) (L_goto dTo_wordAmong_127 (by decide) (L_weak [true, true, true, true, true, true, false] ((((q3.2 c4).2 c7).2 c8).2.2 c9))))))))⟩)⟩)⟩)⟩⟩))⟩)⟩)))))))⟩))))
theorem s_To_wordAmong_101 {d : Nat} {x1 x2 x5 : Int} {σ : SG} {Q : Int → SG → Prop} (h : (σ 22 8 ≠ 1 → L (d + 1) M_To_wordAmong 25 [vA 22, vA x1, vI (w32 (x2 + 1)), vI (σ 22 6), vI 0, vI (w32 (x5 + 1)), vU] [] σ Q) ∧ (σ 22 8 = 1 → L (d + 1) M_To_wordAmong 25 [vA 22, vA x1, vI (w32 (x2 + 1)), vI (σ 22 6), vI 1, vI (w32 (x5 + 1)), vU] [] σ Q)) : L (d + 1) M_To_wordAmong 101 [vA 22, vA x1, vI x2, vU, vU, vI x5, vU] [] σ Q :=
  L_iinc dTo_wordAmong_101 rfl (by decide) (L_aload_n dTo_wordAmong_104 rfl (L_getf fw_To_43 rfl dTo_wordAmong_105 ⟨ob_22, L_istore_n dTo_wordAmong_108 (by decide) (L_aload_n dTo_wordAmong_109 rfl (L_getf fw_To_50 rfl dTo_wordAmong_110 ⟨ob_22, L_iconst dTo_wordAmong_113 in_1 (L_icmp_ne dTo_wordAmong_114 (by decide) ⟨fun c1 => L_iconst dTo_wordAmong_121 in_0 (L_istore dTo_wordAmong_122 (by decide) (L_iinc dTo_wordAmong_124 rfl (by decide) (L_goto dTo_wordAmong_127 (by decide) (h.1 c1)))), fun c1 => L_iconst dTo_wordAmong_117 in_1 (L_goto dTo_wordAmong_118 (by decide) (L_istore dTo_wordAmong_122 (by decide) (L_iinc dTo_wordAmong_124 rfl (by decide) (L_goto dTo_wordAmong_127 (by decide) (h.2 c1)))))⟩)⟩))⟩))
