theorem dJI_compare_0 : decode prog_15_method_40_code 0 = .ok (.iload_n 0, 1) := by decide +kernel
theorem dJI_compare_1 : decode prog_15_method_40_code 1 = .ok (.iload_n 1, 1) := by decide +kernel
theorem dJI_compare_2 : decode prog_15_method_40_code 2 = .ok (.if_icmp .ge 7, 3) := by decide +kernel
theorem dJI_compare_5 : decode prog_15_method_40_code 5 = .ok (.iconst (-1), 1) := by decide +kernel
theorem dJI_compare_6 : decode prog_15_method_40_code 6 = .ok (.goto 13, 3) := by decide +kernel
theorem dJI_compare_9 : decode prog_15_method_40_code 9 = .ok (.iload_n 0, 1) := by decide +kernel
theorem dJI_compare_10 : decode prog_15_method_40_code 10 = .ok (.iload_n 1, 1) := by decide +kernel
theorem dJI_compare_11 : decode prog_15_method_40_code 11 = .ok (.if_icmp .ne 7, 3) := by decide +kernel
theorem dJI_compare_14 : decode prog_15_method_40_code 14 = .ok (.iconst 0, 1) := by decide +kernel
theorem dJI_compare_15 : decode prog_15_method_40_code 15 = .ok (.goto 4, 3) := by decide +kernel
theorem dJI_compare_18 : decode prog_15_method_40_code 18 = .ok (.iconst 1, 1) := by decide +kernel
theorem dJI_compare_19 : decode prog_15_method_40_code 19 = .ok (.ireturn, 1) := by decide +kernel
theorem t_JI_compare {d : Nat} {x0 x1 : Int} {σ : SG} {Q : Int → SG → Prop} (h : inI x0 → inI x1 → ((x1 ≤ x0 → (x0 ≠ x1 → Q 1 σ) ∧ (x0 = x1 → Q 0 σ)) ∧ (x0 < x1 → Q (-1) σ))) : Tri (d + 1) M_JI_compare [vI x0, vI x1] σ Q :=
  Tri_intro rfl (Nat.le_of_ble_eq_true rfl) (ls := [vI x0, vI x1]) rfl (fun hok => L_iload_n dJI_compare_0 rfl (L_iload_n dJI_compare_1 rfl (L_icmp_ge dJI_compare_2 (by decide) ⟨fun c1 => L_iload_n dJI_compare_9 rfl (L_iload_n dJI_compare_10 rfl (L_icmp_ne dJI_compare_11 (by decide) ⟨fun c2 => L_iconst dJI_compare_18 in_1 (L_ireturn rfl dJI_compare_19 (((h (hok _ (List.mem_of_getElem? (i := 0) rfl)) (hok _ (List.mem_of_getElem? (i := 1) rfl))).1 c1).1 c2)), fun c2 => L_iconst dJI_compare_14 in_0 (L_goto dJI_compare_15 (by decide) (L_ireturn rfl dJI_compare_19 (((h (hok _ (List.mem_of_getElem? (i := 0) rfl)) (hok _ (List.mem_of_getElem? (i := 1) rfl))).1 c1).2 c2)))⟩)), fun c1 => L_iconst dJI_compare_5 in_m1 (L_goto dJI_compare_6 (by decide) (L_ireturn rfl dJI_compare_19 ((h (hok _ (List.mem_of_getElem? (i := 0) rfl)) (hok _ (List.mem_of_getElem? (i := 1) rfl))).2 c1)))⟩)))
theorem dJI_bitCount_0 : decode prog_15_method_49_code 0 = .ok (.iload_n 0, 1) := by decide +kernel
theorem dJI_bitCount_1 : decode prog_15_method_49_code 1 = .ok (.iload_n 0, 1) := by decide +kernel
theorem dJI_bitCount_2 : decode prog_15_method_49_code 2 = .ok (.iconst 1, 1) := by decide +kernel
theorem dJI_bitCount_3 : decode prog_15_method_49_code 3 = .ok (.iushr, 1) := by decide +kernel
theorem dJI_bitCount_4 : decode prog_15_method_49_code 4 = .ok (.ldc_w 265, 3) := by decide +kernel
theorem dJI_bitCount_7 : decode prog_15_method_49_code 7 = .ok (.iand, 1) := by decide +kernel
theorem dJI_bitCount_8 : decode prog_15_method_49_code 8 = .ok (.isub, 1) := by decide +kernel
theorem dJI_bitCount_9 : decode prog_15_method_49_code 9 = .ok (.istore_n 0, 1) := by decide +kernel
theorem dJI_bitCount_10 : decode prog_15_method_49_code 10 = .ok (.iload_n 0, 1) := by decide +kernel
theorem dJI_bitCount_11 : decode prog_15_method_49_code 11 = .ok (.ldc_w 266, 3) := by decide +kernel
theorem dJI_bitCount_14 : decode prog_15_method_49_code 14 = .ok (.iand, 1) := by decide +kernel
theorem dJI_bitCount_15 : decode prog_15_method_49_code 15 = .ok (.iload_n 0, 1) := by decide +kernel
theorem dJI_bitCount_16 : decode prog_15_method_49_code 16 = .ok (.iconst 2, 1) := by decide +kernel
theorem dJI_bitCount_17 : decode prog_15_method_49_code 17 = .ok (.iushr, 1) := by decide +kernel
theorem dJI_bitCount_18 : decode prog_15_method_49_code 18 = .ok (.ldc_w 266, 3) := by decide +kernel
theorem dJI_bitCount_21 : decode prog_15_method_49_code 21 = .ok (.iand, 1) := by decide +kernel
theorem dJI_bitCount_22 : decode prog_15_method_49_code 22 = .ok (.iadd, 1) := by decide +kernel
theorem dJI_bitCount_23 : decode prog_15_method_49_code 23 = .ok (.istore_n 0, 1) := by decide +kernel
theorem dJI_bitCount_24 : decode prog_15_method_49_code 24 = .ok (.iload_n 0, 1) := by decide +kernel
theorem dJI_bitCount_25 : decode prog_15_method_49_code 25 = .ok (.iload_n 0, 1) := by decide +kernel
theorem dJI_bitCount_26 : decode prog_15_method_49_code 26 = .ok (.iconst 4, 1) := by decide +kernel
theorem dJI_bitCount_27 : decode prog_15_method_49_code 27 = .ok (.iushr, 1) := by decide +kernel
theorem dJI_bitCount_28 : decode prog_15_method_49_code 28 = .ok (.iadd, 1) := by decide +kernel
theorem dJI_bitCount_29 : decode prog_15_method_49_code 29 = .ok (.ldc_w 267, 3) := by decide +kernel
theorem dJI_bitCount_32 : decode prog_15_method_49_code 32 = .ok (.iand, 1) := by decide +kernel
theorem dJI_bitCount_33 : decode prog_15_method_49_code 33 = .ok (.istore_n 0, 1) := by decide +kernel
theorem dJI_bitCount_34 : decode prog_15_method_49_code 34 = .ok (.iload_n 0, 1) := by decide +kernel
theorem dJI_bitCount_35 : decode prog_15_method_49_code 35 = .ok (.iload_n 0, 1) := by decide +kernel
theorem dJI_bitCount_36 : decode prog_15_method_49_code 36 = .ok (.bipush 8, 2) := by decide +kernel
theorem dJI_bitCount_38 : decode prog_15_method_49_code 38 = .ok (.iushr, 1) := by decide +kernel
theorem dJI_bitCount_39 : decode prog_15_method_49_code 39 = .ok (.iadd, 1) := by decide +kernel
theorem dJI_bitCount_40 : decode prog_15_method_49_code 40 = .ok (.istore_n 0, 1) := by decide +kernel
theorem dJI_bitCount_41 : decode prog_15_method_49_code 41 = .ok (.iload_n 0, 1) := by decide +kernel
theorem dJI_bitCount_42 : decode prog_15_method_49_code 42 = .ok (.iload_n 0, 1) := by decide +kernel
theorem dJI_bitCount_43 : decode prog_15_method_49_code 43 = .ok (.bipush 16, 2) := by decide +kernel
theorem dJI_bitCount_45 : decode prog_15_method_49_code 45 = .ok (.iushr, 1) := by decide +kernel
theorem dJI_bitCount_46 : decode prog_15_method_49_code 46 = .ok (.iadd, 1) := by decide +kernel
theorem dJI_bitCount_47 : decode prog_15_method_49_code 47 = .ok (.istore_n 0, 1) := by decide +kernel
theorem dJI_bitCount_48 : decode prog_15_method_49_code 48 = .ok (.iload_n 0, 1) := by decide +kernel
theorem dJI_bitCount_49 : decode prog_15_method_49_code 49 = .ok (.bipush 63, 2) := by decide +kernel
theorem dJI_bitCount_51 : decode prog_15_method_49_code 51 = .ok (.iand, 1) := by decide +kernel
theorem dJI_bitCount_52 : decode prog_15_method_49_code 52 = .ok (.ireturn, 1) := by decide +kernel
theorem t_JI_bitCount {d : Nat} {x0 : Int} {σ : SG} {Q : Int → SG → Prop} (h : inI x0 → (Q (and32 (w32 ((w32 ((and32 (w32 ((w32 ((and32 (w32 (x0 - (and32 (ushr32 x0 1) 1431655765))) 858993459) + (and32 (ushr32 (w32 (x0 - (and32 (ushr32 x0 1) 1431655765))) 2) 858993459))) + (ushr32 (w32 ((and32 (w32 (x0 - (and32 (ushr32 x0 1) 1431655765))) 858993459) + (and32 (ushr32 (w32 (x0 - (and32 (ushr32 x0 1) 1431655765))) 2) 858993459))) 4))) 252645135) + (ushr32 (and32 (w32 ((w32 ((and32 (w32 (x0 - (and32 (ushr32 x0 1) 1431655765))) 858993459) + (and32 (ushr32 (w32 (x0 - (and32 (ushr32 x0 1) 1431655765))) 2) 858993459))) + (ushr32 (w32 ((and32 (w32 (x0 - (and32 (ushr32 x0 1) 1431655765))) 858993459) + (and32 (ushr32 (w32 (x0 - (and32 (ushr32 x0 1) 1431655765))) 2) 858993459))) 4))) 252645135) 8))) + (ushr32 (w32 ((and32 (w32 ((w32 ((and32 (w32 (x0 - (and32 (ushr32 x0 1) 1431655765))) 858993459) + (and32 (ushr32 (w32 (x0 - (and32 (ushr32 x0 1) 1431655765))) 2) 858993459))) + (ushr32 (w32 ((and32 (w32 (x0 - (and32 (ushr32 x0 1) 1431655765))) 858993459) + (and32 (ushr32 (w32 (x0 - (and32 (ushr32 x0 1) 1431655765))) 2) 858993459))) 4))) 252645135) + (ushr32 (and32 (w32 ((w32 ((and32 (w32 (x0 - (and32 (ushr32 x0 1) 1431655765))) 858993459) + (and32 (ushr32 (w32 (x0 - (and32 (ushr32 x0 1) 1431655765))) 2) 858993459))) + (ushr32 (w32 ((and32 (w32 (x0 - (and32 (ushr32 x0 1) 1431655765))) 858993459) + (and32 (ushr32 (w32 (x0 - (and32 (ushr32 x0 1) 1431655765))) 2) 858993459))) 4))) 252645135) 8))) 16))) 63) σ)) : Tri (d + 1) M_JI_bitCount [vI x0] σ Q :=
  Tri_intro rfl (Nat.le_of_ble_eq_true rfl) (ls := [vI x0]) rfl (fun hok => L_iload_n dJI_bitCount_0 rfl (L_iload_n dJI_bitCount_1 rfl (L_iconst dJI_bitCount_2 in_1 (L_iushr dJI_bitCount_3 (L_ldcw (x := 1431655765) (tk5 45 rfl rfl) rfl in_1431655765 dJI_bitCount_4 (L_iand dJI_bitCount_7 (L_isub dJI_bitCount_8 (L_istore_n dJI_bitCount_9 (by decide) (L_iload_n dJI_bitCount_10 rfl (L_ldcw (x := 858993459) (tk5 46 rfl rfl) rfl in_858993459 dJI_bitCount_11 (L_iand dJI_bitCount_14 (L_iload_n dJI_bitCount_15 rfl (L_iconst dJI_bitCount_16 in_2 (L_iushr dJI_bitCount_17 (L_ldcw (x := 858993459) (tk5 46 rfl rfl) rfl in_858993459 dJI_bitCount_18 (L_iand dJI_bitCount_21 (L_iadd dJI_bitCount_22 (L_istore_n dJI_bitCount_23 (by decide) (L_iload_n dJI_bitCount_24 rfl (L_iload_n dJI_bitCount_25 rfl (L_iconst dJI_bitCount_26 in_4 (L_iushr dJI_bitCount_27 (L_iadd dJI_bitCount_28 (L_ldcw (x := 252645135) (tk5 47 rfl rfl) rfl in_252645135 dJI_bitCount_29 (L_iand dJI_bitCount_32 (L_istore_n dJI_bitCount_33 (by decide) (L_iload_n dJI_bitCount_34 rfl (L_iload_n dJI_bitCount_35 rfl (L_bipush dJI_bitCount_36 bp_8 in_8 (L_iushr dJI_bitCount_38 (L_iadd dJI_bitCount_39 (L_istore_n dJI_bitCount_40 (by decide) (L_iload_n dJI_bitCount_41 rfl (L_iload_n dJI_bitCount_42 rfl (L_bipush dJI_bitCount_43 bp_16 in_16 (L_iushr dJI_bitCount_45 (L_iadd dJI_bitCount_46 (L_istore_n dJI_bitCount_47 (by decide) (L_iload_n dJI_bitCount_48 rfl (L_bipush dJI_bitCount_49 bp_63 in_63 (L_iand dJI_bitCount_51 (L_ireturn rfl dJI_bitCount_52 ((h (hok _ (List.mem_of_getElem? (i := 0) rfl))))))))))))))))))))))))))))))))))))))))))))))
theorem dJA_rangeCheck_0 : decode prog_21_method_30_code 0 = .ok (.iload_n 1, 1) := by decide +kernel
theorem dJA_rangeCheck_1 : decode prog_21_method_30_code 1 = .ok (.iload_n 2, 1) := by decide +kernel
theorem dJA_rangeCheck_2 : decode prog_21_method_30_code 2 = .ok (.if_icmp .le 44, 3) := by decide +kernel
theorem dJA_rangeCheck_5 : decode prog_21_method_30_code 5 = .ok (.new 43, 3) := by decide +kernel
theorem dJA_rangeCheck_8 : decode prog_21_method_30_code 8 = .ok (.dup, 1) := by decide +kernel
theorem dJA_rangeCheck_9 : decode prog_21_method_30_code 9 = .ok (.new 45, 3) := by decide +kernel
theorem dJA_rangeCheck_12 : decode prog_21_method_30_code 12 = .ok (.dup, 1) := by decide +kernel
theorem dJA_rangeCheck_13 : decode prog_21_method_30_code 13 = .ok (.invokespecial 47, 3) := by decide +kernel
theorem dJA_rangeCheck_16 : decode prog_21_method_30_code 16 = .ok (.ldc 48, 2) := by decide +kernel
theorem dJA_rangeCheck_18 : decode prog_21_method_30_code 18 = .ok (.invokevirtual 50, 3) := by decide +kernel
theorem dJA_rangeCheck_21 : decode prog_21_method_30_code 21 = .ok (.iload_n 1, 1) := by decide +kernel
theorem dJA_rangeCheck_22 : decode prog_21_method_30_code 22 = .ok (.invokevirtual 54, 3) := by decide +kernel
theorem dJA_rangeCheck_25 : decode prog_21_method_30_code 25 = .ok (.ldc 57, 2) := by decide +kernel
theorem dJA_rangeCheck_27 : decode prog_21_method_30_code 27 = .ok (.invokevirtual 50, 3) := by decide +kernel
theorem dJA_rangeCheck_30 : decode prog_21_method_30_code 30 = .ok (.iload_n 2, 1) := by decide +kernel
theorem dJA_rangeCheck_31 : decode prog_21_method_30_code 31 = .ok (.invokevirtual 54, 3) := by decide +kernel
theorem dJA_rangeCheck_34 : decode prog_21_method_30_code 34 = .ok (.ldc 59, 2) := by decide +kernel
theorem dJA_rangeCheck_36 : decode prog_21_method_30_code 36 = .ok (.invokevirtual 50, 3) := by decide +kernel
theorem dJA_rangeCheck_39 : decode prog_21_method_30_code 39 = .ok (.invokevirtual 61, 3) := by decide +kernel
theorem dJA_rangeCheck_42 : decode prog_21_method_30_code 42 = .ok (.invokespecial 65, 3) := by decide +kernel
theorem dJA_rangeCheck_45 : decode prog_21_method_30_code 45 = .ok (.athrow, 1) := by decide +kernel
theorem dJA_rangeCheck_46 : decode prog_21_method_30_code 46 = .ok (.iload_n 1, 1) := by decide +kernel
theorem dJA_rangeCheck_47 : decode prog_21_method_30_code 47 = .ok (.ifCond .ge 12, 3) := by decide +kernel
theorem dJA_rangeCheck_50 : decode prog_21_method_30_code 50 = .ok (.new 68, 3) := by decide +kernel
theorem dJA_rangeCheck_53 : decode prog_21_method_30_code 53 = .ok (.dup, 1) := by decide +kernel
theorem dJA_rangeCheck_54 : decode prog_21_method_30_code 54 = .ok (.iload_n 1, 1) := by decide +kernel
theorem dJA_rangeCheck_55 : decode prog_21_method_30_code 55 = .ok (.invokespecial 70, 3) := by decide +kernel
theorem dJA_rangeCheck_58 : decode prog_21_method_30_code 58 = .ok (.athrow, 1) := by decide +kernel
theorem dJA_rangeCheck_59 : decode prog_21_method_30_code 59 = .ok (.iload_n 2, 1) := by decide +kernel
theorem dJA_rangeCheck_60 : decode prog_21_method_30_code 60 = .ok (.iload_n 0, 1) := by decide +kernel
theorem dJA_rangeCheck_61 : decode prog_21_method_30_code 61 = .ok (.if_icmp .le 12, 3) := by decide +kernel
theorem dJA_rangeCheck_64 : decode prog_21_method_30_code 64 = .ok (.new 68, 3) := by decide +kernel
theorem dJA_rangeCheck_67 : decode prog_21_method_30_code 67 = .ok (.dup, 1) := by decide +kernel
theorem dJA_rangeCheck_68 : decode prog_21_method_30_code 68 = .ok (.iload_n 2, 1) := by decide +kernel
theorem dJA_rangeCheck_69 : decode prog_21_method_30_code 69 = .ok (.invokespecial 70, 3) := by decide +kernel
theorem dJA_rangeCheck_72 : decode prog_21_method_30_code 72 = .ok (.athrow, 1) := by decide +kernel
theorem dJA_rangeCheck_73 : decode prog_21_method_30_code 73 = .ok (.return_, 1) := by decide +kernel
theorem t_JA_rangeCheck {d : Nat} {x0 x1 x2 : Int} {σ : SG} {Q : Int → SG → Prop} (h : inI x0 → inI x1 → inI x2 → ((x1 ≤ x2 → (0 ≤ x1 → (x2 ≤ x0 → Q 0 σ) ∧ (x0 < x2 → False)) ∧ (x1 < 0 → False)) ∧ (x2 < x1 → False))) : Tri (d + 1) M_JA_rangeCheck [vI x0, vI x1, vI x2] σ Q :=
  Tri_intro rfl (Nat.le_of_ble_eq_true rfl) (ls := [vI x0, vI x1, vI x2]) rfl (fun hok => L_iload_n dJA_rangeCheck_0 rfl (L_iload_n dJA_rangeCheck_1 rfl (L_icmp_le dJA_rangeCheck_2 (by decide) ⟨fun c1 => L_iload_n dJA_rangeCheck_46 rfl (L_if_ge dJA_rangeCheck_47 (by decide) ⟨fun c2 => L_iload_n dJA_rangeCheck_59 rfl (L_iload_n dJA_rangeCheck_60 rfl (L_icmp_le dJA_rangeCheck_61 (by decide) ⟨fun c3 => L_return rfl dJA_rangeCheck_73 ((((h (hok _ (List.mem_of_getElem? (i := 0) rfl)) (hok _ (List.mem_of_getElem? (i := 1) rfl)) (hok _ (List.mem_of_getElem? (i := 2) rfl))).1 c1).1 c2).1 c3), fun c3 => (False.elim ((((h (hok _ (List.mem_of_getElem? (i := 0) rfl)) (hok _ (List.mem_of_getElem? (i := 1) rfl)) (hok _ (List.mem_of_getElem? (i := 2) rfl))).1 c1).1 c2).2 c3))⟩)), fun c2 => (False.elim (((h (hok _ (List.mem_of_getElem? (i := 0) rfl)) (hok _ (List.mem_of_getElem? (i := 1) rfl)) (hok _ (List.mem_of_getElem? (i := 2) rfl))).1 c1).2 c2))⟩), fun c1 => (False.elim ((h (hok _ (List.mem_of_getElem? (i := 0) rfl)) (hok _ (List.mem_of_getElem? (i := 1) rfl)) (hok _ (List.mem_of_getElem? (i := 2) rfl))).2 c1))⟩)))
theorem dJA_fill_0 : decode prog_21_method_102_code 0 = .ok (.aload_n 0, 1) := by decide +kernel
theorem dJA_fill_1 : decode prog_21_method_102_code 1 = .ok (.arraylength, 1) := by decide +kernel
theorem dJA_fill_2 : decode prog_21_method_102_code 2 = .ok (.iload_n 1, 1) := by decide +kernel
theorem dJA_fill_3 : decode prog_21_method_102_code 3 = .ok (.iload_n 2, 1) := by decide +kernel
theorem dJA_fill_4 : decode prog_21_method_102_code 4 = .ok (.invokestatic 13, 3) := by decide +kernel
theorem dJA_fill_7 : decode prog_21_method_102_code 7 = .ok (.iload_n 1, 1) := by decide +kernel
theorem dJA_fill_8 : decode prog_21_method_102_code 8 = .ok (.istore 5, 2) := by decide +kernel
theorem dJA_fill_10 : decode prog_21_method_102_code 10 = .ok (.iload 5, 2) := by decide +kernel
theorem dJA_fill_12 : decode prog_21_method_102_code 12 = .ok (.iload_n 2, 1) := by decide +kernel
theorem dJA_fill_13 : decode prog_21_method_102_code 13 = .ok (.if_icmp .ge 14, 3) := by decide +kernel
theorem dJA_fill_16 : decode prog_21_method_102_code 16 = .ok (.aload_n 0, 1) := by decide +kernel
theorem dJA_fill_17 : decode prog_21_method_102_code 17 = .ok (.iload 5, 2) := by decide +kernel
theorem dJA_fill_19 : decode prog_21_method_102_code 19 = .ok (.lload_n 3, 1) := by decide +kernel
theorem dJA_fill_20 : decode prog_21_method_102_code 20 = .ok (.lastore, 1) := by decide +kernel
theorem dJA_fill_21 : decode prog_21_method_102_code 21 = .ok (.iinc 5 1, 3) := by decide +kernel
theorem dJA_fill_24 : decode prog_21_method_102_code 24 = .ok (.goto (-14), 3) := by decide +kernel
theorem dJA_fill_27 : decode prog_21_method_102_code 27 = .ok (.return_, 1) := by decide +kernel
theorem t_JA_fill {d : Nat} {x0 x1 x2 x3 : Int} {σ : SG} {Q : Int → SG → Prop} (h : inI x1 → inI x2 → inJ x3 → ((0 ≤ x0 ∧ (kd x0).1 = 101) ∧ Tri d M_JA_rangeCheck [vI ((kd x0).2 : Int), vI x1, vI x2] σ (fun r1 σ1 => L (d + 1) M_JA_fill 10 [vA x0, vU, vI x2, vJ x3, vU, vI x1] [] σ1 Q))) : Tri (d + 1) M_JA_fill [vA x0, vI x1, vI x2, vJ x3] σ Q :=
  Tri_intro rfl (Nat.le_of_ble_eq_true rfl) (ls := [vA x0, vI x1, vI x2, vJ x3, vU, vU]) rfl (fun hok => L_aload_n dJA_fill_0 rfl (L_alenJ dJA_fill_1 ⟨(h (hok _ (List.mem_of_getElem? (i := 1) rfl)) (hok _ (List.mem_of_getElem? (i := 2) rfl)) (hok _ (List.mem_of_getElem? (i := 3) rfl))).1, L_iload_n dJA_fill_2 rfl (L_iload_n dJA_fill_3 rfl (L_callSV rfl cs_JA_rangeCheck (As := [vI ((kd x0).2 : Int), vI x1, vI x2]) rfl (tk3 12 rfl rfl) rfl (Nat.le_of_ble_eq_true rfl) dJA_fill_4 (Tri.mono ((h (hok _ (List.mem_of_getElem? (i := 1) rfl)) (hok _ (List.mem_of_getElem? (i := 2) rfl)) (hok _ (List.mem_of_getElem? (i := 3) rfl))).2) (fun r1 σ1 q1 => L_iload_n dJA_fill_7 rfl (L_istore dJA_fill_8 (by decide) (L_weak [true, false, true, true, true, true] q1))))))⟩))
theorem s_JA_fill_10 {d : Nat} {x0 x2 x3 x5 : Int} {σ : SG} {Q : Int → SG → Prop} (h : (x2 ≤ x5 → Q 0 σ) ∧ (x5 < x2 → wrok 101 x0 x5 ∧ (∀ σ2, σ2 = up σ x0 x5 x3 → L (d + 1) M_JA_fill 10 [vA x0, vU, vI x2, vJ x3, vU, vI (w32 (x5 + 1))] [] σ2 Q))) : L (d + 1) M_JA_fill 10 [vA x0, vU, vI x2, vJ x3, vU, vI x5] [] σ Q :=
  L_iload dJA_fill_10 rfl (L_iload_n dJA_fill_12 rfl (L_icmp_ge dJA_fill_13 (by decide) ⟨fun c1 => L_return rfl dJA_fill_27 (h.1 c1), fun c1 => L_aload_n dJA_fill_16 rfl (L_iload dJA_fill_17 rfl (L_lload_n dJA_fill_19 rfl (L_lastoreN dJA_fill_20 ⟨(h.2 c1).1, fun σ2 e2 => L_iinc dJA_fill_21 rfl (by decide) (L_goto dJA_fill_24 (by decide) ((h.2 c1).2 σ2 e2))⟩)))⟩))
theorem dJA_fill___II_V_0 : decode prog_21_method_103_code 0 = .ok (.iconst 0, 1) := by decide +kernel
theorem dJA_fill___II_V_1 : decode prog_21_method_103_code 1 = .ok (.istore_n 2, 1) := by decide +kernel
theorem dJA_fill___II_V_2 : decode prog_21_method_103_code 2 = .ok (.aload_n 0, 1) := by decide +kernel
theorem dJA_fill___II_V_3 : decode prog_21_method_103_code 3 = .ok (.arraylength, 1) := by decide +kernel
theorem dJA_fill___II_V_4 : decode prog_21_method_103_code 4 = .ok (.istore_n 3, 1) := by decide +kernel
theorem dJA_fill___II_V_5 : decode prog_21_method_103_code 5 = .ok (.iload_n 2, 1) := by decide +kernel
theorem dJA_fill___II_V_6 : decode prog_21_method_103_code 6 = .ok (.iload_n 3, 1) := by decide +kernel
theorem dJA_fill___II_V_7 : decode prog_21_method_103_code 7 = .ok (.if_icmp .ge 13, 3) := by decide +kernel
theorem dJA_fill___II_V_10 : decode prog_21_method_103_code 10 = .ok (.aload_n 0, 1) := by decide +kernel
theorem dJA_fill___II_V_11 : decode prog_21_method_103_code 11 = .ok (.iload_n 2, 1) := by decide +kernel
theorem dJA_fill___II_V_12 : decode prog_21_method_103_code 12 = .ok (.iload_n 1, 1) := by decide +kernel
theorem dJA_fill___II_V_13 : decode prog_21_method_103_code 13 = .ok (.iastore, 1) := by decide +kernel
theorem dJA_fill___II_V_14 : decode prog_21_method_103_code 14 = .ok (.iinc 2 1, 3) := by decide +kernel
theorem dJA_fill___II_V_17 : decode prog_21_method_103_code 17 = .ok (.goto (-12), 3) := by decide +kernel
theorem dJA_fill___II_V_20 : decode prog_21_method_103_code 20 = .ok (.return_, 1) := by decide +kernel
theorem t_JA_fill___II_V {d : Nat} {x0 x1 : Int} {σ : SG} {Q : Int → SG → Prop} (h : inI x1 → ((0 ≤ x0 ∧ (kd x0).1 = 100) ∧ L (d + 1) M_JA_fill___II_V 5 [vA x0, vI x1, vI 0, vI ((kd x0).2 : Int)] [] σ Q)) : Tri (d + 1) M_JA_fill___II_V [vA x0, vI x1] σ Q :=
  Tri_intro rfl (Nat.le_of_ble_eq_true rfl) (ls := [vA x0, vI x1, vU, vU]) rfl (fun hok => L_iconst dJA_fill___II_V_0 in_0 (L_istore_n dJA_fill___II_V_1 (by decide) (L_aload_n dJA_fill___II_V_2 rfl (L_alen dJA_fill___II_V_3 ⟨(h (hok _ (List.mem_of_getElem? (i := 1) rfl))).1, L_istore_n dJA_fill___II_V_4 (by decide) ((h (hok _ (List.mem_of_getElem? (i := 1) rfl))).2)⟩))))
theorem s_JA_fill___II_V_5 {d : Nat} {x0 x1 x2 x3 : Int} {σ : SG} {Q : Int → SG → Prop} (h : (x3 ≤ x2 → Q 0 σ) ∧ (x2 < x3 → wrok 100 x0 x2 ∧ (∀ σ2, σ2 = up σ x0 x2 x1 → L (d + 1) M_JA_fill___II_V 5 [vA x0, vI x1, vI (w32 (x2 + 1)), vI x3] [] σ2 Q))) : L (d + 1) M_JA_fill___II_V 5 [vA x0, vI x1, vI x2, vI x3] [] σ Q :=
  L_iload_n dJA_fill___II_V_5 rfl (L_iload_n dJA_fill___II_V_6 rfl (L_icmp_ge dJA_fill___II_V_7 (by decide) ⟨fun c1 => L_return rfl dJA_fill___II_V_20 (h.1 c1), fun c1 => L_aload_n dJA_fill___II_V_10 rfl (L_iload_n dJA_fill___II_V_11 rfl (L_iload_n dJA_fill___II_V_12 rfl (L_iastoreN dJA_fill___II_V_13 ⟨(h.2 c1).1, fun σ2 e2 => L_iinc dJA_fill___II_V_14 rfl (by decide) (L_goto dJA_fill___II_V_17 (by decide) ((h.2 c1).2 σ2 e2))⟩)))⟩))
theorem dJA_fill___IIII_V_0 : decode prog_21_method_104_code 0 = .ok (.aload_n 0, 1) := by decide +kernel
theorem dJA_fill___IIII_V_1 : decode prog_21_method_104_code 1 = .ok (.arraylength, 1) := by decide +kernel
theorem dJA_fill___IIII_V_2 : decode prog_21_method_104_code 2 = .ok (.iload_n 1, 1) := by decide +kernel
theorem dJA_fill___IIII_V_3 : decode prog_21_method_104_code 3 = .ok (.iload_n 2, 1) := by decide +kernel
theorem dJA_fill___IIII_V_4 : decode prog_21_method_104_code 4 = .ok (.invokestatic 13, 3) := by decide +kernel
theorem dJA_fill___IIII_V_7 : decode prog_21_method_104_code 7 = .ok (.iload_n 1, 1) := by decide +kernel
theorem dJA_fill___IIII_V_8 : decode prog_21_method_104_code 8 = .ok (.istore 4, 2) := by decide +kernel
theorem dJA_fill___IIII_V_10 : decode prog_21_method_104_code 10 = .ok (.iload 4, 2) := by decide +kernel
theorem dJA_fill___IIII_V_12 : decode prog_21_method_104_code 12 = .ok (.iload_n 2, 1) := by decide +kernel
theorem dJA_fill___IIII_V_13 : decode prog_21_method_104_code 13 = .ok (.if_icmp .ge 14, 3) := by decide +kernel
theorem dJA_fill___IIII_V_16 : decode prog_21_method_104_code 16 = .ok (.aload_n 0, 1) := by decide +kernel
theorem dJA_fill___IIII_V_17 : decode prog_21_method_104_code 17 = .ok (.iload 4, 2) := by decide +kernel
theorem dJA_fill___IIII_V_19 : decode prog_21_method_104_code 19 = .ok (.iload_n 3, 1) := by decide +kernel
theorem dJA_fill___IIII_V_20 : decode prog_21_method_104_code 20 = .ok (.iastore, 1) := by decide +kernel
theorem dJA_fill___IIII_V_21 : decode prog_21_method_104_code 21 = .ok (.iinc 4 1, 3) := by decide +kernel
theorem dJA_fill___IIII_V_24 : decode prog_21_method_104_code 24 = .ok (.goto (-14), 3) := by decide +kernel
theorem dJA_fill___IIII_V_27 : decode prog_21_method_104_code 27 = .ok (.return_, 1) := by decide +kernel
theorem t_JA_fill___IIII_V {d : Nat} {x0 x1 x2 x3 : Int} {σ : SG} {Q : Int → SG → Prop} (h : inI x1 → inI x2 → inI x3 → ((0 ≤ x0 ∧ (kd x0).1 = 100) ∧ Tri d M_JA_rangeCheck [vI ((kd x0).2 : Int), vI x1, vI x2] σ (fun r1 σ1 => L (d + 1) M_JA_fill___IIII_V 10 [vA x0, vU, vI x2, vI x3, vI x1] [] σ1 Q))) : Tri (d + 1) M_JA_fill___IIII_V [vA x0, vI x1, vI x2, vI x3] σ Q :=
  Tri_intro rfl (Nat.le_of_ble_eq_true rfl) (ls := [vA x0, vI x1, vI x2, vI x3, vU]) rfl (fun hok => L_aload_n dJA_fill___IIII_V_0 rfl (L_alen dJA_fill___IIII_V_1 ⟨(h (hok _ (List.mem_of_getElem? (i := 1) rfl)) (hok _ (List.mem_of_getElem? (i := 2) rfl)) (hok _ (List.mem_of_getElem? (i := 3) rfl))).1, L_iload_n dJA_fill___IIII_V_2 rfl (L_iload_n dJA_fill___IIII_V_3 rfl (L_callSV rfl cs_JA_rangeCheck (As := [vI ((kd x0).2 : Int), vI x1, vI x2]) rfl (tk3 12 rfl rfl) rfl (Nat.le_of_ble_eq_true rfl) dJA_fill___IIII_V_4 (Tri.mono ((h (hok _ (List.mem_of_getElem? (i := 1) rfl)) (hok _ (List.mem_of_getElem? (i := 2) rfl)) (hok _ (List.mem_of_getElem? (i := 3) rfl))).2) (fun r1 σ1 q1 => L_iload_n dJA_fill___IIII_V_7 rfl (L_istore dJA_fill___IIII_V_8 (by decide) (L_weak [true, false, true, true, true] q1))))))⟩))
theorem s_JA_fill___IIII_V_10 {d : Nat} {x0 x2 x3 x4 : Int} {σ : SG} {Q : Int → SG → Prop} (h : (x2 ≤ x4 → Q 0 σ) ∧ (x4 < x2 → wrok 100 x0 x4 ∧ (∀ σ2, σ2 = up σ x0 x4 x3 → L (d + 1) M_JA_fill___IIII_V 10 [vA x0, vU, vI x2, vI x3, vI (w32 (x4 + 1))] [] σ2 Q))) : L (d + 1) M_JA_fill___IIII_V 10 [vA x0, vU, vI x2, vI x3, vI x4] [] σ Q :=
  L_iload dJA_fill___IIII_V_10 rfl (L_iload_n dJA_fill___IIII_V_12 rfl (L_icmp_ge dJA_fill___IIII_V_13 (by decide) ⟨fun c1 => L_return rfl dJA_fill___IIII_V_27 (h.1 c1), fun c1 => L_aload_n dJA_fill___IIII_V_16 rfl (L_iload dJA_fill___IIII_V_17 rfl (L_iload_n dJA_fill___IIII_V_19 rfl (L_iastoreN dJA_fill___IIII_V_20 ⟨(h.2 c1).1, fun σ2 e2 => L_iinc dJA_fill___IIII_V_21 rfl (by decide) (L_goto dJA_fill___IIII_V_24 (by decide) ((h.2 c1).2 σ2 e2))⟩)))⟩))
