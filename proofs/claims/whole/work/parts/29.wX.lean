theorem dX_status_0 : decode prog_1_method_2_code 0 = .ok (.aload_n 0, 1) := by decide +kernel
theorem dX_status_1 : decode prog_1_method_2_code 1 = .ok (.getfield 105, 3) := by decide +kernel
theorem dX_status_4 : decode prog_1_method_2_code 4 = .ok (.ireturn, 1) := by decide +kernel
theorem t_X_status {d : Nat} {σ : SG} {Q : Int → SG → Prop} (h : Q (σ 0 0) σ) : Tri (d + 1) M_X_status [vA 0] σ Q :=
  Tri_intro rfl (Nat.le_of_ble_eq_true rfl) (ls := [vA 0]) rfl (fun hok => L_aload_n dX_status_0 rfl (L_getf fw_X_105 rfl dX_status_1 ⟨ob_0, L_ireturn rfl dX_status_4 (h)⟩))
theorem dX_top_0 : decode prog_1_method_3_code 0 = .ok (.aload_n 0, 1) := by decide +kernel
theorem dX_top_1 : decode prog_1_method_3_code 1 = .ok (.getfield 108, 3) := by decide +kernel
theorem dX_top_4 : decode prog_1_method_3_code 4 = .ok (.lreturn, 1) := by decide +kernel
theorem t_X_top {d : Nat} {σ : SG} {Q : Int → SG → Prop} (h : Q (σ 0 1) σ) : Tri (d + 1) M_X_top [vA 0] σ Q :=
  Tri_intro rfl (Nat.le_of_ble_eq_true rfl) (ls := [vA 0]) rfl (fun hok => L_aload_n dX_top_0 rfl (L_getf fw_X_108 rfl dX_top_1 ⟨ob_0, L_lreturn rfl dX_top_4 (h)⟩))
theorem dX_bottom_0 : decode prog_1_method_4_code 0 = .ok (.aload_n 0, 1) := by decide +kernel
theorem dX_bottom_1 : decode prog_1_method_4_code 1 = .ok (.getfield 7, 3) := by decide +kernel
theorem dX_bottom_4 : decode prog_1_method_4_code 4 = .ok (.lreturn, 1) := by decide +kernel
theorem t_X_bottom {d : Nat} {σ : SG} {Q : Int → SG → Prop} (h : Q (σ 0 2) σ) : Tri (d + 1) M_X_bottom [vA 0] σ Q :=
  Tri_intro rfl (Nat.le_of_ble_eq_true rfl) (ls := [vA 0]) rfl (fun hok => L_aload_n dX_bottom_0 rfl (L_getf fw_X_7 rfl dX_bottom_1 ⟨ob_0, L_lreturn rfl dX_bottom_4 (h)⟩))
theorem dX_tray_0 : decode prog_1_method_5_code 0 = .ok (.iload_n 1, 1) := by decide +kernel
theorem dX_tray_1 : decode prog_1_method_5_code 1 = .ok (.invokestatic 111, 3) := by decide +kernel
theorem dX_tray_4 : decode prog_1_method_5_code 4 = .ok (.ifCond .eq 12, 3) := by decide +kernel
theorem dX_tray_7 : decode prog_1_method_5_code 7 = .ok (.iload_n 2, 1) := by decide +kernel
theorem dX_tray_8 : decode prog_1_method_5_code 8 = .ok (.ifCond .lt 8, 3) := by decide +kernel
theorem dX_tray_11 : decode prog_1_method_5_code 11 = .ok (.iload_n 2, 1) := by decide +kernel
theorem dX_tray_12 : decode prog_1_method_5_code 12 = .ok (.iconst 3, 1) := by decide +kernel
theorem dX_tray_13 : decode prog_1_method_5_code 13 = .ok (.if_icmp .le 9, 3) := by decide +kernel
theorem dX_tray_16 : decode prog_1_method_5_code 16 = .ok (.aload_n 0, 1) := by decide +kernel
theorem dX_tray_17 : decode prog_1_method_5_code 17 = .ok (.iconst 1, 1) := by decide +kernel
theorem dX_tray_18 : decode prog_1_method_5_code 18 = .ok (.invokevirtual 115, 3) := by decide +kernel
theorem dX_tray_21 : decode prog_1_method_5_code 21 = .ok (.ireturn, 1) := by decide +kernel
theorem dX_tray_22 : decode prog_1_method_5_code 22 = .ok (.iload_n 3, 1) := by decide +kernel
theorem dX_tray_23 : decode prog_1_method_5_code 23 = .ok (.bipush 60, 2) := by decide +kernel
theorem dX_tray_25 : decode prog_1_method_5_code 25 = .ok (.if_icmp .le 9, 3) := by decide +kernel
theorem dX_tray_28 : decode prog_1_method_5_code 28 = .ok (.aload_n 0, 1) := by decide +kernel
theorem dX_tray_29 : decode prog_1_method_5_code 29 = .ok (.iconst 5, 1) := by decide +kernel
theorem dX_tray_30 : decode prog_1_method_5_code 30 = .ok (.invokevirtual 115, 3) := by decide +kernel
theorem dX_tray_33 : decode prog_1_method_5_code 33 = .ok (.ireturn, 1) := by decide +kernel
theorem dX_tray_34 : decode prog_1_method_5_code 34 = .ok (.iload_n 3, 1) := by decide +kernel
theorem dX_tray_35 : decode prog_1_method_5_code 35 = .ok (.ifCond .ge 10, 3) := by decide +kernel
theorem dX_tray_38 : decode prog_1_method_5_code 38 = .ok (.aload_n 0, 1) := by decide +kernel
theorem dX_tray_39 : decode prog_1_method_5_code 39 = .ok (.bipush 6, 2) := by decide +kernel
theorem dX_tray_41 : decode prog_1_method_5_code 41 = .ok (.invokevirtual 115, 3) := by decide +kernel
theorem dX_tray_44 : decode prog_1_method_5_code 44 = .ok (.ireturn, 1) := by decide +kernel
theorem dX_tray_45 : decode prog_1_method_5_code 45 = .ok (.aload_n 0, 1) := by decide +kernel
theorem dX_tray_46 : decode prog_1_method_5_code 46 = .ok (.getfield 21, 3) := by decide +kernel
theorem dX_tray_49 : decode prog_1_method_5_code 49 = .ok (.iload_n 1, 1) := by decide +kernel
theorem dX_tray_50 : decode prog_1_method_5_code 50 = .ok (.iload_n 2, 1) := by decide +kernel
theorem dX_tray_51 : decode prog_1_method_5_code 51 = .ok (.iastore, 1) := by decide +kernel
theorem dX_tray_52 : decode prog_1_method_5_code 52 = .ok (.aload_n 0, 1) := by decide +kernel
theorem dX_tray_53 : decode prog_1_method_5_code 53 = .ok (.getfield 25, 3) := by decide +kernel
theorem dX_tray_56 : decode prog_1_method_5_code 56 = .ok (.iload_n 1, 1) := by decide +kernel
theorem dX_tray_57 : decode prog_1_method_5_code 57 = .ok (.iload_n 3, 1) := by decide +kernel
theorem dX_tray_58 : decode prog_1_method_5_code 58 = .ok (.iastore, 1) := by decide +kernel
theorem dX_tray_59 : decode prog_1_method_5_code 59 = .ok (.aload_n 0, 1) := by decide +kernel
theorem dX_tray_60 : decode prog_1_method_5_code 60 = .ok (.getfield 17, 3) := by decide +kernel
theorem dX_tray_63 : decode prog_1_method_5_code 63 = .ok (.iload_n 1, 1) := by decide +kernel
theorem dX_tray_64 : decode prog_1_method_5_code 64 = .ok (.bipush 60, 2) := by decide +kernel
theorem dX_tray_66 : decode prog_1_method_5_code 66 = .ok (.imul, 1) := by decide +kernel
theorem dX_tray_67 : decode prog_1_method_5_code 67 = .ok (.iload_n 1, 1) := by decide +kernel
theorem dX_tray_68 : decode prog_1_method_5_code 68 = .ok (.bipush 60, 2) := by decide +kernel
theorem dX_tray_70 : decode prog_1_method_5_code 70 = .ok (.imul, 1) := by decide +kernel
theorem dX_tray_71 : decode prog_1_method_5_code 71 = .ok (.iload_n 3, 1) := by decide +kernel
theorem dX_tray_72 : decode prog_1_method_5_code 72 = .ok (.iadd, 1) := by decide +kernel
theorem dX_tray_73 : decode prog_1_method_5_code 73 = .ok (.lconst 0, 1) := by decide +kernel
theorem dX_tray_74 : decode prog_1_method_5_code 74 = .ok (.invokestatic 118, 3) := by decide +kernel
theorem dX_tray_77 : decode prog_1_method_5_code 77 = .ok (.aload_n 0, 1) := by decide +kernel
theorem dX_tray_78 : decode prog_1_method_5_code 78 = .ok (.invokevirtual 121, 3) := by decide +kernel
theorem dX_tray_81 : decode prog_1_method_5_code 81 = .ok (.ireturn, 1) := by decide +kernel
theorem t_X_tray {d : Nat} {x1 x2 x3 : Int} {σ : SG} {Q : Int → SG → Prop} (h : inI x1 → inI x2 → inI x3 → (Tri d M_X_isTray [vI x1] σ (fun r1 σ1 => (r1 = 0 → Tri d M_X_refuse [vA 0, vI 1] σ1 (fun r3 σ3 => (r3 = 0 ∨ r3 = 1) ∧ Q r3 σ3)) ∧ (r1 ≠ 0 → (x2 < 0 → Tri d M_X_refuse [vA 0, vI 1] σ1 (fun r5 σ5 => (r5 = 0 ∨ r5 = 1) ∧ Q r5 σ5)) ∧ (0 ≤ x2 → (x2 ≤ 3 → (x3 ≤ 60 → (0 ≤ x3 → (0 ≤ x1 ∧ x1 < 4) ∧ (∀ σ9, σ9 = up σ1 2 x1 x2 → (0 ≤ x1 ∧ x1 < 4) ∧ (∀ σ10, σ10 = up σ9 3 x1 x3 → Tri d M_JA_fill [vA 1, vI (w32 (x1 * 60)), vI (w32 ((w32 (x1 * 60)) + x3)), vJ 0] σ10 (fun r11 σ11 => Tri d M_X_agree [vA 0] σ11 (fun r12 σ12 => (r12 = 0 ∨ r12 = 1) ∧ Q r12 σ12))))) ∧ (x3 < 0 → Tri d M_X_refuse [vA 0, vI 6] σ1 (fun r13 σ13 => (r13 = 0 ∨ r13 = 1) ∧ Q r13 σ13))) ∧ (60 < x3 → Tri d M_X_refuse [vA 0, vI 5] σ1 (fun r14 σ14 => (r14 = 0 ∨ r14 = 1) ∧ Q r14 σ14))) ∧ (3 < x2 → Tri d M_X_refuse [vA 0, vI 1] σ1 (fun r15 σ15 => (r15 = 0 ∨ r15 = 1) ∧ Q r15 σ15))))))) : Tri (d + 1) M_X_tray [vA 0, vI x1, vI x2, vI x3] σ Q :=
  Tri_intro rfl (Nat.le_of_ble_eq_true rfl) (ls := [vA 0, vI x1, vI x2, vI x3]) rfl (fun hok => L_iload_n dX_tray_0 rfl (L_callSI rfl cs_X_isTray (As := [vI x1]) rfl (tk3 2 rfl rfl) rfl (Nat.le_of_ble_eq_true rfl) dX_tray_1 (Tri.mono ((h (hok _ (List.mem_of_getElem? (i := 1) rfl)) (hok _ (List.mem_of_getElem? (i := 2) rfl)) (hok _ (List.mem_of_getElem? (i := 3) rfl)))) (fun r1 σ1 q1 => L_if_eq dX_tray_4 (by decide) ⟨fun c2 => L_aload_n dX_tray_16 rfl (L_iconst dX_tray_17 in_1 (L_callVI rfl cv_X_refuse (As := [vI 1]) rfl (tk3 5 rfl rfl) rfl (Nat.le_of_ble_eq_true rfl) dX_tray_18 ⟨ob_0, Tri.mono (q1.1 c2) (fun r3 σ3 q3 => L_zreturn rfl dX_tray_21 q3)⟩)), fun c2 => L_iload_n dX_tray_7 rfl (L_if_lt dX_tray_8 (by decide) ⟨fun c4 => L_aload_n dX_tray_16 rfl (L_iconst dX_tray_17 in_1 (L_callVI rfl cv_X_refuse (As := [vI 1]) rfl (tk3 5 rfl rfl) rfl (Nat.le_of_ble_eq_true rfl) dX_tray_18 ⟨ob_0, Tri.mono ((q1.2 c2).1 c4) (fun r5 σ5 q5 => L_zreturn rfl dX_tray_21 q5)⟩)), fun c4 => L_iload_n dX_tray_11 rfl (L_iconst dX_tray_12 in_3 (L_icmp_le dX_tray_13 (by decide) ⟨fun c6 => L_iload_n dX_tray_22 rfl (L_bipush dX_tray_23 bp_60 in_60 (L_icmp_le dX_tray_25 (by decide) ⟨fun c7 => L_iload_n dX_tray_34 rfl (L_if_ge dX_tray_35 (by decide) ⟨fun c8 => L_aload_n dX_tray_45 rfl (L_getF (b := 2) fw_X_21 rfl rfl (by decide) dX_tray_46 ⟨ob_0, L_iload_n dX_tray_49 rfl (L_iload_n dX_tray_50 rfl (L_iastoreL (by decide) kd_2 dX_tray_51 ⟨(((((q1.2 c2).2 c4).1 c6).1 c7).1 c8).1, fun σ9 e9 => L_aload_n dX_tray_52 rfl (L_getF (b := 3) fw_X_25 rfl rfl (by decide) dX_tray_53 ⟨ob_0, L_iload_n dX_tray_56 rfl (L_iload_n dX_tray_57 rfl (L_iastoreL (by decide) kd_3 dX_tray_58 ⟨((((((q1.2 c2).2 c4).1 c6).1 c7).1 c8).2 σ9 e9).1, fun σ10 e10 => L_aload_n dX_tray_59 rfl (L_getF (b := 1) fw_X_17 rfl rfl (by decide) dX_tray_60 ⟨ob_0, L_iload_n dX_tray_63 rfl (L_bipush dX_tray_64 bp_60 in_60 (L_imul dX_tray_66 (L_iload_n dX_tray_67 rfl (L_bipush dX_tray_68 bp_60 in_60 (L_imul dX_tray_70 (L_iload_n dX_tray_71 rfl (L_iadd dX_tray_72 (L_lconst (x := 0) dX_tray_73 rfl inJ_0 (L_callSV rfl cs_JA_fill (As := [vA 1, vI (w32 (x1 * 60)), vI (w32 ((w32 (x1 * 60)) + x3)), vJ 0]) rfl (tk3 9 rfl rfl) rfl (Nat.le_of_ble_eq_true rfl) dX_tray_74 (Tri.mono (((((((q1.2 c2).2 c4).1 c6).1 c7).1 c8).2 σ9 e9).2 σ10 e10) (fun r11 σ11 q11 => L_aload_n dX_tray_77 rfl (L_callVI rfl cv_X_agree (As := []) rfl (tk3 15 rfl rfl) rfl (Nat.le_of_ble_eq_true rfl) dX_tray_78 ⟨ob_0, Tri.mono q11 (fun r12 σ12 q12 => L_zreturn rfl dX_tray_81 q12)⟩))))))))))))⟩)⟩))⟩)⟩))⟩), fun c8 => L_aload_n dX_tray_38 rfl (L_bipush dX_tray_39 bp_6 in_6 (L_callVI rfl cv_X_refuse (As := [vI 6]) rfl (tk3 5 rfl rfl) rfl (Nat.le_of_ble_eq_true rfl) dX_tray_41 ⟨ob_0, Tri.mono (((((q1.2 c2).2 c4).1 c6).1 c7).2 c8) (fun r13 σ13 q13 => L_zreturn rfl dX_tray_44 q13)⟩))⟩), fun c7 => L_aload_n dX_tray_28 rfl (L_iconst dX_tray_29 in_5 (L_callVI rfl cv_X_refuse (As := [vI 5]) rfl (tk3 5 rfl rfl) rfl (Nat.le_of_ble_eq_true rfl) dX_tray_30 ⟨ob_0, Tri.mono ((((q1.2 c2).2 c4).1 c6).2 c7) (fun r14 σ14 q14 => L_zreturn rfl dX_tray_33 q14)⟩))⟩)), fun c6 => L_aload_n dX_tray_16 rfl (L_iconst dX_tray_17 in_1 (L_callVI rfl cv_X_refuse (As := [vI 1]) rfl (tk3 5 rfl rfl) rfl (Nat.le_of_ble_eq_true rfl) dX_tray_18 ⟨ob_0, Tri.mono (((q1.2 c2).2 c4).2 c6) (fun r15 σ15 q15 => L_zreturn rfl dX_tray_21 q15)⟩))⟩))⟩)⟩))))
theorem dX_write_0 : decode prog_1_method_6_code 0 = .ok (.aload_n 0, 1) := by decide +kernel
theorem dX_write_1 : decode prog_1_method_6_code 1 = .ok (.iload_n 1, 1) := by decide +kernel
theorem dX_write_2 : decode prog_1_method_6_code 2 = .ok (.iload_n 2, 1) := by decide +kernel
theorem dX_write_3 : decode prog_1_method_6_code 3 = .ok (.invokevirtual 125, 3) := by decide +kernel
theorem dX_write_6 : decode prog_1_method_6_code 6 = .ok (.istore 5, 2) := by decide +kernel
theorem dX_write_8 : decode prog_1_method_6_code 8 = .ok (.iload 5, 2) := by decide +kernel
theorem dX_write_10 : decode prog_1_method_6_code 10 = .ok (.ifCond .eq 10, 3) := by decide +kernel
theorem dX_write_13 : decode prog_1_method_6_code 13 = .ok (.aload_n 0, 1) := by decide +kernel
theorem dX_write_14 : decode prog_1_method_6_code 14 = .ok (.iload 5, 2) := by decide +kernel
theorem dX_write_16 : decode prog_1_method_6_code 16 = .ok (.invokevirtual 115, 3) := by decide +kernel
theorem dX_write_19 : decode prog_1_method_6_code 19 = .ok (.ireturn, 1) := by decide +kernel
theorem dX_write_20 : decode prog_1_method_6_code 20 = .ok (.aload_n 0, 1) := by decide +kernel
theorem dX_write_21 : decode prog_1_method_6_code 21 = .ok (.getfield 17, 3) := by decide +kernel
theorem dX_write_24 : decode prog_1_method_6_code 24 = .ok (.iload_n 1, 1) := by decide +kernel
theorem dX_write_25 : decode prog_1_method_6_code 25 = .ok (.bipush 60, 2) := by decide +kernel
theorem dX_write_27 : decode prog_1_method_6_code 27 = .ok (.imul, 1) := by decide +kernel
theorem dX_write_28 : decode prog_1_method_6_code 28 = .ok (.iload_n 2, 1) := by decide +kernel
theorem dX_write_29 : decode prog_1_method_6_code 29 = .ok (.iadd, 1) := by decide +kernel
theorem dX_write_30 : decode prog_1_method_6_code 30 = .ok (.aload_n 0, 1) := by decide +kernel
theorem dX_write_31 : decode prog_1_method_6_code 31 = .ok (.getfield 21, 3) := by decide +kernel
theorem dX_write_34 : decode prog_1_method_6_code 34 = .ok (.iload_n 1, 1) := by decide +kernel
theorem dX_write_35 : decode prog_1_method_6_code 35 = .ok (.iaload, 1) := by decide +kernel
theorem dX_write_36 : decode prog_1_method_6_code 36 = .ok (.lload_n 3, 1) := by decide +kernel
theorem dX_write_37 : decode prog_1_method_6_code 37 = .ok (.invokestatic 129, 3) := by decide +kernel
theorem dX_write_40 : decode prog_1_method_6_code 40 = .ok (.lastore, 1) := by decide +kernel
theorem dX_write_41 : decode prog_1_method_6_code 41 = .ok (.aload_n 0, 1) := by decide +kernel
theorem dX_write_42 : decode prog_1_method_6_code 42 = .ok (.invokevirtual 121, 3) := by decide +kernel
theorem dX_write_45 : decode prog_1_method_6_code 45 = .ok (.ireturn, 1) := by decide +kernel
theorem t_X_write {d : Nat} {x1 x2 x3 : Int} {σ : SG} {Q : Int → SG → Prop} (h : inI x1 → inI x2 → inJ x3 → (Tri d M_X_placeTrouble [vA 0, vI x1, vI x2] σ (fun r1 σ1 => (r1 = 0 → (0 ≤ x1 ∧ x1 < 4) ∧ Tri d M_X_cut [vI (σ1 2 x1), vJ x3] σ1 (fun r3 σ3 => (0 ≤ w32 ((w32 (x1 * 60)) + x2) ∧ w32 ((w32 (x1 * 60)) + x2) < 240) ∧ (∀ σ4, σ4 = up σ3 1 (w32 ((w32 (x1 * 60)) + x2)) r3 → Tri d M_X_agree [vA 0] σ4 (fun r5 σ5 => (r5 = 0 ∨ r5 = 1) ∧ Q r5 σ5)))) ∧ (r1 ≠ 0 → Tri d M_X_refuse [vA 0, vI r1] σ1 (fun r6 σ6 => (r6 = 0 ∨ r6 = 1) ∧ Q r6 σ6))))) : Tri (d + 1) M_X_write [vA 0, vI x1, vI x2, vJ x3] σ Q :=
  Tri_intro rfl (Nat.le_of_ble_eq_true rfl) (ls := [vA 0, vI x1, vI x2, vJ x3, vU, vU]) rfl (fun hok => L_aload_n dX_write_0 rfl (L_iload_n dX_write_1 rfl (L_iload_n dX_write_2 rfl (L_callVI rfl cv_X_placeTrouble (As := [vI x1, vI x2]) rfl (tk3 23 rfl rfl) rfl (Nat.le_of_ble_eq_true rfl) dX_write_3 ⟨ob_0, Tri.mono ((h (hok _ (List.mem_of_getElem? (i := 1) rfl)) (hok _ (List.mem_of_getElem? (i := 2) rfl)) (hok _ (List.mem_of_getElem? (i := 3) rfl)))) (fun r1 σ1 q1 => L_istore dX_write_6 (by decide) (L_iload dX_write_8 rfl (L_if_eq dX_write_10 (by decide) ⟨fun c2 => L_aload_n dX_write_20 rfl (L_getF (b := 1) fw_X_17 rfl rfl (by decide) dX_write_21 ⟨ob_0, L_iload_n dX_write_24 rfl (L_bipush dX_write_25 bp_60 in_60 (L_imul dX_write_27 (L_iload_n dX_write_28 rfl (L_iadd dX_write_29 (L_aload_n dX_write_30 rfl (L_getF (b := 2) fw_X_21 rfl rfl (by decide) dX_write_31 ⟨ob_0, L_iload_n dX_write_34 rfl (L_ialoadL kd_2 dX_write_35 ⟨(q1.1 c2).1, L_lload_n dX_write_36 rfl (L_callSJ rfl cs_X_cut (As := [vI (σ1 2 x1), vJ x3]) rfl (tk3 31 rfl rfl) rfl (Nat.le_of_ble_eq_true rfl) dX_write_37 (Tri.mono ((q1.1 c2).2) (fun r3 σ3 q3 => L_lastoreL (by decide) kd_1 dX_write_40 ⟨q3.1, fun σ4 e4 => L_aload_n dX_write_41 rfl (L_callVI rfl cv_X_agree (As := []) rfl (tk3 15 rfl rfl) rfl (Nat.le_of_ble_eq_true rfl) dX_write_42 ⟨ob_0, Tri.mono (q3.2 σ4 e4) (fun r5 σ5 q5 => L_zreturn rfl dX_write_45 q5)⟩)⟩)))⟩)⟩))))))⟩), fun c2 => L_aload_n dX_write_13 rfl (L_iload dX_write_14 rfl (L_callVI rfl cv_X_refuse (As := [vI r1]) rfl (tk3 5 rfl rfl) rfl (Nat.le_of_ble_eq_true rfl) dX_write_16 ⟨ob_0, Tri.mono (q1.2 c2) (fun r6 σ6 q6 => L_zreturn rfl dX_write_19 q6)⟩))⟩)))⟩))))
theorem dX_read_0 : decode prog_1_method_7_code 0 = .ok (.aload_n 0, 1) := by decide +kernel
theorem dX_read_1 : decode prog_1_method_7_code 1 = .ok (.iload_n 1, 1) := by decide +kernel
theorem dX_read_2 : decode prog_1_method_7_code 2 = .ok (.iload_n 2, 1) := by decide +kernel
theorem dX_read_3 : decode prog_1_method_7_code 3 = .ok (.invokevirtual 125, 3) := by decide +kernel
theorem dX_read_6 : decode prog_1_method_7_code 6 = .ok (.istore_n 3, 1) := by decide +kernel
theorem dX_read_7 : decode prog_1_method_7_code 7 = .ok (.iload_n 3, 1) := by decide +kernel
theorem dX_read_8 : decode prog_1_method_7_code 8 = .ok (.ifCond .eq 10, 3) := by decide +kernel
theorem dX_read_11 : decode prog_1_method_7_code 11 = .ok (.aload_n 0, 1) := by decide +kernel
theorem dX_read_12 : decode prog_1_method_7_code 12 = .ok (.iload_n 3, 1) := by decide +kernel
theorem dX_read_13 : decode prog_1_method_7_code 13 = .ok (.invokevirtual 133, 3) := by decide +kernel
theorem dX_read_16 : decode prog_1_method_7_code 16 = .ok (.i2l, 1) := by decide +kernel
theorem dX_read_17 : decode prog_1_method_7_code 17 = .ok (.lreturn, 1) := by decide +kernel
theorem dX_read_18 : decode prog_1_method_7_code 18 = .ok (.aload_n 0, 1) := by decide +kernel
theorem dX_read_19 : decode prog_1_method_7_code 19 = .ok (.iconst 0, 1) := by decide +kernel
theorem dX_read_20 : decode prog_1_method_7_code 20 = .ok (.putfield 105, 3) := by decide +kernel
theorem dX_read_23 : decode prog_1_method_7_code 23 = .ok (.aload_n 0, 1) := by decide +kernel
theorem dX_read_24 : decode prog_1_method_7_code 24 = .ok (.getfield 17, 3) := by decide +kernel
theorem dX_read_27 : decode prog_1_method_7_code 27 = .ok (.iload_n 1, 1) := by decide +kernel
theorem dX_read_28 : decode prog_1_method_7_code 28 = .ok (.bipush 60, 2) := by decide +kernel
theorem dX_read_30 : decode prog_1_method_7_code 30 = .ok (.imul, 1) := by decide +kernel
theorem dX_read_31 : decode prog_1_method_7_code 31 = .ok (.iload_n 2, 1) := by decide +kernel
theorem dX_read_32 : decode prog_1_method_7_code 32 = .ok (.iadd, 1) := by decide +kernel
theorem dX_read_33 : decode prog_1_method_7_code 33 = .ok (.laload, 1) := by decide +kernel
theorem dX_read_34 : decode prog_1_method_7_code 34 = .ok (.lreturn, 1) := by decide +kernel
theorem t_X_read {d : Nat} {x1 x2 : Int} {σ : SG} {Q : Int → SG → Prop} (h : inI x1 → inI x2 → (Tri d M_X_placeTrouble [vA 0, vI x1, vI x2] σ (fun r1 σ1 => (r1 = 0 → (∀ σ3, σ3 = up σ1 0 0 0 → (0 ≤ w32 ((w32 (x1 * 60)) + x2) ∧ w32 ((w32 (x1 * 60)) + x2) < 240) ∧ Q (σ3 1 (w32 ((w32 (x1 * 60)) + x2))) σ3)) ∧ (r1 ≠ 0 → Tri d M_X_fail [vA 0, vI r1] σ1 (fun r4 σ4 => Q r4 σ4))))) : Tri (d + 1) M_X_read [vA 0, vI x1, vI x2] σ Q :=
  Tri_intro rfl (Nat.le_of_ble_eq_true rfl) (ls := [vA 0, vI x1, vI x2, vU]) rfl (fun hok => L_aload_n dX_read_0 rfl (L_iload_n dX_read_1 rfl (L_iload_n dX_read_2 rfl (L_callVI rfl cv_X_placeTrouble (As := [vI x1, vI x2]) rfl (tk3 23 rfl rfl) rfl (Nat.le_of_ble_eq_true rfl) dX_read_3 ⟨ob_0, Tri.mono ((h (hok _ (List.mem_of_getElem? (i := 1) rfl)) (hok _ (List.mem_of_getElem? (i := 2) rfl)))) (fun r1 σ1 q1 => L_istore_n dX_read_6 (by decide) (L_iload_n dX_read_7 rfl (L_if_eq dX_read_8 (by decide) ⟨fun c2 => L_aload_n dX_read_18 rfl (L_iconst dX_read_19 in_0 (L_putfN fp_X_105 rfl rfl (fun _ => ⟨rfl, rfl⟩) dX_read_20 ⟨ob_0, fun σ3 e3 => L_aload_n dX_read_23 rfl (L_getF (b := 1) fw_X_17 rfl rfl (by decide) dX_read_24 ⟨ob_0, L_iload_n dX_read_27 rfl (L_bipush dX_read_28 bp_60 in_60 (L_imul dX_read_30 (L_iload_n dX_read_31 rfl (L_iadd dX_read_32 (L_laloadL kd_1 dX_read_33 ⟨((q1.1 c2) σ3 e3).1, L_lreturn rfl dX_read_34 (((q1.1 c2) σ3 e3).2)⟩)))))⟩)⟩)), fun c2 => L_aload_n dX_read_11 rfl (L_iload_n dX_read_12 rfl (L_callVI rfl cv_X_fail (As := [vI r1]) rfl (tk3 38 rfl rfl) rfl (Nat.le_of_ble_eq_true rfl) dX_read_13 ⟨ob_0, Tri.mono (q1.2 c2) (fun r4 σ4 q4 => L_i2l dX_read_16 (L_lreturn rfl dX_read_17 q4))⟩))⟩)))⟩))))
theorem dX_pour_0 : decode prog_1_method_8_code 0 = .ok (.iload_n 1, 1) := by decide +kernel
theorem dX_pour_1 : decode prog_1_method_8_code 1 = .ok (.invokestatic 111, 3) := by decide +kernel
theorem dX_pour_4 : decode prog_1_method_8_code 4 = .ok (.ifCond .eq 10, 3) := by decide +kernel
theorem dX_pour_7 : decode prog_1_method_8_code 7 = .ok (.iload_n 3, 1) := by decide +kernel
theorem dX_pour_8 : decode prog_1_method_8_code 8 = .ok (.invokestatic 111, 3) := by decide +kernel
theorem dX_pour_11 : decode prog_1_method_8_code 11 = .ok (.ifCond .ne 9, 3) := by decide +kernel
theorem dX_pour_14 : decode prog_1_method_8_code 14 = .ok (.aload_n 0, 1) := by decide +kernel
theorem dX_pour_15 : decode prog_1_method_8_code 15 = .ok (.iconst 1, 1) := by decide +kernel
theorem dX_pour_16 : decode prog_1_method_8_code 16 = .ok (.invokevirtual 115, 3) := by decide +kernel
theorem dX_pour_19 : decode prog_1_method_8_code 19 = .ok (.ireturn, 1) := by decide +kernel
theorem dX_pour_20 : decode prog_1_method_8_code 20 = .ok (.aload_n 0, 1) := by decide +kernel
theorem dX_pour_21 : decode prog_1_method_8_code 21 = .ok (.getfield 25, 3) := by decide +kernel
theorem dX_pour_24 : decode prog_1_method_8_code 24 = .ok (.iload_n 1, 1) := by decide +kernel
theorem dX_pour_25 : decode prog_1_method_8_code 25 = .ok (.iaload, 1) := by decide +kernel
theorem dX_pour_26 : decode prog_1_method_8_code 26 = .ok (.ifCond .lt 12, 3) := by decide +kernel
theorem dX_pour_29 : decode prog_1_method_8_code 29 = .ok (.aload_n 0, 1) := by decide +kernel
theorem dX_pour_30 : decode prog_1_method_8_code 30 = .ok (.getfield 25, 3) := by decide +kernel
theorem dX_pour_33 : decode prog_1_method_8_code 33 = .ok (.iload_n 3, 1) := by decide +kernel
theorem dX_pour_34 : decode prog_1_method_8_code 34 = .ok (.iaload, 1) := by decide +kernel
theorem dX_pour_35 : decode prog_1_method_8_code 35 = .ok (.ifCond .ge 9, 3) := by decide +kernel
theorem dX_pour_38 : decode prog_1_method_8_code 38 = .ok (.aload_n 0, 1) := by decide +kernel
theorem dX_pour_39 : decode prog_1_method_8_code 39 = .ok (.iconst 3, 1) := by decide +kernel
theorem dX_pour_40 : decode prog_1_method_8_code 40 = .ok (.invokevirtual 115, 3) := by decide +kernel
theorem dX_pour_43 : decode prog_1_method_8_code 43 = .ok (.ireturn, 1) := by decide +kernel
theorem dX_pour_44 : decode prog_1_method_8_code 44 = .ok (.aload_n 0, 1) := by decide +kernel
theorem dX_pour_45 : decode prog_1_method_8_code 45 = .ok (.getfield 21, 3) := by decide +kernel
theorem dX_pour_48 : decode prog_1_method_8_code 48 = .ok (.iload_n 1, 1) := by decide +kernel
theorem dX_pour_49 : decode prog_1_method_8_code 49 = .ok (.iaload, 1) := by decide +kernel
theorem dX_pour_50 : decode prog_1_method_8_code 50 = .ok (.aload_n 0, 1) := by decide +kernel
theorem dX_pour_51 : decode prog_1_method_8_code 51 = .ok (.getfield 21, 3) := by decide +kernel
theorem dX_pour_54 : decode prog_1_method_8_code 54 = .ok (.iload_n 3, 1) := by decide +kernel
theorem dX_pour_55 : decode prog_1_method_8_code 55 = .ok (.iaload, 1) := by decide +kernel
theorem dX_pour_56 : decode prog_1_method_8_code 56 = .ok (.if_icmp .eq 10, 3) := by decide +kernel
theorem dX_pour_59 : decode prog_1_method_8_code 59 = .ok (.aload_n 0, 1) := by decide +kernel
theorem dX_pour_60 : decode prog_1_method_8_code 60 = .ok (.bipush 11, 2) := by decide +kernel
theorem dX_pour_62 : decode prog_1_method_8_code 62 = .ok (.invokevirtual 115, 3) := by decide +kernel
theorem dX_pour_65 : decode prog_1_method_8_code 65 = .ok (.ireturn, 1) := by decide +kernel
theorem dX_pour_66 : decode prog_1_method_8_code 66 = .ok (.iload 5, 2) := by decide +kernel
theorem dX_pour_68 : decode prog_1_method_8_code 68 = .ok (.ifCond .ge 10, 3) := by decide +kernel
theorem dX_pour_71 : decode prog_1_method_8_code 71 = .ok (.aload_n 0, 1) := by decide +kernel
theorem dX_pour_72 : decode prog_1_method_8_code 72 = .ok (.bipush 6, 2) := by decide +kernel
theorem dX_pour_74 : decode prog_1_method_8_code 74 = .ok (.invokevirtual 115, 3) := by decide +kernel
theorem dX_pour_77 : decode prog_1_method_8_code 77 = .ok (.ireturn, 1) := by decide +kernel
theorem dX_pour_78 : decode prog_1_method_8_code 78 = .ok (.aload_n 0, 1) := by decide +kernel
theorem dX_pour_79 : decode prog_1_method_8_code 79 = .ok (.iload_n 1, 1) := by decide +kernel
theorem dX_pour_80 : decode prog_1_method_8_code 80 = .ok (.iload_n 2, 1) := by decide +kernel
theorem dX_pour_81 : decode prog_1_method_8_code 81 = .ok (.iload 5, 2) := by decide +kernel
theorem dX_pour_83 : decode prog_1_method_8_code 83 = .ok (.invokevirtual 137, 3) := by decide +kernel
theorem dX_pour_86 : decode prog_1_method_8_code 86 = .ok (.ifCond .eq 15, 3) := by decide +kernel
theorem dX_pour_89 : decode prog_1_method_8_code 89 = .ok (.aload_n 0, 1) := by decide +kernel
theorem dX_pour_90 : decode prog_1_method_8_code 90 = .ok (.iload_n 3, 1) := by decide +kernel
theorem dX_pour_91 : decode prog_1_method_8_code 91 = .ok (.iload 4, 2) := by decide +kernel
theorem dX_pour_93 : decode prog_1_method_8_code 93 = .ok (.iload 5, 2) := by decide +kernel
theorem dX_pour_95 : decode prog_1_method_8_code 95 = .ok (.invokevirtual 137, 3) := by decide +kernel
theorem dX_pour_98 : decode prog_1_method_8_code 98 = .ok (.ifCond .ne 9, 3) := by decide +kernel
theorem dX_pour_101 : decode prog_1_method_8_code 101 = .ok (.aload_n 0, 1) := by decide +kernel
theorem dX_pour_102 : decode prog_1_method_8_code 102 = .ok (.iconst 4, 1) := by decide +kernel
theorem dX_pour_103 : decode prog_1_method_8_code 103 = .ok (.invokevirtual 115, 3) := by decide +kernel
theorem dX_pour_106 : decode prog_1_method_8_code 106 = .ok (.ireturn, 1) := by decide +kernel
theorem dX_pour_107 : decode prog_1_method_8_code 107 = .ok (.aload_n 0, 1) := by decide +kernel
theorem dX_pour_108 : decode prog_1_method_8_code 108 = .ok (.getfield 17, 3) := by decide +kernel
theorem dX_pour_111 : decode prog_1_method_8_code 111 = .ok (.iload_n 1, 1) := by decide +kernel
theorem dX_pour_112 : decode prog_1_method_8_code 112 = .ok (.bipush 60, 2) := by decide +kernel
theorem dX_pour_114 : decode prog_1_method_8_code 114 = .ok (.imul, 1) := by decide +kernel
theorem dX_pour_115 : decode prog_1_method_8_code 115 = .ok (.iload_n 2, 1) := by decide +kernel
theorem dX_pour_116 : decode prog_1_method_8_code 116 = .ok (.iadd, 1) := by decide +kernel
theorem dX_pour_117 : decode prog_1_method_8_code 117 = .ok (.aload_n 0, 1) := by decide +kernel
theorem dX_pour_118 : decode prog_1_method_8_code 118 = .ok (.getfield 17, 3) := by decide +kernel
theorem dX_pour_121 : decode prog_1_method_8_code 121 = .ok (.iload_n 3, 1) := by decide +kernel
theorem dX_pour_122 : decode prog_1_method_8_code 122 = .ok (.bipush 60, 2) := by decide +kernel
theorem dX_pour_124 : decode prog_1_method_8_code 124 = .ok (.imul, 1) := by decide +kernel
theorem dX_pour_125 : decode prog_1_method_8_code 125 = .ok (.iload 4, 2) := by decide +kernel
theorem dX_pour_127 : decode prog_1_method_8_code 127 = .ok (.iadd, 1) := by decide +kernel
theorem dX_pour_128 : decode prog_1_method_8_code 128 = .ok (.iload 5, 2) := by decide +kernel
theorem dX_pour_130 : decode prog_1_method_8_code 130 = .ok (.invokestatic 141, 3) := by decide +kernel
theorem dX_pour_133 : decode prog_1_method_8_code 133 = .ok (.aload_n 0, 1) := by decide +kernel
theorem dX_pour_134 : decode prog_1_method_8_code 134 = .ok (.invokevirtual 121, 3) := by decide +kernel
theorem dX_pour_137 : decode prog_1_method_8_code 137 = .ok (.ireturn, 1) := by decide +kernel
theorem t_X_pour {d : Nat} {x1 x2 x3 x4 x5 : Int} {σ : SG} {Q : Int → SG → Prop} (h : inI x1 → inI x2 → inI x3 → inI x4 → inI x5 → (Tri d M_X_isTray [vI x1] σ (fun r1 σ1 => (r1 = 0 → Tri d M_X_refuse [vA 0, vI 1] σ1 (fun r3 σ3 => (r3 = 0 ∨ r3 = 1) ∧ Q r3 σ3)) ∧ (r1 ≠ 0 → Tri d M_X_isTray [vI x3] σ1 (fun r4 σ4 => (r4 ≠ 0 → (0 ≤ x1 ∧ x1 < 4) ∧ (σ4 3 x1 < 0 → Tri d M_X_refuse [vA 0, vI 3] σ4 (fun r7 σ7 => (r7 = 0 ∨ r7 = 1) ∧ Q r7 σ7)) ∧ (0 ≤ σ4 3 x1 → (0 ≤ x3 ∧ x3 < 4) ∧ (0 ≤ σ4 3 x3 → (0 ≤ x1 ∧ x1 < 4) ∧ (0 ≤ x3 ∧ x3 < 4) ∧ (σ4 2 x1 = σ4 2 x3 → (0 ≤ x5 → Tri d M_X_reaches [vA 0, vI x1, vI x2, vI x5] σ4 (fun r11 σ11 => (r11 = 0 → Tri d M_X_refuse [vA 0, vI 4] σ11 (fun r13 σ13 => (r13 = 0 ∨ r13 = 1) ∧ Q r13 σ13)) ∧ (r11 ≠ 0 → Tri d M_X_reaches [vA 0, vI x3, vI x4, vI x5] σ11 (fun r14 σ14 => (r14 ≠ 0 → ((0 : Int) ≤ 1 ∧ (0 : Int) ≤ 1 ∧ (kd 1).1 = 101 ∧ (kd 1).1 = 101 ∧ (0 : Int) ≤ w32 ((w32 (x1 * 60)) + x2) ∧ (0 : Int) ≤ w32 ((w32 (x3 * 60)) + x4) ∧ (0 : Int) ≤ x5 ∧ (w32 ((w32 (x1 * 60)) + x2)) + x5 ≤ ((kd 1).2 : Int) ∧ (w32 ((w32 (x3 * 60)) + x4)) + x5 ≤ ((kd 1).2 : Int)) ∧ (∀ σ16, σ16 = cpy σ14 1 (w32 ((w32 (x1 * 60)) + x2)) 1 (w32 ((w32 (x3 * 60)) + x4)) x5 → Tri d M_X_agree [vA 0] σ16 (fun r17 σ17 => (r17 = 0 ∨ r17 = 1) ∧ Q r17 σ17))) ∧ (r14 = 0 → Tri d M_X_refuse [vA 0, vI 4] σ14 (fun r18 σ18 => (r18 = 0 ∨ r18 = 1) ∧ Q r18 σ18)))))) ∧ (x5 < 0 → Tri d M_X_refuse [vA 0, vI 6] σ4 (fun r19 σ19 => (r19 = 0 ∨ r19 = 1) ∧ Q r19 σ19))) ∧ (σ4 2 x1 ≠ σ4 2 x3 → Tri d M_X_refuse [vA 0, vI 11] σ4 (fun r20 σ20 => (r20 = 0 ∨ r20 = 1) ∧ Q r20 σ20))) ∧ (σ4 3 x3 < 0 → Tri d M_X_refuse [vA 0, vI 3] σ4 (fun r21 σ21 => (r21 = 0 ∨ r21 = 1) ∧ Q r21 σ21)))) ∧ (r4 = 0 → Tri d M_X_refuse [vA 0, vI 1] σ4 (fun r22 σ22 => (r22 = 0 ∨ r22 = 1) ∧ Q r22 σ22))))))) : Tri (d + 1) M_X_pour [vA 0, vI x1, vI x2, vI x3, vI x4, vI x5] σ Q :=
  Tri_intro rfl (Nat.le_of_ble_eq_true rfl) (ls := [vA 0, vI x1, vI x2, vI x3, vI x4, vI x5]) rfl (fun hok => L_iload_n dX_pour_0 rfl (L_callSI rfl cs_X_isTray (As := [vI x1]) rfl (tk3 2 rfl rfl) rfl (Nat.le_of_ble_eq_true rfl) dX_pour_1 (Tri.mono ((h (hok _ (List.mem_of_getElem? (i := 1) rfl)) (hok _ (List.mem_of_getElem? (i := 2) rfl)) (hok _ (List.mem_of_getElem? (i := 3) rfl)) (hok _ (List.mem_of_getElem? (i := 4) rfl)) (hok _ (List.mem_of_getElem? (i := 5) rfl)))) (fun r1 σ1 q1 => L_if_eq dX_pour_4 (by decide) ⟨fun c2 => L_aload_n dX_pour_14 rfl (L_iconst dX_pour_15 in_1 (L_callVI rfl cv_X_refuse (As := [vI 1]) rfl (tk3 5 rfl rfl) rfl (Nat.le_of_ble_eq_true rfl) dX_pour_16 ⟨ob_0, Tri.mono (q1.1 c2) (fun r3 σ3 q3 => L_zreturn rfl dX_pour_19 q3)⟩)), fun c2 => L_iload_n dX_pour_7 rfl (L_callSI rfl cs_X_isTray (As := [vI x3]) rfl (tk3 2 rfl rfl) rfl (Nat.le_of_ble_eq_true rfl) dX_pour_8 (Tri.mono (q1.2 c2) (fun r4 σ4 q4 => L_if_ne dX_pour_11 (by decide) ⟨fun c5 => L_aload_n dX_pour_20 rfl (L_getF (b := 3) fw_X_25 rfl rfl (by decide) dX_pour_21 ⟨ob_0, L_iload_n dX_pour_24 rfl (L_ialoadL kd_3 dX_pour_25 ⟨(q4.1 c5).1, L_if_lt dX_pour_26 (by decide) ⟨fun c6 => L_aload_n dX_pour_38 rfl (L_iconst dX_pour_39 in_3 (L_callVI rfl cv_X_refuse (As := [vI 3]) rfl (tk3 5 rfl rfl) rfl (Nat.le_of_ble_eq_true rfl) dX_pour_40 ⟨ob_0, Tri.mono ((q4.1 c5).2.1 c6) (fun r7 σ7 q7 => L_zreturn rfl dX_pour_43 q7)⟩)), fun c6 => L_aload_n dX_pour_29 rfl (L_getF (b := 3) fw_X_25 rfl rfl (by decide) dX_pour_30 ⟨ob_0, L_iload_n dX_pour_33 rfl (L_ialoadL kd_3 dX_pour_34 ⟨((q4.1 c5).2.2 c6).1, L_if_ge dX_pour_35 (by decide) ⟨fun c8 => L_aload_n dX_pour_44 rfl (L_getF (b := 2) fw_X_21 rfl rfl (by decide) dX_pour_45 ⟨ob_0, L_iload_n dX_pour_48 rfl (L_ialoadL kd_2 dX_pour_49 ⟨(((q4.1 c5).2.2 c6).2.1 c8).1, L_aload_n dX_pour_50 rfl (L_getF (b := 2) fw_X_21 rfl rfl (by decide) dX_pour_51 ⟨ob_0, L_iload_n dX_pour_54 rfl (L_ialoadL kd_2 dX_pour_55 ⟨(((q4.1 c5).2.2 c6).2.1 c8).2.1, L_icmp_eq dX_pour_56 (by decide) ⟨fun c9 => L_iload dX_pour_66 rfl (L_if_ge dX_pour_68 (by decide) ⟨fun c10 => L_aload_n dX_pour_78 rfl (L_iload_n dX_pour_79 rfl (L_iload_n dX_pour_80 rfl (L_iload dX_pour_81 rfl (L_callVI rfl cv_X_reaches (As := [vI x1, vI x2, vI x5]) rfl (tk3 46 rfl rfl) rfl (Nat.le_of_ble_eq_true rfl) dX_pour_83 ⟨ob_0, Tri.mono (((((q4.1 c5).2.2 c6).2.1 c8).2.2.1 c9).1 c10) (fun r11 σ11 q11 => L_if_eq dX_pour_86 (by decide) ⟨fun c12 => L_aload_n dX_pour_101 rfl (L_iconst dX_pour_102 in_4 (L_callVI rfl cv_X_refuse (As := [vI 4]) rfl (tk3 5 rfl rfl) rfl (Nat.le_of_ble_eq_true rfl) dX_pour_103 ⟨ob_0, Tri.mono (q11.1 c12) (fun r13 σ13 q13 => L_zreturn rfl dX_pour_106 q13)⟩)), fun c12 => L_aload_n dX_pour_89 rfl (L_iload_n dX_pour_90 rfl (L_iload dX_pour_91 rfl (L_iload dX_pour_93 rfl (L_callVI rfl cv_X_reaches (As := [vI x3, vI x4, vI x5]) rfl (tk3 46 rfl rfl) rfl (Nat.le_of_ble_eq_true rfl) dX_pour_95 ⟨ob_0, Tri.mono (q11.2 c12) (fun r14 σ14 q14 => L_if_ne dX_pour_98 (by decide) ⟨fun c15 => L_aload_n dX_pour_107 rfl (L_getF (b := 1) fw_X_17 rfl rfl (by decide) dX_pour_108 ⟨ob_0, L_iload_n dX_pour_111 rfl (L_bipush dX_pour_112 bp_60 in_60 (L_imul dX_pour_114 (L_iload_n dX_pour_115 rfl (L_iadd dX_pour_116 (L_aload_n dX_pour_117 rfl (L_getF (b := 1) fw_X_17 rfl rfl (by decide) dX_pour_118 ⟨ob_0, L_iload_n dX_pour_121 rfl (L_bipush dX_pour_122 bp_60 in_60 (L_imul dX_pour_124 (L_iload dX_pour_125 rfl (L_iadd dX_pour_127 (L_iload dX_pour_128 rfl (L_copyJN (tk3 50 rfl rfl) (Nat.le_of_ble_eq_true rfl) dX_pour_130 ⟨(q14.1 c15).1, fun σ16 e16 => L_aload_n dX_pour_133 rfl (L_callVI rfl cv_X_agree (As := []) rfl (tk3 15 rfl rfl) rfl (Nat.le_of_ble_eq_true rfl) dX_pour_134 ⟨ob_0, Tri.mono ((q14.1 c15).2 σ16 e16) (fun r17 σ17 q17 => L_zreturn rfl dX_pour_137 q17)⟩)⟩))))))⟩))))))⟩), fun c15 => L_aload_n dX_pour_101 rfl (L_iconst dX_pour_102 in_4 (L_callVI rfl cv_X_refuse (As := [vI 4]) rfl (tk3 5 rfl rfl) rfl (Nat.le_of_ble_eq_true rfl) dX_pour_103 ⟨ob_0, Tri.mono (q14.2 c15) (fun r18 σ18 q18 => L_zreturn rfl dX_pour_106 q18)⟩))⟩)⟩))))⟩)⟩)))), fun c10 => L_aload_n dX_pour_71 rfl (L_bipush dX_pour_72 bp_6 in_6 (L_callVI rfl cv_X_refuse (As := [vI 6]) rfl (tk3 5 rfl rfl) rfl (Nat.le_of_ble_eq_true rfl) dX_pour_74 ⟨ob_0, Tri.mono (((((q4.1 c5).2.2 c6).2.1 c8).2.2.1 c9).2 c10) (fun r19 σ19 q19 => L_zreturn rfl dX_pour_77 q19)⟩))⟩), fun c9 => L_aload_n dX_pour_59 rfl (L_bipush dX_pour_60 bp_11 in_11 (L_callVI rfl cv_X_refuse (As := [vI 11]) rfl (tk3 5 rfl rfl) rfl (Nat.le_of_ble_eq_true rfl) dX_pour_62 ⟨ob_0, Tri.mono ((((q4.1 c5).2.2 c6).2.1 c8).2.2.2 c9) (fun r20 σ20 q20 => L_zreturn rfl dX_pour_65 q20)⟩))⟩⟩)⟩)⟩)⟩), fun c8 => L_aload_n dX_pour_38 rfl (L_iconst dX_pour_39 in_3 (L_callVI rfl cv_X_refuse (As := [vI 3]) rfl (tk3 5 rfl rfl) rfl (Nat.le_of_ble_eq_true rfl) dX_pour_40 ⟨ob_0, Tri.mono (((q4.1 c5).2.2 c6).2.2 c8) (fun r21 σ21 q21 => L_zreturn rfl dX_pour_43 q21)⟩))⟩⟩)⟩)⟩⟩)⟩), fun c5 => L_aload_n dX_pour_14 rfl (L_iconst dX_pour_15 in_1 (L_callVI rfl cv_X_refuse (As := [vI 1]) rfl (tk3 5 rfl rfl) rfl (Nat.le_of_ble_eq_true rfl) dX_pour_16 ⟨ob_0, Tri.mono (q4.2 c5) (fun r22 σ22 q22 => L_zreturn rfl dX_pour_19 q22)⟩))⟩)))⟩))))
theorem dX_feed_0 : decode prog_1_method_9_code 0 = .ok (.aload_n 0, 1) := by decide +kernel
theorem dX_feed_1 : decode prog_1_method_9_code 1 = .ok (.getfield 48, 3) := by decide +kernel
theorem dX_feed_4 : decode prog_1_method_9_code 4 = .ok (.getfield 147, 3) := by decide +kernel
theorem dX_feed_7 : decode prog_1_method_9_code 7 = .ok (.sipush 580, 3) := by decide +kernel
theorem dX_feed_10 : decode prog_1_method_9_code 10 = .ok (.if_icmp .le 5, 3) := by decide +kernel
theorem dX_feed_13 : decode prog_1_method_9_code 13 = .ok (.iconst (-1), 1) := by decide +kernel
theorem dX_feed_14 : decode prog_1_method_9_code 14 = .ok (.ireturn, 1) := by decide +kernel
theorem dX_feed_15 : decode prog_1_method_9_code 15 = .ok (.aload_n 0, 1) := by decide +kernel
theorem dX_feed_16 : decode prog_1_method_9_code 16 = .ok (.getfield 48, 3) := by decide +kernel
theorem dX_feed_19 : decode prog_1_method_9_code 19 = .ok (.iload_n 1, 1) := by decide +kernel
theorem dX_feed_20 : decode prog_1_method_9_code 20 = .ok (.invokevirtual 150, 3) := by decide +kernel
theorem dX_feed_23 : decode prog_1_method_9_code 23 = .ok (.aload_n 0, 1) := by decide +kernel
theorem dX_feed_24 : decode prog_1_method_9_code 24 = .ok (.getfield 48, 3) := by decide +kernel
theorem dX_feed_27 : decode prog_1_method_9_code 27 = .ok (.iload_n 2, 1) := by decide +kernel
theorem dX_feed_28 : decode prog_1_method_9_code 28 = .ok (.invokevirtual 150, 3) := by decide +kernel
theorem dX_feed_31 : decode prog_1_method_9_code 31 = .ok (.aload_n 0, 1) := by decide +kernel
theorem dX_feed_32 : decode prog_1_method_9_code 32 = .ok (.getfield 48, 3) := by decide +kernel
theorem dX_feed_35 : decode prog_1_method_9_code 35 = .ok (.iload_n 3, 1) := by decide +kernel
theorem dX_feed_36 : decode prog_1_method_9_code 36 = .ok (.invokevirtual 150, 3) := by decide +kernel
theorem dX_feed_39 : decode prog_1_method_9_code 39 = .ok (.aload_n 0, 1) := by decide +kernel
theorem dX_feed_40 : decode prog_1_method_9_code 40 = .ok (.getfield 48, 3) := by decide +kernel
theorem dX_feed_43 : decode prog_1_method_9_code 43 = .ok (.iload 4, 2) := by decide +kernel
theorem dX_feed_45 : decode prog_1_method_9_code 45 = .ok (.invokevirtual 150, 3) := by decide +kernel
theorem dX_feed_48 : decode prog_1_method_9_code 48 = .ok (.aload_n 0, 1) := by decide +kernel
theorem dX_feed_49 : decode prog_1_method_9_code 49 = .ok (.getfield 48, 3) := by decide +kernel
theorem dX_feed_52 : decode prog_1_method_9_code 52 = .ok (.iload 5, 2) := by decide +kernel
theorem dX_feed_54 : decode prog_1_method_9_code 54 = .ok (.invokevirtual 150, 3) := by decide +kernel
theorem dX_feed_57 : decode prog_1_method_9_code 57 = .ok (.aload_n 0, 1) := by decide +kernel
theorem dX_feed_58 : decode prog_1_method_9_code 58 = .ok (.getfield 48, 3) := by decide +kernel
theorem dX_feed_61 : decode prog_1_method_9_code 61 = .ok (.getfield 147, 3) := by decide +kernel
theorem dX_feed_64 : decode prog_1_method_9_code 64 = .ok (.ireturn, 1) := by decide +kernel
theorem t_X_feed {d : Nat} {x1 x2 x3 x4 x5 : Int} {σ : SG} {Q : Int → SG → Prop} (h : inI x1 → inI x2 → inI x3 → inI x4 → inI x5 → ((σ 22 0 ≤ 580 → Tri d M_To_append [vA 22, vI x1] σ (fun r2 σ2 => Tri d M_To_append [vA 22, vI x2] σ2 (fun r3 σ3 => Tri d M_To_append [vA 22, vI x3] σ3 (fun r4 σ4 => Tri d M_To_append [vA 22, vI x4] σ4 (fun r5 σ5 => Tri d M_To_append [vA 22, vI x5] σ5 (fun r6 σ6 => Q (σ6 22 0) σ6)))))) ∧ (580 < σ 22 0 → Q (-1) σ))) : Tri (d + 1) M_X_feed [vA 0, vI x1, vI x2, vI x3, vI x4, vI x5] σ Q :=
  Tri_intro rfl (Nat.le_of_ble_eq_true rfl) (ls := [vA 0, vI x1, vI x2, vI x3, vI x4, vI x5]) rfl (fun hok => L_aload_n dX_feed_0 rfl (L_getF (b := 22) fw_X_48 rfl rfl (by decide) dX_feed_1 ⟨ob_0, L_getf fw_X_147 rfl dX_feed_4 ⟨ob_22, L_sipush dX_feed_7 sp_580 in_580 (L_icmp_le dX_feed_10 (by decide) ⟨fun c1 => L_aload_n dX_feed_15 rfl (L_getF (b := 22) fw_X_48 rfl rfl (by decide) dX_feed_16 ⟨ob_0, L_iload_n dX_feed_19 rfl (L_callVV rfl cv_To_append (As := [vI x1]) rfl (tk3 57 rfl rfl) rfl (Nat.le_of_ble_eq_true rfl) dX_feed_20 ⟨ob_22, Tri.mono ((h (hok _ (List.mem_of_getElem? (i := 1) rfl)) (hok _ (List.mem_of_getElem? (i := 2) rfl)) (hok _ (List.mem_of_getElem? (i := 3) rfl)) (hok _ (List.mem_of_getElem? (i := 4) rfl)) (hok _ (List.mem_of_getElem? (i := 5) rfl))).1 c1) (fun r2 σ2 q2 => L_aload_n dX_feed_23 rfl (L_getF (b := 22) fw_X_48 rfl rfl (by decide) dX_feed_24 ⟨ob_0, L_iload_n dX_feed_27 rfl (L_callVV rfl cv_To_append (As := [vI x2]) rfl (tk3 57 rfl rfl) rfl (Nat.le_of_ble_eq_true rfl) dX_feed_28 ⟨ob_22, Tri.mono q2 (fun r3 σ3 q3 => L_aload_n dX_feed_31 rfl (L_getF (b := 22) fw_X_48 rfl rfl (by decide) dX_feed_32 ⟨ob_0, L_iload_n dX_feed_35 rfl (L_callVV rfl cv_To_append (As := [vI x3]) rfl (tk3 57 rfl rfl) rfl (Nat.le_of_ble_eq_true rfl) dX_feed_36 ⟨ob_22, Tri.mono q3 (fun r4 σ4 q4 => L_aload_n dX_feed_39 rfl (L_getF (b := 22) fw_X_48 rfl rfl (by decide) dX_feed_40 ⟨ob_0, L_iload dX_feed_43 rfl (L_callVV rfl cv_To_append (As := [vI x4]) rfl (tk3 57 rfl rfl) rfl (Nat.le_of_ble_eq_true rfl) dX_feed_45 ⟨ob_22, Tri.mono q4 (fun r5 σ5 q5 => L_aload_n dX_feed_48 rfl (L_getF (b := 22) fw_X_48 rfl rfl (by decide) dX_feed_49 ⟨ob_0, L_iload dX_feed_52 rfl (L_callVV rfl cv_To_append (As := [vI x5]) rfl (tk3 57 rfl rfl) rfl (Nat.le_of_ble_eq_true rfl) dX_feed_54 ⟨ob_22, Tri.mono q5 (fun r6 σ6 q6 => L_aload_n dX_feed_57 rfl (L_getF (b := 22) fw_X_48 rfl rfl (by decide) dX_feed_58 ⟨ob_0, L_getf fw_X_147 rfl dX_feed_61 ⟨ob_22, L_ireturn rfl dX_feed_64 q6⟩⟩))⟩)⟩))⟩)⟩))⟩)⟩))⟩)⟩))⟩)⟩), fun c1 => L_iconst dX_feed_13 in_m1 (L_ireturn rfl dX_feed_14 ((h (hok _ (List.mem_of_getElem? (i := 1) rfl)) (hok _ (List.mem_of_getElem? (i := 2) rfl)) (hok _ (List.mem_of_getElem? (i := 3) rfl)) (hok _ (List.mem_of_getElem? (i := 4) rfl)) (hok _ (List.mem_of_getElem? (i := 5) rfl))).2 c1))⟩)⟩⟩))
theorem dX_world_0 : decode prog_1_method_10_code 0 = .ok (.iload_n 1, 1) := by decide +kernel
theorem dX_world_1 : decode prog_1_method_10_code 1 = .ok (.ifCond .lt 14, 3) := by decide +kernel
theorem dX_world_4 : decode prog_1_method_10_code 4 = .ok (.iload_n 1, 1) := by decide +kernel
theorem dX_world_5 : decode prog_1_method_10_code 5 = .ok (.aload_n 0, 1) := by decide +kernel
theorem dX_world_6 : decode prog_1_method_10_code 6 = .ok (.getfield 48, 3) := by decide +kernel
theorem dX_world_9 : decode prog_1_method_10_code 9 = .ok (.getfield 147, 3) := by decide +kernel
theorem dX_world_12 : decode prog_1_method_10_code 12 = .ok (.if_icmp .le 9, 3) := by decide +kernel
theorem dX_world_15 : decode prog_1_method_10_code 15 = .ok (.aload_n 0, 1) := by decide +kernel
theorem dX_world_16 : decode prog_1_method_10_code 16 = .ok (.iconst 5, 1) := by decide +kernel
theorem dX_world_17 : decode prog_1_method_10_code 17 = .ok (.invokevirtual 133, 3) := by decide +kernel
theorem dX_world_20 : decode prog_1_method_10_code 20 = .ok (.ireturn, 1) := by decide +kernel
theorem dX_world_21 : decode prog_1_method_10_code 21 = .ok (.aload_n 0, 1) := by decide +kernel
theorem dX_world_22 : decode prog_1_method_10_code 22 = .ok (.getfield 48, 3) := by decide +kernel
theorem dX_world_25 : decode prog_1_method_10_code 25 = .ok (.iload_n 1, 1) := by decide +kernel
theorem dX_world_26 : decode prog_1_method_10_code 26 = .ok (.invokevirtual 153, 3) := by decide +kernel
theorem dX_world_29 : decode prog_1_method_10_code 29 = .ok (.aload_n 0, 1) := by decide +kernel
theorem dX_world_30 : decode prog_1_method_10_code 30 = .ok (.getfield 52, 3) := by decide +kernel
theorem dX_world_33 : decode prog_1_method_10_code 33 = .ok (.getfield 156, 3) := by decide +kernel
theorem dX_world_36 : decode prog_1_method_10_code 36 = .ok (.aload_n 0, 1) := by decide +kernel
theorem dX_world_37 : decode prog_1_method_10_code 37 = .ok (.getfield 48, 3) := by decide +kernel
theorem dX_world_40 : decode prog_1_method_10_code 40 = .ok (.invokevirtual 160, 3) := by decide +kernel
theorem dX_world_43 : decode prog_1_method_10_code 43 = .ok (.istore_n 2, 1) := by decide +kernel
theorem dX_world_44 : decode prog_1_method_10_code 44 = .ok (.aload_n 0, 1) := by decide +kernel
theorem dX_world_45 : decode prog_1_method_10_code 45 = .ok (.getfield 48, 3) := by decide +kernel
theorem dX_world_48 : decode prog_1_method_10_code 48 = .ok (.iconst 0, 1) := by decide +kernel
theorem dX_world_49 : decode prog_1_method_10_code 49 = .ok (.putfield 147, 3) := by decide +kernel
theorem dX_world_52 : decode prog_1_method_10_code 52 = .ok (.iload_n 2, 1) := by decide +kernel
theorem dX_world_53 : decode prog_1_method_10_code 53 = .ok (.ifCond .ne 10, 3) := by decide +kernel
theorem dX_world_56 : decode prog_1_method_10_code 56 = .ok (.aload_n 0, 1) := by decide +kernel
theorem dX_world_57 : decode prog_1_method_10_code 57 = .ok (.bipush 10, 2) := by decide +kernel
theorem dX_world_59 : decode prog_1_method_10_code 59 = .ok (.invokevirtual 133, 3) := by decide +kernel
theorem dX_world_62 : decode prog_1_method_10_code 62 = .ok (.ireturn, 1) := by decide +kernel
theorem dX_world_63 : decode prog_1_method_10_code 63 = .ok (.aload_n 0, 1) := by decide +kernel
theorem dX_world_64 : decode prog_1_method_10_code 64 = .ok (.getfield 37, 3) := by decide +kernel
theorem dX_world_67 : decode prog_1_method_10_code 67 = .ok (.getfield 156, 3) := by decide +kernel
theorem dX_world_70 : decode prog_1_method_10_code 70 = .ok (.aload_n 0, 1) := by decide +kernel
theorem dX_world_71 : decode prog_1_method_10_code 71 = .ok (.getfield 52, 3) := by decide +kernel
theorem dX_world_74 : decode prog_1_method_10_code 74 = .ok (.getfield 156, 3) := by decide +kernel
theorem dX_world_77 : decode prog_1_method_10_code 77 = .ok (.invokevirtual 166, 3) := by decide +kernel
theorem dX_world_80 : decode prog_1_method_10_code 80 = .ok (.aload_n 0, 1) := by decide +kernel
theorem dX_world_81 : decode prog_1_method_10_code 81 = .ok (.aload_n 0, 1) := by decide +kernel
theorem dX_world_82 : decode prog_1_method_10_code 82 = .ok (.getfield 37, 3) := by decide +kernel
theorem dX_world_85 : decode prog_1_method_10_code 85 = .ok (.getfield 156, 3) := by decide +kernel
theorem dX_world_88 : decode prog_1_method_10_code 88 = .ok (.getfield 170, 3) := by decide +kernel
theorem dX_world_91 : decode prog_1_method_10_code 91 = .ok (.invokevirtual 173, 3) := by decide +kernel
theorem dX_world_94 : decode prog_1_method_10_code 94 = .ok (.ireturn, 1) := by decide +kernel
theorem t_X_world {d : Nat} {x1 : Int} {σ : SG} {Q : Int → SG → Prop} (h : inI x1 → ((x1 < 0 → Tri d M_X_fail [vA 0, vI 5] σ (fun r2 σ2 => Q r2 σ2)) ∧ (0 ≤ x1 → (x1 ≤ σ 22 0 → Tri d M_To_begin [vA 22, vI x1] σ (fun r4 σ4 => Tri d M_Wd_readFrom [vA 25, vA 22] σ4 (fun r5 σ5 => (∀ σ6, σ6 = up σ5 22 0 0 → (r5 ≠ 0 → Tri d M_Wd_copyFrom [vA 7, vA 25] σ6 (fun r8 σ8 => Tri d M_X_answer [vA 0, vI (σ8 7 2)] σ8 (fun r9 σ9 => Q r9 σ9))) ∧ (r5 = 0 → Tri d M_X_fail [vA 0, vI 10] σ6 (fun r10 σ10 => Q r10 σ10)))))) ∧ (σ 22 0 < x1 → Tri d M_X_fail [vA 0, vI 5] σ (fun r11 σ11 => Q r11 σ11))))) : Tri (d + 1) M_X_world [vA 0, vI x1] σ Q :=
  Tri_intro rfl (Nat.le_of_ble_eq_true rfl) (ls := [vA 0, vI x1, vU]) rfl (fun hok => L_iload_n dX_world_0 rfl (L_if_lt dX_world_1 (by decide) ⟨fun c1 => L_aload_n dX_world_15 rfl (L_iconst dX_world_16 in_5 (L_callVI rfl cv_X_fail (As := [vI 5]) rfl (tk3 38 rfl rfl) rfl (Nat.le_of_ble_eq_true rfl) dX_world_17 ⟨ob_0, Tri.mono ((h (hok _ (List.mem_of_getElem? (i := 1) rfl))).1 c1) (fun r2 σ2 q2 => L_ireturn rfl dX_world_20 q2)⟩)), fun c1 => L_iload_n dX_world_4 rfl (L_aload_n dX_world_5 rfl (L_getF (b := 22) fw_X_48 rfl rfl (by decide) dX_world_6 ⟨ob_0, L_getf fw_X_147 rfl dX_world_9 ⟨ob_22, L_icmp_le dX_world_12 (by decide) ⟨fun c3 => L_aload_n dX_world_21 rfl (L_getF (b := 22) fw_X_48 rfl rfl (by decide) dX_world_22 ⟨ob_0, L_iload_n dX_world_25 rfl (L_callVV rfl cv_To_begin (As := [vI x1]) rfl (tk3 65 rfl rfl) rfl (Nat.le_of_ble_eq_true rfl) dX_world_26 ⟨ob_22, Tri.mono (((h (hok _ (List.mem_of_getElem? (i := 1) rfl))).2 c1).1 c3) (fun r4 σ4 q4 => L_aload_n dX_world_29 rfl (L_getF (b := 24) fw_X_52 rfl rfl (by decide) dX_world_30 ⟨ob_0, L_getF (b := 25) fw_X_156 rfl rfl (by decide) dX_world_33 ⟨ob_24, L_aload_n dX_world_36 rfl (L_getF (b := 22) fw_X_48 rfl rfl (by decide) dX_world_37 ⟨ob_0, L_callVI rfl cv_Wd_readFrom (As := [vA 22]) rfl (tk3 84 rfl rfl) rfl (Nat.le_of_ble_eq_true rfl) dX_world_40 ⟨ob_25, Tri.mono q4 (fun r5 σ5 q5 => L_istore_n dX_world_43 (by decide) (L_aload_n dX_world_44 rfl (L_getF (b := 22) fw_X_48 rfl rfl (by decide) dX_world_45 ⟨ob_0, L_iconst dX_world_48 in_0 (L_putfN fp_X_147 rfl rfl (fun _ => ⟨rfl, rfl⟩) dX_world_49 ⟨ob_22, fun σ6 e6 => L_iload_n dX_world_52 rfl (L_if_ne dX_world_53 (by decide) ⟨fun c7 => L_aload_n dX_world_63 rfl (L_getF (b := 6) fw_X_37 rfl rfl (by decide) dX_world_64 ⟨ob_0, L_getF (b := 7) fw_X_156 rfl rfl (by decide) dX_world_67 ⟨ob_6, L_aload_n dX_world_70 rfl (L_getF (b := 24) fw_X_52 rfl rfl (by decide) dX_world_71 ⟨ob_0, L_getF (b := 25) fw_X_156 rfl rfl (by decide) dX_world_74 ⟨ob_24, L_callVV rfl cv_Wd_copyFrom (As := [vA 25]) rfl (tk3 203 rfl rfl) rfl (Nat.le_of_ble_eq_true rfl) dX_world_77 ⟨ob_7, Tri.mono ((q5 σ6 e6).1 c7) (fun r8 σ8 q8 => L_aload_n dX_world_80 rfl (L_aload_n dX_world_81 rfl (L_getF (b := 6) fw_X_37 rfl rfl (by decide) dX_world_82 ⟨ob_0, L_getF (b := 7) fw_X_156 rfl rfl (by decide) dX_world_85 ⟨ob_6, L_getf fw_X_170 rfl dX_world_88 ⟨ob_7, L_callVI rfl cv_X_answer (As := [vI (σ8 7 2)]) rfl (tk3 208 rfl rfl) rfl (Nat.le_of_ble_eq_true rfl) dX_world_91 ⟨ob_0, Tri.mono q8 (fun r9 σ9 q9 => L_ireturn rfl dX_world_94 q9)⟩⟩⟩⟩)))⟩⟩⟩)⟩⟩), fun c7 => L_aload_n dX_world_56 rfl (L_bipush dX_world_57 bp_10 in_10 (L_callVI rfl cv_X_fail (As := [vI 10]) rfl (tk3 38 rfl rfl) rfl (Nat.le_of_ble_eq_true rfl) dX_world_59 ⟨ob_0, Tri.mono ((q5 σ6 e6).2 c7) (fun r10 σ10 q10 => L_ireturn rfl dX_world_62 q10)⟩))⟩)⟩)⟩)))⟩⟩)⟩⟩))⟩)⟩), fun c3 => L_aload_n dX_world_15 rfl (L_iconst dX_world_16 in_5 (L_callVI rfl cv_X_fail (As := [vI 5]) rfl (tk3 38 rfl rfl) rfl (Nat.le_of_ble_eq_true rfl) dX_world_17 ⟨ob_0, Tri.mono (((h (hok _ (List.mem_of_getElem? (i := 1) rfl))).2 c1).2 c3) (fun r11 σ11 q11 => L_ireturn rfl dX_world_20 q11)⟩))⟩⟩⟩))⟩))
theorem dX_script_0 : decode prog_1_method_11_code 0 = .ok (.iload_n 1, 1) := by decide +kernel
theorem dX_script_1 : decode prog_1_method_11_code 1 = .ok (.ifCond .lt 21, 3) := by decide +kernel
theorem dX_script_4 : decode prog_1_method_11_code 4 = .ok (.iload_n 1, 1) := by decide +kernel
theorem dX_script_5 : decode prog_1_method_11_code 5 = .ok (.aload_n 0, 1) := by decide +kernel
theorem dX_script_6 : decode prog_1_method_11_code 6 = .ok (.getfield 48, 3) := by decide +kernel
theorem dX_script_9 : decode prog_1_method_11_code 9 = .ok (.getfield 147, 3) := by decide +kernel
theorem dX_script_12 : decode prog_1_method_11_code 12 = .ok (.if_icmp .gt 10, 3) := by decide +kernel
theorem dX_script_15 : decode prog_1_method_11_code 15 = .ok (.iload_n 1, 1) := by decide +kernel
theorem dX_script_16 : decode prog_1_method_11_code 16 = .ok (.sipush 300, 3) := by decide +kernel
theorem dX_script_19 : decode prog_1_method_11_code 19 = .ok (.if_icmp .le 9, 3) := by decide +kernel
theorem dX_script_22 : decode prog_1_method_11_code 22 = .ok (.aload_n 0, 1) := by decide +kernel
theorem dX_script_23 : decode prog_1_method_11_code 23 = .ok (.iconst 5, 1) := by decide +kernel
theorem dX_script_24 : decode prog_1_method_11_code 24 = .ok (.invokevirtual 133, 3) := by decide +kernel
theorem dX_script_27 : decode prog_1_method_11_code 27 = .ok (.ireturn, 1) := by decide +kernel
theorem dX_script_28 : decode prog_1_method_11_code 28 = .ok (.aload_n 0, 1) := by decide +kernel
theorem dX_script_29 : decode prog_1_method_11_code 29 = .ok (.getfield 48, 3) := by decide +kernel
theorem dX_script_32 : decode prog_1_method_11_code 32 = .ok (.iload_n 1, 1) := by decide +kernel
theorem dX_script_33 : decode prog_1_method_11_code 33 = .ok (.invokevirtual 153, 3) := by decide +kernel
theorem dX_script_36 : decode prog_1_method_11_code 36 = .ok (.aload_n 0, 1) := by decide +kernel
theorem dX_script_37 : decode prog_1_method_11_code 37 = .ok (.getfield 52, 3) := by decide +kernel
theorem dX_script_40 : decode prog_1_method_11_code 40 = .ok (.getfield 176, 3) := by decide +kernel
theorem dX_script_43 : decode prog_1_method_11_code 43 = .ok (.aload_n 0, 1) := by decide +kernel
theorem dX_script_44 : decode prog_1_method_11_code 44 = .ok (.getfield 48, 3) := by decide +kernel
theorem dX_script_47 : decode prog_1_method_11_code 47 = .ok (.invokevirtual 180, 3) := by decide +kernel
theorem dX_script_50 : decode prog_1_method_11_code 50 = .ok (.istore_n 2, 1) := by decide +kernel
theorem dX_script_51 : decode prog_1_method_11_code 51 = .ok (.aload_n 0, 1) := by decide +kernel
theorem dX_script_52 : decode prog_1_method_11_code 52 = .ok (.getfield 48, 3) := by decide +kernel
theorem dX_script_55 : decode prog_1_method_11_code 55 = .ok (.iconst 0, 1) := by decide +kernel
theorem dX_script_56 : decode prog_1_method_11_code 56 = .ok (.putfield 147, 3) := by decide +kernel
theorem dX_script_59 : decode prog_1_method_11_code 59 = .ok (.iload_n 2, 1) := by decide +kernel
theorem dX_script_60 : decode prog_1_method_11_code 60 = .ok (.ifCond .ne 10, 3) := by decide +kernel
theorem dX_script_63 : decode prog_1_method_11_code 63 = .ok (.aload_n 0, 1) := by decide +kernel
theorem dX_script_64 : decode prog_1_method_11_code 64 = .ok (.bipush 10, 2) := by decide +kernel
theorem dX_script_66 : decode prog_1_method_11_code 66 = .ok (.invokevirtual 133, 3) := by decide +kernel
theorem dX_script_69 : decode prog_1_method_11_code 69 = .ok (.ireturn, 1) := by decide +kernel
theorem dX_script_70 : decode prog_1_method_11_code 70 = .ok (.aload_n 0, 1) := by decide +kernel
theorem dX_script_71 : decode prog_1_method_11_code 71 = .ok (.getfield 37, 3) := by decide +kernel
theorem dX_script_74 : decode prog_1_method_11_code 74 = .ok (.getfield 176, 3) := by decide +kernel
theorem dX_script_77 : decode prog_1_method_11_code 77 = .ok (.aload_n 0, 1) := by decide +kernel
theorem dX_script_78 : decode prog_1_method_11_code 78 = .ok (.getfield 52, 3) := by decide +kernel
theorem dX_script_81 : decode prog_1_method_11_code 81 = .ok (.getfield 176, 3) := by decide +kernel
theorem dX_script_84 : decode prog_1_method_11_code 84 = .ok (.invokevirtual 183, 3) := by decide +kernel
theorem dX_script_87 : decode prog_1_method_11_code 87 = .ok (.aload_n 0, 1) := by decide +kernel
theorem dX_script_88 : decode prog_1_method_11_code 88 = .ok (.aload_n 0, 1) := by decide +kernel
theorem dX_script_89 : decode prog_1_method_11_code 89 = .ok (.getfield 37, 3) := by decide +kernel
theorem dX_script_92 : decode prog_1_method_11_code 92 = .ok (.getfield 176, 3) := by decide +kernel
theorem dX_script_95 : decode prog_1_method_11_code 95 = .ok (.getfield 186, 3) := by decide +kernel
theorem dX_script_98 : decode prog_1_method_11_code 98 = .ok (.invokevirtual 173, 3) := by decide +kernel
theorem dX_script_101 : decode prog_1_method_11_code 101 = .ok (.ireturn, 1) := by decide +kernel
theorem t_X_script {d : Nat} {x1 : Int} {σ : SG} {Q : Int → SG → Prop} (h : inI x1 → ((x1 < 0 → Tri d M_X_fail [vA 0, vI 5] σ (fun r2 σ2 => Q r2 σ2)) ∧ (0 ≤ x1 → (σ 22 0 < x1 → Tri d M_X_fail [vA 0, vI 5] σ (fun r4 σ4 => Q r4 σ4)) ∧ (x1 ≤ σ 22 0 → (x1 ≤ 300 → Tri d M_To_begin [vA 22, vI x1] σ (fun r6 σ6 => Tri d M_Sc_readFrom [vA 28, vA 22] σ6 (fun r7 σ7 => (∀ σ8, σ8 = up σ7 22 0 0 → (r7 ≠ 0 → Tri d M_Sc_copyFrom [vA 10, vA 28] σ8 (fun r10 σ10 => Tri d M_X_answer [vA 0, vI (σ10 10 1)] σ10 (fun r11 σ11 => Q r11 σ11))) ∧ (r7 = 0 → Tri d M_X_fail [vA 0, vI 10] σ8 (fun r12 σ12 => Q r12 σ12)))))) ∧ (300 < x1 → Tri d M_X_fail [vA 0, vI 5] σ (fun r13 σ13 => Q r13 σ13)))))) : Tri (d + 1) M_X_script [vA 0, vI x1] σ Q :=
  Tri_intro rfl (Nat.le_of_ble_eq_true rfl) (ls := [vA 0, vI x1, vU]) rfl (fun hok => L_iload_n dX_script_0 rfl (L_if_lt dX_script_1 (by decide) ⟨fun c1 => L_aload_n dX_script_22 rfl (L_iconst dX_script_23 in_5 (L_callVI rfl cv_X_fail (As := [vI 5]) rfl (tk3 38 rfl rfl) rfl (Nat.le_of_ble_eq_true rfl) dX_script_24 ⟨ob_0, Tri.mono ((h (hok _ (List.mem_of_getElem? (i := 1) rfl))).1 c1) (fun r2 σ2 q2 => L_ireturn rfl dX_script_27 q2)⟩)), fun c1 => L_iload_n dX_script_4 rfl (L_aload_n dX_script_5 rfl (L_getF (b := 22) fw_X_48 rfl rfl (by decide) dX_script_6 ⟨ob_0, L_getf fw_X_147 rfl dX_script_9 ⟨ob_22, L_icmp_gt dX_script_12 (by decide) ⟨fun c3 => L_aload_n dX_script_22 rfl (L_iconst dX_script_23 in_5 (L_callVI rfl cv_X_fail (As := [vI 5]) rfl (tk3 38 rfl rfl) rfl (Nat.le_of_ble_eq_true rfl) dX_script_24 ⟨ob_0, Tri.mono (((h (hok _ (List.mem_of_getElem? (i := 1) rfl))).2 c1).1 c3) (fun r4 σ4 q4 => L_ireturn rfl dX_script_27 q4)⟩)), fun c3 => L_iload_n dX_script_15 rfl (L_sipush dX_script_16 sp_300 in_300 (L_icmp_le dX_script_19 (by decide) ⟨fun c5 => L_aload_n dX_script_28 rfl (L_getF (b := 22) fw_X_48 rfl rfl (by decide) dX_script_29 ⟨ob_0, L_iload_n dX_script_32 rfl (L_callVV rfl cv_To_begin (As := [vI x1]) rfl (tk3 65 rfl rfl) rfl (Nat.le_of_ble_eq_true rfl) dX_script_33 ⟨ob_22, Tri.mono ((((h (hok _ (List.mem_of_getElem? (i := 1) rfl))).2 c1).2 c3).1 c5) (fun r6 σ6 q6 => L_aload_n dX_script_36 rfl (L_getF (b := 24) fw_X_52 rfl rfl (by decide) dX_script_37 ⟨ob_0, L_getF (b := 28) fw_X_176 rfl rfl (by decide) dX_script_40 ⟨ob_24, L_aload_n dX_script_43 rfl (L_getF (b := 22) fw_X_48 rfl rfl (by decide) dX_script_44 ⟨ob_0, L_callVI rfl cv_Sc_readFrom (As := [vA 22]) rfl (tk3 216 rfl rfl) rfl (Nat.le_of_ble_eq_true rfl) dX_script_47 ⟨ob_28, Tri.mono q6 (fun r7 σ7 q7 => L_istore_n dX_script_50 (by decide) (L_aload_n dX_script_51 rfl (L_getF (b := 22) fw_X_48 rfl rfl (by decide) dX_script_52 ⟨ob_0, L_iconst dX_script_55 in_0 (L_putfN fp_X_147 rfl rfl (fun _ => ⟨rfl, rfl⟩) dX_script_56 ⟨ob_22, fun σ8 e8 => L_iload_n dX_script_59 rfl (L_if_ne dX_script_60 (by decide) ⟨fun c9 => L_aload_n dX_script_70 rfl (L_getF (b := 6) fw_X_37 rfl rfl (by decide) dX_script_71 ⟨ob_0, L_getF (b := 10) fw_X_176 rfl rfl (by decide) dX_script_74 ⟨ob_6, L_aload_n dX_script_77 rfl (L_getF (b := 24) fw_X_52 rfl rfl (by decide) dX_script_78 ⟨ob_0, L_getF (b := 28) fw_X_176 rfl rfl (by decide) dX_script_81 ⟨ob_24, L_callVV rfl cv_Sc_copyFrom (As := [vA 28]) rfl (tk4 28 rfl rfl) rfl (Nat.le_of_ble_eq_true rfl) dX_script_84 ⟨ob_10, Tri.mono ((q7 σ8 e8).1 c9) (fun r10 σ10 q10 => L_aload_n dX_script_87 rfl (L_aload_n dX_script_88 rfl (L_getF (b := 6) fw_X_37 rfl rfl (by decide) dX_script_89 ⟨ob_0, L_getF (b := 10) fw_X_176 rfl rfl (by decide) dX_script_92 ⟨ob_6, L_getf fw_X_186 rfl dX_script_95 ⟨ob_10, L_callVI rfl cv_X_answer (As := [vI (σ10 10 1)]) rfl (tk3 208 rfl rfl) rfl (Nat.le_of_ble_eq_true rfl) dX_script_98 ⟨ob_0, Tri.mono q10 (fun r11 σ11 q11 => L_ireturn rfl dX_script_101 q11)⟩⟩⟩⟩)))⟩⟩⟩)⟩⟩), fun c9 => L_aload_n dX_script_63 rfl (L_bipush dX_script_64 bp_10 in_10 (L_callVI rfl cv_X_fail (As := [vI 10]) rfl (tk3 38 rfl rfl) rfl (Nat.le_of_ble_eq_true rfl) dX_script_66 ⟨ob_0, Tri.mono ((q7 σ8 e8).2 c9) (fun r12 σ12 q12 => L_ireturn rfl dX_script_69 q12)⟩))⟩)⟩)⟩)))⟩⟩)⟩⟩))⟩)⟩), fun c5 => L_aload_n dX_script_22 rfl (L_iconst dX_script_23 in_5 (L_callVI rfl cv_X_fail (As := [vI 5]) rfl (tk3 38 rfl rfl) rfl (Nat.le_of_ble_eq_true rfl) dX_script_24 ⟨ob_0, Tri.mono ((((h (hok _ (List.mem_of_getElem? (i := 1) rfl))).2 c1).2 c3).2 c5) (fun r13 σ13 q13 => L_ireturn rfl dX_script_27 q13)⟩))⟩))⟩⟩⟩))⟩))
theorem dX_fault_0 : decode prog_1_method_12_code 0 = .ok (.iload_n 1, 1) := by decide +kernel
theorem dX_fault_1 : decode prog_1_method_12_code 1 = .ok (.ifCond .ne 11, 3) := by decide +kernel
theorem dX_fault_4 : decode prog_1_method_12_code 4 = .ok (.aload_n 0, 1) := by decide +kernel
theorem dX_fault_5 : decode prog_1_method_12_code 5 = .ok (.getfield 48, 3) := by decide +kernel
theorem dX_fault_8 : decode prog_1_method_12_code 8 = .ok (.getfield 189, 3) := by decide +kernel
theorem dX_fault_11 : decode prog_1_method_12_code 11 = .ok (.ireturn, 1) := by decide +kernel
theorem dX_fault_12 : decode prog_1_method_12_code 12 = .ok (.iload_n 1, 1) := by decide +kernel
theorem dX_fault_13 : decode prog_1_method_12_code 13 = .ok (.iconst 1, 1) := by decide +kernel
theorem dX_fault_14 : decode prog_1_method_12_code 14 = .ok (.if_icmp .ne 13, 3) := by decide +kernel
theorem dX_fault_17 : decode prog_1_method_12_code 17 = .ok (.aload_n 0, 1) := by decide +kernel
theorem dX_fault_18 : decode prog_1_method_12_code 18 = .ok (.getfield 48, 3) := by decide +kernel
theorem dX_fault_21 : decode prog_1_method_12_code 21 = .ok (.getfield 192, 3) := by decide +kernel
theorem dX_fault_24 : decode prog_1_method_12_code 24 = .ok (.goto 4, 3) := by decide +kernel
theorem dX_fault_27 : decode prog_1_method_12_code 27 = .ok (.iconst (-1), 1) := by decide +kernel
theorem dX_fault_28 : decode prog_1_method_12_code 28 = .ok (.ireturn, 1) := by decide +kernel
theorem t_X_fault {d : Nat} {x1 : Int} {σ : SG} {Q : Int → SG → Prop} (h : inI x1 → ((x1 ≠ 0 → (x1 ≠ 1 → Q (-1) σ) ∧ (x1 = 1 → Q (σ 22 3) σ)) ∧ (x1 = 0 → Q (σ 22 2) σ))) : Tri (d + 1) M_X_fault [vA 0, vI x1] σ Q :=
  Tri_intro rfl (Nat.le_of_ble_eq_true rfl) (ls := [vA 0, vI x1]) rfl (fun hok => L_iload_n dX_fault_0 rfl (L_if_ne dX_fault_1 (by decide) ⟨fun c1 => L_iload_n dX_fault_12 rfl (L_iconst dX_fault_13 in_1 (L_icmp_ne dX_fault_14 (by decide) ⟨fun c2 => L_iconst dX_fault_27 in_m1 (L_ireturn rfl dX_fault_28 (((h (hok _ (List.mem_of_getElem? (i := 1) rfl))).1 c1).1 c2)), fun c2 => L_aload_n dX_fault_17 rfl (L_getF (b := 22) fw_X_48 rfl rfl (by decide) dX_fault_18 ⟨ob_0, L_getf fw_X_192 rfl dX_fault_21 ⟨ob_22, L_goto dX_fault_24 (by decide) (L_ireturn rfl dX_fault_28 (((h (hok _ (List.mem_of_getElem? (i := 1) rfl))).1 c1).2 c2))⟩⟩)⟩)), fun c1 => L_aload_n dX_fault_4 rfl (L_getF (b := 22) fw_X_48 rfl rfl (by decide) dX_fault_5 ⟨ob_0, L_getf fw_X_189 rfl dX_fault_8 ⟨ob_22, L_ireturn rfl dX_fault_11 ((h (hok _ (List.mem_of_getElem? (i := 1) rfl))).2 c1)⟩⟩)⟩))
theorem dX_many_0 : decode prog_1_method_13_code 0 = .ok (.iload_n 1, 1) := by decide +kernel
theorem dX_many_1 : decode prog_1_method_13_code 1 = .ok (.tableswitch 88 0 3 #[31, 46, 61, 76], 31) := by decide +kernel
theorem dX_many_32 : decode prog_1_method_13_code 32 = .ok (.aload_n 0, 1) := by decide +kernel
theorem dX_many_33 : decode prog_1_method_13_code 33 = .ok (.aload_n 0, 1) := by decide +kernel
theorem dX_many_34 : decode prog_1_method_13_code 34 = .ok (.getfield 37, 3) := by decide +kernel
theorem dX_many_37 : decode prog_1_method_13_code 37 = .ok (.getfield 156, 3) := by decide +kernel
theorem dX_many_40 : decode prog_1_method_13_code 40 = .ok (.getfield 195, 3) := by decide +kernel
theorem dX_many_43 : decode prog_1_method_13_code 43 = .ok (.invokevirtual 173, 3) := by decide +kernel
theorem dX_many_46 : decode prog_1_method_13_code 46 = .ok (.ireturn, 1) := by decide +kernel
theorem dX_many_47 : decode prog_1_method_13_code 47 = .ok (.aload_n 0, 1) := by decide +kernel
theorem dX_many_48 : decode prog_1_method_13_code 48 = .ok (.aload_n 0, 1) := by decide +kernel
theorem dX_many_49 : decode prog_1_method_13_code 49 = .ok (.getfield 37, 3) := by decide +kernel
theorem dX_many_52 : decode prog_1_method_13_code 52 = .ok (.getfield 156, 3) := by decide +kernel
theorem dX_many_55 : decode prog_1_method_13_code 55 = .ok (.getfield 170, 3) := by decide +kernel
theorem dX_many_58 : decode prog_1_method_13_code 58 = .ok (.invokevirtual 173, 3) := by decide +kernel
theorem dX_many_61 : decode prog_1_method_13_code 61 = .ok (.ireturn, 1) := by decide +kernel
theorem dX_many_62 : decode prog_1_method_13_code 62 = .ok (.aload_n 0, 1) := by decide +kernel
theorem dX_many_63 : decode prog_1_method_13_code 63 = .ok (.aload_n 0, 1) := by decide +kernel
theorem dX_many_64 : decode prog_1_method_13_code 64 = .ok (.getfield 37, 3) := by decide +kernel
theorem dX_many_67 : decode prog_1_method_13_code 67 = .ok (.getfield 156, 3) := by decide +kernel
theorem dX_many_70 : decode prog_1_method_13_code 70 = .ok (.invokevirtual 198, 3) := by decide +kernel
theorem dX_many_73 : decode prog_1_method_13_code 73 = .ok (.invokevirtual 173, 3) := by decide +kernel
theorem dX_many_76 : decode prog_1_method_13_code 76 = .ok (.ireturn, 1) := by decide +kernel
theorem dX_many_77 : decode prog_1_method_13_code 77 = .ok (.aload_n 0, 1) := by decide +kernel
theorem dX_many_78 : decode prog_1_method_13_code 78 = .ok (.aload_n 0, 1) := by decide +kernel
theorem dX_many_79 : decode prog_1_method_13_code 79 = .ok (.getfield 37, 3) := by decide +kernel
theorem dX_many_82 : decode prog_1_method_13_code 82 = .ok (.invokevirtual 202, 3) := by decide +kernel
theorem dX_many_85 : decode prog_1_method_13_code 85 = .ok (.invokevirtual 173, 3) := by decide +kernel
theorem dX_many_88 : decode prog_1_method_13_code 88 = .ok (.ireturn, 1) := by decide +kernel
theorem dX_many_89 : decode prog_1_method_13_code 89 = .ok (.aload_n 0, 1) := by decide +kernel
theorem dX_many_90 : decode prog_1_method_13_code 90 = .ok (.iconst 5, 1) := by decide +kernel
theorem dX_many_91 : decode prog_1_method_13_code 91 = .ok (.invokevirtual 133, 3) := by decide +kernel
theorem dX_many_94 : decode prog_1_method_13_code 94 = .ok (.ireturn, 1) := by decide +kernel
theorem t_X_many {d : Nat} {x1 : Int} {σ : SG} {Q : Int → SG → Prop} (h : inI x1 → (((x1 < 0 ∨ 3 < x1) → Tri d M_X_fail [vA 0, vI 5] σ (fun r2 σ2 => Q r2 σ2)) ∧ (x1 = 0 → Tri d M_X_answer [vA 0, vI (σ 7 1)] σ (fun r3 σ3 => Q r3 σ3)) ∧ (x1 = 1 → Tri d M_X_answer [vA 0, vI (σ 7 2)] σ (fun r4 σ4 => Q r4 σ4)) ∧ (x1 = 2 → Tri d M_Wd_countCells [vA 7] σ (fun r5 σ5 => Tri d M_X_answer [vA 0, vI r5] σ5 (fun r6 σ6 => Q r6 σ6))) ∧ (x1 = 3 → Tri d M_De_heldSet [vA 6] σ (fun r7 σ7 => Tri d M_X_answer [vA 0, vI r7] σ7 (fun r8 σ8 => Q r8 σ8))))) : Tri (d + 1) M_X_many [vA 0, vI x1] σ Q :=
  Tri_intro rfl (Nat.le_of_ble_eq_true rfl) (ls := [vA 0, vI x1]) rfl (fun hok => L_iload_n dX_many_0 rfl (L_table dX_many_1 (by decide) ⟨fun c1 => L_aload_n dX_many_89 rfl (L_iconst dX_many_90 in_5 (L_callVI rfl cv_X_fail (As := [vI 5]) rfl (tk3 38 rfl rfl) rfl (Nat.le_of_ble_eq_true rfl) dX_many_91 ⟨ob_0, Tri.mono ((h (hok _ (List.mem_of_getElem? (i := 1) rfl))).1 c1) (fun r2 σ2 q2 => L_ireturn rfl dX_many_94 q2)⟩)), fun k1 c1a c1b c1 => match k1, c1 with | 0, c1 => ⟨31, 32, rfl, by decide, L_aload_n dX_many_32 rfl (L_aload_n dX_many_33 rfl (L_getF (b := 6) fw_X_37 rfl rfl (by decide) dX_many_34 ⟨ob_0, L_getF (b := 7) fw_X_156 rfl rfl (by decide) dX_many_37 ⟨ob_6, L_getf fw_X_195 rfl dX_many_40 ⟨ob_7, L_callVI rfl cv_X_answer (As := [vI (σ 7 1)]) rfl (tk3 208 rfl rfl) rfl (Nat.le_of_ble_eq_true rfl) dX_many_43 ⟨ob_0, Tri.mono ((h (hok _ (List.mem_of_getElem? (i := 1) rfl))).2.1 (by omega)) (fun r3 σ3 q3 => L_ireturn rfl dX_many_46 q3)⟩⟩⟩⟩))⟩ | 1, c1 => ⟨46, 47, rfl, by decide, L_aload_n dX_many_47 rfl (L_aload_n dX_many_48 rfl (L_getF (b := 6) fw_X_37 rfl rfl (by decide) dX_many_49 ⟨ob_0, L_getF (b := 7) fw_X_156 rfl rfl (by decide) dX_many_52 ⟨ob_6, L_getf fw_X_170 rfl dX_many_55 ⟨ob_7, L_callVI rfl cv_X_answer (As := [vI (σ 7 2)]) rfl (tk3 208 rfl rfl) rfl (Nat.le_of_ble_eq_true rfl) dX_many_58 ⟨ob_0, Tri.mono ((h (hok _ (List.mem_of_getElem? (i := 1) rfl))).2.2.1 (by omega)) (fun r4 σ4 q4 => L_ireturn rfl dX_many_61 q4)⟩⟩⟩⟩))⟩ | 2, c1 => ⟨61, 62, rfl, by decide, L_aload_n dX_many_62 rfl (L_aload_n dX_many_63 rfl (L_getF (b := 6) fw_X_37 rfl rfl (by decide) dX_many_64 ⟨ob_0, L_getF (b := 7) fw_X_156 rfl rfl (by decide) dX_many_67 ⟨ob_6, L_callVI rfl cv_Wd_countCells (As := []) rfl (tk4 41 rfl rfl) rfl (Nat.le_of_ble_eq_true rfl) dX_many_70 ⟨ob_7, Tri.mono ((h (hok _ (List.mem_of_getElem? (i := 1) rfl))).2.2.2.1 (by omega)) (fun r5 σ5 q5 => L_callVI rfl cv_X_answer (As := [vI r5]) rfl (tk3 208 rfl rfl) rfl (Nat.le_of_ble_eq_true rfl) dX_many_73 ⟨ob_0, Tri.mono q5 (fun r6 σ6 q6 => L_ireturn rfl dX_many_76 q6)⟩)⟩⟩⟩))⟩ | 3, c1 => ⟨76, 77, rfl, by decide, L_aload_n dX_many_77 rfl (L_aload_n dX_many_78 rfl (L_getF (b := 6) fw_X_37 rfl rfl (by decide) dX_many_79 ⟨ob_0, L_callVI rfl cv_De_heldSet (As := []) rfl (tk4 49 rfl rfl) rfl (Nat.le_of_ble_eq_true rfl) dX_many_82 ⟨ob_6, Tri.mono ((h (hok _ (List.mem_of_getElem? (i := 1) rfl))).2.2.2.2 (by omega)) (fun r7 σ7 q7 => L_callVI rfl cv_X_answer (As := [vI r7]) rfl (tk3 208 rfl rfl) rfl (Nat.le_of_ble_eq_true rfl) dX_many_85 ⟨ob_0, Tri.mono q7 (fun r8 σ8 q8 => L_ireturn rfl dX_many_88 q8)⟩)⟩⟩))⟩ | (n + 4), c1 => absurd c1b (by omega)⟩))
theorem dX_constant_0 : decode prog_1_method_14_code 0 = .ok (.aload_n 0, 1) := by decide +kernel
theorem dX_constant_1 : decode prog_1_method_14_code 1 = .ok (.iload_n 1, 1) := by decide +kernel
theorem dX_constant_2 : decode prog_1_method_14_code 2 = .ok (.invokevirtual 205, 3) := by decide +kernel
theorem dX_constant_5 : decode prog_1_method_14_code 5 = .ok (.ifCond .eq 19, 3) := by decide +kernel
theorem dX_constant_8 : decode prog_1_method_14_code 8 = .ok (.aload_n 0, 1) := by decide +kernel
theorem dX_constant_9 : decode prog_1_method_14_code 9 = .ok (.iload_n 2, 1) := by decide +kernel
theorem dX_constant_10 : decode prog_1_method_14_code 10 = .ok (.invokevirtual 205, 3) := by decide +kernel
theorem dX_constant_13 : decode prog_1_method_14_code 13 = .ok (.ifCond .eq 11, 3) := by decide +kernel
theorem dX_constant_16 : decode prog_1_method_14_code 16 = .ok (.aload_n 0, 1) := by decide +kernel
theorem dX_constant_17 : decode prog_1_method_14_code 17 = .ok (.iload_n 3, 1) := by decide +kernel
theorem dX_constant_18 : decode prog_1_method_14_code 18 = .ok (.invokevirtual 205, 3) := by decide +kernel
theorem dX_constant_21 : decode prog_1_method_14_code 21 = .ok (.ifCond .ne 9, 3) := by decide +kernel
theorem dX_constant_24 : decode prog_1_method_14_code 24 = .ok (.aload_n 0, 1) := by decide +kernel
theorem dX_constant_25 : decode prog_1_method_14_code 25 = .ok (.iconst 2, 1) := by decide +kernel
theorem dX_constant_26 : decode prog_1_method_14_code 26 = .ok (.invokevirtual 133, 3) := by decide +kernel
theorem dX_constant_29 : decode prog_1_method_14_code 29 = .ok (.ireturn, 1) := by decide +kernel
theorem dX_constant_30 : decode prog_1_method_14_code 30 = .ok (.aload_n 0, 1) := by decide +kernel
theorem dX_constant_31 : decode prog_1_method_14_code 31 = .ok (.aload_n 0, 1) := by decide +kernel
theorem dX_constant_32 : decode prog_1_method_14_code 32 = .ok (.getfield 37, 3) := by decide +kernel
theorem dX_constant_35 : decode prog_1_method_14_code 35 = .ok (.getfield 156, 3) := by decide +kernel
theorem dX_constant_38 : decode prog_1_method_14_code 38 = .ok (.iload_n 1, 1) := by decide +kernel
theorem dX_constant_39 : decode prog_1_method_14_code 39 = .ok (.iload_n 2, 1) := by decide +kernel
theorem dX_constant_40 : decode prog_1_method_14_code 40 = .ok (.iload_n 3, 1) := by decide +kernel
theorem dX_constant_41 : decode prog_1_method_14_code 41 = .ok (.invokevirtual 208, 3) := by decide +kernel
theorem dX_constant_44 : decode prog_1_method_14_code 44 = .ok (.invokevirtual 173, 3) := by decide +kernel
theorem dX_constant_47 : decode prog_1_method_14_code 47 = .ok (.ireturn, 1) := by decide +kernel
theorem t_X_constant {d : Nat} {x1 x2 x3 : Int} {σ : SG} {Q : Int → SG → Prop} (h : inI x1 → inI x2 → inI x3 → (Tri d M_X_isBase [vA 0, vI x1] σ (fun r1 σ1 => (r1 = 0 → Tri d M_X_fail [vA 0, vI 2] σ1 (fun r3 σ3 => Q r3 σ3)) ∧ (r1 ≠ 0 → Tri d M_X_isBase [vA 0, vI x2] σ1 (fun r4 σ4 => (r4 = 0 → Tri d M_X_fail [vA 0, vI 2] σ4 (fun r6 σ6 => Q r6 σ6)) ∧ (r4 ≠ 0 → Tri d M_X_isBase [vA 0, vI x3] σ4 (fun r7 σ7 => (r7 ≠ 0 → Tri d M_Wd_cell [vA 7, vI x1, vI x2, vI x3] σ7 (fun r9 σ9 => Tri d M_X_answer [vA 0, vI r9] σ9 (fun r10 σ10 => Q r10 σ10))) ∧ (r7 = 0 → Tri d M_X_fail [vA 0, vI 2] σ7 (fun r11 σ11 => Q r11 σ11))))))))) : Tri (d + 1) M_X_constant [vA 0, vI x1, vI x2, vI x3] σ Q :=
  Tri_intro rfl (Nat.le_of_ble_eq_true rfl) (ls := [vA 0, vI x1, vI x2, vI x3]) rfl (fun hok => L_aload_n dX_constant_0 rfl (L_iload_n dX_constant_1 rfl (L_callVI rfl cv_X_isBase (As := [vI x1]) rfl (tk4 57 rfl rfl) rfl (Nat.le_of_ble_eq_true rfl) dX_constant_2 ⟨ob_0, Tri.mono ((h (hok _ (List.mem_of_getElem? (i := 1) rfl)) (hok _ (List.mem_of_getElem? (i := 2) rfl)) (hok _ (List.mem_of_getElem? (i := 3) rfl)))) (fun r1 σ1 q1 => L_if_eq dX_constant_5 (by decide) ⟨fun c2 => L_aload_n dX_constant_24 rfl (L_iconst dX_constant_25 in_2 (L_callVI rfl cv_X_fail (As := [vI 2]) rfl (tk3 38 rfl rfl) rfl (Nat.le_of_ble_eq_true rfl) dX_constant_26 ⟨ob_0, Tri.mono (q1.1 c2) (fun r3 σ3 q3 => L_ireturn rfl dX_constant_29 q3)⟩)), fun c2 => L_aload_n dX_constant_8 rfl (L_iload_n dX_constant_9 rfl (L_callVI rfl cv_X_isBase (As := [vI x2]) rfl (tk4 57 rfl rfl) rfl (Nat.le_of_ble_eq_true rfl) dX_constant_10 ⟨ob_0, Tri.mono (q1.2 c2) (fun r4 σ4 q4 => L_if_eq dX_constant_13 (by decide) ⟨fun c5 => L_aload_n dX_constant_24 rfl (L_iconst dX_constant_25 in_2 (L_callVI rfl cv_X_fail (As := [vI 2]) rfl (tk3 38 rfl rfl) rfl (Nat.le_of_ble_eq_true rfl) dX_constant_26 ⟨ob_0, Tri.mono (q4.1 c5) (fun r6 σ6 q6 => L_ireturn rfl dX_constant_29 q6)⟩)), fun c5 => L_aload_n dX_constant_16 rfl (L_iload_n dX_constant_17 rfl (L_callVI rfl cv_X_isBase (As := [vI x3]) rfl (tk4 57 rfl rfl) rfl (Nat.le_of_ble_eq_true rfl) dX_constant_18 ⟨ob_0, Tri.mono (q4.2 c5) (fun r7 σ7 q7 => L_if_ne dX_constant_21 (by decide) ⟨fun c8 => L_aload_n dX_constant_30 rfl (L_aload_n dX_constant_31 rfl (L_getF (b := 6) fw_X_37 rfl rfl (by decide) dX_constant_32 ⟨ob_0, L_getF (b := 7) fw_X_156 rfl rfl (by decide) dX_constant_35 ⟨ob_6, L_iload_n dX_constant_38 rfl (L_iload_n dX_constant_39 rfl (L_iload_n dX_constant_40 rfl (L_callVI rfl cv_Wd_cell (As := [vI x1, vI x2, vI x3]) rfl (tk4 61 rfl rfl) rfl (Nat.le_of_ble_eq_true rfl) dX_constant_41 ⟨ob_7, Tri.mono (q7.1 c8) (fun r9 σ9 q9 => L_callVI rfl cv_X_answer (As := [vI r9]) rfl (tk3 208 rfl rfl) rfl (Nat.le_of_ble_eq_true rfl) dX_constant_44 ⟨ob_0, Tri.mono q9 (fun r10 σ10 q10 => L_ireturn rfl dX_constant_47 q10)⟩)⟩)))⟩⟩)), fun c8 => L_aload_n dX_constant_24 rfl (L_iconst dX_constant_25 in_2 (L_callVI rfl cv_X_fail (As := [vI 2]) rfl (tk3 38 rfl rfl) rfl (Nat.le_of_ble_eq_true rfl) dX_constant_26 ⟨ob_0, Tri.mono (q7.2 c8) (fun r11 σ11 q11 => L_ireturn rfl dX_constant_29 q11)⟩))⟩)⟩))⟩)⟩))⟩)⟩)))
theorem dX_put_0 : decode prog_1_method_15_code 0 = .ok (.aload_n 0, 1) := by decide +kernel
theorem dX_put_1 : decode prog_1_method_15_code 1 = .ok (.iload_n 1, 1) := by decide +kernel
theorem dX_put_2 : decode prog_1_method_15_code 2 = .ok (.invokevirtual 205, 3) := by decide +kernel
theorem dX_put_5 : decode prog_1_method_15_code 5 = .ok (.ifCond .eq 19, 3) := by decide +kernel
theorem dX_put_8 : decode prog_1_method_15_code 8 = .ok (.aload_n 0, 1) := by decide +kernel
theorem dX_put_9 : decode prog_1_method_15_code 9 = .ok (.iload_n 2, 1) := by decide +kernel
theorem dX_put_10 : decode prog_1_method_15_code 10 = .ok (.invokevirtual 205, 3) := by decide +kernel
theorem dX_put_13 : decode prog_1_method_15_code 13 = .ok (.ifCond .eq 11, 3) := by decide +kernel
theorem dX_put_16 : decode prog_1_method_15_code 16 = .ok (.aload_n 0, 1) := by decide +kernel
theorem dX_put_17 : decode prog_1_method_15_code 17 = .ok (.iload_n 3, 1) := by decide +kernel
theorem dX_put_18 : decode prog_1_method_15_code 18 = .ok (.invokevirtual 205, 3) := by decide +kernel
theorem dX_put_21 : decode prog_1_method_15_code 21 = .ok (.ifCond .ne 9, 3) := by decide +kernel
theorem dX_put_24 : decode prog_1_method_15_code 24 = .ok (.aload_n 0, 1) := by decide +kernel
theorem dX_put_25 : decode prog_1_method_15_code 25 = .ok (.iconst 2, 1) := by decide +kernel
theorem dX_put_26 : decode prog_1_method_15_code 26 = .ok (.invokevirtual 115, 3) := by decide +kernel
theorem dX_put_29 : decode prog_1_method_15_code 29 = .ok (.ireturn, 1) := by decide +kernel
theorem dX_put_30 : decode prog_1_method_15_code 30 = .ok (.iload_n 1, 1) := by decide +kernel
theorem dX_put_31 : decode prog_1_method_15_code 31 = .ok (.iload_n 2, 1) := by decide +kernel
theorem dX_put_32 : decode prog_1_method_15_code 32 = .ok (.if_icmp .ge 23, 3) := by decide +kernel
theorem dX_put_35 : decode prog_1_method_15_code 35 = .ok (.iload 4, 2) := by decide +kernel
theorem dX_put_37 : decode prog_1_method_15_code 37 = .ok (.ifCond .lt 18, 3) := by decide +kernel
theorem dX_put_40 : decode prog_1_method_15_code 40 = .ok (.iload 4, 2) := by decide +kernel
theorem dX_put_42 : decode prog_1_method_15_code 42 = .ok (.aload_n 0, 1) := by decide +kernel
theorem dX_put_43 : decode prog_1_method_15_code 43 = .ok (.getfield 37, 3) := by decide +kernel
theorem dX_put_46 : decode prog_1_method_15_code 46 = .ok (.getfield 156, 3) := by decide +kernel
theorem dX_put_49 : decode prog_1_method_15_code 49 = .ok (.getfield 195, 3) := by decide +kernel
theorem dX_put_52 : decode prog_1_method_15_code 52 = .ok (.if_icmp .lt 9, 3) := by decide +kernel
theorem dX_put_55 : decode prog_1_method_15_code 55 = .ok (.aload_n 0, 1) := by decide +kernel
theorem dX_put_56 : decode prog_1_method_15_code 56 = .ok (.iconst 5, 1) := by decide +kernel
theorem dX_put_57 : decode prog_1_method_15_code 57 = .ok (.invokevirtual 115, 3) := by decide +kernel
theorem dX_put_60 : decode prog_1_method_15_code 60 = .ok (.ireturn, 1) := by decide +kernel
theorem dX_put_61 : decode prog_1_method_15_code 61 = .ok (.aload_n 0, 1) := by decide +kernel
theorem dX_put_62 : decode prog_1_method_15_code 62 = .ok (.getfield 37, 3) := by decide +kernel
theorem dX_put_65 : decode prog_1_method_15_code 65 = .ok (.getfield 156, 3) := by decide +kernel
theorem dX_put_68 : decode prog_1_method_15_code 68 = .ok (.iload_n 1, 1) := by decide +kernel
theorem dX_put_69 : decode prog_1_method_15_code 69 = .ok (.iload_n 2, 1) := by decide +kernel
theorem dX_put_70 : decode prog_1_method_15_code 70 = .ok (.iload_n 3, 1) := by decide +kernel
theorem dX_put_71 : decode prog_1_method_15_code 71 = .ok (.iload 4, 2) := by decide +kernel
theorem dX_put_73 : decode prog_1_method_15_code 73 = .ok (.invokevirtual 212, 3) := by decide +kernel
theorem dX_put_76 : decode prog_1_method_15_code 76 = .ok (.aload_n 0, 1) := by decide +kernel
theorem dX_put_77 : decode prog_1_method_15_code 77 = .ok (.invokevirtual 121, 3) := by decide +kernel
theorem dX_put_80 : decode prog_1_method_15_code 80 = .ok (.ireturn, 1) := by decide +kernel
theorem t_X_put {d : Nat} {x1 x2 x3 x4 : Int} {σ : SG} {Q : Int → SG → Prop} (h : inI x1 → inI x2 → inI x3 → inI x4 → (Tri d M_X_isBase [vA 0, vI x1] σ (fun r1 σ1 => (r1 = 0 → Tri d M_X_refuse [vA 0, vI 2] σ1 (fun r3 σ3 => (r3 = 0 ∨ r3 = 1) ∧ Q r3 σ3)) ∧ (r1 ≠ 0 → Tri d M_X_isBase [vA 0, vI x2] σ1 (fun r4 σ4 => (r4 = 0 → Tri d M_X_refuse [vA 0, vI 2] σ4 (fun r6 σ6 => (r6 = 0 ∨ r6 = 1) ∧ Q r6 σ6)) ∧ (r4 ≠ 0 → Tri d M_X_isBase [vA 0, vI x3] σ4 (fun r7 σ7 => (r7 ≠ 0 → (x2 ≤ x1 → Tri d M_X_refuse [vA 0, vI 5] σ7 (fun r10 σ10 => (r10 = 0 ∨ r10 = 1) ∧ Q r10 σ10)) ∧ (x1 < x2 → (x4 < 0 → Tri d M_X_refuse [vA 0, vI 5] σ7 (fun r12 σ12 => (r12 = 0 ∨ r12 = 1) ∧ Q r12 σ12)) ∧ (0 ≤ x4 → (x4 < σ7 7 1 → Tri d M_Wd_setCell [vA 7, vI x1, vI x2, vI x3, vI x4] σ7 (fun r14 σ14 => Tri d M_X_agree [vA 0] σ14 (fun r15 σ15 => (r15 = 0 ∨ r15 = 1) ∧ Q r15 σ15))) ∧ (σ7 7 1 ≤ x4 → Tri d M_X_refuse [vA 0, vI 5] σ7 (fun r16 σ16 => (r16 = 0 ∨ r16 = 1) ∧ Q r16 σ16))))) ∧ (r7 = 0 → Tri d M_X_refuse [vA 0, vI 2] σ7 (fun r17 σ17 => (r17 = 0 ∨ r17 = 1) ∧ Q r17 σ17))))))))) : Tri (d + 1) M_X_put [vA 0, vI x1, vI x2, vI x3, vI x4] σ Q :=
  Tri_intro rfl (Nat.le_of_ble_eq_true rfl) (ls := [vA 0, vI x1, vI x2, vI x3, vI x4]) rfl (fun hok => L_aload_n dX_put_0 rfl (L_iload_n dX_put_1 rfl (L_callVI rfl cv_X_isBase (As := [vI x1]) rfl (tk4 57 rfl rfl) rfl (Nat.le_of_ble_eq_true rfl) dX_put_2 ⟨ob_0, Tri.mono ((h (hok _ (List.mem_of_getElem? (i := 1) rfl)) (hok _ (List.mem_of_getElem? (i := 2) rfl)) (hok _ (List.mem_of_getElem? (i := 3) rfl)) (hok _ (List.mem_of_getElem? (i := 4) rfl)))) (fun r1 σ1 q1 => L_if_eq dX_put_5 (by decide) ⟨fun c2 => L_aload_n dX_put_24 rfl (L_iconst dX_put_25 in_2 (L_callVI rfl cv_X_refuse (As := [vI 2]) rfl (tk3 5 rfl rfl) rfl (Nat.le_of_ble_eq_true rfl) dX_put_26 ⟨ob_0, Tri.mono (q1.1 c2) (fun r3 σ3 q3 => L_zreturn rfl dX_put_29 q3)⟩)), fun c2 => L_aload_n dX_put_8 rfl (L_iload_n dX_put_9 rfl (L_callVI rfl cv_X_isBase (As := [vI x2]) rfl (tk4 57 rfl rfl) rfl (Nat.le_of_ble_eq_true rfl) dX_put_10 ⟨ob_0, Tri.mono (q1.2 c2) (fun r4 σ4 q4 => L_if_eq dX_put_13 (by decide) ⟨fun c5 => L_aload_n dX_put_24 rfl (L_iconst dX_put_25 in_2 (L_callVI rfl cv_X_refuse (As := [vI 2]) rfl (tk3 5 rfl rfl) rfl (Nat.le_of_ble_eq_true rfl) dX_put_26 ⟨ob_0, Tri.mono (q4.1 c5) (fun r6 σ6 q6 => L_zreturn rfl dX_put_29 q6)⟩)), fun c5 => L_aload_n dX_put_16 rfl (L_iload_n dX_put_17 rfl (L_callVI rfl cv_X_isBase (As := [vI x3]) rfl (tk4 57 rfl rfl) rfl (Nat.le_of_ble_eq_true rfl) dX_put_18 ⟨ob_0, Tri.mono (q4.2 c5) (fun r7 σ7 q7 => L_if_ne dX_put_21 (by decide) ⟨fun c8 => L_iload_n dX_put_30 rfl (L_iload_n dX_put_31 rfl (L_icmp_ge dX_put_32 (by decide) ⟨fun c9 => L_aload_n dX_put_55 rfl (L_iconst dX_put_56 in_5 (L_callVI rfl cv_X_refuse (As := [vI 5]) rfl (tk3 5 rfl rfl) rfl (Nat.le_of_ble_eq_true rfl) dX_put_57 ⟨ob_0, Tri.mono ((q7.1 c8).1 c9) (fun r10 σ10 q10 => L_zreturn rfl dX_put_60 q10)⟩)), fun c9 => L_iload dX_put_35 rfl (L_if_lt dX_put_37 (by decide) ⟨fun c11 => L_aload_n dX_put_55 rfl (L_iconst dX_put_56 in_5 (L_callVI rfl cv_X_refuse (As := [vI 5]) rfl (tk3 5 rfl rfl) rfl (Nat.le_of_ble_eq_true rfl) dX_put_57 ⟨ob_0, Tri.mono (((q7.1 c8).2 c9).1 c11) (fun r12 σ12 q12 => L_zreturn rfl dX_put_60 q12)⟩)), fun c11 => L_iload dX_put_40 rfl (L_aload_n dX_put_42 rfl (L_getF (b := 6) fw_X_37 rfl rfl (by decide) dX_put_43 ⟨ob_0, L_getF (b := 7) fw_X_156 rfl rfl (by decide) dX_put_46 ⟨ob_6, L_getf fw_X_195 rfl dX_put_49 ⟨ob_7, L_icmp_lt dX_put_52 (by decide) ⟨fun c13 => L_aload_n dX_put_61 rfl (L_getF (b := 6) fw_X_37 rfl rfl (by decide) dX_put_62 ⟨ob_0, L_getF (b := 7) fw_X_156 rfl rfl (by decide) dX_put_65 ⟨ob_6, L_iload_n dX_put_68 rfl (L_iload_n dX_put_69 rfl (L_iload_n dX_put_70 rfl (L_iload dX_put_71 rfl (L_callVV rfl cv_Wd_setCell (As := [vI x1, vI x2, vI x3, vI x4]) rfl (tk4 66 rfl rfl) rfl (Nat.le_of_ble_eq_true rfl) dX_put_73 ⟨ob_7, Tri.mono ((((q7.1 c8).2 c9).2 c11).1 c13) (fun r14 σ14 q14 => L_aload_n dX_put_76 rfl (L_callVI rfl cv_X_agree (As := []) rfl (tk3 15 rfl rfl) rfl (Nat.le_of_ble_eq_true rfl) dX_put_77 ⟨ob_0, Tri.mono q14 (fun r15 σ15 q15 => L_zreturn rfl dX_put_80 q15)⟩))⟩))))⟩⟩), fun c13 => L_aload_n dX_put_55 rfl (L_iconst dX_put_56 in_5 (L_callVI rfl cv_X_refuse (As := [vI 5]) rfl (tk3 5 rfl rfl) rfl (Nat.le_of_ble_eq_true rfl) dX_put_57 ⟨ob_0, Tri.mono ((((q7.1 c8).2 c9).2 c11).2 c13) (fun r16 σ16 q16 => L_zreturn rfl dX_put_60 q16)⟩))⟩⟩⟩⟩))⟩)⟩)), fun c8 => L_aload_n dX_put_24 rfl (L_iconst dX_put_25 in_2 (L_callVI rfl cv_X_refuse (As := [vI 2]) rfl (tk3 5 rfl rfl) rfl (Nat.le_of_ble_eq_true rfl) dX_put_26 ⟨ob_0, Tri.mono (q7.2 c8) (fun r17 σ17 q17 => L_zreturn rfl dX_put_29 q17)⟩))⟩)⟩))⟩)⟩))⟩)⟩)))
theorem dX_bracket_0 : decode prog_1_method_16_code 0 = .ok (.aload_n 0, 1) := by decide +kernel
theorem dX_bracket_1 : decode prog_1_method_16_code 1 = .ok (.getfield 37, 3) := by decide +kernel
theorem dX_bracket_4 : decode prog_1_method_16_code 4 = .ok (.getfield 156, 3) := by decide +kernel
theorem dX_bracket_7 : decode prog_1_method_16_code 7 = .ok (.astore_n 3, 1) := by decide +kernel
theorem dX_bracket_8 : decode prog_1_method_16_code 8 = .ok (.aload_n 0, 1) := by decide +kernel
theorem dX_bracket_9 : decode prog_1_method_16_code 9 = .ok (.iload_n 1, 1) := by decide +kernel
theorem dX_bracket_10 : decode prog_1_method_16_code 10 = .ok (.i2l, 1) := by decide +kernel
theorem dX_bracket_11 : decode prog_1_method_16_code 11 = .ok (.invokevirtual 216, 3) := by decide +kernel
theorem dX_bracket_14 : decode prog_1_method_16_code 14 = .ok (.ifCond .eq 12, 3) := by decide +kernel
theorem dX_bracket_17 : decode prog_1_method_16_code 17 = .ok (.aload_n 0, 1) := by decide +kernel
theorem dX_bracket_18 : decode prog_1_method_16_code 18 = .ok (.iload_n 2, 1) := by decide +kernel
theorem dX_bracket_19 : decode prog_1_method_16_code 19 = .ok (.i2l, 1) := by decide +kernel
theorem dX_bracket_20 : decode prog_1_method_16_code 20 = .ok (.invokevirtual 216, 3) := by decide +kernel
theorem dX_bracket_23 : decode prog_1_method_16_code 23 = .ok (.ifCond .ne 9, 3) := by decide +kernel
theorem dX_bracket_26 : decode prog_1_method_16_code 26 = .ok (.aload_n 0, 1) := by decide +kernel
theorem dX_bracket_27 : decode prog_1_method_16_code 27 = .ok (.iconst 2, 1) := by decide +kernel
theorem dX_bracket_28 : decode prog_1_method_16_code 28 = .ok (.invokevirtual 133, 3) := by decide +kernel
theorem dX_bracket_31 : decode prog_1_method_16_code 31 = .ok (.ireturn, 1) := by decide +kernel
theorem dX_bracket_32 : decode prog_1_method_16_code 32 = .ok (.aload_n 3, 1) := by decide +kernel
theorem dX_bracket_33 : decode prog_1_method_16_code 33 = .ok (.iload_n 1, 1) := by decide +kernel
theorem dX_bracket_34 : decode prog_1_method_16_code 34 = .ok (.aload_n 0, 1) := by decide +kernel
theorem dX_bracket_35 : decode prog_1_method_16_code 35 = .ok (.getfield 28, 3) := by decide +kernel
theorem dX_bracket_38 : decode prog_1_method_16_code 38 = .ok (.iconst 0, 1) := by decide +kernel
theorem dX_bracket_39 : decode prog_1_method_16_code 39 = .ok (.invokevirtual 220, 3) := by decide +kernel
theorem dX_bracket_42 : decode prog_1_method_16_code 42 = .ok (.aload_n 3, 1) := by decide +kernel
theorem dX_bracket_43 : decode prog_1_method_16_code 43 = .ok (.iload_n 2, 1) := by decide +kernel
theorem dX_bracket_44 : decode prog_1_method_16_code 44 = .ok (.aload_n 0, 1) := by decide +kernel
theorem dX_bracket_45 : decode prog_1_method_16_code 45 = .ok (.getfield 28, 3) := by decide +kernel
theorem dX_bracket_48 : decode prog_1_method_16_code 48 = .ok (.iconst 5, 1) := by decide +kernel
theorem dX_bracket_49 : decode prog_1_method_16_code 49 = .ok (.invokevirtual 220, 3) := by decide +kernel
theorem dX_bracket_52 : decode prog_1_method_16_code 52 = .ok (.aload_n 3, 1) := by decide +kernel
theorem dX_bracket_53 : decode prog_1_method_16_code 53 = .ok (.aload_n 0, 1) := by decide +kernel
theorem dX_bracket_54 : decode prog_1_method_16_code 54 = .ok (.getfield 28, 3) := by decide +kernel
theorem dX_bracket_57 : decode prog_1_method_16_code 57 = .ok (.iconst 0, 1) := by decide +kernel
theorem dX_bracket_58 : decode prog_1_method_16_code 58 = .ok (.aload_n 0, 1) := by decide +kernel
theorem dX_bracket_59 : decode prog_1_method_16_code 59 = .ok (.getfield 28, 3) := by decide +kernel
theorem dX_bracket_62 : decode prog_1_method_16_code 62 = .ok (.iconst 5, 1) := by decide +kernel
theorem dX_bracket_63 : decode prog_1_method_16_code 63 = .ok (.aload_n 0, 1) := by decide +kernel
theorem dX_bracket_64 : decode prog_1_method_16_code 64 = .ok (.getfield 31, 3) := by decide +kernel
theorem dX_bracket_67 : decode prog_1_method_16_code 67 = .ok (.invokevirtual 224, 3) := by decide +kernel
theorem dX_bracket_70 : decode prog_1_method_16_code 70 = .ok (.aload_n 0, 1) := by decide +kernel
theorem dX_bracket_71 : decode prog_1_method_16_code 71 = .ok (.aload_n 3, 1) := by decide +kernel
theorem dX_bracket_72 : decode prog_1_method_16_code 72 = .ok (.aload_n 0, 1) := by decide +kernel
theorem dX_bracket_73 : decode prog_1_method_16_code 73 = .ok (.getfield 31, 3) := by decide +kernel
theorem dX_bracket_76 : decode prog_1_method_16_code 76 = .ok (.invokevirtual 228, 3) := by decide +kernel
theorem dX_bracket_79 : decode prog_1_method_16_code 79 = .ok (.invokevirtual 173, 3) := by decide +kernel
theorem dX_bracket_82 : decode prog_1_method_16_code 82 = .ok (.ireturn, 1) := by decide +kernel
theorem t_X_bracket {d : Nat} {x1 x2 : Int} {σ : SG} {Q : Int → SG → Prop} (h : inI x1 → inI x2 → (Tri d M_X_isVector [vA 0, vJ x1] σ (fun r1 σ1 => (r1 = 0 → Tri d M_X_fail [vA 0, vI 2] σ1 (fun r3 σ3 => Q r3 σ3)) ∧ (r1 ≠ 0 → Tri d M_X_isVector [vA 0, vJ x2] σ1 (fun r4 σ4 => (r4 ≠ 0 → Tri d M_Wd_unpack [vA 7, vI x1, vA 4, vI 0] σ4 (fun r6 σ6 => Tri d M_Wd_unpack [vA 7, vI x2, vA 4, vI 5] σ6 (fun r7 σ7 => Tri d M_Wd_bracketInto [vA 7, vA 4, vI 0, vA 4, vI 5, vA 5] σ7 (fun r8 σ8 => Tri d M_Wd_pack [vA 7, vA 5] σ8 (fun r9 σ9 => Tri d M_X_answer [vA 0, vI r9] σ9 (fun r10 σ10 => Q r10 σ10)))))) ∧ (r4 = 0 → Tri d M_X_fail [vA 0, vI 2] σ4 (fun r11 σ11 => Q r11 σ11))))))) : Tri (d + 1) M_X_bracket [vA 0, vI x1, vI x2] σ Q :=
  Tri_intro rfl (Nat.le_of_ble_eq_true rfl) (ls := [vA 0, vI x1, vI x2, vU]) rfl (fun hok => L_aload_n dX_bracket_0 rfl (L_getF (b := 6) fw_X_37 rfl rfl (by decide) dX_bracket_1 ⟨ob_0, L_getF (b := 7) fw_X_156 rfl rfl (by decide) dX_bracket_4 ⟨ob_6, L_astore_n dX_bracket_7 (by decide) (by omega) (L_aload_n dX_bracket_8 rfl (L_iload_n dX_bracket_9 rfl (L_i2l dX_bracket_10 (L_callVI rfl cv_X_isVector (As := [vJ x1]) rfl (tk4 71 rfl rfl) rfl (Nat.le_of_ble_eq_true rfl) dX_bracket_11 ⟨ob_0, Tri.mono ((h (hok _ (List.mem_of_getElem? (i := 1) rfl)) (hok _ (List.mem_of_getElem? (i := 2) rfl)))) (fun r1 σ1 q1 => L_if_eq dX_bracket_14 (by decide) ⟨fun c2 => L_aload_n dX_bracket_26 rfl (L_iconst dX_bracket_27 in_2 (L_callVI rfl cv_X_fail (As := [vI 2]) rfl (tk3 38 rfl rfl) rfl (Nat.le_of_ble_eq_true rfl) dX_bracket_28 ⟨ob_0, Tri.mono (q1.1 c2) (fun r3 σ3 q3 => L_ireturn rfl dX_bracket_31 q3)⟩)), fun c2 => L_aload_n dX_bracket_17 rfl (L_iload_n dX_bracket_18 rfl (L_i2l dX_bracket_19 (L_callVI rfl cv_X_isVector (As := [vJ x2]) rfl (tk4 71 rfl rfl) rfl (Nat.le_of_ble_eq_true rfl) dX_bracket_20 ⟨ob_0, Tri.mono (q1.2 c2) (fun r4 σ4 q4 => L_if_ne dX_bracket_23 (by decide) ⟨fun c5 => L_aload_n dX_bracket_32 rfl (L_iload_n dX_bracket_33 rfl (L_aload_n dX_bracket_34 rfl (L_getF (b := 4) fw_X_28 rfl rfl (by decide) dX_bracket_35 ⟨ob_0, L_iconst dX_bracket_38 in_0 (L_callVV rfl cv_Wd_unpack (As := [vI x1, vA 4, vI 0]) rfl (tk4 82 rfl rfl) rfl (Nat.le_of_ble_eq_true rfl) dX_bracket_39 ⟨ob_7, Tri.mono (q4.1 c5) (fun r6 σ6 q6 => L_aload_n dX_bracket_42 rfl (L_iload_n dX_bracket_43 rfl (L_aload_n dX_bracket_44 rfl (L_getF (b := 4) fw_X_28 rfl rfl (by decide) dX_bracket_45 ⟨ob_0, L_iconst dX_bracket_48 in_5 (L_callVV rfl cv_Wd_unpack (As := [vI x2, vA 4, vI 5]) rfl (tk4 82 rfl rfl) rfl (Nat.le_of_ble_eq_true rfl) dX_bracket_49 ⟨ob_7, Tri.mono q6 (fun r7 σ7 q7 => L_aload_n dX_bracket_52 rfl (L_aload_n dX_bracket_53 rfl (L_getF (b := 4) fw_X_28 rfl rfl (by decide) dX_bracket_54 ⟨ob_0, L_iconst dX_bracket_57 in_0 (L_aload_n dX_bracket_58 rfl (L_getF (b := 4) fw_X_28 rfl rfl (by decide) dX_bracket_59 ⟨ob_0, L_iconst dX_bracket_62 in_5 (L_aload_n dX_bracket_63 rfl (L_getF (b := 5) fw_X_31 rfl rfl (by decide) dX_bracket_64 ⟨ob_0, L_callVV rfl cv_Wd_bracketInto (As := [vA 4, vI 0, vA 4, vI 5, vA 5]) rfl (tk4 86 rfl rfl) rfl (Nat.le_of_ble_eq_true rfl) dX_bracket_67 ⟨ob_7, Tri.mono q7 (fun r8 σ8 q8 => L_aload_n dX_bracket_70 rfl (L_aload_n dX_bracket_71 rfl (L_aload_n dX_bracket_72 rfl (L_getF (b := 5) fw_X_31 rfl rfl (by decide) dX_bracket_73 ⟨ob_0, L_callVI rfl cv_Wd_pack (As := [vA 5]) rfl (tk4 97 rfl rfl) rfl (Nat.le_of_ble_eq_true rfl) dX_bracket_76 ⟨ob_7, Tri.mono q8 (fun r9 σ9 q9 => L_callVI rfl cv_X_answer (As := [vI r9]) rfl (tk3 208 rfl rfl) rfl (Nat.le_of_ble_eq_true rfl) dX_bracket_79 ⟨ob_0, Tri.mono q9 (fun r10 σ10 q10 => L_ireturn rfl dX_bracket_82 q10)⟩)⟩⟩))))⟩⟩))⟩))⟩)))⟩)⟩))))⟩)⟩))), fun c5 => L_aload_n dX_bracket_26 rfl (L_iconst dX_bracket_27 in_2 (L_callVI rfl cv_X_fail (As := [vI 2]) rfl (tk3 38 rfl rfl) rfl (Nat.le_of_ble_eq_true rfl) dX_bracket_28 ⟨ob_0, Tri.mono (q4.2 c5) (fun r11 σ11 q11 => L_ireturn rfl dX_bracket_31 q11)⟩))⟩)⟩)))⟩)⟩))))⟩⟩))
theorem dX_lawful_0 : decode prog_1_method_17_code 0 = .ok (.aload_n 0, 1) := by decide +kernel
theorem dX_lawful_1 : decode prog_1_method_17_code 1 = .ok (.aload_n 0, 1) := by decide +kernel
theorem dX_lawful_2 : decode prog_1_method_17_code 2 = .ok (.getfield 37, 3) := by decide +kernel
theorem dX_lawful_5 : decode prog_1_method_17_code 5 = .ok (.getfield 156, 3) := by decide +kernel
theorem dX_lawful_8 : decode prog_1_method_17_code 8 = .ok (.invokevirtual 232, 3) := by decide +kernel
theorem dX_lawful_11 : decode prog_1_method_17_code 11 = .ok (.ifCond .ge 7, 3) := by decide +kernel
theorem dX_lawful_14 : decode prog_1_method_17_code 14 = .ok (.iconst 1, 1) := by decide +kernel
theorem dX_lawful_15 : decode prog_1_method_17_code 15 = .ok (.goto 4, 3) := by decide +kernel
theorem dX_lawful_18 : decode prog_1_method_17_code 18 = .ok (.iconst 0, 1) := by decide +kernel
theorem dX_lawful_19 : decode prog_1_method_17_code 19 = .ok (.invokevirtual 173, 3) := by decide +kernel
theorem dX_lawful_22 : decode prog_1_method_17_code 22 = .ok (.ireturn, 1) := by decide +kernel
theorem t_X_lawful {d : Nat} {σ : SG} {Q : Int → SG → Prop} (h : Tri d M_Wd_firstBreak [vA 7] σ (fun r1 σ1 => (0 ≤ r1 → Tri d M_X_answer [vA 0, vI 0] σ1 (fun r3 σ3 => Q r3 σ3)) ∧ (r1 < 0 → Tri d M_X_answer [vA 0, vI 1] σ1 (fun r4 σ4 => Q r4 σ4)))) : Tri (d + 1) M_X_lawful [vA 0] σ Q :=
  Tri_intro rfl (Nat.le_of_ble_eq_true rfl) (ls := [vA 0]) rfl (fun hok => L_aload_n dX_lawful_0 rfl (L_aload_n dX_lawful_1 rfl (L_getF (b := 6) fw_X_37 rfl rfl (by decide) dX_lawful_2 ⟨ob_0, L_getF (b := 7) fw_X_156 rfl rfl (by decide) dX_lawful_5 ⟨ob_6, L_callVI rfl cv_Wd_firstBreak (As := []) rfl (tk4 105 rfl rfl) rfl (Nat.le_of_ble_eq_true rfl) dX_lawful_8 ⟨ob_7, Tri.mono (h) (fun r1 σ1 q1 => L_if_ge dX_lawful_11 (by decide) ⟨fun c2 => L_iconst dX_lawful_18 in_0 (L_callVI rfl cv_X_answer (As := [vI 0]) rfl (tk3 208 rfl rfl) rfl (Nat.le_of_ble_eq_true rfl) dX_lawful_19 ⟨ob_0, Tri.mono (q1.1 c2) (fun r3 σ3 q3 => L_ireturn rfl dX_lawful_22 q3)⟩), fun c2 => L_iconst dX_lawful_14 in_1 (L_goto dX_lawful_15 (by decide) (L_callVI rfl cv_X_answer (As := [vI 1]) rfl (tk3 208 rfl rfl) rfl (Nat.le_of_ble_eq_true rfl) dX_lawful_19 ⟨ob_0, Tri.mono (q1.2 c2) (fun r4 σ4 q4 => L_ireturn rfl dX_lawful_22 q4)⟩))⟩)⟩⟩⟩)))
theorem dX_failing_0 : decode prog_1_method_18_code 0 = .ok (.iload_n 1, 1) := by decide +kernel
theorem dX_failing_1 : decode prog_1_method_18_code 1 = .ok (.ifCond .lt 8, 3) := by decide +kernel
theorem dX_failing_4 : decode prog_1_method_18_code 4 = .ok (.iload_n 1, 1) := by decide +kernel
theorem dX_failing_5 : decode prog_1_method_18_code 5 = .ok (.iconst 2, 1) := by decide +kernel
theorem dX_failing_6 : decode prog_1_method_18_code 6 = .ok (.if_icmp .le 9, 3) := by decide +kernel
theorem dX_failing_9 : decode prog_1_method_18_code 9 = .ok (.aload_n 0, 1) := by decide +kernel
theorem dX_failing_10 : decode prog_1_method_18_code 10 = .ok (.iconst 5, 1) := by decide +kernel
theorem dX_failing_11 : decode prog_1_method_18_code 11 = .ok (.invokevirtual 133, 3) := by decide +kernel
theorem dX_failing_14 : decode prog_1_method_18_code 14 = .ok (.ireturn, 1) := by decide +kernel
theorem dX_failing_15 : decode prog_1_method_18_code 15 = .ok (.aload_n 0, 1) := by decide +kernel
theorem dX_failing_16 : decode prog_1_method_18_code 16 = .ok (.getfield 37, 3) := by decide +kernel
theorem dX_failing_19 : decode prog_1_method_18_code 19 = .ok (.getfield 156, 3) := by decide +kernel
theorem dX_failing_22 : decode prog_1_method_18_code 22 = .ok (.invokevirtual 232, 3) := by decide +kernel
theorem dX_failing_25 : decode prog_1_method_18_code 25 = .ok (.istore_n 2, 1) := by decide +kernel
theorem dX_failing_26 : decode prog_1_method_18_code 26 = .ok (.iload_n 2, 1) := by decide +kernel
theorem dX_failing_27 : decode prog_1_method_18_code 27 = .ok (.ifCond .ge 10, 3) := by decide +kernel
theorem dX_failing_30 : decode prog_1_method_18_code 30 = .ok (.aload_n 0, 1) := by decide +kernel
theorem dX_failing_31 : decode prog_1_method_18_code 31 = .ok (.bipush 8, 2) := by decide +kernel
theorem dX_failing_33 : decode prog_1_method_18_code 33 = .ok (.invokevirtual 133, 3) := by decide +kernel
theorem dX_failing_36 : decode prog_1_method_18_code 36 = .ok (.ireturn, 1) := by decide +kernel
theorem dX_failing_37 : decode prog_1_method_18_code 37 = .ok (.iload_n 1, 1) := by decide +kernel
theorem dX_failing_38 : decode prog_1_method_18_code 38 = .ok (.ifCond .ne 12, 3) := by decide +kernel
theorem dX_failing_41 : decode prog_1_method_18_code 41 = .ok (.aload_n 0, 1) := by decide +kernel
theorem dX_failing_42 : decode prog_1_method_18_code 42 = .ok (.iload_n 2, 1) := by decide +kernel
theorem dX_failing_43 : decode prog_1_method_18_code 43 = .ok (.bipush 25, 2) := by decide +kernel
theorem dX_failing_45 : decode prog_1_method_18_code 45 = .ok (.idiv, 1) := by decide +kernel
theorem dX_failing_46 : decode prog_1_method_18_code 46 = .ok (.invokevirtual 173, 3) := by decide +kernel
theorem dX_failing_49 : decode prog_1_method_18_code 49 = .ok (.ireturn, 1) := by decide +kernel
theorem dX_failing_50 : decode prog_1_method_18_code 50 = .ok (.aload_n 0, 1) := by decide +kernel
theorem dX_failing_51 : decode prog_1_method_18_code 51 = .ok (.iload_n 1, 1) := by decide +kernel
theorem dX_failing_52 : decode prog_1_method_18_code 52 = .ok (.iconst 1, 1) := by decide +kernel
theorem dX_failing_53 : decode prog_1_method_18_code 53 = .ok (.if_icmp .ne 11, 3) := by decide +kernel
theorem dX_failing_56 : decode prog_1_method_18_code 56 = .ok (.iload_n 2, 1) := by decide +kernel
theorem dX_failing_57 : decode prog_1_method_18_code 57 = .ok (.iconst 5, 1) := by decide +kernel
theorem dX_failing_58 : decode prog_1_method_18_code 58 = .ok (.idiv, 1) := by decide +kernel
theorem dX_failing_59 : decode prog_1_method_18_code 59 = .ok (.iconst 5, 1) := by decide +kernel
theorem dX_failing_60 : decode prog_1_method_18_code 60 = .ok (.irem, 1) := by decide +kernel
theorem dX_failing_61 : decode prog_1_method_18_code 61 = .ok (.goto 6, 3) := by decide +kernel
theorem dX_failing_64 : decode prog_1_method_18_code 64 = .ok (.iload_n 2, 1) := by decide +kernel
theorem dX_failing_65 : decode prog_1_method_18_code 65 = .ok (.iconst 5, 1) := by decide +kernel
theorem dX_failing_66 : decode prog_1_method_18_code 66 = .ok (.irem, 1) := by decide +kernel
theorem dX_failing_67 : decode prog_1_method_18_code 67 = .ok (.invokevirtual 173, 3) := by decide +kernel
theorem dX_failing_70 : decode prog_1_method_18_code 70 = .ok (.ireturn, 1) := by decide +kernel
theorem t_X_failing {d : Nat} {x1 : Int} {σ : SG} {Q : Int → SG → Prop} (h : inI x1 → ((x1 < 0 → Tri d M_X_fail [vA 0, vI 5] σ (fun r2 σ2 => Q r2 σ2)) ∧ (0 ≤ x1 → (x1 ≤ 2 → Tri d M_Wd_firstBreak [vA 7] σ (fun r4 σ4 => (0 ≤ r4 → (x1 ≠ 0 → (x1 ≠ 1 → Tri d M_X_answer [vA 0, vI (r4.tmod 5)] σ4 (fun r8 σ8 => Q r8 σ8)) ∧ (x1 = 1 → Tri d M_X_answer [vA 0, vI ((w32 (r4.tdiv 5)).tmod 5)] σ4 (fun r9 σ9 => Q r9 σ9))) ∧ (x1 = 0 → Tri d M_X_answer [vA 0, vI (w32 (r4.tdiv 25))] σ4 (fun r10 σ10 => Q r10 σ10))) ∧ (r4 < 0 → Tri d M_X_fail [vA 0, vI 8] σ4 (fun r11 σ11 => Q r11 σ11)))) ∧ (2 < x1 → Tri d M_X_fail [vA 0, vI 5] σ (fun r12 σ12 => Q r12 σ12))))) : Tri (d + 1) M_X_failing [vA 0, vI x1] σ Q :=
  Tri_intro rfl (Nat.le_of_ble_eq_true rfl) (ls := [vA 0, vI x1, vU]) rfl (fun hok => L_iload_n dX_failing_0 rfl (L_if_lt dX_failing_1 (by decide) ⟨fun c1 => L_aload_n dX_failing_9 rfl (L_iconst dX_failing_10 in_5 (L_callVI rfl cv_X_fail (As := [vI 5]) rfl (tk3 38 rfl rfl) rfl (Nat.le_of_ble_eq_true rfl) dX_failing_11 ⟨ob_0, Tri.mono ((h (hok _ (List.mem_of_getElem? (i := 1) rfl))).1 c1) (fun r2 σ2 q2 => L_ireturn rfl dX_failing_14 q2)⟩)), fun c1 => L_iload_n dX_failing_4 rfl (L_iconst dX_failing_5 in_2 (L_icmp_le dX_failing_6 (by decide) ⟨fun c3 => L_aload_n dX_failing_15 rfl (L_getF (b := 6) fw_X_37 rfl rfl (by decide) dX_failing_16 ⟨ob_0, L_getF (b := 7) fw_X_156 rfl rfl (by decide) dX_failing_19 ⟨ob_6, L_callVI rfl cv_Wd_firstBreak (As := []) rfl (tk4 105 rfl rfl) rfl (Nat.le_of_ble_eq_true rfl) dX_failing_22 ⟨ob_7, Tri.mono (((h (hok _ (List.mem_of_getElem? (i := 1) rfl))).2 c1).1 c3) (fun r4 σ4 q4 => L_istore_n dX_failing_25 (by decide) (L_iload_n dX_failing_26 rfl (L_if_ge dX_failing_27 (by decide) ⟨fun c5 => L_iload_n dX_failing_37 rfl (L_if_ne dX_failing_38 (by decide) ⟨fun c6 => L_aload_n dX_failing_50 rfl (L_iload_n dX_failing_51 rfl (L_iconst dX_failing_52 in_1 (L_icmp_ne dX_failing_53 (by decide) ⟨fun c7 => L_iload_n dX_failing_64 rfl (L_iconst dX_failing_65 in_5 (L_irem dX_failing_66 ⟨by decide, L_callVI rfl cv_X_answer (As := [vI (r4.tmod 5)]) rfl (tk3 208 rfl rfl) rfl (Nat.le_of_ble_eq_true rfl) dX_failing_67 ⟨ob_0, Tri.mono (((q4.1 c5).1 c6).1 c7) (fun r8 σ8 q8 => L_ireturn rfl dX_failing_70 q8)⟩⟩)), fun c7 => L_iload_n dX_failing_56 rfl (L_iconst dX_failing_57 in_5 (L_idiv dX_failing_58 ⟨by decide, L_iconst dX_failing_59 in_5 (L_irem dX_failing_60 ⟨by decide, L_goto dX_failing_61 (by decide) (L_callVI rfl cv_X_answer (As := [vI ((w32 (r4.tdiv 5)).tmod 5)]) rfl (tk3 208 rfl rfl) rfl (Nat.le_of_ble_eq_true rfl) dX_failing_67 ⟨ob_0, Tri.mono (((q4.1 c5).1 c6).2 c7) (fun r9 σ9 q9 => L_ireturn rfl dX_failing_70 q9)⟩)⟩)⟩))⟩))), fun c6 => L_aload_n dX_failing_41 rfl (L_iload_n dX_failing_42 rfl (L_bipush dX_failing_43 bp_25 in_25 (L_idiv dX_failing_45 ⟨by decide, L_callVI rfl cv_X_answer (As := [vI (w32 (r4.tdiv 25))]) rfl (tk3 208 rfl rfl) rfl (Nat.le_of_ble_eq_true rfl) dX_failing_46 ⟨ob_0, Tri.mono ((q4.1 c5).2 c6) (fun r10 σ10 q10 => L_ireturn rfl dX_failing_49 q10)⟩⟩)))⟩), fun c5 => L_aload_n dX_failing_30 rfl (L_bipush dX_failing_31 bp_8 in_8 (L_callVI rfl cv_X_fail (As := [vI 8]) rfl (tk3 38 rfl rfl) rfl (Nat.le_of_ble_eq_true rfl) dX_failing_33 ⟨ob_0, Tri.mono (q4.2 c5) (fun r11 σ11 q11 => L_ireturn rfl dX_failing_36 q11)⟩))⟩)))⟩⟩⟩), fun c3 => L_aload_n dX_failing_9 rfl (L_iconst dX_failing_10 in_5 (L_callVI rfl cv_X_fail (As := [vI 5]) rfl (tk3 38 rfl rfl) rfl (Nat.le_of_ble_eq_true rfl) dX_failing_11 ⟨ob_0, Tri.mono (((h (hok _ (List.mem_of_getElem? (i := 1) rfl))).2 c1).2 c3) (fun r12 σ12 q12 => L_ireturn rfl dX_failing_14 q12)⟩))⟩))⟩))
theorem dX_keep_0 : decode prog_1_method_19_code 0 = .ok (.aload_n 0, 1) := by decide +kernel
theorem dX_keep_1 : decode prog_1_method_19_code 1 = .ok (.getfield 37, 3) := by decide +kernel
theorem dX_keep_4 : decode prog_1_method_19_code 4 = .ok (.iload_n 1, 1) := by decide +kernel
theorem dX_keep_5 : decode prog_1_method_19_code 5 = .ok (.invokevirtual 235, 3) := by decide +kernel
theorem dX_keep_8 : decode prog_1_method_19_code 8 = .ok (.ifCond .eq 10, 3) := by decide +kernel
theorem dX_keep_11 : decode prog_1_method_19_code 11 = .ok (.aload_n 0, 1) := by decide +kernel
theorem dX_keep_12 : decode prog_1_method_19_code 12 = .ok (.invokevirtual 121, 3) := by decide +kernel
theorem dX_keep_15 : decode prog_1_method_19_code 15 = .ok (.goto 8, 3) := by decide +kernel
theorem dX_keep_18 : decode prog_1_method_19_code 18 = .ok (.aload_n 0, 1) := by decide +kernel
theorem dX_keep_19 : decode prog_1_method_19_code 19 = .ok (.iconst 2, 1) := by decide +kernel
theorem dX_keep_20 : decode prog_1_method_19_code 20 = .ok (.invokevirtual 115, 3) := by decide +kernel
theorem dX_keep_23 : decode prog_1_method_19_code 23 = .ok (.ireturn, 1) := by decide +kernel
theorem t_X_keep {d : Nat} {x1 : Int} {σ : SG} {Q : Int → SG → Prop} (h : inI x1 → (Tri d M_De_putOn [vA 6, vI x1] σ (fun r1 σ1 => (r1 = 0 → Tri d M_X_refuse [vA 0, vI 2] σ1 (fun r3 σ3 => (r3 = 0 ∨ r3 = 1) ∧ Q r3 σ3)) ∧ (r1 ≠ 0 → Tri d M_X_agree [vA 0] σ1 (fun r4 σ4 => (r4 = 0 ∨ r4 = 1) ∧ Q r4 σ4))))) : Tri (d + 1) M_X_keep [vA 0, vI x1] σ Q :=
  Tri_intro rfl (Nat.le_of_ble_eq_true rfl) (ls := [vA 0, vI x1]) rfl (fun hok => L_aload_n dX_keep_0 rfl (L_getF (b := 6) fw_X_37 rfl rfl (by decide) dX_keep_1 ⟨ob_0, L_iload_n dX_keep_4 rfl (L_callVI rfl cv_De_putOn (As := [vI x1]) rfl (tk4 121 rfl rfl) rfl (Nat.le_of_ble_eq_true rfl) dX_keep_5 ⟨ob_6, Tri.mono ((h (hok _ (List.mem_of_getElem? (i := 1) rfl)))) (fun r1 σ1 q1 => L_if_eq dX_keep_8 (by decide) ⟨fun c2 => L_aload_n dX_keep_18 rfl (L_iconst dX_keep_19 in_2 (L_callVI rfl cv_X_refuse (As := [vI 2]) rfl (tk3 5 rfl rfl) rfl (Nat.le_of_ble_eq_true rfl) dX_keep_20 ⟨ob_0, Tri.mono (q1.1 c2) (fun r3 σ3 q3 => L_zreturn rfl dX_keep_23 q3)⟩)), fun c2 => L_aload_n dX_keep_11 rfl (L_callVI rfl cv_X_agree (As := []) rfl (tk3 15 rfl rfl) rfl (Nat.le_of_ble_eq_true rfl) dX_keep_12 ⟨ob_0, Tri.mono (q1.2 c2) (fun r4 σ4 q4 => L_goto dX_keep_15 (by decide) (L_zreturn rfl dX_keep_23 q4))⟩)⟩)⟩)⟩))
theorem dX_take_0 : decode prog_1_method_20_code 0 = .ok (.aload_n 0, 1) := by decide +kernel
theorem dX_take_1 : decode prog_1_method_20_code 1 = .ok (.iload_n 1, 1) := by decide +kernel
theorem dX_take_2 : decode prog_1_method_20_code 2 = .ok (.invokevirtual 238, 3) := by decide +kernel
theorem dX_take_5 : decode prog_1_method_20_code 5 = .ok (.istore_n 2, 1) := by decide +kernel
theorem dX_take_6 : decode prog_1_method_20_code 6 = .ok (.iload_n 2, 1) := by decide +kernel
theorem dX_take_7 : decode prog_1_method_20_code 7 = .ok (.ifCond .eq 9, 3) := by decide +kernel
theorem dX_take_10 : decode prog_1_method_20_code 10 = .ok (.aload_n 0, 1) := by decide +kernel
theorem dX_take_11 : decode prog_1_method_20_code 11 = .ok (.iload_n 2, 1) := by decide +kernel
theorem dX_take_12 : decode prog_1_method_20_code 12 = .ok (.invokevirtual 115, 3) := by decide +kernel
theorem dX_take_15 : decode prog_1_method_20_code 15 = .ok (.ireturn, 1) := by decide +kernel
theorem dX_take_16 : decode prog_1_method_20_code 16 = .ok (.aload_n 0, 1) := by decide +kernel
theorem dX_take_17 : decode prog_1_method_20_code 17 = .ok (.getfield 37, 3) := by decide +kernel
theorem dX_take_20 : decode prog_1_method_20_code 20 = .ok (.getfield 156, 3) := by decide +kernel
theorem dX_take_23 : decode prog_1_method_20_code 23 = .ok (.aload_n 0, 1) := by decide +kernel
theorem dX_take_24 : decode prog_1_method_20_code 24 = .ok (.getfield 37, 3) := by decide +kernel
theorem dX_take_27 : decode prog_1_method_20_code 27 = .ok (.getfield 241, 3) := by decide +kernel
theorem dX_take_30 : decode prog_1_method_20_code 30 = .ok (.iload_n 1, 1) := by decide +kernel
theorem dX_take_31 : decode prog_1_method_20_code 31 = .ok (.aaload, 1) := by decide +kernel
theorem dX_take_32 : decode prog_1_method_20_code 32 = .ok (.invokevirtual 166, 3) := by decide +kernel
theorem dX_take_35 : decode prog_1_method_20_code 35 = .ok (.aload_n 0, 1) := by decide +kernel
theorem dX_take_36 : decode prog_1_method_20_code 36 = .ok (.invokevirtual 121, 3) := by decide +kernel
theorem dX_take_39 : decode prog_1_method_20_code 39 = .ok (.ireturn, 1) := by decide +kernel
theorem t_X_take {d : Nat} {x1 : Int} {σ : SG} {Q : Int → SG → Prop} (h : inI x1 → (Tri d M_X_shelfTrouble [vA 0, vI x1] σ (fun r1 σ1 => (r1 = 0 → rdok 105 9 x1 ∧ Tri d M_Wd_copyFrom [vA 7, vA (13 + 2 * x1)] σ1 (fun r3 σ3 => Tri d M_X_agree [vA 0] σ3 (fun r4 σ4 => (r4 = 0 ∨ r4 = 1) ∧ Q r4 σ4))) ∧ (r1 ≠ 0 → Tri d M_X_refuse [vA 0, vI r1] σ1 (fun r5 σ5 => (r5 = 0 ∨ r5 = 1) ∧ Q r5 σ5))))) : Tri (d + 1) M_X_take [vA 0, vI x1] σ Q :=
  Tri_intro rfl (Nat.le_of_ble_eq_true rfl) (ls := [vA 0, vI x1, vU]) rfl (fun hok => L_aload_n dX_take_0 rfl (L_iload_n dX_take_1 rfl (L_callVI rfl cv_X_shelfTrouble (As := [vI x1]) rfl (tk4 130 rfl rfl) rfl (Nat.le_of_ble_eq_true rfl) dX_take_2 ⟨ob_0, Tri.mono ((h (hok _ (List.mem_of_getElem? (i := 1) rfl)))) (fun r1 σ1 q1 => L_istore_n dX_take_5 (by decide) (L_iload_n dX_take_6 rfl (L_if_eq dX_take_7 (by decide) ⟨fun c2 => L_aload_n dX_take_16 rfl (L_getF (b := 6) fw_X_37 rfl rfl (by decide) dX_take_17 ⟨ob_0, L_getF (b := 7) fw_X_156 rfl rfl (by decide) dX_take_20 ⟨ob_6, L_aload_n dX_take_23 rfl (L_getF (b := 6) fw_X_37 rfl rfl (by decide) dX_take_24 ⟨ob_0, L_getF (b := 9) fw_X_241 rfl rfl (by decide) dX_take_27 ⟨ob_6, L_iload_n dX_take_30 rfl (L_aaF (b := 13 + 2 * x1) (o := (4, 2)) (by decide) rfl (show (9 : Int) + 4 + 2 * x1 = 13 + 2 * x1 by omega) (by decide) dX_take_31 ⟨(q1.1 c2).1, L_callVV rfl cv_Wd_copyFrom (As := [vA (13 + 2 * x1)]) rfl (tk3 203 rfl rfl) rfl (Nat.le_of_ble_eq_true rfl) dX_take_32 ⟨ob_7, Tri.mono ((q1.1 c2).2) (fun r3 σ3 q3 => L_aload_n dX_take_35 rfl (L_callVI rfl cv_X_agree (As := []) rfl (tk3 15 rfl rfl) rfl (Nat.le_of_ble_eq_true rfl) dX_take_36 ⟨ob_0, Tri.mono q3 (fun r4 σ4 q4 => L_zreturn rfl dX_take_39 q4)⟩))⟩⟩)⟩⟩)⟩⟩), fun c2 => L_aload_n dX_take_10 rfl (L_iload_n dX_take_11 rfl (L_callVI rfl cv_X_refuse (As := [vI r1]) rfl (tk3 5 rfl rfl) rfl (Nat.le_of_ble_eq_true rfl) dX_take_12 ⟨ob_0, Tri.mono (q1.2 c2) (fun r5 σ5 q5 => L_zreturn rfl dX_take_15 q5)⟩))⟩)))⟩)))
theorem dX_span_0 : decode prog_1_method_21_code 0 = .ok (.aload_n 0, 1) := by decide +kernel
theorem dX_span_1 : decode prog_1_method_21_code 1 = .ok (.iload_n 1, 1) := by decide +kernel
theorem dX_span_2 : decode prog_1_method_21_code 2 = .ok (.invokevirtual 245, 3) := by decide +kernel
theorem dX_span_5 : decode prog_1_method_21_code 5 = .ok (.istore 4, 2) := by decide +kernel
theorem dX_span_7 : decode prog_1_method_21_code 7 = .ok (.iload 4, 2) := by decide +kernel
theorem dX_span_9 : decode prog_1_method_21_code 9 = .ok (.ifCond .ne 25, 3) := by decide +kernel
theorem dX_span_12 : decode prog_1_method_21_code 12 = .ok (.iload_n 2, 1) := by decide +kernel
theorem dX_span_13 : decode prog_1_method_21_code 13 = .ok (.ifCond .lt 18, 3) := by decide +kernel
theorem dX_span_16 : decode prog_1_method_21_code 16 = .ok (.iload_n 2, 1) := by decide +kernel
theorem dX_span_17 : decode prog_1_method_21_code 17 = .ok (.bipush 20, 2) := by decide +kernel
theorem dX_span_19 : decode prog_1_method_21_code 19 = .ok (.if_icmp .gt 12, 3) := by decide +kernel
theorem dX_span_22 : decode prog_1_method_21_code 22 = .ok (.iload_n 3, 1) := by decide +kernel
theorem dX_span_23 : decode prog_1_method_21_code 23 = .ok (.ifCond .lt 8, 3) := by decide +kernel
theorem dX_span_26 : decode prog_1_method_21_code 26 = .ok (.iload_n 3, 1) := by decide +kernel
theorem dX_span_27 : decode prog_1_method_21_code 27 = .ok (.iconst 2, 1) := by decide +kernel
theorem dX_span_28 : decode prog_1_method_21_code 28 = .ok (.if_icmp .le 6, 3) := by decide +kernel
theorem dX_span_31 : decode prog_1_method_21_code 31 = .ok (.iconst 5, 1) := by decide +kernel
theorem dX_span_32 : decode prog_1_method_21_code 32 = .ok (.istore 4, 2) := by decide +kernel
theorem dX_span_34 : decode prog_1_method_21_code 34 = .ok (.iload 4, 2) := by decide +kernel
theorem dX_span_36 : decode prog_1_method_21_code 36 = .ok (.ifCond .ne 11, 3) := by decide +kernel
theorem dX_span_39 : decode prog_1_method_21_code 39 = .ok (.aload_n 0, 1) := by decide +kernel
theorem dX_span_40 : decode prog_1_method_21_code 40 = .ok (.iload_n 1, 1) := by decide +kernel
theorem dX_span_41 : decode prog_1_method_21_code 41 = .ok (.iload_n 2, 1) := by decide +kernel
theorem dX_span_42 : decode prog_1_method_21_code 42 = .ok (.invokevirtual 248, 3) := by decide +kernel
theorem dX_span_45 : decode prog_1_method_21_code 45 = .ok (.istore 4, 2) := by decide +kernel
theorem dX_span_47 : decode prog_1_method_21_code 47 = .ok (.iload 4, 2) := by decide +kernel
theorem dX_span_49 : decode prog_1_method_21_code 49 = .ok (.ifCond .eq 10, 3) := by decide +kernel
theorem dX_span_52 : decode prog_1_method_21_code 52 = .ok (.aload_n 0, 1) := by decide +kernel
theorem dX_span_53 : decode prog_1_method_21_code 53 = .ok (.iload 4, 2) := by decide +kernel
theorem dX_span_55 : decode prog_1_method_21_code 55 = .ok (.invokevirtual 133, 3) := by decide +kernel
theorem dX_span_58 : decode prog_1_method_21_code 58 = .ok (.ireturn, 1) := by decide +kernel
theorem dX_span_59 : decode prog_1_method_21_code 59 = .ok (.iload_n 3, 1) := by decide +kernel
theorem dX_span_60 : decode prog_1_method_21_code 60 = .ok (.ifCond .le 31, 3) := by decide +kernel
theorem dX_span_63 : decode prog_1_method_21_code 63 = .ok (.aload_n 0, 1) := by decide +kernel
theorem dX_span_64 : decode prog_1_method_21_code 64 = .ok (.getfield 67, 3) := by decide +kernel
theorem dX_span_67 : decode prog_1_method_21_code 67 = .ok (.aload_n 0, 1) := by decide +kernel
theorem dX_span_68 : decode prog_1_method_21_code 68 = .ok (.getfield 37, 3) := by decide +kernel
theorem dX_span_71 : decode prog_1_method_21_code 71 = .ok (.getfield 156, 3) := by decide +kernel
theorem dX_span_74 : decode prog_1_method_21_code 74 = .ok (.aload_n 0, 1) := by decide +kernel
theorem dX_span_75 : decode prog_1_method_21_code 75 = .ok (.getfield 60, 3) := by decide +kernel
theorem dX_span_78 : decode prog_1_method_21_code 78 = .ok (.iload_n 3, 1) := by decide +kernel
theorem dX_span_79 : decode prog_1_method_21_code 79 = .ok (.iconst 2, 1) := by decide +kernel
theorem dX_span_80 : decode prog_1_method_21_code 80 = .ok (.if_icmp .ne 7, 3) := by decide +kernel
theorem dX_span_83 : decode prog_1_method_21_code 83 = .ok (.iconst 1, 1) := by decide +kernel
theorem dX_span_84 : decode prog_1_method_21_code 84 = .ok (.goto 4, 3) := by decide +kernel
theorem dX_span_87 : decode prog_1_method_21_code 87 = .ok (.iconst 0, 1) := by decide +kernel
theorem dX_span_88 : decode prog_1_method_21_code 88 = .ok (.invokevirtual 251, 3) := by decide +kernel
theorem dX_span_91 : decode prog_1_method_21_code 91 = .ok (.aload_n 0, 1) := by decide +kernel
theorem dX_span_92 : decode prog_1_method_21_code 92 = .ok (.aload_n 0, 1) := by decide +kernel
theorem dX_span_93 : decode prog_1_method_21_code 93 = .ok (.getfield 60, 3) := by decide +kernel
theorem dX_span_96 : decode prog_1_method_21_code 96 = .ok (.getfield 255, 3) := by decide +kernel
theorem dX_span_99 : decode prog_1_method_21_code 99 = .ok (.invokevirtual 173, 3) := by decide +kernel
theorem dX_span_102 : decode prog_1_method_21_code 102 = .ok (.ireturn, 1) := by decide +kernel
theorem t_X_span {d : Nat} {x1 x2 x3 : Int} {σ : SG} {Q : Int → SG → Prop} (h : inI x1 → inI x2 → inI x3 → (Tri d M_X_trayTrouble [vA 0, vI x1] σ (fun r1 σ1 => (r1 ≠ 0 → (r1 ≠ 0 → L (d + 1) M_X_span 47 [vA 0, vU, vU, vI x3, vI r1] [] σ1 Q) ∧ (r1 = 0 → Tri d M_X_gather [vA 0, vI x1, vI x2] σ1 (fun r4 σ4 => L (d + 1) M_X_span 47 [vA 0, vU, vU, vI x3, vI r4] [] σ4 Q))) ∧ (r1 = 0 → (x2 < 0 → ((5 : Int) ≠ 0 → L (d + 1) M_X_span 47 [vA 0, vU, vU, vI x3, vI 5] [] σ1 Q) ∧ ((5 : Int) = 0 → Tri d M_X_gather [vA 0, vI x1, vI x2] σ1 (fun r7 σ7 => L (d + 1) M_X_span 47 [vA 0, vU, vU, vI x3, vI r7] [] σ7 Q))) ∧ (0 ≤ x2 → (20 < x2 → ((5 : Int) ≠ 0 → L (d + 1) M_X_span 47 [vA 0, vU, vU, vI x3, vI 5] [] σ1 Q) ∧ ((5 : Int) = 0 → Tri d M_X_gather [vA 0, vI x1, vI x2] σ1 (fun r10 σ10 => L (d + 1) M_X_span 47 [vA 0, vU, vU, vI x3, vI r10] [] σ10 Q))) ∧ (x2 ≤ 20 → (x3 < 0 → ((5 : Int) ≠ 0 → L (d + 1) M_X_span 47 [vA 0, vU, vU, vI x3, vI 5] [] σ1 Q) ∧ ((5 : Int) = 0 → Tri d M_X_gather [vA 0, vI x1, vI x2] σ1 (fun r13 σ13 => L (d + 1) M_X_span 47 [vA 0, vU, vU, vI x3, vI r13] [] σ13 Q))) ∧ (0 ≤ x3 → (x3 ≤ 2 → (r1 ≠ 0 → L (d + 1) M_X_span 47 [vA 0, vU, vU, vI x3, vI r1] [] σ1 Q) ∧ (r1 = 0 → Tri d M_X_gather [vA 0, vI x1, vI x2] σ1 (fun r16 σ16 => L (d + 1) M_X_span 47 [vA 0, vU, vU, vI x3, vI r16] [] σ16 Q))) ∧ (2 < x3 → ((5 : Int) ≠ 0 → L (d + 1) M_X_span 47 [vA 0, vU, vU, vI x3, vI 5] [] σ1 Q) ∧ ((5 : Int) = 0 → Tri d M_X_gather [vA 0, vI x1, vI x2] σ1 (fun r18 σ18 => L (d + 1) M_X_span 47 [vA 0, vU, vU, vI x3, vI r18] [] σ18 Q)))))))))) : Tri (d + 1) M_X_span [vA 0, vI x1, vI x2, vI x3] σ Q :=
  Tri_intro rfl (Nat.le_of_ble_eq_true rfl) (ls := [vA 0, vI x1, vI x2, vI x3, vU]) rfl (fun hok => L_aload_n dX_span_0 rfl (L_iload_n dX_span_1 rfl (L_callVI rfl cv_X_trayTrouble (As := [vI x1]) rfl (tk3 27 rfl rfl) rfl (Nat.le_of_ble_eq_true rfl) dX_span_2 ⟨ob_0, Tri.mono ((h (hok _ (List.mem_of_getElem? (i := 1) rfl)) (hok _ (List.mem_of_getElem? (i := 2) rfl)) (hok _ (List.mem_of_getElem? (i := 3) rfl)))) (fun r1 σ1 q1 => L_istore dX_span_5 (by decide) (L_iload dX_span_7 rfl (L_if_ne dX_span_9 (by decide) ⟨fun c2 => L_iload dX_span_34 rfl (L_if_ne dX_span_36 (by decide) ⟨fun c3 => L_weak [true, false, false, true, true] ((q1.1 c2).1 c3), fun c3 => L_aload_n dX_span_39 rfl (L_iload_n dX_span_40 rfl (L_iload_n dX_span_41 rfl (L_callVI rfl cv_X_gather (As := [vI x1, vI x2]) rfl (tk4 138 rfl rfl) rfl (Nat.le_of_ble_eq_true rfl) dX_span_42 ⟨ob_0, Tri.mono ((q1.1 c2).2 c3) (fun r4 σ4 q4 => L_istore dX_span_45 (by decide) (L_weak [true, false, false, true, true] q4))⟩)))⟩), fun c2 => L_iload_n dX_span_12 rfl (L_if_lt dX_span_13 (by decide) ⟨fun c5 => L_iconst dX_span_31 in_5 (L_istore dX_span_32 (by decide) (L_iload dX_span_34 rfl (L_if_ne dX_span_36 (by decide) ⟨fun c6 => L_weak [true, false, false, true, true] (((q1.2 c2).1 c5).1 c6), fun c6 => L_aload_n dX_span_39 rfl (L_iload_n dX_span_40 rfl (L_iload_n dX_span_41 rfl (L_callVI rfl cv_X_gather (As := [vI x1, vI x2]) rfl (tk4 138 rfl rfl) rfl (Nat.le_of_ble_eq_true rfl) dX_span_42 ⟨ob_0, Tri.mono (((q1.2 c2).1 c5).2 c6) (fun r7 σ7 q7 => L_istore dX_span_45 (by decide) (L_weak [true, false, false, true, true] q7))⟩)))⟩))), fun c5 => L_iload_n dX_span_16 rfl (L_bipush dX_span_17 bp_20 in_20 (L_icmp_gt dX_span_19 (by decide) ⟨fun c8 => L_iconst dX_span_31 in_5 (L_istore dX_span_32 (by decide) (L_iload dX_span_34 rfl (L_if_ne dX_span_36 (by decide) ⟨fun c9 => L_weak [true, false, false, true, true] ((((q1.2 c2).2 c5).1 c8).1 c9), fun c9 => L_aload_n dX_span_39 rfl (L_iload_n dX_span_40 rfl (L_iload_n dX_span_41 rfl (L_callVI rfl cv_X_gather (As := [vI x1, vI x2]) rfl (tk4 138 rfl rfl) rfl (Nat.le_of_ble_eq_true rfl) dX_span_42 ⟨ob_0, Tri.mono ((((q1.2 c2).2 c5).1 c8).2 c9) (fun r10 σ10 q10 => L_istore dX_span_45 (by decide) (L_weak [true, false, false, true, true] q10))⟩)))⟩))), fun c8 => L_iload_n dX_span_22 rfl (L_if_lt dX_span_23 (by decide) ⟨fun c11 => L_iconst dX_span_31 in_5 (L_istore dX_span_32 (by decide) (L_iload dX_span_34 rfl (L_if_ne dX_span_36 (by decide) ⟨fun c12 => L_weak [true, false, false, true, true] (((((q1.2 c2).2 c5).2 c8).1 c11).1 c12), fun c12 => L_aload_n dX_span_39 rfl (L_iload_n dX_span_40 rfl (L_iload_n dX_span_41 rfl (L_callVI rfl cv_X_gather (As := [vI x1, vI x2]) rfl (tk4 138 rfl rfl) rfl (Nat.le_of_ble_eq_true rfl) dX_span_42 ⟨ob_0, Tri.mono (((((q1.2 c2).2 c5).2 c8).1 c11).2 c12) (fun r13 σ13 q13 => L_istore dX_span_45 (by decide) (L_weak [true, false, false, true, true] q13))⟩)))⟩))), fun c11 => L_iload_n dX_span_26 rfl (L_iconst dX_span_27 in_2 (L_icmp_le dX_span_28 (by decide) ⟨fun c14 => L_iload dX_span_34 rfl (L_if_ne dX_span_36 (by decide) ⟨fun c15 => L_weak [true, false, false, true, true] ((((((q1.2 c2).2 c5).2 c8).2 c11).1 c14).1 c15), fun c15 => L_aload_n dX_span_39 rfl (L_iload_n dX_span_40 rfl (L_iload_n dX_span_41 rfl (L_callVI rfl cv_X_gather (As := [vI x1, vI x2]) rfl (tk4 138 rfl rfl) rfl (Nat.le_of_ble_eq_true rfl) dX_span_42 ⟨ob_0, Tri.mono ((((((q1.2 c2).2 c5).2 c8).2 c11).1 c14).2 c15) (fun r16 σ16 q16 => L_istore dX_span_45 (by decide) (L_weak [true, false, false, true, true] q16))⟩)))⟩), fun c14 => L_iconst dX_span_31 in_5 (L_istore dX_span_32 (by decide) (L_iload dX_span_34 rfl (L_if_ne dX_span_36 (by decide) ⟨fun c17 => L_weak [true, false, false, true, true] ((((((q1.2 c2).2 c5).2 c8).2 c11).2 c14).1 c17), fun c17 => L_aload_n dX_span_39 rfl (L_iload_n dX_span_40 rfl (L_iload_n dX_span_41 rfl (L_callVI rfl cv_X_gather (As := [vI x1, vI x2]) rfl (tk4 138 rfl rfl) rfl (Nat.le_of_ble_eq_true rfl) dX_span_42 ⟨ob_0, Tri.mono ((((((q1.2 c2).2 c5).2 c8).2 c11).2 c14).2 c17) (fun r18 σ18 q18 => L_istore dX_span_45 (by decide) (L_weak [true, false, false, true, true] q18))⟩)))⟩)))⟩))⟩)⟩))⟩)⟩)))⟩)))
theorem s_X_span_47 {d : Nat} {x3 x4 : Int} {σ : SG} {Q : Int → SG → Prop} (h : (x4 = 0 → (x3 ≤ 0 → Tri d M_X_answer [vA 0, vI (σ 39 5)] σ (fun r3 σ3 => Q r3 σ3)) ∧ (0 < x3 → (x3 ≠ 2 → Tri d M_An_closeUp [vA 42, vA 7, vA 39, vI 0] σ (fun r5 σ5 => Tri d M_X_answer [vA 0, vI (σ5 39 5)] σ5 (fun r6 σ6 => Q r6 σ6))) ∧ (x3 = 2 → Tri d M_An_closeUp [vA 42, vA 7, vA 39, vI 1] σ (fun r7 σ7 => Tri d M_X_answer [vA 0, vI (σ7 39 5)] σ7 (fun r8 σ8 => Q r8 σ8))))) ∧ (x4 ≠ 0 → Tri d M_X_fail [vA 0, vI x4] σ (fun r9 σ9 => Q r9 σ9))) : L (d + 1) M_X_span 47 [vA 0, vU, vU, vI x3, vI x4] [] σ Q :=
  L_iload dX_span_47 rfl (L_if_eq dX_span_49 (by decide) ⟨fun c1 => L_iload_n dX_span_59 rfl (L_if_le dX_span_60 (by decide) ⟨fun c2 => L_aload_n dX_span_91 rfl (L_aload_n dX_span_92 rfl (L_getF (b := 39) fw_X_60 rfl rfl (by decide) dX_span_93 ⟨ob_0, L_getf fw_X_255 rfl dX_span_96 ⟨ob_39, L_callVI rfl cv_X_answer (As := [vI (σ 39 5)]) rfl (tk3 208 rfl rfl) rfl (Nat.le_of_ble_eq_true rfl) dX_span_99 ⟨ob_0, Tri.mono ((h.1 c1).1 c2) (fun r3 σ3 q3 => L_ireturn rfl dX_span_102 q3)⟩⟩⟩)), fun c2 => L_aload_n dX_span_63 rfl (L_getF (b := 42) fw_X_67 rfl rfl (by decide) dX_span_64 ⟨ob_0, L_aload_n dX_span_67 rfl (L_getF (b := 6) fw_X_37 rfl rfl (by decide) dX_span_68 ⟨ob_0, L_getF (b := 7) fw_X_156 rfl rfl (by decide) dX_span_71 ⟨ob_6, L_aload_n dX_span_74 rfl (L_getF (b := 39) fw_X_60 rfl rfl (by decide) dX_span_75 ⟨ob_0, L_iload_n dX_span_78 rfl (L_iconst dX_span_79 in_2 (L_icmp_ne dX_span_80 (by decide) ⟨fun c4 => L_iconst dX_span_87 in_0 (L_callVV rfl cv_An_closeUp (As := [vA 7, vA 39, vI 0]) rfl (tk4 167 rfl rfl) rfl (Nat.le_of_ble_eq_true rfl) dX_span_88 ⟨ob_42, Tri.mono (((h.1 c1).2 c2).1 c4) (fun r5 σ5 q5 => L_aload_n dX_span_91 rfl (L_aload_n dX_span_92 rfl (L_getF (b := 39) fw_X_60 rfl rfl (by decide) dX_span_93 ⟨ob_0, L_getf fw_X_255 rfl dX_span_96 ⟨ob_39, L_callVI rfl cv_X_answer (As := [vI (σ5 39 5)]) rfl (tk3 208 rfl rfl) rfl (Nat.le_of_ble_eq_true rfl) dX_span_99 ⟨ob_0, Tri.mono q5 (fun r6 σ6 q6 => L_ireturn rfl dX_span_102 q6)⟩⟩⟩)))⟩), fun c4 => L_iconst dX_span_83 in_1 (L_goto dX_span_84 (by decide) (L_callVV rfl cv_An_closeUp (As := [vA 7, vA 39, vI 1]) rfl (tk4 167 rfl rfl) rfl (Nat.le_of_ble_eq_true rfl) dX_span_88 ⟨ob_42, Tri.mono (((h.1 c1).2 c2).2 c4) (fun r7 σ7 q7 => L_aload_n dX_span_91 rfl (L_aload_n dX_span_92 rfl (L_getF (b := 39) fw_X_60 rfl rfl (by decide) dX_span_93 ⟨ob_0, L_getf fw_X_255 rfl dX_span_96 ⟨ob_39, L_callVI rfl cv_X_answer (As := [vI (σ7 39 5)]) rfl (tk3 208 rfl rfl) rfl (Nat.le_of_ble_eq_true rfl) dX_span_99 ⟨ob_0, Tri.mono q7 (fun r8 σ8 q8 => L_ireturn rfl dX_span_102 q8)⟩⟩⟩)))⟩))⟩))⟩)⟩⟩)⟩)⟩), fun c1 => L_aload_n dX_span_52 rfl (L_iload dX_span_53 rfl (L_callVI rfl cv_X_fail (As := [vI x4]) rfl (tk3 38 rfl rfl) rfl (Nat.le_of_ble_eq_true rfl) dX_span_55 ⟨ob_0, Tri.mono (h.2 c1) (fun r9 σ9 q9 => L_ireturn rfl dX_span_58 q9)⟩))⟩)
theorem dX_derived_0 : decode prog_1_method_22_code 0 = .ok (.aload_n 0, 1) := by decide +kernel
theorem dX_derived_1 : decode prog_1_method_22_code 1 = .ok (.iload_n 1, 1) := by decide +kernel
theorem dX_derived_2 : decode prog_1_method_22_code 2 = .ok (.iconst 0, 1) := by decide +kernel
theorem dX_derived_3 : decode prog_1_method_22_code 3 = .ok (.invokevirtual 258, 3) := by decide +kernel
theorem dX_derived_6 : decode prog_1_method_22_code 6 = .ok (.ireturn, 1) := by decide +kernel
theorem t_X_derived {d : Nat} {x1 : Int} {σ : SG} {Q : Int → SG → Prop} (h : inI x1 → (Tri d M_X_seriesAnswer [vA 0, vI x1, vI 0] σ (fun r1 σ1 => Q r1 σ1))) : Tri (d + 1) M_X_derived [vA 0, vI x1] σ Q :=
  Tri_intro rfl (Nat.le_of_ble_eq_true rfl) (ls := [vA 0, vI x1]) rfl (fun hok => L_aload_n dX_derived_0 rfl (L_iload_n dX_derived_1 rfl (L_iconst dX_derived_2 in_0 (L_callVI rfl cv_X_seriesAnswer (As := [vI x1, vI 0]) rfl (tk4 188 rfl rfl) rfl (Nat.le_of_ble_eq_true rfl) dX_derived_3 ⟨ob_0, Tri.mono ((h (hok _ (List.mem_of_getElem? (i := 1) rfl)))) (fun r1 σ1 q1 => L_ireturn rfl dX_derived_6 q1)⟩))))
theorem dX_lower_0 : decode prog_1_method_23_code 0 = .ok (.aload_n 0, 1) := by decide +kernel
theorem dX_lower_1 : decode prog_1_method_23_code 1 = .ok (.iload_n 1, 1) := by decide +kernel
theorem dX_lower_2 : decode prog_1_method_23_code 2 = .ok (.iconst 1, 1) := by decide +kernel
theorem dX_lower_3 : decode prog_1_method_23_code 3 = .ok (.invokevirtual 258, 3) := by decide +kernel
theorem dX_lower_6 : decode prog_1_method_23_code 6 = .ok (.ireturn, 1) := by decide +kernel
theorem t_X_lower {d : Nat} {x1 : Int} {σ : SG} {Q : Int → SG → Prop} (h : inI x1 → (Tri d M_X_seriesAnswer [vA 0, vI x1, vI 1] σ (fun r1 σ1 => Q r1 σ1))) : Tri (d + 1) M_X_lower [vA 0, vI x1] σ Q :=
  Tri_intro rfl (Nat.le_of_ble_eq_true rfl) (ls := [vA 0, vI x1]) rfl (fun hok => L_aload_n dX_lower_0 rfl (L_iload_n dX_lower_1 rfl (L_iconst dX_lower_2 in_1 (L_callVI rfl cv_X_seriesAnswer (As := [vI x1, vI 1]) rfl (tk4 188 rfl rfl) rfl (Nat.le_of_ble_eq_true rfl) dX_lower_3 ⟨ob_0, Tri.mono ((h (hok _ (List.mem_of_getElem? (i := 1) rfl)))) (fun r1 σ1 q1 => L_ireturn rfl dX_lower_6 q1)⟩))))
theorem dX_centre_0 : decode prog_1_method_24_code 0 = .ok (.aload_n 0, 1) := by decide +kernel
theorem dX_centre_1 : decode prog_1_method_24_code 1 = .ok (.aload_n 0, 1) := by decide +kernel
theorem dX_centre_2 : decode prog_1_method_24_code 2 = .ok (.getfield 67, 3) := by decide +kernel
theorem dX_centre_5 : decode prog_1_method_24_code 5 = .ok (.aload_n 0, 1) := by decide +kernel
theorem dX_centre_6 : decode prog_1_method_24_code 6 = .ok (.getfield 37, 3) := by decide +kernel
theorem dX_centre_9 : decode prog_1_method_24_code 9 = .ok (.getfield 156, 3) := by decide +kernel
theorem dX_centre_12 : decode prog_1_method_24_code 12 = .ok (.invokevirtual 262, 3) := by decide +kernel
theorem dX_centre_15 : decode prog_1_method_24_code 15 = .ok (.invokevirtual 173, 3) := by decide +kernel
theorem dX_centre_18 : decode prog_1_method_24_code 18 = .ok (.ireturn, 1) := by decide +kernel
theorem t_X_centre {d : Nat} {σ : SG} {Q : Int → SG → Prop} (h : Tri d M_An_centreSize [vA 42, vA 7] σ (fun r1 σ1 => Tri d M_X_answer [vA 0, vI r1] σ1 (fun r2 σ2 => Q r2 σ2))) : Tri (d + 1) M_X_centre [vA 0] σ Q :=
  Tri_intro rfl (Nat.le_of_ble_eq_true rfl) (ls := [vA 0]) rfl (fun hok => L_aload_n dX_centre_0 rfl (L_aload_n dX_centre_1 rfl (L_getF (b := 42) fw_X_67 rfl rfl (by decide) dX_centre_2 ⟨ob_0, L_aload_n dX_centre_5 rfl (L_getF (b := 6) fw_X_37 rfl rfl (by decide) dX_centre_6 ⟨ob_0, L_getF (b := 7) fw_X_156 rfl rfl (by decide) dX_centre_9 ⟨ob_6, L_callVI rfl cv_An_centreSize (As := [vA 7]) rfl (tk4 219 rfl rfl) rfl (Nat.le_of_ble_eq_true rfl) dX_centre_12 ⟨ob_42, Tri.mono (h) (fun r1 σ1 q1 => L_callVI rfl cv_X_answer (As := [vI r1]) rfl (tk3 208 rfl rfl) rfl (Nat.le_of_ble_eq_true rfl) dX_centre_15 ⟨ob_0, Tri.mono q1 (fun r2 σ2 q2 => L_ireturn rfl dX_centre_18 q2)⟩)⟩⟩⟩)⟩)))
theorem dX_centralizer_0 : decode prog_1_method_25_code 0 = .ok (.aload_n 0, 1) := by decide +kernel
theorem dX_centralizer_1 : decode prog_1_method_25_code 1 = .ok (.iload_n 1, 1) := by decide +kernel
theorem dX_centralizer_2 : decode prog_1_method_25_code 2 = .ok (.i2l, 1) := by decide +kernel
theorem dX_centralizer_3 : decode prog_1_method_25_code 3 = .ok (.invokevirtual 216, 3) := by decide +kernel
theorem dX_centralizer_6 : decode prog_1_method_25_code 6 = .ok (.ifCond .ne 9, 3) := by decide +kernel
theorem dX_centralizer_9 : decode prog_1_method_25_code 9 = .ok (.aload_n 0, 1) := by decide +kernel
theorem dX_centralizer_10 : decode prog_1_method_25_code 10 = .ok (.iconst 2, 1) := by decide +kernel
theorem dX_centralizer_11 : decode prog_1_method_25_code 11 = .ok (.invokevirtual 133, 3) := by decide +kernel
theorem dX_centralizer_14 : decode prog_1_method_25_code 14 = .ok (.ireturn, 1) := by decide +kernel
theorem dX_centralizer_15 : decode prog_1_method_25_code 15 = .ok (.aload_n 0, 1) := by decide +kernel
theorem dX_centralizer_16 : decode prog_1_method_25_code 16 = .ok (.aload_n 0, 1) := by decide +kernel
theorem dX_centralizer_17 : decode prog_1_method_25_code 17 = .ok (.getfield 67, 3) := by decide +kernel
theorem dX_centralizer_20 : decode prog_1_method_25_code 20 = .ok (.aload_n 0, 1) := by decide +kernel
theorem dX_centralizer_21 : decode prog_1_method_25_code 21 = .ok (.getfield 37, 3) := by decide +kernel
theorem dX_centralizer_24 : decode prog_1_method_25_code 24 = .ok (.getfield 156, 3) := by decide +kernel
theorem dX_centralizer_27 : decode prog_1_method_25_code 27 = .ok (.iload_n 1, 1) := by decide +kernel
theorem dX_centralizer_28 : decode prog_1_method_25_code 28 = .ok (.invokevirtual 266, 3) := by decide +kernel
theorem dX_centralizer_31 : decode prog_1_method_25_code 31 = .ok (.invokevirtual 173, 3) := by decide +kernel
theorem dX_centralizer_34 : decode prog_1_method_25_code 34 = .ok (.ireturn, 1) := by decide +kernel
theorem t_X_centralizer {d : Nat} {x1 : Int} {σ : SG} {Q : Int → SG → Prop} (h : inI x1 → (Tri d M_X_isVector [vA 0, vJ x1] σ (fun r1 σ1 => (r1 ≠ 0 → Tri d M_An_centralizerSize [vA 42, vA 7, vI x1] σ1 (fun r3 σ3 => Tri d M_X_answer [vA 0, vI r3] σ3 (fun r4 σ4 => Q r4 σ4))) ∧ (r1 = 0 → Tri d M_X_fail [vA 0, vI 2] σ1 (fun r5 σ5 => Q r5 σ5))))) : Tri (d + 1) M_X_centralizer [vA 0, vI x1] σ Q :=
  Tri_intro rfl (Nat.le_of_ble_eq_true rfl) (ls := [vA 0, vI x1]) rfl (fun hok => L_aload_n dX_centralizer_0 rfl (L_iload_n dX_centralizer_1 rfl (L_i2l dX_centralizer_2 (L_callVI rfl cv_X_isVector (As := [vJ x1]) rfl (tk4 71 rfl rfl) rfl (Nat.le_of_ble_eq_true rfl) dX_centralizer_3 ⟨ob_0, Tri.mono ((h (hok _ (List.mem_of_getElem? (i := 1) rfl)))) (fun r1 σ1 q1 => L_if_ne dX_centralizer_6 (by decide) ⟨fun c2 => L_aload_n dX_centralizer_15 rfl (L_aload_n dX_centralizer_16 rfl (L_getF (b := 42) fw_X_67 rfl rfl (by decide) dX_centralizer_17 ⟨ob_0, L_aload_n dX_centralizer_20 rfl (L_getF (b := 6) fw_X_37 rfl rfl (by decide) dX_centralizer_21 ⟨ob_0, L_getF (b := 7) fw_X_156 rfl rfl (by decide) dX_centralizer_24 ⟨ob_6, L_iload_n dX_centralizer_27 rfl (L_callVI rfl cv_An_centralizerSize (As := [vA 7, vI x1]) rfl (tk4 236 rfl rfl) rfl (Nat.le_of_ble_eq_true rfl) dX_centralizer_28 ⟨ob_42, Tri.mono (q1.1 c2) (fun r3 σ3 q3 => L_callVI rfl cv_X_answer (As := [vI r3]) rfl (tk3 208 rfl rfl) rfl (Nat.le_of_ble_eq_true rfl) dX_centralizer_31 ⟨ob_0, Tri.mono q3 (fun r4 σ4 q4 => L_ireturn rfl dX_centralizer_34 q4)⟩)⟩)⟩⟩)⟩)), fun c2 => L_aload_n dX_centralizer_9 rfl (L_iconst dX_centralizer_10 in_2 (L_callVI rfl cv_X_fail (As := [vI 2]) rfl (tk3 38 rfl rfl) rfl (Nat.le_of_ble_eq_true rfl) dX_centralizer_11 ⟨ob_0, Tri.mono (q1.2 c2) (fun r5 σ5 q5 => L_ireturn rfl dX_centralizer_14 q5)⟩))⟩)⟩))))
theorem dX_is_0 : decode prog_1_method_26_code 0 = .ok (.iload_n 1, 1) := by decide +kernel
theorem dX_is_1 : decode prog_1_method_26_code 1 = .ok (.ifCond .lt 8, 3) := by decide +kernel
theorem dX_is_4 : decode prog_1_method_26_code 4 = .ok (.iload_n 1, 1) := by decide +kernel
theorem dX_is_5 : decode prog_1_method_26_code 5 = .ok (.iconst 5, 1) := by decide +kernel
theorem dX_is_6 : decode prog_1_method_26_code 6 = .ok (.if_icmp .le 9, 3) := by decide +kernel
theorem dX_is_9 : decode prog_1_method_26_code 9 = .ok (.aload_n 0, 1) := by decide +kernel
theorem dX_is_10 : decode prog_1_method_26_code 10 = .ok (.iconst 5, 1) := by decide +kernel
theorem dX_is_11 : decode prog_1_method_26_code 11 = .ok (.invokevirtual 133, 3) := by decide +kernel
theorem dX_is_14 : decode prog_1_method_26_code 14 = .ok (.ireturn, 1) := by decide +kernel
theorem dX_is_15 : decode prog_1_method_26_code 15 = .ok (.aload_n 0, 1) := by decide +kernel
theorem dX_is_16 : decode prog_1_method_26_code 16 = .ok (.getfield 37, 3) := by decide +kernel
theorem dX_is_19 : decode prog_1_method_26_code 19 = .ok (.getfield 156, 3) := by decide +kernel
theorem dX_is_22 : decode prog_1_method_26_code 22 = .ok (.astore_n 2, 1) := by decide +kernel
theorem dX_is_23 : decode prog_1_method_26_code 23 = .ok (.iload_n 1, 1) := by decide +kernel
theorem dX_is_24 : decode prog_1_method_26_code 24 = .ok (.tableswitch 134 0 4 #[36, 52, 74, 96, 122], 36) := by decide +kernel
theorem dX_is_60 : decode prog_1_method_26_code 60 = .ok (.aload_n 2, 1) := by decide +kernel
theorem dX_is_61 : decode prog_1_method_26_code 61 = .ok (.invokevirtual 198, 3) := by decide +kernel
theorem dX_is_64 : decode prog_1_method_26_code 64 = .ok (.ifCond .ne 7, 3) := by decide +kernel
theorem dX_is_67 : decode prog_1_method_26_code 67 = .ok (.iconst 1, 1) := by decide +kernel
theorem dX_is_68 : decode prog_1_method_26_code 68 = .ok (.goto 4, 3) := by decide +kernel
theorem dX_is_71 : decode prog_1_method_26_code 71 = .ok (.iconst 0, 1) := by decide +kernel
theorem dX_is_72 : decode prog_1_method_26_code 72 = .ok (.istore_n 3, 1) := by decide +kernel
theorem dX_is_73 : decode prog_1_method_26_code 73 = .ok (.goto 94, 3) := by decide +kernel
theorem dX_is_76 : decode prog_1_method_26_code 76 = .ok (.aload_n 0, 1) := by decide +kernel
theorem dX_is_77 : decode prog_1_method_26_code 77 = .ok (.getfield 67, 3) := by decide +kernel
theorem dX_is_80 : decode prog_1_method_26_code 80 = .ok (.aload_n 2, 1) := by decide +kernel
theorem dX_is_81 : decode prog_1_method_26_code 81 = .ok (.iconst 5, 1) := by decide +kernel
theorem dX_is_82 : decode prog_1_method_26_code 82 = .ok (.iconst 1, 1) := by decide +kernel
theorem dX_is_83 : decode prog_1_method_26_code 83 = .ok (.invokevirtual 270, 3) := by decide +kernel
theorem dX_is_86 : decode prog_1_method_26_code 86 = .ok (.ifCond .ne 7, 3) := by decide +kernel
theorem dX_is_89 : decode prog_1_method_26_code 89 = .ok (.iconst 1, 1) := by decide +kernel
theorem dX_is_90 : decode prog_1_method_26_code 90 = .ok (.goto 4, 3) := by decide +kernel
theorem dX_is_93 : decode prog_1_method_26_code 93 = .ok (.iconst 0, 1) := by decide +kernel
theorem dX_is_94 : decode prog_1_method_26_code 94 = .ok (.istore_n 3, 1) := by decide +kernel
theorem dX_is_95 : decode prog_1_method_26_code 95 = .ok (.goto 72, 3) := by decide +kernel
theorem dX_is_98 : decode prog_1_method_26_code 98 = .ok (.aload_n 0, 1) := by decide +kernel
theorem dX_is_99 : decode prog_1_method_26_code 99 = .ok (.getfield 67, 3) := by decide +kernel
theorem dX_is_102 : decode prog_1_method_26_code 102 = .ok (.aload_n 2, 1) := by decide +kernel
theorem dX_is_103 : decode prog_1_method_26_code 103 = .ok (.iconst 5, 1) := by decide +kernel
theorem dX_is_104 : decode prog_1_method_26_code 104 = .ok (.iconst 0, 1) := by decide +kernel
theorem dX_is_105 : decode prog_1_method_26_code 105 = .ok (.invokevirtual 270, 3) := by decide +kernel
theorem dX_is_108 : decode prog_1_method_26_code 108 = .ok (.ifCond .ne 7, 3) := by decide +kernel
theorem dX_is_111 : decode prog_1_method_26_code 111 = .ok (.iconst 1, 1) := by decide +kernel
theorem dX_is_112 : decode prog_1_method_26_code 112 = .ok (.goto 4, 3) := by decide +kernel
theorem dX_is_115 : decode prog_1_method_26_code 115 = .ok (.iconst 0, 1) := by decide +kernel
theorem dX_is_116 : decode prog_1_method_26_code 116 = .ok (.istore_n 3, 1) := by decide +kernel
theorem dX_is_117 : decode prog_1_method_26_code 117 = .ok (.goto 50, 3) := by decide +kernel
theorem dX_is_120 : decode prog_1_method_26_code 120 = .ok (.aload_n 0, 1) := by decide +kernel
theorem dX_is_121 : decode prog_1_method_26_code 121 = .ok (.getfield 67, 3) := by decide +kernel
theorem dX_is_124 : decode prog_1_method_26_code 124 = .ok (.aload_n 2, 1) := by decide +kernel
theorem dX_is_125 : decode prog_1_method_26_code 125 = .ok (.iconst 1, 1) := by decide +kernel
theorem dX_is_126 : decode prog_1_method_26_code 126 = .ok (.iconst 0, 1) := by decide +kernel
theorem dX_is_127 : decode prog_1_method_26_code 127 = .ok (.invokevirtual 270, 3) := by decide +kernel
theorem dX_is_130 : decode prog_1_method_26_code 130 = .ok (.aload_n 2, 1) := by decide +kernel
theorem dX_is_131 : decode prog_1_method_26_code 131 = .ok (.getfield 170, 3) := by decide +kernel
theorem dX_is_134 : decode prog_1_method_26_code 134 = .ok (.if_icmp .ne 7, 3) := by decide +kernel
theorem dX_is_137 : decode prog_1_method_26_code 137 = .ok (.iconst 1, 1) := by decide +kernel
theorem dX_is_138 : decode prog_1_method_26_code 138 = .ok (.goto 4, 3) := by decide +kernel
theorem dX_is_141 : decode prog_1_method_26_code 141 = .ok (.iconst 0, 1) := by decide +kernel
theorem dX_is_142 : decode prog_1_method_26_code 142 = .ok (.istore_n 3, 1) := by decide +kernel
theorem dX_is_143 : decode prog_1_method_26_code 143 = .ok (.goto 24, 3) := by decide +kernel
theorem dX_is_146 : decode prog_1_method_26_code 146 = .ok (.aload_n 0, 1) := by decide +kernel
theorem dX_is_147 : decode prog_1_method_26_code 147 = .ok (.getfield 67, 3) := by decide +kernel
theorem dX_is_150 : decode prog_1_method_26_code 150 = .ok (.aload_n 2, 1) := by decide +kernel
theorem dX_is_151 : decode prog_1_method_26_code 151 = .ok (.invokevirtual 274, 3) := by decide +kernel
theorem dX_is_154 : decode prog_1_method_26_code 154 = .ok (.istore_n 3, 1) := by decide +kernel
theorem dX_is_155 : decode prog_1_method_26_code 155 = .ok (.goto 12, 3) := by decide +kernel
theorem dX_is_158 : decode prog_1_method_26_code 158 = .ok (.aload_n 0, 1) := by decide +kernel
theorem dX_is_159 : decode prog_1_method_26_code 159 = .ok (.getfield 74, 3) := by decide +kernel
theorem dX_is_162 : decode prog_1_method_26_code 162 = .ok (.aload_n 2, 1) := by decide +kernel
theorem dX_is_163 : decode prog_1_method_26_code 163 = .ok (.invokevirtual 278, 3) := by decide +kernel
theorem dX_is_166 : decode prog_1_method_26_code 166 = .ok (.istore_n 3, 1) := by decide +kernel
theorem dX_is_167 : decode prog_1_method_26_code 167 = .ok (.aload_n 0, 1) := by decide +kernel
theorem dX_is_168 : decode prog_1_method_26_code 168 = .ok (.iload_n 3, 1) := by decide +kernel
theorem dX_is_169 : decode prog_1_method_26_code 169 = .ok (.ifCond .eq 7, 3) := by decide +kernel
theorem dX_is_172 : decode prog_1_method_26_code 172 = .ok (.iconst 1, 1) := by decide +kernel
theorem dX_is_173 : decode prog_1_method_26_code 173 = .ok (.goto 4, 3) := by decide +kernel
theorem dX_is_176 : decode prog_1_method_26_code 176 = .ok (.iconst 0, 1) := by decide +kernel
theorem dX_is_177 : decode prog_1_method_26_code 177 = .ok (.invokevirtual 173, 3) := by decide +kernel
theorem dX_is_180 : decode prog_1_method_26_code 180 = .ok (.ireturn, 1) := by decide +kernel
theorem t_X_is {d : Nat} {x1 : Int} {σ : SG} {Q : Int → SG → Prop} (h : inI x1 → ((x1 < 0 → Tri d M_X_fail [vA 0, vI 5] σ (fun r2 σ2 => Q r2 σ2)) ∧ (0 ≤ x1 → (x1 ≤ 5 → ((x1 < 0 ∨ 4 < x1) → Tri d M_Me_isUnimodular [vA 68, vA 7] σ (fun r5 σ5 => (r5 = 0 → Tri d M_X_answer [vA 0, vI 0] σ5 (fun r7 σ7 => Q r7 σ7)) ∧ (r5 ≠ 0 → Tri d M_X_answer [vA 0, vI 1] σ5 (fun r8 σ8 => Q r8 σ8)))) ∧ (x1 = 0 → Tri d M_Wd_countCells [vA 7] σ (fun r9 σ9 => (r9 ≠ 0 → ((0 : Int) = 0 → Tri d M_X_answer [vA 0, vI 0] σ9 (fun r12 σ12 => Q r12 σ12)) ∧ ((0 : Int) ≠ 0 → Tri d M_X_answer [vA 0, vI 1] σ9 (fun r13 σ13 => Q r13 σ13))) ∧ (r9 = 0 → ((1 : Int) = 0 → Tri d M_X_answer [vA 0, vI 0] σ9 (fun r15 σ15 => Q r15 σ15)) ∧ ((1 : Int) ≠ 0 → Tri d M_X_answer [vA 0, vI 1] σ9 (fun r16 σ16 => Q r16 σ16))))) ∧ (x1 = 1 → Tri d M_An_wholeSeries [vA 42, vA 7, vI 5, vI 1] σ (fun r17 σ17 => (r17 ≠ 0 → ((0 : Int) = 0 → Tri d M_X_answer [vA 0, vI 0] σ17 (fun r20 σ20 => Q r20 σ20)) ∧ ((0 : Int) ≠ 0 → Tri d M_X_answer [vA 0, vI 1] σ17 (fun r21 σ21 => Q r21 σ21))) ∧ (r17 = 0 → ((1 : Int) = 0 → Tri d M_X_answer [vA 0, vI 0] σ17 (fun r23 σ23 => Q r23 σ23)) ∧ ((1 : Int) ≠ 0 → Tri d M_X_answer [vA 0, vI 1] σ17 (fun r24 σ24 => Q r24 σ24))))) ∧ (x1 = 2 → Tri d M_An_wholeSeries [vA 42, vA 7, vI 5, vI 0] σ (fun r25 σ25 => (r25 ≠ 0 → ((0 : Int) = 0 → Tri d M_X_answer [vA 0, vI 0] σ25 (fun r28 σ28 => Q r28 σ28)) ∧ ((0 : Int) ≠ 0 → Tri d M_X_answer [vA 0, vI 1] σ25 (fun r29 σ29 => Q r29 σ29))) ∧ (r25 = 0 → ((1 : Int) = 0 → Tri d M_X_answer [vA 0, vI 0] σ25 (fun r31 σ31 => Q r31 σ31)) ∧ ((1 : Int) ≠ 0 → Tri d M_X_answer [vA 0, vI 1] σ25 (fun r32 σ32 => Q r32 σ32))))) ∧ (x1 = 3 → Tri d M_An_wholeSeries [vA 42, vA 7, vI 1, vI 0] σ (fun r33 σ33 => (r33 ≠ σ33 7 2 → ((0 : Int) = 0 → Tri d M_X_answer [vA 0, vI 0] σ33 (fun r36 σ36 => Q r36 σ36)) ∧ ((0 : Int) ≠ 0 → Tri d M_X_answer [vA 0, vI 1] σ33 (fun r37 σ37 => Q r37 σ37))) ∧ (r33 = σ33 7 2 → ((1 : Int) = 0 → Tri d M_X_answer [vA 0, vI 0] σ33 (fun r39 σ39 => Q r39 σ39)) ∧ ((1 : Int) ≠ 0 → Tri d M_X_answer [vA 0, vI 1] σ33 (fun r40 σ40 => Q r40 σ40))))) ∧ (x1 = 4 → Tri d M_An_isSimple [vA 42, vA 7] σ (fun r41 σ41 => (r41 = 0 → Tri d M_X_answer [vA 0, vI 0] σ41 (fun r43 σ43 => Q r43 σ43)) ∧ (r41 ≠ 0 → Tri d M_X_answer [vA 0, vI 1] σ41 (fun r44 σ44 => Q r44 σ44))))) ∧ (5 < x1 → Tri d M_X_fail [vA 0, vI 5] σ (fun r45 σ45 => Q r45 σ45))))) : Tri (d + 1) M_X_is [vA 0, vI x1] σ Q :=
  Tri_intro rfl (Nat.le_of_ble_eq_true rfl) (ls := [vA 0, vI x1, vU, vU]) rfl (fun hok => L_iload_n dX_is_0 rfl (L_if_lt dX_is_1 (by decide) ⟨fun c1 => L_aload_n dX_is_9 rfl (L_iconst dX_is_10 in_5 (L_callVI rfl cv_X_fail (As := [vI 5]) rfl (tk3 38 rfl rfl) rfl (Nat.le_of_ble_eq_true rfl) dX_is_11 ⟨ob_0, Tri.mono ((h (hok _ (List.mem_of_getElem? (i := 1) rfl))).1 c1) (fun r2 σ2 q2 => L_ireturn rfl dX_is_14 q2)⟩)), fun c1 => L_iload_n dX_is_4 rfl (L_iconst dX_is_5 in_5 (L_icmp_le dX_is_6 (by decide) ⟨fun c3 => L_aload_n dX_is_15 rfl (L_getF (b := 6) fw_X_37 rfl rfl (by decide) dX_is_16 ⟨ob_0, L_getF (b := 7) fw_X_156 rfl rfl (by decide) dX_is_19 ⟨ob_6, L_astore_n dX_is_22 (by decide) (by omega) (L_iload_n dX_is_23 rfl (L_table dX_is_24 (by decide) ⟨fun c4 => L_aload_n dX_is_158 rfl (L_getF (b := 68) fw_X_74 rfl rfl (by decide) dX_is_159 ⟨ob_0, L_aload_n dX_is_162 rfl (L_callVI rfl cv_Me_isUnimodular (As := [vA 7]) rfl (tk5 12 rfl rfl) rfl (Nat.le_of_ble_eq_true rfl) dX_is_163 ⟨ob_68, Tri.mono ((((h (hok _ (List.mem_of_getElem? (i := 1) rfl))).2 c1).1 c3).1 c4) (fun r5 σ5 q5 => L_istore_n dX_is_166 (by decide) (L_aload_n dX_is_167 rfl (L_iload_n dX_is_168 rfl (L_if_eq dX_is_169 (by decide) ⟨fun c6 => L_iconst dX_is_176 in_0 (L_callVI rfl cv_X_answer (As := [vI 0]) rfl (tk3 208 rfl rfl) rfl (Nat.le_of_ble_eq_true rfl) dX_is_177 ⟨ob_0, Tri.mono (q5.1 c6) (fun r7 σ7 q7 => L_ireturn rfl dX_is_180 q7)⟩), fun c6 => L_iconst dX_is_172 in_1 (L_goto dX_is_173 (by decide) (L_callVI rfl cv_X_answer (As := [vI 1]) rfl (tk3 208 rfl rfl) rfl (Nat.le_of_ble_eq_true rfl) dX_is_177 ⟨ob_0, Tri.mono (q5.2 c6) (fun r8 σ8 q8 => L_ireturn rfl dX_is_180 q8)⟩))⟩))))⟩)⟩), fun k4 c4a c4b c4 => match k4, c4 with | 0, c4 => ⟨36, 60, rfl, by decide, L_aload_n dX_is_60 rfl (L_callVI rfl cv_Wd_countCells (As := []) rfl (tk4 41 rfl rfl) rfl (Nat.le_of_ble_eq_true rfl) dX_is_61 ⟨ob_7, Tri.mono ((((h (hok _ (List.mem_of_getElem? (i := 1) rfl))).2 c1).1 c3).2.1 (by omega)) (fun r9 σ9 q9 => L_if_ne dX_is_64 (by decide) ⟨fun c10 => L_iconst dX_is_71 in_0 (L_istore_n dX_is_72 (by decide) (L_goto dX_is_73 (by decide) (L_aload_n dX_is_167 rfl (L_iload_n dX_is_168 rfl (L_if_eq dX_is_169 (by decide) ⟨fun c11 => L_iconst dX_is_176 in_0 (L_callVI rfl cv_X_answer (As := [vI 0]) rfl (tk3 208 rfl rfl) rfl (Nat.le_of_ble_eq_true rfl) dX_is_177 ⟨ob_0, Tri.mono ((q9.1 c10).1 c11) (fun r12 σ12 q12 => L_ireturn rfl dX_is_180 q12)⟩), fun c11 => L_iconst dX_is_172 in_1 (L_goto dX_is_173 (by decide) (L_callVI rfl cv_X_answer (As := [vI 1]) rfl (tk3 208 rfl rfl) rfl (Nat.le_of_ble_eq_true rfl) dX_is_177 ⟨ob_0, Tri.mono ((q9.1 c10).2 c11) (fun r13 σ13 q13 => L_ireturn rfl dX_is_180 q13)⟩))⟩))))), fun c10 => L_iconst dX_is_67 in_1 (L_goto dX_is_68 (by decide) (L_istore_n dX_is_72 (by decide) (L_goto dX_is_73 (by decide) (L_aload_n dX_is_167 rfl (L_iload_n dX_is_168 rfl (L_if_eq dX_is_169 (by decide) ⟨fun c14 => L_iconst dX_is_176 in_0 (L_callVI rfl cv_X_answer (As := [vI 0]) rfl (tk3 208 rfl rfl) rfl (Nat.le_of_ble_eq_true rfl) dX_is_177 ⟨ob_0, Tri.mono ((q9.2 c10).1 c14) (fun r15 σ15 q15 => L_ireturn rfl dX_is_180 q15)⟩), fun c14 => L_iconst dX_is_172 in_1 (L_goto dX_is_173 (by decide) (L_callVI rfl cv_X_answer (As := [vI 1]) rfl (tk3 208 rfl rfl) rfl (Nat.le_of_ble_eq_true rfl) dX_is_177 ⟨ob_0, Tri.mono ((q9.2 c10).2 c14) (fun r16 σ16 q16 => L_ireturn rfl dX_is_180 q16)⟩))⟩))))))⟩)⟩)⟩ | 1, c4 => ⟨52, 76, rfl, by decide, L_aload_n dX_is_76 rfl (L_getF (b := 42) fw_X_67 rfl rfl (by decide) dX_is_77 ⟨ob_0, L_aload_n dX_is_80 rfl (L_iconst dX_is_81 in_5 (L_iconst dX_is_82 in_1 (L_callVI rfl cv_An_wholeSeries (As := [vA 7, vI 5, vI 1]) rfl (tk4 192 rfl rfl) rfl (Nat.le_of_ble_eq_true rfl) dX_is_83 ⟨ob_42, Tri.mono ((((h (hok _ (List.mem_of_getElem? (i := 1) rfl))).2 c1).1 c3).2.2.1 (by omega)) (fun r17 σ17 q17 => L_if_ne dX_is_86 (by decide) ⟨fun c18 => L_iconst dX_is_93 in_0 (L_istore_n dX_is_94 (by decide) (L_goto dX_is_95 (by decide) (L_aload_n dX_is_167 rfl (L_iload_n dX_is_168 rfl (L_if_eq dX_is_169 (by decide) ⟨fun c19 => L_iconst dX_is_176 in_0 (L_callVI rfl cv_X_answer (As := [vI 0]) rfl (tk3 208 rfl rfl) rfl (Nat.le_of_ble_eq_true rfl) dX_is_177 ⟨ob_0, Tri.mono ((q17.1 c18).1 c19) (fun r20 σ20 q20 => L_ireturn rfl dX_is_180 q20)⟩), fun c19 => L_iconst dX_is_172 in_1 (L_goto dX_is_173 (by decide) (L_callVI rfl cv_X_answer (As := [vI 1]) rfl (tk3 208 rfl rfl) rfl (Nat.le_of_ble_eq_true rfl) dX_is_177 ⟨ob_0, Tri.mono ((q17.1 c18).2 c19) (fun r21 σ21 q21 => L_ireturn rfl dX_is_180 q21)⟩))⟩))))), fun c18 => L_iconst dX_is_89 in_1 (L_goto dX_is_90 (by decide) (L_istore_n dX_is_94 (by decide) (L_goto dX_is_95 (by decide) (L_aload_n dX_is_167 rfl (L_iload_n dX_is_168 rfl (L_if_eq dX_is_169 (by decide) ⟨fun c22 => L_iconst dX_is_176 in_0 (L_callVI rfl cv_X_answer (As := [vI 0]) rfl (tk3 208 rfl rfl) rfl (Nat.le_of_ble_eq_true rfl) dX_is_177 ⟨ob_0, Tri.mono ((q17.2 c18).1 c22) (fun r23 σ23 q23 => L_ireturn rfl dX_is_180 q23)⟩), fun c22 => L_iconst dX_is_172 in_1 (L_goto dX_is_173 (by decide) (L_callVI rfl cv_X_answer (As := [vI 1]) rfl (tk3 208 rfl rfl) rfl (Nat.le_of_ble_eq_true rfl) dX_is_177 ⟨ob_0, Tri.mono ((q17.2 c18).2 c22) (fun r24 σ24 q24 => L_ireturn rfl dX_is_180 q24)⟩))⟩))))))⟩)⟩)))⟩)⟩ | 2, c4 => ⟨74, 98, rfl, by decide, L_aload_n dX_is_98 rfl (L_getF (b := 42) fw_X_67 rfl rfl (by decide) dX_is_99 ⟨ob_0, L_aload_n dX_is_102 rfl (L_iconst dX_is_103 in_5 (L_iconst dX_is_104 in_0 (L_callVI rfl cv_An_wholeSeries (As := [vA 7, vI 5, vI 0]) rfl (tk4 192 rfl rfl) rfl (Nat.le_of_ble_eq_true rfl) dX_is_105 ⟨ob_42, Tri.mono ((((h (hok _ (List.mem_of_getElem? (i := 1) rfl))).2 c1).1 c3).2.2.2.1 (by omega)) (fun r25 σ25 q25 => L_if_ne dX_is_108 (by decide) ⟨fun c26 => L_iconst dX_is_115 in_0 (L_istore_n dX_is_116 (by decide) (L_goto dX_is_117 (by decide) (L_aload_n dX_is_167 rfl (L_iload_n dX_is_168 rfl (L_if_eq dX_is_169 (by decide) ⟨fun c27 => L_iconst dX_is_176 in_0 (L_callVI rfl cv_X_answer (As := [vI 0]) rfl (tk3 208 rfl rfl) rfl (Nat.le_of_ble_eq_true rfl) dX_is_177 ⟨ob_0, Tri.mono ((q25.1 c26).1 c27) (fun r28 σ28 q28 => L_ireturn rfl dX_is_180 q28)⟩), fun c27 => L_iconst dX_is_172 in_1 (L_goto dX_is_173 (by decide) (L_callVI rfl cv_X_answer (As := [vI 1]) rfl (tk3 208 rfl rfl) rfl (Nat.le_of_ble_eq_true rfl) dX_is_177 ⟨ob_0, Tri.mono ((q25.1 c26).2 c27) (fun r29 σ29 q29 => L_ireturn rfl dX_is_180 q29)⟩))⟩))))), fun c26 => L_iconst dX_is_111 in_1 (L_goto dX_is_112 (by decide) (L_istore_n dX_is_116 (by decide) (L_goto dX_is_117 (by decide) (L_aload_n dX_is_167 rfl (L_iload_n dX_is_168 rfl (L_if_eq dX_is_169 (by decide) ⟨fun c30 => L_iconst dX_is_176 in_0 (L_callVI rfl cv_X_answer (As := [vI 0]) rfl (tk3 208 rfl rfl) rfl (Nat.le_of_ble_eq_true rfl) dX_is_177 ⟨ob_0, Tri.mono ((q25.2 c26).1 c30) (fun r31 σ31 q31 => L_ireturn rfl dX_is_180 q31)⟩), fun c30 => L_iconst dX_is_172 in_1 (L_goto dX_is_173 (by decide) (L_callVI rfl cv_X_answer (As := [vI 1]) rfl (tk3 208 rfl rfl) rfl (Nat.le_of_ble_eq_true rfl) dX_is_177 ⟨ob_0, Tri.mono ((q25.2 c26).2 c30) (fun r32 σ32 q32 => L_ireturn rfl dX_is_180 q32)⟩))⟩))))))⟩)⟩)))⟩)⟩ | 3, c4 => ⟨96, 120, rfl, by decide, L_aload_n dX_is_120 rfl (L_getF (b := 42) fw_X_67 rfl rfl (by decide) dX_is_121 ⟨ob_0, L_aload_n dX_is_124 rfl (L_iconst dX_is_125 in_1 (L_iconst dX_is_126 in_0 (L_callVI rfl cv_An_wholeSeries (As := [vA 7, vI 1, vI 0]) rfl (tk4 192 rfl rfl) rfl (Nat.le_of_ble_eq_true rfl) dX_is_127 ⟨ob_42, Tri.mono ((((h (hok _ (List.mem_of_getElem? (i := 1) rfl))).2 c1).1 c3).2.2.2.2.1 (by omega)) (fun r33 σ33 q33 => L_aload_n dX_is_130 rfl (L_getf fw_X_170 rfl dX_is_131 ⟨ob_7, L_icmp_ne dX_is_134 (by decide) ⟨fun c34 => L_iconst dX_is_141 in_0 (L_istore_n dX_is_142 (by decide) (L_goto dX_is_143 (by decide) (L_aload_n dX_is_167 rfl (L_iload_n dX_is_168 rfl (L_if_eq dX_is_169 (by decide) ⟨fun c35 => L_iconst dX_is_176 in_0 (L_callVI rfl cv_X_answer (As := [vI 0]) rfl (tk3 208 rfl rfl) rfl (Nat.le_of_ble_eq_true rfl) dX_is_177 ⟨ob_0, Tri.mono ((q33.1 c34).1 c35) (fun r36 σ36 q36 => L_ireturn rfl dX_is_180 q36)⟩), fun c35 => L_iconst dX_is_172 in_1 (L_goto dX_is_173 (by decide) (L_callVI rfl cv_X_answer (As := [vI 1]) rfl (tk3 208 rfl rfl) rfl (Nat.le_of_ble_eq_true rfl) dX_is_177 ⟨ob_0, Tri.mono ((q33.1 c34).2 c35) (fun r37 σ37 q37 => L_ireturn rfl dX_is_180 q37)⟩))⟩))))), fun c34 => L_iconst dX_is_137 in_1 (L_goto dX_is_138 (by decide) (L_istore_n dX_is_142 (by decide) (L_goto dX_is_143 (by decide) (L_aload_n dX_is_167 rfl (L_iload_n dX_is_168 rfl (L_if_eq dX_is_169 (by decide) ⟨fun c38 => L_iconst dX_is_176 in_0 (L_callVI rfl cv_X_answer (As := [vI 0]) rfl (tk3 208 rfl rfl) rfl (Nat.le_of_ble_eq_true rfl) dX_is_177 ⟨ob_0, Tri.mono ((q33.2 c34).1 c38) (fun r39 σ39 q39 => L_ireturn rfl dX_is_180 q39)⟩), fun c38 => L_iconst dX_is_172 in_1 (L_goto dX_is_173 (by decide) (L_callVI rfl cv_X_answer (As := [vI 1]) rfl (tk3 208 rfl rfl) rfl (Nat.le_of_ble_eq_true rfl) dX_is_177 ⟨ob_0, Tri.mono ((q33.2 c34).2 c38) (fun r40 σ40 q40 => L_ireturn rfl dX_is_180 q40)⟩))⟩))))))⟩⟩))⟩)))⟩)⟩ | 4, c4 => ⟨122, 146, rfl, by decide, L_aload_n dX_is_146 rfl (L_getF (b := 42) fw_X_67 rfl rfl (by decide) dX_is_147 ⟨ob_0, L_aload_n dX_is_150 rfl (L_callVI rfl cv_An_isSimple (As := [vA 7]) rfl (tk5 5 rfl rfl) rfl (Nat.le_of_ble_eq_true rfl) dX_is_151 ⟨ob_42, Tri.mono ((((h (hok _ (List.mem_of_getElem? (i := 1) rfl))).2 c1).1 c3).2.2.2.2.2 (by omega)) (fun r41 σ41 q41 => L_istore_n dX_is_154 (by decide) (L_goto dX_is_155 (by decide) (L_aload_n dX_is_167 rfl (L_iload_n dX_is_168 rfl (L_if_eq dX_is_169 (by decide) ⟨fun c42 => L_iconst dX_is_176 in_0 (L_callVI rfl cv_X_answer (As := [vI 0]) rfl (tk3 208 rfl rfl) rfl (Nat.le_of_ble_eq_true rfl) dX_is_177 ⟨ob_0, Tri.mono (q41.1 c42) (fun r43 σ43 q43 => L_ireturn rfl dX_is_180 q43)⟩), fun c42 => L_iconst dX_is_172 in_1 (L_goto dX_is_173 (by decide) (L_callVI rfl cv_X_answer (As := [vI 1]) rfl (tk3 208 rfl rfl) rfl (Nat.le_of_ble_eq_true rfl) dX_is_177 ⟨ob_0, Tri.mono (q41.2 c42) (fun r44 σ44 q44 => L_ireturn rfl dX_is_180 q44)⟩))⟩)))))⟩)⟩)⟩ | (n + 5), c4 => absurd c4b (by omega)⟩))⟩⟩), fun c3 => L_aload_n dX_is_9 rfl (L_iconst dX_is_10 in_5 (L_callVI rfl cv_X_fail (As := [vI 5]) rfl (tk3 38 rfl rfl) rfl (Nat.le_of_ble_eq_true rfl) dX_is_11 ⟨ob_0, Tri.mono (((h (hok _ (List.mem_of_getElem? (i := 1) rfl))).2 c1).2 c3) (fun r45 σ45 q45 => L_ireturn rfl dX_is_14 q45)⟩))⟩))⟩))
theorem dX_radical_0 : decode prog_1_method_27_code 0 = .ok (.iload_n 1, 1) := by decide +kernel
theorem dX_radical_1 : decode prog_1_method_27_code 1 = .ok (.ifCond .lt 8, 3) := by decide +kernel
theorem dX_radical_4 : decode prog_1_method_27_code 4 = .ok (.iload_n 1, 1) := by decide +kernel
theorem dX_radical_5 : decode prog_1_method_27_code 5 = .ok (.iconst 1, 1) := by decide +kernel
theorem dX_radical_6 : decode prog_1_method_27_code 6 = .ok (.if_icmp .le 9, 3) := by decide +kernel
theorem dX_radical_9 : decode prog_1_method_27_code 9 = .ok (.aload_n 0, 1) := by decide +kernel
theorem dX_radical_10 : decode prog_1_method_27_code 10 = .ok (.iconst 5, 1) := by decide +kernel
theorem dX_radical_11 : decode prog_1_method_27_code 11 = .ok (.invokevirtual 133, 3) := by decide +kernel
theorem dX_radical_14 : decode prog_1_method_27_code 14 = .ok (.ireturn, 1) := by decide +kernel
theorem dX_radical_15 : decode prog_1_method_27_code 15 = .ok (.aload_n 0, 1) := by decide +kernel
theorem dX_radical_16 : decode prog_1_method_27_code 16 = .ok (.aload_n 0, 1) := by decide +kernel
theorem dX_radical_17 : decode prog_1_method_27_code 17 = .ok (.getfield 67, 3) := by decide +kernel
theorem dX_radical_20 : decode prog_1_method_27_code 20 = .ok (.aload_n 0, 1) := by decide +kernel
theorem dX_radical_21 : decode prog_1_method_27_code 21 = .ok (.getfield 37, 3) := by decide +kernel
theorem dX_radical_24 : decode prog_1_method_27_code 24 = .ok (.getfield 156, 3) := by decide +kernel
theorem dX_radical_27 : decode prog_1_method_27_code 27 = .ok (.iload_n 1, 1) := by decide +kernel
theorem dX_radical_28 : decode prog_1_method_27_code 28 = .ok (.iconst 1, 1) := by decide +kernel
theorem dX_radical_29 : decode prog_1_method_27_code 29 = .ok (.if_icmp .ne 7, 3) := by decide +kernel
theorem dX_radical_32 : decode prog_1_method_27_code 32 = .ok (.iconst 1, 1) := by decide +kernel
theorem dX_radical_33 : decode prog_1_method_27_code 33 = .ok (.goto 4, 3) := by decide +kernel
theorem dX_radical_36 : decode prog_1_method_27_code 36 = .ok (.iconst 0, 1) := by decide +kernel
theorem dX_radical_37 : decode prog_1_method_27_code 37 = .ok (.invokevirtual 281, 3) := by decide +kernel
theorem dX_radical_40 : decode prog_1_method_27_code 40 = .ok (.invokevirtual 173, 3) := by decide +kernel
theorem dX_radical_43 : decode prog_1_method_27_code 43 = .ok (.ireturn, 1) := by decide +kernel
theorem t_X_radical {d : Nat} {x1 : Int} {σ : SG} {Q : Int → SG → Prop} (h : inI x1 → ((x1 < 0 → Tri d M_X_fail [vA 0, vI 5] σ (fun r2 σ2 => Q r2 σ2)) ∧ (0 ≤ x1 → (x1 ≤ 1 → (x1 ≠ 1 → Tri d M_An_radicalSize [vA 42, vA 7, vI 0] σ (fun r5 σ5 => Tri d M_X_answer [vA 0, vI r5] σ5 (fun r6 σ6 => Q r6 σ6))) ∧ (x1 = 1 → Tri d M_An_radicalSize [vA 42, vA 7, vI 1] σ (fun r7 σ7 => Tri d M_X_answer [vA 0, vI r7] σ7 (fun r8 σ8 => Q r8 σ8)))) ∧ (1 < x1 → Tri d M_X_fail [vA 0, vI 5] σ (fun r9 σ9 => Q r9 σ9))))) : Tri (d + 1) M_X_radical [vA 0, vI x1] σ Q :=
  Tri_intro rfl (Nat.le_of_ble_eq_true rfl) (ls := [vA 0, vI x1]) rfl (fun hok => L_iload_n dX_radical_0 rfl (L_if_lt dX_radical_1 (by decide) ⟨fun c1 => L_aload_n dX_radical_9 rfl (L_iconst dX_radical_10 in_5 (L_callVI rfl cv_X_fail (As := [vI 5]) rfl (tk3 38 rfl rfl) rfl (Nat.le_of_ble_eq_true rfl) dX_radical_11 ⟨ob_0, Tri.mono ((h (hok _ (List.mem_of_getElem? (i := 1) rfl))).1 c1) (fun r2 σ2 q2 => L_ireturn rfl dX_radical_14 q2)⟩)), fun c1 => L_iload_n dX_radical_4 rfl (L_iconst dX_radical_5 in_1 (L_icmp_le dX_radical_6 (by decide) ⟨fun c3 => L_aload_n dX_radical_15 rfl (L_aload_n dX_radical_16 rfl (L_getF (b := 42) fw_X_67 rfl rfl (by decide) dX_radical_17 ⟨ob_0, L_aload_n dX_radical_20 rfl (L_getF (b := 6) fw_X_37 rfl rfl (by decide) dX_radical_21 ⟨ob_0, L_getF (b := 7) fw_X_156 rfl rfl (by decide) dX_radical_24 ⟨ob_6, L_iload_n dX_radical_27 rfl (L_iconst dX_radical_28 in_1 (L_icmp_ne dX_radical_29 (by decide) ⟨fun c4 => L_iconst dX_radical_36 in_0 (L_callVI rfl cv_An_radicalSize (As := [vA 7, vI 0]) rfl (tk5 22 rfl rfl) rfl (Nat.le_of_ble_eq_true rfl) dX_radical_37 ⟨ob_42, Tri.mono ((((h (hok _ (List.mem_of_getElem? (i := 1) rfl))).2 c1).1 c3).1 c4) (fun r5 σ5 q5 => L_callVI rfl cv_X_answer (As := [vI r5]) rfl (tk3 208 rfl rfl) rfl (Nat.le_of_ble_eq_true rfl) dX_radical_40 ⟨ob_0, Tri.mono q5 (fun r6 σ6 q6 => L_ireturn rfl dX_radical_43 q6)⟩)⟩), fun c4 => L_iconst dX_radical_32 in_1 (L_goto dX_radical_33 (by decide) (L_callVI rfl cv_An_radicalSize (As := [vA 7, vI 1]) rfl (tk5 22 rfl rfl) rfl (Nat.le_of_ble_eq_true rfl) dX_radical_37 ⟨ob_42, Tri.mono ((((h (hok _ (List.mem_of_getElem? (i := 1) rfl))).2 c1).1 c3).2 c4) (fun r7 σ7 q7 => L_callVI rfl cv_X_answer (As := [vI r7]) rfl (tk3 208 rfl rfl) rfl (Nat.le_of_ble_eq_true rfl) dX_radical_40 ⟨ob_0, Tri.mono q7 (fun r8 σ8 q8 => L_ireturn rfl dX_radical_43 q8)⟩)⟩))⟩))⟩⟩)⟩)), fun c3 => L_aload_n dX_radical_9 rfl (L_iconst dX_radical_10 in_5 (L_callVI rfl cv_X_fail (As := [vI 5]) rfl (tk3 38 rfl rfl) rfl (Nat.le_of_ble_eq_true rfl) dX_radical_11 ⟨ob_0, Tri.mono (((h (hok _ (List.mem_of_getElem? (i := 1) rfl))).2 c1).2 c3) (fun r9 σ9 q9 => L_ireturn rfl dX_radical_14 q9)⟩))⟩))⟩))
theorem dX_parts_0 : decode prog_1_method_28_code 0 = .ok (.iload_n 1, 1) := by decide +kernel
theorem dX_parts_1 : decode prog_1_method_28_code 1 = .ok (.ifCond .lt 26, 3) := by decide +kernel
theorem dX_parts_4 : decode prog_1_method_28_code 4 = .ok (.iload_n 1, 1) := by decide +kernel
theorem dX_parts_5 : decode prog_1_method_28_code 5 = .ok (.aload_n 0, 1) := by decide +kernel
theorem dX_parts_6 : decode prog_1_method_28_code 6 = .ok (.getfield 37, 3) := by decide +kernel
theorem dX_parts_9 : decode prog_1_method_28_code 9 = .ok (.getfield 156, 3) := by decide +kernel
theorem dX_parts_12 : decode prog_1_method_28_code 12 = .ok (.getfield 170, 3) := by decide +kernel
theorem dX_parts_15 : decode prog_1_method_28_code 15 = .ok (.if_icmp .gt 12, 3) := by decide +kernel
theorem dX_parts_18 : decode prog_1_method_28_code 18 = .ok (.iload_n 2, 1) := by decide +kernel
theorem dX_parts_19 : decode prog_1_method_28_code 19 = .ok (.ifCond .lt 8, 3) := by decide +kernel
theorem dX_parts_22 : decode prog_1_method_28_code 22 = .ok (.iload_n 2, 1) := by decide +kernel
theorem dX_parts_23 : decode prog_1_method_28_code 23 = .ok (.iconst 3, 1) := by decide +kernel
theorem dX_parts_24 : decode prog_1_method_28_code 24 = .ok (.if_icmp .le 9, 3) := by decide +kernel
theorem dX_parts_27 : decode prog_1_method_28_code 27 = .ok (.aload_n 0, 1) := by decide +kernel
theorem dX_parts_28 : decode prog_1_method_28_code 28 = .ok (.iconst 5, 1) := by decide +kernel
theorem dX_parts_29 : decode prog_1_method_28_code 29 = .ok (.invokevirtual 133, 3) := by decide +kernel
theorem dX_parts_32 : decode prog_1_method_28_code 32 = .ok (.ireturn, 1) := by decide +kernel
theorem dX_parts_33 : decode prog_1_method_28_code 33 = .ok (.aload_n 0, 1) := by decide +kernel
theorem dX_parts_34 : decode prog_1_method_28_code 34 = .ok (.aload_n 0, 1) := by decide +kernel
theorem dX_parts_35 : decode prog_1_method_28_code 35 = .ok (.getfield 67, 3) := by decide +kernel
theorem dX_parts_38 : decode prog_1_method_28_code 38 = .ok (.aload_n 0, 1) := by decide +kernel
theorem dX_parts_39 : decode prog_1_method_28_code 39 = .ok (.getfield 37, 3) := by decide +kernel
theorem dX_parts_42 : decode prog_1_method_28_code 42 = .ok (.getfield 156, 3) := by decide +kernel
theorem dX_parts_45 : decode prog_1_method_28_code 45 = .ok (.iload_n 1, 1) := by decide +kernel
theorem dX_parts_46 : decode prog_1_method_28_code 46 = .ok (.iload_n 2, 1) := by decide +kernel
theorem dX_parts_47 : decode prog_1_method_28_code 47 = .ok (.invokevirtual 285, 3) := by decide +kernel
theorem dX_parts_50 : decode prog_1_method_28_code 50 = .ok (.invokevirtual 173, 3) := by decide +kernel
theorem dX_parts_53 : decode prog_1_method_28_code 53 = .ok (.ireturn, 1) := by decide +kernel
theorem t_X_parts {d : Nat} {x1 x2 : Int} {σ : SG} {Q : Int → SG → Prop} (h : inI x1 → inI x2 → ((x1 < 0 → Tri d M_X_fail [vA 0, vI 5] σ (fun r2 σ2 => Q r2 σ2)) ∧ (0 ≤ x1 → (σ 7 2 < x1 → Tri d M_X_fail [vA 0, vI 5] σ (fun r4 σ4 => Q r4 σ4)) ∧ (x1 ≤ σ 7 2 → (x2 < 0 → Tri d M_X_fail [vA 0, vI 5] σ (fun r6 σ6 => Q r6 σ6)) ∧ (0 ≤ x2 → (x2 ≤ 3 → Tri d M_An_countSpans [vA 42, vA 7, vI x1, vI x2] σ (fun r8 σ8 => Tri d M_X_answer [vA 0, vI r8] σ8 (fun r9 σ9 => Q r9 σ9))) ∧ (3 < x2 → Tri d M_X_fail [vA 0, vI 5] σ (fun r10 σ10 => Q r10 σ10))))))) : Tri (d + 1) M_X_parts [vA 0, vI x1, vI x2] σ Q :=
  Tri_intro rfl (Nat.le_of_ble_eq_true rfl) (ls := [vA 0, vI x1, vI x2]) rfl (fun hok => L_iload_n dX_parts_0 rfl (L_if_lt dX_parts_1 (by decide) ⟨fun c1 => L_aload_n dX_parts_27 rfl (L_iconst dX_parts_28 in_5 (L_callVI rfl cv_X_fail (As := [vI 5]) rfl (tk3 38 rfl rfl) rfl (Nat.le_of_ble_eq_true rfl) dX_parts_29 ⟨ob_0, Tri.mono ((h (hok _ (List.mem_of_getElem? (i := 1) rfl)) (hok _ (List.mem_of_getElem? (i := 2) rfl))).1 c1) (fun r2 σ2 q2 => L_ireturn rfl dX_parts_32 q2)⟩)), fun c1 => L_iload_n dX_parts_4 rfl (L_aload_n dX_parts_5 rfl (L_getF (b := 6) fw_X_37 rfl rfl (by decide) dX_parts_6 ⟨ob_0, L_getF (b := 7) fw_X_156 rfl rfl (by decide) dX_parts_9 ⟨ob_6, L_getf fw_X_170 rfl dX_parts_12 ⟨ob_7, L_icmp_gt dX_parts_15 (by decide) ⟨fun c3 => L_aload_n dX_parts_27 rfl (L_iconst dX_parts_28 in_5 (L_callVI rfl cv_X_fail (As := [vI 5]) rfl (tk3 38 rfl rfl) rfl (Nat.le_of_ble_eq_true rfl) dX_parts_29 ⟨ob_0, Tri.mono (((h (hok _ (List.mem_of_getElem? (i := 1) rfl)) (hok _ (List.mem_of_getElem? (i := 2) rfl))).2 c1).1 c3) (fun r4 σ4 q4 => L_ireturn rfl dX_parts_32 q4)⟩)), fun c3 => L_iload_n dX_parts_18 rfl (L_if_lt dX_parts_19 (by decide) ⟨fun c5 => L_aload_n dX_parts_27 rfl (L_iconst dX_parts_28 in_5 (L_callVI rfl cv_X_fail (As := [vI 5]) rfl (tk3 38 rfl rfl) rfl (Nat.le_of_ble_eq_true rfl) dX_parts_29 ⟨ob_0, Tri.mono ((((h (hok _ (List.mem_of_getElem? (i := 1) rfl)) (hok _ (List.mem_of_getElem? (i := 2) rfl))).2 c1).2 c3).1 c5) (fun r6 σ6 q6 => L_ireturn rfl dX_parts_32 q6)⟩)), fun c5 => L_iload_n dX_parts_22 rfl (L_iconst dX_parts_23 in_3 (L_icmp_le dX_parts_24 (by decide) ⟨fun c7 => L_aload_n dX_parts_33 rfl (L_aload_n dX_parts_34 rfl (L_getF (b := 42) fw_X_67 rfl rfl (by decide) dX_parts_35 ⟨ob_0, L_aload_n dX_parts_38 rfl (L_getF (b := 6) fw_X_37 rfl rfl (by decide) dX_parts_39 ⟨ob_0, L_getF (b := 7) fw_X_156 rfl rfl (by decide) dX_parts_42 ⟨ob_6, L_iload_n dX_parts_45 rfl (L_iload_n dX_parts_46 rfl (L_callVI rfl cv_An_countSpans (As := [vA 7, vI x1, vI x2]) rfl (tk5 71 rfl rfl) rfl (Nat.le_of_ble_eq_true rfl) dX_parts_47 ⟨ob_42, Tri.mono (((((h (hok _ (List.mem_of_getElem? (i := 1) rfl)) (hok _ (List.mem_of_getElem? (i := 2) rfl))).2 c1).2 c3).2 c5).1 c7) (fun r8 σ8 q8 => L_callVI rfl cv_X_answer (As := [vI r8]) rfl (tk3 208 rfl rfl) rfl (Nat.le_of_ble_eq_true rfl) dX_parts_50 ⟨ob_0, Tri.mono q8 (fun r9 σ9 q9 => L_ireturn rfl dX_parts_53 q9)⟩)⟩))⟩⟩)⟩)), fun c7 => L_aload_n dX_parts_27 rfl (L_iconst dX_parts_28 in_5 (L_callVI rfl cv_X_fail (As := [vI 5]) rfl (tk3 38 rfl rfl) rfl (Nat.le_of_ble_eq_true rfl) dX_parts_29 ⟨ob_0, Tri.mono (((((h (hok _ (List.mem_of_getElem? (i := 1) rfl)) (hok _ (List.mem_of_getElem? (i := 2) rfl))).2 c1).2 c3).2 c5).2 c7) (fun r10 σ10 q10 => L_ireturn rfl dX_parts_32 q10)⟩))⟩))⟩)⟩⟩⟩⟩))⟩))
theorem dX_share_0 : decode prog_1_method_29_code 0 = .ok (.iconst 0, 1) := by decide +kernel
theorem dX_share_1 : decode prog_1_method_29_code 1 = .ok (.istore_n 1, 1) := by decide +kernel
theorem dX_share_2 : decode prog_1_method_29_code 2 = .ok (.iconst 0, 1) := by decide +kernel
theorem dX_share_3 : decode prog_1_method_29_code 3 = .ok (.istore_n 2, 1) := by decide +kernel
theorem dX_share_4 : decode prog_1_method_29_code 4 = .ok (.iconst 0, 1) := by decide +kernel
theorem dX_share_5 : decode prog_1_method_29_code 5 = .ok (.istore_n 3, 1) := by decide +kernel
theorem dX_share_6 : decode prog_1_method_29_code 6 = .ok (.iload_n 3, 1) := by decide +kernel
theorem dX_share_7 : decode prog_1_method_29_code 7 = .ok (.aload_n 0, 1) := by decide +kernel
theorem dX_share_8 : decode prog_1_method_29_code 8 = .ok (.getfield 37, 3) := by decide +kernel
theorem dX_share_11 : decode prog_1_method_29_code 11 = .ok (.getfield 156, 3) := by decide +kernel
theorem dX_share_14 : decode prog_1_method_29_code 14 = .ok (.getfield 170, 3) := by decide +kernel
theorem dX_share_17 : decode prog_1_method_29_code 17 = .ok (.if_icmp .gt 47, 3) := by decide +kernel
theorem dX_share_20 : decode prog_1_method_29_code 20 = .ok (.iload_n 1, 1) := by decide +kernel
theorem dX_share_21 : decode prog_1_method_29_code 21 = .ok (.aload_n 0, 1) := by decide +kernel
theorem dX_share_22 : decode prog_1_method_29_code 22 = .ok (.getfield 67, 3) := by decide +kernel
theorem dX_share_25 : decode prog_1_method_29_code 25 = .ok (.aload_n 0, 1) := by decide +kernel
theorem dX_share_26 : decode prog_1_method_29_code 26 = .ok (.getfield 37, 3) := by decide +kernel
theorem dX_share_29 : decode prog_1_method_29_code 29 = .ok (.getfield 156, 3) := by decide +kernel
theorem dX_share_32 : decode prog_1_method_29_code 32 = .ok (.iload_n 3, 1) := by decide +kernel
theorem dX_share_33 : decode prog_1_method_29_code 33 = .ok (.iconst 0, 1) := by decide +kernel
theorem dX_share_34 : decode prog_1_method_29_code 34 = .ok (.invokevirtual 285, 3) := by decide +kernel
theorem dX_share_37 : decode prog_1_method_29_code 37 = .ok (.iadd, 1) := by decide +kernel
theorem dX_share_38 : decode prog_1_method_29_code 38 = .ok (.istore_n 1, 1) := by decide +kernel
theorem dX_share_39 : decode prog_1_method_29_code 39 = .ok (.iload_n 2, 1) := by decide +kernel
theorem dX_share_40 : decode prog_1_method_29_code 40 = .ok (.aload_n 0, 1) := by decide +kernel
theorem dX_share_41 : decode prog_1_method_29_code 41 = .ok (.getfield 67, 3) := by decide +kernel
theorem dX_share_44 : decode prog_1_method_29_code 44 = .ok (.aload_n 0, 1) := by decide +kernel
theorem dX_share_45 : decode prog_1_method_29_code 45 = .ok (.getfield 37, 3) := by decide +kernel
theorem dX_share_48 : decode prog_1_method_29_code 48 = .ok (.getfield 156, 3) := by decide +kernel
theorem dX_share_51 : decode prog_1_method_29_code 51 = .ok (.iload_n 3, 1) := by decide +kernel
theorem dX_share_52 : decode prog_1_method_29_code 52 = .ok (.iconst (-1), 1) := by decide +kernel
theorem dX_share_53 : decode prog_1_method_29_code 53 = .ok (.invokevirtual 285, 3) := by decide +kernel
theorem dX_share_56 : decode prog_1_method_29_code 56 = .ok (.iadd, 1) := by decide +kernel
theorem dX_share_57 : decode prog_1_method_29_code 57 = .ok (.istore_n 2, 1) := by decide +kernel
theorem dX_share_58 : decode prog_1_method_29_code 58 = .ok (.iinc 3 1, 3) := by decide +kernel
theorem dX_share_61 : decode prog_1_method_29_code 61 = .ok (.goto (-55), 3) := by decide +kernel
theorem dX_share_64 : decode prog_1_method_29_code 64 = .ok (.iload_n 1, 1) := by decide +kernel
theorem dX_share_65 : decode prog_1_method_29_code 65 = .ok (.iload_n 2, 1) := by decide +kernel
theorem dX_share_66 : decode prog_1_method_29_code 66 = .ok (.invokestatic 289, 3) := by decide +kernel
theorem dX_share_69 : decode prog_1_method_29_code 69 = .ok (.istore_n 3, 1) := by decide +kernel
theorem dX_share_70 : decode prog_1_method_29_code 70 = .ok (.aload_n 0, 1) := by decide +kernel
theorem dX_share_71 : decode prog_1_method_29_code 71 = .ok (.iload_n 3, 1) := by decide +kernel
theorem dX_share_72 : decode prog_1_method_29_code 72 = .ok (.iconst 1, 1) := by decide +kernel
theorem dX_share_73 : decode prog_1_method_29_code 73 = .ok (.if_icmp .ge 7, 3) := by decide +kernel
theorem dX_share_76 : decode prog_1_method_29_code 76 = .ok (.lconst 0, 1) := by decide +kernel
theorem dX_share_77 : decode prog_1_method_29_code 77 = .ok (.goto 7, 3) := by decide +kernel
theorem dX_share_80 : decode prog_1_method_29_code 80 = .ok (.iload_n 1, 1) := by decide +kernel
theorem dX_share_81 : decode prog_1_method_29_code 81 = .ok (.iload_n 3, 1) := by decide +kernel
theorem dX_share_82 : decode prog_1_method_29_code 82 = .ok (.idiv, 1) := by decide +kernel
theorem dX_share_83 : decode prog_1_method_29_code 83 = .ok (.i2l, 1) := by decide +kernel
theorem dX_share_84 : decode prog_1_method_29_code 84 = .ok (.putfield 108, 3) := by decide +kernel
theorem dX_share_87 : decode prog_1_method_29_code 87 = .ok (.aload_n 0, 1) := by decide +kernel
theorem dX_share_88 : decode prog_1_method_29_code 88 = .ok (.iload_n 3, 1) := by decide +kernel
theorem dX_share_89 : decode prog_1_method_29_code 89 = .ok (.iconst 1, 1) := by decide +kernel
theorem dX_share_90 : decode prog_1_method_29_code 90 = .ok (.if_icmp .ge 7, 3) := by decide +kernel
theorem dX_share_93 : decode prog_1_method_29_code 93 = .ok (.lconst 1, 1) := by decide +kernel
theorem dX_share_94 : decode prog_1_method_29_code 94 = .ok (.goto 7, 3) := by decide +kernel
theorem dX_share_97 : decode prog_1_method_29_code 97 = .ok (.iload_n 2, 1) := by decide +kernel
theorem dX_share_98 : decode prog_1_method_29_code 98 = .ok (.iload_n 3, 1) := by decide +kernel
theorem dX_share_99 : decode prog_1_method_29_code 99 = .ok (.idiv, 1) := by decide +kernel
theorem dX_share_100 : decode prog_1_method_29_code 100 = .ok (.i2l, 1) := by decide +kernel
theorem dX_share_101 : decode prog_1_method_29_code 101 = .ok (.putfield 7, 3) := by decide +kernel
theorem dX_share_104 : decode prog_1_method_29_code 104 = .ok (.aload_n 0, 1) := by decide +kernel
theorem dX_share_105 : decode prog_1_method_29_code 105 = .ok (.invokevirtual 121, 3) := by decide +kernel
theorem dX_share_108 : decode prog_1_method_29_code 108 = .ok (.ireturn, 1) := by decide +kernel
theorem t_X_share {d : Nat} {σ : SG} {Q : Int → SG → Prop} (h : L (d + 1) M_X_share 6 [vA 0, vI 0, vI 0, vI 0] [] σ Q) : Tri (d + 1) M_X_share [vA 0] σ Q :=
  Tri_intro rfl (Nat.le_of_ble_eq_true rfl) (ls := [vA 0, vU, vU, vU]) rfl (fun hok => L_iconst dX_share_0 in_0 (L_istore_n dX_share_1 (by decide) (L_iconst dX_share_2 in_0 (L_istore_n dX_share_3 (by decide) (L_iconst dX_share_4 in_0 (L_istore_n dX_share_5 (by decide) (h)))))))
theorem s_X_share_6 {d : Nat} {x1 x2 x3 : Int} {σ : SG} {Q : Int → SG → Prop} (h : (σ 7 2 < x3 → Tri d M_X_commonDivisor [vI x1, vI x2] σ (fun r2 σ2 => (1 ≤ r2 → r2 ≠ 0 ∧ L (d + 1) M_X_share 84 [vA 0, vU, vI x2, vI r2] [vJ (w32 (x1.tdiv r2)), vA 0] σ2 Q) ∧ (r2 < 1 → L (d + 1) M_X_share 84 [vA 0, vU, vI x2, vI r2] [vJ 0, vA 0] σ2 Q))) ∧ (x3 ≤ σ 7 2 → Tri d M_An_countSpans [vA 42, vA 7, vI x3, vI 0] σ (fun r4 σ4 => Tri d M_An_countSpans [vA 42, vA 7, vI x3, vI (-1)] σ4 (fun r5 σ5 => L (d + 1) M_X_share 6 [vA 0, vI (w32 (x1 + r4)), vI (w32 (x2 + r5)), vI (w32 (x3 + 1))] [] σ5 Q)))) : L (d + 1) M_X_share 6 [vA 0, vI x1, vI x2, vI x3] [] σ Q :=
  L_iload_n dX_share_6 rfl (L_aload_n dX_share_7 rfl (L_getF (b := 6) fw_X_37 rfl rfl (by decide) dX_share_8 ⟨ob_0, L_getF (b := 7) fw_X_156 rfl rfl (by decide) dX_share_11 ⟨ob_6, L_getf fw_X_170 rfl dX_share_14 ⟨ob_7, L_icmp_gt dX_share_17 (by decide) ⟨fun c1 => L_iload_n dX_share_64 rfl (L_iload_n dX_share_65 rfl (L_callSI rfl cs_X_commonDivisor (As := [vI x1, vI x2]) rfl (tk5 87 rfl rfl) rfl (Nat.le_of_ble_eq_true rfl) dX_share_66 (Tri.mono (h.1 c1) (fun r2 σ2 q2 => L_istore_n dX_share_69 (by decide) (L_aload_n dX_share_70 rfl (L_iload_n dX_share_71 rfl (L_iconst dX_share_72 in_1 (L_icmp_ge dX_share_73 (by decide) ⟨fun c3 => L_iload_n dX_share_80 rfl (L_iload_n dX_share_81 rfl (L_idiv dX_share_82 ⟨(q2.1 c3).1, L_i2l dX_share_83 (L_weak [true, false, true, true] ((q2.1 c3).2))⟩)), fun c3 => L_lconst (x := 0) dX_share_76 rfl inJ_0 (L_goto dX_share_77 (by decide) (L_weak [true, false, true, true] (q2.2 c3)))⟩)))))))), fun c1 => L_iload_n dX_share_20 rfl (L_aload_n dX_share_21 rfl (L_getF (b := 42) fw_X_67 rfl rfl (by decide) dX_share_22 ⟨ob_0, L_aload_n dX_share_25 rfl (L_getF (b := 6) fw_X_37 rfl rfl (by decide) dX_share_26 ⟨ob_0, L_getF (b := 7) fw_X_156 rfl rfl (by decide) dX_share_29 ⟨ob_6, L_iload_n dX_share_32 rfl (L_iconst dX_share_33 in_0 (L_callVI rfl cv_An_countSpans (As := [vA 7, vI x3, vI 0]) rfl (tk5 71 rfl rfl) rfl (Nat.le_of_ble_eq_true rfl) dX_share_34 ⟨ob_42, Tri.mono (h.2 c1) (fun r4 σ4 q4 => L_iadd dX_share_37 (L_istore_n dX_share_38 (by decide) (L_iload_n dX_share_39 rfl (L_aload_n dX_share_40 rfl (L_getF (b := 42) fw_X_67 rfl rfl (by decide) dX_share_41 ⟨ob_0, L_aload_n dX_share_44 rfl (L_getF (b := 6) fw_X_37 rfl rfl (by decide) dX_share_45 ⟨ob_0, L_getF (b := 7) fw_X_156 rfl rfl (by decide) dX_share_48 ⟨ob_6, L_iload_n dX_share_51 rfl (L_iconst dX_share_52 in_m1 (L_callVI rfl cv_An_countSpans (As := [vA 7, vI x3, vI (-1)]) rfl (tk5 71 rfl rfl) rfl (Nat.le_of_ble_eq_true rfl) dX_share_53 ⟨ob_42, Tri.mono q4 (fun r5 σ5 q5 => L_iadd dX_share_56 (L_istore_n dX_share_57 (by decide) (L_iinc dX_share_58 rfl (by decide) (L_goto dX_share_61 (by decide) q5))))⟩))⟩⟩)⟩)))))⟩))⟩⟩)⟩))⟩⟩⟩⟩))
theorem s_X_share_84 {d : Nat} {x2 x3 y0 : Int} {σ : SG} {Q : Int → SG → Prop} (h : (∀ σ1, σ1 = up σ 0 1 y0 → (1 ≤ x3 → x3 ≠ 0 ∧ (∀ σ3, σ3 = up σ1 0 2 (w32 (x2.tdiv x3)) → Tri d M_X_agree [vA 0] σ3 (fun r4 σ4 => (r4 = 0 ∨ r4 = 1) ∧ Q r4 σ4))) ∧ (x3 < 1 → (∀ σ5, σ5 = up σ1 0 2 1 → Tri d M_X_agree [vA 0] σ5 (fun r6 σ6 => (r6 = 0 ∨ r6 = 1) ∧ Q r6 σ6))))) : L (d + 1) M_X_share 84 [vA 0, vU, vI x2, vI x3] [vJ y0, vA 0] σ Q :=
  L_putfN fp_X_108 rfl rfl (fun _ => ⟨rfl, rfl⟩) dX_share_84 ⟨ob_0, fun σ1 e1 => L_aload_n dX_share_87 rfl (L_iload_n dX_share_88 rfl (L_iconst dX_share_89 in_1 (L_icmp_ge dX_share_90 (by decide) ⟨fun c2 => L_iload_n dX_share_97 rfl (L_iload_n dX_share_98 rfl (L_idiv dX_share_99 ⟨((h σ1 e1).1 c2).1, L_i2l dX_share_100 (L_putfN fp_X_7 rfl rfl (fun _ => ⟨rfl, rfl⟩) dX_share_101 ⟨ob_0, fun σ3 e3 => L_aload_n dX_share_104 rfl (L_callVI rfl cv_X_agree (As := []) rfl (tk3 15 rfl rfl) rfl (Nat.le_of_ble_eq_true rfl) dX_share_105 ⟨ob_0, Tri.mono (((h σ1 e1).1 c2).2 σ3 e3) (fun r4 σ4 q4 => L_zreturn rfl dX_share_108 q4)⟩)⟩)⟩)), fun c2 => L_lconst (x := 1) dX_share_93 rfl inJ_1 (L_goto dX_share_94 (by decide) (L_putfN fp_X_7 rfl rfl (fun _ => ⟨rfl, rfl⟩) dX_share_101 ⟨ob_0, fun σ5 e5 => L_aload_n dX_share_104 rfl (L_callVI rfl cv_X_agree (As := []) rfl (tk3 15 rfl rfl) rfl (Nat.le_of_ble_eq_true rfl) dX_share_105 ⟨ob_0, Tri.mono (((h σ1 e1).2 c2) σ5 e5) (fun r6 σ6 q6 => L_zreturn rfl dX_share_108 q6)⟩)⟩))⟩)))⟩
theorem dX_rank_0 : decode prog_1_method_30_code 0 = .ok (.aload_n 0, 1) := by decide +kernel
theorem dX_rank_1 : decode prog_1_method_30_code 1 = .ok (.iload_n 1, 1) := by decide +kernel
theorem dX_rank_2 : decode prog_1_method_30_code 2 = .ok (.i2l, 1) := by decide +kernel
theorem dX_rank_3 : decode prog_1_method_30_code 3 = .ok (.invokevirtual 216, 3) := by decide +kernel
theorem dX_rank_6 : decode prog_1_method_30_code 6 = .ok (.ifCond .ne 9, 3) := by decide +kernel
theorem dX_rank_9 : decode prog_1_method_30_code 9 = .ok (.aload_n 0, 1) := by decide +kernel
theorem dX_rank_10 : decode prog_1_method_30_code 10 = .ok (.iconst 2, 1) := by decide +kernel
theorem dX_rank_11 : decode prog_1_method_30_code 11 = .ok (.invokevirtual 133, 3) := by decide +kernel
theorem dX_rank_14 : decode prog_1_method_30_code 14 = .ok (.ireturn, 1) := by decide +kernel
theorem dX_rank_15 : decode prog_1_method_30_code 15 = .ok (.aload_n 0, 1) := by decide +kernel
theorem dX_rank_16 : decode prog_1_method_30_code 16 = .ok (.aload_n 0, 1) := by decide +kernel
theorem dX_rank_17 : decode prog_1_method_30_code 17 = .ok (.getfield 37, 3) := by decide +kernel
theorem dX_rank_20 : decode prog_1_method_30_code 20 = .ok (.getfield 156, 3) := by decide +kernel
theorem dX_rank_23 : decode prog_1_method_30_code 23 = .ok (.getfield 170, 3) := by decide +kernel
theorem dX_rank_26 : decode prog_1_method_30_code 26 = .ok (.aload_n 0, 1) := by decide +kernel
theorem dX_rank_27 : decode prog_1_method_30_code 27 = .ok (.getfield 67, 3) := by decide +kernel
theorem dX_rank_30 : decode prog_1_method_30_code 30 = .ok (.aload_n 0, 1) := by decide +kernel
theorem dX_rank_31 : decode prog_1_method_30_code 31 = .ok (.getfield 37, 3) := by decide +kernel
theorem dX_rank_34 : decode prog_1_method_30_code 34 = .ok (.getfield 156, 3) := by decide +kernel
theorem dX_rank_37 : decode prog_1_method_30_code 37 = .ok (.iload_n 1, 1) := by decide +kernel
theorem dX_rank_38 : decode prog_1_method_30_code 38 = .ok (.invokevirtual 266, 3) := by decide +kernel
theorem dX_rank_41 : decode prog_1_method_30_code 41 = .ok (.isub, 1) := by decide +kernel
theorem dX_rank_42 : decode prog_1_method_30_code 42 = .ok (.invokevirtual 173, 3) := by decide +kernel
theorem dX_rank_45 : decode prog_1_method_30_code 45 = .ok (.ireturn, 1) := by decide +kernel
theorem t_X_rank {d : Nat} {x1 : Int} {σ : SG} {Q : Int → SG → Prop} (h : inI x1 → (Tri d M_X_isVector [vA 0, vJ x1] σ (fun r1 σ1 => (r1 ≠ 0 → Tri d M_An_centralizerSize [vA 42, vA 7, vI x1] σ1 (fun r3 σ3 => Tri d M_X_answer [vA 0, vI (w32 ((σ1 7 2) - r3))] σ3 (fun r4 σ4 => Q r4 σ4))) ∧ (r1 = 0 → Tri d M_X_fail [vA 0, vI 2] σ1 (fun r5 σ5 => Q r5 σ5))))) : Tri (d + 1) M_X_rank [vA 0, vI x1] σ Q :=
  Tri_intro rfl (Nat.le_of_ble_eq_true rfl) (ls := [vA 0, vI x1]) rfl (fun hok => L_aload_n dX_rank_0 rfl (L_iload_n dX_rank_1 rfl (L_i2l dX_rank_2 (L_callVI rfl cv_X_isVector (As := [vJ x1]) rfl (tk4 71 rfl rfl) rfl (Nat.le_of_ble_eq_true rfl) dX_rank_3 ⟨ob_0, Tri.mono ((h (hok _ (List.mem_of_getElem? (i := 1) rfl)))) (fun r1 σ1 q1 => L_if_ne dX_rank_6 (by decide) ⟨fun c2 => L_aload_n dX_rank_15 rfl (L_aload_n dX_rank_16 rfl (L_getF (b := 6) fw_X_37 rfl rfl (by decide) dX_rank_17 ⟨ob_0, L_getF (b := 7) fw_X_156 rfl rfl (by decide) dX_rank_20 ⟨ob_6, L_getf fw_X_170 rfl dX_rank_23 ⟨ob_7, L_aload_n dX_rank_26 rfl (L_getF (b := 42) fw_X_67 rfl rfl (by decide) dX_rank_27 ⟨ob_0, L_aload_n dX_rank_30 rfl (L_getF (b := 6) fw_X_37 rfl rfl (by decide) dX_rank_31 ⟨ob_0, L_getF (b := 7) fw_X_156 rfl rfl (by decide) dX_rank_34 ⟨ob_6, L_iload_n dX_rank_37 rfl (L_callVI rfl cv_An_centralizerSize (As := [vA 7, vI x1]) rfl (tk4 236 rfl rfl) rfl (Nat.le_of_ble_eq_true rfl) dX_rank_38 ⟨ob_42, Tri.mono (q1.1 c2) (fun r3 σ3 q3 => L_isub dX_rank_41 (L_callVI rfl cv_X_answer (As := [vI (w32 ((σ1 7 2) - r3))]) rfl (tk3 208 rfl rfl) rfl (Nat.le_of_ble_eq_true rfl) dX_rank_42 ⟨ob_0, Tri.mono q3 (fun r4 σ4 q4 => L_ireturn rfl dX_rank_45 q4)⟩))⟩)⟩⟩)⟩)⟩⟩⟩)), fun c2 => L_aload_n dX_rank_9 rfl (L_iconst dX_rank_10 in_2 (L_callVI rfl cv_X_fail (As := [vI 2]) rfl (tk3 38 rfl rfl) rfl (Nat.le_of_ble_eq_true rfl) dX_rank_11 ⟨ob_0, Tri.mono (q1.2 c2) (fun r5 σ5 q5 => L_ireturn rfl dX_rank_14 q5)⟩))⟩)⟩))))
theorem dX_power_0 : decode prog_1_method_31_code 0 = .ok (.aload_n 0, 1) := by decide +kernel
theorem dX_power_1 : decode prog_1_method_31_code 1 = .ok (.iload_n 1, 1) := by decide +kernel
theorem dX_power_2 : decode prog_1_method_31_code 2 = .ok (.i2l, 1) := by decide +kernel
theorem dX_power_3 : decode prog_1_method_31_code 3 = .ok (.invokevirtual 216, 3) := by decide +kernel
theorem dX_power_6 : decode prog_1_method_31_code 6 = .ok (.ifCond .ne 9, 3) := by decide +kernel
theorem dX_power_9 : decode prog_1_method_31_code 9 = .ok (.aload_n 0, 1) := by decide +kernel
theorem dX_power_10 : decode prog_1_method_31_code 10 = .ok (.iconst 2, 1) := by decide +kernel
theorem dX_power_11 : decode prog_1_method_31_code 11 = .ok (.invokevirtual 133, 3) := by decide +kernel
theorem dX_power_14 : decode prog_1_method_31_code 14 = .ok (.ireturn, 1) := by decide +kernel
theorem dX_power_15 : decode prog_1_method_31_code 15 = .ok (.aload_n 0, 1) := by decide +kernel
theorem dX_power_16 : decode prog_1_method_31_code 16 = .ok (.getfield 74, 3) := by decide +kernel
theorem dX_power_19 : decode prog_1_method_31_code 19 = .ok (.aload_n 0, 1) := by decide +kernel
theorem dX_power_20 : decode prog_1_method_31_code 20 = .ok (.getfield 37, 3) := by decide +kernel
theorem dX_power_23 : decode prog_1_method_31_code 23 = .ok (.getfield 156, 3) := by decide +kernel
theorem dX_power_26 : decode prog_1_method_31_code 26 = .ok (.iload_n 1, 1) := by decide +kernel
theorem dX_power_27 : decode prog_1_method_31_code 27 = .ok (.invokevirtual 292, 3) := by decide +kernel
theorem dX_power_30 : decode prog_1_method_31_code 30 = .ok (.istore_n 2, 1) := by decide +kernel
theorem dX_power_31 : decode prog_1_method_31_code 31 = .ok (.iload_n 2, 1) := by decide +kernel
theorem dX_power_32 : decode prog_1_method_31_code 32 = .ok (.ifCond .ne 12, 3) := by decide +kernel
theorem dX_power_35 : decode prog_1_method_31_code 35 = .ok (.aload_n 0, 1) := by decide +kernel
theorem dX_power_36 : decode prog_1_method_31_code 36 = .ok (.bipush 8, 2) := by decide +kernel
theorem dX_power_38 : decode prog_1_method_31_code 38 = .ok (.invokevirtual 133, 3) := by decide +kernel
theorem dX_power_41 : decode prog_1_method_31_code 41 = .ok (.goto 8, 3) := by decide +kernel
theorem dX_power_44 : decode prog_1_method_31_code 44 = .ok (.aload_n 0, 1) := by decide +kernel
theorem dX_power_45 : decode prog_1_method_31_code 45 = .ok (.iload_n 2, 1) := by decide +kernel
theorem dX_power_46 : decode prog_1_method_31_code 46 = .ok (.invokevirtual 173, 3) := by decide +kernel
theorem dX_power_49 : decode prog_1_method_31_code 49 = .ok (.ireturn, 1) := by decide +kernel
theorem t_X_power {d : Nat} {x1 : Int} {σ : SG} {Q : Int → SG → Prop} (h : inI x1 → (Tri d M_X_isVector [vA 0, vJ x1] σ (fun r1 σ1 => (r1 ≠ 0 → Tri d M_Me_vanishingPower [vA 68, vA 7, vI x1] σ1 (fun r3 σ3 => (r3 ≠ 0 → Tri d M_X_answer [vA 0, vI r3] σ3 (fun r5 σ5 => Q r5 σ5)) ∧ (r3 = 0 → Tri d M_X_fail [vA 0, vI 8] σ3 (fun r6 σ6 => Q r6 σ6)))) ∧ (r1 = 0 → Tri d M_X_fail [vA 0, vI 2] σ1 (fun r7 σ7 => Q r7 σ7))))) : Tri (d + 1) M_X_power [vA 0, vI x1] σ Q :=
  Tri_intro rfl (Nat.le_of_ble_eq_true rfl) (ls := [vA 0, vI x1, vU]) rfl (fun hok => L_aload_n dX_power_0 rfl (L_iload_n dX_power_1 rfl (L_i2l dX_power_2 (L_callVI rfl cv_X_isVector (As := [vJ x1]) rfl (tk4 71 rfl rfl) rfl (Nat.le_of_ble_eq_true rfl) dX_power_3 ⟨ob_0, Tri.mono ((h (hok _ (List.mem_of_getElem? (i := 1) rfl)))) (fun r1 σ1 q1 => L_if_ne dX_power_6 (by decide) ⟨fun c2 => L_aload_n dX_power_15 rfl (L_getF (b := 68) fw_X_74 rfl rfl (by decide) dX_power_16 ⟨ob_0, L_aload_n dX_power_19 rfl (L_getF (b := 6) fw_X_37 rfl rfl (by decide) dX_power_20 ⟨ob_0, L_getF (b := 7) fw_X_156 rfl rfl (by decide) dX_power_23 ⟨ob_6, L_iload_n dX_power_26 rfl (L_callVI rfl cv_Me_vanishingPower (As := [vA 7, vI x1]) rfl (tk5 98 rfl rfl) rfl (Nat.le_of_ble_eq_true rfl) dX_power_27 ⟨ob_68, Tri.mono (q1.1 c2) (fun r3 σ3 q3 => L_istore_n dX_power_30 (by decide) (L_iload_n dX_power_31 rfl (L_if_ne dX_power_32 (by decide) ⟨fun c4 => L_aload_n dX_power_44 rfl (L_iload_n dX_power_45 rfl (L_callVI rfl cv_X_answer (As := [vI r3]) rfl (tk3 208 rfl rfl) rfl (Nat.le_of_ble_eq_true rfl) dX_power_46 ⟨ob_0, Tri.mono (q3.1 c4) (fun r5 σ5 q5 => L_ireturn rfl dX_power_49 q5)⟩)), fun c4 => L_aload_n dX_power_35 rfl (L_bipush dX_power_36 bp_8 in_8 (L_callVI rfl cv_X_fail (As := [vI 8]) rfl (tk3 38 rfl rfl) rfl (Nat.le_of_ble_eq_true rfl) dX_power_38 ⟨ob_0, Tri.mono (q3.2 c4) (fun r6 σ6 q6 => L_goto dX_power_41 (by decide) (L_ireturn rfl dX_power_49 q6))⟩))⟩)))⟩)⟩⟩)⟩), fun c2 => L_aload_n dX_power_9 rfl (L_iconst dX_power_10 in_2 (L_callVI rfl cv_X_fail (As := [vI 2]) rfl (tk3 38 rfl rfl) rfl (Nat.le_of_ble_eq_true rfl) dX_power_11 ⟨ob_0, Tri.mono (q1.2 c2) (fun r7 σ7 q7 => L_ireturn rfl dX_power_14 q7)⟩))⟩)⟩))))
theorem dX_derivations_0 : decode prog_1_method_32_code 0 = .ok (.iload_n 1, 1) := by decide +kernel
theorem dX_derivations_1 : decode prog_1_method_32_code 1 = .ok (.ifCond .lt 8, 3) := by decide +kernel
theorem dX_derivations_4 : decode prog_1_method_32_code 4 = .ok (.iload_n 1, 1) := by decide +kernel
theorem dX_derivations_5 : decode prog_1_method_32_code 5 = .ok (.iconst 2, 1) := by decide +kernel
theorem dX_derivations_6 : decode prog_1_method_32_code 6 = .ok (.if_icmp .le 9, 3) := by decide +kernel
theorem dX_derivations_9 : decode prog_1_method_32_code 9 = .ok (.aload_n 0, 1) := by decide +kernel
theorem dX_derivations_10 : decode prog_1_method_32_code 10 = .ok (.iconst 5, 1) := by decide +kernel
theorem dX_derivations_11 : decode prog_1_method_32_code 11 = .ok (.invokevirtual 133, 3) := by decide +kernel
theorem dX_derivations_14 : decode prog_1_method_32_code 14 = .ok (.ireturn, 1) := by decide +kernel
theorem dX_derivations_15 : decode prog_1_method_32_code 15 = .ok (.aload_n 0, 1) := by decide +kernel
theorem dX_derivations_16 : decode prog_1_method_32_code 16 = .ok (.getfield 37, 3) := by decide +kernel
theorem dX_derivations_19 : decode prog_1_method_32_code 19 = .ok (.getfield 156, 3) := by decide +kernel
theorem dX_derivations_22 : decode prog_1_method_32_code 22 = .ok (.astore_n 2, 1) := by decide +kernel
theorem dX_derivations_23 : decode prog_1_method_32_code 23 = .ok (.iload_n 1, 1) := by decide +kernel
theorem dX_derivations_24 : decode prog_1_method_32_code 24 = .ok (.iconst 1, 1) := by decide +kernel
theorem dX_derivations_25 : decode prog_1_method_32_code 25 = .ok (.if_icmp .ne 7, 3) := by decide +kernel
theorem dX_derivations_28 : decode prog_1_method_32_code 28 = .ok (.iconst 0, 1) := by decide +kernel
theorem dX_derivations_29 : decode prog_1_method_32_code 29 = .ok (.goto 11, 3) := by decide +kernel
theorem dX_derivations_32 : decode prog_1_method_32_code 32 = .ok (.aload_n 0, 1) := by decide +kernel
theorem dX_derivations_33 : decode prog_1_method_32_code 33 = .ok (.getfield 74, 3) := by decide +kernel
theorem dX_derivations_36 : decode prog_1_method_32_code 36 = .ok (.aload_n 2, 1) := by decide +kernel
theorem dX_derivations_37 : decode prog_1_method_32_code 37 = .ok (.invokevirtual 295, 3) := by decide +kernel
theorem dX_derivations_40 : decode prog_1_method_32_code 40 = .ok (.istore_n 3, 1) := by decide +kernel
theorem dX_derivations_41 : decode prog_1_method_32_code 41 = .ok (.iload_n 1, 1) := by decide +kernel
theorem dX_derivations_42 : decode prog_1_method_32_code 42 = .ok (.ifCond .ne 7, 3) := by decide +kernel
theorem dX_derivations_45 : decode prog_1_method_32_code 45 = .ok (.iconst 0, 1) := by decide +kernel
theorem dX_derivations_46 : decode prog_1_method_32_code 46 = .ok (.goto 16, 3) := by decide +kernel
theorem dX_derivations_49 : decode prog_1_method_32_code 49 = .ok (.aload_n 2, 1) := by decide +kernel
theorem dX_derivations_50 : decode prog_1_method_32_code 50 = .ok (.getfield 170, 3) := by decide +kernel
theorem dX_derivations_53 : decode prog_1_method_32_code 53 = .ok (.aload_n 0, 1) := by decide +kernel
theorem dX_derivations_54 : decode prog_1_method_32_code 54 = .ok (.getfield 67, 3) := by decide +kernel
theorem dX_derivations_57 : decode prog_1_method_32_code 57 = .ok (.aload_n 2, 1) := by decide +kernel
theorem dX_derivations_58 : decode prog_1_method_32_code 58 = .ok (.invokevirtual 262, 3) := by decide +kernel
theorem dX_derivations_61 : decode prog_1_method_32_code 61 = .ok (.isub, 1) := by decide +kernel
theorem dX_derivations_62 : decode prog_1_method_32_code 62 = .ok (.istore 4, 2) := by decide +kernel
theorem dX_derivations_64 : decode prog_1_method_32_code 64 = .ok (.aload_n 0, 1) := by decide +kernel
theorem dX_derivations_65 : decode prog_1_method_32_code 65 = .ok (.iload_n 1, 1) := by decide +kernel
theorem dX_derivations_66 : decode prog_1_method_32_code 66 = .ok (.iconst 1, 1) := by decide +kernel
theorem dX_derivations_67 : decode prog_1_method_32_code 67 = .ok (.if_icmp .ne 8, 3) := by decide +kernel
theorem dX_derivations_70 : decode prog_1_method_32_code 70 = .ok (.iload 4, 2) := by decide +kernel
theorem dX_derivations_72 : decode prog_1_method_32_code 72 = .ok (.goto 7, 3) := by decide +kernel
theorem dX_derivations_75 : decode prog_1_method_32_code 75 = .ok (.iload_n 3, 1) := by decide +kernel
theorem dX_derivations_76 : decode prog_1_method_32_code 76 = .ok (.iload 4, 2) := by decide +kernel
theorem dX_derivations_78 : decode prog_1_method_32_code 78 = .ok (.isub, 1) := by decide +kernel
theorem dX_derivations_79 : decode prog_1_method_32_code 79 = .ok (.invokevirtual 173, 3) := by decide +kernel
theorem dX_derivations_82 : decode prog_1_method_32_code 82 = .ok (.ireturn, 1) := by decide +kernel
theorem t_X_derivations {d : Nat} {x1 : Int} {σ : SG} {Q : Int → SG → Prop} (h : inI x1 → ((x1 < 0 → Tri d M_X_fail [vA 0, vI 5] σ (fun r2 σ2 => Q r2 σ2)) ∧ (0 ≤ x1 → (x1 ≤ 2 → (x1 ≠ 1 → Tri d M_Me_derivationSize [vA 68, vA 7] σ (fun r5 σ5 => L (d + 1) M_X_derivations 40 [vA 0, vI x1, vA 7, vU, vU] [vI r5] σ5 Q)) ∧ (x1 = 1 → L (d + 1) M_X_derivations 40 [vA 0, vI x1, vA 7, vU, vU] [vI 0] σ Q)) ∧ (2 < x1 → Tri d M_X_fail [vA 0, vI 5] σ (fun r6 σ6 => Q r6 σ6))))) : Tri (d + 1) M_X_derivations [vA 0, vI x1] σ Q :=
  Tri_intro rfl (Nat.le_of_ble_eq_true rfl) (ls := [vA 0, vI x1, vU, vU, vU]) rfl (fun hok => L_iload_n dX_derivations_0 rfl (L_if_lt dX_derivations_1 (by decide) ⟨fun c1 => L_aload_n dX_derivations_9 rfl (L_iconst dX_derivations_10 in_5 (L_callVI rfl cv_X_fail (As := [vI 5]) rfl (tk3 38 rfl rfl) rfl (Nat.le_of_ble_eq_true rfl) dX_derivations_11 ⟨ob_0, Tri.mono ((h (hok _ (List.mem_of_getElem? (i := 1) rfl))).1 c1) (fun r2 σ2 q2 => L_ireturn rfl dX_derivations_14 q2)⟩)), fun c1 => L_iload_n dX_derivations_4 rfl (L_iconst dX_derivations_5 in_2 (L_icmp_le dX_derivations_6 (by decide) ⟨fun c3 => L_aload_n dX_derivations_15 rfl (L_getF (b := 6) fw_X_37 rfl rfl (by decide) dX_derivations_16 ⟨ob_0, L_getF (b := 7) fw_X_156 rfl rfl (by decide) dX_derivations_19 ⟨ob_6, L_astore_n dX_derivations_22 (by decide) (by omega) (L_iload_n dX_derivations_23 rfl (L_iconst dX_derivations_24 in_1 (L_icmp_ne dX_derivations_25 (by decide) ⟨fun c4 => L_aload_n dX_derivations_32 rfl (L_getF (b := 68) fw_X_74 rfl rfl (by decide) dX_derivations_33 ⟨ob_0, L_aload_n dX_derivations_36 rfl (L_callVI rfl cv_Me_derivationSize (As := [vA 7]) rfl (tk5 117 rfl rfl) rfl (Nat.le_of_ble_eq_true rfl) dX_derivations_37 ⟨ob_68, Tri.mono ((((h (hok _ (List.mem_of_getElem? (i := 1) rfl))).2 c1).1 c3).1 c4) (fun r5 σ5 q5 => q5)⟩)⟩), fun c4 => L_iconst dX_derivations_28 in_0 (L_goto dX_derivations_29 (by decide) ((((h (hok _ (List.mem_of_getElem? (i := 1) rfl))).2 c1).1 c3).2 c4))⟩)))⟩⟩), fun c3 => L_aload_n dX_derivations_9 rfl (L_iconst dX_derivations_10 in_5 (L_callVI rfl cv_X_fail (As := [vI 5]) rfl (tk3 38 rfl rfl) rfl (Nat.le_of_ble_eq_true rfl) dX_derivations_11 ⟨ob_0, Tri.mono (((h (hok _ (List.mem_of_getElem? (i := 1) rfl))).2 c1).2 c3) (fun r6 σ6 q6 => L_ireturn rfl dX_derivations_14 q6)⟩))⟩))⟩))
theorem s_X_derivations_40 {d : Nat} {x1 x2 y0 : Int} {σ : SG} {Q : Int → SG → Prop} (h : (x1 ≠ 0 → obok 10 x2 ∧ Tri d M_An_centreSize [vA 42, vA x2] σ (fun r2 σ2 => (x1 ≠ 1 → Tri d M_X_answer [vA 0, vI (w32 (y0 - (w32 ((σ x2 2) - r2))))] σ2 (fun r4 σ4 => Q r4 σ4)) ∧ (x1 = 1 → Tri d M_X_answer [vA 0, vI (w32 ((σ x2 2) - r2))] σ2 (fun r5 σ5 => Q r5 σ5)))) ∧ (x1 = 0 → (x1 ≠ 1 → Tri d M_X_answer [vA 0, vI (w32 (y0 - 0))] σ (fun r7 σ7 => Q r7 σ7)) ∧ (x1 = 1 → Tri d M_X_answer [vA 0, vI 0] σ (fun r8 σ8 => Q r8 σ8)))) : L (d + 1) M_X_derivations 40 [vA 0, vI x1, vA x2, vU, vU] [vI y0] σ Q :=
  L_istore_n dX_derivations_40 (by decide) (L_iload_n dX_derivations_41 rfl (L_if_ne dX_derivations_42 (by decide) ⟨fun c1 => L_aload_n dX_derivations_49 rfl (L_getf fw_X_170 rfl dX_derivations_50 ⟨(h.1 c1).1, L_aload_n dX_derivations_53 rfl (L_getF (b := 42) fw_X_67 rfl rfl (by decide) dX_derivations_54 ⟨ob_0, L_aload_n dX_derivations_57 rfl (L_callVI rfl cv_An_centreSize (As := [vA x2]) rfl (tk4 219 rfl rfl) rfl (Nat.le_of_ble_eq_true rfl) dX_derivations_58 ⟨ob_42, Tri.mono ((h.1 c1).2) (fun r2 σ2 q2 => L_isub dX_derivations_61 (L_istore dX_derivations_62 (by decide) (L_aload_n dX_derivations_64 rfl (L_iload_n dX_derivations_65 rfl (L_iconst dX_derivations_66 in_1 (L_icmp_ne dX_derivations_67 (by decide) ⟨fun c3 => L_iload_n dX_derivations_75 rfl (L_iload dX_derivations_76 rfl (L_isub dX_derivations_78 (L_callVI rfl cv_X_answer (As := [vI (w32 (y0 - (w32 ((σ x2 2) - r2))))]) rfl (tk3 208 rfl rfl) rfl (Nat.le_of_ble_eq_true rfl) dX_derivations_79 ⟨ob_0, Tri.mono (q2.1 c3) (fun r4 σ4 q4 => L_ireturn rfl dX_derivations_82 q4)⟩))), fun c3 => L_iload dX_derivations_70 rfl (L_goto dX_derivations_72 (by decide) (L_callVI rfl cv_X_answer (As := [vI (w32 ((σ x2 2) - r2))]) rfl (tk3 208 rfl rfl) rfl (Nat.le_of_ble_eq_true rfl) dX_derivations_79 ⟨ob_0, Tri.mono (q2.2 c3) (fun r5 σ5 q5 => L_ireturn rfl dX_derivations_82 q5)⟩))⟩))))))⟩)⟩)⟩), fun c1 => L_iconst dX_derivations_45 in_0 (L_goto dX_derivations_46 (by decide) (L_istore dX_derivations_62 (by decide) (L_aload_n dX_derivations_64 rfl (L_iload_n dX_derivations_65 rfl (L_iconst dX_derivations_66 in_1 (L_icmp_ne dX_derivations_67 (by decide) ⟨fun c6 => L_iload_n dX_derivations_75 rfl (L_iload dX_derivations_76 rfl (L_isub dX_derivations_78 (L_callVI rfl cv_X_answer (As := [vI (w32 (y0 - 0))]) rfl (tk3 208 rfl rfl) rfl (Nat.le_of_ble_eq_true rfl) dX_derivations_79 ⟨ob_0, Tri.mono ((h.2 c1).1 c6) (fun r7 σ7 q7 => L_ireturn rfl dX_derivations_82 q7)⟩))), fun c6 => L_iload dX_derivations_70 rfl (L_goto dX_derivations_72 (by decide) (L_callVI rfl cv_X_answer (As := [vI 0]) rfl (tk3 208 rfl rfl) rfl (Nat.le_of_ble_eq_true rfl) dX_derivations_79 ⟨ob_0, Tri.mono ((h.2 c1).2 c6) (fun r8 σ8 q8 => L_ireturn rfl dX_derivations_82 q8)⟩))⟩))))))⟩))
theorem dX_form_0 : decode prog_1_method_33_code 0 = .ok (.aload_n 0, 1) := by decide +kernel
theorem dX_form_1 : decode prog_1_method_33_code 1 = .ok (.aload_n 0, 1) := by decide +kernel
theorem dX_form_2 : decode prog_1_method_33_code 2 = .ok (.getfield 74, 3) := by decide +kernel
theorem dX_form_5 : decode prog_1_method_33_code 5 = .ok (.aload_n 0, 1) := by decide +kernel
theorem dX_form_6 : decode prog_1_method_33_code 6 = .ok (.getfield 37, 3) := by decide +kernel
theorem dX_form_9 : decode prog_1_method_33_code 9 = .ok (.getfield 156, 3) := by decide +kernel
theorem dX_form_12 : decode prog_1_method_33_code 12 = .ok (.invokevirtual 298, 3) := by decide +kernel
theorem dX_form_15 : decode prog_1_method_33_code 15 = .ok (.invokevirtual 173, 3) := by decide +kernel
theorem dX_form_18 : decode prog_1_method_33_code 18 = .ok (.ireturn, 1) := by decide +kernel
theorem t_X_form {d : Nat} {σ : SG} {Q : Int → SG → Prop} (h : Tri d M_Me_formRank [vA 68, vA 7] σ (fun r1 σ1 => Tri d M_X_answer [vA 0, vI r1] σ1 (fun r2 σ2 => Q r2 σ2))) : Tri (d + 1) M_X_form [vA 0] σ Q :=
  Tri_intro rfl (Nat.le_of_ble_eq_true rfl) (ls := [vA 0]) rfl (fun hok => L_aload_n dX_form_0 rfl (L_aload_n dX_form_1 rfl (L_getF (b := 68) fw_X_74 rfl rfl (by decide) dX_form_2 ⟨ob_0, L_aload_n dX_form_5 rfl (L_getF (b := 6) fw_X_37 rfl rfl (by decide) dX_form_6 ⟨ob_0, L_getF (b := 7) fw_X_156 rfl rfl (by decide) dX_form_9 ⟨ob_6, L_callVI rfl cv_Me_formRank (As := [vA 7]) rfl (tk5 132 rfl rfl) rfl (Nat.le_of_ble_eq_true rfl) dX_form_12 ⟨ob_68, Tri.mono (h) (fun r1 σ1 q1 => L_callVI rfl cv_X_answer (As := [vI r1]) rfl (tk3 208 rfl rfl) rfl (Nat.le_of_ble_eq_true rfl) dX_form_15 ⟨ob_0, Tri.mono q1 (fun r2 σ2 q2 => L_ireturn rfl dX_form_18 q2)⟩)⟩⟩⟩)⟩)))
theorem dX_classes_0 : decode prog_1_method_34_code 0 = .ok (.iload_n 1, 1) := by decide +kernel
theorem dX_classes_1 : decode prog_1_method_34_code 1 = .ok (.ifCond .lt 17, 3) := by decide +kernel
theorem dX_classes_4 : decode prog_1_method_34_code 4 = .ok (.iload_n 1, 1) := by decide +kernel
theorem dX_classes_5 : decode prog_1_method_34_code 5 = .ok (.aload_n 0, 1) := by decide +kernel
theorem dX_classes_6 : decode prog_1_method_34_code 6 = .ok (.getfield 37, 3) := by decide +kernel
theorem dX_classes_9 : decode prog_1_method_34_code 9 = .ok (.getfield 156, 3) := by decide +kernel
theorem dX_classes_12 : decode prog_1_method_34_code 12 = .ok (.getfield 170, 3) := by decide +kernel
theorem dX_classes_15 : decode prog_1_method_34_code 15 = .ok (.if_icmp .le 9, 3) := by decide +kernel
theorem dX_classes_18 : decode prog_1_method_34_code 18 = .ok (.aload_n 0, 1) := by decide +kernel
theorem dX_classes_19 : decode prog_1_method_34_code 19 = .ok (.iconst 5, 1) := by decide +kernel
theorem dX_classes_20 : decode prog_1_method_34_code 20 = .ok (.invokevirtual 133, 3) := by decide +kernel
theorem dX_classes_23 : decode prog_1_method_34_code 23 = .ok (.ireturn, 1) := by decide +kernel
theorem dX_classes_24 : decode prog_1_method_34_code 24 = .ok (.aload_n 0, 1) := by decide +kernel
theorem dX_classes_25 : decode prog_1_method_34_code 25 = .ok (.getfield 37, 3) := by decide +kernel
theorem dX_classes_28 : decode prog_1_method_34_code 28 = .ok (.getfield 156, 3) := by decide +kernel
theorem dX_classes_31 : decode prog_1_method_34_code 31 = .ok (.invokevirtual 232, 3) := by decide +kernel
theorem dX_classes_34 : decode prog_1_method_34_code 34 = .ok (.ifCond .lt 10, 3) := by decide +kernel
theorem dX_classes_37 : decode prog_1_method_34_code 37 = .ok (.aload_n 0, 1) := by decide +kernel
theorem dX_classes_38 : decode prog_1_method_34_code 38 = .ok (.bipush 9, 2) := by decide +kernel
theorem dX_classes_40 : decode prog_1_method_34_code 40 = .ok (.invokevirtual 133, 3) := by decide +kernel
theorem dX_classes_43 : decode prog_1_method_34_code 43 = .ok (.ireturn, 1) := by decide +kernel
theorem dX_classes_44 : decode prog_1_method_34_code 44 = .ok (.aload_n 0, 1) := by decide +kernel
theorem dX_classes_45 : decode prog_1_method_34_code 45 = .ok (.aload_n 0, 1) := by decide +kernel
theorem dX_classes_46 : decode prog_1_method_34_code 46 = .ok (.getfield 74, 3) := by decide +kernel
theorem dX_classes_49 : decode prog_1_method_34_code 49 = .ok (.aload_n 0, 1) := by decide +kernel
theorem dX_classes_50 : decode prog_1_method_34_code 50 = .ok (.getfield 37, 3) := by decide +kernel
theorem dX_classes_53 : decode prog_1_method_34_code 53 = .ok (.getfield 156, 3) := by decide +kernel
theorem dX_classes_56 : decode prog_1_method_34_code 56 = .ok (.iload_n 1, 1) := by decide +kernel
theorem dX_classes_57 : decode prog_1_method_34_code 57 = .ok (.invokevirtual 301, 3) := by decide +kernel
theorem dX_classes_60 : decode prog_1_method_34_code 60 = .ok (.invokevirtual 173, 3) := by decide +kernel
theorem dX_classes_63 : decode prog_1_method_34_code 63 = .ok (.ireturn, 1) := by decide +kernel
theorem t_X_classes {d : Nat} {x1 : Int} {σ : SG} {Q : Int → SG → Prop} (h : inI x1 → ((x1 < 0 → Tri d M_X_fail [vA 0, vI 5] σ (fun r2 σ2 => Q r2 σ2)) ∧ (0 ≤ x1 → (x1 ≤ σ 7 2 → Tri d M_Wd_firstBreak [vA 7] σ (fun r4 σ4 => (r4 < 0 → Tri d M_Me_classSize [vA 68, vA 7, vI x1] σ4 (fun r6 σ6 => Tri d M_X_answer [vA 0, vI r6] σ6 (fun r7 σ7 => Q r7 σ7))) ∧ (0 ≤ r4 → Tri d M_X_fail [vA 0, vI 9] σ4 (fun r8 σ8 => Q r8 σ8)))) ∧ (σ 7 2 < x1 → Tri d M_X_fail [vA 0, vI 5] σ (fun r9 σ9 => Q r9 σ9))))) : Tri (d + 1) M_X_classes [vA 0, vI x1] σ Q :=
  Tri_intro rfl (Nat.le_of_ble_eq_true rfl) (ls := [vA 0, vI x1]) rfl (fun hok => L_iload_n dX_classes_0 rfl (L_if_lt dX_classes_1 (by decide) ⟨fun c1 => L_aload_n dX_classes_18 rfl (L_iconst dX_classes_19 in_5 (L_callVI rfl cv_X_fail (As := [vI 5]) rfl (tk3 38 rfl rfl) rfl (Nat.le_of_ble_eq_true rfl) dX_classes_20 ⟨ob_0, Tri.mono ((h (hok _ (List.mem_of_getElem? (i := 1) rfl))).1 c1) (fun r2 σ2 q2 => L_ireturn rfl dX_classes_23 q2)⟩)), fun c1 => L_iload_n dX_classes_4 rfl (L_aload_n dX_classes_5 rfl (L_getF (b := 6) fw_X_37 rfl rfl (by decide) dX_classes_6 ⟨ob_0, L_getF (b := 7) fw_X_156 rfl rfl (by decide) dX_classes_9 ⟨ob_6, L_getf fw_X_170 rfl dX_classes_12 ⟨ob_7, L_icmp_le dX_classes_15 (by decide) ⟨fun c3 => L_aload_n dX_classes_24 rfl (L_getF (b := 6) fw_X_37 rfl rfl (by decide) dX_classes_25 ⟨ob_0, L_getF (b := 7) fw_X_156 rfl rfl (by decide) dX_classes_28 ⟨ob_6, L_callVI rfl cv_Wd_firstBreak (As := []) rfl (tk4 105 rfl rfl) rfl (Nat.le_of_ble_eq_true rfl) dX_classes_31 ⟨ob_7, Tri.mono (((h (hok _ (List.mem_of_getElem? (i := 1) rfl))).2 c1).1 c3) (fun r4 σ4 q4 => L_if_lt dX_classes_34 (by decide) ⟨fun c5 => L_aload_n dX_classes_44 rfl (L_aload_n dX_classes_45 rfl (L_getF (b := 68) fw_X_74 rfl rfl (by decide) dX_classes_46 ⟨ob_0, L_aload_n dX_classes_49 rfl (L_getF (b := 6) fw_X_37 rfl rfl (by decide) dX_classes_50 ⟨ob_0, L_getF (b := 7) fw_X_156 rfl rfl (by decide) dX_classes_53 ⟨ob_6, L_iload_n dX_classes_56 rfl (L_callVI rfl cv_Me_classSize (As := [vA 7, vI x1]) rfl (tk5 140 rfl rfl) rfl (Nat.le_of_ble_eq_true rfl) dX_classes_57 ⟨ob_68, Tri.mono (q4.1 c5) (fun r6 σ6 q6 => L_callVI rfl cv_X_answer (As := [vI r6]) rfl (tk3 208 rfl rfl) rfl (Nat.le_of_ble_eq_true rfl) dX_classes_60 ⟨ob_0, Tri.mono q6 (fun r7 σ7 q7 => L_ireturn rfl dX_classes_63 q7)⟩)⟩)⟩⟩)⟩)), fun c5 => L_aload_n dX_classes_37 rfl (L_bipush dX_classes_38 bp_9 in_9 (L_callVI rfl cv_X_fail (As := [vI 9]) rfl (tk3 38 rfl rfl) rfl (Nat.le_of_ble_eq_true rfl) dX_classes_40 ⟨ob_0, Tri.mono (q4.2 c5) (fun r8 σ8 q8 => L_ireturn rfl dX_classes_43 q8)⟩))⟩)⟩⟩⟩), fun c3 => L_aload_n dX_classes_18 rfl (L_iconst dX_classes_19 in_5 (L_callVI rfl cv_X_fail (As := [vI 5]) rfl (tk3 38 rfl rfl) rfl (Nat.le_of_ble_eq_true rfl) dX_classes_20 ⟨ob_0, Tri.mono (((h (hok _ (List.mem_of_getElem? (i := 1) rfl))).2 c1).2 c3) (fun r9 σ9 q9 => L_ireturn rfl dX_classes_23 q9)⟩))⟩⟩⟩⟩))⟩))
theorem dX_commuting_0 : decode prog_1_method_35_code 0 = .ok (.aload_n 0, 1) := by decide +kernel
theorem dX_commuting_1 : decode prog_1_method_35_code 1 = .ok (.aload_n 0, 1) := by decide +kernel
theorem dX_commuting_2 : decode prog_1_method_35_code 2 = .ok (.getfield 67, 3) := by decide +kernel
theorem dX_commuting_5 : decode prog_1_method_35_code 5 = .ok (.aload_n 0, 1) := by decide +kernel
theorem dX_commuting_6 : decode prog_1_method_35_code 6 = .ok (.getfield 37, 3) := by decide +kernel
theorem dX_commuting_9 : decode prog_1_method_35_code 9 = .ok (.getfield 156, 3) := by decide +kernel
theorem dX_commuting_12 : decode prog_1_method_35_code 12 = .ok (.invokevirtual 304, 3) := by decide +kernel
theorem dX_commuting_15 : decode prog_1_method_35_code 15 = .ok (.invokevirtual 173, 3) := by decide +kernel
theorem dX_commuting_18 : decode prog_1_method_35_code 18 = .ok (.ireturn, 1) := by decide +kernel
theorem t_X_commuting {d : Nat} {σ : SG} {Q : Int → SG → Prop} (h : Tri d M_An_countCommuting [vA 42, vA 7] σ (fun r1 σ1 => Tri d M_X_answer [vA 0, vI r1] σ1 (fun r2 σ2 => Q r2 σ2))) : Tri (d + 1) M_X_commuting [vA 0] σ Q :=
  Tri_intro rfl (Nat.le_of_ble_eq_true rfl) (ls := [vA 0]) rfl (fun hok => L_aload_n dX_commuting_0 rfl (L_aload_n dX_commuting_1 rfl (L_getF (b := 42) fw_X_67 rfl rfl (by decide) dX_commuting_2 ⟨ob_0, L_aload_n dX_commuting_5 rfl (L_getF (b := 6) fw_X_37 rfl rfl (by decide) dX_commuting_6 ⟨ob_0, L_getF (b := 7) fw_X_156 rfl rfl (by decide) dX_commuting_9 ⟨ob_6, L_callVI rfl cv_An_countCommuting (As := [vA 7]) rfl (tk5 165 rfl rfl) rfl (Nat.le_of_ble_eq_true rfl) dX_commuting_12 ⟨ob_42, Tri.mono (h) (fun r1 σ1 q1 => L_callVI rfl cv_X_answer (As := [vI r1]) rfl (tk3 208 rfl rfl) rfl (Nat.le_of_ble_eq_true rfl) dX_commuting_15 ⟨ob_0, Tri.mono q1 (fun r2 σ2 q2 => L_ireturn rfl dX_commuting_18 q2)⟩)⟩⟩⟩)⟩)))
theorem dX_maps_0 : decode prog_1_method_36_code 0 = .ok (.aload_n 0, 1) := by decide +kernel
theorem dX_maps_1 : decode prog_1_method_36_code 1 = .ok (.getfield 81, 3) := by decide +kernel
theorem dX_maps_4 : decode prog_1_method_36_code 4 = .ok (.aload_n 0, 1) := by decide +kernel
theorem dX_maps_5 : decode prog_1_method_36_code 5 = .ok (.getfield 37, 3) := by decide +kernel
theorem dX_maps_8 : decode prog_1_method_36_code 8 = .ok (.getfield 156, 3) := by decide +kernel
theorem dX_maps_11 : decode prog_1_method_36_code 11 = .ok (.aload_n 0, 1) := by decide +kernel
theorem dX_maps_12 : decode prog_1_method_36_code 12 = .ok (.getfield 37, 3) := by decide +kernel
theorem dX_maps_15 : decode prog_1_method_36_code 15 = .ok (.getfield 156, 3) := by decide +kernel
theorem dX_maps_18 : decode prog_1_method_36_code 18 = .ok (.iconst 0, 1) := by decide +kernel
theorem dX_maps_19 : decode prog_1_method_36_code 19 = .ok (.invokevirtual 307, 3) := by decide +kernel
theorem dX_maps_22 : decode prog_1_method_36_code 22 = .ok (.pop, 1) := by decide +kernel
theorem dX_maps_23 : decode prog_1_method_36_code 23 = .ok (.aload_n 0, 1) := by decide +kernel
theorem dX_maps_24 : decode prog_1_method_36_code 24 = .ok (.aload_n 0, 1) := by decide +kernel
theorem dX_maps_25 : decode prog_1_method_36_code 25 = .ok (.getfield 81, 3) := by decide +kernel
theorem dX_maps_28 : decode prog_1_method_36_code 28 = .ok (.getfield 311, 3) := by decide +kernel
theorem dX_maps_31 : decode prog_1_method_36_code 31 = .ok (.putfield 13, 3) := by decide +kernel
theorem dX_maps_34 : decode prog_1_method_36_code 34 = .ok (.aload_n 0, 1) := by decide +kernel
theorem dX_maps_35 : decode prog_1_method_36_code 35 = .ok (.getfield 81, 3) := by decide +kernel
theorem dX_maps_38 : decode prog_1_method_36_code 38 = .ok (.getfield 314, 3) := by decide +kernel
theorem dX_maps_41 : decode prog_1_method_36_code 41 = .ok (.ifCond .eq 12, 3) := by decide +kernel
theorem dX_maps_44 : decode prog_1_method_36_code 44 = .ok (.aload_n 0, 1) := by decide +kernel
theorem dX_maps_45 : decode prog_1_method_36_code 45 = .ok (.bipush 9, 2) := by decide +kernel
theorem dX_maps_47 : decode prog_1_method_36_code 47 = .ok (.invokevirtual 133, 3) := by decide +kernel
theorem dX_maps_50 : decode prog_1_method_36_code 50 = .ok (.goto 14, 3) := by decide +kernel
theorem dX_maps_53 : decode prog_1_method_36_code 53 = .ok (.aload_n 0, 1) := by decide +kernel
theorem dX_maps_54 : decode prog_1_method_36_code 54 = .ok (.aload_n 0, 1) := by decide +kernel
theorem dX_maps_55 : decode prog_1_method_36_code 55 = .ok (.getfield 81, 3) := by decide +kernel
theorem dX_maps_58 : decode prog_1_method_36_code 58 = .ok (.getfield 318, 3) := by decide +kernel
theorem dX_maps_61 : decode prog_1_method_36_code 61 = .ok (.invokevirtual 173, 3) := by decide +kernel
theorem dX_maps_64 : decode prog_1_method_36_code 64 = .ok (.ireturn, 1) := by decide +kernel
theorem t_X_maps {d : Nat} {σ : SG} {Q : Int → SG → Prop} (h : Tri d M_Ma_look [vA 78, vA 7, vA 7, vI 0] σ (fun r1 σ1 => (∀ σ2, σ2 = up σ1 0 3 (σ1 78 0) → (σ2 78 2 = 0 → Tri d M_X_answer [vA 0, vI (σ2 78 1)] σ2 (fun r4 σ4 => Q r4 σ4)) ∧ (σ2 78 2 ≠ 0 → Tri d M_X_fail [vA 0, vI 9] σ2 (fun r5 σ5 => Q r5 σ5))))) : Tri (d + 1) M_X_maps [vA 0] σ Q :=
  Tri_intro rfl (Nat.le_of_ble_eq_true rfl) (ls := [vA 0]) rfl (fun hok => L_aload_n dX_maps_0 rfl (L_getF (b := 78) fw_X_81 rfl rfl (by decide) dX_maps_1 ⟨ob_0, L_aload_n dX_maps_4 rfl (L_getF (b := 6) fw_X_37 rfl rfl (by decide) dX_maps_5 ⟨ob_0, L_getF (b := 7) fw_X_156 rfl rfl (by decide) dX_maps_8 ⟨ob_6, L_aload_n dX_maps_11 rfl (L_getF (b := 6) fw_X_37 rfl rfl (by decide) dX_maps_12 ⟨ob_0, L_getF (b := 7) fw_X_156 rfl rfl (by decide) dX_maps_15 ⟨ob_6, L_iconst dX_maps_18 in_0 (L_callVI rfl cv_Ma_look (As := [vA 7, vA 7, vI 0]) rfl (tk5 174 rfl rfl) rfl (Nat.le_of_ble_eq_true rfl) dX_maps_19 ⟨ob_78, Tri.mono (h) (fun r1 σ1 q1 => L_pop dX_maps_22 n01 (L_aload_n dX_maps_23 rfl (L_aload_n dX_maps_24 rfl (L_getF (b := 78) fw_X_81 rfl rfl (by decide) dX_maps_25 ⟨ob_0, L_getf fw_X_311 rfl dX_maps_28 ⟨ob_78, L_putfN fp_X_13 rfl rfl (fun _ => ⟨rfl, rfl⟩) dX_maps_31 ⟨ob_0, fun σ2 e2 => L_aload_n dX_maps_34 rfl (L_getF (b := 78) fw_X_81 rfl rfl (by decide) dX_maps_35 ⟨ob_0, L_getf fw_X_314 rfl dX_maps_38 ⟨ob_78, L_if_eq dX_maps_41 (by decide) ⟨fun c3 => L_aload_n dX_maps_53 rfl (L_aload_n dX_maps_54 rfl (L_getF (b := 78) fw_X_81 rfl rfl (by decide) dX_maps_55 ⟨ob_0, L_getf fw_X_318 rfl dX_maps_58 ⟨ob_78, L_callVI rfl cv_X_answer (As := [vI (σ2 78 1)]) rfl (tk3 208 rfl rfl) rfl (Nat.le_of_ble_eq_true rfl) dX_maps_61 ⟨ob_0, Tri.mono ((q1 σ2 e2).1 c3) (fun r4 σ4 q4 => L_ireturn rfl dX_maps_64 q4)⟩⟩⟩)), fun c3 => L_aload_n dX_maps_44 rfl (L_bipush dX_maps_45 bp_9 in_9 (L_callVI rfl cv_X_fail (As := [vI 9]) rfl (tk3 38 rfl rfl) rfl (Nat.le_of_ble_eq_true rfl) dX_maps_47 ⟨ob_0, Tri.mono ((q1 σ2 e2).2 c3) (fun r5 σ5 q5 => L_goto dX_maps_50 (by decide) (L_ireturn rfl dX_maps_64 q5))⟩))⟩⟩⟩)⟩⟩⟩))))⟩)⟩⟩)⟩⟩)⟩))
theorem dX_sameAs_0 : decode prog_1_method_37_code 0 = .ok (.aload_n 0, 1) := by decide +kernel
theorem dX_sameAs_1 : decode prog_1_method_37_code 1 = .ok (.iload_n 1, 1) := by decide +kernel
theorem dX_sameAs_2 : decode prog_1_method_37_code 2 = .ok (.invokevirtual 238, 3) := by decide +kernel
theorem dX_sameAs_5 : decode prog_1_method_37_code 5 = .ok (.istore_n 2, 1) := by decide +kernel
theorem dX_sameAs_6 : decode prog_1_method_37_code 6 = .ok (.iload_n 2, 1) := by decide +kernel
theorem dX_sameAs_7 : decode prog_1_method_37_code 7 = .ok (.ifCond .eq 9, 3) := by decide +kernel
theorem dX_sameAs_10 : decode prog_1_method_37_code 10 = .ok (.aload_n 0, 1) := by decide +kernel
theorem dX_sameAs_11 : decode prog_1_method_37_code 11 = .ok (.iload_n 2, 1) := by decide +kernel
theorem dX_sameAs_12 : decode prog_1_method_37_code 12 = .ok (.invokevirtual 133, 3) := by decide +kernel
theorem dX_sameAs_15 : decode prog_1_method_37_code 15 = .ok (.ireturn, 1) := by decide +kernel
theorem dX_sameAs_16 : decode prog_1_method_37_code 16 = .ok (.aload_n 0, 1) := by decide +kernel
theorem dX_sameAs_17 : decode prog_1_method_37_code 17 = .ok (.getfield 81, 3) := by decide +kernel
theorem dX_sameAs_20 : decode prog_1_method_37_code 20 = .ok (.aload_n 0, 1) := by decide +kernel
theorem dX_sameAs_21 : decode prog_1_method_37_code 21 = .ok (.getfield 37, 3) := by decide +kernel
theorem dX_sameAs_24 : decode prog_1_method_37_code 24 = .ok (.getfield 156, 3) := by decide +kernel
theorem dX_sameAs_27 : decode prog_1_method_37_code 27 = .ok (.aload_n 0, 1) := by decide +kernel
theorem dX_sameAs_28 : decode prog_1_method_37_code 28 = .ok (.getfield 37, 3) := by decide +kernel
theorem dX_sameAs_31 : decode prog_1_method_37_code 31 = .ok (.getfield 241, 3) := by decide +kernel
theorem dX_sameAs_34 : decode prog_1_method_37_code 34 = .ok (.iload_n 1, 1) := by decide +kernel
theorem dX_sameAs_35 : decode prog_1_method_37_code 35 = .ok (.aaload, 1) := by decide +kernel
theorem dX_sameAs_36 : decode prog_1_method_37_code 36 = .ok (.iconst 1, 1) := by decide +kernel
theorem dX_sameAs_37 : decode prog_1_method_37_code 37 = .ok (.invokevirtual 307, 3) := by decide +kernel
theorem dX_sameAs_40 : decode prog_1_method_37_code 40 = .ok (.istore_n 3, 1) := by decide +kernel
theorem dX_sameAs_41 : decode prog_1_method_37_code 41 = .ok (.aload_n 0, 1) := by decide +kernel
theorem dX_sameAs_42 : decode prog_1_method_37_code 42 = .ok (.aload_n 0, 1) := by decide +kernel
theorem dX_sameAs_43 : decode prog_1_method_37_code 43 = .ok (.getfield 81, 3) := by decide +kernel
theorem dX_sameAs_46 : decode prog_1_method_37_code 46 = .ok (.getfield 311, 3) := by decide +kernel
theorem dX_sameAs_49 : decode prog_1_method_37_code 49 = .ok (.putfield 13, 3) := by decide +kernel
theorem dX_sameAs_52 : decode prog_1_method_37_code 52 = .ok (.aload_n 0, 1) := by decide +kernel
theorem dX_sameAs_53 : decode prog_1_method_37_code 53 = .ok (.getfield 81, 3) := by decide +kernel
theorem dX_sameAs_56 : decode prog_1_method_37_code 56 = .ok (.getfield 314, 3) := by decide +kernel
theorem dX_sameAs_59 : decode prog_1_method_37_code 59 = .ok (.ifCond .eq 12, 3) := by decide +kernel
theorem dX_sameAs_62 : decode prog_1_method_37_code 62 = .ok (.aload_n 0, 1) := by decide +kernel
theorem dX_sameAs_63 : decode prog_1_method_37_code 63 = .ok (.bipush 9, 2) := by decide +kernel
theorem dX_sameAs_65 : decode prog_1_method_37_code 65 = .ok (.invokevirtual 133, 3) := by decide +kernel
theorem dX_sameAs_68 : decode prog_1_method_37_code 68 = .ok (.goto 16, 3) := by decide +kernel
theorem dX_sameAs_71 : decode prog_1_method_37_code 71 = .ok (.aload_n 0, 1) := by decide +kernel
theorem dX_sameAs_72 : decode prog_1_method_37_code 72 = .ok (.iload_n 3, 1) := by decide +kernel
theorem dX_sameAs_73 : decode prog_1_method_37_code 73 = .ok (.ifCond .eq 7, 3) := by decide +kernel
theorem dX_sameAs_76 : decode prog_1_method_37_code 76 = .ok (.iconst 1, 1) := by decide +kernel
theorem dX_sameAs_77 : decode prog_1_method_37_code 77 = .ok (.goto 4, 3) := by decide +kernel
theorem dX_sameAs_80 : decode prog_1_method_37_code 80 = .ok (.iconst 0, 1) := by decide +kernel
theorem dX_sameAs_81 : decode prog_1_method_37_code 81 = .ok (.invokevirtual 173, 3) := by decide +kernel
theorem dX_sameAs_84 : decode prog_1_method_37_code 84 = .ok (.ireturn, 1) := by decide +kernel
theorem t_X_sameAs {d : Nat} {x1 : Int} {σ : SG} {Q : Int → SG → Prop} (h : inI x1 → (Tri d M_X_shelfTrouble [vA 0, vI x1] σ (fun r1 σ1 => (r1 = 0 → rdok 105 9 x1 ∧ Tri d M_Ma_look [vA 78, vA 7, vA (13 + 2 * x1), vI 1] σ1 (fun r3 σ3 => (∀ σ4, σ4 = up σ3 0 3 (σ3 78 0) → (σ4 78 2 = 0 → (r3 = 0 → Tri d M_X_answer [vA 0, vI 0] σ4 (fun r7 σ7 => Q r7 σ7)) ∧ (r3 ≠ 0 → Tri d M_X_answer [vA 0, vI 1] σ4 (fun r8 σ8 => Q r8 σ8))) ∧ (σ4 78 2 ≠ 0 → Tri d M_X_fail [vA 0, vI 9] σ4 (fun r9 σ9 => Q r9 σ9))))) ∧ (r1 ≠ 0 → Tri d M_X_fail [vA 0, vI r1] σ1 (fun r10 σ10 => Q r10 σ10))))) : Tri (d + 1) M_X_sameAs [vA 0, vI x1] σ Q :=
  Tri_intro rfl (Nat.le_of_ble_eq_true rfl) (ls := [vA 0, vI x1, vU, vU]) rfl (fun hok => L_aload_n dX_sameAs_0 rfl (L_iload_n dX_sameAs_1 rfl (L_callVI rfl cv_X_shelfTrouble (As := [vI x1]) rfl (tk4 130 rfl rfl) rfl (Nat.le_of_ble_eq_true rfl) dX_sameAs_2 ⟨ob_0, Tri.mono ((h (hok _ (List.mem_of_getElem? (i := 1) rfl)))) (fun r1 σ1 q1 => L_istore_n dX_sameAs_5 (by decide) (L_iload_n dX_sameAs_6 rfl (L_if_eq dX_sameAs_7 (by decide) ⟨fun c2 => L_aload_n dX_sameAs_16 rfl (L_getF (b := 78) fw_X_81 rfl rfl (by decide) dX_sameAs_17 ⟨ob_0, L_aload_n dX_sameAs_20 rfl (L_getF (b := 6) fw_X_37 rfl rfl (by decide) dX_sameAs_21 ⟨ob_0, L_getF (b := 7) fw_X_156 rfl rfl (by decide) dX_sameAs_24 ⟨ob_6, L_aload_n dX_sameAs_27 rfl (L_getF (b := 6) fw_X_37 rfl rfl (by decide) dX_sameAs_28 ⟨ob_0, L_getF (b := 9) fw_X_241 rfl rfl (by decide) dX_sameAs_31 ⟨ob_6, L_iload_n dX_sameAs_34 rfl (L_aaF (b := 13 + 2 * x1) (o := (4, 2)) (by decide) rfl (show (9 : Int) + 4 + 2 * x1 = 13 + 2 * x1 by omega) (by decide) dX_sameAs_35 ⟨(q1.1 c2).1, L_iconst dX_sameAs_36 in_1 (L_callVI rfl cv_Ma_look (As := [vA 7, vA (13 + 2 * x1), vI 1]) rfl (tk5 174 rfl rfl) rfl (Nat.le_of_ble_eq_true rfl) dX_sameAs_37 ⟨ob_78, Tri.mono ((q1.1 c2).2) (fun r3 σ3 q3 => L_istore_n dX_sameAs_40 (by decide) (L_aload_n dX_sameAs_41 rfl (L_aload_n dX_sameAs_42 rfl (L_getF (b := 78) fw_X_81 rfl rfl (by decide) dX_sameAs_43 ⟨ob_0, L_getf fw_X_311 rfl dX_sameAs_46 ⟨ob_78, L_putfN fp_X_13 rfl rfl (fun _ => ⟨rfl, rfl⟩) dX_sameAs_49 ⟨ob_0, fun σ4 e4 => L_aload_n dX_sameAs_52 rfl (L_getF (b := 78) fw_X_81 rfl rfl (by decide) dX_sameAs_53 ⟨ob_0, L_getf fw_X_314 rfl dX_sameAs_56 ⟨ob_78, L_if_eq dX_sameAs_59 (by decide) ⟨fun c5 => L_aload_n dX_sameAs_71 rfl (L_iload_n dX_sameAs_72 rfl (L_if_eq dX_sameAs_73 (by decide) ⟨fun c6 => L_iconst dX_sameAs_80 in_0 (L_callVI rfl cv_X_answer (As := [vI 0]) rfl (tk3 208 rfl rfl) rfl (Nat.le_of_ble_eq_true rfl) dX_sameAs_81 ⟨ob_0, Tri.mono (((q3 σ4 e4).1 c5).1 c6) (fun r7 σ7 q7 => L_ireturn rfl dX_sameAs_84 q7)⟩), fun c6 => L_iconst dX_sameAs_76 in_1 (L_goto dX_sameAs_77 (by decide) (L_callVI rfl cv_X_answer (As := [vI 1]) rfl (tk3 208 rfl rfl) rfl (Nat.le_of_ble_eq_true rfl) dX_sameAs_81 ⟨ob_0, Tri.mono (((q3 σ4 e4).1 c5).2 c6) (fun r8 σ8 q8 => L_ireturn rfl dX_sameAs_84 q8)⟩))⟩)), fun c5 => L_aload_n dX_sameAs_62 rfl (L_bipush dX_sameAs_63 bp_9 in_9 (L_callVI rfl cv_X_fail (As := [vI 9]) rfl (tk3 38 rfl rfl) rfl (Nat.le_of_ble_eq_true rfl) dX_sameAs_65 ⟨ob_0, Tri.mono ((q3 σ4 e4).2 c5) (fun r9 σ9 q9 => L_goto dX_sameAs_68 (by decide) (L_ireturn rfl dX_sameAs_84 q9))⟩))⟩⟩⟩)⟩⟩⟩))))⟩)⟩)⟩⟩)⟩⟩)⟩), fun c2 => L_aload_n dX_sameAs_10 rfl (L_iload_n dX_sameAs_11 rfl (L_callVI rfl cv_X_fail (As := [vI r1]) rfl (tk3 38 rfl rfl) rfl (Nat.le_of_ble_eq_true rfl) dX_sameAs_12 ⟨ob_0, Tri.mono (q1.2 c2) (fun r10 σ10 q10 => L_ireturn rfl dX_sameAs_15 q10)⟩))⟩)))⟩)))
theorem dX_tries_0 : decode prog_1_method_38_code 0 = .ok (.aload_n 0, 1) := by decide +kernel
theorem dX_tries_1 : decode prog_1_method_38_code 1 = .ok (.getfield 13, 3) := by decide +kernel
theorem dX_tries_4 : decode prog_1_method_38_code 4 = .ok (.ifCond .ge 12, 3) := by decide +kernel
theorem dX_tries_7 : decode prog_1_method_38_code 7 = .ok (.aload_n 0, 1) := by decide +kernel
theorem dX_tries_8 : decode prog_1_method_38_code 8 = .ok (.bipush 8, 2) := by decide +kernel
theorem dX_tries_10 : decode prog_1_method_38_code 10 = .ok (.invokevirtual 133, 3) := by decide +kernel
theorem dX_tries_13 : decode prog_1_method_38_code 13 = .ok (.goto 11, 3) := by decide +kernel
theorem dX_tries_16 : decode prog_1_method_38_code 16 = .ok (.aload_n 0, 1) := by decide +kernel
theorem dX_tries_17 : decode prog_1_method_38_code 17 = .ok (.aload_n 0, 1) := by decide +kernel
theorem dX_tries_18 : decode prog_1_method_38_code 18 = .ok (.getfield 13, 3) := by decide +kernel
theorem dX_tries_21 : decode prog_1_method_38_code 21 = .ok (.invokevirtual 173, 3) := by decide +kernel
theorem dX_tries_24 : decode prog_1_method_38_code 24 = .ok (.ireturn, 1) := by decide +kernel
theorem t_X_tries {d : Nat} {σ : SG} {Q : Int → SG → Prop} (h : (0 ≤ σ 0 3 → Tri d M_X_answer [vA 0, vI (σ 0 3)] σ (fun r2 σ2 => Q r2 σ2)) ∧ (σ 0 3 < 0 → Tri d M_X_fail [vA 0, vI 8] σ (fun r3 σ3 => Q r3 σ3))) : Tri (d + 1) M_X_tries [vA 0] σ Q :=
  Tri_intro rfl (Nat.le_of_ble_eq_true rfl) (ls := [vA 0]) rfl (fun hok => L_aload_n dX_tries_0 rfl (L_getf fw_X_13 rfl dX_tries_1 ⟨ob_0, L_if_ge dX_tries_4 (by decide) ⟨fun c1 => L_aload_n dX_tries_16 rfl (L_aload_n dX_tries_17 rfl (L_getf fw_X_13 rfl dX_tries_18 ⟨ob_0, L_callVI rfl cv_X_answer (As := [vI (σ 0 3)]) rfl (tk3 208 rfl rfl) rfl (Nat.le_of_ble_eq_true rfl) dX_tries_21 ⟨ob_0, Tri.mono (h.1 c1) (fun r2 σ2 q2 => L_ireturn rfl dX_tries_24 q2)⟩⟩)), fun c1 => L_aload_n dX_tries_7 rfl (L_bipush dX_tries_8 bp_8 in_8 (L_callVI rfl cv_X_fail (As := [vI 8]) rfl (tk3 38 rfl rfl) rfl (Nat.le_of_ble_eq_true rfl) dX_tries_10 ⟨ob_0, Tri.mono (h.2 c1) (fun r3 σ3 q3 => L_goto dX_tries_13 (by decide) (L_ireturn rfl dX_tries_24 q3))⟩))⟩⟩))
theorem dX_parted_0 : decode prog_1_method_39_code 0 = .ok (.aload_n 0, 1) := by decide +kernel
theorem dX_parted_1 : decode prog_1_method_39_code 1 = .ok (.iload_n 1, 1) := by decide +kernel
theorem dX_parted_2 : decode prog_1_method_39_code 2 = .ok (.invokevirtual 238, 3) := by decide +kernel
theorem dX_parted_5 : decode prog_1_method_39_code 5 = .ok (.istore_n 2, 1) := by decide +kernel
theorem dX_parted_6 : decode prog_1_method_39_code 6 = .ok (.iload_n 2, 1) := by decide +kernel
theorem dX_parted_7 : decode prog_1_method_39_code 7 = .ok (.ifCond .eq 9, 3) := by decide +kernel
theorem dX_parted_10 : decode prog_1_method_39_code 10 = .ok (.aload_n 0, 1) := by decide +kernel
theorem dX_parted_11 : decode prog_1_method_39_code 11 = .ok (.iload_n 2, 1) := by decide +kernel
theorem dX_parted_12 : decode prog_1_method_39_code 12 = .ok (.invokevirtual 133, 3) := by decide +kernel
theorem dX_parted_15 : decode prog_1_method_39_code 15 = .ok (.ireturn, 1) := by decide +kernel
theorem dX_parted_16 : decode prog_1_method_39_code 16 = .ok (.aload_n 0, 1) := by decide +kernel
theorem dX_parted_17 : decode prog_1_method_39_code 17 = .ok (.getfield 37, 3) := by decide +kernel
theorem dX_parted_20 : decode prog_1_method_39_code 20 = .ok (.getfield 156, 3) := by decide +kernel
theorem dX_parted_23 : decode prog_1_method_39_code 23 = .ok (.astore_n 3, 1) := by decide +kernel
theorem dX_parted_24 : decode prog_1_method_39_code 24 = .ok (.aload_n 0, 1) := by decide +kernel
theorem dX_parted_25 : decode prog_1_method_39_code 25 = .ok (.getfield 37, 3) := by decide +kernel
theorem dX_parted_28 : decode prog_1_method_39_code 28 = .ok (.getfield 241, 3) := by decide +kernel
theorem dX_parted_31 : decode prog_1_method_39_code 31 = .ok (.iload_n 1, 1) := by decide +kernel
theorem dX_parted_32 : decode prog_1_method_39_code 32 = .ok (.aaload, 1) := by decide +kernel
theorem dX_parted_33 : decode prog_1_method_39_code 33 = .ok (.astore 4, 2) := by decide +kernel
theorem dX_parted_35 : decode prog_1_method_39_code 35 = .ok (.aload_n 3, 1) := by decide +kernel
theorem dX_parted_36 : decode prog_1_method_39_code 36 = .ok (.aload 4, 2) := by decide +kernel
theorem dX_parted_38 : decode prog_1_method_39_code 38 = .ok (.invokevirtual 321, 3) := by decide +kernel
theorem dX_parted_41 : decode prog_1_method_39_code 41 = .ok (.ifCond .ne 9, 3) := by decide +kernel
theorem dX_parted_44 : decode prog_1_method_39_code 44 = .ok (.aload_n 0, 1) := by decide +kernel
theorem dX_parted_45 : decode prog_1_method_39_code 45 = .ok (.iconst 0, 1) := by decide +kernel
theorem dX_parted_46 : decode prog_1_method_39_code 46 = .ok (.invokevirtual 173, 3) := by decide +kernel
theorem dX_parted_49 : decode prog_1_method_39_code 49 = .ok (.ireturn, 1) := by decide +kernel
theorem dX_parted_50 : decode prog_1_method_39_code 50 = .ok (.iconst 1, 1) := by decide +kernel
theorem dX_parted_51 : decode prog_1_method_39_code 51 = .ok (.istore 5, 2) := by decide +kernel
theorem dX_parted_53 : decode prog_1_method_39_code 53 = .ok (.iload 5, 2) := by decide +kernel
theorem dX_parted_55 : decode prog_1_method_39_code 55 = .ok (.bipush 8, 2) := by decide +kernel
theorem dX_parted_57 : decode prog_1_method_39_code 57 = .ok (.if_icmp .gt 34, 3) := by decide +kernel
theorem dX_parted_60 : decode prog_1_method_39_code 60 = .ok (.aload_n 0, 1) := by decide +kernel
theorem dX_parted_61 : decode prog_1_method_39_code 61 = .ok (.aload_n 3, 1) := by decide +kernel
theorem dX_parted_62 : decode prog_1_method_39_code 62 = .ok (.iload 5, 2) := by decide +kernel
theorem dX_parted_64 : decode prog_1_method_39_code 64 = .ok (.invokevirtual 324, 3) := by decide +kernel
theorem dX_parted_67 : decode prog_1_method_39_code 67 = .ok (.aload_n 0, 1) := by decide +kernel
theorem dX_parted_68 : decode prog_1_method_39_code 68 = .ok (.aload 4, 2) := by decide +kernel
theorem dX_parted_70 : decode prog_1_method_39_code 70 = .ok (.iload 5, 2) := by decide +kernel
theorem dX_parted_72 : decode prog_1_method_39_code 72 = .ok (.invokevirtual 324, 3) := by decide +kernel
theorem dX_parted_75 : decode prog_1_method_39_code 75 = .ok (.if_icmp .eq 10, 3) := by decide +kernel
theorem dX_parted_78 : decode prog_1_method_39_code 78 = .ok (.aload_n 0, 1) := by decide +kernel
theorem dX_parted_79 : decode prog_1_method_39_code 79 = .ok (.iload 5, 2) := by decide +kernel
theorem dX_parted_81 : decode prog_1_method_39_code 81 = .ok (.invokevirtual 173, 3) := by decide +kernel
theorem dX_parted_84 : decode prog_1_method_39_code 84 = .ok (.ireturn, 1) := by decide +kernel
theorem dX_parted_85 : decode prog_1_method_39_code 85 = .ok (.iinc 5 1, 3) := by decide +kernel
theorem dX_parted_88 : decode prog_1_method_39_code 88 = .ok (.goto (-35), 3) := by decide +kernel
theorem dX_parted_91 : decode prog_1_method_39_code 91 = .ok (.aload_n 0, 1) := by decide +kernel
theorem dX_parted_92 : decode prog_1_method_39_code 92 = .ok (.bipush 8, 2) := by decide +kernel
theorem dX_parted_94 : decode prog_1_method_39_code 94 = .ok (.invokevirtual 133, 3) := by decide +kernel
theorem dX_parted_97 : decode prog_1_method_39_code 97 = .ok (.ireturn, 1) := by decide +kernel
theorem t_X_parted {d : Nat} {x1 : Int} {σ : SG} {Q : Int → SG → Prop} (h : inI x1 → (Tri d M_X_shelfTrouble [vA 0, vI x1] σ (fun r1 σ1 => (r1 = 0 → rdok 105 9 x1 ∧ Tri d M_Wd_isLike [vA 7, vA (13 + 2 * x1)] σ1 (fun r3 σ3 => (r3 ≠ 0 → L (d + 1) M_X_parted 53 [vA 0, vU, vU, vA 7, vA (13 + 2 * x1), vI 1] [] σ3 Q) ∧ (r3 = 0 → Tri d M_X_answer [vA 0, vI 0] σ3 (fun r5 σ5 => Q r5 σ5)))) ∧ (r1 ≠ 0 → Tri d M_X_fail [vA 0, vI r1] σ1 (fun r6 σ6 => Q r6 σ6))))) : Tri (d + 1) M_X_parted [vA 0, vI x1] σ Q :=
  Tri_intro rfl (Nat.le_of_ble_eq_true rfl) (ls := [vA 0, vI x1, vU, vU, vU, vU]) rfl (fun hok => L_aload_n dX_parted_0 rfl (L_iload_n dX_parted_1 rfl (L_callVI rfl cv_X_shelfTrouble (As := [vI x1]) rfl (tk4 130 rfl rfl) rfl (Nat.le_of_ble_eq_true rfl) dX_parted_2 ⟨ob_0, Tri.mono ((h (hok _ (List.mem_of_getElem? (i := 1) rfl)))) (fun r1 σ1 q1 => L_istore_n dX_parted_5 (by decide) (L_iload_n dX_parted_6 rfl (L_if_eq dX_parted_7 (by decide) ⟨fun c2 => L_aload_n dX_parted_16 rfl (L_getF (b := 6) fw_X_37 rfl rfl (by decide) dX_parted_17 ⟨ob_0, L_getF (b := 7) fw_X_156 rfl rfl (by decide) dX_parted_20 ⟨ob_6, L_astore_n dX_parted_23 (by decide) (by omega) (L_aload_n dX_parted_24 rfl (L_getF (b := 6) fw_X_37 rfl rfl (by decide) dX_parted_25 ⟨ob_0, L_getF (b := 9) fw_X_241 rfl rfl (by decide) dX_parted_28 ⟨ob_6, L_iload_n dX_parted_31 rfl (L_aaF (b := 13 + 2 * x1) (o := (4, 2)) (by decide) rfl (show (9 : Int) + 4 + 2 * x1 = 13 + 2 * x1 by omega) (by decide) dX_parted_32 ⟨(q1.1 c2).1, L_astoreA dX_parted_33 (by decide) (L_aload_n dX_parted_35 rfl (L_aload dX_parted_36 rfl (L_callVI rfl cv_Wd_isLike (As := [vA (13 + 2 * x1)]) rfl (tk5 228 rfl rfl) rfl (Nat.le_of_ble_eq_true rfl) dX_parted_38 ⟨ob_7, Tri.mono ((q1.1 c2).2) (fun r3 σ3 q3 => L_if_ne dX_parted_41 (by decide) ⟨fun c4 => L_iconst dX_parted_50 in_1 (L_istore dX_parted_51 (by decide) (L_weak [true, false, false, true, true, true] (q3.1 c4))), fun c4 => L_aload_n dX_parted_44 rfl (L_iconst dX_parted_45 in_0 (L_callVI rfl cv_X_answer (As := [vI 0]) rfl (tk3 208 rfl rfl) rfl (Nat.le_of_ble_eq_true rfl) dX_parted_46 ⟨ob_0, Tri.mono (q3.2 c4) (fun r5 σ5 q5 => L_ireturn rfl dX_parted_49 q5)⟩))⟩)⟩)))⟩)⟩⟩))⟩⟩), fun c2 => L_aload_n dX_parted_10 rfl (L_iload_n dX_parted_11 rfl (L_callVI rfl cv_X_fail (As := [vI r1]) rfl (tk3 38 rfl rfl) rfl (Nat.le_of_ble_eq_true rfl) dX_parted_12 ⟨ob_0, Tri.mono (q1.2 c2) (fun r6 σ6 q6 => L_ireturn rfl dX_parted_15 q6)⟩))⟩)))⟩)))
theorem s_X_parted_53 {d : Nat} {x3 x4 x5 : Int} {σ : SG} {Q : Int → SG → Prop} (h : (8 < x5 → Tri d M_X_fail [vA 0, vI 8] σ (fun r2 σ2 => Q r2 σ2)) ∧ (x5 ≤ 8 → Tri d M_X_tellingNumber [vA 0, vA x3, vI x5] σ (fun r3 σ3 => Tri d M_X_tellingNumber [vA 0, vA x4, vI x5] σ3 (fun r4 σ4 => (r3 = r4 → L (d + 1) M_X_parted 53 [vA 0, vU, vU, vA x3, vA x4, vI (w32 (x5 + 1))] [] σ4 Q) ∧ (r3 ≠ r4 → Tri d M_X_answer [vA 0, vI x5] σ4 (fun r6 σ6 => Q r6 σ6)))))) : L (d + 1) M_X_parted 53 [vA 0, vU, vU, vA x3, vA x4, vI x5] [] σ Q :=
  L_iload dX_parted_53 rfl (L_bipush dX_parted_55 bp_8 in_8 (L_icmp_gt dX_parted_57 (by decide) ⟨fun c1 => L_aload_n dX_parted_91 rfl (L_bipush dX_parted_92 bp_8 in_8 (L_callVI rfl cv_X_fail (As := [vI 8]) rfl (tk3 38 rfl rfl) rfl (Nat.le_of_ble_eq_true rfl) dX_parted_94 ⟨ob_0, Tri.mono (h.1 c1) (fun r2 σ2 q2 => L_ireturn rfl dX_parted_97 q2)⟩)), fun c1 => L_aload_n dX_parted_60 rfl (L_aload_n dX_parted_61 rfl (L_iload dX_parted_62 rfl (L_callVI rfl cv_X_tellingNumber (As := [vA x3, vI x5]) rfl (tk5 229 rfl rfl) rfl (Nat.le_of_ble_eq_true rfl) dX_parted_64 ⟨ob_0, Tri.mono (h.2 c1) (fun r3 σ3 q3 => L_aload_n dX_parted_67 rfl (L_aload dX_parted_68 rfl (L_iload dX_parted_70 rfl (L_callVI rfl cv_X_tellingNumber (As := [vA x4, vI x5]) rfl (tk5 229 rfl rfl) rfl (Nat.le_of_ble_eq_true rfl) dX_parted_72 ⟨ob_0, Tri.mono q3 (fun r4 σ4 q4 => L_icmp_eq dX_parted_75 (by decide) ⟨fun c5 => L_iinc dX_parted_85 rfl (by decide) (L_goto dX_parted_88 (by decide) (q4.1 c5)), fun c5 => L_aload_n dX_parted_78 rfl (L_iload dX_parted_79 rfl (L_callVI rfl cv_X_answer (As := [vI x5]) rfl (tk3 208 rfl rfl) rfl (Nat.le_of_ble_eq_true rfl) dX_parted_81 ⟨ob_0, Tri.mono (q4.2 c5) (fun r6 σ6 q6 => L_ireturn rfl dX_parted_84 q6)⟩))⟩)⟩))))⟩)))⟩))
theorem dX_change_0 : decode prog_1_method_40_code 0 = .ok (.aload_n 0, 1) := by decide +kernel
theorem dX_change_1 : decode prog_1_method_40_code 1 = .ok (.getfield 37, 3) := by decide +kernel
theorem dX_change_4 : decode prog_1_method_40_code 4 = .ok (.getfield 156, 3) := by decide +kernel
theorem dX_change_7 : decode prog_1_method_40_code 7 = .ok (.astore_n 2, 1) := by decide +kernel
theorem dX_change_8 : decode prog_1_method_40_code 8 = .ok (.aload_n 0, 1) := by decide +kernel
theorem dX_change_9 : decode prog_1_method_40_code 9 = .ok (.iload_n 1, 1) := by decide +kernel
theorem dX_change_10 : decode prog_1_method_40_code 10 = .ok (.invokevirtual 245, 3) := by decide +kernel
theorem dX_change_13 : decode prog_1_method_40_code 13 = .ok (.istore_n 3, 1) := by decide +kernel
theorem dX_change_14 : decode prog_1_method_40_code 14 = .ok (.iload_n 3, 1) := by decide +kernel
theorem dX_change_15 : decode prog_1_method_40_code 15 = .ok (.ifCond .ne 25, 3) := by decide +kernel
theorem dX_change_18 : decode prog_1_method_40_code 18 = .ok (.aload_n 0, 1) := by decide +kernel
theorem dX_change_19 : decode prog_1_method_40_code 19 = .ok (.iload_n 1, 1) := by decide +kernel
theorem dX_change_20 : decode prog_1_method_40_code 20 = .ok (.aload_n 2, 1) := by decide +kernel
theorem dX_change_21 : decode prog_1_method_40_code 21 = .ok (.getfield 170, 3) := by decide +kernel
theorem dX_change_24 : decode prog_1_method_40_code 24 = .ok (.aload_n 2, 1) := by decide +kernel
theorem dX_change_25 : decode prog_1_method_40_code 25 = .ok (.getfield 170, 3) := by decide +kernel
theorem dX_change_28 : decode prog_1_method_40_code 28 = .ok (.imul, 1) := by decide +kernel
theorem dX_change_29 : decode prog_1_method_40_code 29 = .ok (.iconst 0, 1) := by decide +kernel
theorem dX_change_30 : decode prog_1_method_40_code 30 = .ok (.aload_n 2, 1) := by decide +kernel
theorem dX_change_31 : decode prog_1_method_40_code 31 = .ok (.getfield 195, 3) := by decide +kernel
theorem dX_change_34 : decode prog_1_method_40_code 34 = .ok (.iconst 1, 1) := by decide +kernel
theorem dX_change_35 : decode prog_1_method_40_code 35 = .ok (.isub, 1) := by decide +kernel
theorem dX_change_36 : decode prog_1_method_40_code 36 = .ok (.invokevirtual 327, 3) := by decide +kernel
theorem dX_change_39 : decode prog_1_method_40_code 39 = .ok (.istore_n 3, 1) := by decide +kernel
theorem dX_change_40 : decode prog_1_method_40_code 40 = .ok (.iload_n 3, 1) := by decide +kernel
theorem dX_change_41 : decode prog_1_method_40_code 41 = .ok (.ifCond .eq 9, 3) := by decide +kernel
theorem dX_change_44 : decode prog_1_method_40_code 44 = .ok (.aload_n 0, 1) := by decide +kernel
theorem dX_change_45 : decode prog_1_method_40_code 45 = .ok (.iload_n 3, 1) := by decide +kernel
theorem dX_change_46 : decode prog_1_method_40_code 46 = .ok (.invokevirtual 115, 3) := by decide +kernel
theorem dX_change_49 : decode prog_1_method_40_code 49 = .ok (.ireturn, 1) := by decide +kernel
theorem dX_change_50 : decode prog_1_method_40_code 50 = .ok (.aload_n 0, 1) := by decide +kernel
theorem dX_change_51 : decode prog_1_method_40_code 51 = .ok (.getfield 88, 3) := by decide +kernel
theorem dX_change_54 : decode prog_1_method_40_code 54 = .ok (.aload_n 2, 1) := by decide +kernel
theorem dX_change_55 : decode prog_1_method_40_code 55 = .ok (.getfield 170, 3) := by decide +kernel
theorem dX_change_58 : decode prog_1_method_40_code 58 = .ok (.aload_n 0, 1) := by decide +kernel
theorem dX_change_59 : decode prog_1_method_40_code 59 = .ok (.getfield 28, 3) := by decide +kernel
theorem dX_change_62 : decode prog_1_method_40_code 62 = .ok (.invokevirtual 331, 3) := by decide +kernel
theorem dX_change_65 : decode prog_1_method_40_code 65 = .ok (.aload_n 0, 1) := by decide +kernel
theorem dX_change_66 : decode prog_1_method_40_code 66 = .ok (.getfield 88, 3) := by decide +kernel
theorem dX_change_69 : decode prog_1_method_40_code 69 = .ok (.aload_n 2, 1) := by decide +kernel
theorem dX_change_70 : decode prog_1_method_40_code 70 = .ok (.invokevirtual 335, 3) := by decide +kernel
theorem dX_change_73 : decode prog_1_method_40_code 73 = .ok (.ifCond .eq 10, 3) := by decide +kernel
theorem dX_change_76 : decode prog_1_method_40_code 76 = .ok (.aload_n 0, 1) := by decide +kernel
theorem dX_change_77 : decode prog_1_method_40_code 77 = .ok (.invokevirtual 121, 3) := by decide +kernel
theorem dX_change_80 : decode prog_1_method_40_code 80 = .ok (.goto 9, 3) := by decide +kernel
theorem dX_change_83 : decode prog_1_method_40_code 83 = .ok (.aload_n 0, 1) := by decide +kernel
theorem dX_change_84 : decode prog_1_method_40_code 84 = .ok (.bipush 9, 2) := by decide +kernel
theorem dX_change_86 : decode prog_1_method_40_code 86 = .ok (.invokevirtual 115, 3) := by decide +kernel
theorem dX_change_89 : decode prog_1_method_40_code 89 = .ok (.ireturn, 1) := by decide +kernel
theorem t_X_change {d : Nat} {x1 : Int} {σ : SG} {Q : Int → SG → Prop} (h : inI x1 → (Tri d M_X_trayTrouble [vA 0, vI x1] σ (fun r1 σ1 => (r1 ≠ 0 → L (d + 1) M_X_change 40 [vA 0, vU, vA 7, vI r1] [] σ1 Q) ∧ (r1 = 0 → Tri d M_X_gatherNumbers [vA 0, vI x1, vI (w32 ((σ1 7 2) * (σ1 7 2))), vI 0, vI (w32 ((σ1 7 1) - 1))] σ1 (fun r3 σ3 => L (d + 1) M_X_change 40 [vA 0, vU, vA 7, vI r3] [] σ3 Q))))) : Tri (d + 1) M_X_change [vA 0, vI x1] σ Q :=
  Tri_intro rfl (Nat.le_of_ble_eq_true rfl) (ls := [vA 0, vI x1, vU, vU]) rfl (fun hok => L_aload_n dX_change_0 rfl (L_getF (b := 6) fw_X_37 rfl rfl (by decide) dX_change_1 ⟨ob_0, L_getF (b := 7) fw_X_156 rfl rfl (by decide) dX_change_4 ⟨ob_6, L_astore_n dX_change_7 (by decide) (by omega) (L_aload_n dX_change_8 rfl (L_iload_n dX_change_9 rfl (L_callVI rfl cv_X_trayTrouble (As := [vI x1]) rfl (tk3 27 rfl rfl) rfl (Nat.le_of_ble_eq_true rfl) dX_change_10 ⟨ob_0, Tri.mono ((h (hok _ (List.mem_of_getElem? (i := 1) rfl)))) (fun r1 σ1 q1 => L_istore_n dX_change_13 (by decide) (L_iload_n dX_change_14 rfl (L_if_ne dX_change_15 (by decide) ⟨fun c2 => L_weak [true, false, true, true] (q1.1 c2), fun c2 => L_aload_n dX_change_18 rfl (L_iload_n dX_change_19 rfl (L_aload_n dX_change_20 rfl (L_getf fw_X_170 rfl dX_change_21 ⟨ob_7, L_aload_n dX_change_24 rfl (L_getf fw_X_170 rfl dX_change_25 ⟨ob_7, L_imul dX_change_28 (L_iconst dX_change_29 in_0 (L_aload_n dX_change_30 rfl (L_getf fw_X_195 rfl dX_change_31 ⟨ob_7, L_iconst dX_change_34 in_1 (L_isub dX_change_35 (L_callVI rfl cv_X_gatherNumbers (As := [vI x1, vI (w32 ((σ1 7 2) * (σ1 7 2))), vI 0, vI (w32 ((σ1 7 1) - 1))]) rfl (tk5 237 rfl rfl) rfl (Nat.le_of_ble_eq_true rfl) dX_change_36 ⟨ob_0, Tri.mono (q1.2 c2) (fun r3 σ3 q3 => L_istore_n dX_change_39 (by decide) (L_weak [true, false, true, true] q3))⟩))⟩)))⟩)⟩)))⟩)))⟩)))⟩⟩))
theorem s_X_change_40 {d : Nat} {x2 x3 : Int} {σ : SG} {Q : Int → SG → Prop} (h : (x3 = 0 → obok 10 x2 ∧ Tri d M_Wo_layBase [vA 104, vI (σ x2 2), vA 4] σ (fun r2 σ2 => Tri d M_Wo_changeBase [vA 104, vA x2] σ2 (fun r3 σ3 => (r3 = 0 → Tri d M_X_refuse [vA 0, vI 9] σ3 (fun r5 σ5 => (r5 = 0 ∨ r5 = 1) ∧ Q r5 σ5)) ∧ (r3 ≠ 0 → Tri d M_X_agree [vA 0] σ3 (fun r6 σ6 => (r6 = 0 ∨ r6 = 1) ∧ Q r6 σ6))))) ∧ (x3 ≠ 0 → Tri d M_X_refuse [vA 0, vI x3] σ (fun r7 σ7 => (r7 = 0 ∨ r7 = 1) ∧ Q r7 σ7))) : L (d + 1) M_X_change 40 [vA 0, vU, vA x2, vI x3] [] σ Q :=
  L_iload_n dX_change_40 rfl (L_if_eq dX_change_41 (by decide) ⟨fun c1 => L_aload_n dX_change_50 rfl (L_getF (b := 104) fw_X_88 rfl rfl (by decide) dX_change_51 ⟨ob_0, L_aload_n dX_change_54 rfl (L_getf fw_X_170 rfl dX_change_55 ⟨(h.1 c1).1, L_aload_n dX_change_58 rfl (L_getF (b := 4) fw_X_28 rfl rfl (by decide) dX_change_59 ⟨ob_0, L_callVV rfl cv_Wo_layBase (As := [vI (σ x2 2), vA 4]) rfl (tk6 1 rfl rfl) rfl (Nat.le_of_ble_eq_true rfl) dX_change_62 ⟨ob_104, Tri.mono ((h.1 c1).2) (fun r2 σ2 q2 => L_aload_n dX_change_65 rfl (L_getF (b := 104) fw_X_88 rfl rfl (by decide) dX_change_66 ⟨ob_0, L_aload_n dX_change_69 rfl (L_callVI rfl cv_Wo_changeBase (As := [vA x2]) rfl (tk6 5 rfl rfl) rfl (Nat.le_of_ble_eq_true rfl) dX_change_70 ⟨ob_104, Tri.mono q2 (fun r3 σ3 q3 => L_if_eq dX_change_73 (by decide) ⟨fun c4 => L_aload_n dX_change_83 rfl (L_bipush dX_change_84 bp_9 in_9 (L_callVI rfl cv_X_refuse (As := [vI 9]) rfl (tk3 5 rfl rfl) rfl (Nat.le_of_ble_eq_true rfl) dX_change_86 ⟨ob_0, Tri.mono (q3.1 c4) (fun r5 σ5 q5 => L_zreturn rfl dX_change_89 q5)⟩)), fun c4 => L_aload_n dX_change_76 rfl (L_callVI rfl cv_X_agree (As := []) rfl (tk3 15 rfl rfl) rfl (Nat.le_of_ble_eq_true rfl) dX_change_77 ⟨ob_0, Tri.mono (q3.2 c4) (fun r6 σ6 q6 => L_goto dX_change_80 (by decide) (L_zreturn rfl dX_change_89 q6))⟩)⟩)⟩)⟩))⟩⟩)⟩)⟩), fun c1 => L_aload_n dX_change_44 rfl (L_iload_n dX_change_45 rfl (L_callVI rfl cv_X_refuse (As := [vI x3]) rfl (tk3 5 rfl rfl) rfl (Nat.le_of_ble_eq_true rfl) dX_change_46 ⟨ob_0, Tri.mono (h.2 c1) (fun r7 σ7 q7 => L_zreturn rfl dX_change_49 q7)⟩))⟩)
theorem dX_squeeze_0 : decode prog_1_method_41_code 0 = .ok (.aload_n 0, 1) := by decide +kernel
theorem dX_squeeze_1 : decode prog_1_method_41_code 1 = .ok (.iload_n 1, 1) := by decide +kernel
theorem dX_squeeze_2 : decode prog_1_method_41_code 2 = .ok (.invokevirtual 245, 3) := by decide +kernel
theorem dX_squeeze_5 : decode prog_1_method_41_code 5 = .ok (.istore_n 2, 1) := by decide +kernel
theorem dX_squeeze_6 : decode prog_1_method_41_code 6 = .ok (.iload_n 2, 1) := by decide +kernel
theorem dX_squeeze_7 : decode prog_1_method_41_code 7 = .ok (.ifCond .ne 23, 3) := by decide +kernel
theorem dX_squeeze_10 : decode prog_1_method_41_code 10 = .ok (.aload_n 0, 1) := by decide +kernel
theorem dX_squeeze_11 : decode prog_1_method_41_code 11 = .ok (.iload_n 1, 1) := by decide +kernel
theorem dX_squeeze_12 : decode prog_1_method_41_code 12 = .ok (.aload_n 0, 1) := by decide +kernel
theorem dX_squeeze_13 : decode prog_1_method_41_code 13 = .ok (.getfield 37, 3) := by decide +kernel
theorem dX_squeeze_16 : decode prog_1_method_41_code 16 = .ok (.getfield 156, 3) := by decide +kernel
theorem dX_squeeze_19 : decode prog_1_method_41_code 19 = .ok (.getfield 170, 3) := by decide +kernel
theorem dX_squeeze_22 : decode prog_1_method_41_code 22 = .ok (.bipush (-20), 2) := by decide +kernel
theorem dX_squeeze_24 : decode prog_1_method_41_code 24 = .ok (.bipush 20, 2) := by decide +kernel
theorem dX_squeeze_26 : decode prog_1_method_41_code 26 = .ok (.invokevirtual 327, 3) := by decide +kernel
theorem dX_squeeze_29 : decode prog_1_method_41_code 29 = .ok (.istore_n 2, 1) := by decide +kernel
theorem dX_squeeze_30 : decode prog_1_method_41_code 30 = .ok (.iload_n 2, 1) := by decide +kernel
theorem dX_squeeze_31 : decode prog_1_method_41_code 31 = .ok (.ifCond .ne 27, 3) := by decide +kernel
theorem dX_squeeze_34 : decode prog_1_method_41_code 34 = .ok (.aload_n 0, 1) := by decide +kernel
theorem dX_squeeze_35 : decode prog_1_method_41_code 35 = .ok (.getfield 88, 3) := by decide +kernel
theorem dX_squeeze_38 : decode prog_1_method_41_code 38 = .ok (.aload_n 0, 1) := by decide +kernel
theorem dX_squeeze_39 : decode prog_1_method_41_code 39 = .ok (.getfield 37, 3) := by decide +kernel
theorem dX_squeeze_42 : decode prog_1_method_41_code 42 = .ok (.getfield 156, 3) := by decide +kernel
theorem dX_squeeze_45 : decode prog_1_method_41_code 45 = .ok (.aload_n 0, 1) := by decide +kernel
theorem dX_squeeze_46 : decode prog_1_method_41_code 46 = .ok (.getfield 28, 3) := by decide +kernel
theorem dX_squeeze_49 : decode prog_1_method_41_code 49 = .ok (.invokevirtual 338, 3) := by decide +kernel
theorem dX_squeeze_52 : decode prog_1_method_41_code 52 = .ok (.ifCond .ne 6, 3) := by decide +kernel
theorem dX_squeeze_55 : decode prog_1_method_41_code 55 = .ok (.bipush 9, 2) := by decide +kernel
theorem dX_squeeze_57 : decode prog_1_method_41_code 57 = .ok (.istore_n 2, 1) := by decide +kernel
theorem dX_squeeze_58 : decode prog_1_method_41_code 58 = .ok (.iload_n 2, 1) := by decide +kernel
theorem dX_squeeze_59 : decode prog_1_method_41_code 59 = .ok (.ifCond .ne 10, 3) := by decide +kernel
theorem dX_squeeze_62 : decode prog_1_method_41_code 62 = .ok (.aload_n 0, 1) := by decide +kernel
theorem dX_squeeze_63 : decode prog_1_method_41_code 63 = .ok (.invokevirtual 121, 3) := by decide +kernel
theorem dX_squeeze_66 : decode prog_1_method_41_code 66 = .ok (.goto 8, 3) := by decide +kernel
theorem dX_squeeze_69 : decode prog_1_method_41_code 69 = .ok (.aload_n 0, 1) := by decide +kernel
theorem dX_squeeze_70 : decode prog_1_method_41_code 70 = .ok (.iload_n 2, 1) := by decide +kernel
theorem dX_squeeze_71 : decode prog_1_method_41_code 71 = .ok (.invokevirtual 115, 3) := by decide +kernel
theorem dX_squeeze_74 : decode prog_1_method_41_code 74 = .ok (.ireturn, 1) := by decide +kernel
theorem t_X_squeeze {d : Nat} {x1 : Int} {σ : SG} {Q : Int → SG → Prop} (h : inI x1 → (Tri d M_X_trayTrouble [vA 0, vI x1] σ (fun r1 σ1 => (r1 ≠ 0 → L (d + 1) M_X_squeeze 30 [vA 0, vU, vI r1] [] σ1 Q) ∧ (r1 = 0 → Tri d M_X_gatherNumbers [vA 0, vI x1, vI (σ1 7 2), vI (-20), vI 20] σ1 (fun r3 σ3 => L (d + 1) M_X_squeeze 30 [vA 0, vU, vI r3] [] σ3 Q))))) : Tri (d + 1) M_X_squeeze [vA 0, vI x1] σ Q :=
  Tri_intro rfl (Nat.le_of_ble_eq_true rfl) (ls := [vA 0, vI x1, vU]) rfl (fun hok => L_aload_n dX_squeeze_0 rfl (L_iload_n dX_squeeze_1 rfl (L_callVI rfl cv_X_trayTrouble (As := [vI x1]) rfl (tk3 27 rfl rfl) rfl (Nat.le_of_ble_eq_true rfl) dX_squeeze_2 ⟨ob_0, Tri.mono ((h (hok _ (List.mem_of_getElem? (i := 1) rfl)))) (fun r1 σ1 q1 => L_istore_n dX_squeeze_5 (by decide) (L_iload_n dX_squeeze_6 rfl (L_if_ne dX_squeeze_7 (by decide) ⟨fun c2 => L_weak [true, false, true] (q1.1 c2), fun c2 => L_aload_n dX_squeeze_10 rfl (L_iload_n dX_squeeze_11 rfl (L_aload_n dX_squeeze_12 rfl (L_getF (b := 6) fw_X_37 rfl rfl (by decide) dX_squeeze_13 ⟨ob_0, L_getF (b := 7) fw_X_156 rfl rfl (by decide) dX_squeeze_16 ⟨ob_6, L_getf fw_X_170 rfl dX_squeeze_19 ⟨ob_7, L_bipush dX_squeeze_22 bp_m20 in_m20 (L_bipush dX_squeeze_24 bp_20 in_20 (L_callVI rfl cv_X_gatherNumbers (As := [vI x1, vI (σ1 7 2), vI (-20), vI 20]) rfl (tk5 237 rfl rfl) rfl (Nat.le_of_ble_eq_true rfl) dX_squeeze_26 ⟨ob_0, Tri.mono (q1.2 c2) (fun r3 σ3 q3 => L_istore_n dX_squeeze_29 (by decide) (L_weak [true, false, true] q3))⟩))⟩⟩⟩)))⟩)))⟩)))
theorem s_X_squeeze_30 {d : Nat} {x2 : Int} {σ : SG} {Q : Int → SG → Prop} (h : (x2 ≠ 0 → (x2 ≠ 0 → Tri d M_X_refuse [vA 0, vI x2] σ (fun r3 σ3 => (r3 = 0 ∨ r3 = 1) ∧ Q r3 σ3)) ∧ (x2 = 0 → Tri d M_X_agree [vA 0] σ (fun r4 σ4 => (r4 = 0 ∨ r4 = 1) ∧ Q r4 σ4))) ∧ (x2 = 0 → Tri d M_Wo_squeezeBy [vA 104, vA 7, vA 4] σ (fun r5 σ5 => (r5 ≠ 0 → (x2 ≠ 0 → Tri d M_X_refuse [vA 0, vI x2] σ5 (fun r8 σ8 => (r8 = 0 ∨ r8 = 1) ∧ Q r8 σ8)) ∧ (x2 = 0 → Tri d M_X_agree [vA 0] σ5 (fun r9 σ9 => (r9 = 0 ∨ r9 = 1) ∧ Q r9 σ9))) ∧ (r5 = 0 → ((9 : Int) ≠ 0 → Tri d M_X_refuse [vA 0, vI 9] σ5 (fun r11 σ11 => (r11 = 0 ∨ r11 = 1) ∧ Q r11 σ11)) ∧ ((9 : Int) = 0 → Tri d M_X_agree [vA 0] σ5 (fun r12 σ12 => (r12 = 0 ∨ r12 = 1) ∧ Q r12 σ12)))))) : L (d + 1) M_X_squeeze 30 [vA 0, vU, vI x2] [] σ Q :=
  L_iload_n dX_squeeze_30 rfl (L_if_ne dX_squeeze_31 (by decide) ⟨fun c1 => L_iload_n dX_squeeze_58 rfl (L_if_ne dX_squeeze_59 (by decide) ⟨fun c2 => L_aload_n dX_squeeze_69 rfl (L_iload_n dX_squeeze_70 rfl (L_callVI rfl cv_X_refuse (As := [vI x2]) rfl (tk3 5 rfl rfl) rfl (Nat.le_of_ble_eq_true rfl) dX_squeeze_71 ⟨ob_0, Tri.mono ((h.1 c1).1 c2) (fun r3 σ3 q3 => L_zreturn rfl dX_squeeze_74 q3)⟩)), fun c2 => L_aload_n dX_squeeze_62 rfl (L_callVI rfl cv_X_agree (As := []) rfl (tk3 15 rfl rfl) rfl (Nat.le_of_ble_eq_true rfl) dX_squeeze_63 ⟨ob_0, Tri.mono ((h.1 c1).2 c2) (fun r4 σ4 q4 => L_goto dX_squeeze_66 (by decide) (L_zreturn rfl dX_squeeze_74 q4))⟩)⟩), fun c1 => L_aload_n dX_squeeze_34 rfl (L_getF (b := 104) fw_X_88 rfl rfl (by decide) dX_squeeze_35 ⟨ob_0, L_aload_n dX_squeeze_38 rfl (L_getF (b := 6) fw_X_37 rfl rfl (by decide) dX_squeeze_39 ⟨ob_0, L_getF (b := 7) fw_X_156 rfl rfl (by decide) dX_squeeze_42 ⟨ob_6, L_aload_n dX_squeeze_45 rfl (L_getF (b := 4) fw_X_28 rfl rfl (by decide) dX_squeeze_46 ⟨ob_0, L_callVI rfl cv_Wo_squeezeBy (As := [vA 7, vA 4]) rfl (tk6 23 rfl rfl) rfl (Nat.le_of_ble_eq_true rfl) dX_squeeze_49 ⟨ob_104, Tri.mono (h.2 c1) (fun r5 σ5 q5 => L_if_ne dX_squeeze_52 (by decide) ⟨fun c6 => L_iload_n dX_squeeze_58 rfl (L_if_ne dX_squeeze_59 (by decide) ⟨fun c7 => L_aload_n dX_squeeze_69 rfl (L_iload_n dX_squeeze_70 rfl (L_callVI rfl cv_X_refuse (As := [vI x2]) rfl (tk3 5 rfl rfl) rfl (Nat.le_of_ble_eq_true rfl) dX_squeeze_71 ⟨ob_0, Tri.mono ((q5.1 c6).1 c7) (fun r8 σ8 q8 => L_zreturn rfl dX_squeeze_74 q8)⟩)), fun c7 => L_aload_n dX_squeeze_62 rfl (L_callVI rfl cv_X_agree (As := []) rfl (tk3 15 rfl rfl) rfl (Nat.le_of_ble_eq_true rfl) dX_squeeze_63 ⟨ob_0, Tri.mono ((q5.1 c6).2 c7) (fun r9 σ9 q9 => L_goto dX_squeeze_66 (by decide) (L_zreturn rfl dX_squeeze_74 q9))⟩)⟩), fun c6 => L_bipush dX_squeeze_55 bp_9 in_9 (L_istore_n dX_squeeze_57 (by decide) (L_iload_n dX_squeeze_58 rfl (L_if_ne dX_squeeze_59 (by decide) ⟨fun c10 => L_aload_n dX_squeeze_69 rfl (L_iload_n dX_squeeze_70 rfl (L_callVI rfl cv_X_refuse (As := [vI 9]) rfl (tk3 5 rfl rfl) rfl (Nat.le_of_ble_eq_true rfl) dX_squeeze_71 ⟨ob_0, Tri.mono ((q5.2 c6).1 c10) (fun r11 σ11 q11 => L_zreturn rfl dX_squeeze_74 q11)⟩)), fun c10 => L_aload_n dX_squeeze_62 rfl (L_callVI rfl cv_X_agree (As := []) rfl (tk3 15 rfl rfl) rfl (Nat.le_of_ble_eq_true rfl) dX_squeeze_63 ⟨ob_0, Tri.mono ((q5.2 c6).2 c10) (fun r12 σ12 q12 => L_goto dX_squeeze_66 (by decide) (L_zreturn rfl dX_squeeze_74 q12))⟩)⟩)))⟩)⟩⟩)⟩⟩)⟩)⟩)
theorem dX_barred_0 : decode prog_1_method_42_code 0 = .ok (.aload_n 0, 1) := by decide +kernel
theorem dX_barred_1 : decode prog_1_method_42_code 1 = .ok (.iload_n 1, 1) := by decide +kernel
theorem dX_barred_2 : decode prog_1_method_42_code 2 = .ok (.invokevirtual 238, 3) := by decide +kernel
theorem dX_barred_5 : decode prog_1_method_42_code 5 = .ok (.istore_n 2, 1) := by decide +kernel
theorem dX_barred_6 : decode prog_1_method_42_code 6 = .ok (.iload_n 2, 1) := by decide +kernel
theorem dX_barred_7 : decode prog_1_method_42_code 7 = .ok (.ifCond .eq 9, 3) := by decide +kernel
theorem dX_barred_10 : decode prog_1_method_42_code 10 = .ok (.aload_n 0, 1) := by decide +kernel
theorem dX_barred_11 : decode prog_1_method_42_code 11 = .ok (.iload_n 2, 1) := by decide +kernel
theorem dX_barred_12 : decode prog_1_method_42_code 12 = .ok (.invokevirtual 133, 3) := by decide +kernel
theorem dX_barred_15 : decode prog_1_method_42_code 15 = .ok (.ireturn, 1) := by decide +kernel
theorem dX_barred_16 : decode prog_1_method_42_code 16 = .ok (.aload_n 0, 1) := by decide +kernel
theorem dX_barred_17 : decode prog_1_method_42_code 17 = .ok (.getfield 37, 3) := by decide +kernel
theorem dX_barred_20 : decode prog_1_method_42_code 20 = .ok (.getfield 156, 3) := by decide +kernel
theorem dX_barred_23 : decode prog_1_method_42_code 23 = .ok (.astore_n 3, 1) := by decide +kernel
theorem dX_barred_24 : decode prog_1_method_42_code 24 = .ok (.aload_n 0, 1) := by decide +kernel
theorem dX_barred_25 : decode prog_1_method_42_code 25 = .ok (.getfield 37, 3) := by decide +kernel
theorem dX_barred_28 : decode prog_1_method_42_code 28 = .ok (.getfield 241, 3) := by decide +kernel
theorem dX_barred_31 : decode prog_1_method_42_code 31 = .ok (.iload_n 1, 1) := by decide +kernel
theorem dX_barred_32 : decode prog_1_method_42_code 32 = .ok (.aaload, 1) := by decide +kernel
theorem dX_barred_33 : decode prog_1_method_42_code 33 = .ok (.astore 4, 2) := by decide +kernel
theorem dX_barred_35 : decode prog_1_method_42_code 35 = .ok (.aload_n 3, 1) := by decide +kernel
theorem dX_barred_36 : decode prog_1_method_42_code 36 = .ok (.aload 4, 2) := by decide +kernel
theorem dX_barred_38 : decode prog_1_method_42_code 38 = .ok (.invokevirtual 321, 3) := by decide +kernel
theorem dX_barred_41 : decode prog_1_method_42_code 41 = .ok (.ifCond .ne 9, 3) := by decide +kernel
theorem dX_barred_44 : decode prog_1_method_42_code 44 = .ok (.aload_n 0, 1) := by decide +kernel
theorem dX_barred_45 : decode prog_1_method_42_code 45 = .ok (.iconst 5, 1) := by decide +kernel
theorem dX_barred_46 : decode prog_1_method_42_code 46 = .ok (.invokevirtual 133, 3) := by decide +kernel
theorem dX_barred_49 : decode prog_1_method_42_code 49 = .ok (.ireturn, 1) := by decide +kernel
theorem dX_barred_50 : decode prog_1_method_42_code 50 = .ok (.aload_n 0, 1) := by decide +kernel
theorem dX_barred_51 : decode prog_1_method_42_code 51 = .ok (.getfield 74, 3) := by decide +kernel
theorem dX_barred_54 : decode prog_1_method_42_code 54 = .ok (.aload 4, 2) := by decide +kernel
theorem dX_barred_56 : decode prog_1_method_42_code 56 = .ok (.invokevirtual 295, 3) := by decide +kernel
theorem dX_barred_59 : decode prog_1_method_42_code 59 = .ok (.aload_n 0, 1) := by decide +kernel
theorem dX_barred_60 : decode prog_1_method_42_code 60 = .ok (.getfield 74, 3) := by decide +kernel
theorem dX_barred_63 : decode prog_1_method_42_code 63 = .ok (.aload_n 3, 1) := by decide +kernel
theorem dX_barred_64 : decode prog_1_method_42_code 64 = .ok (.invokevirtual 295, 3) := by decide +kernel
theorem dX_barred_67 : decode prog_1_method_42_code 67 = .ok (.if_icmp .ge 9, 3) := by decide +kernel
theorem dX_barred_70 : decode prog_1_method_42_code 70 = .ok (.aload_n 0, 1) := by decide +kernel
theorem dX_barred_71 : decode prog_1_method_42_code 71 = .ok (.iconst 1, 1) := by decide +kernel
theorem dX_barred_72 : decode prog_1_method_42_code 72 = .ok (.invokevirtual 173, 3) := by decide +kernel
theorem dX_barred_75 : decode prog_1_method_42_code 75 = .ok (.ireturn, 1) := by decide +kernel
theorem dX_barred_76 : decode prog_1_method_42_code 76 = .ok (.aload_n 0, 1) := by decide +kernel
theorem dX_barred_77 : decode prog_1_method_42_code 77 = .ok (.getfield 67, 3) := by decide +kernel
theorem dX_barred_80 : decode prog_1_method_42_code 80 = .ok (.aload 4, 2) := by decide +kernel
theorem dX_barred_82 : decode prog_1_method_42_code 82 = .ok (.iconst 1, 1) := by decide +kernel
theorem dX_barred_83 : decode prog_1_method_42_code 83 = .ok (.iconst 0, 1) := by decide +kernel
theorem dX_barred_84 : decode prog_1_method_42_code 84 = .ok (.invokevirtual 270, 3) := by decide +kernel
theorem dX_barred_87 : decode prog_1_method_42_code 87 = .ok (.aload_n 0, 1) := by decide +kernel
theorem dX_barred_88 : decode prog_1_method_42_code 88 = .ok (.getfield 67, 3) := by decide +kernel
theorem dX_barred_91 : decode prog_1_method_42_code 91 = .ok (.aload_n 3, 1) := by decide +kernel
theorem dX_barred_92 : decode prog_1_method_42_code 92 = .ok (.iconst 1, 1) := by decide +kernel
theorem dX_barred_93 : decode prog_1_method_42_code 93 = .ok (.iconst 0, 1) := by decide +kernel
theorem dX_barred_94 : decode prog_1_method_42_code 94 = .ok (.invokevirtual 270, 3) := by decide +kernel
theorem dX_barred_97 : decode prog_1_method_42_code 97 = .ok (.if_icmp .le 9, 3) := by decide +kernel
theorem dX_barred_100 : decode prog_1_method_42_code 100 = .ok (.aload_n 0, 1) := by decide +kernel
theorem dX_barred_101 : decode prog_1_method_42_code 101 = .ok (.iconst 2, 1) := by decide +kernel
theorem dX_barred_102 : decode prog_1_method_42_code 102 = .ok (.invokevirtual 173, 3) := by decide +kernel
theorem dX_barred_105 : decode prog_1_method_42_code 105 = .ok (.ireturn, 1) := by decide +kernel
theorem dX_barred_106 : decode prog_1_method_42_code 106 = .ok (.aload_n 0, 1) := by decide +kernel
theorem dX_barred_107 : decode prog_1_method_42_code 107 = .ok (.aload_n 0, 1) := by decide +kernel
theorem dX_barred_108 : decode prog_1_method_42_code 108 = .ok (.getfield 67, 3) := by decide +kernel
theorem dX_barred_111 : decode prog_1_method_42_code 111 = .ok (.aload 4, 2) := by decide +kernel
theorem dX_barred_113 : decode prog_1_method_42_code 113 = .ok (.invokevirtual 262, 3) := by decide +kernel
theorem dX_barred_116 : decode prog_1_method_42_code 116 = .ok (.aload_n 0, 1) := by decide +kernel
theorem dX_barred_117 : decode prog_1_method_42_code 117 = .ok (.getfield 67, 3) := by decide +kernel
theorem dX_barred_120 : decode prog_1_method_42_code 120 = .ok (.aload_n 3, 1) := by decide +kernel
theorem dX_barred_121 : decode prog_1_method_42_code 121 = .ok (.invokevirtual 262, 3) := by decide +kernel
theorem dX_barred_124 : decode prog_1_method_42_code 124 = .ok (.if_icmp .ge 7, 3) := by decide +kernel
theorem dX_barred_127 : decode prog_1_method_42_code 127 = .ok (.iconst 3, 1) := by decide +kernel
theorem dX_barred_128 : decode prog_1_method_42_code 128 = .ok (.goto 4, 3) := by decide +kernel
theorem dX_barred_131 : decode prog_1_method_42_code 131 = .ok (.iconst 0, 1) := by decide +kernel
theorem dX_barred_132 : decode prog_1_method_42_code 132 = .ok (.invokevirtual 173, 3) := by decide +kernel
theorem dX_barred_135 : decode prog_1_method_42_code 135 = .ok (.ireturn, 1) := by decide +kernel
theorem t_X_barred {d : Nat} {x1 : Int} {σ : SG} {Q : Int → SG → Prop} (h : inI x1 → (Tri d M_X_shelfTrouble [vA 0, vI x1] σ (fun r1 σ1 => (r1 = 0 → rdok 105 9 x1 ∧ Tri d M_Wd_isLike [vA 7, vA (13 + 2 * x1)] σ1 (fun r3 σ3 => (r3 ≠ 0 → Tri d M_Me_derivationSize [vA 68, vA (13 + 2 * x1)] σ3 (fun r5 σ5 => Tri d M_Me_derivationSize [vA 68, vA 7] σ5 (fun r6 σ6 => (r6 ≤ r5 → Tri d M_An_wholeSeries [vA 42, vA (13 + 2 * x1), vI 1, vI 0] σ6 (fun r8 σ8 => Tri d M_An_wholeSeries [vA 42, vA 7, vI 1, vI 0] σ8 (fun r9 σ9 => (r8 ≤ r9 → Tri d M_An_centreSize [vA 42, vA (13 + 2 * x1)] σ9 (fun r11 σ11 => Tri d M_An_centreSize [vA 42, vA 7] σ11 (fun r12 σ12 => (r12 ≤ r11 → Tri d M_X_answer [vA 0, vI 0] σ12 (fun r14 σ14 => Q r14 σ14)) ∧ (r11 < r12 → Tri d M_X_answer [vA 0, vI 3] σ12 (fun r15 σ15 => Q r15 σ15))))) ∧ (r9 < r8 → Tri d M_X_answer [vA 0, vI 2] σ9 (fun r16 σ16 => Q r16 σ16))))) ∧ (r5 < r6 → Tri d M_X_answer [vA 0, vI 1] σ6 (fun r17 σ17 => Q r17 σ17))))) ∧ (r3 = 0 → Tri d M_X_fail [vA 0, vI 5] σ3 (fun r18 σ18 => Q r18 σ18)))) ∧ (r1 ≠ 0 → Tri d M_X_fail [vA 0, vI r1] σ1 (fun r19 σ19 => Q r19 σ19))))) : Tri (d + 1) M_X_barred [vA 0, vI x1] σ Q :=
  Tri_intro rfl (Nat.le_of_ble_eq_true rfl) (ls := [vA 0, vI x1, vU, vU, vU]) rfl (fun hok => L_aload_n dX_barred_0 rfl (L_iload_n dX_barred_1 rfl (L_callVI rfl cv_X_shelfTrouble (As := [vI x1]) rfl (tk4 130 rfl rfl) rfl (Nat.le_of_ble_eq_true rfl) dX_barred_2 ⟨ob_0, Tri.mono ((h (hok _ (List.mem_of_getElem? (i := 1) rfl)))) (fun r1 σ1 q1 => L_istore_n dX_barred_5 (by decide) (L_iload_n dX_barred_6 rfl (L_if_eq dX_barred_7 (by decide) ⟨fun c2 => L_aload_n dX_barred_16 rfl (L_getF (b := 6) fw_X_37 rfl rfl (by decide) dX_barred_17 ⟨ob_0, L_getF (b := 7) fw_X_156 rfl rfl (by decide) dX_barred_20 ⟨ob_6, L_astore_n dX_barred_23 (by decide) (by omega) (L_aload_n dX_barred_24 rfl (L_getF (b := 6) fw_X_37 rfl rfl (by decide) dX_barred_25 ⟨ob_0, L_getF (b := 9) fw_X_241 rfl rfl (by decide) dX_barred_28 ⟨ob_6, L_iload_n dX_barred_31 rfl (L_aaF (b := 13 + 2 * x1) (o := (4, 2)) (by decide) rfl (show (9 : Int) + 4 + 2 * x1 = 13 + 2 * x1 by omega) (by decide) dX_barred_32 ⟨(q1.1 c2).1, L_astoreA dX_barred_33 (by decide) (L_aload_n dX_barred_35 rfl (L_aload dX_barred_36 rfl (L_callVI rfl cv_Wd_isLike (As := [vA (13 + 2 * x1)]) rfl (tk5 228 rfl rfl) rfl (Nat.le_of_ble_eq_true rfl) dX_barred_38 ⟨ob_7, Tri.mono ((q1.1 c2).2) (fun r3 σ3 q3 => L_if_ne dX_barred_41 (by decide) ⟨fun c4 => L_aload_n dX_barred_50 rfl (L_getF (b := 68) fw_X_74 rfl rfl (by decide) dX_barred_51 ⟨ob_0, L_aload dX_barred_54 rfl (L_callVI rfl cv_Me_derivationSize (As := [vA (13 + 2 * x1)]) rfl (tk5 117 rfl rfl) rfl (Nat.le_of_ble_eq_true rfl) dX_barred_56 ⟨ob_68, Tri.mono (q3.1 c4) (fun r5 σ5 q5 => L_aload_n dX_barred_59 rfl (L_getF (b := 68) fw_X_74 rfl rfl (by decide) dX_barred_60 ⟨ob_0, L_aload_n dX_barred_63 rfl (L_callVI rfl cv_Me_derivationSize (As := [vA 7]) rfl (tk5 117 rfl rfl) rfl (Nat.le_of_ble_eq_true rfl) dX_barred_64 ⟨ob_68, Tri.mono q5 (fun r6 σ6 q6 => L_icmp_ge dX_barred_67 (by decide) ⟨fun c7 => L_aload_n dX_barred_76 rfl (L_getF (b := 42) fw_X_67 rfl rfl (by decide) dX_barred_77 ⟨ob_0, L_aload dX_barred_80 rfl (L_iconst dX_barred_82 in_1 (L_iconst dX_barred_83 in_0 (L_callVI rfl cv_An_wholeSeries (As := [vA (13 + 2 * x1), vI 1, vI 0]) rfl (tk4 192 rfl rfl) rfl (Nat.le_of_ble_eq_true rfl) dX_barred_84 ⟨ob_42, Tri.mono (q6.1 c7) (fun r8 σ8 q8 => L_aload_n dX_barred_87 rfl (L_getF (b := 42) fw_X_67 rfl rfl (by decide) dX_barred_88 ⟨ob_0, L_aload_n dX_barred_91 rfl (L_iconst dX_barred_92 in_1 (L_iconst dX_barred_93 in_0 (L_callVI rfl cv_An_wholeSeries (As := [vA 7, vI 1, vI 0]) rfl (tk4 192 rfl rfl) rfl (Nat.le_of_ble_eq_true rfl) dX_barred_94 ⟨ob_42, Tri.mono q8 (fun r9 σ9 q9 => L_icmp_le dX_barred_97 (by decide) ⟨fun c10 => L_aload_n dX_barred_106 rfl (L_aload_n dX_barred_107 rfl (L_getF (b := 42) fw_X_67 rfl rfl (by decide) dX_barred_108 ⟨ob_0, L_aload dX_barred_111 rfl (L_callVI rfl cv_An_centreSize (As := [vA (13 + 2 * x1)]) rfl (tk4 219 rfl rfl) rfl (Nat.le_of_ble_eq_true rfl) dX_barred_113 ⟨ob_42, Tri.mono (q9.1 c10) (fun r11 σ11 q11 => L_aload_n dX_barred_116 rfl (L_getF (b := 42) fw_X_67 rfl rfl (by decide) dX_barred_117 ⟨ob_0, L_aload_n dX_barred_120 rfl (L_callVI rfl cv_An_centreSize (As := [vA 7]) rfl (tk4 219 rfl rfl) rfl (Nat.le_of_ble_eq_true rfl) dX_barred_121 ⟨ob_42, Tri.mono q11 (fun r12 σ12 q12 => L_icmp_ge dX_barred_124 (by decide) ⟨fun c13 => L_iconst dX_barred_131 in_0 (L_callVI rfl cv_X_answer (As := [vI 0]) rfl (tk3 208 rfl rfl) rfl (Nat.le_of_ble_eq_true rfl) dX_barred_132 ⟨ob_0, Tri.mono (q12.1 c13) (fun r14 σ14 q14 => L_ireturn rfl dX_barred_135 q14)⟩), fun c13 => L_iconst dX_barred_127 in_3 (L_goto dX_barred_128 (by decide) (L_callVI rfl cv_X_answer (As := [vI 3]) rfl (tk3 208 rfl rfl) rfl (Nat.le_of_ble_eq_true rfl) dX_barred_132 ⟨ob_0, Tri.mono (q12.2 c13) (fun r15 σ15 q15 => L_ireturn rfl dX_barred_135 q15)⟩))⟩)⟩)⟩))⟩)⟩)), fun c10 => L_aload_n dX_barred_100 rfl (L_iconst dX_barred_101 in_2 (L_callVI rfl cv_X_answer (As := [vI 2]) rfl (tk3 208 rfl rfl) rfl (Nat.le_of_ble_eq_true rfl) dX_barred_102 ⟨ob_0, Tri.mono (q9.2 c10) (fun r16 σ16 q16 => L_ireturn rfl dX_barred_105 q16)⟩))⟩)⟩)))⟩))⟩)))⟩), fun c7 => L_aload_n dX_barred_70 rfl (L_iconst dX_barred_71 in_1 (L_callVI rfl cv_X_answer (As := [vI 1]) rfl (tk3 208 rfl rfl) rfl (Nat.le_of_ble_eq_true rfl) dX_barred_72 ⟨ob_0, Tri.mono (q6.2 c7) (fun r17 σ17 q17 => L_ireturn rfl dX_barred_75 q17)⟩))⟩)⟩)⟩))⟩)⟩), fun c4 => L_aload_n dX_barred_44 rfl (L_iconst dX_barred_45 in_5 (L_callVI rfl cv_X_fail (As := [vI 5]) rfl (tk3 38 rfl rfl) rfl (Nat.le_of_ble_eq_true rfl) dX_barred_46 ⟨ob_0, Tri.mono (q3.2 c4) (fun r18 σ18 q18 => L_ireturn rfl dX_barred_49 q18)⟩))⟩)⟩)))⟩)⟩⟩))⟩⟩), fun c2 => L_aload_n dX_barred_10 rfl (L_iload_n dX_barred_11 rfl (L_callVI rfl cv_X_fail (As := [vI r1]) rfl (tk3 38 rfl rfl) rfl (Nat.le_of_ble_eq_true rfl) dX_barred_12 ⟨ob_0, Tri.mono (q1.2 c2) (fun r19 σ19 q19 => L_ireturn rfl dX_barred_15 q19)⟩))⟩)))⟩)))
theorem dX_cocycle_0 : decode prog_1_method_43_code 0 = .ok (.aload_n 0, 1) := by decide +kernel
theorem dX_cocycle_1 : decode prog_1_method_43_code 1 = .ok (.iload_n 1, 1) := by decide +kernel
theorem dX_cocycle_2 : decode prog_1_method_43_code 2 = .ok (.invokevirtual 342, 3) := by decide +kernel
theorem dX_cocycle_5 : decode prog_1_method_43_code 5 = .ok (.istore_n 2, 1) := by decide +kernel
theorem dX_cocycle_6 : decode prog_1_method_43_code 6 = .ok (.iload_n 2, 1) := by decide +kernel
theorem dX_cocycle_7 : decode prog_1_method_43_code 7 = .ok (.ifCond .eq 9, 3) := by decide +kernel
theorem dX_cocycle_10 : decode prog_1_method_43_code 10 = .ok (.aload_n 0, 1) := by decide +kernel
theorem dX_cocycle_11 : decode prog_1_method_43_code 11 = .ok (.iload_n 2, 1) := by decide +kernel
theorem dX_cocycle_12 : decode prog_1_method_43_code 12 = .ok (.invokevirtual 133, 3) := by decide +kernel
theorem dX_cocycle_15 : decode prog_1_method_43_code 15 = .ok (.ireturn, 1) := by decide +kernel
theorem dX_cocycle_16 : decode prog_1_method_43_code 16 = .ok (.aload_n 0, 1) := by decide +kernel
theorem dX_cocycle_17 : decode prog_1_method_43_code 17 = .ok (.aload_n 0, 1) := by decide +kernel
theorem dX_cocycle_18 : decode prog_1_method_43_code 18 = .ok (.getfield 74, 3) := by decide +kernel
theorem dX_cocycle_21 : decode prog_1_method_43_code 21 = .ok (.aload_n 0, 1) := by decide +kernel
theorem dX_cocycle_22 : decode prog_1_method_43_code 22 = .ok (.getfield 37, 3) := by decide +kernel
theorem dX_cocycle_25 : decode prog_1_method_43_code 25 = .ok (.getfield 156, 3) := by decide +kernel
theorem dX_cocycle_28 : decode prog_1_method_43_code 28 = .ok (.aload_n 0, 1) := by decide +kernel
theorem dX_cocycle_29 : decode prog_1_method_43_code 29 = .ok (.getfield 28, 3) := by decide +kernel
theorem dX_cocycle_32 : decode prog_1_method_43_code 32 = .ok (.invokevirtual 345, 3) := by decide +kernel
theorem dX_cocycle_35 : decode prog_1_method_43_code 35 = .ok (.ifCond .eq 7, 3) := by decide +kernel
theorem dX_cocycle_38 : decode prog_1_method_43_code 38 = .ok (.iconst 1, 1) := by decide +kernel
theorem dX_cocycle_39 : decode prog_1_method_43_code 39 = .ok (.goto 4, 3) := by decide +kernel
theorem dX_cocycle_42 : decode prog_1_method_43_code 42 = .ok (.iconst 0, 1) := by decide +kernel
theorem dX_cocycle_43 : decode prog_1_method_43_code 43 = .ok (.invokevirtual 173, 3) := by decide +kernel
theorem dX_cocycle_46 : decode prog_1_method_43_code 46 = .ok (.ireturn, 1) := by decide +kernel
theorem t_X_cocycle {d : Nat} {x1 : Int} {σ : SG} {Q : Int → SG → Prop} (h : inI x1 → (Tri d M_X_coupleTrouble [vA 0, vI x1] σ (fun r1 σ1 => (r1 = 0 → Tri d M_Me_isClosed [vA 68, vA 7, vA 4] σ1 (fun r3 σ3 => (r3 = 0 → Tri d M_X_answer [vA 0, vI 0] σ3 (fun r5 σ5 => Q r5 σ5)) ∧ (r3 ≠ 0 → Tri d M_X_answer [vA 0, vI 1] σ3 (fun r6 σ6 => Q r6 σ6)))) ∧ (r1 ≠ 0 → Tri d M_X_fail [vA 0, vI r1] σ1 (fun r7 σ7 => Q r7 σ7))))) : Tri (d + 1) M_X_cocycle [vA 0, vI x1] σ Q :=
  Tri_intro rfl (Nat.le_of_ble_eq_true rfl) (ls := [vA 0, vI x1, vU]) rfl (fun hok => L_aload_n dX_cocycle_0 rfl (L_iload_n dX_cocycle_1 rfl (L_callVI rfl cv_X_coupleTrouble (As := [vI x1]) rfl (tk6 36 rfl rfl) rfl (Nat.le_of_ble_eq_true rfl) dX_cocycle_2 ⟨ob_0, Tri.mono ((h (hok _ (List.mem_of_getElem? (i := 1) rfl)))) (fun r1 σ1 q1 => L_istore_n dX_cocycle_5 (by decide) (L_iload_n dX_cocycle_6 rfl (L_if_eq dX_cocycle_7 (by decide) ⟨fun c2 => L_aload_n dX_cocycle_16 rfl (L_aload_n dX_cocycle_17 rfl (L_getF (b := 68) fw_X_74 rfl rfl (by decide) dX_cocycle_18 ⟨ob_0, L_aload_n dX_cocycle_21 rfl (L_getF (b := 6) fw_X_37 rfl rfl (by decide) dX_cocycle_22 ⟨ob_0, L_getF (b := 7) fw_X_156 rfl rfl (by decide) dX_cocycle_25 ⟨ob_6, L_aload_n dX_cocycle_28 rfl (L_getF (b := 4) fw_X_28 rfl rfl (by decide) dX_cocycle_29 ⟨ob_0, L_callVI rfl cv_Me_isClosed (As := [vA 7, vA 4]) rfl (tk6 40 rfl rfl) rfl (Nat.le_of_ble_eq_true rfl) dX_cocycle_32 ⟨ob_68, Tri.mono (q1.1 c2) (fun r3 σ3 q3 => L_if_eq dX_cocycle_35 (by decide) ⟨fun c4 => L_iconst dX_cocycle_42 in_0 (L_callVI rfl cv_X_answer (As := [vI 0]) rfl (tk3 208 rfl rfl) rfl (Nat.le_of_ble_eq_true rfl) dX_cocycle_43 ⟨ob_0, Tri.mono (q3.1 c4) (fun r5 σ5 q5 => L_ireturn rfl dX_cocycle_46 q5)⟩), fun c4 => L_iconst dX_cocycle_38 in_1 (L_goto dX_cocycle_39 (by decide) (L_callVI rfl cv_X_answer (As := [vI 1]) rfl (tk3 208 rfl rfl) rfl (Nat.le_of_ble_eq_true rfl) dX_cocycle_43 ⟨ob_0, Tri.mono (q3.2 c4) (fun r6 σ6 q6 => L_ireturn rfl dX_cocycle_46 q6)⟩))⟩)⟩⟩)⟩⟩)⟩)), fun c2 => L_aload_n dX_cocycle_10 rfl (L_iload_n dX_cocycle_11 rfl (L_callVI rfl cv_X_fail (As := [vI r1]) rfl (tk3 38 rfl rfl) rfl (Nat.le_of_ble_eq_true rfl) dX_cocycle_12 ⟨ob_0, Tri.mono (q1.2 c2) (fun r7 σ7 q7 => L_ireturn rfl dX_cocycle_15 q7)⟩))⟩)))⟩)))
theorem dX_grow_0 : decode prog_1_method_44_code 0 = .ok (.aload_n 0, 1) := by decide +kernel
theorem dX_grow_1 : decode prog_1_method_44_code 1 = .ok (.getfield 37, 3) := by decide +kernel
theorem dX_grow_4 : decode prog_1_method_44_code 4 = .ok (.getfield 156, 3) := by decide +kernel
theorem dX_grow_7 : decode prog_1_method_44_code 7 = .ok (.astore_n 2, 1) := by decide +kernel
theorem dX_grow_8 : decode prog_1_method_44_code 8 = .ok (.aload_n 2, 1) := by decide +kernel
theorem dX_grow_9 : decode prog_1_method_44_code 9 = .ok (.getfield 170, 3) := by decide +kernel
theorem dX_grow_12 : decode prog_1_method_44_code 12 = .ok (.aload_n 2, 1) := by decide +kernel
theorem dX_grow_13 : decode prog_1_method_44_code 13 = .ok (.getfield 195, 3) := by decide +kernel
theorem dX_grow_16 : decode prog_1_method_44_code 16 = .ok (.invokestatic 348, 3) := by decide +kernel
theorem dX_grow_19 : decode prog_1_method_44_code 19 = .ok (.if_icmp .lt 10, 3) := by decide +kernel
theorem dX_grow_22 : decode prog_1_method_44_code 22 = .ok (.aload_n 0, 1) := by decide +kernel
theorem dX_grow_23 : decode prog_1_method_44_code 23 = .ok (.bipush 7, 2) := by decide +kernel
theorem dX_grow_25 : decode prog_1_method_44_code 25 = .ok (.invokevirtual 133, 3) := by decide +kernel
theorem dX_grow_28 : decode prog_1_method_44_code 28 = .ok (.ireturn, 1) := by decide +kernel
theorem dX_grow_29 : decode prog_1_method_44_code 29 = .ok (.aload_n 0, 1) := by decide +kernel
theorem dX_grow_30 : decode prog_1_method_44_code 30 = .ok (.iload_n 1, 1) := by decide +kernel
theorem dX_grow_31 : decode prog_1_method_44_code 31 = .ok (.invokevirtual 342, 3) := by decide +kernel
theorem dX_grow_34 : decode prog_1_method_44_code 34 = .ok (.istore_n 3, 1) := by decide +kernel
theorem dX_grow_35 : decode prog_1_method_44_code 35 = .ok (.iload_n 3, 1) := by decide +kernel
theorem dX_grow_36 : decode prog_1_method_44_code 36 = .ok (.ifCond .ne 21, 3) := by decide +kernel
theorem dX_grow_39 : decode prog_1_method_44_code 39 = .ok (.aload_n 0, 1) := by decide +kernel
theorem dX_grow_40 : decode prog_1_method_44_code 40 = .ok (.getfield 74, 3) := by decide +kernel
theorem dX_grow_43 : decode prog_1_method_44_code 43 = .ok (.aload_n 2, 1) := by decide +kernel
theorem dX_grow_44 : decode prog_1_method_44_code 44 = .ok (.aload_n 0, 1) := by decide +kernel
theorem dX_grow_45 : decode prog_1_method_44_code 45 = .ok (.getfield 28, 3) := by decide +kernel
theorem dX_grow_48 : decode prog_1_method_44_code 48 = .ok (.invokevirtual 345, 3) := by decide +kernel
theorem dX_grow_51 : decode prog_1_method_44_code 51 = .ok (.ifCond .ne 6, 3) := by decide +kernel
theorem dX_grow_54 : decode prog_1_method_44_code 54 = .ok (.bipush 9, 2) := by decide +kernel
theorem dX_grow_56 : decode prog_1_method_44_code 56 = .ok (.istore_n 3, 1) := by decide +kernel
theorem dX_grow_57 : decode prog_1_method_44_code 57 = .ok (.iload_n 3, 1) := by decide +kernel
theorem dX_grow_58 : decode prog_1_method_44_code 58 = .ok (.ifCond .eq 9, 3) := by decide +kernel
theorem dX_grow_61 : decode prog_1_method_44_code 61 = .ok (.aload_n 0, 1) := by decide +kernel
theorem dX_grow_62 : decode prog_1_method_44_code 62 = .ok (.iload_n 3, 1) := by decide +kernel
theorem dX_grow_63 : decode prog_1_method_44_code 63 = .ok (.invokevirtual 133, 3) := by decide +kernel
theorem dX_grow_66 : decode prog_1_method_44_code 66 = .ok (.ireturn, 1) := by decide +kernel
theorem dX_grow_67 : decode prog_1_method_44_code 67 = .ok (.aload_n 0, 1) := by decide +kernel
theorem dX_grow_68 : decode prog_1_method_44_code 68 = .ok (.getfield 88, 3) := by decide +kernel
theorem dX_grow_71 : decode prog_1_method_44_code 71 = .ok (.aload_n 2, 1) := by decide +kernel
theorem dX_grow_72 : decode prog_1_method_44_code 72 = .ok (.aload_n 0, 1) := by decide +kernel
theorem dX_grow_73 : decode prog_1_method_44_code 73 = .ok (.getfield 28, 3) := by decide +kernel
theorem dX_grow_76 : decode prog_1_method_44_code 76 = .ok (.invokevirtual 351, 3) := by decide +kernel
theorem dX_grow_79 : decode prog_1_method_44_code 79 = .ok (.aload_n 0, 1) := by decide +kernel
theorem dX_grow_80 : decode prog_1_method_44_code 80 = .ok (.aload_n 2, 1) := by decide +kernel
theorem dX_grow_81 : decode prog_1_method_44_code 81 = .ok (.getfield 170, 3) := by decide +kernel
theorem dX_grow_84 : decode prog_1_method_44_code 84 = .ok (.invokevirtual 173, 3) := by decide +kernel
theorem dX_grow_87 : decode prog_1_method_44_code 87 = .ok (.ireturn, 1) := by decide +kernel
theorem t_X_grow {d : Nat} {x1 : Int} {σ : SG} {Q : Int → SG → Prop} (h : inI x1 → (Tri d M_X_sizeLimit [vI (σ 7 1)] σ (fun r1 σ1 => (σ 7 2 < r1 → Tri d M_X_coupleTrouble [vA 0, vI x1] σ1 (fun r3 σ3 => (r3 ≠ 0 → L (d + 1) M_X_grow 57 [vA 0, vU, vA 7, vI r3] [] σ3 Q) ∧ (r3 = 0 → Tri d M_Me_isClosed [vA 68, vA 7, vA 4] σ3 (fun r5 σ5 => (r5 ≠ 0 → L (d + 1) M_X_grow 57 [vA 0, vU, vA 7, vI r3] [] σ5 Q) ∧ (r5 = 0 → L (d + 1) M_X_grow 57 [vA 0, vU, vA 7, vI 9] [] σ5 Q))))) ∧ (r1 ≤ σ 7 2 → Tri d M_X_fail [vA 0, vI 7] σ1 (fun r7 σ7 => Q r7 σ7))))) : Tri (d + 1) M_X_grow [vA 0, vI x1] σ Q :=
  Tri_intro rfl (Nat.le_of_ble_eq_true rfl) (ls := [vA 0, vI x1, vU, vU]) rfl (fun hok => L_aload_n dX_grow_0 rfl (L_getF (b := 6) fw_X_37 rfl rfl (by decide) dX_grow_1 ⟨ob_0, L_getF (b := 7) fw_X_156 rfl rfl (by decide) dX_grow_4 ⟨ob_6, L_astore_n dX_grow_7 (by decide) (by omega) (L_aload_n dX_grow_8 rfl (L_getf fw_X_170 rfl dX_grow_9 ⟨ob_7, L_aload_n dX_grow_12 rfl (L_getf fw_X_195 rfl dX_grow_13 ⟨ob_7, L_callSI rfl cs_X_sizeLimit (As := [vI (σ 7 1)]) rfl (tk6 52 rfl rfl) rfl (Nat.le_of_ble_eq_true rfl) dX_grow_16 (Tri.mono ((h (hok _ (List.mem_of_getElem? (i := 1) rfl)))) (fun r1 σ1 q1 => L_icmp_lt dX_grow_19 (by decide) ⟨fun c2 => L_aload_n dX_grow_29 rfl (L_iload_n dX_grow_30 rfl (L_callVI rfl cv_X_coupleTrouble (As := [vI x1]) rfl (tk6 36 rfl rfl) rfl (Nat.le_of_ble_eq_true rfl) dX_grow_31 ⟨ob_0, Tri.mono (q1.1 c2) (fun r3 σ3 q3 => L_istore_n dX_grow_34 (by decide) (L_iload_n dX_grow_35 rfl (L_if_ne dX_grow_36 (by decide) ⟨fun c4 => L_weak [true, false, true, true] (q3.1 c4), fun c4 => L_aload_n dX_grow_39 rfl (L_getF (b := 68) fw_X_74 rfl rfl (by decide) dX_grow_40 ⟨ob_0, L_aload_n dX_grow_43 rfl (L_aload_n dX_grow_44 rfl (L_getF (b := 4) fw_X_28 rfl rfl (by decide) dX_grow_45 ⟨ob_0, L_callVI rfl cv_Me_isClosed (As := [vA 7, vA 4]) rfl (tk6 40 rfl rfl) rfl (Nat.le_of_ble_eq_true rfl) dX_grow_48 ⟨ob_68, Tri.mono (q3.2 c4) (fun r5 σ5 q5 => L_if_ne dX_grow_51 (by decide) ⟨fun c6 => L_weak [true, false, true, true] (q5.1 c6), fun c6 => L_bipush dX_grow_54 bp_9 in_9 (L_istore_n dX_grow_56 (by decide) (L_weak [true, false, true, true] (q5.2 c6)))⟩)⟩⟩))⟩)⟩)))⟩)), fun c2 => L_aload_n dX_grow_22 rfl (L_bipush dX_grow_23 bp_7 in_7 (L_callVI rfl cv_X_fail (As := [vI 7]) rfl (tk3 38 rfl rfl) rfl (Nat.le_of_ble_eq_true rfl) dX_grow_25 ⟨ob_0, Tri.mono (q1.2 c2) (fun r7 σ7 q7 => L_ireturn rfl dX_grow_28 q7)⟩))⟩))⟩)⟩))⟩⟩))
theorem s_X_grow_57 {d : Nat} {x2 x3 : Int} {σ : SG} {Q : Int → SG → Prop} (h : (x3 = 0 → Tri d M_Wo_growBy [vA 104, vA x2, vA 4] σ (fun r2 σ2 => obok 10 x2 ∧ Tri d M_X_answer [vA 0, vI (σ2 x2 2)] σ2 (fun r3 σ3 => Q r3 σ3))) ∧ (x3 ≠ 0 → Tri d M_X_fail [vA 0, vI x3] σ (fun r4 σ4 => Q r4 σ4))) : L (d + 1) M_X_grow 57 [vA 0, vU, vA x2, vI x3] [] σ Q :=
  L_iload_n dX_grow_57 rfl (L_if_eq dX_grow_58 (by decide) ⟨fun c1 => L_aload_n dX_grow_67 rfl (L_getF (b := 104) fw_X_88 rfl rfl (by decide) dX_grow_68 ⟨ob_0, L_aload_n dX_grow_71 rfl (L_aload_n dX_grow_72 rfl (L_getF (b := 4) fw_X_28 rfl rfl (by decide) dX_grow_73 ⟨ob_0, L_callVV rfl cv_Wo_growBy (As := [vA x2, vA 4]) rfl (tk6 53 rfl rfl) rfl (Nat.le_of_ble_eq_true rfl) dX_grow_76 ⟨ob_104, Tri.mono (h.1 c1) (fun r2 σ2 q2 => L_aload_n dX_grow_79 rfl (L_aload_n dX_grow_80 rfl (L_getf fw_X_170 rfl dX_grow_81 ⟨q2.1, L_callVI rfl cv_X_answer (As := [vI (σ2 x2 2)]) rfl (tk3 208 rfl rfl) rfl (Nat.le_of_ble_eq_true rfl) dX_grow_84 ⟨ob_0, Tri.mono q2.2 (fun r3 σ3 q3 => L_ireturn rfl dX_grow_87 q3)⟩⟩)))⟩⟩))⟩), fun c1 => L_aload_n dX_grow_61 rfl (L_iload_n dX_grow_62 rfl (L_callVI rfl cv_X_fail (As := [vI x3]) rfl (tk3 38 rfl rfl) rfl (Nat.le_of_ble_eq_true rfl) dX_grow_63 ⟨ob_0, Tri.mono (h.2 c1) (fun r4 σ4 q4 => L_ireturn rfl dX_grow_66 q4)⟩))⟩)
theorem dX_sum_0 : decode prog_1_method_45_code 0 = .ok (.aload_n 0, 1) := by decide +kernel
theorem dX_sum_1 : decode prog_1_method_45_code 1 = .ok (.iload_n 1, 1) := by decide +kernel
theorem dX_sum_2 : decode prog_1_method_45_code 2 = .ok (.invokevirtual 238, 3) := by decide +kernel
theorem dX_sum_5 : decode prog_1_method_45_code 5 = .ok (.istore_n 2, 1) := by decide +kernel
theorem dX_sum_6 : decode prog_1_method_45_code 6 = .ok (.iload_n 2, 1) := by decide +kernel
theorem dX_sum_7 : decode prog_1_method_45_code 7 = .ok (.ifCond .ne 27, 3) := by decide +kernel
theorem dX_sum_10 : decode prog_1_method_45_code 10 = .ok (.aload_n 0, 1) := by decide +kernel
theorem dX_sum_11 : decode prog_1_method_45_code 11 = .ok (.getfield 88, 3) := by decide +kernel
theorem dX_sum_14 : decode prog_1_method_45_code 14 = .ok (.aload_n 0, 1) := by decide +kernel
theorem dX_sum_15 : decode prog_1_method_45_code 15 = .ok (.getfield 37, 3) := by decide +kernel
theorem dX_sum_18 : decode prog_1_method_45_code 18 = .ok (.getfield 156, 3) := by decide +kernel
theorem dX_sum_21 : decode prog_1_method_45_code 21 = .ok (.aload_n 0, 1) := by decide +kernel
theorem dX_sum_22 : decode prog_1_method_45_code 22 = .ok (.getfield 37, 3) := by decide +kernel
theorem dX_sum_25 : decode prog_1_method_45_code 25 = .ok (.getfield 241, 3) := by decide +kernel
theorem dX_sum_28 : decode prog_1_method_45_code 28 = .ok (.iload_n 1, 1) := by decide +kernel
theorem dX_sum_29 : decode prog_1_method_45_code 29 = .ok (.aaload, 1) := by decide +kernel
theorem dX_sum_30 : decode prog_1_method_45_code 30 = .ok (.invokevirtual 355, 3) := by decide +kernel
theorem dX_sum_33 : decode prog_1_method_45_code 33 = .ok (.istore_n 2, 1) := by decide +kernel
theorem dX_sum_34 : decode prog_1_method_45_code 34 = .ok (.iload_n 2, 1) := by decide +kernel
theorem dX_sum_35 : decode prog_1_method_45_code 35 = .ok (.ifCond .ne 20, 3) := by decide +kernel
theorem dX_sum_38 : decode prog_1_method_45_code 38 = .ok (.aload_n 0, 1) := by decide +kernel
theorem dX_sum_39 : decode prog_1_method_45_code 39 = .ok (.aload_n 0, 1) := by decide +kernel
theorem dX_sum_40 : decode prog_1_method_45_code 40 = .ok (.getfield 37, 3) := by decide +kernel
theorem dX_sum_43 : decode prog_1_method_45_code 43 = .ok (.getfield 156, 3) := by decide +kernel
theorem dX_sum_46 : decode prog_1_method_45_code 46 = .ok (.getfield 170, 3) := by decide +kernel
theorem dX_sum_49 : decode prog_1_method_45_code 49 = .ok (.invokevirtual 173, 3) := by decide +kernel
theorem dX_sum_52 : decode prog_1_method_45_code 52 = .ok (.goto 8, 3) := by decide +kernel
theorem dX_sum_55 : decode prog_1_method_45_code 55 = .ok (.aload_n 0, 1) := by decide +kernel
theorem dX_sum_56 : decode prog_1_method_45_code 56 = .ok (.iload_n 2, 1) := by decide +kernel
theorem dX_sum_57 : decode prog_1_method_45_code 57 = .ok (.invokevirtual 133, 3) := by decide +kernel
theorem dX_sum_60 : decode prog_1_method_45_code 60 = .ok (.ireturn, 1) := by decide +kernel
theorem t_X_sum {d : Nat} {x1 : Int} {σ : SG} {Q : Int → SG → Prop} (h : inI x1 → (Tri d M_X_shelfTrouble [vA 0, vI x1] σ (fun r1 σ1 => (r1 ≠ 0 → (r1 ≠ 0 → Tri d M_X_fail [vA 0, vI r1] σ1 (fun r4 σ4 => Q r4 σ4)) ∧ (r1 = 0 → Tri d M_X_answer [vA 0, vI (σ1 7 2)] σ1 (fun r5 σ5 => Q r5 σ5))) ∧ (r1 = 0 → rdok 105 9 x1 ∧ Tri d M_Wo_join [vA 104, vA 7, vA (13 + 2 * x1)] σ1 (fun r6 σ6 => (r6 ≠ 0 → Tri d M_X_fail [vA 0, vI r6] σ6 (fun r8 σ8 => Q r8 σ8)) ∧ (r6 = 0 → Tri d M_X_answer [vA 0, vI (σ6 7 2)] σ6 (fun r9 σ9 => Q r9 σ9))))))) : Tri (d + 1) M_X_sum [vA 0, vI x1] σ Q :=
  Tri_intro rfl (Nat.le_of_ble_eq_true rfl) (ls := [vA 0, vI x1, vU]) rfl (fun hok => L_aload_n dX_sum_0 rfl (L_iload_n dX_sum_1 rfl (L_callVI rfl cv_X_shelfTrouble (As := [vI x1]) rfl (tk4 130 rfl rfl) rfl (Nat.le_of_ble_eq_true rfl) dX_sum_2 ⟨ob_0, Tri.mono ((h (hok _ (List.mem_of_getElem? (i := 1) rfl)))) (fun r1 σ1 q1 => L_istore_n dX_sum_5 (by decide) (L_iload_n dX_sum_6 rfl (L_if_ne dX_sum_7 (by decide) ⟨fun c2 => L_iload_n dX_sum_34 rfl (L_if_ne dX_sum_35 (by decide) ⟨fun c3 => L_aload_n dX_sum_55 rfl (L_iload_n dX_sum_56 rfl (L_callVI rfl cv_X_fail (As := [vI r1]) rfl (tk3 38 rfl rfl) rfl (Nat.le_of_ble_eq_true rfl) dX_sum_57 ⟨ob_0, Tri.mono ((q1.1 c2).1 c3) (fun r4 σ4 q4 => L_ireturn rfl dX_sum_60 q4)⟩)), fun c3 => L_aload_n dX_sum_38 rfl (L_aload_n dX_sum_39 rfl (L_getF (b := 6) fw_X_37 rfl rfl (by decide) dX_sum_40 ⟨ob_0, L_getF (b := 7) fw_X_156 rfl rfl (by decide) dX_sum_43 ⟨ob_6, L_getf fw_X_170 rfl dX_sum_46 ⟨ob_7, L_callVI rfl cv_X_answer (As := [vI (σ1 7 2)]) rfl (tk3 208 rfl rfl) rfl (Nat.le_of_ble_eq_true rfl) dX_sum_49 ⟨ob_0, Tri.mono ((q1.1 c2).2 c3) (fun r5 σ5 q5 => L_goto dX_sum_52 (by decide) (L_ireturn rfl dX_sum_60 q5))⟩⟩⟩⟩))⟩), fun c2 => L_aload_n dX_sum_10 rfl (L_getF (b := 104) fw_X_88 rfl rfl (by decide) dX_sum_11 ⟨ob_0, L_aload_n dX_sum_14 rfl (L_getF (b := 6) fw_X_37 rfl rfl (by decide) dX_sum_15 ⟨ob_0, L_getF (b := 7) fw_X_156 rfl rfl (by decide) dX_sum_18 ⟨ob_6, L_aload_n dX_sum_21 rfl (L_getF (b := 6) fw_X_37 rfl rfl (by decide) dX_sum_22 ⟨ob_0, L_getF (b := 9) fw_X_241 rfl rfl (by decide) dX_sum_25 ⟨ob_6, L_iload_n dX_sum_28 rfl (L_aaF (b := 13 + 2 * x1) (o := (4, 2)) (by decide) rfl (show (9 : Int) + 4 + 2 * x1 = 13 + 2 * x1 by omega) (by decide) dX_sum_29 ⟨(q1.2 c2).1, L_callVI rfl cv_Wo_join (As := [vA 7, vA (13 + 2 * x1)]) rfl (tk6 65 rfl rfl) rfl (Nat.le_of_ble_eq_true rfl) dX_sum_30 ⟨ob_104, Tri.mono ((q1.2 c2).2) (fun r6 σ6 q6 => L_istore_n dX_sum_33 (by decide) (L_iload_n dX_sum_34 rfl (L_if_ne dX_sum_35 (by decide) ⟨fun c7 => L_aload_n dX_sum_55 rfl (L_iload_n dX_sum_56 rfl (L_callVI rfl cv_X_fail (As := [vI r6]) rfl (tk3 38 rfl rfl) rfl (Nat.le_of_ble_eq_true rfl) dX_sum_57 ⟨ob_0, Tri.mono (q6.1 c7) (fun r8 σ8 q8 => L_ireturn rfl dX_sum_60 q8)⟩)), fun c7 => L_aload_n dX_sum_38 rfl (L_aload_n dX_sum_39 rfl (L_getF (b := 6) fw_X_37 rfl rfl (by decide) dX_sum_40 ⟨ob_0, L_getF (b := 7) fw_X_156 rfl rfl (by decide) dX_sum_43 ⟨ob_6, L_getf fw_X_170 rfl dX_sum_46 ⟨ob_7, L_callVI rfl cv_X_answer (As := [vI (σ6 7 2)]) rfl (tk3 208 rfl rfl) rfl (Nat.le_of_ble_eq_true rfl) dX_sum_49 ⟨ob_0, Tri.mono (q6.2 c7) (fun r9 σ9 q9 => L_goto dX_sum_52 (by decide) (L_ireturn rfl dX_sum_60 q9))⟩⟩⟩⟩))⟩)))⟩⟩)⟩⟩)⟩⟩)⟩)⟩)))⟩)))
theorem dX_rest_0 : decode prog_1_method_46_code 0 = .ok (.aload_n 0, 1) := by decide +kernel
theorem dX_rest_1 : decode prog_1_method_46_code 1 = .ok (.iload_n 1, 1) := by decide +kernel
theorem dX_rest_2 : decode prog_1_method_46_code 2 = .ok (.iload_n 2, 1) := by decide +kernel
theorem dX_rest_3 : decode prog_1_method_46_code 3 = .ok (.invokevirtual 359, 3) := by decide +kernel
theorem dX_rest_6 : decode prog_1_method_46_code 6 = .ok (.istore_n 3, 1) := by decide +kernel
theorem dX_rest_7 : decode prog_1_method_46_code 7 = .ok (.iload_n 3, 1) := by decide +kernel
theorem dX_rest_8 : decode prog_1_method_46_code 8 = .ok (.ifCond .eq 9, 3) := by decide +kernel
theorem dX_rest_11 : decode prog_1_method_46_code 11 = .ok (.aload_n 0, 1) := by decide +kernel
theorem dX_rest_12 : decode prog_1_method_46_code 12 = .ok (.iload_n 3, 1) := by decide +kernel
theorem dX_rest_13 : decode prog_1_method_46_code 13 = .ok (.invokevirtual 133, 3) := by decide +kernel
theorem dX_rest_16 : decode prog_1_method_46_code 16 = .ok (.ireturn, 1) := by decide +kernel
theorem dX_rest_17 : decode prog_1_method_46_code 17 = .ok (.aload_n 0, 1) := by decide +kernel
theorem dX_rest_18 : decode prog_1_method_46_code 18 = .ok (.getfield 67, 3) := by decide +kernel
theorem dX_rest_21 : decode prog_1_method_46_code 21 = .ok (.aload_n 0, 1) := by decide +kernel
theorem dX_rest_22 : decode prog_1_method_46_code 22 = .ok (.getfield 37, 3) := by decide +kernel
theorem dX_rest_25 : decode prog_1_method_46_code 25 = .ok (.getfield 156, 3) := by decide +kernel
theorem dX_rest_28 : decode prog_1_method_46_code 28 = .ok (.aload_n 0, 1) := by decide +kernel
theorem dX_rest_29 : decode prog_1_method_46_code 29 = .ok (.getfield 60, 3) := by decide +kernel
theorem dX_rest_32 : decode prog_1_method_46_code 32 = .ok (.iconst 1, 1) := by decide +kernel
theorem dX_rest_33 : decode prog_1_method_46_code 33 = .ok (.invokevirtual 251, 3) := by decide +kernel
theorem dX_rest_36 : decode prog_1_method_46_code 36 = .ok (.aload_n 0, 1) := by decide +kernel
theorem dX_rest_37 : decode prog_1_method_46_code 37 = .ok (.getfield 60, 3) := by decide +kernel
theorem dX_rest_40 : decode prog_1_method_46_code 40 = .ok (.getfield 255, 3) := by decide +kernel
theorem dX_rest_43 : decode prog_1_method_46_code 43 = .ok (.aload_n 0, 1) := by decide +kernel
theorem dX_rest_44 : decode prog_1_method_46_code 44 = .ok (.getfield 37, 3) := by decide +kernel
theorem dX_rest_47 : decode prog_1_method_46_code 47 = .ok (.getfield 156, 3) := by decide +kernel
theorem dX_rest_50 : decode prog_1_method_46_code 50 = .ok (.getfield 170, 3) := by decide +kernel
theorem dX_rest_53 : decode prog_1_method_46_code 53 = .ok (.if_icmp .lt 10, 3) := by decide +kernel
theorem dX_rest_56 : decode prog_1_method_46_code 56 = .ok (.aload_n 0, 1) := by decide +kernel
theorem dX_rest_57 : decode prog_1_method_46_code 57 = .ok (.bipush 9, 2) := by decide +kernel
theorem dX_rest_59 : decode prog_1_method_46_code 59 = .ok (.invokevirtual 133, 3) := by decide +kernel
theorem dX_rest_62 : decode prog_1_method_46_code 62 = .ok (.ireturn, 1) := by decide +kernel
theorem dX_rest_63 : decode prog_1_method_46_code 63 = .ok (.aload_n 0, 1) := by decide +kernel
theorem dX_rest_64 : decode prog_1_method_46_code 64 = .ok (.getfield 88, 3) := by decide +kernel
theorem dX_rest_67 : decode prog_1_method_46_code 67 = .ok (.aload_n 0, 1) := by decide +kernel
theorem dX_rest_68 : decode prog_1_method_46_code 68 = .ok (.getfield 37, 3) := by decide +kernel
theorem dX_rest_71 : decode prog_1_method_46_code 71 = .ok (.getfield 156, 3) := by decide +kernel
theorem dX_rest_74 : decode prog_1_method_46_code 74 = .ok (.aload_n 0, 1) := by decide +kernel
theorem dX_rest_75 : decode prog_1_method_46_code 75 = .ok (.getfield 60, 3) := by decide +kernel
theorem dX_rest_78 : decode prog_1_method_46_code 78 = .ok (.invokevirtual 362, 3) := by decide +kernel
theorem dX_rest_81 : decode prog_1_method_46_code 81 = .ok (.aload_n 0, 1) := by decide +kernel
theorem dX_rest_82 : decode prog_1_method_46_code 82 = .ok (.aload_n 0, 1) := by decide +kernel
theorem dX_rest_83 : decode prog_1_method_46_code 83 = .ok (.getfield 37, 3) := by decide +kernel
theorem dX_rest_86 : decode prog_1_method_46_code 86 = .ok (.getfield 156, 3) := by decide +kernel
theorem dX_rest_89 : decode prog_1_method_46_code 89 = .ok (.getfield 170, 3) := by decide +kernel
theorem dX_rest_92 : decode prog_1_method_46_code 92 = .ok (.invokevirtual 173, 3) := by decide +kernel
theorem dX_rest_95 : decode prog_1_method_46_code 95 = .ok (.ireturn, 1) := by decide +kernel
theorem t_X_rest {d : Nat} {x1 x2 : Int} {σ : SG} {Q : Int → SG → Prop} (h : inI x1 → inI x2 → (Tri d M_X_givenTrouble [vA 0, vI x1, vI x2] σ (fun r1 σ1 => (r1 = 0 → Tri d M_An_closeUp [vA 42, vA 7, vA 39, vI 1] σ1 (fun r3 σ3 => (σ3 39 5 < σ3 7 2 → Tri d M_Wo_leaveRest [vA 104, vA 7, vA 39] σ3 (fun r5 σ5 => Tri d M_X_answer [vA 0, vI (σ5 7 2)] σ5 (fun r6 σ6 => Q r6 σ6))) ∧ (σ3 7 2 ≤ σ3 39 5 → Tri d M_X_fail [vA 0, vI 9] σ3 (fun r7 σ7 => Q r7 σ7)))) ∧ (r1 ≠ 0 → Tri d M_X_fail [vA 0, vI r1] σ1 (fun r8 σ8 => Q r8 σ8))))) : Tri (d + 1) M_X_rest [vA 0, vI x1, vI x2] σ Q :=
  Tri_intro rfl (Nat.le_of_ble_eq_true rfl) (ls := [vA 0, vI x1, vI x2, vU]) rfl (fun hok => L_aload_n dX_rest_0 rfl (L_iload_n dX_rest_1 rfl (L_iload_n dX_rest_2 rfl (L_callVI rfl cv_X_givenTrouble (As := [vI x1, vI x2]) rfl (tk6 74 rfl rfl) rfl (Nat.le_of_ble_eq_true rfl) dX_rest_3 ⟨ob_0, Tri.mono ((h (hok _ (List.mem_of_getElem? (i := 1) rfl)) (hok _ (List.mem_of_getElem? (i := 2) rfl)))) (fun r1 σ1 q1 => L_istore_n dX_rest_6 (by decide) (L_iload_n dX_rest_7 rfl (L_if_eq dX_rest_8 (by decide) ⟨fun c2 => L_aload_n dX_rest_17 rfl (L_getF (b := 42) fw_X_67 rfl rfl (by decide) dX_rest_18 ⟨ob_0, L_aload_n dX_rest_21 rfl (L_getF (b := 6) fw_X_37 rfl rfl (by decide) dX_rest_22 ⟨ob_0, L_getF (b := 7) fw_X_156 rfl rfl (by decide) dX_rest_25 ⟨ob_6, L_aload_n dX_rest_28 rfl (L_getF (b := 39) fw_X_60 rfl rfl (by decide) dX_rest_29 ⟨ob_0, L_iconst dX_rest_32 in_1 (L_callVV rfl cv_An_closeUp (As := [vA 7, vA 39, vI 1]) rfl (tk4 167 rfl rfl) rfl (Nat.le_of_ble_eq_true rfl) dX_rest_33 ⟨ob_42, Tri.mono (q1.1 c2) (fun r3 σ3 q3 => L_aload_n dX_rest_36 rfl (L_getF (b := 39) fw_X_60 rfl rfl (by decide) dX_rest_37 ⟨ob_0, L_getf fw_X_255 rfl dX_rest_40 ⟨ob_39, L_aload_n dX_rest_43 rfl (L_getF (b := 6) fw_X_37 rfl rfl (by decide) dX_rest_44 ⟨ob_0, L_getF (b := 7) fw_X_156 rfl rfl (by decide) dX_rest_47 ⟨ob_6, L_getf fw_X_170 rfl dX_rest_50 ⟨ob_7, L_icmp_lt dX_rest_53 (by decide) ⟨fun c4 => L_aload_n dX_rest_63 rfl (L_getF (b := 104) fw_X_88 rfl rfl (by decide) dX_rest_64 ⟨ob_0, L_aload_n dX_rest_67 rfl (L_getF (b := 6) fw_X_37 rfl rfl (by decide) dX_rest_68 ⟨ob_0, L_getF (b := 7) fw_X_156 rfl rfl (by decide) dX_rest_71 ⟨ob_6, L_aload_n dX_rest_74 rfl (L_getF (b := 39) fw_X_60 rfl rfl (by decide) dX_rest_75 ⟨ob_0, L_callVV rfl cv_Wo_leaveRest (As := [vA 7, vA 39]) rfl (tk6 78 rfl rfl) rfl (Nat.le_of_ble_eq_true rfl) dX_rest_78 ⟨ob_104, Tri.mono (q3.1 c4) (fun r5 σ5 q5 => L_aload_n dX_rest_81 rfl (L_aload_n dX_rest_82 rfl (L_getF (b := 6) fw_X_37 rfl rfl (by decide) dX_rest_83 ⟨ob_0, L_getF (b := 7) fw_X_156 rfl rfl (by decide) dX_rest_86 ⟨ob_6, L_getf fw_X_170 rfl dX_rest_89 ⟨ob_7, L_callVI rfl cv_X_answer (As := [vI (σ5 7 2)]) rfl (tk3 208 rfl rfl) rfl (Nat.le_of_ble_eq_true rfl) dX_rest_92 ⟨ob_0, Tri.mono q5 (fun r6 σ6 q6 => L_ireturn rfl dX_rest_95 q6)⟩⟩⟩⟩)))⟩⟩)⟩⟩)⟩), fun c4 => L_aload_n dX_rest_56 rfl (L_bipush dX_rest_57 bp_9 in_9 (L_callVI rfl cv_X_fail (As := [vI 9]) rfl (tk3 38 rfl rfl) rfl (Nat.le_of_ble_eq_true rfl) dX_rest_59 ⟨ob_0, Tri.mono (q3.2 c4) (fun r7 σ7 q7 => L_ireturn rfl dX_rest_62 q7)⟩))⟩⟩⟩⟩)⟩⟩))⟩)⟩)⟩⟩)⟩), fun c2 => L_aload_n dX_rest_11 rfl (L_iload_n dX_rest_12 rfl (L_callVI rfl cv_X_fail (As := [vI r1]) rfl (tk3 38 rfl rfl) rfl (Nat.le_of_ble_eq_true rfl) dX_rest_13 ⟨ob_0, Tri.mono (q1.2 c2) (fun r8 σ8 q8 => L_ireturn rfl dX_rest_16 q8)⟩))⟩)))⟩))))
theorem dX_takeOut_0 : decode prog_1_method_47_code 0 = .ok (.aload_n 0, 1) := by decide +kernel
theorem dX_takeOut_1 : decode prog_1_method_47_code 1 = .ok (.iload_n 1, 1) := by decide +kernel
theorem dX_takeOut_2 : decode prog_1_method_47_code 2 = .ok (.iload_n 2, 1) := by decide +kernel
theorem dX_takeOut_3 : decode prog_1_method_47_code 3 = .ok (.invokevirtual 359, 3) := by decide +kernel
theorem dX_takeOut_6 : decode prog_1_method_47_code 6 = .ok (.istore_n 3, 1) := by decide +kernel
theorem dX_takeOut_7 : decode prog_1_method_47_code 7 = .ok (.iload_n 3, 1) := by decide +kernel
theorem dX_takeOut_8 : decode prog_1_method_47_code 8 = .ok (.ifCond .eq 9, 3) := by decide +kernel
theorem dX_takeOut_11 : decode prog_1_method_47_code 11 = .ok (.aload_n 0, 1) := by decide +kernel
theorem dX_takeOut_12 : decode prog_1_method_47_code 12 = .ok (.iload_n 3, 1) := by decide +kernel
theorem dX_takeOut_13 : decode prog_1_method_47_code 13 = .ok (.invokevirtual 133, 3) := by decide +kernel
theorem dX_takeOut_16 : decode prog_1_method_47_code 16 = .ok (.ireturn, 1) := by decide +kernel
theorem dX_takeOut_17 : decode prog_1_method_47_code 17 = .ok (.aload_n 0, 1) := by decide +kernel
theorem dX_takeOut_18 : decode prog_1_method_47_code 18 = .ok (.getfield 60, 3) := by decide +kernel
theorem dX_takeOut_21 : decode prog_1_method_47_code 21 = .ok (.getfield 255, 3) := by decide +kernel
theorem dX_takeOut_24 : decode prog_1_method_47_code 24 = .ok (.ifCond .ne 10, 3) := by decide +kernel
theorem dX_takeOut_27 : decode prog_1_method_47_code 27 = .ok (.aload_n 0, 1) := by decide +kernel
theorem dX_takeOut_28 : decode prog_1_method_47_code 28 = .ok (.bipush 9, 2) := by decide +kernel
theorem dX_takeOut_30 : decode prog_1_method_47_code 30 = .ok (.invokevirtual 133, 3) := by decide +kernel
theorem dX_takeOut_33 : decode prog_1_method_47_code 33 = .ok (.ireturn, 1) := by decide +kernel
theorem dX_takeOut_34 : decode prog_1_method_47_code 34 = .ok (.aload_n 0, 1) := by decide +kernel
theorem dX_takeOut_35 : decode prog_1_method_47_code 35 = .ok (.getfield 67, 3) := by decide +kernel
theorem dX_takeOut_38 : decode prog_1_method_47_code 38 = .ok (.aload_n 0, 1) := by decide +kernel
theorem dX_takeOut_39 : decode prog_1_method_47_code 39 = .ok (.getfield 37, 3) := by decide +kernel
theorem dX_takeOut_42 : decode prog_1_method_47_code 42 = .ok (.getfield 156, 3) := by decide +kernel
theorem dX_takeOut_45 : decode prog_1_method_47_code 45 = .ok (.aload_n 0, 1) := by decide +kernel
theorem dX_takeOut_46 : decode prog_1_method_47_code 46 = .ok (.getfield 60, 3) := by decide +kernel
theorem dX_takeOut_49 : decode prog_1_method_47_code 49 = .ok (.iconst 0, 1) := by decide +kernel
theorem dX_takeOut_50 : decode prog_1_method_47_code 50 = .ok (.invokevirtual 251, 3) := by decide +kernel
theorem dX_takeOut_53 : decode prog_1_method_47_code 53 = .ok (.aload_n 0, 1) := by decide +kernel
theorem dX_takeOut_54 : decode prog_1_method_47_code 54 = .ok (.getfield 88, 3) := by decide +kernel
theorem dX_takeOut_57 : decode prog_1_method_47_code 57 = .ok (.aload_n 0, 1) := by decide +kernel
theorem dX_takeOut_58 : decode prog_1_method_47_code 58 = .ok (.getfield 37, 3) := by decide +kernel
theorem dX_takeOut_61 : decode prog_1_method_47_code 61 = .ok (.getfield 156, 3) := by decide +kernel
theorem dX_takeOut_64 : decode prog_1_method_47_code 64 = .ok (.aload_n 0, 1) := by decide +kernel
theorem dX_takeOut_65 : decode prog_1_method_47_code 65 = .ok (.getfield 60, 3) := by decide +kernel
theorem dX_takeOut_68 : decode prog_1_method_47_code 68 = .ok (.invokevirtual 366, 3) := by decide +kernel
theorem dX_takeOut_71 : decode prog_1_method_47_code 71 = .ok (.aload_n 0, 1) := by decide +kernel
theorem dX_takeOut_72 : decode prog_1_method_47_code 72 = .ok (.aload_n 0, 1) := by decide +kernel
theorem dX_takeOut_73 : decode prog_1_method_47_code 73 = .ok (.getfield 37, 3) := by decide +kernel
theorem dX_takeOut_76 : decode prog_1_method_47_code 76 = .ok (.getfield 156, 3) := by decide +kernel
theorem dX_takeOut_79 : decode prog_1_method_47_code 79 = .ok (.getfield 170, 3) := by decide +kernel
theorem dX_takeOut_82 : decode prog_1_method_47_code 82 = .ok (.invokevirtual 173, 3) := by decide +kernel
theorem dX_takeOut_85 : decode prog_1_method_47_code 85 = .ok (.ireturn, 1) := by decide +kernel
theorem t_X_takeOut {d : Nat} {x1 x2 : Int} {σ : SG} {Q : Int → SG → Prop} (h : inI x1 → inI x2 → (Tri d M_X_givenTrouble [vA 0, vI x1, vI x2] σ (fun r1 σ1 => (r1 = 0 → (σ1 39 5 ≠ 0 → Tri d M_An_closeUp [vA 42, vA 7, vA 39, vI 0] σ1 (fun r4 σ4 => Tri d M_Wo_leavePart [vA 104, vA 7, vA 39] σ4 (fun r5 σ5 => Tri d M_X_answer [vA 0, vI (σ5 7 2)] σ5 (fun r6 σ6 => Q r6 σ6)))) ∧ (σ1 39 5 = 0 → Tri d M_X_fail [vA 0, vI 9] σ1 (fun r7 σ7 => Q r7 σ7))) ∧ (r1 ≠ 0 → Tri d M_X_fail [vA 0, vI r1] σ1 (fun r8 σ8 => Q r8 σ8))))) : Tri (d + 1) M_X_takeOut [vA 0, vI x1, vI x2] σ Q :=
  Tri_intro rfl (Nat.le_of_ble_eq_true rfl) (ls := [vA 0, vI x1, vI x2, vU]) rfl (fun hok => L_aload_n dX_takeOut_0 rfl (L_iload_n dX_takeOut_1 rfl (L_iload_n dX_takeOut_2 rfl (L_callVI rfl cv_X_givenTrouble (As := [vI x1, vI x2]) rfl (tk6 74 rfl rfl) rfl (Nat.le_of_ble_eq_true rfl) dX_takeOut_3 ⟨ob_0, Tri.mono ((h (hok _ (List.mem_of_getElem? (i := 1) rfl)) (hok _ (List.mem_of_getElem? (i := 2) rfl)))) (fun r1 σ1 q1 => L_istore_n dX_takeOut_6 (by decide) (L_iload_n dX_takeOut_7 rfl (L_if_eq dX_takeOut_8 (by decide) ⟨fun c2 => L_aload_n dX_takeOut_17 rfl (L_getF (b := 39) fw_X_60 rfl rfl (by decide) dX_takeOut_18 ⟨ob_0, L_getf fw_X_255 rfl dX_takeOut_21 ⟨ob_39, L_if_ne dX_takeOut_24 (by decide) ⟨fun c3 => L_aload_n dX_takeOut_34 rfl (L_getF (b := 42) fw_X_67 rfl rfl (by decide) dX_takeOut_35 ⟨ob_0, L_aload_n dX_takeOut_38 rfl (L_getF (b := 6) fw_X_37 rfl rfl (by decide) dX_takeOut_39 ⟨ob_0, L_getF (b := 7) fw_X_156 rfl rfl (by decide) dX_takeOut_42 ⟨ob_6, L_aload_n dX_takeOut_45 rfl (L_getF (b := 39) fw_X_60 rfl rfl (by decide) dX_takeOut_46 ⟨ob_0, L_iconst dX_takeOut_49 in_0 (L_callVV rfl cv_An_closeUp (As := [vA 7, vA 39, vI 0]) rfl (tk4 167 rfl rfl) rfl (Nat.le_of_ble_eq_true rfl) dX_takeOut_50 ⟨ob_42, Tri.mono ((q1.1 c2).1 c3) (fun r4 σ4 q4 => L_aload_n dX_takeOut_53 rfl (L_getF (b := 104) fw_X_88 rfl rfl (by decide) dX_takeOut_54 ⟨ob_0, L_aload_n dX_takeOut_57 rfl (L_getF (b := 6) fw_X_37 rfl rfl (by decide) dX_takeOut_58 ⟨ob_0, L_getF (b := 7) fw_X_156 rfl rfl (by decide) dX_takeOut_61 ⟨ob_6, L_aload_n dX_takeOut_64 rfl (L_getF (b := 39) fw_X_60 rfl rfl (by decide) dX_takeOut_65 ⟨ob_0, L_callVV rfl cv_Wo_leavePart (As := [vA 7, vA 39]) rfl (tk6 96 rfl rfl) rfl (Nat.le_of_ble_eq_true rfl) dX_takeOut_68 ⟨ob_104, Tri.mono q4 (fun r5 σ5 q5 => L_aload_n dX_takeOut_71 rfl (L_aload_n dX_takeOut_72 rfl (L_getF (b := 6) fw_X_37 rfl rfl (by decide) dX_takeOut_73 ⟨ob_0, L_getF (b := 7) fw_X_156 rfl rfl (by decide) dX_takeOut_76 ⟨ob_6, L_getf fw_X_170 rfl dX_takeOut_79 ⟨ob_7, L_callVI rfl cv_X_answer (As := [vI (σ5 7 2)]) rfl (tk3 208 rfl rfl) rfl (Nat.le_of_ble_eq_true rfl) dX_takeOut_82 ⟨ob_0, Tri.mono q5 (fun r6 σ6 q6 => L_ireturn rfl dX_takeOut_85 q6)⟩⟩⟩⟩)))⟩⟩)⟩⟩)⟩))⟩)⟩)⟩⟩)⟩), fun c3 => L_aload_n dX_takeOut_27 rfl (L_bipush dX_takeOut_28 bp_9 in_9 (L_callVI rfl cv_X_fail (As := [vI 9]) rfl (tk3 38 rfl rfl) rfl (Nat.le_of_ble_eq_true rfl) dX_takeOut_30 ⟨ob_0, Tri.mono ((q1.1 c2).2 c3) (fun r7 σ7 q7 => L_ireturn rfl dX_takeOut_33 q7)⟩))⟩⟩⟩), fun c2 => L_aload_n dX_takeOut_11 rfl (L_iload_n dX_takeOut_12 rfl (L_callVI rfl cv_X_fail (As := [vI r1]) rfl (tk3 38 rfl rfl) rfl (Nat.le_of_ble_eq_true rfl) dX_takeOut_13 ⟨ob_0, Tri.mono (q1.2 c2) (fun r8 σ8 q8 => L_ireturn rfl dX_takeOut_16 q8)⟩))⟩)))⟩))))
theorem dX_tables_0 : decode prog_1_method_48_code 0 = .ok (.iload_n 1, 1) := by decide +kernel
theorem dX_tables_1 : decode prog_1_method_48_code 1 = .ok (.iconst 2, 1) := by decide +kernel
theorem dX_tables_2 : decode prog_1_method_48_code 2 = .ok (.if_icmp .ne 21, 3) := by decide +kernel
theorem dX_tables_5 : decode prog_1_method_48_code 5 = .ok (.iload_n 2, 1) := by decide +kernel
theorem dX_tables_6 : decode prog_1_method_48_code 6 = .ok (.iconst 1, 1) := by decide +kernel
theorem dX_tables_7 : decode prog_1_method_48_code 7 = .ok (.if_icmp .lt 12, 3) := by decide +kernel
theorem dX_tables_10 : decode prog_1_method_48_code 10 = .ok (.iload_n 2, 1) := by decide +kernel
theorem dX_tables_11 : decode prog_1_method_48_code 11 = .ok (.iconst 3, 1) := by decide +kernel
theorem dX_tables_12 : decode prog_1_method_48_code 12 = .ok (.if_icmp .gt 7, 3) := by decide +kernel
theorem dX_tables_15 : decode prog_1_method_48_code 15 = .ok (.iconst 1, 1) := by decide +kernel
theorem dX_tables_16 : decode prog_1_method_48_code 16 = .ok (.goto 27, 3) := by decide +kernel
theorem dX_tables_19 : decode prog_1_method_48_code 19 = .ok (.iconst 0, 1) := by decide +kernel
theorem dX_tables_20 : decode prog_1_method_48_code 20 = .ok (.goto 23, 3) := by decide +kernel
theorem dX_tables_23 : decode prog_1_method_48_code 23 = .ok (.iload_n 1, 1) := by decide +kernel
theorem dX_tables_24 : decode prog_1_method_48_code 24 = .ok (.iconst 3, 1) := by decide +kernel
theorem dX_tables_25 : decode prog_1_method_48_code 25 = .ok (.if_icmp .ne 17, 3) := by decide +kernel
theorem dX_tables_28 : decode prog_1_method_48_code 28 = .ok (.iload_n 2, 1) := by decide +kernel
theorem dX_tables_29 : decode prog_1_method_48_code 29 = .ok (.iconst 1, 1) := by decide +kernel
theorem dX_tables_30 : decode prog_1_method_48_code 30 = .ok (.if_icmp .lt 12, 3) := by decide +kernel
theorem dX_tables_33 : decode prog_1_method_48_code 33 = .ok (.iload_n 2, 1) := by decide +kernel
theorem dX_tables_34 : decode prog_1_method_48_code 34 = .ok (.iconst 2, 1) := by decide +kernel
theorem dX_tables_35 : decode prog_1_method_48_code 35 = .ok (.if_icmp .gt 7, 3) := by decide +kernel
theorem dX_tables_38 : decode prog_1_method_48_code 38 = .ok (.iconst 1, 1) := by decide +kernel
theorem dX_tables_39 : decode prog_1_method_48_code 39 = .ok (.goto 4, 3) := by decide +kernel
theorem dX_tables_42 : decode prog_1_method_48_code 42 = .ok (.iconst 0, 1) := by decide +kernel
theorem dX_tables_43 : decode prog_1_method_48_code 43 = .ok (.istore 4, 2) := by decide +kernel
theorem dX_tables_45 : decode prog_1_method_48_code 45 = .ok (.iload 4, 2) := by decide +kernel
theorem dX_tables_47 : decode prog_1_method_48_code 47 = .ok (.ifCond .eq 12, 3) := by decide +kernel
theorem dX_tables_50 : decode prog_1_method_48_code 50 = .ok (.iload_n 3, 1) := by decide +kernel
theorem dX_tables_51 : decode prog_1_method_48_code 51 = .ok (.ifCond .lt 8, 3) := by decide +kernel
theorem dX_tables_54 : decode prog_1_method_48_code 54 = .ok (.iload_n 3, 1) := by decide +kernel
theorem dX_tables_55 : decode prog_1_method_48_code 55 = .ok (.iconst 1, 1) := by decide +kernel
theorem dX_tables_56 : decode prog_1_method_48_code 56 = .ok (.if_icmp .le 9, 3) := by decide +kernel
theorem dX_tables_59 : decode prog_1_method_48_code 59 = .ok (.aload_n 0, 1) := by decide +kernel
theorem dX_tables_60 : decode prog_1_method_48_code 60 = .ok (.iconst 5, 1) := by decide +kernel
theorem dX_tables_61 : decode prog_1_method_48_code 61 = .ok (.invokevirtual 133, 3) := by decide +kernel
theorem dX_tables_64 : decode prog_1_method_48_code 64 = .ok (.ireturn, 1) := by decide +kernel
theorem dX_tables_65 : decode prog_1_method_48_code 65 = .ok (.aload_n 0, 1) := by decide +kernel
theorem dX_tables_66 : decode prog_1_method_48_code 66 = .ok (.aload_n 0, 1) := by decide +kernel
theorem dX_tables_67 : decode prog_1_method_48_code 67 = .ok (.getfield 81, 3) := by decide +kernel
theorem dX_tables_70 : decode prog_1_method_48_code 70 = .ok (.iload_n 1, 1) := by decide +kernel
theorem dX_tables_71 : decode prog_1_method_48_code 71 = .ok (.iload_n 2, 1) := by decide +kernel
theorem dX_tables_72 : decode prog_1_method_48_code 72 = .ok (.iload_n 3, 1) := by decide +kernel
theorem dX_tables_73 : decode prog_1_method_48_code 73 = .ok (.iconst 1, 1) := by decide +kernel
theorem dX_tables_74 : decode prog_1_method_48_code 74 = .ok (.if_icmp .ne 7, 3) := by decide +kernel
theorem dX_tables_77 : decode prog_1_method_48_code 77 = .ok (.iconst 1, 1) := by decide +kernel
theorem dX_tables_78 : decode prog_1_method_48_code 78 = .ok (.goto 4, 3) := by decide +kernel
theorem dX_tables_81 : decode prog_1_method_48_code 81 = .ok (.iconst 0, 1) := by decide +kernel
theorem dX_tables_82 : decode prog_1_method_48_code 82 = .ok (.invokevirtual 369, 3) := by decide +kernel
theorem dX_tables_85 : decode prog_1_method_48_code 85 = .ok (.invokevirtual 173, 3) := by decide +kernel
theorem dX_tables_88 : decode prog_1_method_48_code 88 = .ok (.ireturn, 1) := by decide +kernel
theorem t_X_tables {d : Nat} {x1 x2 x3 : Int} {σ : SG} {Q : Int → SG → Prop} (h : inI x1 → inI x2 → inI x3 → ((x1 ≠ 2 → (x1 ≠ 3 → L (d + 1) M_X_tables 43 [vA 0, vI x1, vI x2, vI x3, vU] [vI 0] σ Q) ∧ (x1 = 3 → (x2 < 1 → L (d + 1) M_X_tables 43 [vA 0, vI x1, vI x2, vI x3, vU] [vI 0] σ Q) ∧ (1 ≤ x2 → (2 < x2 → L (d + 1) M_X_tables 43 [vA 0, vI x1, vI x2, vI x3, vU] [vI 0] σ Q) ∧ (x2 ≤ 2 → L (d + 1) M_X_tables 43 [vA 0, vI x1, vI x2, vI x3, vU] [vI 1] σ Q)))) ∧ (x1 = 2 → (x2 < 1 → L (d + 1) M_X_tables 43 [vA 0, vI x1, vI x2, vI x3, vU] [vI 0] σ Q) ∧ (1 ≤ x2 → (3 < x2 → L (d + 1) M_X_tables 43 [vA 0, vI x1, vI x2, vI x3, vU] [vI 0] σ Q) ∧ (x2 ≤ 3 → L (d + 1) M_X_tables 43 [vA 0, vI x1, vI x2, vI x3, vU] [vI 1] σ Q))))) : Tri (d + 1) M_X_tables [vA 0, vI x1, vI x2, vI x3] σ Q :=
  Tri_intro rfl (Nat.le_of_ble_eq_true rfl) (ls := [vA 0, vI x1, vI x2, vI x3, vU]) rfl (fun hok => L_iload_n dX_tables_0 rfl (L_iconst dX_tables_1 in_2 (L_icmp_ne dX_tables_2 (by decide) ⟨fun c1 => L_iload_n dX_tables_23 rfl (L_iconst dX_tables_24 in_3 (L_icmp_ne dX_tables_25 (by decide) ⟨fun c2 => L_iconst dX_tables_42 in_0 (((h (hok _ (List.mem_of_getElem? (i := 1) rfl)) (hok _ (List.mem_of_getElem? (i := 2) rfl)) (hok _ (List.mem_of_getElem? (i := 3) rfl))).1 c1).1 c2), fun c2 => L_iload_n dX_tables_28 rfl (L_iconst dX_tables_29 in_1 (L_icmp_lt dX_tables_30 (by decide) ⟨fun c3 => L_iconst dX_tables_42 in_0 ((((h (hok _ (List.mem_of_getElem? (i := 1) rfl)) (hok _ (List.mem_of_getElem? (i := 2) rfl)) (hok _ (List.mem_of_getElem? (i := 3) rfl))).1 c1).2 c2).1 c3), fun c3 => L_iload_n dX_tables_33 rfl (L_iconst dX_tables_34 in_2 (L_icmp_gt dX_tables_35 (by decide) ⟨fun c4 => L_iconst dX_tables_42 in_0 (((((h (hok _ (List.mem_of_getElem? (i := 1) rfl)) (hok _ (List.mem_of_getElem? (i := 2) rfl)) (hok _ (List.mem_of_getElem? (i := 3) rfl))).1 c1).2 c2).2 c3).1 c4), fun c4 => L_iconst dX_tables_38 in_1 (L_goto dX_tables_39 (by decide) (((((h (hok _ (List.mem_of_getElem? (i := 1) rfl)) (hok _ (List.mem_of_getElem? (i := 2) rfl)) (hok _ (List.mem_of_getElem? (i := 3) rfl))).1 c1).2 c2).2 c3).2 c4))⟩))⟩))⟩)), fun c1 => L_iload_n dX_tables_5 rfl (L_iconst dX_tables_6 in_1 (L_icmp_lt dX_tables_7 (by decide) ⟨fun c5 => L_iconst dX_tables_19 in_0 (L_goto dX_tables_20 (by decide) (((h (hok _ (List.mem_of_getElem? (i := 1) rfl)) (hok _ (List.mem_of_getElem? (i := 2) rfl)) (hok _ (List.mem_of_getElem? (i := 3) rfl))).2 c1).1 c5)), fun c5 => L_iload_n dX_tables_10 rfl (L_iconst dX_tables_11 in_3 (L_icmp_gt dX_tables_12 (by decide) ⟨fun c6 => L_iconst dX_tables_19 in_0 (L_goto dX_tables_20 (by decide) ((((h (hok _ (List.mem_of_getElem? (i := 1) rfl)) (hok _ (List.mem_of_getElem? (i := 2) rfl)) (hok _ (List.mem_of_getElem? (i := 3) rfl))).2 c1).2 c5).1 c6)), fun c6 => L_iconst dX_tables_15 in_1 (L_goto dX_tables_16 (by decide) ((((h (hok _ (List.mem_of_getElem? (i := 1) rfl)) (hok _ (List.mem_of_getElem? (i := 2) rfl)) (hok _ (List.mem_of_getElem? (i := 3) rfl))).2 c1).2 c5).2 c6))⟩))⟩))⟩)))
theorem s_X_tables_43 {d : Nat} {x1 x2 x3 y0 : Int} {σ : SG} {Q : Int → SG → Prop} (h : (y0 = 0 → Tri d M_X_fail [vA 0, vI 5] σ (fun r2 σ2 => Q r2 σ2)) ∧ (y0 ≠ 0 → (x3 < 0 → Tri d M_X_fail [vA 0, vI 5] σ (fun r4 σ4 => Q r4 σ4)) ∧ (0 ≤ x3 → (x3 ≤ 1 → (x3 ≠ 1 → Tri d M_Ma_countTables [vA 78, vI x1, vI x2, vI 0] σ (fun r7 σ7 => Tri d M_X_answer [vA 0, vI r7] σ7 (fun r8 σ8 => Q r8 σ8))) ∧ (x3 = 1 → Tri d M_Ma_countTables [vA 78, vI x1, vI x2, vI 1] σ (fun r9 σ9 => Tri d M_X_answer [vA 0, vI r9] σ9 (fun r10 σ10 => Q r10 σ10)))) ∧ (1 < x3 → Tri d M_X_fail [vA 0, vI 5] σ (fun r11 σ11 => Q r11 σ11))))) : L (d + 1) M_X_tables 43 [vA 0, vI x1, vI x2, vI x3, vU] [vI y0] σ Q :=
  L_istore dX_tables_43 (by decide) (L_iload dX_tables_45 rfl (L_if_eq dX_tables_47 (by decide) ⟨fun c1 => L_aload_n dX_tables_59 rfl (L_iconst dX_tables_60 in_5 (L_callVI rfl cv_X_fail (As := [vI 5]) rfl (tk3 38 rfl rfl) rfl (Nat.le_of_ble_eq_true rfl) dX_tables_61 ⟨ob_0, Tri.mono (h.1 c1) (fun r2 σ2 q2 => L_ireturn rfl dX_tables_64 q2)⟩)), fun c1 => L_iload_n dX_tables_50 rfl (L_if_lt dX_tables_51 (by decide) ⟨fun c3 => L_aload_n dX_tables_59 rfl (L_iconst dX_tables_60 in_5 (L_callVI rfl cv_X_fail (As := [vI 5]) rfl (tk3 38 rfl rfl) rfl (Nat.le_of_ble_eq_true rfl) dX_tables_61 ⟨ob_0, Tri.mono ((h.2 c1).1 c3) (fun r4 σ4 q4 => L_ireturn rfl dX_tables_64 q4)⟩)), fun c3 => L_iload_n dX_tables_54 rfl (L_iconst dX_tables_55 in_1 (L_icmp_le dX_tables_56 (by decide) ⟨fun c5 => L_aload_n dX_tables_65 rfl (L_aload_n dX_tables_66 rfl (L_getF (b := 78) fw_X_81 rfl rfl (by decide) dX_tables_67 ⟨ob_0, L_iload_n dX_tables_70 rfl (L_iload_n dX_tables_71 rfl (L_iload_n dX_tables_72 rfl (L_iconst dX_tables_73 in_1 (L_icmp_ne dX_tables_74 (by decide) ⟨fun c6 => L_iconst dX_tables_81 in_0 (L_callVI rfl cv_Ma_countTables (As := [vI x1, vI x2, vI 0]) rfl (tk6 104 rfl rfl) rfl (Nat.le_of_ble_eq_true rfl) dX_tables_82 ⟨ob_78, Tri.mono ((((h.2 c1).2 c3).1 c5).1 c6) (fun r7 σ7 q7 => L_callVI rfl cv_X_answer (As := [vI r7]) rfl (tk3 208 rfl rfl) rfl (Nat.le_of_ble_eq_true rfl) dX_tables_85 ⟨ob_0, Tri.mono q7 (fun r8 σ8 q8 => L_ireturn rfl dX_tables_88 q8)⟩)⟩), fun c6 => L_iconst dX_tables_77 in_1 (L_goto dX_tables_78 (by decide) (L_callVI rfl cv_Ma_countTables (As := [vI x1, vI x2, vI 1]) rfl (tk6 104 rfl rfl) rfl (Nat.le_of_ble_eq_true rfl) dX_tables_82 ⟨ob_78, Tri.mono ((((h.2 c1).2 c3).1 c5).2 c6) (fun r9 σ9 q9 => L_callVI rfl cv_X_answer (As := [vI r9]) rfl (tk3 208 rfl rfl) rfl (Nat.le_of_ble_eq_true rfl) dX_tables_85 ⟨ob_0, Tri.mono q9 (fun r10 σ10 q10 => L_ireturn rfl dX_tables_88 q10)⟩)⟩))⟩))))⟩)), fun c5 => L_aload_n dX_tables_59 rfl (L_iconst dX_tables_60 in_5 (L_callVI rfl cv_X_fail (As := [vI 5]) rfl (tk3 38 rfl rfl) rfl (Nat.le_of_ble_eq_true rfl) dX_tables_61 ⟨ob_0, Tri.mono (((h.2 c1).2 c3).2 c5) (fun r11 σ11 q11 => L_ireturn rfl dX_tables_64 q11)⟩))⟩))⟩)⟩))
theorem dX_run_0 : decode prog_1_method_49_code 0 = .ok (.aload_n 0, 1) := by decide +kernel
theorem dX_run_1 : decode prog_1_method_49_code 1 = .ok (.getfield 37, 3) := by decide +kernel
theorem dX_run_4 : decode prog_1_method_49_code 4 = .ok (.getfield 176, 3) := by decide +kernel
theorem dX_run_7 : decode prog_1_method_49_code 7 = .ok (.getfield 373, 3) := by decide +kernel
theorem dX_run_10 : decode prog_1_method_49_code 10 = .ok (.ifCond .ne 10, 3) := by decide +kernel
theorem dX_run_13 : decode prog_1_method_49_code 13 = .ok (.aload_n 0, 1) := by decide +kernel
theorem dX_run_14 : decode prog_1_method_49_code 14 = .ok (.bipush 8, 2) := by decide +kernel
theorem dX_run_16 : decode prog_1_method_49_code 16 = .ok (.invokevirtual 133, 3) := by decide +kernel
theorem dX_run_19 : decode prog_1_method_49_code 19 = .ok (.ireturn, 1) := by decide +kernel
theorem dX_run_20 : decode prog_1_method_49_code 20 = .ok (.aload_n 0, 1) := by decide +kernel
theorem dX_run_21 : decode prog_1_method_49_code 21 = .ok (.getfield 95, 3) := by decide +kernel
theorem dX_run_24 : decode prog_1_method_49_code 24 = .ok (.aload_n 0, 1) := by decide +kernel
theorem dX_run_25 : decode prog_1_method_49_code 25 = .ok (.getfield 37, 3) := by decide +kernel
theorem dX_run_28 : decode prog_1_method_49_code 28 = .ok (.aload_n 0, 1) := by decide +kernel
theorem dX_run_29 : decode prog_1_method_49_code 29 = .ok (.getfield 67, 3) := by decide +kernel
theorem dX_run_32 : decode prog_1_method_49_code 32 = .ok (.aload_n 0, 1) := by decide +kernel
theorem dX_run_33 : decode prog_1_method_49_code 33 = .ok (.getfield 81, 3) := by decide +kernel
theorem dX_run_36 : decode prog_1_method_49_code 36 = .ok (.aload_n 0, 1) := by decide +kernel
theorem dX_run_37 : decode prog_1_method_49_code 37 = .ok (.getfield 88, 3) := by decide +kernel
theorem dX_run_40 : decode prog_1_method_49_code 40 = .ok (.invokevirtual 376, 3) := by decide +kernel
theorem dX_run_43 : decode prog_1_method_49_code 43 = .ok (.aload_n 0, 1) := by decide +kernel
theorem dX_run_44 : decode prog_1_method_49_code 44 = .ok (.aload_n 0, 1) := by decide +kernel
theorem dX_run_45 : decode prog_1_method_49_code 45 = .ok (.getfield 95, 3) := by decide +kernel
theorem dX_run_48 : decode prog_1_method_49_code 48 = .ok (.getfield 380, 3) := by decide +kernel
theorem dX_run_51 : decode prog_1_method_49_code 51 = .ok (.invokevirtual 173, 3) := by decide +kernel
theorem dX_run_54 : decode prog_1_method_49_code 54 = .ok (.ireturn, 1) := by decide +kernel
theorem t_X_run {d : Nat} {σ : SG} {Q : Int → SG → Prop} (h : (σ 10 0 ≠ 0 → Tri d M_Ru_perform [vA 114, vA 6, vA 42, vA 78, vA 104] σ (fun r2 σ2 => Tri d M_X_answer [vA 0, vI (σ2 114 1)] σ2 (fun r3 σ3 => Q r3 σ3))) ∧ (σ 10 0 = 0 → Tri d M_X_fail [vA 0, vI 8] σ (fun r4 σ4 => Q r4 σ4))) : Tri (d + 1) M_X_run [vA 0] σ Q :=
  Tri_intro rfl (Nat.le_of_ble_eq_true rfl) (ls := [vA 0]) rfl (fun hok => L_aload_n dX_run_0 rfl (L_getF (b := 6) fw_X_37 rfl rfl (by decide) dX_run_1 ⟨ob_0, L_getF (b := 10) fw_X_176 rfl rfl (by decide) dX_run_4 ⟨ob_6, L_getf fw_X_373 rfl dX_run_7 ⟨ob_10, L_if_ne dX_run_10 (by decide) ⟨fun c1 => L_aload_n dX_run_20 rfl (L_getF (b := 114) fw_X_95 rfl rfl (by decide) dX_run_21 ⟨ob_0, L_aload_n dX_run_24 rfl (L_getF (b := 6) fw_X_37 rfl rfl (by decide) dX_run_25 ⟨ob_0, L_aload_n dX_run_28 rfl (L_getF (b := 42) fw_X_67 rfl rfl (by decide) dX_run_29 ⟨ob_0, L_aload_n dX_run_32 rfl (L_getF (b := 78) fw_X_81 rfl rfl (by decide) dX_run_33 ⟨ob_0, L_aload_n dX_run_36 rfl (L_getF (b := 104) fw_X_88 rfl rfl (by decide) dX_run_37 ⟨ob_0, L_callVV rfl cv_Ru_perform (As := [vA 6, vA 42, vA 78, vA 104]) rfl (tk6 123 rfl rfl) rfl (Nat.le_of_ble_eq_true rfl) dX_run_40 ⟨ob_114, Tri.mono (h.1 c1) (fun r2 σ2 q2 => L_aload_n dX_run_43 rfl (L_aload_n dX_run_44 rfl (L_getF (b := 114) fw_X_95 rfl rfl (by decide) dX_run_45 ⟨ob_0, L_getf fw_X_380 rfl dX_run_48 ⟨ob_114, L_callVI rfl cv_X_answer (As := [vI (σ2 114 1)]) rfl (tk3 208 rfl rfl) rfl (Nat.le_of_ble_eq_true rfl) dX_run_51 ⟨ob_0, Tri.mono q2 (fun r3 σ3 q3 => L_ireturn rfl dX_run_54 q3)⟩⟩⟩)))⟩⟩)⟩)⟩)⟩)⟩), fun c1 => L_aload_n dX_run_13 rfl (L_bipush dX_run_14 bp_8 in_8 (L_callVI rfl cv_X_fail (As := [vI 8]) rfl (tk3 38 rfl rfl) rfl (Nat.le_of_ble_eq_true rfl) dX_run_16 ⟨ob_0, Tri.mono (h.2 c1) (fun r4 σ4 q4 => L_ireturn rfl dX_run_19 q4)⟩))⟩⟩⟩⟩))
theorem dX_ran_0 : decode prog_1_method_50_code 0 = .ok (.iload_n 1, 1) := by decide +kernel
theorem dX_ran_1 : decode prog_1_method_50_code 1 = .ok (.ifCond .lt 8, 3) := by decide +kernel
theorem dX_ran_4 : decode prog_1_method_50_code 4 = .ok (.iload_n 1, 1) := by decide +kernel
theorem dX_ran_5 : decode prog_1_method_50_code 5 = .ok (.iconst 1, 1) := by decide +kernel
theorem dX_ran_6 : decode prog_1_method_50_code 6 = .ok (.if_icmp .le 9, 3) := by decide +kernel
theorem dX_ran_9 : decode prog_1_method_50_code 9 = .ok (.aload_n 0, 1) := by decide +kernel
theorem dX_ran_10 : decode prog_1_method_50_code 10 = .ok (.iconst 5, 1) := by decide +kernel
theorem dX_ran_11 : decode prog_1_method_50_code 11 = .ok (.invokevirtual 133, 3) := by decide +kernel
theorem dX_ran_14 : decode prog_1_method_50_code 14 = .ok (.ireturn, 1) := by decide +kernel
theorem dX_ran_15 : decode prog_1_method_50_code 15 = .ok (.aload_n 0, 1) := by decide +kernel
theorem dX_ran_16 : decode prog_1_method_50_code 16 = .ok (.getfield 95, 3) := by decide +kernel
theorem dX_ran_19 : decode prog_1_method_50_code 19 = .ok (.getfield 381, 3) := by decide +kernel
theorem dX_ran_22 : decode prog_1_method_50_code 22 = .ok (.ifCond .ne 10, 3) := by decide +kernel
theorem dX_ran_25 : decode prog_1_method_50_code 25 = .ok (.aload_n 0, 1) := by decide +kernel
theorem dX_ran_26 : decode prog_1_method_50_code 26 = .ok (.bipush 8, 2) := by decide +kernel
theorem dX_ran_28 : decode prog_1_method_50_code 28 = .ok (.invokevirtual 133, 3) := by decide +kernel
theorem dX_ran_31 : decode prog_1_method_50_code 31 = .ok (.ireturn, 1) := by decide +kernel
theorem dX_ran_32 : decode prog_1_method_50_code 32 = .ok (.aload_n 0, 1) := by decide +kernel
theorem dX_ran_33 : decode prog_1_method_50_code 33 = .ok (.iload_n 1, 1) := by decide +kernel
theorem dX_ran_34 : decode prog_1_method_50_code 34 = .ok (.ifCond .ne 13, 3) := by decide +kernel
theorem dX_ran_37 : decode prog_1_method_50_code 37 = .ok (.aload_n 0, 1) := by decide +kernel
theorem dX_ran_38 : decode prog_1_method_50_code 38 = .ok (.getfield 95, 3) := by decide +kernel
theorem dX_ran_41 : decode prog_1_method_50_code 41 = .ok (.getfield 384, 3) := by decide +kernel
theorem dX_ran_44 : decode prog_1_method_50_code 44 = .ok (.goto 10, 3) := by decide +kernel
theorem dX_ran_47 : decode prog_1_method_50_code 47 = .ok (.aload_n 0, 1) := by decide +kernel
theorem dX_ran_48 : decode prog_1_method_50_code 48 = .ok (.getfield 95, 3) := by decide +kernel
theorem dX_ran_51 : decode prog_1_method_50_code 51 = .ok (.getfield 387, 3) := by decide +kernel
theorem dX_ran_54 : decode prog_1_method_50_code 54 = .ok (.invokevirtual 173, 3) := by decide +kernel
theorem dX_ran_57 : decode prog_1_method_50_code 57 = .ok (.ireturn, 1) := by decide +kernel
theorem t_X_ran {d : Nat} {x1 : Int} {σ : SG} {Q : Int → SG → Prop} (h : inI x1 → ((x1 < 0 → Tri d M_X_fail [vA 0, vI 5] σ (fun r2 σ2 => Q r2 σ2)) ∧ (0 ≤ x1 → (x1 ≤ 1 → (σ 114 0 ≠ 0 → (x1 ≠ 0 → Tri d M_X_answer [vA 0, vI (σ 114 3)] σ (fun r6 σ6 => Q r6 σ6)) ∧ (x1 = 0 → Tri d M_X_answer [vA 0, vI (σ 114 2)] σ (fun r7 σ7 => Q r7 σ7))) ∧ (σ 114 0 = 0 → Tri d M_X_fail [vA 0, vI 8] σ (fun r8 σ8 => Q r8 σ8))) ∧ (1 < x1 → Tri d M_X_fail [vA 0, vI 5] σ (fun r9 σ9 => Q r9 σ9))))) : Tri (d + 1) M_X_ran [vA 0, vI x1] σ Q :=
  Tri_intro rfl (Nat.le_of_ble_eq_true rfl) (ls := [vA 0, vI x1]) rfl (fun hok => L_iload_n dX_ran_0 rfl (L_if_lt dX_ran_1 (by decide) ⟨fun c1 => L_aload_n dX_ran_9 rfl (L_iconst dX_ran_10 in_5 (L_callVI rfl cv_X_fail (As := [vI 5]) rfl (tk3 38 rfl rfl) rfl (Nat.le_of_ble_eq_true rfl) dX_ran_11 ⟨ob_0, Tri.mono ((h (hok _ (List.mem_of_getElem? (i := 1) rfl))).1 c1) (fun r2 σ2 q2 => L_ireturn rfl dX_ran_14 q2)⟩)), fun c1 => L_iload_n dX_ran_4 rfl (L_iconst dX_ran_5 in_1 (L_icmp_le dX_ran_6 (by decide) ⟨fun c3 => L_aload_n dX_ran_15 rfl (L_getF (b := 114) fw_X_95 rfl rfl (by decide) dX_ran_16 ⟨ob_0, L_getf fw_X_381 rfl dX_ran_19 ⟨ob_114, L_if_ne dX_ran_22 (by decide) ⟨fun c4 => L_aload_n dX_ran_32 rfl (L_iload_n dX_ran_33 rfl (L_if_ne dX_ran_34 (by decide) ⟨fun c5 => L_aload_n dX_ran_47 rfl (L_getF (b := 114) fw_X_95 rfl rfl (by decide) dX_ran_48 ⟨ob_0, L_getf fw_X_387 rfl dX_ran_51 ⟨ob_114, L_callVI rfl cv_X_answer (As := [vI (σ 114 3)]) rfl (tk3 208 rfl rfl) rfl (Nat.le_of_ble_eq_true rfl) dX_ran_54 ⟨ob_0, Tri.mono (((((h (hok _ (List.mem_of_getElem? (i := 1) rfl))).2 c1).1 c3).1 c4).1 c5) (fun r6 σ6 q6 => L_ireturn rfl dX_ran_57 q6)⟩⟩⟩), fun c5 => L_aload_n dX_ran_37 rfl (L_getF (b := 114) fw_X_95 rfl rfl (by decide) dX_ran_38 ⟨ob_0, L_getf fw_X_384 rfl dX_ran_41 ⟨ob_114, L_goto dX_ran_44 (by decide) (L_callVI rfl cv_X_answer (As := [vI (σ 114 2)]) rfl (tk3 208 rfl rfl) rfl (Nat.le_of_ble_eq_true rfl) dX_ran_54 ⟨ob_0, Tri.mono (((((h (hok _ (List.mem_of_getElem? (i := 1) rfl))).2 c1).1 c3).1 c4).2 c5) (fun r7 σ7 q7 => L_ireturn rfl dX_ran_57 q7)⟩)⟩⟩)⟩)), fun c4 => L_aload_n dX_ran_25 rfl (L_bipush dX_ran_26 bp_8 in_8 (L_callVI rfl cv_X_fail (As := [vI 8]) rfl (tk3 38 rfl rfl) rfl (Nat.le_of_ble_eq_true rfl) dX_ran_28 ⟨ob_0, Tri.mono ((((h (hok _ (List.mem_of_getElem? (i := 1) rfl))).2 c1).1 c3).2 c4) (fun r8 σ8 q8 => L_ireturn rfl dX_ran_31 q8)⟩))⟩⟩⟩), fun c3 => L_aload_n dX_ran_9 rfl (L_iconst dX_ran_10 in_5 (L_callVI rfl cv_X_fail (As := [vI 5]) rfl (tk3 38 rfl rfl) rfl (Nat.le_of_ble_eq_true rfl) dX_ran_11 ⟨ob_0, Tri.mono (((h (hok _ (List.mem_of_getElem? (i := 1) rfl))).2 c1).2 c3) (fun r9 σ9 q9 => L_ireturn rfl dX_ran_14 q9)⟩))⟩))⟩))
theorem dX_mark_0 : decode prog_1_method_51_code 0 = .ok (.aload_n 0, 1) := by decide +kernel
theorem dX_mark_1 : decode prog_1_method_51_code 1 = .ok (.getfield 390, 3) := by decide +kernel
theorem dX_mark_4 : decode prog_1_method_51_code 4 = .ok (.iconst 3, 1) := by decide +kernel
theorem dX_mark_5 : decode prog_1_method_51_code 5 = .ok (.if_icmp .lt 10, 3) := by decide +kernel
theorem dX_mark_8 : decode prog_1_method_51_code 8 = .ok (.aload_n 0, 1) := by decide +kernel
theorem dX_mark_9 : decode prog_1_method_51_code 9 = .ok (.bipush 7, 2) := by decide +kernel
theorem dX_mark_11 : decode prog_1_method_51_code 11 = .ok (.invokevirtual 133, 3) := by decide +kernel
theorem dX_mark_14 : decode prog_1_method_51_code 14 = .ok (.ireturn, 1) := by decide +kernel
theorem dX_mark_15 : decode prog_1_method_51_code 15 = .ok (.aload_n 0, 1) := by decide +kernel
theorem dX_mark_16 : decode prog_1_method_51_code 16 = .ok (.getfield 41, 3) := by decide +kernel
theorem dX_mark_19 : decode prog_1_method_51_code 19 = .ok (.aload_n 0, 1) := by decide +kernel
theorem dX_mark_20 : decode prog_1_method_51_code 20 = .ok (.getfield 390, 3) := by decide +kernel
theorem dX_mark_23 : decode prog_1_method_51_code 23 = .ok (.aaload, 1) := by decide +kernel
theorem dX_mark_24 : decode prog_1_method_51_code 24 = .ok (.aload_n 0, 1) := by decide +kernel
theorem dX_mark_25 : decode prog_1_method_51_code 25 = .ok (.getfield 37, 3) := by decide +kernel
theorem dX_mark_28 : decode prog_1_method_51_code 28 = .ok (.invokevirtual 393, 3) := by decide +kernel
theorem dX_mark_31 : decode prog_1_method_51_code 31 = .ok (.aload_n 0, 1) := by decide +kernel
theorem dX_mark_32 : decode prog_1_method_51_code 32 = .ok (.dup, 1) := by decide +kernel
theorem dX_mark_33 : decode prog_1_method_51_code 33 = .ok (.getfield 390, 3) := by decide +kernel
theorem dX_mark_36 : decode prog_1_method_51_code 36 = .ok (.iconst 1, 1) := by decide +kernel
theorem dX_mark_37 : decode prog_1_method_51_code 37 = .ok (.iadd, 1) := by decide +kernel
theorem dX_mark_38 : decode prog_1_method_51_code 38 = .ok (.putfield 390, 3) := by decide +kernel
theorem dX_mark_41 : decode prog_1_method_51_code 41 = .ok (.aload_n 0, 1) := by decide +kernel
theorem dX_mark_42 : decode prog_1_method_51_code 42 = .ok (.aload_n 0, 1) := by decide +kernel
theorem dX_mark_43 : decode prog_1_method_51_code 43 = .ok (.getfield 390, 3) := by decide +kernel
theorem dX_mark_46 : decode prog_1_method_51_code 46 = .ok (.invokevirtual 173, 3) := by decide +kernel
theorem dX_mark_49 : decode prog_1_method_51_code 49 = .ok (.ireturn, 1) := by decide +kernel
theorem t_X_mark {d : Nat} {σ : SG} {Q : Int → SG → Prop} (h : (σ 0 4 < 3 → rdok 104 21 (σ 0 4) ∧ obok 1 (116 + 15 * (σ 0 4)) ∧ Tri d M_De_copyFrom [vA (116 + 15 * (σ 0 4)), vA 6] σ (fun r2 σ2 => (∀ σ3, σ3 = up σ2 0 4 (w32 ((σ2 0 4) + 1)) → Tri d M_X_answer [vA 0, vI (σ3 0 4)] σ3 (fun r4 σ4 => Q r4 σ4)))) ∧ (3 ≤ σ 0 4 → Tri d M_X_fail [vA 0, vI 7] σ (fun r5 σ5 => Q r5 σ5))) : Tri (d + 1) M_X_mark [vA 0] σ Q :=
  Tri_intro rfl (Nat.le_of_ble_eq_true rfl) (ls := [vA 0]) rfl (fun hok => L_aload_n dX_mark_0 rfl (L_getf fw_X_390 rfl dX_mark_1 ⟨ob_0, L_iconst dX_mark_4 in_3 (L_icmp_lt dX_mark_5 (by decide) ⟨fun c1 => L_aload_n dX_mark_15 rfl (L_getF (b := 21) fw_X_41 rfl rfl (by decide) dX_mark_16 ⟨ob_0, L_aload_n dX_mark_19 rfl (L_getf fw_X_390 rfl dX_mark_20 ⟨ob_0, L_aaF (b := 116 + 15 * (σ 0 4)) (o := (95, 15)) (by decide) rfl (show (21 : Int) + 95 + 15 * (σ 0 4) = 116 + 15 * (σ 0 4) by omega) (by decide) dX_mark_23 ⟨(h.1 c1).1, L_aload_n dX_mark_24 rfl (L_getF (b := 6) fw_X_37 rfl rfl (by decide) dX_mark_25 ⟨ob_0, L_callVV rfl cv_De_copyFrom (As := [vA 6]) rfl (tk6 182 rfl rfl) rfl (Nat.le_of_ble_eq_true rfl) dX_mark_28 ⟨(h.1 c1).2.1, Tri.mono ((h.1 c1).2.2) (fun r2 σ2 q2 => L_aload_n dX_mark_31 rfl (L_dup dX_mark_32 n21 (L_getf fw_X_390 rfl dX_mark_33 ⟨ob_0, L_iconst dX_mark_36 in_1 (L_iadd dX_mark_37 (L_putfN fp_X_390 rfl rfl (fun _ => ⟨rfl, rfl⟩) dX_mark_38 ⟨ob_0, fun σ3 e3 => L_aload_n dX_mark_41 rfl (L_aload_n dX_mark_42 rfl (L_getf fw_X_390 rfl dX_mark_43 ⟨ob_0, L_callVI rfl cv_X_answer (As := [vI (σ3 0 4)]) rfl (tk3 208 rfl rfl) rfl (Nat.le_of_ble_eq_true rfl) dX_mark_46 ⟨ob_0, Tri.mono (q2 σ3 e3) (fun r4 σ4 q4 => L_ireturn rfl dX_mark_49 q4)⟩⟩))⟩))⟩)))⟩⟩)⟩⟩)⟩), fun c1 => L_aload_n dX_mark_8 rfl (L_bipush dX_mark_9 bp_7 in_7 (L_callVI rfl cv_X_fail (As := [vI 7]) rfl (tk3 38 rfl rfl) rfl (Nat.le_of_ble_eq_true rfl) dX_mark_11 ⟨ob_0, Tri.mono (h.2 c1) (fun r5 σ5 q5 => L_ireturn rfl dX_mark_14 q5)⟩))⟩)⟩))
theorem dX_back_0 : decode prog_1_method_52_code 0 = .ok (.aload_n 0, 1) := by decide +kernel
theorem dX_back_1 : decode prog_1_method_52_code 1 = .ok (.getfield 390, 3) := by decide +kernel
theorem dX_back_4 : decode prog_1_method_52_code 4 = .ok (.iconst 1, 1) := by decide +kernel
theorem dX_back_5 : decode prog_1_method_52_code 5 = .ok (.if_icmp .ge 10, 3) := by decide +kernel
theorem dX_back_8 : decode prog_1_method_52_code 8 = .ok (.aload_n 0, 1) := by decide +kernel
theorem dX_back_9 : decode prog_1_method_52_code 9 = .ok (.bipush 8, 2) := by decide +kernel
theorem dX_back_11 : decode prog_1_method_52_code 11 = .ok (.invokevirtual 133, 3) := by decide +kernel
theorem dX_back_14 : decode prog_1_method_52_code 14 = .ok (.ireturn, 1) := by decide +kernel
theorem dX_back_15 : decode prog_1_method_52_code 15 = .ok (.aload_n 0, 1) := by decide +kernel
theorem dX_back_16 : decode prog_1_method_52_code 16 = .ok (.dup, 1) := by decide +kernel
theorem dX_back_17 : decode prog_1_method_52_code 17 = .ok (.getfield 390, 3) := by decide +kernel
theorem dX_back_20 : decode prog_1_method_52_code 20 = .ok (.iconst 1, 1) := by decide +kernel
theorem dX_back_21 : decode prog_1_method_52_code 21 = .ok (.isub, 1) := by decide +kernel
theorem dX_back_22 : decode prog_1_method_52_code 22 = .ok (.putfield 390, 3) := by decide +kernel
theorem dX_back_25 : decode prog_1_method_52_code 25 = .ok (.aload_n 0, 1) := by decide +kernel
theorem dX_back_26 : decode prog_1_method_52_code 26 = .ok (.getfield 37, 3) := by decide +kernel
theorem dX_back_29 : decode prog_1_method_52_code 29 = .ok (.aload_n 0, 1) := by decide +kernel
theorem dX_back_30 : decode prog_1_method_52_code 30 = .ok (.getfield 41, 3) := by decide +kernel
theorem dX_back_33 : decode prog_1_method_52_code 33 = .ok (.aload_n 0, 1) := by decide +kernel
theorem dX_back_34 : decode prog_1_method_52_code 34 = .ok (.getfield 390, 3) := by decide +kernel
theorem dX_back_37 : decode prog_1_method_52_code 37 = .ok (.aaload, 1) := by decide +kernel
theorem dX_back_38 : decode prog_1_method_52_code 38 = .ok (.invokevirtual 393, 3) := by decide +kernel
theorem dX_back_41 : decode prog_1_method_52_code 41 = .ok (.aload_n 0, 1) := by decide +kernel
theorem dX_back_42 : decode prog_1_method_52_code 42 = .ok (.aload_n 0, 1) := by decide +kernel
theorem dX_back_43 : decode prog_1_method_52_code 43 = .ok (.getfield 390, 3) := by decide +kernel
theorem dX_back_46 : decode prog_1_method_52_code 46 = .ok (.invokevirtual 173, 3) := by decide +kernel
theorem dX_back_49 : decode prog_1_method_52_code 49 = .ok (.ireturn, 1) := by decide +kernel
theorem t_X_back {d : Nat} {σ : SG} {Q : Int → SG → Prop} (h : (1 ≤ σ 0 4 → (∀ σ2, σ2 = up σ 0 4 (w32 ((σ 0 4) - 1)) → rdok 104 21 (σ2 0 4) ∧ Tri d M_De_copyFrom [vA 6, vA (116 + 15 * (σ2 0 4))] σ2 (fun r3 σ3 => Tri d M_X_answer [vA 0, vI (σ3 0 4)] σ3 (fun r4 σ4 => Q r4 σ4)))) ∧ (σ 0 4 < 1 → Tri d M_X_fail [vA 0, vI 8] σ (fun r5 σ5 => Q r5 σ5))) : Tri (d + 1) M_X_back [vA 0] σ Q :=
  Tri_intro rfl (Nat.le_of_ble_eq_true rfl) (ls := [vA 0]) rfl (fun hok => L_aload_n dX_back_0 rfl (L_getf fw_X_390 rfl dX_back_1 ⟨ob_0, L_iconst dX_back_4 in_1 (L_icmp_ge dX_back_5 (by decide) ⟨fun c1 => L_aload_n dX_back_15 rfl (L_dup dX_back_16 n21 (L_getf fw_X_390 rfl dX_back_17 ⟨ob_0, L_iconst dX_back_20 in_1 (L_isub dX_back_21 (L_putfN fp_X_390 rfl rfl (fun _ => ⟨rfl, rfl⟩) dX_back_22 ⟨ob_0, fun σ2 e2 => L_aload_n dX_back_25 rfl (L_getF (b := 6) fw_X_37 rfl rfl (by decide) dX_back_26 ⟨ob_0, L_aload_n dX_back_29 rfl (L_getF (b := 21) fw_X_41 rfl rfl (by decide) dX_back_30 ⟨ob_0, L_aload_n dX_back_33 rfl (L_getf fw_X_390 rfl dX_back_34 ⟨ob_0, L_aaF (b := 116 + 15 * (σ2 0 4)) (o := (95, 15)) (by decide) rfl (show (21 : Int) + 95 + 15 * (σ2 0 4) = 116 + 15 * (σ2 0 4) by omega) (by decide) dX_back_37 ⟨((h.1 c1) σ2 e2).1, L_callVV rfl cv_De_copyFrom (As := [vA (116 + 15 * (σ2 0 4))]) rfl (tk6 182 rfl rfl) rfl (Nat.le_of_ble_eq_true rfl) dX_back_38 ⟨ob_6, Tri.mono (((h.1 c1) σ2 e2).2) (fun r3 σ3 q3 => L_aload_n dX_back_41 rfl (L_aload_n dX_back_42 rfl (L_getf fw_X_390 rfl dX_back_43 ⟨ob_0, L_callVI rfl cv_X_answer (As := [vI (σ3 0 4)]) rfl (tk3 208 rfl rfl) rfl (Nat.le_of_ble_eq_true rfl) dX_back_46 ⟨ob_0, Tri.mono q3 (fun r4 σ4 q4 => L_ireturn rfl dX_back_49 q4)⟩⟩)))⟩⟩⟩)⟩)⟩)⟩))⟩)), fun c1 => L_aload_n dX_back_8 rfl (L_bipush dX_back_9 bp_8 in_8 (L_callVI rfl cv_X_fail (As := [vI 8]) rfl (tk3 38 rfl rfl) rfl (Nat.le_of_ble_eq_true rfl) dX_back_11 ⟨ob_0, Tri.mono (h.2 c1) (fun r5 σ5 q5 => L_ireturn rfl dX_back_14 q5)⟩))⟩)⟩))
theorem dX_fail_0 : decode prog_1_method_53_code 0 = .ok (.aload_n 0, 1) := by decide +kernel
theorem dX_fail_1 : decode prog_1_method_53_code 1 = .ok (.iload_n 1, 1) := by decide +kernel
theorem dX_fail_2 : decode prog_1_method_53_code 2 = .ok (.putfield 105, 3) := by decide +kernel
theorem dX_fail_5 : decode prog_1_method_53_code 5 = .ok (.iconst (-1), 1) := by decide +kernel
theorem dX_fail_6 : decode prog_1_method_53_code 6 = .ok (.ireturn, 1) := by decide +kernel
theorem t_X_fail {d : Nat} {x1 : Int} {σ : SG} {Q : Int → SG → Prop} (h : inI x1 → ((∀ σ1, σ1 = up σ 0 0 x1 → Q (-1) σ1))) : Tri (d + 1) M_X_fail [vA 0, vI x1] σ Q :=
  Tri_intro rfl (Nat.le_of_ble_eq_true rfl) (ls := [vA 0, vI x1]) rfl (fun hok => L_aload_n dX_fail_0 rfl (L_iload_n dX_fail_1 rfl (L_putfN fp_X_105 rfl rfl (fun _ => ⟨rfl, rfl⟩) dX_fail_2 ⟨ob_0, fun σ1 e1 => L_iconst dX_fail_5 in_m1 (L_ireturn rfl dX_fail_6 ((h (hok _ (List.mem_of_getElem? (i := 1) rfl))) σ1 e1))⟩)))
theorem dX_refuse_0 : decode prog_1_method_54_code 0 = .ok (.aload_n 0, 1) := by decide +kernel
theorem dX_refuse_1 : decode prog_1_method_54_code 1 = .ok (.iload_n 1, 1) := by decide +kernel
theorem dX_refuse_2 : decode prog_1_method_54_code 2 = .ok (.putfield 105, 3) := by decide +kernel
theorem dX_refuse_5 : decode prog_1_method_54_code 5 = .ok (.iconst 0, 1) := by decide +kernel
theorem dX_refuse_6 : decode prog_1_method_54_code 6 = .ok (.ireturn, 1) := by decide +kernel
theorem t_X_refuse {d : Nat} {x1 : Int} {σ : SG} {Q : Int → SG → Prop} (h : inI x1 → ((∀ σ1, σ1 = up σ 0 0 x1 → Q 0 σ1))) : Tri (d + 1) M_X_refuse [vA 0, vI x1] σ Q :=
  Tri_intro rfl (Nat.le_of_ble_eq_true rfl) (ls := [vA 0, vI x1]) rfl (fun hok => L_aload_n dX_refuse_0 rfl (L_iload_n dX_refuse_1 rfl (L_putfN fp_X_105 rfl rfl (fun _ => ⟨rfl, rfl⟩) dX_refuse_2 ⟨ob_0, fun σ1 e1 => L_iconst dX_refuse_5 in_0 (L_zreturn0 rfl dX_refuse_6 ((h (hok _ (List.mem_of_getElem? (i := 1) rfl))) σ1 e1))⟩)))
theorem dX_answer_0 : decode prog_1_method_55_code 0 = .ok (.aload_n 0, 1) := by decide +kernel
theorem dX_answer_1 : decode prog_1_method_55_code 1 = .ok (.iconst 0, 1) := by decide +kernel
theorem dX_answer_2 : decode prog_1_method_55_code 2 = .ok (.putfield 105, 3) := by decide +kernel
theorem dX_answer_5 : decode prog_1_method_55_code 5 = .ok (.iload_n 1, 1) := by decide +kernel
theorem dX_answer_6 : decode prog_1_method_55_code 6 = .ok (.ireturn, 1) := by decide +kernel
theorem t_X_answer {d : Nat} {x1 : Int} {σ : SG} {Q : Int → SG → Prop} (h : inI x1 → ((∀ σ1, σ1 = up σ 0 0 0 → Q x1 σ1))) : Tri (d + 1) M_X_answer [vA 0, vI x1] σ Q :=
  Tri_intro rfl (Nat.le_of_ble_eq_true rfl) (ls := [vA 0, vI x1]) rfl (fun hok => L_aload_n dX_answer_0 rfl (L_iconst dX_answer_1 in_0 (L_putfN fp_X_105 rfl rfl (fun _ => ⟨rfl, rfl⟩) dX_answer_2 ⟨ob_0, fun σ1 e1 => L_iload_n dX_answer_5 rfl (L_ireturn rfl dX_answer_6 ((h (hok _ (List.mem_of_getElem? (i := 1) rfl))) σ1 e1))⟩)))
theorem dX_agree_0 : decode prog_1_method_56_code 0 = .ok (.aload_n 0, 1) := by decide +kernel
theorem dX_agree_1 : decode prog_1_method_56_code 1 = .ok (.iconst 0, 1) := by decide +kernel
theorem dX_agree_2 : decode prog_1_method_56_code 2 = .ok (.putfield 105, 3) := by decide +kernel
theorem dX_agree_5 : decode prog_1_method_56_code 5 = .ok (.iconst 1, 1) := by decide +kernel
theorem dX_agree_6 : decode prog_1_method_56_code 6 = .ok (.ireturn, 1) := by decide +kernel
theorem t_X_agree {d : Nat} {σ : SG} {Q : Int → SG → Prop} (h : (∀ σ1, σ1 = up σ 0 0 0 → Q 1 σ1)) : Tri (d + 1) M_X_agree [vA 0] σ Q :=
  Tri_intro rfl (Nat.le_of_ble_eq_true rfl) (ls := [vA 0]) rfl (fun hok => L_aload_n dX_agree_0 rfl (L_iconst dX_agree_1 in_0 (L_putfN fp_X_105 rfl rfl (fun _ => ⟨rfl, rfl⟩) dX_agree_2 ⟨ob_0, fun σ1 e1 => L_iconst dX_agree_5 in_1 (L_zreturn1 rfl dX_agree_6 (h σ1 e1))⟩)))
theorem dX_isTray_0 : decode prog_1_method_57_code 0 = .ok (.iload_n 0, 1) := by decide +kernel
theorem dX_isTray_1 : decode prog_1_method_57_code 1 = .ok (.ifCond .lt 12, 3) := by decide +kernel
theorem dX_isTray_4 : decode prog_1_method_57_code 4 = .ok (.iload_n 0, 1) := by decide +kernel
theorem dX_isTray_5 : decode prog_1_method_57_code 5 = .ok (.iconst 4, 1) := by decide +kernel
theorem dX_isTray_6 : decode prog_1_method_57_code 6 = .ok (.if_icmp .ge 7, 3) := by decide +kernel
theorem dX_isTray_9 : decode prog_1_method_57_code 9 = .ok (.iconst 1, 1) := by decide +kernel
theorem dX_isTray_10 : decode prog_1_method_57_code 10 = .ok (.goto 4, 3) := by decide +kernel
theorem dX_isTray_13 : decode prog_1_method_57_code 13 = .ok (.iconst 0, 1) := by decide +kernel
theorem dX_isTray_14 : decode prog_1_method_57_code 14 = .ok (.ireturn, 1) := by decide +kernel
theorem t_X_isTray {d : Nat} {x0 : Int} {σ : SG} {Q : Int → SG → Prop} (h : inI x0 → ((x0 < 0 → Q 0 σ) ∧ (0 ≤ x0 → (4 ≤ x0 → Q 0 σ) ∧ (x0 < 4 → Q 1 σ)))) : Tri (d + 1) M_X_isTray [vI x0] σ Q :=
  Tri_intro rfl (Nat.le_of_ble_eq_true rfl) (ls := [vI x0]) rfl (fun hok => L_iload_n dX_isTray_0 rfl (L_if_lt dX_isTray_1 (by decide) ⟨fun c1 => L_iconst dX_isTray_13 in_0 (L_zreturn0 rfl dX_isTray_14 ((h (hok _ (List.mem_of_getElem? (i := 0) rfl))).1 c1)), fun c1 => L_iload_n dX_isTray_4 rfl (L_iconst dX_isTray_5 in_4 (L_icmp_ge dX_isTray_6 (by decide) ⟨fun c2 => L_iconst dX_isTray_13 in_0 (L_zreturn0 rfl dX_isTray_14 (((h (hok _ (List.mem_of_getElem? (i := 0) rfl))).2 c1).1 c2)), fun c2 => L_iconst dX_isTray_9 in_1 (L_goto dX_isTray_10 (by decide) (L_zreturn1 rfl dX_isTray_14 (((h (hok _ (List.mem_of_getElem? (i := 0) rfl))).2 c1).2 c2)))⟩))⟩))
theorem dX_isBase_0 : decode prog_1_method_58_code 0 = .ok (.iload_n 1, 1) := by decide +kernel
theorem dX_isBase_1 : decode prog_1_method_58_code 1 = .ok (.ifCond .lt 21, 3) := by decide +kernel
theorem dX_isBase_4 : decode prog_1_method_58_code 4 = .ok (.iload_n 1, 1) := by decide +kernel
theorem dX_isBase_5 : decode prog_1_method_58_code 5 = .ok (.aload_n 0, 1) := by decide +kernel
theorem dX_isBase_6 : decode prog_1_method_58_code 6 = .ok (.getfield 37, 3) := by decide +kernel
theorem dX_isBase_9 : decode prog_1_method_58_code 9 = .ok (.getfield 156, 3) := by decide +kernel
theorem dX_isBase_12 : decode prog_1_method_58_code 12 = .ok (.getfield 170, 3) := by decide +kernel
theorem dX_isBase_15 : decode prog_1_method_58_code 15 = .ok (.if_icmp .ge 7, 3) := by decide +kernel
theorem dX_isBase_18 : decode prog_1_method_58_code 18 = .ok (.iconst 1, 1) := by decide +kernel
theorem dX_isBase_19 : decode prog_1_method_58_code 19 = .ok (.goto 4, 3) := by decide +kernel
theorem dX_isBase_22 : decode prog_1_method_58_code 22 = .ok (.iconst 0, 1) := by decide +kernel
theorem dX_isBase_23 : decode prog_1_method_58_code 23 = .ok (.ireturn, 1) := by decide +kernel
theorem t_X_isBase {d : Nat} {x1 : Int} {σ : SG} {Q : Int → SG → Prop} (h : inI x1 → ((x1 < 0 → Q 0 σ) ∧ (0 ≤ x1 → (σ 7 2 ≤ x1 → Q 0 σ) ∧ (x1 < σ 7 2 → Q 1 σ)))) : Tri (d + 1) M_X_isBase [vA 0, vI x1] σ Q :=
  Tri_intro rfl (Nat.le_of_ble_eq_true rfl) (ls := [vA 0, vI x1]) rfl (fun hok => L_iload_n dX_isBase_0 rfl (L_if_lt dX_isBase_1 (by decide) ⟨fun c1 => L_iconst dX_isBase_22 in_0 (L_zreturn0 rfl dX_isBase_23 ((h (hok _ (List.mem_of_getElem? (i := 1) rfl))).1 c1)), fun c1 => L_iload_n dX_isBase_4 rfl (L_aload_n dX_isBase_5 rfl (L_getF (b := 6) fw_X_37 rfl rfl (by decide) dX_isBase_6 ⟨ob_0, L_getF (b := 7) fw_X_156 rfl rfl (by decide) dX_isBase_9 ⟨ob_6, L_getf fw_X_170 rfl dX_isBase_12 ⟨ob_7, L_icmp_ge dX_isBase_15 (by decide) ⟨fun c2 => L_iconst dX_isBase_22 in_0 (L_zreturn0 rfl dX_isBase_23 (((h (hok _ (List.mem_of_getElem? (i := 1) rfl))).2 c1).1 c2)), fun c2 => L_iconst dX_isBase_18 in_1 (L_goto dX_isBase_19 (by decide) (L_zreturn1 rfl dX_isBase_23 (((h (hok _ (List.mem_of_getElem? (i := 1) rfl))).2 c1).2 c2)))⟩⟩⟩⟩))⟩))
theorem dX_isVector_0 : decode prog_1_method_59_code 0 = .ok (.lload_n 1, 1) := by decide +kernel
theorem dX_isVector_1 : decode prog_1_method_59_code 1 = .ok (.lconst 0, 1) := by decide +kernel
theorem dX_isVector_2 : decode prog_1_method_59_code 2 = .ok (.lcmp, 1) := by decide +kernel
theorem dX_isVector_3 : decode prog_1_method_59_code 3 = .ok (.ifCond .lt 23, 3) := by decide +kernel
theorem dX_isVector_6 : decode prog_1_method_59_code 6 = .ok (.lload_n 1, 1) := by decide +kernel
theorem dX_isVector_7 : decode prog_1_method_59_code 7 = .ok (.aload_n 0, 1) := by decide +kernel
theorem dX_isVector_8 : decode prog_1_method_59_code 8 = .ok (.getfield 37, 3) := by decide +kernel
theorem dX_isVector_11 : decode prog_1_method_59_code 11 = .ok (.getfield 156, 3) := by decide +kernel
theorem dX_isVector_14 : decode prog_1_method_59_code 14 = .ok (.invokevirtual 396, 3) := by decide +kernel
theorem dX_isVector_17 : decode prog_1_method_59_code 17 = .ok (.i2l, 1) := by decide +kernel
theorem dX_isVector_18 : decode prog_1_method_59_code 18 = .ok (.lcmp, 1) := by decide +kernel
theorem dX_isVector_19 : decode prog_1_method_59_code 19 = .ok (.ifCond .ge 7, 3) := by decide +kernel
theorem dX_isVector_22 : decode prog_1_method_59_code 22 = .ok (.iconst 1, 1) := by decide +kernel
theorem dX_isVector_23 : decode prog_1_method_59_code 23 = .ok (.goto 4, 3) := by decide +kernel
theorem dX_isVector_26 : decode prog_1_method_59_code 26 = .ok (.iconst 0, 1) := by decide +kernel
theorem dX_isVector_27 : decode prog_1_method_59_code 27 = .ok (.ireturn, 1) := by decide +kernel
theorem t_X_isVector {d : Nat} {x1 : Int} {σ : SG} {Q : Int → SG → Prop} (h : inJ x1 → ((cmp3 x1 0 < 0 → Q 0 σ) ∧ (0 ≤ cmp3 x1 0 → Tri d M_Wd_vectors [vA 7] σ (fun r2 σ2 => (0 ≤ cmp3 x1 r2 → Q 0 σ2) ∧ (cmp3 x1 r2 < 0 → Q 1 σ2))))) : Tri (d + 1) M_X_isVector [vA 0, vJ x1] σ Q :=
  Tri_intro rfl (Nat.le_of_ble_eq_true rfl) (ls := [vA 0, vJ x1, vU]) rfl (fun hok => L_lload_n dX_isVector_0 rfl (L_lconst (x := 0) dX_isVector_1 rfl inJ_0 (L_lcmp dX_isVector_2 (L_if_lt dX_isVector_3 (by decide) ⟨fun c1 => L_iconst dX_isVector_26 in_0 (L_zreturn0 rfl dX_isVector_27 ((h (hok _ (List.mem_of_getElem? (i := 1) rfl))).1 c1)), fun c1 => L_lload_n dX_isVector_6 rfl (L_aload_n dX_isVector_7 rfl (L_getF (b := 6) fw_X_37 rfl rfl (by decide) dX_isVector_8 ⟨ob_0, L_getF (b := 7) fw_X_156 rfl rfl (by decide) dX_isVector_11 ⟨ob_6, L_callVI rfl cv_Wd_vectors (As := []) rfl (tk4 75 rfl rfl) rfl (Nat.le_of_ble_eq_true rfl) dX_isVector_14 ⟨ob_7, Tri.mono ((h (hok _ (List.mem_of_getElem? (i := 1) rfl))).2 c1) (fun r2 σ2 q2 => L_i2l dX_isVector_17 (L_lcmp dX_isVector_18 (L_if_ge dX_isVector_19 (by decide) ⟨fun c3 => L_iconst dX_isVector_26 in_0 (L_zreturn0 rfl dX_isVector_27 (q2.1 c3)), fun c3 => L_iconst dX_isVector_22 in_1 (L_goto dX_isVector_23 (by decide) (L_zreturn1 rfl dX_isVector_27 (q2.2 c3)))⟩)))⟩⟩⟩))⟩))))
theorem dX_trayTrouble_0 : decode prog_1_method_60_code 0 = .ok (.iload_n 1, 1) := by decide +kernel
theorem dX_trayTrouble_1 : decode prog_1_method_60_code 1 = .ok (.invokestatic 111, 3) := by decide +kernel
theorem dX_trayTrouble_4 : decode prog_1_method_60_code 4 = .ok (.ifCond .ne 5, 3) := by decide +kernel
theorem dX_trayTrouble_7 : decode prog_1_method_60_code 7 = .ok (.iconst 1, 1) := by decide +kernel
theorem dX_trayTrouble_8 : decode prog_1_method_60_code 8 = .ok (.ireturn, 1) := by decide +kernel
theorem dX_trayTrouble_9 : decode prog_1_method_60_code 9 = .ok (.aload_n 0, 1) := by decide +kernel
theorem dX_trayTrouble_10 : decode prog_1_method_60_code 10 = .ok (.getfield 25, 3) := by decide +kernel
theorem dX_trayTrouble_13 : decode prog_1_method_60_code 13 = .ok (.iload_n 1, 1) := by decide +kernel
theorem dX_trayTrouble_14 : decode prog_1_method_60_code 14 = .ok (.iaload, 1) := by decide +kernel
theorem dX_trayTrouble_15 : decode prog_1_method_60_code 15 = .ok (.ifCond .ge 7, 3) := by decide +kernel
theorem dX_trayTrouble_18 : decode prog_1_method_60_code 18 = .ok (.iconst 3, 1) := by decide +kernel
theorem dX_trayTrouble_19 : decode prog_1_method_60_code 19 = .ok (.goto 4, 3) := by decide +kernel
theorem dX_trayTrouble_22 : decode prog_1_method_60_code 22 = .ok (.iconst 0, 1) := by decide +kernel
theorem dX_trayTrouble_23 : decode prog_1_method_60_code 23 = .ok (.ireturn, 1) := by decide +kernel
theorem t_X_trayTrouble {d : Nat} {x1 : Int} {σ : SG} {Q : Int → SG → Prop} (h : inI x1 → (Tri d M_X_isTray [vI x1] σ (fun r1 σ1 => (r1 ≠ 0 → (0 ≤ x1 ∧ x1 < 4) ∧ (0 ≤ σ1 3 x1 → Q 0 σ1) ∧ (σ1 3 x1 < 0 → Q 3 σ1)) ∧ (r1 = 0 → Q 1 σ1)))) : Tri (d + 1) M_X_trayTrouble [vA 0, vI x1] σ Q :=
  Tri_intro rfl (Nat.le_of_ble_eq_true rfl) (ls := [vA 0, vI x1]) rfl (fun hok => L_iload_n dX_trayTrouble_0 rfl (L_callSI rfl cs_X_isTray (As := [vI x1]) rfl (tk3 2 rfl rfl) rfl (Nat.le_of_ble_eq_true rfl) dX_trayTrouble_1 (Tri.mono ((h (hok _ (List.mem_of_getElem? (i := 1) rfl)))) (fun r1 σ1 q1 => L_if_ne dX_trayTrouble_4 (by decide) ⟨fun c2 => L_aload_n dX_trayTrouble_9 rfl (L_getF (b := 3) fw_X_25 rfl rfl (by decide) dX_trayTrouble_10 ⟨ob_0, L_iload_n dX_trayTrouble_13 rfl (L_ialoadL kd_3 dX_trayTrouble_14 ⟨(q1.1 c2).1, L_if_ge dX_trayTrouble_15 (by decide) ⟨fun c3 => L_iconst dX_trayTrouble_22 in_0 (L_ireturn rfl dX_trayTrouble_23 ((q1.1 c2).2.1 c3)), fun c3 => L_iconst dX_trayTrouble_18 in_3 (L_goto dX_trayTrouble_19 (by decide) (L_ireturn rfl dX_trayTrouble_23 ((q1.1 c2).2.2 c3)))⟩⟩)⟩), fun c2 => L_iconst dX_trayTrouble_7 in_1 (L_ireturn rfl dX_trayTrouble_8 (q1.2 c2))⟩))))
theorem dX_placeTrouble_0 : decode prog_1_method_61_code 0 = .ok (.aload_n 0, 1) := by decide +kernel
theorem dX_placeTrouble_1 : decode prog_1_method_61_code 1 = .ok (.iload_n 1, 1) := by decide +kernel
theorem dX_placeTrouble_2 : decode prog_1_method_61_code 2 = .ok (.invokevirtual 245, 3) := by decide +kernel
theorem dX_placeTrouble_5 : decode prog_1_method_61_code 5 = .ok (.istore_n 3, 1) := by decide +kernel
theorem dX_placeTrouble_6 : decode prog_1_method_61_code 6 = .ok (.iload_n 3, 1) := by decide +kernel
theorem dX_placeTrouble_7 : decode prog_1_method_61_code 7 = .ok (.ifCond .ne 19, 3) := by decide +kernel
theorem dX_placeTrouble_10 : decode prog_1_method_61_code 10 = .ok (.iload_n 2, 1) := by decide +kernel
theorem dX_placeTrouble_11 : decode prog_1_method_61_code 11 = .ok (.ifCond .lt 13, 3) := by decide +kernel
theorem dX_placeTrouble_14 : decode prog_1_method_61_code 14 = .ok (.iload_n 2, 1) := by decide +kernel
theorem dX_placeTrouble_15 : decode prog_1_method_61_code 15 = .ok (.aload_n 0, 1) := by decide +kernel
theorem dX_placeTrouble_16 : decode prog_1_method_61_code 16 = .ok (.getfield 25, 3) := by decide +kernel
theorem dX_placeTrouble_19 : decode prog_1_method_61_code 19 = .ok (.iload_n 1, 1) := by decide +kernel
theorem dX_placeTrouble_20 : decode prog_1_method_61_code 20 = .ok (.iaload, 1) := by decide +kernel
theorem dX_placeTrouble_21 : decode prog_1_method_61_code 21 = .ok (.if_icmp .lt 5, 3) := by decide +kernel
theorem dX_placeTrouble_24 : decode prog_1_method_61_code 24 = .ok (.iconst 4, 1) := by decide +kernel
theorem dX_placeTrouble_25 : decode prog_1_method_61_code 25 = .ok (.istore_n 3, 1) := by decide +kernel
theorem dX_placeTrouble_26 : decode prog_1_method_61_code 26 = .ok (.iload_n 3, 1) := by decide +kernel
theorem dX_placeTrouble_27 : decode prog_1_method_61_code 27 = .ok (.ireturn, 1) := by decide +kernel
theorem t_X_placeTrouble {d : Nat} {x1 x2 : Int} {σ : SG} {Q : Int → SG → Prop} (h : inI x1 → inI x2 → (Tri d M_X_trayTrouble [vA 0, vI x1] σ (fun r1 σ1 => (r1 ≠ 0 → Q r1 σ1) ∧ (r1 = 0 → (x2 < 0 → Q 4 σ1) ∧ (0 ≤ x2 → (0 ≤ x1 ∧ x1 < 4) ∧ (x2 < σ1 3 x1 → Q r1 σ1) ∧ (σ1 3 x1 ≤ x2 → Q 4 σ1)))))) : Tri (d + 1) M_X_placeTrouble [vA 0, vI x1, vI x2] σ Q :=
  Tri_intro rfl (Nat.le_of_ble_eq_true rfl) (ls := [vA 0, vI x1, vI x2, vU]) rfl (fun hok => L_aload_n dX_placeTrouble_0 rfl (L_iload_n dX_placeTrouble_1 rfl (L_callVI rfl cv_X_trayTrouble (As := [vI x1]) rfl (tk3 27 rfl rfl) rfl (Nat.le_of_ble_eq_true rfl) dX_placeTrouble_2 ⟨ob_0, Tri.mono ((h (hok _ (List.mem_of_getElem? (i := 1) rfl)) (hok _ (List.mem_of_getElem? (i := 2) rfl)))) (fun r1 σ1 q1 => L_istore_n dX_placeTrouble_5 (by decide) (L_iload_n dX_placeTrouble_6 rfl (L_if_ne dX_placeTrouble_7 (by decide) ⟨fun c2 => L_iload_n dX_placeTrouble_26 rfl (L_ireturn rfl dX_placeTrouble_27 (q1.1 c2)), fun c2 => L_iload_n dX_placeTrouble_10 rfl (L_if_lt dX_placeTrouble_11 (by decide) ⟨fun c3 => L_iconst dX_placeTrouble_24 in_4 (L_istore_n dX_placeTrouble_25 (by decide) (L_iload_n dX_placeTrouble_26 rfl (L_ireturn rfl dX_placeTrouble_27 ((q1.2 c2).1 c3)))), fun c3 => L_iload_n dX_placeTrouble_14 rfl (L_aload_n dX_placeTrouble_15 rfl (L_getF (b := 3) fw_X_25 rfl rfl (by decide) dX_placeTrouble_16 ⟨ob_0, L_iload_n dX_placeTrouble_19 rfl (L_ialoadL kd_3 dX_placeTrouble_20 ⟨((q1.2 c2).2 c3).1, L_icmp_lt dX_placeTrouble_21 (by decide) ⟨fun c4 => L_iload_n dX_placeTrouble_26 rfl (L_ireturn rfl dX_placeTrouble_27 (((q1.2 c2).2 c3).2.1 c4)), fun c4 => L_iconst dX_placeTrouble_24 in_4 (L_istore_n dX_placeTrouble_25 (by decide) (L_iload_n dX_placeTrouble_26 rfl (L_ireturn rfl dX_placeTrouble_27 (((q1.2 c2).2 c3).2.2 c4))))⟩⟩)⟩))⟩)⟩)))⟩)))
theorem dX_reaches_0 : decode prog_1_method_62_code 0 = .ok (.iload_n 2, 1) := by decide +kernel
theorem dX_reaches_1 : decode prog_1_method_62_code 1 = .ok (.ifCond .lt 23, 3) := by decide +kernel
theorem dX_reaches_4 : decode prog_1_method_62_code 4 = .ok (.iload_n 2, 1) := by decide +kernel
theorem dX_reaches_5 : decode prog_1_method_62_code 5 = .ok (.i2l, 1) := by decide +kernel
theorem dX_reaches_6 : decode prog_1_method_62_code 6 = .ok (.iload_n 3, 1) := by decide +kernel
theorem dX_reaches_7 : decode prog_1_method_62_code 7 = .ok (.i2l, 1) := by decide +kernel
theorem dX_reaches_8 : decode prog_1_method_62_code 8 = .ok (.ladd, 1) := by decide +kernel
theorem dX_reaches_9 : decode prog_1_method_62_code 9 = .ok (.aload_n 0, 1) := by decide +kernel
theorem dX_reaches_10 : decode prog_1_method_62_code 10 = .ok (.getfield 25, 3) := by decide +kernel
theorem dX_reaches_13 : decode prog_1_method_62_code 13 = .ok (.iload_n 1, 1) := by decide +kernel
theorem dX_reaches_14 : decode prog_1_method_62_code 14 = .ok (.iaload, 1) := by decide +kernel
theorem dX_reaches_15 : decode prog_1_method_62_code 15 = .ok (.i2l, 1) := by decide +kernel
theorem dX_reaches_16 : decode prog_1_method_62_code 16 = .ok (.lcmp, 1) := by decide +kernel
theorem dX_reaches_17 : decode prog_1_method_62_code 17 = .ok (.ifCond .gt 7, 3) := by decide +kernel
theorem dX_reaches_20 : decode prog_1_method_62_code 20 = .ok (.iconst 1, 1) := by decide +kernel
theorem dX_reaches_21 : decode prog_1_method_62_code 21 = .ok (.goto 4, 3) := by decide +kernel
theorem dX_reaches_24 : decode prog_1_method_62_code 24 = .ok (.iconst 0, 1) := by decide +kernel
theorem dX_reaches_25 : decode prog_1_method_62_code 25 = .ok (.ireturn, 1) := by decide +kernel
theorem t_X_reaches {d : Nat} {x1 x2 x3 : Int} {σ : SG} {Q : Int → SG → Prop} (h : inI x1 → inI x2 → inI x3 → ((x2 < 0 → Q 0 σ) ∧ (0 ≤ x2 → (0 ≤ x1 ∧ x1 < 4) ∧ (0 < cmp3 (w64 (x2 + x3)) (σ 3 x1) → Q 0 σ) ∧ (cmp3 (w64 (x2 + x3)) (σ 3 x1) ≤ 0 → Q 1 σ)))) : Tri (d + 1) M_X_reaches [vA 0, vI x1, vI x2, vI x3] σ Q :=
  Tri_intro rfl (Nat.le_of_ble_eq_true rfl) (ls := [vA 0, vI x1, vI x2, vI x3]) rfl (fun hok => L_iload_n dX_reaches_0 rfl (L_if_lt dX_reaches_1 (by decide) ⟨fun c1 => L_iconst dX_reaches_24 in_0 (L_zreturn0 rfl dX_reaches_25 ((h (hok _ (List.mem_of_getElem? (i := 1) rfl)) (hok _ (List.mem_of_getElem? (i := 2) rfl)) (hok _ (List.mem_of_getElem? (i := 3) rfl))).1 c1)), fun c1 => L_iload_n dX_reaches_4 rfl (L_i2l dX_reaches_5 (L_iload_n dX_reaches_6 rfl (L_i2l dX_reaches_7 (L_ladd dX_reaches_8 (L_aload_n dX_reaches_9 rfl (L_getF (b := 3) fw_X_25 rfl rfl (by decide) dX_reaches_10 ⟨ob_0, L_iload_n dX_reaches_13 rfl (L_ialoadL kd_3 dX_reaches_14 ⟨((h (hok _ (List.mem_of_getElem? (i := 1) rfl)) (hok _ (List.mem_of_getElem? (i := 2) rfl)) (hok _ (List.mem_of_getElem? (i := 3) rfl))).2 c1).1, L_i2l dX_reaches_15 (L_lcmp dX_reaches_16 (L_if_gt dX_reaches_17 (by decide) ⟨fun c2 => L_iconst dX_reaches_24 in_0 (L_zreturn0 rfl dX_reaches_25 (((h (hok _ (List.mem_of_getElem? (i := 1) rfl)) (hok _ (List.mem_of_getElem? (i := 2) rfl)) (hok _ (List.mem_of_getElem? (i := 3) rfl))).2 c1).2.1 c2)), fun c2 => L_iconst dX_reaches_20 in_1 (L_goto dX_reaches_21 (by decide) (L_zreturn1 rfl dX_reaches_25 (((h (hok _ (List.mem_of_getElem? (i := 1) rfl)) (hok _ (List.mem_of_getElem? (i := 2) rfl)) (hok _ (List.mem_of_getElem? (i := 3) rfl))).2 c1).2.2 c2)))⟩))⟩)⟩))))))⟩))
theorem dX_shelfTrouble_0 : decode prog_1_method_63_code 0 = .ok (.iload_n 1, 1) := by decide +kernel
theorem dX_shelfTrouble_1 : decode prog_1_method_63_code 1 = .ok (.ifCond .lt 8, 3) := by decide +kernel
theorem dX_shelfTrouble_4 : decode prog_1_method_63_code 4 = .ok (.iload_n 1, 1) := by decide +kernel
theorem dX_shelfTrouble_5 : decode prog_1_method_63_code 5 = .ok (.iconst 4, 1) := by decide +kernel
theorem dX_shelfTrouble_6 : decode prog_1_method_63_code 6 = .ok (.if_icmp .lt 5, 3) := by decide +kernel
theorem dX_shelfTrouble_9 : decode prog_1_method_63_code 9 = .ok (.iconst 2, 1) := by decide +kernel
theorem dX_shelfTrouble_10 : decode prog_1_method_63_code 10 = .ok (.ireturn, 1) := by decide +kernel
theorem dX_shelfTrouble_11 : decode prog_1_method_63_code 11 = .ok (.aload_n 0, 1) := by decide +kernel
theorem dX_shelfTrouble_12 : decode prog_1_method_63_code 12 = .ok (.getfield 37, 3) := by decide +kernel
theorem dX_shelfTrouble_15 : decode prog_1_method_63_code 15 = .ok (.getfield 241, 3) := by decide +kernel
theorem dX_shelfTrouble_18 : decode prog_1_method_63_code 18 = .ok (.iload_n 1, 1) := by decide +kernel
theorem dX_shelfTrouble_19 : decode prog_1_method_63_code 19 = .ok (.aaload, 1) := by decide +kernel
theorem dX_shelfTrouble_20 : decode prog_1_method_63_code 20 = .ok (.getfield 399, 3) := by decide +kernel
theorem dX_shelfTrouble_23 : decode prog_1_method_63_code 23 = .ok (.ifCond .eq 7, 3) := by decide +kernel
theorem dX_shelfTrouble_26 : decode prog_1_method_63_code 26 = .ok (.iconst 0, 1) := by decide +kernel
theorem dX_shelfTrouble_27 : decode prog_1_method_63_code 27 = .ok (.goto 5, 3) := by decide +kernel
theorem dX_shelfTrouble_30 : decode prog_1_method_63_code 30 = .ok (.bipush 8, 2) := by decide +kernel
theorem dX_shelfTrouble_32 : decode prog_1_method_63_code 32 = .ok (.ireturn, 1) := by decide +kernel
theorem t_X_shelfTrouble {d : Nat} {x1 : Int} {σ : SG} {Q : Int → SG → Prop} (h : inI x1 → ((x1 < 0 → Q 2 σ) ∧ (0 ≤ x1 → (x1 < 4 → rdok 105 9 x1 ∧ obok 10 (13 + 2 * x1) ∧ (σ (13 + 2 * x1) 3 = 0 → Q 8 σ) ∧ (σ (13 + 2 * x1) 3 ≠ 0 → Q 0 σ)) ∧ (4 ≤ x1 → Q 2 σ)))) : Tri (d + 1) M_X_shelfTrouble [vA 0, vI x1] σ Q :=
  Tri_intro rfl (Nat.le_of_ble_eq_true rfl) (ls := [vA 0, vI x1]) rfl (fun hok => L_iload_n dX_shelfTrouble_0 rfl (L_if_lt dX_shelfTrouble_1 (by decide) ⟨fun c1 => L_iconst dX_shelfTrouble_9 in_2 (L_ireturn rfl dX_shelfTrouble_10 ((h (hok _ (List.mem_of_getElem? (i := 1) rfl))).1 c1)), fun c1 => L_iload_n dX_shelfTrouble_4 rfl (L_iconst dX_shelfTrouble_5 in_4 (L_icmp_lt dX_shelfTrouble_6 (by decide) ⟨fun c2 => L_aload_n dX_shelfTrouble_11 rfl (L_getF (b := 6) fw_X_37 rfl rfl (by decide) dX_shelfTrouble_12 ⟨ob_0, L_getF (b := 9) fw_X_241 rfl rfl (by decide) dX_shelfTrouble_15 ⟨ob_6, L_iload_n dX_shelfTrouble_18 rfl (L_aaF (b := 13 + 2 * x1) (o := (4, 2)) (by decide) rfl (show (9 : Int) + 4 + 2 * x1 = 13 + 2 * x1 by omega) (by decide) dX_shelfTrouble_19 ⟨(((h (hok _ (List.mem_of_getElem? (i := 1) rfl))).2 c1).1 c2).1, L_getf fw_X_399 rfl dX_shelfTrouble_20 ⟨(((h (hok _ (List.mem_of_getElem? (i := 1) rfl))).2 c1).1 c2).2.1, L_if_eq dX_shelfTrouble_23 (by decide) ⟨fun c3 => L_bipush dX_shelfTrouble_30 bp_8 in_8 (L_ireturn rfl dX_shelfTrouble_32 ((((h (hok _ (List.mem_of_getElem? (i := 1) rfl))).2 c1).1 c2).2.2.1 c3)), fun c3 => L_iconst dX_shelfTrouble_26 in_0 (L_goto dX_shelfTrouble_27 (by decide) (L_ireturn rfl dX_shelfTrouble_32 ((((h (hok _ (List.mem_of_getElem? (i := 1) rfl))).2 c1).1 c2).2.2.2 c3)))⟩⟩⟩)⟩⟩), fun c2 => L_iconst dX_shelfTrouble_9 in_2 (L_ireturn rfl dX_shelfTrouble_10 (((h (hok _ (List.mem_of_getElem? (i := 1) rfl))).2 c1).2 c2))⟩))⟩))
theorem dX_cut_0 : decode prog_1_method_64_code 0 = .ok (.iload_n 0, 1) := by decide +kernel
theorem dX_cut_1 : decode prog_1_method_64_code 1 = .ok (.tableswitch 41 0 2 #[27, 32, 37], 27) := by decide +kernel
theorem dX_cut_28 : decode prog_1_method_64_code 28 = .ok (.lload_n 1, 1) := by decide +kernel
theorem dX_cut_29 : decode prog_1_method_64_code 29 = .ok (.l2i, 1) := by decide +kernel
theorem dX_cut_30 : decode prog_1_method_64_code 30 = .ok (.i2b, 1) := by decide +kernel
theorem dX_cut_31 : decode prog_1_method_64_code 31 = .ok (.i2l, 1) := by decide +kernel
theorem dX_cut_32 : decode prog_1_method_64_code 32 = .ok (.lreturn, 1) := by decide +kernel
theorem dX_cut_33 : decode prog_1_method_64_code 33 = .ok (.lload_n 1, 1) := by decide +kernel
theorem dX_cut_34 : decode prog_1_method_64_code 34 = .ok (.l2i, 1) := by decide +kernel
theorem dX_cut_35 : decode prog_1_method_64_code 35 = .ok (.i2s, 1) := by decide +kernel
theorem dX_cut_36 : decode prog_1_method_64_code 36 = .ok (.i2l, 1) := by decide +kernel
theorem dX_cut_37 : decode prog_1_method_64_code 37 = .ok (.lreturn, 1) := by decide +kernel
theorem dX_cut_38 : decode prog_1_method_64_code 38 = .ok (.lload_n 1, 1) := by decide +kernel
theorem dX_cut_39 : decode prog_1_method_64_code 39 = .ok (.l2i, 1) := by decide +kernel
theorem dX_cut_40 : decode prog_1_method_64_code 40 = .ok (.i2l, 1) := by decide +kernel
theorem dX_cut_41 : decode prog_1_method_64_code 41 = .ok (.lreturn, 1) := by decide +kernel
theorem dX_cut_42 : decode prog_1_method_64_code 42 = .ok (.lload_n 1, 1) := by decide +kernel
theorem dX_cut_43 : decode prog_1_method_64_code 43 = .ok (.lreturn, 1) := by decide +kernel
theorem t_X_cut {d : Nat} {x0 x1 : Int} {σ : SG} {Q : Int → SG → Prop} (h : inI x0 → inJ x1 → (((x0 < 0 ∨ 2 < x0) → Q x1 σ) ∧ (x0 = 0 → Q (i2b (w32 x1)) σ) ∧ (x0 = 1 → Q (i2s (w32 x1)) σ) ∧ (x0 = 2 → Q (w32 x1) σ))) : Tri (d + 1) M_X_cut [vI x0, vJ x1] σ Q :=
  Tri_intro rfl (Nat.le_of_ble_eq_true rfl) (ls := [vI x0, vJ x1, vU]) rfl (fun hok => L_iload_n dX_cut_0 rfl (L_table dX_cut_1 (by decide) ⟨fun c1 => L_lload_n dX_cut_42 rfl (L_lreturn rfl dX_cut_43 ((h (hok _ (List.mem_of_getElem? (i := 0) rfl)) (hok _ (List.mem_of_getElem? (i := 1) rfl))).1 c1)), fun k1 c1a c1b c1 => match k1, c1 with | 0, c1 => ⟨27, 28, rfl, by decide, L_lload_n dX_cut_28 rfl (L_l2i dX_cut_29 (L_i2b dX_cut_30 (L_i2l dX_cut_31 (L_lreturn rfl dX_cut_32 ((h (hok _ (List.mem_of_getElem? (i := 0) rfl)) (hok _ (List.mem_of_getElem? (i := 1) rfl))).2.1 (by omega))))))⟩ | 1, c1 => ⟨32, 33, rfl, by decide, L_lload_n dX_cut_33 rfl (L_l2i dX_cut_34 (L_i2s dX_cut_35 (L_i2l dX_cut_36 (L_lreturn rfl dX_cut_37 ((h (hok _ (List.mem_of_getElem? (i := 0) rfl)) (hok _ (List.mem_of_getElem? (i := 1) rfl))).2.2.1 (by omega))))))⟩ | 2, c1 => ⟨37, 38, rfl, by decide, L_lload_n dX_cut_38 rfl (L_l2i dX_cut_39 (L_i2l dX_cut_40 (L_lreturn rfl dX_cut_41 ((h (hok _ (List.mem_of_getElem? (i := 0) rfl)) (hok _ (List.mem_of_getElem? (i := 1) rfl))).2.2.2 (by omega)))))⟩ | (n + 3), c1 => absurd c1b (by omega)⟩))
theorem dX_gather_0 : decode prog_1_method_65_code 0 = .ok (.iload_n 2, 1) := by decide +kernel
theorem dX_gather_1 : decode prog_1_method_65_code 1 = .ok (.aload_n 0, 1) := by decide +kernel
theorem dX_gather_2 : decode prog_1_method_65_code 2 = .ok (.getfield 25, 3) := by decide +kernel
theorem dX_gather_5 : decode prog_1_method_65_code 5 = .ok (.iload_n 1, 1) := by decide +kernel
theorem dX_gather_6 : decode prog_1_method_65_code 6 = .ok (.iaload, 1) := by decide +kernel
theorem dX_gather_7 : decode prog_1_method_65_code 7 = .ok (.if_icmp .le 5, 3) := by decide +kernel
theorem dX_gather_10 : decode prog_1_method_65_code 10 = .ok (.iconst 4, 1) := by decide +kernel
theorem dX_gather_11 : decode prog_1_method_65_code 11 = .ok (.ireturn, 1) := by decide +kernel
theorem dX_gather_12 : decode prog_1_method_65_code 12 = .ok (.aload_n 0, 1) := by decide +kernel
theorem dX_gather_13 : decode prog_1_method_65_code 13 = .ok (.getfield 37, 3) := by decide +kernel
theorem dX_gather_16 : decode prog_1_method_65_code 16 = .ok (.getfield 156, 3) := by decide +kernel
theorem dX_gather_19 : decode prog_1_method_65_code 19 = .ok (.astore_n 3, 1) := by decide +kernel
theorem dX_gather_20 : decode prog_1_method_65_code 20 = .ok (.aload_n 0, 1) := by decide +kernel
theorem dX_gather_21 : decode prog_1_method_65_code 21 = .ok (.getfield 60, 3) := by decide +kernel
theorem dX_gather_24 : decode prog_1_method_65_code 24 = .ok (.aload_n 3, 1) := by decide +kernel
theorem dX_gather_25 : decode prog_1_method_65_code 25 = .ok (.getfield 195, 3) := by decide +kernel
theorem dX_gather_28 : decode prog_1_method_65_code 28 = .ok (.aload_n 3, 1) := by decide +kernel
theorem dX_gather_29 : decode prog_1_method_65_code 29 = .ok (.getfield 170, 3) := by decide +kernel
theorem dX_gather_32 : decode prog_1_method_65_code 32 = .ok (.invokevirtual 402, 3) := by decide +kernel
theorem dX_gather_35 : decode prog_1_method_65_code 35 = .ok (.iconst 0, 1) := by decide +kernel
theorem dX_gather_36 : decode prog_1_method_65_code 36 = .ok (.istore 4, 2) := by decide +kernel
theorem dX_gather_38 : decode prog_1_method_65_code 38 = .ok (.iload 4, 2) := by decide +kernel
theorem dX_gather_40 : decode prog_1_method_65_code 40 = .ok (.iload_n 2, 1) := by decide +kernel
theorem dX_gather_41 : decode prog_1_method_65_code 41 = .ok (.if_icmp .ge 59, 3) := by decide +kernel
theorem dX_gather_44 : decode prog_1_method_65_code 44 = .ok (.aload_n 0, 1) := by decide +kernel
theorem dX_gather_45 : decode prog_1_method_65_code 45 = .ok (.getfield 17, 3) := by decide +kernel
theorem dX_gather_48 : decode prog_1_method_65_code 48 = .ok (.iload_n 1, 1) := by decide +kernel
theorem dX_gather_49 : decode prog_1_method_65_code 49 = .ok (.bipush 60, 2) := by decide +kernel
theorem dX_gather_51 : decode prog_1_method_65_code 51 = .ok (.imul, 1) := by decide +kernel
theorem dX_gather_52 : decode prog_1_method_65_code 52 = .ok (.iload 4, 2) := by decide +kernel
theorem dX_gather_54 : decode prog_1_method_65_code 54 = .ok (.iadd, 1) := by decide +kernel
theorem dX_gather_55 : decode prog_1_method_65_code 55 = .ok (.laload, 1) := by decide +kernel
theorem dX_gather_56 : decode prog_1_method_65_code 56 = .ok (.lstore 5, 2) := by decide +kernel
theorem dX_gather_58 : decode prog_1_method_65_code 58 = .ok (.aload_n 0, 1) := by decide +kernel
theorem dX_gather_59 : decode prog_1_method_65_code 59 = .ok (.lload 5, 2) := by decide +kernel
theorem dX_gather_61 : decode prog_1_method_65_code 61 = .ok (.invokevirtual 216, 3) := by decide +kernel
theorem dX_gather_64 : decode prog_1_method_65_code 64 = .ok (.ifCond .ne 5, 3) := by decide +kernel
theorem dX_gather_67 : decode prog_1_method_65_code 67 = .ok (.iconst 5, 1) := by decide +kernel
theorem dX_gather_68 : decode prog_1_method_65_code 68 = .ok (.ireturn, 1) := by decide +kernel
theorem dX_gather_69 : decode prog_1_method_65_code 69 = .ok (.aload_n 3, 1) := by decide +kernel
theorem dX_gather_70 : decode prog_1_method_65_code 70 = .ok (.lload 5, 2) := by decide +kernel
theorem dX_gather_72 : decode prog_1_method_65_code 72 = .ok (.l2i, 1) := by decide +kernel
theorem dX_gather_73 : decode prog_1_method_65_code 73 = .ok (.aload_n 0, 1) := by decide +kernel
theorem dX_gather_74 : decode prog_1_method_65_code 74 = .ok (.getfield 31, 3) := by decide +kernel
theorem dX_gather_77 : decode prog_1_method_65_code 77 = .ok (.iconst 0, 1) := by decide +kernel
theorem dX_gather_78 : decode prog_1_method_65_code 78 = .ok (.invokevirtual 220, 3) := by decide +kernel
theorem dX_gather_81 : decode prog_1_method_65_code 81 = .ok (.aload_n 0, 1) := by decide +kernel
theorem dX_gather_82 : decode prog_1_method_65_code 82 = .ok (.getfield 60, 3) := by decide +kernel
theorem dX_gather_85 : decode prog_1_method_65_code 85 = .ok (.aload_n 0, 1) := by decide +kernel
theorem dX_gather_86 : decode prog_1_method_65_code 86 = .ok (.getfield 31, 3) := by decide +kernel
theorem dX_gather_89 : decode prog_1_method_65_code 89 = .ok (.iconst 0, 1) := by decide +kernel
theorem dX_gather_90 : decode prog_1_method_65_code 90 = .ok (.invokevirtual 405, 3) := by decide +kernel
theorem dX_gather_93 : decode prog_1_method_65_code 93 = .ok (.pop, 1) := by decide +kernel
theorem dX_gather_94 : decode prog_1_method_65_code 94 = .ok (.iinc 4 1, 3) := by decide +kernel
theorem dX_gather_97 : decode prog_1_method_65_code 97 = .ok (.goto (-59), 3) := by decide +kernel
theorem dX_gather_100 : decode prog_1_method_65_code 100 = .ok (.iconst 0, 1) := by decide +kernel
theorem dX_gather_101 : decode prog_1_method_65_code 101 = .ok (.ireturn, 1) := by decide +kernel
theorem t_X_gather {d : Nat} {x1 x2 : Int} {σ : SG} {Q : Int → SG → Prop} (h : inI x1 → inI x2 → ((0 ≤ x1 ∧ x1 < 4) ∧ (x2 ≤ σ 3 x1 → Tri d M_Ec_begin [vA 39, vI (σ 7 1), vI (σ 7 2)] σ (fun r2 σ2 => L (d + 1) M_X_gather 38 [vA 0, vI x1, vI x2, vA 7, vI 0, vU, vU] [] σ2 Q)) ∧ (σ 3 x1 < x2 → Q 4 σ))) : Tri (d + 1) M_X_gather [vA 0, vI x1, vI x2] σ Q :=
  Tri_intro rfl (Nat.le_of_ble_eq_true rfl) (ls := [vA 0, vI x1, vI x2, vU, vU, vU, vU]) rfl (fun hok => L_iload_n dX_gather_0 rfl (L_aload_n dX_gather_1 rfl (L_getF (b := 3) fw_X_25 rfl rfl (by decide) dX_gather_2 ⟨ob_0, L_iload_n dX_gather_5 rfl (L_ialoadL kd_3 dX_gather_6 ⟨(h (hok _ (List.mem_of_getElem? (i := 1) rfl)) (hok _ (List.mem_of_getElem? (i := 2) rfl))).1, L_icmp_le dX_gather_7 (by decide) ⟨fun c1 => L_aload_n dX_gather_12 rfl (L_getF (b := 6) fw_X_37 rfl rfl (by decide) dX_gather_13 ⟨ob_0, L_getF (b := 7) fw_X_156 rfl rfl (by decide) dX_gather_16 ⟨ob_6, L_astore_n dX_gather_19 (by decide) (by omega) (L_aload_n dX_gather_20 rfl (L_getF (b := 39) fw_X_60 rfl rfl (by decide) dX_gather_21 ⟨ob_0, L_aload_n dX_gather_24 rfl (L_getf fw_X_195 rfl dX_gather_25 ⟨ob_7, L_aload_n dX_gather_28 rfl (L_getf fw_X_170 rfl dX_gather_29 ⟨ob_7, L_callVV rfl cv_Ec_begin (As := [vI (σ 7 1), vI (σ 7 2)]) rfl (tk4 142 rfl rfl) rfl (Nat.le_of_ble_eq_true rfl) dX_gather_32 ⟨ob_39, Tri.mono ((h (hok _ (List.mem_of_getElem? (i := 1) rfl)) (hok _ (List.mem_of_getElem? (i := 2) rfl))).2.1 c1) (fun r2 σ2 q2 => L_iconst dX_gather_35 in_0 (L_istore dX_gather_36 (by decide) q2))⟩⟩)⟩)⟩))⟩⟩), fun c1 => L_iconst dX_gather_10 in_4 (L_ireturn rfl dX_gather_11 ((h (hok _ (List.mem_of_getElem? (i := 1) rfl)) (hok _ (List.mem_of_getElem? (i := 2) rfl))).2.2 c1))⟩⟩)⟩)))
theorem s_X_gather_38 {d : Nat} {x1 x2 x3 x4 : Int} {σ : SG} {Q : Int → SG → Prop} (h : (x2 ≤ x4 → Q 0 σ) ∧ (x4 < x2 → (0 ≤ w32 ((w32 (x1 * 60)) + x4) ∧ w32 ((w32 (x1 * 60)) + x4) < 240) ∧ Tri d M_X_isVector [vA 0, vJ (σ 1 (w32 ((w32 (x1 * 60)) + x4)))] σ (fun r2 σ2 => (r2 ≠ 0 → obok 10 x3 ∧ Tri d M_Wd_unpack [vA x3, vI (w32 (σ 1 (w32 ((w32 (x1 * 60)) + x4)))), vA 5, vI 0] σ2 (fun r4 σ4 => Tri d M_Ec_add [vA 39, vA 5, vI 0] σ4 (fun r5 σ5 => L (d + 1) M_X_gather 38 [vA 0, vI x1, vI x2, vA x3, vI (w32 (x4 + 1)), vU, vU] [] σ5 Q))) ∧ (r2 = 0 → Q 5 σ2)))) : L (d + 1) M_X_gather 38 [vA 0, vI x1, vI x2, vA x3, vI x4, vU, vU] [] σ Q :=
  L_iload dX_gather_38 rfl (L_iload_n dX_gather_40 rfl (L_icmp_ge dX_gather_41 (by decide) ⟨fun c1 => L_iconst dX_gather_100 in_0 (L_ireturn rfl dX_gather_101 (h.1 c1)), fun c1 => L_aload_n dX_gather_44 rfl (L_getF (b := 1) fw_X_17 rfl rfl (by decide) dX_gather_45 ⟨ob_0, L_iload_n dX_gather_48 rfl (L_bipush dX_gather_49 bp_60 in_60 (L_imul dX_gather_51 (L_iload dX_gather_52 rfl (L_iadd dX_gather_54 (L_laloadL kd_1 dX_gather_55 ⟨(h.2 c1).1, L_lstore dX_gather_56 (by decide) (L_aload_n dX_gather_58 rfl (L_lload dX_gather_59 rfl (L_callVI rfl cv_X_isVector (As := [vJ (σ 1 (w32 ((w32 (x1 * 60)) + x4)))]) rfl (tk4 71 rfl rfl) rfl (Nat.le_of_ble_eq_true rfl) dX_gather_61 ⟨ob_0, Tri.mono ((h.2 c1).2) (fun r2 σ2 q2 => L_if_ne dX_gather_64 (by decide) ⟨fun c3 => L_aload_n dX_gather_69 rfl (L_lload dX_gather_70 rfl (L_l2i dX_gather_72 (L_aload_n dX_gather_73 rfl (L_getF (b := 5) fw_X_31 rfl rfl (by decide) dX_gather_74 ⟨ob_0, L_iconst dX_gather_77 in_0 (L_callVV rfl cv_Wd_unpack (As := [vI (w32 (σ 1 (w32 ((w32 (x1 * 60)) + x4)))), vA 5, vI 0]) rfl (tk4 82 rfl rfl) rfl (Nat.le_of_ble_eq_true rfl) dX_gather_78 ⟨(q2.1 c3).1, Tri.mono ((q2.1 c3).2) (fun r4 σ4 q4 => L_aload_n dX_gather_81 rfl (L_getF (b := 39) fw_X_60 rfl rfl (by decide) dX_gather_82 ⟨ob_0, L_aload_n dX_gather_85 rfl (L_getF (b := 5) fw_X_31 rfl rfl (by decide) dX_gather_86 ⟨ob_0, L_iconst dX_gather_89 in_0 (L_callVI rfl cv_Ec_add (As := [vA 5, vI 0]) rfl (tk4 146 rfl rfl) rfl (Nat.le_of_ble_eq_true rfl) dX_gather_90 ⟨ob_39, Tri.mono q4 (fun r5 σ5 q5 => L_pop dX_gather_93 n01 (L_iinc dX_gather_94 rfl (by decide) (L_goto dX_gather_97 (by decide) (L_weak [true, true, true, true, true, false, true] q5))))⟩)⟩)⟩))⟩)⟩)))), fun c3 => L_iconst dX_gather_67 in_5 (L_ireturn rfl dX_gather_68 (q2.2 c3))⟩)⟩)))⟩)))))⟩)⟩))
theorem dX_givenTrouble_0 : decode prog_1_method_66_code 0 = .ok (.aload_n 0, 1) := by decide +kernel
theorem dX_givenTrouble_1 : decode prog_1_method_66_code 1 = .ok (.iload_n 1, 1) := by decide +kernel
theorem dX_givenTrouble_2 : decode prog_1_method_66_code 2 = .ok (.invokevirtual 245, 3) := by decide +kernel
theorem dX_givenTrouble_5 : decode prog_1_method_66_code 5 = .ok (.istore_n 3, 1) := by decide +kernel
theorem dX_givenTrouble_6 : decode prog_1_method_66_code 6 = .ok (.iload_n 3, 1) := by decide +kernel
theorem dX_givenTrouble_7 : decode prog_1_method_66_code 7 = .ok (.ifCond .ne 16, 3) := by decide +kernel
theorem dX_givenTrouble_10 : decode prog_1_method_66_code 10 = .ok (.iload_n 2, 1) := by decide +kernel
theorem dX_givenTrouble_11 : decode prog_1_method_66_code 11 = .ok (.iconst 1, 1) := by decide +kernel
theorem dX_givenTrouble_12 : decode prog_1_method_66_code 12 = .ok (.if_icmp .lt 9, 3) := by decide +kernel
theorem dX_givenTrouble_15 : decode prog_1_method_66_code 15 = .ok (.iload_n 2, 1) := by decide +kernel
theorem dX_givenTrouble_16 : decode prog_1_method_66_code 16 = .ok (.bipush 20, 2) := by decide +kernel
theorem dX_givenTrouble_18 : decode prog_1_method_66_code 18 = .ok (.if_icmp .le 5, 3) := by decide +kernel
theorem dX_givenTrouble_21 : decode prog_1_method_66_code 21 = .ok (.iconst 5, 1) := by decide +kernel
theorem dX_givenTrouble_22 : decode prog_1_method_66_code 22 = .ok (.istore_n 3, 1) := by decide +kernel
theorem dX_givenTrouble_23 : decode prog_1_method_66_code 23 = .ok (.iload_n 3, 1) := by decide +kernel
theorem dX_givenTrouble_24 : decode prog_1_method_66_code 24 = .ok (.ifCond .ne 12, 3) := by decide +kernel
theorem dX_givenTrouble_27 : decode prog_1_method_66_code 27 = .ok (.aload_n 0, 1) := by decide +kernel
theorem dX_givenTrouble_28 : decode prog_1_method_66_code 28 = .ok (.iload_n 1, 1) := by decide +kernel
theorem dX_givenTrouble_29 : decode prog_1_method_66_code 29 = .ok (.iload_n 2, 1) := by decide +kernel
theorem dX_givenTrouble_30 : decode prog_1_method_66_code 30 = .ok (.invokevirtual 248, 3) := by decide +kernel
theorem dX_givenTrouble_33 : decode prog_1_method_66_code 33 = .ok (.goto 4, 3) := by decide +kernel
theorem dX_givenTrouble_36 : decode prog_1_method_66_code 36 = .ok (.iload_n 3, 1) := by decide +kernel
theorem dX_givenTrouble_37 : decode prog_1_method_66_code 37 = .ok (.ireturn, 1) := by decide +kernel
theorem t_X_givenTrouble {d : Nat} {x1 x2 : Int} {σ : SG} {Q : Int → SG → Prop} (h : inI x1 → inI x2 → (Tri d M_X_trayTrouble [vA 0, vI x1] σ (fun r1 σ1 => (r1 ≠ 0 → (r1 ≠ 0 → Q r1 σ1) ∧ (r1 = 0 → Tri d M_X_gather [vA 0, vI x1, vI x2] σ1 (fun r4 σ4 => Q r4 σ4))) ∧ (r1 = 0 → (x2 < 1 → ((5 : Int) ≠ 0 → Q 5 σ1) ∧ ((5 : Int) = 0 → Tri d M_X_gather [vA 0, vI x1, vI x2] σ1 (fun r7 σ7 => Q r7 σ7))) ∧ (1 ≤ x2 → (x2 ≤ 20 → (r1 ≠ 0 → Q r1 σ1) ∧ (r1 = 0 → Tri d M_X_gather [vA 0, vI x1, vI x2] σ1 (fun r10 σ10 => Q r10 σ10))) ∧ (20 < x2 → ((5 : Int) ≠ 0 → Q 5 σ1) ∧ ((5 : Int) = 0 → Tri d M_X_gather [vA 0, vI x1, vI x2] σ1 (fun r12 σ12 => Q r12 σ12)))))))) : Tri (d + 1) M_X_givenTrouble [vA 0, vI x1, vI x2] σ Q :=
  Tri_intro rfl (Nat.le_of_ble_eq_true rfl) (ls := [vA 0, vI x1, vI x2, vU]) rfl (fun hok => L_aload_n dX_givenTrouble_0 rfl (L_iload_n dX_givenTrouble_1 rfl (L_callVI rfl cv_X_trayTrouble (As := [vI x1]) rfl (tk3 27 rfl rfl) rfl (Nat.le_of_ble_eq_true rfl) dX_givenTrouble_2 ⟨ob_0, Tri.mono ((h (hok _ (List.mem_of_getElem? (i := 1) rfl)) (hok _ (List.mem_of_getElem? (i := 2) rfl)))) (fun r1 σ1 q1 => L_istore_n dX_givenTrouble_5 (by decide) (L_iload_n dX_givenTrouble_6 rfl (L_if_ne dX_givenTrouble_7 (by decide) ⟨fun c2 => L_iload_n dX_givenTrouble_23 rfl (L_if_ne dX_givenTrouble_24 (by decide) ⟨fun c3 => L_iload_n dX_givenTrouble_36 rfl (L_ireturn rfl dX_givenTrouble_37 ((q1.1 c2).1 c3)), fun c3 => L_aload_n dX_givenTrouble_27 rfl (L_iload_n dX_givenTrouble_28 rfl (L_iload_n dX_givenTrouble_29 rfl (L_callVI rfl cv_X_gather (As := [vI x1, vI x2]) rfl (tk4 138 rfl rfl) rfl (Nat.le_of_ble_eq_true rfl) dX_givenTrouble_30 ⟨ob_0, Tri.mono ((q1.1 c2).2 c3) (fun r4 σ4 q4 => L_goto dX_givenTrouble_33 (by decide) (L_ireturn rfl dX_givenTrouble_37 q4))⟩)))⟩), fun c2 => L_iload_n dX_givenTrouble_10 rfl (L_iconst dX_givenTrouble_11 in_1 (L_icmp_lt dX_givenTrouble_12 (by decide) ⟨fun c5 => L_iconst dX_givenTrouble_21 in_5 (L_istore_n dX_givenTrouble_22 (by decide) (L_iload_n dX_givenTrouble_23 rfl (L_if_ne dX_givenTrouble_24 (by decide) ⟨fun c6 => L_iload_n dX_givenTrouble_36 rfl (L_ireturn rfl dX_givenTrouble_37 (((q1.2 c2).1 c5).1 c6)), fun c6 => L_aload_n dX_givenTrouble_27 rfl (L_iload_n dX_givenTrouble_28 rfl (L_iload_n dX_givenTrouble_29 rfl (L_callVI rfl cv_X_gather (As := [vI x1, vI x2]) rfl (tk4 138 rfl rfl) rfl (Nat.le_of_ble_eq_true rfl) dX_givenTrouble_30 ⟨ob_0, Tri.mono (((q1.2 c2).1 c5).2 c6) (fun r7 σ7 q7 => L_goto dX_givenTrouble_33 (by decide) (L_ireturn rfl dX_givenTrouble_37 q7))⟩)))⟩))), fun c5 => L_iload_n dX_givenTrouble_15 rfl (L_bipush dX_givenTrouble_16 bp_20 in_20 (L_icmp_le dX_givenTrouble_18 (by decide) ⟨fun c8 => L_iload_n dX_givenTrouble_23 rfl (L_if_ne dX_givenTrouble_24 (by decide) ⟨fun c9 => L_iload_n dX_givenTrouble_36 rfl (L_ireturn rfl dX_givenTrouble_37 ((((q1.2 c2).2 c5).1 c8).1 c9)), fun c9 => L_aload_n dX_givenTrouble_27 rfl (L_iload_n dX_givenTrouble_28 rfl (L_iload_n dX_givenTrouble_29 rfl (L_callVI rfl cv_X_gather (As := [vI x1, vI x2]) rfl (tk4 138 rfl rfl) rfl (Nat.le_of_ble_eq_true rfl) dX_givenTrouble_30 ⟨ob_0, Tri.mono ((((q1.2 c2).2 c5).1 c8).2 c9) (fun r10 σ10 q10 => L_goto dX_givenTrouble_33 (by decide) (L_ireturn rfl dX_givenTrouble_37 q10))⟩)))⟩), fun c8 => L_iconst dX_givenTrouble_21 in_5 (L_istore_n dX_givenTrouble_22 (by decide) (L_iload_n dX_givenTrouble_23 rfl (L_if_ne dX_givenTrouble_24 (by decide) ⟨fun c11 => L_iload_n dX_givenTrouble_36 rfl (L_ireturn rfl dX_givenTrouble_37 ((((q1.2 c2).2 c5).2 c8).1 c11)), fun c11 => L_aload_n dX_givenTrouble_27 rfl (L_iload_n dX_givenTrouble_28 rfl (L_iload_n dX_givenTrouble_29 rfl (L_callVI rfl cv_X_gather (As := [vI x1, vI x2]) rfl (tk4 138 rfl rfl) rfl (Nat.le_of_ble_eq_true rfl) dX_givenTrouble_30 ⟨ob_0, Tri.mono ((((q1.2 c2).2 c5).2 c8).2 c11) (fun r12 σ12 q12 => L_goto dX_givenTrouble_33 (by decide) (L_ireturn rfl dX_givenTrouble_37 q12))⟩)))⟩)))⟩))⟩))⟩)))⟩)))
theorem dX_gatherNumbers_0 : decode prog_1_method_67_code 0 = .ok (.iload_n 2, 1) := by decide +kernel
theorem dX_gatherNumbers_1 : decode prog_1_method_67_code 1 = .ok (.aload_n 0, 1) := by decide +kernel
theorem dX_gatherNumbers_2 : decode prog_1_method_67_code 2 = .ok (.getfield 25, 3) := by decide +kernel
theorem dX_gatherNumbers_5 : decode prog_1_method_67_code 5 = .ok (.iload_n 1, 1) := by decide +kernel
theorem dX_gatherNumbers_6 : decode prog_1_method_67_code 6 = .ok (.iaload, 1) := by decide +kernel
theorem dX_gatherNumbers_7 : decode prog_1_method_67_code 7 = .ok (.if_icmp .gt 12, 3) := by decide +kernel
theorem dX_gatherNumbers_10 : decode prog_1_method_67_code 10 = .ok (.iload_n 2, 1) := by decide +kernel
theorem dX_gatherNumbers_11 : decode prog_1_method_67_code 11 = .ok (.aload_n 0, 1) := by decide +kernel
theorem dX_gatherNumbers_12 : decode prog_1_method_67_code 12 = .ok (.getfield 28, 3) := by decide +kernel
theorem dX_gatherNumbers_15 : decode prog_1_method_67_code 15 = .ok (.arraylength, 1) := by decide +kernel
theorem dX_gatherNumbers_16 : decode prog_1_method_67_code 16 = .ok (.if_icmp .le 5, 3) := by decide +kernel
theorem dX_gatherNumbers_19 : decode prog_1_method_67_code 19 = .ok (.iconst 4, 1) := by decide +kernel
theorem dX_gatherNumbers_20 : decode prog_1_method_67_code 20 = .ok (.ireturn, 1) := by decide +kernel
theorem dX_gatherNumbers_21 : decode prog_1_method_67_code 21 = .ok (.iconst 0, 1) := by decide +kernel
theorem dX_gatherNumbers_22 : decode prog_1_method_67_code 22 = .ok (.istore 5, 2) := by decide +kernel
theorem dX_gatherNumbers_24 : decode prog_1_method_67_code 24 = .ok (.iload 5, 2) := by decide +kernel
theorem dX_gatherNumbers_26 : decode prog_1_method_67_code 26 = .ok (.iload_n 2, 1) := by decide +kernel
theorem dX_gatherNumbers_27 : decode prog_1_method_67_code 27 = .ok (.if_icmp .ge 52, 3) := by decide +kernel
theorem dX_gatherNumbers_30 : decode prog_1_method_67_code 30 = .ok (.aload_n 0, 1) := by decide +kernel
theorem dX_gatherNumbers_31 : decode prog_1_method_67_code 31 = .ok (.getfield 17, 3) := by decide +kernel
theorem dX_gatherNumbers_34 : decode prog_1_method_67_code 34 = .ok (.iload_n 1, 1) := by decide +kernel
theorem dX_gatherNumbers_35 : decode prog_1_method_67_code 35 = .ok (.bipush 60, 2) := by decide +kernel
theorem dX_gatherNumbers_37 : decode prog_1_method_67_code 37 = .ok (.imul, 1) := by decide +kernel
theorem dX_gatherNumbers_38 : decode prog_1_method_67_code 38 = .ok (.iload 5, 2) := by decide +kernel
theorem dX_gatherNumbers_40 : decode prog_1_method_67_code 40 = .ok (.iadd, 1) := by decide +kernel
theorem dX_gatherNumbers_41 : decode prog_1_method_67_code 41 = .ok (.laload, 1) := by decide +kernel
theorem dX_gatherNumbers_42 : decode prog_1_method_67_code 42 = .ok (.lstore 6, 2) := by decide +kernel
theorem dX_gatherNumbers_44 : decode prog_1_method_67_code 44 = .ok (.lload 6, 2) := by decide +kernel
theorem dX_gatherNumbers_46 : decode prog_1_method_67_code 46 = .ok (.iload_n 3, 1) := by decide +kernel
theorem dX_gatherNumbers_47 : decode prog_1_method_67_code 47 = .ok (.i2l, 1) := by decide +kernel
theorem dX_gatherNumbers_48 : decode prog_1_method_67_code 48 = .ok (.lcmp, 1) := by decide +kernel
theorem dX_gatherNumbers_49 : decode prog_1_method_67_code 49 = .ok (.ifCond .lt 12, 3) := by decide +kernel
theorem dX_gatherNumbers_52 : decode prog_1_method_67_code 52 = .ok (.lload 6, 2) := by decide +kernel
theorem dX_gatherNumbers_54 : decode prog_1_method_67_code 54 = .ok (.iload 4, 2) := by decide +kernel
theorem dX_gatherNumbers_56 : decode prog_1_method_67_code 56 = .ok (.i2l, 1) := by decide +kernel
theorem dX_gatherNumbers_57 : decode prog_1_method_67_code 57 = .ok (.lcmp, 1) := by decide +kernel
theorem dX_gatherNumbers_58 : decode prog_1_method_67_code 58 = .ok (.ifCond .le 5, 3) := by decide +kernel
theorem dX_gatherNumbers_61 : decode prog_1_method_67_code 61 = .ok (.iconst 5, 1) := by decide +kernel
theorem dX_gatherNumbers_62 : decode prog_1_method_67_code 62 = .ok (.ireturn, 1) := by decide +kernel
theorem dX_gatherNumbers_63 : decode prog_1_method_67_code 63 = .ok (.aload_n 0, 1) := by decide +kernel
theorem dX_gatherNumbers_64 : decode prog_1_method_67_code 64 = .ok (.getfield 28, 3) := by decide +kernel
theorem dX_gatherNumbers_67 : decode prog_1_method_67_code 67 = .ok (.iload 5, 2) := by decide +kernel
theorem dX_gatherNumbers_69 : decode prog_1_method_67_code 69 = .ok (.lload 6, 2) := by decide +kernel
theorem dX_gatherNumbers_71 : decode prog_1_method_67_code 71 = .ok (.l2i, 1) := by decide +kernel
theorem dX_gatherNumbers_72 : decode prog_1_method_67_code 72 = .ok (.iastore, 1) := by decide +kernel
theorem dX_gatherNumbers_73 : decode prog_1_method_67_code 73 = .ok (.iinc 5 1, 3) := by decide +kernel
theorem dX_gatherNumbers_76 : decode prog_1_method_67_code 76 = .ok (.goto (-52), 3) := by decide +kernel
theorem dX_gatherNumbers_79 : decode prog_1_method_67_code 79 = .ok (.iconst 0, 1) := by decide +kernel
theorem dX_gatherNumbers_80 : decode prog_1_method_67_code 80 = .ok (.ireturn, 1) := by decide +kernel
theorem t_X_gatherNumbers {d : Nat} {x1 x2 x3 x4 : Int} {σ : SG} {Q : Int → SG → Prop} (h : inI x1 → inI x2 → inI x3 → inI x4 → ((0 ≤ x1 ∧ x1 < 4) ∧ (σ 3 x1 < x2 → Q 4 σ) ∧ (x2 ≤ σ 3 x1 → (x2 ≤ 25 → L (d + 1) M_X_gatherNumbers 24 [vA 0, vI x1, vI x2, vI x3, vI x4, vI 0, vU, vU] [] σ Q) ∧ (25 < x2 → Q 4 σ)))) : Tri (d + 1) M_X_gatherNumbers [vA 0, vI x1, vI x2, vI x3, vI x4] σ Q :=
  Tri_intro rfl (Nat.le_of_ble_eq_true rfl) (ls := [vA 0, vI x1, vI x2, vI x3, vI x4, vU, vU, vU]) rfl (fun hok => L_iload_n dX_gatherNumbers_0 rfl (L_aload_n dX_gatherNumbers_1 rfl (L_getF (b := 3) fw_X_25 rfl rfl (by decide) dX_gatherNumbers_2 ⟨ob_0, L_iload_n dX_gatherNumbers_5 rfl (L_ialoadL kd_3 dX_gatherNumbers_6 ⟨(h (hok _ (List.mem_of_getElem? (i := 1) rfl)) (hok _ (List.mem_of_getElem? (i := 2) rfl)) (hok _ (List.mem_of_getElem? (i := 3) rfl)) (hok _ (List.mem_of_getElem? (i := 4) rfl))).1, L_icmp_gt dX_gatherNumbers_7 (by decide) ⟨fun c1 => L_iconst dX_gatherNumbers_19 in_4 (L_ireturn rfl dX_gatherNumbers_20 ((h (hok _ (List.mem_of_getElem? (i := 1) rfl)) (hok _ (List.mem_of_getElem? (i := 2) rfl)) (hok _ (List.mem_of_getElem? (i := 3) rfl)) (hok _ (List.mem_of_getElem? (i := 4) rfl))).2.1 c1)), fun c1 => L_iload_n dX_gatherNumbers_10 rfl (L_aload_n dX_gatherNumbers_11 rfl (L_getF (b := 4) fw_X_28 rfl rfl (by decide) dX_gatherNumbers_12 ⟨ob_0, L_alenL (by decide) kd_4 dX_gatherNumbers_15 (L_icmp_le dX_gatherNumbers_16 (by decide) ⟨fun c2 => L_iconst dX_gatherNumbers_21 in_0 (L_istore dX_gatherNumbers_22 (by decide) (((h (hok _ (List.mem_of_getElem? (i := 1) rfl)) (hok _ (List.mem_of_getElem? (i := 2) rfl)) (hok _ (List.mem_of_getElem? (i := 3) rfl)) (hok _ (List.mem_of_getElem? (i := 4) rfl))).2.2 c1).1 c2)), fun c2 => L_iconst dX_gatherNumbers_19 in_4 (L_ireturn rfl dX_gatherNumbers_20 (((h (hok _ (List.mem_of_getElem? (i := 1) rfl)) (hok _ (List.mem_of_getElem? (i := 2) rfl)) (hok _ (List.mem_of_getElem? (i := 3) rfl)) (hok _ (List.mem_of_getElem? (i := 4) rfl))).2.2 c1).2 c2))⟩)⟩))⟩⟩)⟩)))
theorem s_X_gatherNumbers_24 {d : Nat} {x1 x2 x3 x4 x5 : Int} {σ : SG} {Q : Int → SG → Prop} (h : (x2 ≤ x5 → Q 0 σ) ∧ (x5 < x2 → (0 ≤ w32 ((w32 (x1 * 60)) + x5) ∧ w32 ((w32 (x1 * 60)) + x5) < 240) ∧ (cmp3 (σ 1 (w32 ((w32 (x1 * 60)) + x5))) x3 < 0 → Q 5 σ) ∧ (0 ≤ cmp3 (σ 1 (w32 ((w32 (x1 * 60)) + x5))) x3 → (cmp3 (σ 1 (w32 ((w32 (x1 * 60)) + x5))) x4 ≤ 0 → (0 ≤ x5 ∧ x5 < 25) ∧ (∀ σ4, σ4 = up σ 4 x5 (w32 (σ 1 (w32 ((w32 (x1 * 60)) + x5)))) → L (d + 1) M_X_gatherNumbers 24 [vA 0, vI x1, vI x2, vI x3, vI x4, vI (w32 (x5 + 1)), vU, vU] [] σ4 Q)) ∧ (0 < cmp3 (σ 1 (w32 ((w32 (x1 * 60)) + x5))) x4 → Q 5 σ)))) : L (d + 1) M_X_gatherNumbers 24 [vA 0, vI x1, vI x2, vI x3, vI x4, vI x5, vU, vU] [] σ Q :=
  L_iload dX_gatherNumbers_24 rfl (L_iload_n dX_gatherNumbers_26 rfl (L_icmp_ge dX_gatherNumbers_27 (by decide) ⟨fun c1 => L_iconst dX_gatherNumbers_79 in_0 (L_ireturn rfl dX_gatherNumbers_80 (h.1 c1)), fun c1 => L_aload_n dX_gatherNumbers_30 rfl (L_getF (b := 1) fw_X_17 rfl rfl (by decide) dX_gatherNumbers_31 ⟨ob_0, L_iload_n dX_gatherNumbers_34 rfl (L_bipush dX_gatherNumbers_35 bp_60 in_60 (L_imul dX_gatherNumbers_37 (L_iload dX_gatherNumbers_38 rfl (L_iadd dX_gatherNumbers_40 (L_laloadL kd_1 dX_gatherNumbers_41 ⟨(h.2 c1).1, L_lstore dX_gatherNumbers_42 (by decide) (L_lload dX_gatherNumbers_44 rfl (L_iload_n dX_gatherNumbers_46 rfl (L_i2l dX_gatherNumbers_47 (L_lcmp dX_gatherNumbers_48 (L_if_lt dX_gatherNumbers_49 (by decide) ⟨fun c2 => L_iconst dX_gatherNumbers_61 in_5 (L_ireturn rfl dX_gatherNumbers_62 ((h.2 c1).2.1 c2)), fun c2 => L_lload dX_gatherNumbers_52 rfl (L_iload dX_gatherNumbers_54 rfl (L_i2l dX_gatherNumbers_56 (L_lcmp dX_gatherNumbers_57 (L_if_le dX_gatherNumbers_58 (by decide) ⟨fun c3 => L_aload_n dX_gatherNumbers_63 rfl (L_getF (b := 4) fw_X_28 rfl rfl (by decide) dX_gatherNumbers_64 ⟨ob_0, L_iload dX_gatherNumbers_67 rfl (L_lload dX_gatherNumbers_69 rfl (L_l2i dX_gatherNumbers_71 (L_iastoreL (by decide) kd_4 dX_gatherNumbers_72 ⟨(((h.2 c1).2.2 c2).1 c3).1, fun σ4 e4 => L_iinc dX_gatherNumbers_73 rfl (by decide) (L_goto dX_gatherNumbers_76 (by decide) (L_weak [true, true, true, true, true, true, false, true] ((((h.2 c1).2.2 c2).1 c3).2 σ4 e4)))⟩)))⟩), fun c3 => L_iconst dX_gatherNumbers_61 in_5 (L_ireturn rfl dX_gatherNumbers_62 (((h.2 c1).2.2 c2).2 c3))⟩))))⟩)))))⟩)))))⟩)⟩))
theorem dX_coupleTrouble_0 : decode prog_1_method_68_code 0 = .ok (.aload_n 0, 1) := by decide +kernel
theorem dX_coupleTrouble_1 : decode prog_1_method_68_code 1 = .ok (.iload_n 1, 1) := by decide +kernel
theorem dX_coupleTrouble_2 : decode prog_1_method_68_code 2 = .ok (.invokevirtual 245, 3) := by decide +kernel
theorem dX_coupleTrouble_5 : decode prog_1_method_68_code 5 = .ok (.istore_n 2, 1) := by decide +kernel
theorem dX_coupleTrouble_6 : decode prog_1_method_68_code 6 = .ok (.iload_n 2, 1) := by decide +kernel
theorem dX_coupleTrouble_7 : decode prog_1_method_68_code 7 = .ok (.ifCond .eq 5, 3) := by decide +kernel
theorem dX_coupleTrouble_10 : decode prog_1_method_68_code 10 = .ok (.iload_n 2, 1) := by decide +kernel
theorem dX_coupleTrouble_11 : decode prog_1_method_68_code 11 = .ok (.ireturn, 1) := by decide +kernel
theorem dX_coupleTrouble_12 : decode prog_1_method_68_code 12 = .ok (.aload_n 0, 1) := by decide +kernel
theorem dX_coupleTrouble_13 : decode prog_1_method_68_code 13 = .ok (.getfield 37, 3) := by decide +kernel
theorem dX_coupleTrouble_16 : decode prog_1_method_68_code 16 = .ok (.getfield 156, 3) := by decide +kernel
theorem dX_coupleTrouble_19 : decode prog_1_method_68_code 19 = .ok (.getfield 170, 3) := by decide +kernel
theorem dX_coupleTrouble_22 : decode prog_1_method_68_code 22 = .ok (.istore_n 3, 1) := by decide +kernel
theorem dX_coupleTrouble_23 : decode prog_1_method_68_code 23 = .ok (.aload_n 0, 1) := by decide +kernel
theorem dX_coupleTrouble_24 : decode prog_1_method_68_code 24 = .ok (.iload_n 1, 1) := by decide +kernel
theorem dX_coupleTrouble_25 : decode prog_1_method_68_code 25 = .ok (.iload_n 3, 1) := by decide +kernel
theorem dX_coupleTrouble_26 : decode prog_1_method_68_code 26 = .ok (.iload_n 3, 1) := by decide +kernel
theorem dX_coupleTrouble_27 : decode prog_1_method_68_code 27 = .ok (.iconst 1, 1) := by decide +kernel
theorem dX_coupleTrouble_28 : decode prog_1_method_68_code 28 = .ok (.isub, 1) := by decide +kernel
theorem dX_coupleTrouble_29 : decode prog_1_method_68_code 29 = .ok (.imul, 1) := by decide +kernel
theorem dX_coupleTrouble_30 : decode prog_1_method_68_code 30 = .ok (.iconst 2, 1) := by decide +kernel
theorem dX_coupleTrouble_31 : decode prog_1_method_68_code 31 = .ok (.idiv, 1) := by decide +kernel
theorem dX_coupleTrouble_32 : decode prog_1_method_68_code 32 = .ok (.iconst 0, 1) := by decide +kernel
theorem dX_coupleTrouble_33 : decode prog_1_method_68_code 33 = .ok (.aload_n 0, 1) := by decide +kernel
theorem dX_coupleTrouble_34 : decode prog_1_method_68_code 34 = .ok (.getfield 37, 3) := by decide +kernel
theorem dX_coupleTrouble_37 : decode prog_1_method_68_code 37 = .ok (.getfield 156, 3) := by decide +kernel
theorem dX_coupleTrouble_40 : decode prog_1_method_68_code 40 = .ok (.getfield 195, 3) := by decide +kernel
theorem dX_coupleTrouble_43 : decode prog_1_method_68_code 43 = .ok (.iconst 1, 1) := by decide +kernel
theorem dX_coupleTrouble_44 : decode prog_1_method_68_code 44 = .ok (.isub, 1) := by decide +kernel
theorem dX_coupleTrouble_45 : decode prog_1_method_68_code 45 = .ok (.invokevirtual 327, 3) := by decide +kernel
theorem dX_coupleTrouble_48 : decode prog_1_method_68_code 48 = .ok (.ireturn, 1) := by decide +kernel
theorem t_X_coupleTrouble {d : Nat} {x1 : Int} {σ : SG} {Q : Int → SG → Prop} (h : inI x1 → (Tri d M_X_trayTrouble [vA 0, vI x1] σ (fun r1 σ1 => (r1 = 0 → Tri d M_X_gatherNumbers [vA 0, vI x1, vI (w32 ((w32 ((σ1 7 2) * (w32 ((σ1 7 2) - 1)))).tdiv 2)), vI 0, vI (w32 ((σ1 7 1) - 1))] σ1 (fun r3 σ3 => Q r3 σ3)) ∧ (r1 ≠ 0 → Q r1 σ1)))) : Tri (d + 1) M_X_coupleTrouble [vA 0, vI x1] σ Q :=
  Tri_intro rfl (Nat.le_of_ble_eq_true rfl) (ls := [vA 0, vI x1, vU, vU]) rfl (fun hok => L_aload_n dX_coupleTrouble_0 rfl (L_iload_n dX_coupleTrouble_1 rfl (L_callVI rfl cv_X_trayTrouble (As := [vI x1]) rfl (tk3 27 rfl rfl) rfl (Nat.le_of_ble_eq_true rfl) dX_coupleTrouble_2 ⟨ob_0, Tri.mono ((h (hok _ (List.mem_of_getElem? (i := 1) rfl)))) (fun r1 σ1 q1 => L_istore_n dX_coupleTrouble_5 (by decide) (L_iload_n dX_coupleTrouble_6 rfl (L_if_eq dX_coupleTrouble_7 (by decide) ⟨fun c2 => L_aload_n dX_coupleTrouble_12 rfl (L_getF (b := 6) fw_X_37 rfl rfl (by decide) dX_coupleTrouble_13 ⟨ob_0, L_getF (b := 7) fw_X_156 rfl rfl (by decide) dX_coupleTrouble_16 ⟨ob_6, L_getf fw_X_170 rfl dX_coupleTrouble_19 ⟨ob_7, L_istore_n dX_coupleTrouble_22 (by decide) (L_aload_n dX_coupleTrouble_23 rfl (L_iload_n dX_coupleTrouble_24 rfl (L_iload_n dX_coupleTrouble_25 rfl (L_iload_n dX_coupleTrouble_26 rfl (L_iconst dX_coupleTrouble_27 in_1 (L_isub dX_coupleTrouble_28 (L_imul dX_coupleTrouble_29 (L_iconst dX_coupleTrouble_30 in_2 (L_idiv dX_coupleTrouble_31 ⟨by decide, L_iconst dX_coupleTrouble_32 in_0 (L_aload_n dX_coupleTrouble_33 rfl (L_getF (b := 6) fw_X_37 rfl rfl (by decide) dX_coupleTrouble_34 ⟨ob_0, L_getF (b := 7) fw_X_156 rfl rfl (by decide) dX_coupleTrouble_37 ⟨ob_6, L_getf fw_X_195 rfl dX_coupleTrouble_40 ⟨ob_7, L_iconst dX_coupleTrouble_43 in_1 (L_isub dX_coupleTrouble_44 (L_callVI rfl cv_X_gatherNumbers (As := [vI x1, vI (w32 ((w32 ((σ1 7 2) * (w32 ((σ1 7 2) - 1)))).tdiv 2)), vI 0, vI (w32 ((σ1 7 1) - 1))]) rfl (tk5 237 rfl rfl) rfl (Nat.le_of_ble_eq_true rfl) dX_coupleTrouble_45 ⟨ob_0, Tri.mono (q1.1 c2) (fun r3 σ3 q3 => L_ireturn rfl dX_coupleTrouble_48 q3)⟩))⟩⟩⟩))⟩)))))))))⟩⟩⟩), fun c2 => L_iload_n dX_coupleTrouble_10 rfl (L_ireturn rfl dX_coupleTrouble_11 (q1.2 c2))⟩)))⟩)))
theorem dX_seriesAnswer_0 : decode prog_1_method_69_code 0 = .ok (.iload_n 1, 1) := by decide +kernel
theorem dX_seriesAnswer_1 : decode prog_1_method_69_code 1 = .ok (.ifCond .lt 9, 3) := by decide +kernel
theorem dX_seriesAnswer_4 : decode prog_1_method_69_code 4 = .ok (.iload_n 1, 1) := by decide +kernel
theorem dX_seriesAnswer_5 : decode prog_1_method_69_code 5 = .ok (.bipush 9, 2) := by decide +kernel
theorem dX_seriesAnswer_7 : decode prog_1_method_69_code 7 = .ok (.if_icmp .le 9, 3) := by decide +kernel
theorem dX_seriesAnswer_10 : decode prog_1_method_69_code 10 = .ok (.aload_n 0, 1) := by decide +kernel
theorem dX_seriesAnswer_11 : decode prog_1_method_69_code 11 = .ok (.iconst 5, 1) := by decide +kernel
theorem dX_seriesAnswer_12 : decode prog_1_method_69_code 12 = .ok (.invokevirtual 133, 3) := by decide +kernel
theorem dX_seriesAnswer_15 : decode prog_1_method_69_code 15 = .ok (.ireturn, 1) := by decide +kernel
theorem dX_seriesAnswer_16 : decode prog_1_method_69_code 16 = .ok (.aload_n 0, 1) := by decide +kernel
theorem dX_seriesAnswer_17 : decode prog_1_method_69_code 17 = .ok (.aload_n 0, 1) := by decide +kernel
theorem dX_seriesAnswer_18 : decode prog_1_method_69_code 18 = .ok (.getfield 67, 3) := by decide +kernel
theorem dX_seriesAnswer_21 : decode prog_1_method_69_code 21 = .ok (.aload_n 0, 1) := by decide +kernel
theorem dX_seriesAnswer_22 : decode prog_1_method_69_code 22 = .ok (.getfield 37, 3) := by decide +kernel
theorem dX_seriesAnswer_25 : decode prog_1_method_69_code 25 = .ok (.getfield 156, 3) := by decide +kernel
theorem dX_seriesAnswer_28 : decode prog_1_method_69_code 28 = .ok (.iload_n 1, 1) := by decide +kernel
theorem dX_seriesAnswer_29 : decode prog_1_method_69_code 29 = .ok (.iload_n 2, 1) := by decide +kernel
theorem dX_seriesAnswer_30 : decode prog_1_method_69_code 30 = .ok (.invokevirtual 270, 3) := by decide +kernel
theorem dX_seriesAnswer_33 : decode prog_1_method_69_code 33 = .ok (.invokevirtual 173, 3) := by decide +kernel
theorem dX_seriesAnswer_36 : decode prog_1_method_69_code 36 = .ok (.ireturn, 1) := by decide +kernel
theorem t_X_seriesAnswer {d : Nat} {x1 x2 : Int} {σ : SG} {Q : Int → SG → Prop} (h : inI x1 → inI x2 → ((x1 < 0 → Tri d M_X_fail [vA 0, vI 5] σ (fun r2 σ2 => Q r2 σ2)) ∧ (0 ≤ x1 → (x1 ≤ 9 → Tri d M_An_wholeSeries [vA 42, vA 7, vI x1, vI x2] σ (fun r4 σ4 => Tri d M_X_answer [vA 0, vI r4] σ4 (fun r5 σ5 => Q r5 σ5))) ∧ (9 < x1 → Tri d M_X_fail [vA 0, vI 5] σ (fun r6 σ6 => Q r6 σ6))))) : Tri (d + 1) M_X_seriesAnswer [vA 0, vI x1, vI x2] σ Q :=
  Tri_intro rfl (Nat.le_of_ble_eq_true rfl) (ls := [vA 0, vI x1, vI x2]) rfl (fun hok => L_iload_n dX_seriesAnswer_0 rfl (L_if_lt dX_seriesAnswer_1 (by decide) ⟨fun c1 => L_aload_n dX_seriesAnswer_10 rfl (L_iconst dX_seriesAnswer_11 in_5 (L_callVI rfl cv_X_fail (As := [vI 5]) rfl (tk3 38 rfl rfl) rfl (Nat.le_of_ble_eq_true rfl) dX_seriesAnswer_12 ⟨ob_0, Tri.mono ((h (hok _ (List.mem_of_getElem? (i := 1) rfl)) (hok _ (List.mem_of_getElem? (i := 2) rfl))).1 c1) (fun r2 σ2 q2 => L_ireturn rfl dX_seriesAnswer_15 q2)⟩)), fun c1 => L_iload_n dX_seriesAnswer_4 rfl (L_bipush dX_seriesAnswer_5 bp_9 in_9 (L_icmp_le dX_seriesAnswer_7 (by decide) ⟨fun c3 => L_aload_n dX_seriesAnswer_16 rfl (L_aload_n dX_seriesAnswer_17 rfl (L_getF (b := 42) fw_X_67 rfl rfl (by decide) dX_seriesAnswer_18 ⟨ob_0, L_aload_n dX_seriesAnswer_21 rfl (L_getF (b := 6) fw_X_37 rfl rfl (by decide) dX_seriesAnswer_22 ⟨ob_0, L_getF (b := 7) fw_X_156 rfl rfl (by decide) dX_seriesAnswer_25 ⟨ob_6, L_iload_n dX_seriesAnswer_28 rfl (L_iload_n dX_seriesAnswer_29 rfl (L_callVI rfl cv_An_wholeSeries (As := [vA 7, vI x1, vI x2]) rfl (tk4 192 rfl rfl) rfl (Nat.le_of_ble_eq_true rfl) dX_seriesAnswer_30 ⟨ob_42, Tri.mono (((h (hok _ (List.mem_of_getElem? (i := 1) rfl)) (hok _ (List.mem_of_getElem? (i := 2) rfl))).2 c1).1 c3) (fun r4 σ4 q4 => L_callVI rfl cv_X_answer (As := [vI r4]) rfl (tk3 208 rfl rfl) rfl (Nat.le_of_ble_eq_true rfl) dX_seriesAnswer_33 ⟨ob_0, Tri.mono q4 (fun r5 σ5 q5 => L_ireturn rfl dX_seriesAnswer_36 q5)⟩)⟩))⟩⟩)⟩)), fun c3 => L_aload_n dX_seriesAnswer_10 rfl (L_iconst dX_seriesAnswer_11 in_5 (L_callVI rfl cv_X_fail (As := [vI 5]) rfl (tk3 38 rfl rfl) rfl (Nat.le_of_ble_eq_true rfl) dX_seriesAnswer_12 ⟨ob_0, Tri.mono (((h (hok _ (List.mem_of_getElem? (i := 1) rfl)) (hok _ (List.mem_of_getElem? (i := 2) rfl))).2 c1).2 c3) (fun r6 σ6 q6 => L_ireturn rfl dX_seriesAnswer_15 q6)⟩))⟩))⟩))
theorem dX_tellingNumber_0 : decode prog_1_method_70_code 0 = .ok (.iload_n 2, 1) := by decide +kernel
theorem dX_tellingNumber_1 : decode prog_1_method_70_code 1 = .ok (.tableswitch 113 1 7 #[43, 54, 65, 76, 85, 94, 103], 43) := by decide +kernel
theorem dX_tellingNumber_44 : decode prog_1_method_70_code 44 = .ok (.aload_n 0, 1) := by decide +kernel
theorem dX_tellingNumber_45 : decode prog_1_method_70_code 45 = .ok (.getfield 67, 3) := by decide +kernel
theorem dX_tellingNumber_48 : decode prog_1_method_70_code 48 = .ok (.aload_n 1, 1) := by decide +kernel
theorem dX_tellingNumber_49 : decode prog_1_method_70_code 49 = .ok (.iconst 1, 1) := by decide +kernel
theorem dX_tellingNumber_50 : decode prog_1_method_70_code 50 = .ok (.iconst 0, 1) := by decide +kernel
theorem dX_tellingNumber_51 : decode prog_1_method_70_code 51 = .ok (.invokevirtual 270, 3) := by decide +kernel
theorem dX_tellingNumber_54 : decode prog_1_method_70_code 54 = .ok (.ireturn, 1) := by decide +kernel
theorem dX_tellingNumber_55 : decode prog_1_method_70_code 55 = .ok (.aload_n 0, 1) := by decide +kernel
theorem dX_tellingNumber_56 : decode prog_1_method_70_code 56 = .ok (.getfield 67, 3) := by decide +kernel
theorem dX_tellingNumber_59 : decode prog_1_method_70_code 59 = .ok (.aload_n 1, 1) := by decide +kernel
theorem dX_tellingNumber_60 : decode prog_1_method_70_code 60 = .ok (.iconst 2, 1) := by decide +kernel
theorem dX_tellingNumber_61 : decode prog_1_method_70_code 61 = .ok (.iconst 0, 1) := by decide +kernel
theorem dX_tellingNumber_62 : decode prog_1_method_70_code 62 = .ok (.invokevirtual 270, 3) := by decide +kernel
theorem dX_tellingNumber_65 : decode prog_1_method_70_code 65 = .ok (.ireturn, 1) := by decide +kernel
theorem dX_tellingNumber_66 : decode prog_1_method_70_code 66 = .ok (.aload_n 0, 1) := by decide +kernel
theorem dX_tellingNumber_67 : decode prog_1_method_70_code 67 = .ok (.getfield 67, 3) := by decide +kernel
theorem dX_tellingNumber_70 : decode prog_1_method_70_code 70 = .ok (.aload_n 1, 1) := by decide +kernel
theorem dX_tellingNumber_71 : decode prog_1_method_70_code 71 = .ok (.iconst 2, 1) := by decide +kernel
theorem dX_tellingNumber_72 : decode prog_1_method_70_code 72 = .ok (.iconst 1, 1) := by decide +kernel
theorem dX_tellingNumber_73 : decode prog_1_method_70_code 73 = .ok (.invokevirtual 270, 3) := by decide +kernel
theorem dX_tellingNumber_76 : decode prog_1_method_70_code 76 = .ok (.ireturn, 1) := by decide +kernel
theorem dX_tellingNumber_77 : decode prog_1_method_70_code 77 = .ok (.aload_n 0, 1) := by decide +kernel
theorem dX_tellingNumber_78 : decode prog_1_method_70_code 78 = .ok (.getfield 67, 3) := by decide +kernel
theorem dX_tellingNumber_81 : decode prog_1_method_70_code 81 = .ok (.aload_n 1, 1) := by decide +kernel
theorem dX_tellingNumber_82 : decode prog_1_method_70_code 82 = .ok (.invokevirtual 262, 3) := by decide +kernel
theorem dX_tellingNumber_85 : decode prog_1_method_70_code 85 = .ok (.ireturn, 1) := by decide +kernel
theorem dX_tellingNumber_86 : decode prog_1_method_70_code 86 = .ok (.aload_n 0, 1) := by decide +kernel
theorem dX_tellingNumber_87 : decode prog_1_method_70_code 87 = .ok (.getfield 74, 3) := by decide +kernel
theorem dX_tellingNumber_90 : decode prog_1_method_70_code 90 = .ok (.aload_n 1, 1) := by decide +kernel
theorem dX_tellingNumber_91 : decode prog_1_method_70_code 91 = .ok (.invokevirtual 295, 3) := by decide +kernel
theorem dX_tellingNumber_94 : decode prog_1_method_70_code 94 = .ok (.ireturn, 1) := by decide +kernel
theorem dX_tellingNumber_95 : decode prog_1_method_70_code 95 = .ok (.aload_n 0, 1) := by decide +kernel
theorem dX_tellingNumber_96 : decode prog_1_method_70_code 96 = .ok (.getfield 74, 3) := by decide +kernel
theorem dX_tellingNumber_99 : decode prog_1_method_70_code 99 = .ok (.aload_n 1, 1) := by decide +kernel
theorem dX_tellingNumber_100 : decode prog_1_method_70_code 100 = .ok (.invokevirtual 298, 3) := by decide +kernel
theorem dX_tellingNumber_103 : decode prog_1_method_70_code 103 = .ok (.ireturn, 1) := by decide +kernel
theorem dX_tellingNumber_104 : decode prog_1_method_70_code 104 = .ok (.aload_n 0, 1) := by decide +kernel
theorem dX_tellingNumber_105 : decode prog_1_method_70_code 105 = .ok (.getfield 74, 3) := by decide +kernel
theorem dX_tellingNumber_108 : decode prog_1_method_70_code 108 = .ok (.aload_n 1, 1) := by decide +kernel
theorem dX_tellingNumber_109 : decode prog_1_method_70_code 109 = .ok (.iconst 2, 1) := by decide +kernel
theorem dX_tellingNumber_110 : decode prog_1_method_70_code 110 = .ok (.invokevirtual 301, 3) := by decide +kernel
theorem dX_tellingNumber_113 : decode prog_1_method_70_code 113 = .ok (.ireturn, 1) := by decide +kernel
theorem dX_tellingNumber_114 : decode prog_1_method_70_code 114 = .ok (.aload_n 0, 1) := by decide +kernel
theorem dX_tellingNumber_115 : decode prog_1_method_70_code 115 = .ok (.getfield 67, 3) := by decide +kernel
theorem dX_tellingNumber_118 : decode prog_1_method_70_code 118 = .ok (.aload_n 1, 1) := by decide +kernel
theorem dX_tellingNumber_119 : decode prog_1_method_70_code 119 = .ok (.invokevirtual 304, 3) := by decide +kernel
theorem dX_tellingNumber_122 : decode prog_1_method_70_code 122 = .ok (.ireturn, 1) := by decide +kernel
theorem t_X_tellingNumber {d : Nat} {x1 x2 : Int} {σ : SG} {Q : Int → SG → Prop} (h : inI x2 → (((x2 < 1 ∨ 7 < x2) → Tri d M_An_countCommuting [vA 42, vA x1] σ (fun r2 σ2 => Q r2 σ2)) ∧ (x2 = 1 → Tri d M_An_wholeSeries [vA 42, vA x1, vI 1, vI 0] σ (fun r3 σ3 => Q r3 σ3)) ∧ (x2 = 2 → Tri d M_An_wholeSeries [vA 42, vA x1, vI 2, vI 0] σ (fun r4 σ4 => Q r4 σ4)) ∧ (x2 = 3 → Tri d M_An_wholeSeries [vA 42, vA x1, vI 2, vI 1] σ (fun r5 σ5 => Q r5 σ5)) ∧ (x2 = 4 → Tri d M_An_centreSize [vA 42, vA x1] σ (fun r6 σ6 => Q r6 σ6)) ∧ (x2 = 5 → Tri d M_Me_derivationSize [vA 68, vA x1] σ (fun r7 σ7 => Q r7 σ7)) ∧ (x2 = 6 → Tri d M_Me_formRank [vA 68, vA x1] σ (fun r8 σ8 => Q r8 σ8)) ∧ (x2 = 7 → Tri d M_Me_classSize [vA 68, vA x1, vI 2] σ (fun r9 σ9 => Q r9 σ9)))) : Tri (d + 1) M_X_tellingNumber [vA 0, vA x1, vI x2] σ Q :=
  Tri_intro rfl (Nat.le_of_ble_eq_true rfl) (ls := [vA 0, vA x1, vI x2]) rfl (fun hok => L_iload_n dX_tellingNumber_0 rfl (L_table dX_tellingNumber_1 (by decide) ⟨fun c1 => L_aload_n dX_tellingNumber_114 rfl (L_getF (b := 42) fw_X_67 rfl rfl (by decide) dX_tellingNumber_115 ⟨ob_0, L_aload_n dX_tellingNumber_118 rfl (L_callVI rfl cv_An_countCommuting (As := [vA x1]) rfl (tk5 165 rfl rfl) rfl (Nat.le_of_ble_eq_true rfl) dX_tellingNumber_119 ⟨ob_42, Tri.mono ((h (hok _ (List.mem_of_getElem? (i := 2) rfl))).1 c1) (fun r2 σ2 q2 => L_ireturn rfl dX_tellingNumber_122 q2)⟩)⟩), fun k1 c1a c1b c1 => match k1, c1 with | 0, c1 => ⟨43, 44, rfl, by decide, L_aload_n dX_tellingNumber_44 rfl (L_getF (b := 42) fw_X_67 rfl rfl (by decide) dX_tellingNumber_45 ⟨ob_0, L_aload_n dX_tellingNumber_48 rfl (L_iconst dX_tellingNumber_49 in_1 (L_iconst dX_tellingNumber_50 in_0 (L_callVI rfl cv_An_wholeSeries (As := [vA x1, vI 1, vI 0]) rfl (tk4 192 rfl rfl) rfl (Nat.le_of_ble_eq_true rfl) dX_tellingNumber_51 ⟨ob_42, Tri.mono ((h (hok _ (List.mem_of_getElem? (i := 2) rfl))).2.1 (by omega)) (fun r3 σ3 q3 => L_ireturn rfl dX_tellingNumber_54 q3)⟩)))⟩)⟩ | 1, c1 => ⟨54, 55, rfl, by decide, L_aload_n dX_tellingNumber_55 rfl (L_getF (b := 42) fw_X_67 rfl rfl (by decide) dX_tellingNumber_56 ⟨ob_0, L_aload_n dX_tellingNumber_59 rfl (L_iconst dX_tellingNumber_60 in_2 (L_iconst dX_tellingNumber_61 in_0 (L_callVI rfl cv_An_wholeSeries (As := [vA x1, vI 2, vI 0]) rfl (tk4 192 rfl rfl) rfl (Nat.le_of_ble_eq_true rfl) dX_tellingNumber_62 ⟨ob_42, Tri.mono ((h (hok _ (List.mem_of_getElem? (i := 2) rfl))).2.2.1 (by omega)) (fun r4 σ4 q4 => L_ireturn rfl dX_tellingNumber_65 q4)⟩)))⟩)⟩ | 2, c1 => ⟨65, 66, rfl, by decide, L_aload_n dX_tellingNumber_66 rfl (L_getF (b := 42) fw_X_67 rfl rfl (by decide) dX_tellingNumber_67 ⟨ob_0, L_aload_n dX_tellingNumber_70 rfl (L_iconst dX_tellingNumber_71 in_2 (L_iconst dX_tellingNumber_72 in_1 (L_callVI rfl cv_An_wholeSeries (As := [vA x1, vI 2, vI 1]) rfl (tk4 192 rfl rfl) rfl (Nat.le_of_ble_eq_true rfl) dX_tellingNumber_73 ⟨ob_42, Tri.mono ((h (hok _ (List.mem_of_getElem? (i := 2) rfl))).2.2.2.1 (by omega)) (fun r5 σ5 q5 => L_ireturn rfl dX_tellingNumber_76 q5)⟩)))⟩)⟩ | 3, c1 => ⟨76, 77, rfl, by decide, L_aload_n dX_tellingNumber_77 rfl (L_getF (b := 42) fw_X_67 rfl rfl (by decide) dX_tellingNumber_78 ⟨ob_0, L_aload_n dX_tellingNumber_81 rfl (L_callVI rfl cv_An_centreSize (As := [vA x1]) rfl (tk4 219 rfl rfl) rfl (Nat.le_of_ble_eq_true rfl) dX_tellingNumber_82 ⟨ob_42, Tri.mono ((h (hok _ (List.mem_of_getElem? (i := 2) rfl))).2.2.2.2.1 (by omega)) (fun r6 σ6 q6 => L_ireturn rfl dX_tellingNumber_85 q6)⟩)⟩)⟩ | 4, c1 => ⟨85, 86, rfl, by decide, L_aload_n dX_tellingNumber_86 rfl (L_getF (b := 68) fw_X_74 rfl rfl (by decide) dX_tellingNumber_87 ⟨ob_0, L_aload_n dX_tellingNumber_90 rfl (L_callVI rfl cv_Me_derivationSize (As := [vA x1]) rfl (tk5 117 rfl rfl) rfl (Nat.le_of_ble_eq_true rfl) dX_tellingNumber_91 ⟨ob_68, Tri.mono ((h (hok _ (List.mem_of_getElem? (i := 2) rfl))).2.2.2.2.2.1 (by omega)) (fun r7 σ7 q7 => L_ireturn rfl dX_tellingNumber_94 q7)⟩)⟩)⟩ | 5, c1 => ⟨94, 95, rfl, by decide, L_aload_n dX_tellingNumber_95 rfl (L_getF (b := 68) fw_X_74 rfl rfl (by decide) dX_tellingNumber_96 ⟨ob_0, L_aload_n dX_tellingNumber_99 rfl (L_callVI rfl cv_Me_formRank (As := [vA x1]) rfl (tk5 132 rfl rfl) rfl (Nat.le_of_ble_eq_true rfl) dX_tellingNumber_100 ⟨ob_68, Tri.mono ((h (hok _ (List.mem_of_getElem? (i := 2) rfl))).2.2.2.2.2.2.1 (by omega)) (fun r8 σ8 q8 => L_ireturn rfl dX_tellingNumber_103 q8)⟩)⟩)⟩ | 6, c1 => ⟨103, 104, rfl, by decide, L_aload_n dX_tellingNumber_104 rfl (L_getF (b := 68) fw_X_74 rfl rfl (by decide) dX_tellingNumber_105 ⟨ob_0, L_aload_n dX_tellingNumber_108 rfl (L_iconst dX_tellingNumber_109 in_2 (L_callVI rfl cv_Me_classSize (As := [vA x1, vI 2]) rfl (tk5 140 rfl rfl) rfl (Nat.le_of_ble_eq_true rfl) dX_tellingNumber_110 ⟨ob_68, Tri.mono ((h (hok _ (List.mem_of_getElem? (i := 2) rfl))).2.2.2.2.2.2.2 (by omega)) (fun r9 σ9 q9 => L_ireturn rfl dX_tellingNumber_113 q9)⟩))⟩)⟩ | (n + 7), c1 => absurd c1b (by omega)⟩))
theorem dX_commonDivisor_0 : decode prog_1_method_71_code 0 = .ok (.iload_n 0, 1) := by decide +kernel
theorem dX_commonDivisor_1 : decode prog_1_method_71_code 1 = .ok (.istore_n 2, 1) := by decide +kernel
theorem dX_commonDivisor_2 : decode prog_1_method_71_code 2 = .ok (.iload_n 1, 1) := by decide +kernel
theorem dX_commonDivisor_3 : decode prog_1_method_71_code 3 = .ok (.istore_n 3, 1) := by decide +kernel
theorem dX_commonDivisor_4 : decode prog_1_method_71_code 4 = .ok (.iconst 0, 1) := by decide +kernel
theorem dX_commonDivisor_5 : decode prog_1_method_71_code 5 = .ok (.istore 4, 2) := by decide +kernel
theorem dX_commonDivisor_7 : decode prog_1_method_71_code 7 = .ok (.iload 4, 2) := by decide +kernel
theorem dX_commonDivisor_9 : decode prog_1_method_71_code 9 = .ok (.bipush 64, 2) := by decide +kernel
theorem dX_commonDivisor_11 : decode prog_1_method_71_code 11 = .ok (.if_icmp .ge 23, 3) := by decide +kernel
theorem dX_commonDivisor_14 : decode prog_1_method_71_code 14 = .ok (.iload_n 3, 1) := by decide +kernel
theorem dX_commonDivisor_15 : decode prog_1_method_71_code 15 = .ok (.ifCond .le 19, 3) := by decide +kernel
theorem dX_commonDivisor_18 : decode prog_1_method_71_code 18 = .ok (.iload_n 2, 1) := by decide +kernel
theorem dX_commonDivisor_19 : decode prog_1_method_71_code 19 = .ok (.iload_n 3, 1) := by decide +kernel
theorem dX_commonDivisor_20 : decode prog_1_method_71_code 20 = .ok (.irem, 1) := by decide +kernel
theorem dX_commonDivisor_21 : decode prog_1_method_71_code 21 = .ok (.istore 5, 2) := by decide +kernel
theorem dX_commonDivisor_23 : decode prog_1_method_71_code 23 = .ok (.iload_n 3, 1) := by decide +kernel
theorem dX_commonDivisor_24 : decode prog_1_method_71_code 24 = .ok (.istore_n 2, 1) := by decide +kernel
theorem dX_commonDivisor_25 : decode prog_1_method_71_code 25 = .ok (.iload 5, 2) := by decide +kernel
theorem dX_commonDivisor_27 : decode prog_1_method_71_code 27 = .ok (.istore_n 3, 1) := by decide +kernel
theorem dX_commonDivisor_28 : decode prog_1_method_71_code 28 = .ok (.iinc 4 1, 3) := by decide +kernel
theorem dX_commonDivisor_31 : decode prog_1_method_71_code 31 = .ok (.goto (-24), 3) := by decide +kernel
theorem dX_commonDivisor_34 : decode prog_1_method_71_code 34 = .ok (.iload_n 2, 1) := by decide +kernel
theorem dX_commonDivisor_35 : decode prog_1_method_71_code 35 = .ok (.ireturn, 1) := by decide +kernel
theorem t_X_commonDivisor {d : Nat} {x0 x1 : Int} {σ : SG} {Q : Int → SG → Prop} (h : inI x0 → inI x1 → (L (d + 1) M_X_commonDivisor 7 [vU, vU, vI x0, vI x1, vI 0, vU] [] σ Q)) : Tri (d + 1) M_X_commonDivisor [vI x0, vI x1] σ Q :=
  Tri_intro rfl (Nat.le_of_ble_eq_true rfl) (ls := [vI x0, vI x1, vU, vU, vU, vU]) rfl (fun hok => L_iload_n dX_commonDivisor_0 rfl (L_istore_n dX_commonDivisor_1 (by decide) (L_iload_n dX_commonDivisor_2 rfl (L_istore_n dX_commonDivisor_3 (by decide) (L_iconst dX_commonDivisor_4 in_0 (L_istore dX_commonDivisor_5 (by decide) (L_weak [false, false, true, true, true, true] ((h (hok _ (List.mem_of_getElem? (i := 0) rfl)) (hok _ (List.mem_of_getElem? (i := 1) rfl)))))))))))
theorem s_X_commonDivisor_7 {d : Nat} {x2 x3 x4 : Int} {σ : SG} {Q : Int → SG → Prop} (h : (64 ≤ x4 → Q x2 σ) ∧ (x4 < 64 → (x3 ≤ 0 → Q x2 σ) ∧ (0 < x3 → x3 ≠ 0 ∧ L (d + 1) M_X_commonDivisor 7 [vU, vU, vI x3, vI (x2.tmod x3), vI (w32 (x4 + 1)), vU] [] σ Q))) : L (d + 1) M_X_commonDivisor 7 [vU, vU, vI x2, vI x3, vI x4, vU] [] σ Q :=
  L_iload dX_commonDivisor_7 rfl (L_bipush dX_commonDivisor_9 bp_64 in_64 (L_icmp_ge dX_commonDivisor_11 (by decide) ⟨fun c1 => L_iload_n dX_commonDivisor_34 rfl (L_ireturn rfl dX_commonDivisor_35 (h.1 c1)), fun c1 => L_iload_n dX_commonDivisor_14 rfl (L_if_le dX_commonDivisor_15 (by decide) ⟨fun c2 => L_iload_n dX_commonDivisor_34 rfl (L_ireturn rfl dX_commonDivisor_35 ((h.2 c1).1 c2)), fun c2 => L_iload_n dX_commonDivisor_18 rfl (L_iload_n dX_commonDivisor_19 rfl (L_irem dX_commonDivisor_20 ⟨((h.2 c1).2 c2).1, L_istore dX_commonDivisor_21 (by decide) (L_iload_n dX_commonDivisor_23 rfl (L_istore_n dX_commonDivisor_24 (by decide) (L_iload dX_commonDivisor_25 rfl (L_istore_n dX_commonDivisor_27 (by decide) (L_iinc dX_commonDivisor_28 rfl (by decide) (L_goto dX_commonDivisor_31 (by decide) (L_weak [true, true, true, true, true, false] (((h.2 c1).2 c2).2))))))))⟩))⟩)⟩))
theorem dX_mod_0 : decode prog_1_method_72_code 0 = .ok (.iload_n 1, 1) := by decide +kernel
theorem dX_mod_1 : decode prog_1_method_72_code 1 = .ok (.iconst 2, 1) := by decide +kernel
theorem dX_mod_2 : decode prog_1_method_72_code 2 = .ok (.if_icmp .ge 5, 3) := by decide +kernel
theorem dX_mod_5 : decode prog_1_method_72_code 5 = .ok (.iconst 0, 1) := by decide +kernel
theorem dX_mod_6 : decode prog_1_method_72_code 6 = .ok (.ireturn, 1) := by decide +kernel
theorem dX_mod_7 : decode prog_1_method_72_code 7 = .ok (.iload_n 0, 1) := by decide +kernel
theorem dX_mod_8 : decode prog_1_method_72_code 8 = .ok (.iload_n 1, 1) := by decide +kernel
theorem dX_mod_9 : decode prog_1_method_72_code 9 = .ok (.irem, 1) := by decide +kernel
theorem dX_mod_10 : decode prog_1_method_72_code 10 = .ok (.istore_n 2, 1) := by decide +kernel
theorem dX_mod_11 : decode prog_1_method_72_code 11 = .ok (.iload_n 2, 1) := by decide +kernel
theorem dX_mod_12 : decode prog_1_method_72_code 12 = .ok (.ifCond .ge 9, 3) := by decide +kernel
theorem dX_mod_15 : decode prog_1_method_72_code 15 = .ok (.iload_n 2, 1) := by decide +kernel
theorem dX_mod_16 : decode prog_1_method_72_code 16 = .ok (.iload_n 1, 1) := by decide +kernel
theorem dX_mod_17 : decode prog_1_method_72_code 17 = .ok (.iadd, 1) := by decide +kernel
theorem dX_mod_18 : decode prog_1_method_72_code 18 = .ok (.goto 4, 3) := by decide +kernel
theorem dX_mod_21 : decode prog_1_method_72_code 21 = .ok (.iload_n 2, 1) := by decide +kernel
theorem dX_mod_22 : decode prog_1_method_72_code 22 = .ok (.ireturn, 1) := by decide +kernel
theorem t_X_mod {d : Nat} {x0 x1 : Int} {σ : SG} {Q : Int → SG → Prop} (h : inI x0 → inI x1 → ((2 ≤ x1 → x1 ≠ 0 ∧ (0 ≤ x0.tmod x1 → Q (x0.tmod x1) σ) ∧ (x0.tmod x1 < 0 → Q (w32 ((x0.tmod x1) + x1)) σ)) ∧ (x1 < 2 → Q 0 σ))) : Tri (d + 1) M_X_mod [vI x0, vI x1] σ Q :=
  Tri_intro rfl (Nat.le_of_ble_eq_true rfl) (ls := [vI x0, vI x1, vU]) rfl (fun hok => L_iload_n dX_mod_0 rfl (L_iconst dX_mod_1 in_2 (L_icmp_ge dX_mod_2 (by decide) ⟨fun c1 => L_iload_n dX_mod_7 rfl (L_iload_n dX_mod_8 rfl (L_irem dX_mod_9 ⟨((h (hok _ (List.mem_of_getElem? (i := 0) rfl)) (hok _ (List.mem_of_getElem? (i := 1) rfl))).1 c1).1, L_istore_n dX_mod_10 (by decide) (L_iload_n dX_mod_11 rfl (L_if_ge dX_mod_12 (by decide) ⟨fun c2 => L_iload_n dX_mod_21 rfl (L_ireturn rfl dX_mod_22 (((h (hok _ (List.mem_of_getElem? (i := 0) rfl)) (hok _ (List.mem_of_getElem? (i := 1) rfl))).1 c1).2.1 c2)), fun c2 => L_iload_n dX_mod_15 rfl (L_iload_n dX_mod_16 rfl (L_iadd dX_mod_17 (L_goto dX_mod_18 (by decide) (L_ireturn rfl dX_mod_22 (((h (hok _ (List.mem_of_getElem? (i := 0) rfl)) (hok _ (List.mem_of_getElem? (i := 1) rfl))).1 c1).2.2 c2)))))⟩))⟩)), fun c1 => L_iconst dX_mod_5 in_0 (L_ireturn rfl dX_mod_6 ((h (hok _ (List.mem_of_getElem? (i := 0) rfl)) (hok _ (List.mem_of_getElem? (i := 1) rfl))).2 c1))⟩)))
theorem dX_inverse_0 : decode prog_1_method_73_code 0 = .ok (.iconst 1, 1) := by decide +kernel
theorem dX_inverse_1 : decode prog_1_method_73_code 1 = .ok (.istore_n 2, 1) := by decide +kernel
theorem dX_inverse_2 : decode prog_1_method_73_code 2 = .ok (.iload_n 2, 1) := by decide +kernel
theorem dX_inverse_3 : decode prog_1_method_73_code 3 = .ok (.iload_n 1, 1) := by decide +kernel
theorem dX_inverse_4 : decode prog_1_method_73_code 4 = .ok (.if_icmp .ge 20, 3) := by decide +kernel
theorem dX_inverse_7 : decode prog_1_method_73_code 7 = .ok (.iload_n 0, 1) := by decide +kernel
theorem dX_inverse_8 : decode prog_1_method_73_code 8 = .ok (.iload_n 2, 1) := by decide +kernel
theorem dX_inverse_9 : decode prog_1_method_73_code 9 = .ok (.imul, 1) := by decide +kernel
theorem dX_inverse_10 : decode prog_1_method_73_code 10 = .ok (.iload_n 1, 1) := by decide +kernel
theorem dX_inverse_11 : decode prog_1_method_73_code 11 = .ok (.irem, 1) := by decide +kernel
theorem dX_inverse_12 : decode prog_1_method_73_code 12 = .ok (.iconst 1, 1) := by decide +kernel
theorem dX_inverse_13 : decode prog_1_method_73_code 13 = .ok (.if_icmp .ne 5, 3) := by decide +kernel
theorem dX_inverse_16 : decode prog_1_method_73_code 16 = .ok (.iload_n 2, 1) := by decide +kernel
theorem dX_inverse_17 : decode prog_1_method_73_code 17 = .ok (.ireturn, 1) := by decide +kernel
theorem dX_inverse_18 : decode prog_1_method_73_code 18 = .ok (.iinc 2 1, 3) := by decide +kernel
theorem dX_inverse_21 : decode prog_1_method_73_code 21 = .ok (.goto (-19), 3) := by decide +kernel
theorem dX_inverse_24 : decode prog_1_method_73_code 24 = .ok (.iconst 0, 1) := by decide +kernel
theorem dX_inverse_25 : decode prog_1_method_73_code 25 = .ok (.ireturn, 1) := by decide +kernel
theorem t_X_inverse {d : Nat} {x0 x1 : Int} {σ : SG} {Q : Int → SG → Prop} (h : inI x0 → inI x1 → (L (d + 1) M_X_inverse 2 [vI x0, vI x1, vI 1] [] σ Q)) : Tri (d + 1) M_X_inverse [vI x0, vI x1] σ Q :=
  Tri_intro rfl (Nat.le_of_ble_eq_true rfl) (ls := [vI x0, vI x1, vU]) rfl (fun hok => L_iconst dX_inverse_0 in_1 (L_istore_n dX_inverse_1 (by decide) ((h (hok _ (List.mem_of_getElem? (i := 0) rfl)) (hok _ (List.mem_of_getElem? (i := 1) rfl))))))
theorem s_X_inverse_2 {d : Nat} {x0 x1 x2 : Int} {σ : SG} {Q : Int → SG → Prop} (h : (x1 ≤ x2 → Q 0 σ) ∧ (x2 < x1 → x1 ≠ 0 ∧ ((w32 (x0 * x2)).tmod x1 ≠ 1 → L (d + 1) M_X_inverse 2 [vI x0, vI x1, vI (w32 (x2 + 1))] [] σ Q) ∧ ((w32 (x0 * x2)).tmod x1 = 1 → Q x2 σ))) : L (d + 1) M_X_inverse 2 [vI x0, vI x1, vI x2] [] σ Q :=
  L_iload_n dX_inverse_2 rfl (L_iload_n dX_inverse_3 rfl (L_icmp_ge dX_inverse_4 (by decide) ⟨fun c1 => L_iconst dX_inverse_24 in_0 (L_ireturn rfl dX_inverse_25 (h.1 c1)), fun c1 => L_iload_n dX_inverse_7 rfl (L_iload_n dX_inverse_8 rfl (L_imul dX_inverse_9 (L_iload_n dX_inverse_10 rfl (L_irem dX_inverse_11 ⟨(h.2 c1).1, L_iconst dX_inverse_12 in_1 (L_icmp_ne dX_inverse_13 (by decide) ⟨fun c2 => L_iinc dX_inverse_18 rfl (by decide) (L_goto dX_inverse_21 (by decide) ((h.2 c1).2.1 c2)), fun c2 => L_iload_n dX_inverse_16 rfl (L_ireturn rfl dX_inverse_17 ((h.2 c1).2.2 c2))⟩)⟩))))⟩))
theorem dX_raised_0 : decode prog_1_method_74_code 0 = .ok (.iconst 1, 1) := by decide +kernel
theorem dX_raised_1 : decode prog_1_method_74_code 1 = .ok (.istore_n 2, 1) := by decide +kernel
theorem dX_raised_2 : decode prog_1_method_74_code 2 = .ok (.iconst 0, 1) := by decide +kernel
theorem dX_raised_3 : decode prog_1_method_74_code 3 = .ok (.istore_n 3, 1) := by decide +kernel
theorem dX_raised_4 : decode prog_1_method_74_code 4 = .ok (.iload_n 3, 1) := by decide +kernel
theorem dX_raised_5 : decode prog_1_method_74_code 5 = .ok (.iload_n 1, 1) := by decide +kernel
theorem dX_raised_6 : decode prog_1_method_74_code 6 = .ok (.if_icmp .ge 13, 3) := by decide +kernel
theorem dX_raised_9 : decode prog_1_method_74_code 9 = .ok (.iload_n 2, 1) := by decide +kernel
theorem dX_raised_10 : decode prog_1_method_74_code 10 = .ok (.iload_n 0, 1) := by decide +kernel
theorem dX_raised_11 : decode prog_1_method_74_code 11 = .ok (.imul, 1) := by decide +kernel
theorem dX_raised_12 : decode prog_1_method_74_code 12 = .ok (.istore_n 2, 1) := by decide +kernel
theorem dX_raised_13 : decode prog_1_method_74_code 13 = .ok (.iinc 3 1, 3) := by decide +kernel
theorem dX_raised_16 : decode prog_1_method_74_code 16 = .ok (.goto (-12), 3) := by decide +kernel
theorem dX_raised_19 : decode prog_1_method_74_code 19 = .ok (.iload_n 2, 1) := by decide +kernel
theorem dX_raised_20 : decode prog_1_method_74_code 20 = .ok (.ireturn, 1) := by decide +kernel
theorem t_X_raised {d : Nat} {x0 x1 : Int} {σ : SG} {Q : Int → SG → Prop} (h : inI x0 → inI x1 → (L (d + 1) M_X_raised 4 [vI x0, vI x1, vI 1, vI 0] [] σ Q)) : Tri (d + 1) M_X_raised [vI x0, vI x1] σ Q :=
  Tri_intro rfl (Nat.le_of_ble_eq_true rfl) (ls := [vI x0, vI x1, vU, vU]) rfl (fun hok => L_iconst dX_raised_0 in_1 (L_istore_n dX_raised_1 (by decide) (L_iconst dX_raised_2 in_0 (L_istore_n dX_raised_3 (by decide) ((h (hok _ (List.mem_of_getElem? (i := 0) rfl)) (hok _ (List.mem_of_getElem? (i := 1) rfl))))))))
theorem s_X_raised_4 {d : Nat} {x0 x1 x2 x3 : Int} {σ : SG} {Q : Int → SG → Prop} (h : (x1 ≤ x3 → Q x2 σ) ∧ (x3 < x1 → L (d + 1) M_X_raised 4 [vI x0, vI x1, vI (w32 (x2 * x0)), vI (w32 (x3 + 1))] [] σ Q)) : L (d + 1) M_X_raised 4 [vI x0, vI x1, vI x2, vI x3] [] σ Q :=
  L_iload_n dX_raised_4 rfl (L_iload_n dX_raised_5 rfl (L_icmp_ge dX_raised_6 (by decide) ⟨fun c1 => L_iload_n dX_raised_19 rfl (L_ireturn rfl dX_raised_20 (h.1 c1)), fun c1 => L_iload_n dX_raised_9 rfl (L_iload_n dX_raised_10 rfl (L_imul dX_raised_11 (L_istore_n dX_raised_12 (by decide) (L_iinc dX_raised_13 rfl (by decide) (L_goto dX_raised_16 (by decide) (h.2 c1))))))⟩))
theorem dX_sizeLimit_0 : decode prog_1_method_75_code 0 = .ok (.iload_n 0, 1) := by decide +kernel
theorem dX_sizeLimit_1 : decode prog_1_method_75_code 1 = .ok (.tableswitch 45 2 7 #[39, 39, 45, 41, 45, 43], 39) := by decide +kernel
theorem dX_sizeLimit_40 : decode prog_1_method_75_code 40 = .ok (.iconst 5, 1) := by decide +kernel
theorem dX_sizeLimit_41 : decode prog_1_method_75_code 41 = .ok (.ireturn, 1) := by decide +kernel
theorem dX_sizeLimit_42 : decode prog_1_method_75_code 42 = .ok (.iconst 4, 1) := by decide +kernel
theorem dX_sizeLimit_43 : decode prog_1_method_75_code 43 = .ok (.ireturn, 1) := by decide +kernel
theorem dX_sizeLimit_44 : decode prog_1_method_75_code 44 = .ok (.iconst 3, 1) := by decide +kernel
theorem dX_sizeLimit_45 : decode prog_1_method_75_code 45 = .ok (.ireturn, 1) := by decide +kernel
theorem dX_sizeLimit_46 : decode prog_1_method_75_code 46 = .ok (.iconst 0, 1) := by decide +kernel
theorem dX_sizeLimit_47 : decode prog_1_method_75_code 47 = .ok (.ireturn, 1) := by decide +kernel
theorem t_X_sizeLimit {d : Nat} {x0 : Int} {σ : SG} {Q : Int → SG → Prop} (h : inI x0 → (((x0 < 2 ∨ 7 < x0) → Q 0 σ) ∧ (x0 = 2 → Q 5 σ) ∧ (x0 = 3 → Q 5 σ) ∧ (x0 = 4 → Q 0 σ) ∧ (x0 = 5 → Q 4 σ) ∧ (x0 = 6 → Q 0 σ) ∧ (x0 = 7 → Q 3 σ))) : Tri (d + 1) M_X_sizeLimit [vI x0] σ Q :=
  Tri_intro rfl (Nat.le_of_ble_eq_true rfl) (ls := [vI x0]) rfl (fun hok => L_iload_n dX_sizeLimit_0 rfl (L_table dX_sizeLimit_1 (by decide) ⟨fun c1 => L_iconst dX_sizeLimit_46 in_0 (L_ireturn rfl dX_sizeLimit_47 ((h (hok _ (List.mem_of_getElem? (i := 0) rfl))).1 c1)), fun k1 c1a c1b c1 => match k1, c1 with | 0, c1 => ⟨39, 40, rfl, by decide, L_iconst dX_sizeLimit_40 in_5 (L_ireturn rfl dX_sizeLimit_41 ((h (hok _ (List.mem_of_getElem? (i := 0) rfl))).2.1 (by omega)))⟩ | 1, c1 => ⟨39, 40, rfl, by decide, L_iconst dX_sizeLimit_40 in_5 (L_ireturn rfl dX_sizeLimit_41 ((h (hok _ (List.mem_of_getElem? (i := 0) rfl))).2.2.1 (by omega)))⟩ | 2, c1 => ⟨45, 46, rfl, by decide, L_iconst dX_sizeLimit_46 in_0 (L_ireturn rfl dX_sizeLimit_47 ((h (hok _ (List.mem_of_getElem? (i := 0) rfl))).2.2.2.1 (by omega)))⟩ | 3, c1 => ⟨41, 42, rfl, by decide, L_iconst dX_sizeLimit_42 in_4 (L_ireturn rfl dX_sizeLimit_43 ((h (hok _ (List.mem_of_getElem? (i := 0) rfl))).2.2.2.2.1 (by omega)))⟩ | 4, c1 => ⟨45, 46, rfl, by decide, L_iconst dX_sizeLimit_46 in_0 (L_ireturn rfl dX_sizeLimit_47 ((h (hok _ (List.mem_of_getElem? (i := 0) rfl))).2.2.2.2.2.1 (by omega)))⟩ | 5, c1 => ⟨43, 44, rfl, by decide, L_iconst dX_sizeLimit_44 in_3 (L_ireturn rfl dX_sizeLimit_45 ((h (hok _ (List.mem_of_getElem? (i := 0) rfl))).2.2.2.2.2.2 (by omega)))⟩ | (n + 6), c1 => absurd c1b (by omega)⟩))
