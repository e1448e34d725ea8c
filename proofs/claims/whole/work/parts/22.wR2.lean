theorem dR_left_0 : decode prog_14_method_53_code 0 = .ok (.iload_n 0, 1) := by decide +kernel
theorem dR_left_1 : decode prog_14_method_53_code 1 = .ok (.iload_n 1, 1) := by decide +kernel
theorem dR_left_2 : decode prog_14_method_53_code 2 = .ok (.irem, 1) := by decide +kernel
theorem dR_left_3 : decode prog_14_method_53_code 3 = .ok (.iload_n 1, 1) := by decide +kernel
theorem dR_left_4 : decode prog_14_method_53_code 4 = .ok (.iadd, 1) := by decide +kernel
theorem dR_left_5 : decode prog_14_method_53_code 5 = .ok (.iload_n 1, 1) := by decide +kernel
theorem dR_left_6 : decode prog_14_method_53_code 6 = .ok (.irem, 1) := by decide +kernel
theorem dR_left_7 : decode prog_14_method_53_code 7 = .ok (.ireturn, 1) := by decide +kernel
theorem t_R_left {d : Nat} {x0 x1 : Int} {σ : SG} {Q : Int → SG → Prop} (h : inI x0 → inI x1 → (x1 ≠ 0 ∧ x1 ≠ 0 ∧ Q ((w32 ((x0.tmod x1) + x1)).tmod x1) σ)) : Tri (d + 1) M_R_left [vI x0, vI x1] σ Q :=
  Tri_intro rfl (Nat.le_of_ble_eq_true rfl) (ls := [vI x0, vI x1]) rfl (fun hok => L_iload_n dR_left_0 rfl (L_iload_n dR_left_1 rfl (L_irem dR_left_2 ⟨(h (hok _ (List.mem_of_getElem? (i := 0) rfl)) (hok _ (List.mem_of_getElem? (i := 1) rfl))).1, L_iload_n dR_left_3 rfl (L_iadd dR_left_4 (L_iload_n dR_left_5 rfl (L_irem dR_left_6 ⟨(h (hok _ (List.mem_of_getElem? (i := 0) rfl)) (hok _ (List.mem_of_getElem? (i := 1) rfl))).2.1, L_ireturn rfl dR_left_7 ((h (hok _ (List.mem_of_getElem? (i := 0) rfl)) (hok _ (List.mem_of_getElem? (i := 1) rfl))).2.2)⟩)))⟩)))
theorem dR_set_0 : decode prog_14_method_54_code 0 = .ok (.aload_n 0, 1) := by decide +kernel
theorem dR_set_1 : decode prog_14_method_54_code 1 = .ok (.iload_n 1, 1) := by decide +kernel
theorem dR_set_2 : decode prog_14_method_54_code 2 = .ok (.iaload, 1) := by decide +kernel
theorem dR_set_3 : decode prog_14_method_54_code 3 = .ok (.istore 6, 2) := by decide +kernel
theorem dR_set_5 : decode prog_14_method_54_code 5 = .ok (.aload_n 0, 1) := by decide +kernel
theorem dR_set_6 : decode prog_14_method_54_code 6 = .ok (.iload_n 1, 1) := by decide +kernel
theorem dR_set_7 : decode prog_14_method_54_code 7 = .ok (.iload_n 2, 1) := by decide +kernel
theorem dR_set_8 : decode prog_14_method_54_code 8 = .ok (.iload_n 3, 1) := by decide +kernel
theorem dR_set_9 : decode prog_14_method_54_code 9 = .ok (.iload 4, 2) := by decide +kernel
theorem dR_set_11 : decode prog_14_method_54_code 11 = .ok (.invokestatic 260, 3) := by decide +kernel
theorem dR_set_14 : decode prog_14_method_54_code 14 = .ok (.iadd, 1) := by decide +kernel
theorem dR_set_15 : decode prog_14_method_54_code 15 = .ok (.iload 5, 2) := by decide +kernel
theorem dR_set_17 : decode prog_14_method_54_code 17 = .ok (.iload 6, 2) := by decide +kernel
theorem dR_set_19 : decode prog_14_method_54_code 19 = .ok (.invokestatic 264, 3) := by decide +kernel
theorem dR_set_22 : decode prog_14_method_54_code 22 = .ok (.iastore, 1) := by decide +kernel
theorem dR_set_23 : decode prog_14_method_54_code 23 = .ok (.aload_n 0, 1) := by decide +kernel
theorem dR_set_24 : decode prog_14_method_54_code 24 = .ok (.iload_n 1, 1) := by decide +kernel
theorem dR_set_25 : decode prog_14_method_54_code 25 = .ok (.iload_n 3, 1) := by decide +kernel
theorem dR_set_26 : decode prog_14_method_54_code 26 = .ok (.iload_n 2, 1) := by decide +kernel
theorem dR_set_27 : decode prog_14_method_54_code 27 = .ok (.iload 4, 2) := by decide +kernel
theorem dR_set_29 : decode prog_14_method_54_code 29 = .ok (.invokestatic 260, 3) := by decide +kernel
theorem dR_set_32 : decode prog_14_method_54_code 32 = .ok (.iadd, 1) := by decide +kernel
theorem dR_set_33 : decode prog_14_method_54_code 33 = .ok (.iload 5, 2) := by decide +kernel
theorem dR_set_35 : decode prog_14_method_54_code 35 = .ok (.ineg, 1) := by decide +kernel
theorem dR_set_36 : decode prog_14_method_54_code 36 = .ok (.iload 6, 2) := by decide +kernel
theorem dR_set_38 : decode prog_14_method_54_code 38 = .ok (.invokestatic 264, 3) := by decide +kernel
theorem dR_set_41 : decode prog_14_method_54_code 41 = .ok (.iastore, 1) := by decide +kernel
theorem dR_set_42 : decode prog_14_method_54_code 42 = .ok (.return_, 1) := by decide +kernel
theorem t_R_set {d : Nat} {x0 x1 x2 x3 x4 x5 : Int} {σ : SG} {Q : Int → SG → Prop} (h : inI x1 → inI x2 → inI x3 → inI x4 → inI x5 → (rdok 100 x0 x1 ∧ Tri d M_R_cell [vI x2, vI x3, vI x4] σ (fun r1 σ1 => Tri d M_R_left [vI x5, vI (σ x0 x1)] σ1 (fun r2 σ2 => wrok 100 x0 (w32 (x1 + r1)) ∧ (∀ σ3, σ3 = up σ2 x0 (w32 (x1 + r1)) r2 → Tri d M_R_cell [vI x3, vI x2, vI x4] σ3 (fun r4 σ4 => Tri d M_R_left [vI (w32 (-x5)), vI (σ x0 x1)] σ4 (fun r5 σ5 => wrok 100 x0 (w32 (x1 + r4)) ∧ (∀ σ6, σ6 = up σ5 x0 (w32 (x1 + r4)) r5 → Q 0 σ6)))))))) : Tri (d + 1) M_R_set [vA x0, vI x1, vI x2, vI x3, vI x4, vI x5] σ Q :=
  Tri_intro rfl (Nat.le_of_ble_eq_true rfl) (ls := [vA x0, vI x1, vI x2, vI x3, vI x4, vI x5, vU]) rfl (fun hok => L_aload_n dR_set_0 rfl (L_iload_n dR_set_1 rfl (L_iaload dR_set_2 ⟨(h (hok _ (List.mem_of_getElem? (i := 1) rfl)) (hok _ (List.mem_of_getElem? (i := 2) rfl)) (hok _ (List.mem_of_getElem? (i := 3) rfl)) (hok _ (List.mem_of_getElem? (i := 4) rfl)) (hok _ (List.mem_of_getElem? (i := 5) rfl))).1, L_istore dR_set_3 (by decide) (L_aload_n dR_set_5 rfl (L_iload_n dR_set_6 rfl (L_iload_n dR_set_7 rfl (L_iload_n dR_set_8 rfl (L_iload dR_set_9 rfl (L_callSI rfl cs_R_cell (As := [vI x2, vI x3, vI x4]) rfl (tk8 75 rfl rfl) rfl (Nat.le_of_ble_eq_true rfl) dR_set_11 (Tri.mono ((h (hok _ (List.mem_of_getElem? (i := 1) rfl)) (hok _ (List.mem_of_getElem? (i := 2) rfl)) (hok _ (List.mem_of_getElem? (i := 3) rfl)) (hok _ (List.mem_of_getElem? (i := 4) rfl)) (hok _ (List.mem_of_getElem? (i := 5) rfl))).2) (fun r1 σ1 q1 => L_iadd dR_set_14 (L_iload dR_set_15 rfl (L_iload dR_set_17 rfl (L_callSI rfl cs_R_left (As := [vI x5, vI (σ x0 x1)]) rfl (tk8 93 rfl rfl) rfl (Nat.le_of_ble_eq_true rfl) dR_set_19 (Tri.mono q1 (fun r2 σ2 q2 => L_iastoreN dR_set_22 ⟨q2.1, fun σ3 e3 => L_aload_n dR_set_23 rfl (L_iload_n dR_set_24 rfl (L_iload_n dR_set_25 rfl (L_iload_n dR_set_26 rfl (L_iload dR_set_27 rfl (L_callSI rfl cs_R_cell (As := [vI x3, vI x2, vI x4]) rfl (tk8 75 rfl rfl) rfl (Nat.le_of_ble_eq_true rfl) dR_set_29 (Tri.mono (q2.2 σ3 e3) (fun r4 σ4 q4 => L_iadd dR_set_32 (L_iload dR_set_33 rfl (L_ineg dR_set_35 (L_iload dR_set_36 rfl (L_callSI rfl cs_R_left (As := [vI (w32 (-x5)), vI (σ x0 x1)]) rfl (tk8 93 rfl rfl) rfl (Nat.le_of_ble_eq_true rfl) dR_set_38 (Tri.mono q4 (fun r5 σ5 q5 => L_iastoreN dR_set_41 ⟨q5.1, fun σ6 e6 => L_return rfl dR_set_42 (q5.2 σ6 e6)⟩)))))))))))))⟩)))))))))))))⟩)))
theorem dR_clear_0 : decode prog_14_method_55_code 0 = .ok (.iconst 0, 1) := by decide +kernel
theorem dR_clear_1 : decode prog_14_method_55_code 1 = .ok (.istore 4, 2) := by decide +kernel
theorem dR_clear_3 : decode prog_14_method_55_code 3 = .ok (.iload 4, 2) := by decide +kernel
theorem dR_clear_5 : decode prog_14_method_55_code 5 = .ok (.bipush 127, 2) := by decide +kernel
theorem dR_clear_7 : decode prog_14_method_55_code 7 = .ok (.if_icmp .ge 16, 3) := by decide +kernel
theorem dR_clear_10 : decode prog_14_method_55_code 10 = .ok (.aload_n 0, 1) := by decide +kernel
theorem dR_clear_11 : decode prog_14_method_55_code 11 = .ok (.iload_n 1, 1) := by decide +kernel
theorem dR_clear_12 : decode prog_14_method_55_code 12 = .ok (.iload 4, 2) := by decide +kernel
theorem dR_clear_14 : decode prog_14_method_55_code 14 = .ok (.iadd, 1) := by decide +kernel
theorem dR_clear_15 : decode prog_14_method_55_code 15 = .ok (.iconst 0, 1) := by decide +kernel
theorem dR_clear_16 : decode prog_14_method_55_code 16 = .ok (.iastore, 1) := by decide +kernel
theorem dR_clear_17 : decode prog_14_method_55_code 17 = .ok (.iinc 4 1, 3) := by decide +kernel
theorem dR_clear_20 : decode prog_14_method_55_code 20 = .ok (.goto (-17), 3) := by decide +kernel
theorem dR_clear_23 : decode prog_14_method_55_code 23 = .ok (.aload_n 0, 1) := by decide +kernel
theorem dR_clear_24 : decode prog_14_method_55_code 24 = .ok (.iload_n 1, 1) := by decide +kernel
theorem dR_clear_25 : decode prog_14_method_55_code 25 = .ok (.iload_n 2, 1) := by decide +kernel
theorem dR_clear_26 : decode prog_14_method_55_code 26 = .ok (.iastore, 1) := by decide +kernel
theorem dR_clear_27 : decode prog_14_method_55_code 27 = .ok (.aload_n 0, 1) := by decide +kernel
theorem dR_clear_28 : decode prog_14_method_55_code 28 = .ok (.iload_n 1, 1) := by decide +kernel
theorem dR_clear_29 : decode prog_14_method_55_code 29 = .ok (.iconst 1, 1) := by decide +kernel
theorem dR_clear_30 : decode prog_14_method_55_code 30 = .ok (.iadd, 1) := by decide +kernel
theorem dR_clear_31 : decode prog_14_method_55_code 31 = .ok (.iload_n 3, 1) := by decide +kernel
theorem dR_clear_32 : decode prog_14_method_55_code 32 = .ok (.iastore, 1) := by decide +kernel
theorem dR_clear_33 : decode prog_14_method_55_code 33 = .ok (.return_, 1) := by decide +kernel
theorem t_R_clear {d : Nat} {x0 x1 x2 x3 : Int} {σ : SG} {Q : Int → SG → Prop} (h : inI x1 → inI x2 → inI x3 → (L (d + 1) M_R_clear 3 [vA x0, vI x1, vI x2, vI x3, vI 0] [] σ Q)) : Tri (d + 1) M_R_clear [vA x0, vI x1, vI x2, vI x3] σ Q :=
  Tri_intro rfl (Nat.le_of_ble_eq_true rfl) (ls := [vA x0, vI x1, vI x2, vI x3, vU]) rfl (fun hok => L_iconst dR_clear_0 in_0 (L_istore dR_clear_1 (by decide) ((h (hok _ (List.mem_of_getElem? (i := 1) rfl)) (hok _ (List.mem_of_getElem? (i := 2) rfl)) (hok _ (List.mem_of_getElem? (i := 3) rfl))))))
theorem s_R_clear_3 {d : Nat} {x0 x1 x2 x3 x4 : Int} {σ : SG} {Q : Int → SG → Prop} (h : (127 ≤ x4 → wrok 100 x0 x1 ∧ (∀ σ2, σ2 = up σ x0 x1 x2 → wrok 100 x0 (w32 (x1 + 1)) ∧ (∀ σ3, σ3 = up σ2 x0 (w32 (x1 + 1)) x3 → Q 0 σ3))) ∧ (x4 < 127 → wrok 100 x0 (w32 (x1 + x4)) ∧ (∀ σ4, σ4 = up σ x0 (w32 (x1 + x4)) 0 → L (d + 1) M_R_clear 3 [vA x0, vI x1, vI x2, vI x3, vI (w32 (x4 + 1))] [] σ4 Q))) : L (d + 1) M_R_clear 3 [vA x0, vI x1, vI x2, vI x3, vI x4] [] σ Q :=
  L_iload dR_clear_3 rfl (L_bipush dR_clear_5 bp_127 in_127 (L_icmp_ge dR_clear_7 (by decide) ⟨fun c1 => L_aload_n dR_clear_23 rfl (L_iload_n dR_clear_24 rfl (L_iload_n dR_clear_25 rfl (L_iastoreN dR_clear_26 ⟨(h.1 c1).1, fun σ2 e2 => L_aload_n dR_clear_27 rfl (L_iload_n dR_clear_28 rfl (L_iconst dR_clear_29 in_1 (L_iadd dR_clear_30 (L_iload_n dR_clear_31 rfl (L_iastoreN dR_clear_32 ⟨((h.1 c1).2 σ2 e2).1, fun σ3 e3 => L_return rfl dR_clear_33 (((h.1 c1).2 σ2 e2).2 σ3 e3)⟩)))))⟩))), fun c1 => L_aload_n dR_clear_10 rfl (L_iload_n dR_clear_11 rfl (L_iload dR_clear_12 rfl (L_iadd dR_clear_14 (L_iconst dR_clear_15 in_0 (L_iastoreN dR_clear_16 ⟨(h.2 c1).1, fun σ4 e4 => L_iinc dR_clear_17 rfl (by decide) (L_goto dR_clear_20 (by decide) ((h.2 c1).2 σ4 e4))⟩)))))⟩))
theorem dR_move_0 : decode prog_14_method_56_code 0 = .ok (.iconst 0, 1) := by decide +kernel
theorem dR_move_1 : decode prog_14_method_56_code 1 = .ok (.istore 5, 2) := by decide +kernel
theorem dR_move_3 : decode prog_14_method_56_code 3 = .ok (.iload 5, 2) := by decide +kernel
theorem dR_move_5 : decode prog_14_method_56_code 5 = .ok (.bipush 127, 2) := by decide +kernel
theorem dR_move_7 : decode prog_14_method_56_code 7 = .ok (.if_icmp .ge 22, 3) := by decide +kernel
theorem dR_move_10 : decode prog_14_method_56_code 10 = .ok (.aload_n 3, 1) := by decide +kernel
theorem dR_move_11 : decode prog_14_method_56_code 11 = .ok (.iload 4, 2) := by decide +kernel
theorem dR_move_13 : decode prog_14_method_56_code 13 = .ok (.iload 5, 2) := by decide +kernel
theorem dR_move_15 : decode prog_14_method_56_code 15 = .ok (.iadd, 1) := by decide +kernel
theorem dR_move_16 : decode prog_14_method_56_code 16 = .ok (.aload_n 1, 1) := by decide +kernel
theorem dR_move_17 : decode prog_14_method_56_code 17 = .ok (.iload_n 2, 1) := by decide +kernel
theorem dR_move_18 : decode prog_14_method_56_code 18 = .ok (.iload 5, 2) := by decide +kernel
theorem dR_move_20 : decode prog_14_method_56_code 20 = .ok (.iadd, 1) := by decide +kernel
theorem dR_move_21 : decode prog_14_method_56_code 21 = .ok (.iaload, 1) := by decide +kernel
theorem dR_move_22 : decode prog_14_method_56_code 22 = .ok (.iastore, 1) := by decide +kernel
theorem dR_move_23 : decode prog_14_method_56_code 23 = .ok (.iinc 5 1, 3) := by decide +kernel
theorem dR_move_26 : decode prog_14_method_56_code 26 = .ok (.goto (-23), 3) := by decide +kernel
theorem dR_move_29 : decode prog_14_method_56_code 29 = .ok (.return_, 1) := by decide +kernel
theorem t_R_move {d : Nat} {x1 x2 x3 x4 : Int} {σ : SG} {Q : Int → SG → Prop} (h : inI x2 → inI x4 → (L (d + 1) M_R_move 3 [vU, vA x1, vI x2, vA x3, vI x4, vI 0] [] σ Q)) : Tri (d + 1) M_R_move [vA 161, vA x1, vI x2, vA x3, vI x4] σ Q :=
  Tri_intro rfl (Nat.le_of_ble_eq_true rfl) (ls := [vA 161, vA x1, vI x2, vA x3, vI x4, vU]) rfl (fun hok => L_iconst dR_move_0 in_0 (L_istore dR_move_1 (by decide) (L_weak [false, true, true, true, true, true] ((h (hok _ (List.mem_of_getElem? (i := 2) rfl)) (hok _ (List.mem_of_getElem? (i := 4) rfl)))))))
theorem s_R_move_3 {d : Nat} {x1 x2 x3 x4 x5 : Int} {σ : SG} {Q : Int → SG → Prop} (h : (127 ≤ x5 → Q 0 σ) ∧ (x5 < 127 → rdok 100 x1 (w32 (x2 + x5)) ∧ wrok 100 x3 (w32 (x4 + x5)) ∧ (∀ σ2, σ2 = up σ x3 (w32 (x4 + x5)) (σ x1 (w32 (x2 + x5))) → L (d + 1) M_R_move 3 [vU, vA x1, vI x2, vA x3, vI x4, vI (w32 (x5 + 1))] [] σ2 Q))) : L (d + 1) M_R_move 3 [vU, vA x1, vI x2, vA x3, vI x4, vI x5] [] σ Q :=
  L_iload dR_move_3 rfl (L_bipush dR_move_5 bp_127 in_127 (L_icmp_ge dR_move_7 (by decide) ⟨fun c1 => L_return rfl dR_move_29 (h.1 c1), fun c1 => L_aload_n dR_move_10 rfl (L_iload dR_move_11 rfl (L_iload dR_move_13 rfl (L_iadd dR_move_15 (L_aload_n dR_move_16 rfl (L_iload_n dR_move_17 rfl (L_iload dR_move_18 rfl (L_iadd dR_move_20 (L_iaload dR_move_21 ⟨(h.2 c1).1, L_iastoreN dR_move_22 ⟨(h.2 c1).2.1, fun σ2 e2 => L_iinc dR_move_23 rfl (by decide) (L_goto dR_move_26 (by decide) ((h.2 c1).2.2 σ2 e2))⟩⟩))))))))⟩))
theorem dR_isPrimeNumber_0 : decode prog_14_method_57_code 0 = .ok (.iload_n 1, 1) := by decide +kernel
theorem dR_isPrimeNumber_1 : decode prog_14_method_57_code 1 = .ok (.iconst 2, 1) := by decide +kernel
theorem dR_isPrimeNumber_2 : decode prog_14_method_57_code 2 = .ok (.if_icmp .eq 19, 3) := by decide +kernel
theorem dR_isPrimeNumber_5 : decode prog_14_method_57_code 5 = .ok (.iload_n 1, 1) := by decide +kernel
theorem dR_isPrimeNumber_6 : decode prog_14_method_57_code 6 = .ok (.iconst 3, 1) := by decide +kernel
theorem dR_isPrimeNumber_7 : decode prog_14_method_57_code 7 = .ok (.if_icmp .eq 14, 3) := by decide +kernel
theorem dR_isPrimeNumber_10 : decode prog_14_method_57_code 10 = .ok (.iload_n 1, 1) := by decide +kernel
theorem dR_isPrimeNumber_11 : decode prog_14_method_57_code 11 = .ok (.iconst 5, 1) := by decide +kernel
theorem dR_isPrimeNumber_12 : decode prog_14_method_57_code 12 = .ok (.if_icmp .eq 9, 3) := by decide +kernel
theorem dR_isPrimeNumber_15 : decode prog_14_method_57_code 15 = .ok (.iload_n 1, 1) := by decide +kernel
theorem dR_isPrimeNumber_16 : decode prog_14_method_57_code 16 = .ok (.bipush 7, 2) := by decide +kernel
theorem dR_isPrimeNumber_18 : decode prog_14_method_57_code 18 = .ok (.if_icmp .ne 7, 3) := by decide +kernel
theorem dR_isPrimeNumber_21 : decode prog_14_method_57_code 21 = .ok (.iconst 1, 1) := by decide +kernel
theorem dR_isPrimeNumber_22 : decode prog_14_method_57_code 22 = .ok (.goto 4, 3) := by decide +kernel
theorem dR_isPrimeNumber_25 : decode prog_14_method_57_code 25 = .ok (.iconst 0, 1) := by decide +kernel
theorem dR_isPrimeNumber_26 : decode prog_14_method_57_code 26 = .ok (.ireturn, 1) := by decide +kernel
theorem t_R_isPrimeNumber {d : Nat} {x1 : Int} {σ : SG} {Q : Int → SG → Prop} (h : inI x1 → ((x1 = 2 → Q 1 σ) ∧ (x1 ≠ 2 → (x1 = 3 → Q 1 σ) ∧ (x1 ≠ 3 → (x1 = 5 → Q 1 σ) ∧ (x1 ≠ 5 → (x1 ≠ 7 → Q 0 σ) ∧ (x1 = 7 → Q 1 σ)))))) : Tri (d + 1) M_R_isPrimeNumber [vA 161, vI x1] σ Q :=
  Tri_intro rfl (Nat.le_of_ble_eq_true rfl) (ls := [vA 161, vI x1]) rfl (fun hok => L_iload_n dR_isPrimeNumber_0 rfl (L_iconst dR_isPrimeNumber_1 in_2 (L_icmp_eq dR_isPrimeNumber_2 (by decide) ⟨fun c1 => L_iconst dR_isPrimeNumber_21 in_1 (L_goto dR_isPrimeNumber_22 (by decide) (L_zreturn1 rfl dR_isPrimeNumber_26 ((h (hok _ (List.mem_of_getElem? (i := 1) rfl))).1 c1))), fun c1 => L_iload_n dR_isPrimeNumber_5 rfl (L_iconst dR_isPrimeNumber_6 in_3 (L_icmp_eq dR_isPrimeNumber_7 (by decide) ⟨fun c2 => L_iconst dR_isPrimeNumber_21 in_1 (L_goto dR_isPrimeNumber_22 (by decide) (L_zreturn1 rfl dR_isPrimeNumber_26 (((h (hok _ (List.mem_of_getElem? (i := 1) rfl))).2 c1).1 c2))), fun c2 => L_iload_n dR_isPrimeNumber_10 rfl (L_iconst dR_isPrimeNumber_11 in_5 (L_icmp_eq dR_isPrimeNumber_12 (by decide) ⟨fun c3 => L_iconst dR_isPrimeNumber_21 in_1 (L_goto dR_isPrimeNumber_22 (by decide) (L_zreturn1 rfl dR_isPrimeNumber_26 ((((h (hok _ (List.mem_of_getElem? (i := 1) rfl))).2 c1).2 c2).1 c3))), fun c3 => L_iload_n dR_isPrimeNumber_15 rfl (L_bipush dR_isPrimeNumber_16 bp_7 in_7 (L_icmp_ne dR_isPrimeNumber_18 (by decide) ⟨fun c4 => L_iconst dR_isPrimeNumber_25 in_0 (L_zreturn0 rfl dR_isPrimeNumber_26 (((((h (hok _ (List.mem_of_getElem? (i := 1) rfl))).2 c1).2 c2).2 c3).1 c4)), fun c4 => L_iconst dR_isPrimeNumber_21 in_1 (L_goto dR_isPrimeNumber_22 (by decide) (L_zreturn1 rfl dR_isPrimeNumber_26 (((((h (hok _ (List.mem_of_getElem? (i := 1) rfl))).2 c1).2 c2).2 c3).2 c4)))⟩))⟩))⟩))⟩)))
theorem dR_readBracket_0 : decode prog_14_method_58_code 0 = .ok (.aload_n 0, 1) := by decide +kernel
theorem dR_readBracket_1 : decode prog_14_method_58_code 1 = .ok (.invokevirtual 231, 3) := by decide +kernel
theorem dR_readBracket_4 : decode prog_14_method_58_code 4 = .ok (.aload_n 0, 1) := by decide +kernel
theorem dR_readBracket_5 : decode prog_14_method_58_code 5 = .ok (.getfield 38, 3) := by decide +kernel
theorem dR_readBracket_8 : decode prog_14_method_58_code 8 = .ok (.iconst 1, 1) := by decide +kernel
theorem dR_readBracket_9 : decode prog_14_method_58_code 9 = .ok (.iaload, 1) := by decide +kernel
theorem dR_readBracket_10 : decode prog_14_method_58_code 10 = .ok (.istore_n 1, 1) := by decide +kernel
theorem dR_readBracket_11 : decode prog_14_method_58_code 11 = .ok (.aload_n 0, 1) := by decide +kernel
theorem dR_readBracket_12 : decode prog_14_method_58_code 12 = .ok (.iconst 0, 1) := by decide +kernel
theorem dR_readBracket_13 : decode prog_14_method_58_code 13 = .ok (.iload_n 1, 1) := by decide +kernel
theorem dR_readBracket_14 : decode prog_14_method_58_code 14 = .ok (.iconst 1, 1) := by decide +kernel
theorem dR_readBracket_15 : decode prog_14_method_58_code 15 = .ok (.isub, 1) := by decide +kernel
theorem dR_readBracket_16 : decode prog_14_method_58_code 16 = .ok (.invokevirtual 267, 3) := by decide +kernel
theorem dR_readBracket_19 : decode prog_14_method_58_code 19 = .ok (.istore_n 2, 1) := by decide +kernel
theorem dR_readBracket_20 : decode prog_14_method_58_code 20 = .ok (.aload_n 0, 1) := by decide +kernel
theorem dR_readBracket_21 : decode prog_14_method_58_code 21 = .ok (.getfield 177, 3) := by decide +kernel
theorem dR_readBracket_24 : decode prog_14_method_58_code 24 = .ok (.istore_n 3, 1) := by decide +kernel
theorem dR_readBracket_25 : decode prog_14_method_58_code 25 = .ok (.aload_n 0, 1) := by decide +kernel
theorem dR_readBracket_26 : decode prog_14_method_58_code 26 = .ok (.iload_n 2, 1) := by decide +kernel
theorem dR_readBracket_27 : decode prog_14_method_58_code 27 = .ok (.iconst 1, 1) := by decide +kernel
theorem dR_readBracket_28 : decode prog_14_method_58_code 28 = .ok (.iadd, 1) := by decide +kernel
theorem dR_readBracket_29 : decode prog_14_method_58_code 29 = .ok (.iload_n 1, 1) := by decide +kernel
theorem dR_readBracket_30 : decode prog_14_method_58_code 30 = .ok (.iconst 1, 1) := by decide +kernel
theorem dR_readBracket_31 : decode prog_14_method_58_code 31 = .ok (.isub, 1) := by decide +kernel
theorem dR_readBracket_32 : decode prog_14_method_58_code 32 = .ok (.invokevirtual 267, 3) := by decide +kernel
theorem dR_readBracket_35 : decode prog_14_method_58_code 35 = .ok (.istore 4, 2) := by decide +kernel
theorem dR_readBracket_37 : decode prog_14_method_58_code 37 = .ok (.aload_n 0, 1) := by decide +kernel
theorem dR_readBracket_38 : decode prog_14_method_58_code 38 = .ok (.getfield 221, 3) := by decide +kernel
theorem dR_readBracket_41 : decode prog_14_method_58_code 41 = .ok (.ifCond .ne 26, 3) := by decide +kernel
theorem dR_readBracket_44 : decode prog_14_method_58_code 44 = .ok (.aload_n 0, 1) := by decide +kernel
theorem dR_readBracket_45 : decode prog_14_method_58_code 45 = .ok (.getfield 38, 3) := by decide +kernel
theorem dR_readBracket_48 : decode prog_14_method_58_code 48 = .ok (.iload 4, 2) := by decide +kernel
theorem dR_readBracket_50 : decode prog_14_method_58_code 50 = .ok (.iload 4, 2) := by decide +kernel
theorem dR_readBracket_52 : decode prog_14_method_58_code 52 = .ok (.iload_n 2, 1) := by decide +kernel
theorem dR_readBracket_53 : decode prog_14_method_58_code 53 = .ok (.invokestatic 260, 3) := by decide +kernel
theorem dR_readBracket_56 : decode prog_14_method_58_code 56 = .ok (.iaload, 1) := by decide +kernel
theorem dR_readBracket_57 : decode prog_14_method_58_code 57 = .ok (.iconst 1, 1) := by decide +kernel
theorem dR_readBracket_58 : decode prog_14_method_58_code 58 = .ok (.if_icmp .ne 9, 3) := by decide +kernel
theorem dR_readBracket_61 : decode prog_14_method_58_code 61 = .ok (.aload_n 0, 1) := by decide +kernel
theorem dR_readBracket_62 : decode prog_14_method_58_code 62 = .ok (.iconst 5, 1) := by decide +kernel
theorem dR_readBracket_63 : decode prog_14_method_58_code 63 = .ok (.iload_n 3, 1) := by decide +kernel
theorem dR_readBracket_64 : decode prog_14_method_58_code 64 = .ok (.invokevirtual 227, 3) := by decide +kernel
theorem dR_readBracket_67 : decode prog_14_method_58_code 67 = .ok (.aload_n 0, 1) := by decide +kernel
theorem dR_readBracket_68 : decode prog_14_method_58_code 68 = .ok (.getfield 221, 3) := by decide +kernel
theorem dR_readBracket_71 : decode prog_14_method_58_code 71 = .ok (.ifCond .le 4, 3) := by decide +kernel
theorem dR_readBracket_74 : decode prog_14_method_58_code 74 = .ok (.return_, 1) := by decide +kernel
theorem dR_readBracket_75 : decode prog_14_method_58_code 75 = .ok (.aload_n 0, 1) := by decide +kernel
theorem dR_readBracket_76 : decode prog_14_method_58_code 76 = .ok (.getfield 38, 3) := by decide +kernel
theorem dR_readBracket_79 : decode prog_14_method_58_code 79 = .ok (.iload 4, 2) := by decide +kernel
theorem dR_readBracket_81 : decode prog_14_method_58_code 81 = .ok (.iload 4, 2) := by decide +kernel
theorem dR_readBracket_83 : decode prog_14_method_58_code 83 = .ok (.iload_n 2, 1) := by decide +kernel
theorem dR_readBracket_84 : decode prog_14_method_58_code 84 = .ok (.invokestatic 260, 3) := by decide +kernel
theorem dR_readBracket_87 : decode prog_14_method_58_code 87 = .ok (.iconst 1, 1) := by decide +kernel
theorem dR_readBracket_88 : decode prog_14_method_58_code 88 = .ok (.iastore, 1) := by decide +kernel
theorem dR_readBracket_89 : decode prog_14_method_58_code 89 = .ok (.aload_n 0, 1) := by decide +kernel
theorem dR_readBracket_90 : decode prog_14_method_58_code 90 = .ok (.aload_n 0, 1) := by decide +kernel
theorem dR_readBracket_91 : decode prog_14_method_58_code 91 = .ok (.invokevirtual 270, 3) := by decide +kernel
theorem dR_readBracket_94 : decode prog_14_method_58_code 94 = .ok (.invokevirtual 273, 3) := by decide +kernel
theorem dR_readBracket_97 : decode prog_14_method_58_code 97 = .ok (.iconst 0, 1) := by decide +kernel
theorem dR_readBracket_98 : decode prog_14_method_58_code 98 = .ok (.istore 5, 2) := by decide +kernel
theorem dR_readBracket_100 : decode prog_14_method_58_code 100 = .ok (.iconst 1, 1) := by decide +kernel
theorem dR_readBracket_101 : decode prog_14_method_58_code 101 = .ok (.istore 6, 2) := by decide +kernel
theorem dR_readBracket_103 : decode prog_14_method_58_code 103 = .ok (.iload 6, 2) := by decide +kernel
theorem dR_readBracket_105 : decode prog_14_method_58_code 105 = .ok (.ifCond .eq 157, 3) := by decide +kernel
theorem dR_readBracket_108 : decode prog_14_method_58_code 108 = .ok (.aload_n 0, 1) := by decide +kernel
theorem dR_readBracket_109 : decode prog_14_method_58_code 109 = .ok (.getfield 221, 3) := by decide +kernel
theorem dR_readBracket_112 : decode prog_14_method_58_code 112 = .ok (.ifCond .ne 150, 3) := by decide +kernel
theorem dR_readBracket_115 : decode prog_14_method_58_code 115 = .ok (.aload_n 0, 1) := by decide +kernel
theorem dR_readBracket_116 : decode prog_14_method_58_code 116 = .ok (.invokevirtual 277, 3) := by decide +kernel
theorem dR_readBracket_119 : decode prog_14_method_58_code 119 = .ok (.istore 7, 2) := by decide +kernel
theorem dR_readBracket_121 : decode prog_14_method_58_code 121 = .ok (.iload 7, 2) := by decide +kernel
theorem dR_readBracket_123 : decode prog_14_method_58_code 123 = .ok (.ifCond .eq 7, 3) := by decide +kernel
theorem dR_readBracket_126 : decode prog_14_method_58_code 126 = .ok (.aload_n 0, 1) := by decide +kernel
theorem dR_readBracket_127 : decode prog_14_method_58_code 127 = .ok (.invokevirtual 231, 3) := by decide +kernel
theorem dR_readBracket_130 : decode prog_14_method_58_code 130 = .ok (.aload_n 0, 1) := by decide +kernel
theorem dR_readBracket_131 : decode prog_14_method_58_code 131 = .ok (.iconst 1, 1) := by decide +kernel
theorem dR_readBracket_132 : decode prog_14_method_58_code 132 = .ok (.aload_n 0, 1) := by decide +kernel
theorem dR_readBracket_133 : decode prog_14_method_58_code 133 = .ok (.getfield 38, 3) := by decide +kernel
theorem dR_readBracket_136 : decode prog_14_method_58_code 136 = .ok (.iconst 0, 1) := by decide +kernel
theorem dR_readBracket_137 : decode prog_14_method_58_code 137 = .ok (.iaload, 1) := by decide +kernel
theorem dR_readBracket_138 : decode prog_14_method_58_code 138 = .ok (.iconst 1, 1) := by decide +kernel
theorem dR_readBracket_139 : decode prog_14_method_58_code 139 = .ok (.isub, 1) := by decide +kernel
theorem dR_readBracket_140 : decode prog_14_method_58_code 140 = .ok (.invokevirtual 267, 3) := by decide +kernel
theorem dR_readBracket_143 : decode prog_14_method_58_code 143 = .ok (.istore 8, 2) := by decide +kernel
theorem dR_readBracket_145 : decode prog_14_method_58_code 145 = .ok (.aload_n 0, 1) := by decide +kernel
theorem dR_readBracket_146 : decode prog_14_method_58_code 146 = .ok (.aload_n 0, 1) := by decide +kernel
theorem dR_readBracket_147 : decode prog_14_method_58_code 147 = .ok (.invokevirtual 280, 3) := by decide +kernel
theorem dR_readBracket_150 : decode prog_14_method_58_code 150 = .ok (.invokevirtual 273, 3) := by decide +kernel
theorem dR_readBracket_153 : decode prog_14_method_58_code 153 = .ok (.aload_n 0, 1) := by decide +kernel
theorem dR_readBracket_154 : decode prog_14_method_58_code 154 = .ok (.getfield 177, 3) := by decide +kernel
theorem dR_readBracket_157 : decode prog_14_method_58_code 157 = .ok (.istore 9, 2) := by decide +kernel
theorem dR_readBracket_159 : decode prog_14_method_58_code 159 = .ok (.aload_n 0, 1) := by decide +kernel
theorem dR_readBracket_160 : decode prog_14_method_58_code 160 = .ok (.iconst 0, 1) := by decide +kernel
theorem dR_readBracket_161 : decode prog_14_method_58_code 161 = .ok (.iload_n 1, 1) := by decide +kernel
theorem dR_readBracket_162 : decode prog_14_method_58_code 162 = .ok (.iconst 1, 1) := by decide +kernel
theorem dR_readBracket_163 : decode prog_14_method_58_code 163 = .ok (.isub, 1) := by decide +kernel
theorem dR_readBracket_164 : decode prog_14_method_58_code 164 = .ok (.invokevirtual 267, 3) := by decide +kernel
theorem dR_readBracket_167 : decode prog_14_method_58_code 167 = .ok (.istore 10, 2) := by decide +kernel
theorem dR_readBracket_169 : decode prog_14_method_58_code 169 = .ok (.aload_n 0, 1) := by decide +kernel
theorem dR_readBracket_170 : decode prog_14_method_58_code 170 = .ok (.getfield 221, 3) := by decide +kernel
theorem dR_readBracket_173 : decode prog_14_method_58_code 173 = .ok (.ifCond .ne 21, 3) := by decide +kernel
theorem dR_readBracket_176 : decode prog_14_method_58_code 176 = .ok (.iload 5, 2) := by decide +kernel
theorem dR_readBracket_178 : decode prog_14_method_58_code 178 = .ok (.iload 10, 2) := by decide +kernel
theorem dR_readBracket_180 : decode prog_14_method_58_code 180 = .ok (.ishr, 1) := by decide +kernel
theorem dR_readBracket_181 : decode prog_14_method_58_code 181 = .ok (.iconst 1, 1) := by decide +kernel
theorem dR_readBracket_182 : decode prog_14_method_58_code 182 = .ok (.iand, 1) := by decide +kernel
theorem dR_readBracket_183 : decode prog_14_method_58_code 183 = .ok (.iconst 1, 1) := by decide +kernel
theorem dR_readBracket_184 : decode prog_14_method_58_code 184 = .ok (.if_icmp .ne 10, 3) := by decide +kernel
theorem dR_readBracket_187 : decode prog_14_method_58_code 187 = .ok (.aload_n 0, 1) := by decide +kernel
theorem dR_readBracket_188 : decode prog_14_method_58_code 188 = .ok (.iconst 5, 1) := by decide +kernel
theorem dR_readBracket_189 : decode prog_14_method_58_code 189 = .ok (.iload 9, 2) := by decide +kernel
theorem dR_readBracket_191 : decode prog_14_method_58_code 191 = .ok (.invokevirtual 227, 3) := by decide +kernel
theorem dR_readBracket_194 : decode prog_14_method_58_code 194 = .ok (.aload_n 0, 1) := by decide +kernel
theorem dR_readBracket_195 : decode prog_14_method_58_code 195 = .ok (.getfield 221, 3) := by decide +kernel
theorem dR_readBracket_198 : decode prog_14_method_58_code 198 = .ok (.ifCond .le 4, 3) := by decide +kernel
theorem dR_readBracket_201 : decode prog_14_method_58_code 201 = .ok (.return_, 1) := by decide +kernel
theorem dR_readBracket_202 : decode prog_14_method_58_code 202 = .ok (.iload 5, 2) := by decide +kernel
theorem dR_readBracket_204 : decode prog_14_method_58_code 204 = .ok (.iconst 1, 1) := by decide +kernel
theorem dR_readBracket_205 : decode prog_14_method_58_code 205 = .ok (.iload 10, 2) := by decide +kernel
theorem dR_readBracket_207 : decode prog_14_method_58_code 207 = .ok (.ishl, 1) := by decide +kernel
theorem dR_readBracket_208 : decode prog_14_method_58_code 208 = .ok (.ior, 1) := by decide +kernel
theorem dR_readBracket_209 : decode prog_14_method_58_code 209 = .ok (.istore 5, 2) := by decide +kernel
theorem dR_readBracket_211 : decode prog_14_method_58_code 211 = .ok (.aload_n 0, 1) := by decide +kernel
theorem dR_readBracket_212 : decode prog_14_method_58_code 212 = .ok (.getfield 38, 3) := by decide +kernel
theorem dR_readBracket_215 : decode prog_14_method_58_code 215 = .ok (.iconst 0, 1) := by decide +kernel
theorem dR_readBracket_216 : decode prog_14_method_58_code 216 = .ok (.iload_n 2, 1) := by decide +kernel
theorem dR_readBracket_217 : decode prog_14_method_58_code 217 = .ok (.iload 4, 2) := by decide +kernel
theorem dR_readBracket_219 : decode prog_14_method_58_code 219 = .ok (.iload 10, 2) := by decide +kernel
theorem dR_readBracket_221 : decode prog_14_method_58_code 221 = .ok (.iload 7, 2) := by decide +kernel
theorem dR_readBracket_223 : decode prog_14_method_58_code 223 = .ok (.ifCond .eq 9, 3) := by decide +kernel
theorem dR_readBracket_226 : decode prog_14_method_58_code 226 = .ok (.iload 8, 2) := by decide +kernel
theorem dR_readBracket_228 : decode prog_14_method_58_code 228 = .ok (.ineg, 1) := by decide +kernel
theorem dR_readBracket_229 : decode prog_14_method_58_code 229 = .ok (.goto 5, 3) := by decide +kernel
theorem dR_readBracket_232 : decode prog_14_method_58_code 232 = .ok (.iload 8, 2) := by decide +kernel
theorem dR_readBracket_234 : decode prog_14_method_58_code 234 = .ok (.invokestatic 283, 3) := by decide +kernel
theorem dR_readBracket_237 : decode prog_14_method_58_code 237 = .ok (.aload_n 0, 1) := by decide +kernel
theorem dR_readBracket_238 : decode prog_14_method_58_code 238 = .ok (.invokevirtual 277, 3) := by decide +kernel
theorem dR_readBracket_241 : decode prog_14_method_58_code 241 = .ok (.ifCond .ne 11, 3) := by decide +kernel
theorem dR_readBracket_244 : decode prog_14_method_58_code 244 = .ok (.aload_n 0, 1) := by decide +kernel
theorem dR_readBracket_245 : decode prog_14_method_58_code 245 = .ok (.getfield 183, 3) := by decide +kernel
theorem dR_readBracket_248 : decode prog_14_method_58_code 248 = .ok (.iconst 2, 1) := by decide +kernel
theorem dR_readBracket_249 : decode prog_14_method_58_code 249 = .ok (.if_icmp .ne 7, 3) := by decide +kernel
theorem dR_readBracket_252 : decode prog_14_method_58_code 252 = .ok (.iconst 1, 1) := by decide +kernel
theorem dR_readBracket_253 : decode prog_14_method_58_code 253 = .ok (.goto 4, 3) := by decide +kernel
theorem dR_readBracket_256 : decode prog_14_method_58_code 256 = .ok (.iconst 0, 1) := by decide +kernel
theorem dR_readBracket_257 : decode prog_14_method_58_code 257 = .ok (.istore 6, 2) := by decide +kernel
theorem dR_readBracket_259 : decode prog_14_method_58_code 259 = .ok (.goto (-156), 3) := by decide +kernel
theorem dR_readBracket_262 : decode prog_14_method_58_code 262 = .ok (.return_, 1) := by decide +kernel
theorem t_R_readBracket {d : Nat} {σ : SG} {Q : Int → SG → Prop} (h : Tri d M_R_next [vA 161] σ (fun r1 σ1 => Tri d M_R_count [vA 161, vI 0, vI (w32 ((σ1 167 1) - 1))] σ1 (fun r2 σ2 => Tri d M_R_count [vA 161, vI (w32 (r2 + 1)), vI (w32 ((σ1 167 1) - 1))] σ2 (fun r3 σ3 => (σ3 161 12 ≠ 0 → L (d + 1) M_R_readBracket 67 [vA 161, vI (σ1 167 1), vI r2, vU, vI r3, vU, vU, vU, vU, vU, vU] [] σ3 Q) ∧ (σ3 161 12 = 0 → Tri d M_R_cell [vI r3, vI r3, vI r2] σ3 (fun r5 σ5 => (0 ≤ r5 ∧ r5 < 127) ∧ (σ5 167 r5 ≠ 1 → L (d + 1) M_R_readBracket 67 [vA 161, vI (σ1 167 1), vI r2, vU, vI r3, vU, vU, vU, vU, vU, vU] [] σ5 Q) ∧ (σ5 167 r5 = 1 → Tri d M_R_fail [vA 161, vI 5, vI (σ2 161 15)] σ5 (fun r7 σ7 => L (d + 1) M_R_readBracket 67 [vA 161, vI (σ1 167 1), vI r2, vU, vI r3, vU, vU, vU, vU, vU, vU] [] σ7 Q)))))))) : Tri (d + 1) M_R_readBracket [vA 161] σ Q :=
  Tri_intro rfl (Nat.le_of_ble_eq_true rfl) (ls := [vA 161, vU, vU, vU, vU, vU, vU, vU, vU, vU, vU]) rfl (fun hok => L_aload_n dR_readBracket_0 rfl (L_callVV rfl cv_R_next (As := []) rfl (tk7 236 rfl rfl) rfl (Nat.le_of_ble_eq_true rfl) dR_readBracket_1 ⟨ob_161, Tri.mono (h) (fun r1 σ1 q1 => L_aload_n dR_readBracket_4 rfl (L_getF (b := 167) fw_R_38 rfl rfl (by decide) dR_readBracket_5 ⟨ob_161, L_iconst dR_readBracket_8 in_1 (L_ialoadL kd_167 dR_readBracket_9 ⟨⟨by decide, by decide⟩, L_istore_n dR_readBracket_10 (by decide) (L_aload_n dR_readBracket_11 rfl (L_iconst dR_readBracket_12 in_0 (L_iload_n dR_readBracket_13 rfl (L_iconst dR_readBracket_14 in_1 (L_isub dR_readBracket_15 (L_callVI rfl cv_R_count (As := [vI 0, vI (w32 ((σ1 167 1) - 1))]) rfl (tk8 43 rfl rfl) rfl (Nat.le_of_ble_eq_true rfl) dR_readBracket_16 ⟨ob_161, Tri.mono q1 (fun r2 σ2 q2 => L_istore_n dR_readBracket_19 (by decide) (L_aload_n dR_readBracket_20 rfl (L_getf fw_R_177 rfl dR_readBracket_21 ⟨ob_161, L_istore_n dR_readBracket_24 (by decide) (L_aload_n dR_readBracket_25 rfl (L_iload_n dR_readBracket_26 rfl (L_iconst dR_readBracket_27 in_1 (L_iadd dR_readBracket_28 (L_iload_n dR_readBracket_29 rfl (L_iconst dR_readBracket_30 in_1 (L_isub dR_readBracket_31 (L_callVI rfl cv_R_count (As := [vI (w32 (r2 + 1)), vI (w32 ((σ1 167 1) - 1))]) rfl (tk8 43 rfl rfl) rfl (Nat.le_of_ble_eq_true rfl) dR_readBracket_32 ⟨ob_161, Tri.mono q2 (fun r3 σ3 q3 => L_istore dR_readBracket_35 (by decide) (L_aload_n dR_readBracket_37 rfl (L_getf fw_R_221 rfl dR_readBracket_38 ⟨ob_161, L_if_ne dR_readBracket_41 (by decide) ⟨fun c4 => L_weak [true, true, true, false, true, true, true, true, true, true, true] (q3.1 c4), fun c4 => L_aload_n dR_readBracket_44 rfl (L_getF (b := 167) fw_R_38 rfl rfl (by decide) dR_readBracket_45 ⟨ob_161, L_iload dR_readBracket_48 rfl (L_iload dR_readBracket_50 rfl (L_iload_n dR_readBracket_52 rfl (L_callSI rfl cs_R_cell (As := [vI r3, vI r3, vI r2]) rfl (tk8 75 rfl rfl) rfl (Nat.le_of_ble_eq_true rfl) dR_readBracket_53 (Tri.mono (q3.2 c4) (fun r5 σ5 q5 => L_ialoadL kd_167 dR_readBracket_56 ⟨q5.1, L_iconst dR_readBracket_57 in_1 (L_icmp_ne dR_readBracket_58 (by decide) ⟨fun c6 => L_weak [true, true, true, false, true, true, true, true, true, true, true] (q5.2.1 c6), fun c6 => L_aload_n dR_readBracket_61 rfl (L_iconst dR_readBracket_62 in_5 (L_iload_n dR_readBracket_63 rfl (L_callVV rfl cv_R_fail (As := [vI 5, vI (σ2 161 15)]) rfl (tk8 35 rfl rfl) rfl (Nat.le_of_ble_eq_true rfl) dR_readBracket_64 ⟨ob_161, Tri.mono (q5.2.2 c6) (fun r7 σ7 q7 => L_weak [true, true, true, false, true, true, true, true, true, true, true] q7)⟩)))⟩)⟩)))))⟩)⟩⟩)))⟩))))))))⟩)))⟩))))))⟩)⟩))⟩))
theorem s_R_readBracket_67 {d : Nat} {x1 x2 x4 : Int} {σ : SG} {Q : Int → SG → Prop} (h : (σ 161 12 ≤ 0 → Tri d M_R_cell [vI x4, vI x4, vI x2] σ (fun r2 σ2 => (0 ≤ r2 ∧ r2 < 127) ∧ (∀ σ3, σ3 = up σ2 167 r2 1 → Tri d M_R_isGives [vA 161] σ3 (fun r4 σ4 => Tri d M_R_must [vA 161, vI r4] σ4 (fun r5 σ5 => L (d + 1) M_R_readBracket 103 [vA 161, vI x1, vI x2, vU, vI x4, vI 0, vI 1, vU, vU, vU, vU] [] σ5 Q))))) ∧ (0 < σ 161 12 → Q 0 σ)) : L (d + 1) M_R_readBracket 67 [vA 161, vI x1, vI x2, vU, vI x4, vU, vU, vU, vU, vU, vU] [] σ Q :=
  L_aload_n dR_readBracket_67 rfl (L_getf fw_R_221 rfl dR_readBracket_68 ⟨ob_161, L_if_le dR_readBracket_71 (by decide) ⟨fun c1 => L_aload_n dR_readBracket_75 rfl (L_getF (b := 167) fw_R_38 rfl rfl (by decide) dR_readBracket_76 ⟨ob_161, L_iload dR_readBracket_79 rfl (L_iload dR_readBracket_81 rfl (L_iload_n dR_readBracket_83 rfl (L_callSI rfl cs_R_cell (As := [vI x4, vI x4, vI x2]) rfl (tk8 75 rfl rfl) rfl (Nat.le_of_ble_eq_true rfl) dR_readBracket_84 (Tri.mono (h.1 c1) (fun r2 σ2 q2 => L_iconst dR_readBracket_87 in_1 (L_iastoreL (by decide) kd_167 dR_readBracket_88 ⟨q2.1, fun σ3 e3 => L_aload_n dR_readBracket_89 rfl (L_aload_n dR_readBracket_90 rfl (L_callVI rfl cv_R_isGives (As := []) rfl (tk8 78 rfl rfl) rfl (Nat.le_of_ble_eq_true rfl) dR_readBracket_91 ⟨ob_161, Tri.mono (q2.2 σ3 e3) (fun r4 σ4 q4 => L_callVV rfl cv_R_must (As := [vI r4]) rfl (tk8 27 rfl rfl) rfl (Nat.le_of_ble_eq_true rfl) dR_readBracket_94 ⟨ob_161, Tri.mono q4 (fun r5 σ5 q5 => L_iconst dR_readBracket_97 in_0 (L_istore dR_readBracket_98 (by decide) (L_iconst dR_readBracket_100 in_1 (L_istore dR_readBracket_101 (by decide) q5))))⟩)⟩))⟩))))))⟩), fun c1 => L_return rfl dR_readBracket_74 (h.2 c1)⟩⟩)
theorem s_R_readBracket_103 {d : Nat} {x1 x2 x4 x5 x6 : Int} {σ : SG} {Q : Int → SG → Prop} (h : (x6 = 0 → Q 0 σ) ∧ (x6 ≠ 0 → (σ 161 12 ≠ 0 → Q 0 σ) ∧ (σ 161 12 = 0 → Tri d M_R_isLess [vA 161] σ (fun r3 σ3 => (r3 = 0 → L (d + 1) M_R_readBracket 130 [vA 161, vI x1, vI x2, vU, vI x4, vI x5, vU, vI r3, vU, vU, vU] [] σ3 Q) ∧ (r3 ≠ 0 → Tri d M_R_next [vA 161] σ3 (fun r5 σ5 => L (d + 1) M_R_readBracket 130 [vA 161, vI x1, vI x2, vU, vI x4, vI x5, vU, vI r3, vU, vU, vU] [] σ5 Q)))))) : L (d + 1) M_R_readBracket 103 [vA 161, vI x1, vI x2, vU, vI x4, vI x5, vI x6, vU, vU, vU, vU] [] σ Q :=
  L_iload dR_readBracket_103 rfl (L_if_eq dR_readBracket_105 (by decide) ⟨fun c1 => L_return rfl dR_readBracket_262 (h.1 c1), fun c1 => L_aload_n dR_readBracket_108 rfl (L_getf fw_R_221 rfl dR_readBracket_109 ⟨ob_161, L_if_ne dR_readBracket_112 (by decide) ⟨fun c2 => L_return rfl dR_readBracket_262 ((h.2 c1).1 c2), fun c2 => L_aload_n dR_readBracket_115 rfl (L_callVI rfl cv_R_isLess (As := []) rfl (tk8 82 rfl rfl) rfl (Nat.le_of_ble_eq_true rfl) dR_readBracket_116 ⟨ob_161, Tri.mono ((h.2 c1).2 c2) (fun r3 σ3 q3 => L_istore dR_readBracket_119 (by decide) (L_iload dR_readBracket_121 rfl (L_if_eq dR_readBracket_123 (by decide) ⟨fun c4 => L_weak [true, true, true, true, true, true, false, true, true, true, true] (q3.1 c4), fun c4 => L_aload_n dR_readBracket_126 rfl (L_callVV rfl cv_R_next (As := []) rfl (tk7 236 rfl rfl) rfl (Nat.le_of_ble_eq_true rfl) dR_readBracket_127 ⟨ob_161, Tri.mono (q3.2 c4) (fun r5 σ5 q5 => L_weak [true, true, true, true, true, true, false, true, true, true, true] q5)⟩)⟩)))⟩)⟩⟩)⟩)
theorem s_R_readBracket_130 {d : Nat} {x1 x2 x4 x5 x7 : Int} {σ : SG} {Q : Int → SG → Prop} (h : Tri d M_R_count [vA 161, vI 1, vI (w32 ((σ 167 0) - 1))] σ (fun r1 σ1 => Tri d M_R_isOf [vA 161] σ1 (fun r2 σ2 => Tri d M_R_must [vA 161, vI r2] σ2 (fun r3 σ3 => Tri d M_R_count [vA 161, vI 0, vI (w32 (x1 - 1))] σ3 (fun r4 σ4 => (σ4 161 12 ≠ 0 → L (d + 1) M_R_readBracket 194 [vA 161, vI x1, vI x2, vU, vI x4, vI x5, vU, vI x7, vI r1, vU, vI r4] [] σ4 Q) ∧ (σ4 161 12 = 0 → (and32 (shr32 x5 r4) 1 ≠ 1 → L (d + 1) M_R_readBracket 194 [vA 161, vI x1, vI x2, vU, vI x4, vI x5, vU, vI x7, vI r1, vU, vI r4] [] σ4 Q) ∧ (and32 (shr32 x5 r4) 1 = 1 → Tri d M_R_fail [vA 161, vI 5, vI (σ3 161 15)] σ4 (fun r7 σ7 => L (d + 1) M_R_readBracket 194 [vA 161, vI x1, vI x2, vU, vI x4, vI x5, vU, vI x7, vI r1, vU, vI r4] [] σ7 Q)))))))) : L (d + 1) M_R_readBracket 130 [vA 161, vI x1, vI x2, vU, vI x4, vI x5, vU, vI x7, vU, vU, vU] [] σ Q :=
  L_aload_n dR_readBracket_130 rfl (L_iconst dR_readBracket_131 in_1 (L_aload_n dR_readBracket_132 rfl (L_getF (b := 167) fw_R_38 rfl rfl (by decide) dR_readBracket_133 ⟨ob_161, L_iconst dR_readBracket_136 in_0 (L_ialoadL kd_167 dR_readBracket_137 ⟨⟨by decide, by decide⟩, L_iconst dR_readBracket_138 in_1 (L_isub dR_readBracket_139 (L_callVI rfl cv_R_count (As := [vI 1, vI (w32 ((σ 167 0) - 1))]) rfl (tk8 43 rfl rfl) rfl (Nat.le_of_ble_eq_true rfl) dR_readBracket_140 ⟨ob_161, Tri.mono h (fun r1 σ1 q1 => L_istore dR_readBracket_143 (by decide) (L_aload_n dR_readBracket_145 rfl (L_aload_n dR_readBracket_146 rfl (L_callVI rfl cv_R_isOf (As := []) rfl (tk8 86 rfl rfl) rfl (Nat.le_of_ble_eq_true rfl) dR_readBracket_147 ⟨ob_161, Tri.mono q1 (fun r2 σ2 q2 => L_callVV rfl cv_R_must (As := [vI r2]) rfl (tk8 27 rfl rfl) rfl (Nat.le_of_ble_eq_true rfl) dR_readBracket_150 ⟨ob_161, Tri.mono q2 (fun r3 σ3 q3 => L_aload_n dR_readBracket_153 rfl (L_getf fw_R_177 rfl dR_readBracket_154 ⟨ob_161, L_istore dR_readBracket_157 (by decide) (L_aload_n dR_readBracket_159 rfl (L_iconst dR_readBracket_160 in_0 (L_iload_n dR_readBracket_161 rfl (L_iconst dR_readBracket_162 in_1 (L_isub dR_readBracket_163 (L_callVI rfl cv_R_count (As := [vI 0, vI (w32 (x1 - 1))]) rfl (tk8 43 rfl rfl) rfl (Nat.le_of_ble_eq_true rfl) dR_readBracket_164 ⟨ob_161, Tri.mono q3 (fun r4 σ4 q4 => L_istore dR_readBracket_167 (by decide) (L_aload_n dR_readBracket_169 rfl (L_getf fw_R_221 rfl dR_readBracket_170 ⟨ob_161, L_if_ne dR_readBracket_173 (by decide) ⟨fun c5 => L_weak [true, true, true, true, true, true, true, true, true, false, true] (q4.1 c5), fun c5 => L_iload dR_readBracket_176 rfl (L_iload dR_readBracket_178 rfl (L_ishr dR_readBracket_180 (L_iconst dR_readBracket_181 in_1 (L_iand dR_readBracket_182 (L_iconst dR_readBracket_183 in_1 (L_icmp_ne dR_readBracket_184 (by decide) ⟨fun c6 => L_weak [true, true, true, true, true, true, true, true, true, false, true] ((q4.2 c5).1 c6), fun c6 => L_aload_n dR_readBracket_187 rfl (L_iconst dR_readBracket_188 in_5 (L_iload dR_readBracket_189 rfl (L_callVV rfl cv_R_fail (As := [vI 5, vI (σ3 161 15)]) rfl (tk8 35 rfl rfl) rfl (Nat.le_of_ble_eq_true rfl) dR_readBracket_191 ⟨ob_161, Tri.mono ((q4.2 c5).2 c6) (fun r7 σ7 q7 => L_weak [true, true, true, true, true, true, true, true, true, false, true] q7)⟩)))⟩))))))⟩⟩)))⟩))))))⟩))⟩)⟩))))⟩))⟩)⟩)))
theorem s_R_readBracket_194 {d : Nat} {x1 x2 x4 x5 x7 x8 x10 : Int} {σ : SG} {Q : Int → SG → Prop} (h : (σ 161 12 ≤ 0 → (x7 = 0 → L (d + 1) M_R_readBracket 234 [vA 161, vI x1, vI x2, vU, vI x4, vI (or32 x5 (shl32 1 x10)), vU, vU, vU, vU, vU] [vI x8, vI x10, vI x4, vI x2, vI 0, vA 167] σ Q) ∧ (x7 ≠ 0 → L (d + 1) M_R_readBracket 234 [vA 161, vI x1, vI x2, vU, vI x4, vI (or32 x5 (shl32 1 x10)), vU, vU, vU, vU, vU] [vI (w32 (-x8)), vI x10, vI x4, vI x2, vI 0, vA 167] σ Q)) ∧ (0 < σ 161 12 → Q 0 σ)) : L (d + 1) M_R_readBracket 194 [vA 161, vI x1, vI x2, vU, vI x4, vI x5, vU, vI x7, vI x8, vU, vI x10] [] σ Q :=
  L_aload_n dR_readBracket_194 rfl (L_getf fw_R_221 rfl dR_readBracket_195 ⟨ob_161, L_if_le dR_readBracket_198 (by decide) ⟨fun c1 => L_iload dR_readBracket_202 rfl (L_iconst dR_readBracket_204 in_1 (L_iload dR_readBracket_205 rfl (L_ishl dR_readBracket_207 (L_ior dR_readBracket_208 (L_istore dR_readBracket_209 (by decide) (L_aload_n dR_readBracket_211 rfl (L_getF (b := 167) fw_R_38 rfl rfl (by decide) dR_readBracket_212 ⟨ob_161, L_iconst dR_readBracket_215 in_0 (L_iload_n dR_readBracket_216 rfl (L_iload dR_readBracket_217 rfl (L_iload dR_readBracket_219 rfl (L_iload dR_readBracket_221 rfl (L_if_eq dR_readBracket_223 (by decide) ⟨fun c2 => L_iload dR_readBracket_232 rfl (L_weak [true, true, true, true, true, true, true, false, false, true, false] ((h.1 c1).1 c2)), fun c2 => L_iload dR_readBracket_226 rfl (L_ineg dR_readBracket_228 (L_goto dR_readBracket_229 (by decide) (L_weak [true, true, true, true, true, true, true, false, false, true, false] ((h.1 c1).2 c2))))⟩)))))⟩))))))), fun c1 => L_return rfl dR_readBracket_201 (h.2 c1)⟩⟩)
theorem s_R_readBracket_234 {d : Nat} {x1 x2 x4 x5 y0 y1 y2 y3 y4 : Int} {σ : SG} {Q : Int → SG → Prop} (h : Tri d M_R_set [vA 167, vI y4, vI y3, vI y2, vI y1, vI y0] σ (fun r1 σ1 => Tri d M_R_isLess [vA 161] σ1 (fun r2 σ2 => (r2 ≠ 0 → L (d + 1) M_R_readBracket 103 [vA 161, vI x1, vI x2, vU, vI x4, vI x5, vI 1, vU, vU, vU, vU] [] σ2 Q) ∧ (r2 = 0 → (σ2 161 14 ≠ 2 → L (d + 1) M_R_readBracket 103 [vA 161, vI x1, vI x2, vU, vI x4, vI x5, vI 0, vU, vU, vU, vU] [] σ2 Q) ∧ (σ2 161 14 = 2 → L (d + 1) M_R_readBracket 103 [vA 161, vI x1, vI x2, vU, vI x4, vI x5, vI 1, vU, vU, vU, vU] [] σ2 Q))))) : L (d + 1) M_R_readBracket 234 [vA 161, vI x1, vI x2, vU, vI x4, vI x5, vU, vU, vU, vU, vU] [vI y0, vI y1, vI y2, vI y3, vI y4, vA 167] σ Q :=
  L_callSV rfl cs_R_set (As := [vA 167, vI y4, vI y3, vI y2, vI y1, vI y0]) rfl (tk8 90 rfl rfl) rfl (Nat.le_of_ble_eq_true rfl) dR_readBracket_234 (Tri.mono h (fun r1 σ1 q1 => L_aload_n dR_readBracket_237 rfl (L_callVI rfl cv_R_isLess (As := []) rfl (tk8 82 rfl rfl) rfl (Nat.le_of_ble_eq_true rfl) dR_readBracket_238 ⟨ob_161, Tri.mono q1 (fun r2 σ2 q2 => L_if_ne dR_readBracket_241 (by decide) ⟨fun c3 => L_iconst dR_readBracket_252 in_1 (L_goto dR_readBracket_253 (by decide) (L_istore dR_readBracket_257 (by decide) (L_goto dR_readBracket_259 (by decide) (q2.1 c3)))), fun c3 => L_aload_n dR_readBracket_244 rfl (L_getf fw_R_183 rfl dR_readBracket_245 ⟨ob_161, L_iconst dR_readBracket_248 in_2 (L_icmp_ne dR_readBracket_249 (by decide) ⟨fun c4 => L_iconst dR_readBracket_256 in_0 (L_istore dR_readBracket_257 (by decide) (L_goto dR_readBracket_259 (by decide) ((q2.2 c3).1 c4))), fun c4 => L_iconst dR_readBracket_252 in_1 (L_goto dR_readBracket_253 (by decide) (L_istore dR_readBracket_257 (by decide) (L_goto dR_readBracket_259 (by decide) ((q2.2 c3).2 c4))))⟩)⟩)⟩)⟩)))
theorem dR_world_0 : decode prog_14_method_59_code 0 = .ok (.aload_n 0, 1) := by decide +kernel
theorem dR_world_1 : decode prog_14_method_59_code 1 = .ok (.iconst 0, 1) := by decide +kernel
theorem dR_world_2 : decode prog_14_method_59_code 2 = .ok (.putfield 132, 3) := by decide +kernel
theorem dR_world_5 : decode prog_14_method_59_code 5 = .ok (.aload_n 0, 1) := by decide +kernel
theorem dR_world_6 : decode prog_14_method_59_code 6 = .ok (.iconst 0, 1) := by decide +kernel
theorem dR_world_7 : decode prog_14_method_59_code 7 = .ok (.putfield 135, 3) := by decide +kernel
theorem dR_world_10 : decode prog_14_method_59_code 10 = .ok (.aload_n 0, 1) := by decide +kernel
theorem dR_world_11 : decode prog_14_method_59_code 11 = .ok (.iload_n 1, 1) := by decide +kernel
theorem dR_world_12 : decode prog_14_method_59_code 12 = .ok (.sipush 600, 3) := by decide +kernel
theorem dR_world_15 : decode prog_14_method_59_code 15 = .ok (.invokevirtual 287, 3) := by decide +kernel
theorem dR_world_18 : decode prog_14_method_59_code 18 = .ok (.ifCond .ne 5, 3) := by decide +kernel
theorem dR_world_21 : decode prog_14_method_59_code 21 = .ok (.iconst (-1), 1) := by decide +kernel
theorem dR_world_22 : decode prog_14_method_59_code 22 = .ok (.ireturn, 1) := by decide +kernel
theorem dR_world_23 : decode prog_14_method_59_code 23 = .ok (.aload_n 0, 1) := by decide +kernel
theorem dR_world_24 : decode prog_14_method_59_code 24 = .ok (.aload_n 0, 1) := by decide +kernel
theorem dR_world_25 : decode prog_14_method_59_code 25 = .ok (.invokevirtual 291, 3) := by decide +kernel
theorem dR_world_28 : decode prog_14_method_59_code 28 = .ok (.invokevirtual 273, 3) := by decide +kernel
theorem dR_world_31 : decode prog_14_method_59_code 31 = .ok (.aload_n 0, 1) := by decide +kernel
theorem dR_world_32 : decode prog_14_method_59_code 32 = .ok (.getfield 221, 3) := by decide +kernel
theorem dR_world_35 : decode prog_14_method_59_code 35 = .ok (.ifCond .ne 31, 3) := by decide +kernel
theorem dR_world_38 : decode prog_14_method_59_code 38 = .ok (.aload_n 0, 1) := by decide +kernel
theorem dR_world_39 : decode prog_14_method_59_code 39 = .ok (.getfield 183, 3) := by decide +kernel
theorem dR_world_42 : decode prog_14_method_59_code 42 = .ok (.iconst 2, 1) := by decide +kernel
theorem dR_world_43 : decode prog_14_method_59_code 43 = .ok (.if_icmp .ne 23, 3) := by decide +kernel
theorem dR_world_46 : decode prog_14_method_59_code 46 = .ok (.aload_n 0, 1) := by decide +kernel
theorem dR_world_47 : decode prog_14_method_59_code 47 = .ok (.aload_n 0, 1) := by decide +kernel
theorem dR_world_48 : decode prog_14_method_59_code 48 = .ok (.getfield 199, 3) := by decide +kernel
theorem dR_world_51 : decode prog_14_method_59_code 51 = .ok (.invokevirtual 294, 3) := by decide +kernel
theorem dR_world_54 : decode prog_14_method_59_code 54 = .ok (.ifCond .ne 12, 3) := by decide +kernel
theorem dR_world_57 : decode prog_14_method_59_code 57 = .ok (.aload_n 0, 1) := by decide +kernel
theorem dR_world_58 : decode prog_14_method_59_code 58 = .ok (.iconst 4, 1) := by decide +kernel
theorem dR_world_59 : decode prog_14_method_59_code 59 = .ok (.aload_n 0, 1) := by decide +kernel
theorem dR_world_60 : decode prog_14_method_59_code 60 = .ok (.getfield 177, 3) := by decide +kernel
theorem dR_world_63 : decode prog_14_method_59_code 63 = .ok (.invokevirtual 227, 3) := by decide +kernel
theorem dR_world_66 : decode prog_14_method_59_code 66 = .ok (.aload_n 0, 1) := by decide +kernel
theorem dR_world_67 : decode prog_14_method_59_code 67 = .ok (.iconst 2, 1) := by decide +kernel
theorem dR_world_68 : decode prog_14_method_59_code 68 = .ok (.bipush 7, 2) := by decide +kernel
theorem dR_world_70 : decode prog_14_method_59_code 70 = .ok (.invokevirtual 267, 3) := by decide +kernel
theorem dR_world_73 : decode prog_14_method_59_code 73 = .ok (.istore_n 2, 1) := by decide +kernel
theorem dR_world_74 : decode prog_14_method_59_code 74 = .ok (.aload_n 0, 1) := by decide +kernel
theorem dR_world_75 : decode prog_14_method_59_code 75 = .ok (.aload_n 0, 1) := by decide +kernel
theorem dR_world_76 : decode prog_14_method_59_code 76 = .ok (.bipush 59, 2) := by decide +kernel
theorem dR_world_78 : decode prog_14_method_59_code 78 = .ok (.invokevirtual 297, 3) := by decide +kernel
theorem dR_world_81 : decode prog_14_method_59_code 81 = .ok (.invokevirtual 273, 3) := by decide +kernel
theorem dR_world_84 : decode prog_14_method_59_code 84 = .ok (.aload_n 0, 1) := by decide +kernel
theorem dR_world_85 : decode prog_14_method_59_code 85 = .ok (.aload_n 0, 1) := by decide +kernel
theorem dR_world_86 : decode prog_14_method_59_code 86 = .ok (.invokevirtual 217, 3) := by decide +kernel
theorem dR_world_89 : decode prog_14_method_59_code 89 = .ok (.invokevirtual 273, 3) := by decide +kernel
theorem dR_world_92 : decode prog_14_method_59_code 92 = .ok (.aload_n 0, 1) := by decide +kernel
theorem dR_world_93 : decode prog_14_method_59_code 93 = .ok (.iconst 1, 1) := by decide +kernel
theorem dR_world_94 : decode prog_14_method_59_code 94 = .ok (.iload_n 2, 1) := by decide +kernel
theorem dR_world_95 : decode prog_14_method_59_code 95 = .ok (.invokestatic 300, 3) := by decide +kernel
theorem dR_world_98 : decode prog_14_method_59_code 98 = .ok (.invokevirtual 267, 3) := by decide +kernel
theorem dR_world_101 : decode prog_14_method_59_code 101 = .ok (.istore_n 3, 1) := by decide +kernel
theorem dR_world_102 : decode prog_14_method_59_code 102 = .ok (.aload_n 0, 1) := by decide +kernel
theorem dR_world_103 : decode prog_14_method_59_code 103 = .ok (.aload_n 0, 1) := by decide +kernel
theorem dR_world_104 : decode prog_14_method_59_code 104 = .ok (.bipush 59, 2) := by decide +kernel
theorem dR_world_106 : decode prog_14_method_59_code 106 = .ok (.invokevirtual 297, 3) := by decide +kernel
theorem dR_world_109 : decode prog_14_method_59_code 109 = .ok (.invokevirtual 273, 3) := by decide +kernel
theorem dR_world_112 : decode prog_14_method_59_code 112 = .ok (.aload_n 0, 1) := by decide +kernel
theorem dR_world_113 : decode prog_14_method_59_code 113 = .ok (.getfield 38, 3) := by decide +kernel
theorem dR_world_116 : decode prog_14_method_59_code 116 = .ok (.iconst 0, 1) := by decide +kernel
theorem dR_world_117 : decode prog_14_method_59_code 117 = .ok (.iload_n 2, 1) := by decide +kernel
theorem dR_world_118 : decode prog_14_method_59_code 118 = .ok (.iload_n 3, 1) := by decide +kernel
theorem dR_world_119 : decode prog_14_method_59_code 119 = .ok (.invokestatic 303, 3) := by decide +kernel
theorem dR_world_122 : decode prog_14_method_59_code 122 = .ok (.aload_n 0, 1) := by decide +kernel
theorem dR_world_123 : decode prog_14_method_59_code 123 = .ok (.getfield 221, 3) := by decide +kernel
theorem dR_world_126 : decode prog_14_method_59_code 126 = .ok (.ifCond .ne 41, 3) := by decide +kernel
theorem dR_world_129 : decode prog_14_method_59_code 129 = .ok (.aload_n 0, 1) := by decide +kernel
theorem dR_world_130 : decode prog_14_method_59_code 130 = .ok (.getfield 183, 3) := by decide +kernel
theorem dR_world_133 : decode prog_14_method_59_code 133 = .ok (.ifCond .eq 34, 3) := by decide +kernel
theorem dR_world_136 : decode prog_14_method_59_code 136 = .ok (.aload_n 0, 1) := by decide +kernel
theorem dR_world_137 : decode prog_14_method_59_code 137 = .ok (.invokevirtual 307, 3) := by decide +kernel
theorem dR_world_140 : decode prog_14_method_59_code 140 = .ok (.ifCond .eq 10, 3) := by decide +kernel
theorem dR_world_143 : decode prog_14_method_59_code 143 = .ok (.aload_n 0, 1) := by decide +kernel
theorem dR_world_144 : decode prog_14_method_59_code 144 = .ok (.invokevirtual 310, 3) := by decide +kernel
theorem dR_world_147 : decode prog_14_method_59_code 147 = .ok (.goto 7, 3) := by decide +kernel
theorem dR_world_150 : decode prog_14_method_59_code 150 = .ok (.aload_n 0, 1) := by decide +kernel
theorem dR_world_151 : decode prog_14_method_59_code 151 = .ok (.invokevirtual 234, 3) := by decide +kernel
theorem dR_world_154 : decode prog_14_method_59_code 154 = .ok (.aload_n 0, 1) := by decide +kernel
theorem dR_world_155 : decode prog_14_method_59_code 155 = .ok (.aload_n 0, 1) := by decide +kernel
theorem dR_world_156 : decode prog_14_method_59_code 156 = .ok (.bipush 59, 2) := by decide +kernel
theorem dR_world_158 : decode prog_14_method_59_code 158 = .ok (.invokevirtual 297, 3) := by decide +kernel
theorem dR_world_161 : decode prog_14_method_59_code 161 = .ok (.invokevirtual 273, 3) := by decide +kernel
theorem dR_world_164 : decode prog_14_method_59_code 164 = .ok (.goto (-42), 3) := by decide +kernel
theorem dR_world_167 : decode prog_14_method_59_code 167 = .ok (.aload_n 0, 1) := by decide +kernel
theorem dR_world_168 : decode prog_14_method_59_code 168 = .ok (.invokevirtual 313, 3) := by decide +kernel
theorem dR_world_171 : decode prog_14_method_59_code 171 = .ok (.ifCond .ne 5, 3) := by decide +kernel
theorem dR_world_174 : decode prog_14_method_59_code 174 = .ok (.iconst (-1), 1) := by decide +kernel
theorem dR_world_175 : decode prog_14_method_59_code 175 = .ok (.ireturn, 1) := by decide +kernel
theorem dR_world_176 : decode prog_14_method_59_code 176 = .ok (.iconst 0, 1) := by decide +kernel
theorem dR_world_177 : decode prog_14_method_59_code 177 = .ok (.istore 4, 2) := by decide +kernel
theorem dR_world_179 : decode prog_14_method_59_code 179 = .ok (.iload 4, 2) := by decide +kernel
theorem dR_world_181 : decode prog_14_method_59_code 181 = .ok (.iconst 5, 1) := by decide +kernel
theorem dR_world_182 : decode prog_14_method_59_code 182 = .ok (.if_icmp .ge 39, 3) := by decide +kernel
theorem dR_world_185 : decode prog_14_method_59_code 185 = .ok (.iconst 0, 1) := by decide +kernel
theorem dR_world_186 : decode prog_14_method_59_code 186 = .ok (.istore 5, 2) := by decide +kernel
theorem dR_world_188 : decode prog_14_method_59_code 188 = .ok (.iload 5, 2) := by decide +kernel
theorem dR_world_190 : decode prog_14_method_59_code 190 = .ok (.iconst 5, 1) := by decide +kernel
theorem dR_world_191 : decode prog_14_method_59_code 191 = .ok (.if_icmp .ge 24, 3) := by decide +kernel
theorem dR_world_194 : decode prog_14_method_59_code 194 = .ok (.aload_n 0, 1) := by decide +kernel
theorem dR_world_195 : decode prog_14_method_59_code 195 = .ok (.getfield 38, 3) := by decide +kernel
theorem dR_world_198 : decode prog_14_method_59_code 198 = .ok (.iload 4, 2) := by decide +kernel
theorem dR_world_200 : decode prog_14_method_59_code 200 = .ok (.iload 4, 2) := by decide +kernel
theorem dR_world_202 : decode prog_14_method_59_code 202 = .ok (.iload 5, 2) := by decide +kernel
theorem dR_world_204 : decode prog_14_method_59_code 204 = .ok (.invokestatic 260, 3) := by decide +kernel
theorem dR_world_207 : decode prog_14_method_59_code 207 = .ok (.iconst 0, 1) := by decide +kernel
theorem dR_world_208 : decode prog_14_method_59_code 208 = .ok (.iastore, 1) := by decide +kernel
theorem dR_world_209 : decode prog_14_method_59_code 209 = .ok (.iinc 5 1, 3) := by decide +kernel
theorem dR_world_212 : decode prog_14_method_59_code 212 = .ok (.goto (-24), 3) := by decide +kernel
theorem dR_world_215 : decode prog_14_method_59_code 215 = .ok (.iinc 4 1, 3) := by decide +kernel
theorem dR_world_218 : decode prog_14_method_59_code 218 = .ok (.goto (-39), 3) := by decide +kernel
theorem dR_world_221 : decode prog_14_method_59_code 221 = .ok (.aload_n 0, 1) := by decide +kernel
theorem dR_world_222 : decode prog_14_method_59_code 222 = .ok (.aload_n 0, 1) := by decide +kernel
theorem dR_world_223 : decode prog_14_method_59_code 223 = .ok (.getfield 38, 3) := by decide +kernel
theorem dR_world_226 : decode prog_14_method_59_code 226 = .ok (.iconst 0, 1) := by decide +kernel
theorem dR_world_227 : decode prog_14_method_59_code 227 = .ok (.aload_n 0, 1) := by decide +kernel
theorem dR_world_228 : decode prog_14_method_59_code 228 = .ok (.getfield 35, 3) := by decide +kernel
theorem dR_world_231 : decode prog_14_method_59_code 231 = .ok (.iconst 0, 1) := by decide +kernel
theorem dR_world_232 : decode prog_14_method_59_code 232 = .ok (.invokevirtual 316, 3) := by decide +kernel
theorem dR_world_235 : decode prog_14_method_59_code 235 = .ok (.iload_n 3, 1) := by decide +kernel
theorem dR_world_236 : decode prog_14_method_59_code 236 = .ok (.ireturn, 1) := by decide +kernel
theorem t_R_world {d : Nat} {x1 : Int} {σ : SG} {Q : Int → SG → Prop} (h : inI x1 → ((∀ σ1, σ1 = up σ 161 1 0 → (∀ σ2, σ2 = up σ1 161 0 0 → Tri d M_R_opens [vA 161, vI x1, vI 600] σ2 (fun r3 σ3 => (r3 ≠ 0 → Tri d M_R_isPrime [vA 161] σ3 (fun r5 σ5 => Tri d M_R_must [vA 161, vI r5] σ5 (fun r6 σ6 => (σ6 161 12 ≠ 0 → L (d + 1) M_R_world 66 [vA 161, vU, vU, vU, vU, vU] [] σ6 Q) ∧ (σ6 161 12 = 0 → (σ6 161 14 ≠ 2 → L (d + 1) M_R_world 66 [vA 161, vU, vU, vU, vU, vU] [] σ6 Q) ∧ (σ6 161 14 = 2 → Tri d M_R_isPrimeNumber [vA 161, vI (σ6 161 17)] σ6 (fun r9 σ9 => (r9 ≠ 0 → L (d + 1) M_R_world 66 [vA 161, vU, vU, vU, vU, vU] [] σ9 Q) ∧ (r9 = 0 → Tri d M_R_fail [vA 161, vI 4, vI (σ9 161 15)] σ9 (fun r11 σ11 => L (d + 1) M_R_world 66 [vA 161, vU, vU, vU, vU, vU] [] σ11 Q)))))))) ∧ (r3 = 0 → Q (-1) σ3)))))) : Tri (d + 1) M_R_world [vA 161, vI x1] σ Q :=
  Tri_intro rfl (Nat.le_of_ble_eq_true rfl) (ls := [vA 161, vI x1, vU, vU, vU, vU]) rfl (fun hok => L_aload_n dR_world_0 rfl (L_iconst dR_world_1 in_0 (L_putfN fp_R_132 rfl rfl (fun _ => ⟨rfl, rfl⟩) dR_world_2 ⟨ob_161, fun σ1 e1 => L_aload_n dR_world_5 rfl (L_iconst dR_world_6 in_0 (L_putfN fp_R_135 rfl rfl (fun _ => ⟨rfl, rfl⟩) dR_world_7 ⟨ob_161, fun σ2 e2 => L_aload_n dR_world_10 rfl (L_iload_n dR_world_11 rfl (L_sipush dR_world_12 sp_600 in_600 (L_callVI rfl cv_R_opens (As := [vI x1, vI 600]) rfl (tk7 232 rfl rfl) rfl (Nat.le_of_ble_eq_true rfl) dR_world_15 ⟨ob_161, Tri.mono (((h (hok _ (List.mem_of_getElem? (i := 1) rfl))) σ1 e1) σ2 e2) (fun r3 σ3 q3 => L_if_ne dR_world_18 (by decide) ⟨fun c4 => L_aload_n dR_world_23 rfl (L_aload_n dR_world_24 rfl (L_callVI rfl cv_R_isPrime (As := []) rfl (tk8 16 rfl rfl) rfl (Nat.le_of_ble_eq_true rfl) dR_world_25 ⟨ob_161, Tri.mono (q3.1 c4) (fun r5 σ5 q5 => L_callVV rfl cv_R_must (As := [vI r5]) rfl (tk8 27 rfl rfl) rfl (Nat.le_of_ble_eq_true rfl) dR_world_28 ⟨ob_161, Tri.mono q5 (fun r6 σ6 q6 => L_aload_n dR_world_31 rfl (L_getf fw_R_221 rfl dR_world_32 ⟨ob_161, L_if_ne dR_world_35 (by decide) ⟨fun c7 => L_weak [true, false, true, true, true, true] (q6.1 c7), fun c7 => L_aload_n dR_world_38 rfl (L_getf fw_R_183 rfl dR_world_39 ⟨ob_161, L_iconst dR_world_42 in_2 (L_icmp_ne dR_world_43 (by decide) ⟨fun c8 => L_weak [true, false, true, true, true, true] ((q6.2 c7).1 c8), fun c8 => L_aload_n dR_world_46 rfl (L_aload_n dR_world_47 rfl (L_getf fw_R_199 rfl dR_world_48 ⟨ob_161, L_callVI rfl cv_R_isPrimeNumber (As := [vI (σ6 161 17)]) rfl (tk8 39 rfl rfl) rfl (Nat.le_of_ble_eq_true rfl) dR_world_51 ⟨ob_161, Tri.mono ((q6.2 c7).2 c8) (fun r9 σ9 q9 => L_if_ne dR_world_54 (by decide) ⟨fun c10 => L_weak [true, false, true, true, true, true] (q9.1 c10), fun c10 => L_aload_n dR_world_57 rfl (L_iconst dR_world_58 in_4 (L_aload_n dR_world_59 rfl (L_getf fw_R_177 rfl dR_world_60 ⟨ob_161, L_callVV rfl cv_R_fail (As := [vI 4, vI (σ9 161 15)]) rfl (tk8 35 rfl rfl) rfl (Nat.le_of_ble_eq_true rfl) dR_world_63 ⟨ob_161, Tri.mono (q9.2 c10) (fun r11 σ11 q11 => L_weak [true, false, true, true, true, true] q11)⟩⟩)))⟩)⟩⟩))⟩)⟩)⟩⟩))⟩)⟩)), fun c4 => L_iconst dR_world_21 in_m1 (L_ireturn rfl dR_world_22 (q3.2 c4))⟩)⟩)))⟩))⟩)))
theorem s_R_world_66 {d : Nat} {σ : SG} {Q : Int → SG → Prop} (h : Tri d M_R_count [vA 161, vI 2, vI 7] σ (fun r1 σ1 => Tri d M_R_isSign [vA 161, vI 59] σ1 (fun r2 σ2 => Tri d M_R_must [vA 161, vI r2] σ2 (fun r3 σ3 => Tri d M_R_isSizeWord [vA 161] σ3 (fun r4 σ4 => Tri d M_R_must [vA 161, vI r4] σ4 (fun r5 σ5 => Tri d M_R_greatest [vI r1] σ5 (fun r6 σ6 => Tri d M_R_count [vA 161, vI 1, vI r6] σ6 (fun r7 σ7 => Tri d M_R_isSign [vA 161, vI 59] σ7 (fun r8 σ8 => Tri d M_R_must [vA 161, vI r8] σ8 (fun r9 σ9 => Tri d M_R_clear [vA 167, vI 0, vI r1, vI r7] σ9 (fun r10 σ10 => L (d + 1) M_R_world 122 [vA 161, vU, vU, vI r7, vU, vU] [] σ10 Q))))))))))) : L (d + 1) M_R_world 66 [vA 161, vU, vU, vU, vU, vU] [] σ Q :=
  L_aload_n dR_world_66 rfl (L_iconst dR_world_67 in_2 (L_bipush dR_world_68 bp_7 in_7 (L_callVI rfl cv_R_count (As := [vI 2, vI 7]) rfl (tk8 43 rfl rfl) rfl (Nat.le_of_ble_eq_true rfl) dR_world_70 ⟨ob_161, Tri.mono h (fun r1 σ1 q1 => L_istore_n dR_world_73 (by decide) (L_aload_n dR_world_74 rfl (L_aload_n dR_world_75 rfl (L_bipush dR_world_76 bp_59 in_59 (L_callVI rfl cv_R_isSign (As := [vI 59]) rfl (tk8 50 rfl rfl) rfl (Nat.le_of_ble_eq_true rfl) dR_world_78 ⟨ob_161, Tri.mono q1 (fun r2 σ2 q2 => L_callVV rfl cv_R_must (As := [vI r2]) rfl (tk8 27 rfl rfl) rfl (Nat.le_of_ble_eq_true rfl) dR_world_81 ⟨ob_161, Tri.mono q2 (fun r3 σ3 q3 => L_aload_n dR_world_84 rfl (L_aload_n dR_world_85 rfl (L_callVI rfl cv_R_isSizeWord (As := []) rfl (tk8 54 rfl rfl) rfl (Nat.le_of_ble_eq_true rfl) dR_world_86 ⟨ob_161, Tri.mono q3 (fun r4 σ4 q4 => L_callVV rfl cv_R_must (As := [vI r4]) rfl (tk8 27 rfl rfl) rfl (Nat.le_of_ble_eq_true rfl) dR_world_89 ⟨ob_161, Tri.mono q4 (fun r5 σ5 q5 => L_aload_n dR_world_92 rfl (L_iconst dR_world_93 in_1 (L_iload_n dR_world_94 rfl (L_callSI rfl cs_R_greatest (As := [vI r1]) rfl (tk8 58 rfl rfl) rfl (Nat.le_of_ble_eq_true rfl) dR_world_95 (Tri.mono q5 (fun r6 σ6 q6 => L_callVI rfl cv_R_count (As := [vI 1, vI r6]) rfl (tk8 43 rfl rfl) rfl (Nat.le_of_ble_eq_true rfl) dR_world_98 ⟨ob_161, Tri.mono q6 (fun r7 σ7 q7 => L_istore_n dR_world_101 (by decide) (L_aload_n dR_world_102 rfl (L_aload_n dR_world_103 rfl (L_bipush dR_world_104 bp_59 in_59 (L_callVI rfl cv_R_isSign (As := [vI 59]) rfl (tk8 50 rfl rfl) rfl (Nat.le_of_ble_eq_true rfl) dR_world_106 ⟨ob_161, Tri.mono q7 (fun r8 σ8 q8 => L_callVV rfl cv_R_must (As := [vI r8]) rfl (tk8 27 rfl rfl) rfl (Nat.le_of_ble_eq_true rfl) dR_world_109 ⟨ob_161, Tri.mono q8 (fun r9 σ9 q9 => L_aload_n dR_world_112 rfl (L_getF (b := 167) fw_R_38 rfl rfl (by decide) dR_world_113 ⟨ob_161, L_iconst dR_world_116 in_0 (L_iload_n dR_world_117 rfl (L_iload_n dR_world_118 rfl (L_callSV rfl cs_R_clear (As := [vA 167, vI 0, vI r1, vI r7]) rfl (tk8 61 rfl rfl) rfl (Nat.le_of_ble_eq_true rfl) dR_world_119 (Tri.mono q9 (fun r10 σ10 q10 => L_weak [true, true, false, true, true, true] q10)))))⟩))⟩)⟩)))))⟩))))))⟩)⟩)))⟩)⟩)))))⟩)))
theorem s_R_world_122 {d : Nat} {x3 : Int} {σ : SG} {Q : Int → SG → Prop} (h : (σ 161 12 ≠ 0 → Tri d M_R_isWell [vA 161] σ (fun r2 σ2 => (r2 ≠ 0 → L (d + 1) M_R_world 179 [vA 161, vU, vU, vI x3, vI 0, vU] [] σ2 Q) ∧ (r2 = 0 → Q (-1) σ2))) ∧ (σ 161 12 = 0 → (σ 161 14 = 0 → Tri d M_R_isWell [vA 161] σ (fun r5 σ5 => (r5 ≠ 0 → L (d + 1) M_R_world 179 [vA 161, vU, vU, vI x3, vI 0, vU] [] σ5 Q) ∧ (r5 = 0 → Q (-1) σ5))) ∧ (σ 161 14 ≠ 0 → Tri d M_R_isBracket [vA 161] σ (fun r7 σ7 => (r7 = 0 → Tri d M_R_wrong [vA 161] σ7 (fun r9 σ9 => Tri d M_R_isSign [vA 161, vI 59] σ9 (fun r10 σ10 => Tri d M_R_must [vA 161, vI r10] σ10 (fun r11 σ11 => L (d + 1) M_R_world 122 [vA 161, vU, vU, vI x3, vU, vU] [] σ11 Q)))) ∧ (r7 ≠ 0 → Tri d M_R_readBracket [vA 161] σ7 (fun r12 σ12 => Tri d M_R_isSign [vA 161, vI 59] σ12 (fun r13 σ13 => Tri d M_R_must [vA 161, vI r13] σ13 (fun r14 σ14 => L (d + 1) M_R_world 122 [vA 161, vU, vU, vI x3, vU, vU] [] σ14 Q)))))))) : L (d + 1) M_R_world 122 [vA 161, vU, vU, vI x3, vU, vU] [] σ Q :=
  L_aload_n dR_world_122 rfl (L_getf fw_R_221 rfl dR_world_123 ⟨ob_161, L_if_ne dR_world_126 (by decide) ⟨fun c1 => L_aload_n dR_world_167 rfl (L_callVI rfl cv_R_isWell (As := []) rfl (tk8 96 rfl rfl) rfl (Nat.le_of_ble_eq_true rfl) dR_world_168 ⟨ob_161, Tri.mono (h.1 c1) (fun r2 σ2 q2 => L_if_ne dR_world_171 (by decide) ⟨fun c3 => L_iconst dR_world_176 in_0 (L_istore dR_world_177 (by decide) (q2.1 c3)), fun c3 => L_iconst dR_world_174 in_m1 (L_ireturn rfl dR_world_175 (q2.2 c3))⟩)⟩), fun c1 => L_aload_n dR_world_129 rfl (L_getf fw_R_183 rfl dR_world_130 ⟨ob_161, L_if_eq dR_world_133 (by decide) ⟨fun c4 => L_aload_n dR_world_167 rfl (L_callVI rfl cv_R_isWell (As := []) rfl (tk8 96 rfl rfl) rfl (Nat.le_of_ble_eq_true rfl) dR_world_168 ⟨ob_161, Tri.mono ((h.2 c1).1 c4) (fun r5 σ5 q5 => L_if_ne dR_world_171 (by decide) ⟨fun c6 => L_iconst dR_world_176 in_0 (L_istore dR_world_177 (by decide) (q5.1 c6)), fun c6 => L_iconst dR_world_174 in_m1 (L_ireturn rfl dR_world_175 (q5.2 c6))⟩)⟩), fun c4 => L_aload_n dR_world_136 rfl (L_callVI rfl cv_R_isBracket (As := []) rfl (tk8 64 rfl rfl) rfl (Nat.le_of_ble_eq_true rfl) dR_world_137 ⟨ob_161, Tri.mono ((h.2 c1).2 c4) (fun r7 σ7 q7 => L_if_eq dR_world_140 (by decide) ⟨fun c8 => L_aload_n dR_world_150 rfl (L_callVV rfl cv_R_wrong (As := []) rfl (tk8 31 rfl rfl) rfl (Nat.le_of_ble_eq_true rfl) dR_world_151 ⟨ob_161, Tri.mono (q7.1 c8) (fun r9 σ9 q9 => L_aload_n dR_world_154 rfl (L_aload_n dR_world_155 rfl (L_bipush dR_world_156 bp_59 in_59 (L_callVI rfl cv_R_isSign (As := [vI 59]) rfl (tk8 50 rfl rfl) rfl (Nat.le_of_ble_eq_true rfl) dR_world_158 ⟨ob_161, Tri.mono q9 (fun r10 σ10 q10 => L_callVV rfl cv_R_must (As := [vI r10]) rfl (tk8 27 rfl rfl) rfl (Nat.le_of_ble_eq_true rfl) dR_world_161 ⟨ob_161, Tri.mono q10 (fun r11 σ11 q11 => L_goto dR_world_164 (by decide) q11)⟩)⟩))))⟩), fun c8 => L_aload_n dR_world_143 rfl (L_callVV rfl cv_R_readBracket (As := []) rfl (tk8 71 rfl rfl) rfl (Nat.le_of_ble_eq_true rfl) dR_world_144 ⟨ob_161, Tri.mono (q7.2 c8) (fun r12 σ12 q12 => L_goto dR_world_147 (by decide) (L_aload_n dR_world_154 rfl (L_aload_n dR_world_155 rfl (L_bipush dR_world_156 bp_59 in_59 (L_callVI rfl cv_R_isSign (As := [vI 59]) rfl (tk8 50 rfl rfl) rfl (Nat.le_of_ble_eq_true rfl) dR_world_158 ⟨ob_161, Tri.mono q12 (fun r13 σ13 q13 => L_callVV rfl cv_R_must (As := [vI r13]) rfl (tk8 27 rfl rfl) rfl (Nat.le_of_ble_eq_true rfl) dR_world_161 ⟨ob_161, Tri.mono q13 (fun r14 σ14 q14 => L_goto dR_world_164 (by decide) q14)⟩)⟩)))))⟩)⟩)⟩)⟩⟩)⟩⟩)
theorem s_R_world_179 {d : Nat} {x3 x4 : Int} {σ : SG} {Q : Int → SG → Prop} (h : (5 ≤ x4 → Tri d M_R_move [vA 161, vA 167, vI 0, vA 166, vI 0] σ (fun r2 σ2 => Q x3 σ2)) ∧ (x4 < 5 → L (d + 1) M_R_world 188 [vA 161, vU, vU, vI x3, vI x4, vI 0] [] σ Q)) : L (d + 1) M_R_world 179 [vA 161, vU, vU, vI x3, vI x4, vU] [] σ Q :=
  L_iload dR_world_179 rfl (L_iconst dR_world_181 in_5 (L_icmp_ge dR_world_182 (by decide) ⟨fun c1 => L_aload_n dR_world_221 rfl (L_aload_n dR_world_222 rfl (L_getF (b := 167) fw_R_38 rfl rfl (by decide) dR_world_223 ⟨ob_161, L_iconst dR_world_226 in_0 (L_aload_n dR_world_227 rfl (L_getF (b := 166) fw_R_35 rfl rfl (by decide) dR_world_228 ⟨ob_161, L_iconst dR_world_231 in_0 (L_callVV rfl cv_R_move (As := [vA 167, vI 0, vA 166, vI 0]) rfl (tk8 100 rfl rfl) rfl (Nat.le_of_ble_eq_true rfl) dR_world_232 ⟨ob_161, Tri.mono (h.1 c1) (fun r2 σ2 q2 => L_iload_n dR_world_235 rfl (L_ireturn rfl dR_world_236 q2))⟩)⟩))⟩)), fun c1 => L_iconst dR_world_185 in_0 (L_istore dR_world_186 (by decide) (h.2 c1))⟩))
theorem s_R_world_188 {d : Nat} {x3 x4 x5 : Int} {σ : SG} {Q : Int → SG → Prop} (h : (5 ≤ x5 → L (d + 1) M_R_world 179 [vA 161, vU, vU, vI x3, vI (w32 (x4 + 1)), vU] [] σ Q) ∧ (x5 < 5 → Tri d M_R_cell [vI x4, vI x4, vI x5] σ (fun r2 σ2 => (0 ≤ r2 ∧ r2 < 127) ∧ (∀ σ3, σ3 = up σ2 167 r2 0 → L (d + 1) M_R_world 188 [vA 161, vU, vU, vI x3, vI x4, vI (w32 (x5 + 1))] [] σ3 Q)))) : L (d + 1) M_R_world 188 [vA 161, vU, vU, vI x3, vI x4, vI x5] [] σ Q :=
  L_iload dR_world_188 rfl (L_iconst dR_world_190 in_5 (L_icmp_ge dR_world_191 (by decide) ⟨fun c1 => L_iinc dR_world_215 rfl (by decide) (L_goto dR_world_218 (by decide) (L_weak [true, true, true, true, true, false] (h.1 c1))), fun c1 => L_aload_n dR_world_194 rfl (L_getF (b := 167) fw_R_38 rfl rfl (by decide) dR_world_195 ⟨ob_161, L_iload dR_world_198 rfl (L_iload dR_world_200 rfl (L_iload dR_world_202 rfl (L_callSI rfl cs_R_cell (As := [vI x4, vI x4, vI x5]) rfl (tk8 75 rfl rfl) rfl (Nat.le_of_ble_eq_true rfl) dR_world_204 (Tri.mono (h.2 c1) (fun r2 σ2 q2 => L_iconst dR_world_207 in_0 (L_iastoreL (by decide) kd_167 dR_world_208 ⟨q2.1, fun σ3 e3 => L_iinc dR_world_209 rfl (by decide) (L_goto dR_world_212 (by decide) (q2.2 σ3 e3))⟩))))))⟩)⟩))
theorem dR_powerOf_0 : decode prog_14_method_60_code 0 = .ok (.iconst 1, 1) := by decide +kernel
theorem dR_powerOf_1 : decode prog_14_method_60_code 1 = .ok (.istore_n 2, 1) := by decide +kernel
theorem dR_powerOf_2 : decode prog_14_method_60_code 2 = .ok (.iconst 0, 1) := by decide +kernel
theorem dR_powerOf_3 : decode prog_14_method_60_code 3 = .ok (.istore_n 3, 1) := by decide +kernel
theorem dR_powerOf_4 : decode prog_14_method_60_code 4 = .ok (.iload_n 3, 1) := by decide +kernel
theorem dR_powerOf_5 : decode prog_14_method_60_code 5 = .ok (.iload_n 1, 1) := by decide +kernel
theorem dR_powerOf_6 : decode prog_14_method_60_code 6 = .ok (.if_icmp .ge 16, 3) := by decide +kernel
theorem dR_powerOf_9 : decode prog_14_method_60_code 9 = .ok (.iload_n 2, 1) := by decide +kernel
theorem dR_powerOf_10 : decode prog_14_method_60_code 10 = .ok (.aload_n 0, 1) := by decide +kernel
theorem dR_powerOf_11 : decode prog_14_method_60_code 11 = .ok (.getfield 250, 3) := by decide +kernel
theorem dR_powerOf_14 : decode prog_14_method_60_code 14 = .ok (.imul, 1) := by decide +kernel
theorem dR_powerOf_15 : decode prog_14_method_60_code 15 = .ok (.istore_n 2, 1) := by decide +kernel
theorem dR_powerOf_16 : decode prog_14_method_60_code 16 = .ok (.iinc 3 1, 3) := by decide +kernel
theorem dR_powerOf_19 : decode prog_14_method_60_code 19 = .ok (.goto (-15), 3) := by decide +kernel
theorem dR_powerOf_22 : decode prog_14_method_60_code 22 = .ok (.iload_n 2, 1) := by decide +kernel
theorem dR_powerOf_23 : decode prog_14_method_60_code 23 = .ok (.ireturn, 1) := by decide +kernel
theorem t_R_powerOf {d : Nat} {x1 : Int} {σ : SG} {Q : Int → SG → Prop} (h : inI x1 → (L (d + 1) M_R_powerOf 4 [vA 161, vI x1, vI 1, vI 0] [] σ Q)) : Tri (d + 1) M_R_powerOf [vA 161, vI x1] σ Q :=
  Tri_intro rfl (Nat.le_of_ble_eq_true rfl) (ls := [vA 161, vI x1, vU, vU]) rfl (fun hok => L_iconst dR_powerOf_0 in_1 (L_istore_n dR_powerOf_1 (by decide) (L_iconst dR_powerOf_2 in_0 (L_istore_n dR_powerOf_3 (by decide) ((h (hok _ (List.mem_of_getElem? (i := 1) rfl))))))))
theorem s_R_powerOf_4 {d : Nat} {x1 x2 x3 : Int} {σ : SG} {Q : Int → SG → Prop} (h : (x1 ≤ x3 → Q x2 σ) ∧ (x3 < x1 → L (d + 1) M_R_powerOf 4 [vA 161, vI x1, vI (w32 (x2 * (σ 161 26))), vI (w32 (x3 + 1))] [] σ Q)) : L (d + 1) M_R_powerOf 4 [vA 161, vI x1, vI x2, vI x3] [] σ Q :=
  L_iload_n dR_powerOf_4 rfl (L_iload_n dR_powerOf_5 rfl (L_icmp_ge dR_powerOf_6 (by decide) ⟨fun c1 => L_iload_n dR_powerOf_22 rfl (L_ireturn rfl dR_powerOf_23 (h.1 c1)), fun c1 => L_iload_n dR_powerOf_9 rfl (L_aload_n dR_powerOf_10 rfl (L_getf fw_R_250 rfl dR_powerOf_11 ⟨ob_161, L_imul dR_powerOf_14 (L_istore_n dR_powerOf_15 (by decide) (L_iinc dR_powerOf_16 rfl (by decide) (L_goto dR_powerOf_19 (by decide) (h.2 c1))))⟩))⟩))
theorem dR_vectors_0 : decode prog_14_method_61_code 0 = .ok (.aload_n 0, 1) := by decide +kernel
theorem dR_vectors_1 : decode prog_14_method_61_code 1 = .ok (.aload_n 0, 1) := by decide +kernel
theorem dR_vectors_2 : decode prog_14_method_61_code 2 = .ok (.getfield 253, 3) := by decide +kernel
theorem dR_vectors_5 : decode prog_14_method_61_code 5 = .ok (.invokevirtual 320, 3) := by decide +kernel
theorem dR_vectors_8 : decode prog_14_method_61_code 8 = .ok (.ireturn, 1) := by decide +kernel
theorem t_R_vectors {d : Nat} {σ : SG} {Q : Int → SG → Prop} (h : Tri d M_R_powerOf [vA 161, vI (σ 161 27)] σ (fun r1 σ1 => Q r1 σ1)) : Tri (d + 1) M_R_vectors [vA 161] σ Q :=
  Tri_intro rfl (Nat.le_of_ble_eq_true rfl) (ls := [vA 161]) rfl (fun hok => L_aload_n dR_vectors_0 rfl (L_aload_n dR_vectors_1 rfl (L_getf fw_R_253 rfl dR_vectors_2 ⟨ob_161, L_callVI rfl cv_R_powerOf (As := [vI (σ 161 27)]) rfl (tk8 149 rfl rfl) rfl (Nat.le_of_ble_eq_true rfl) dR_vectors_5 ⟨ob_161, Tri.mono (h) (fun r1 σ1 q1 => L_ireturn rfl dR_vectors_8 q1)⟩⟩)))
theorem dR_isBase_0 : decode prog_14_method_62_code 0 = .ok (.iload_n 1, 1) := by decide +kernel
theorem dR_isBase_1 : decode prog_14_method_62_code 1 = .ok (.i2l, 1) := by decide +kernel
theorem dR_isBase_2 : decode prog_14_method_62_code 2 = .ok (.lconst 0, 1) := by decide +kernel
theorem dR_isBase_3 : decode prog_14_method_62_code 3 = .ok (.aload_n 0, 1) := by decide +kernel
theorem dR_isBase_4 : decode prog_14_method_62_code 4 = .ok (.getfield 253, 3) := by decide +kernel
theorem dR_isBase_7 : decode prog_14_method_62_code 7 = .ok (.iconst 1, 1) := by decide +kernel
theorem dR_isBase_8 : decode prog_14_method_62_code 8 = .ok (.isub, 1) := by decide +kernel
theorem dR_isBase_9 : decode prog_14_method_62_code 9 = .ok (.i2l, 1) := by decide +kernel
theorem dR_isBase_10 : decode prog_14_method_62_code 10 = .ok (.invokestatic 167, 3) := by decide +kernel
theorem dR_isBase_13 : decode prog_14_method_62_code 13 = .ok (.ireturn, 1) := by decide +kernel
theorem t_R_isBase {d : Nat} {x1 : Int} {σ : SG} {Q : Int → SG → Prop} (h : inI x1 → (Tri d M_R_isIn [vJ x1, vJ 0, vJ (w32 ((σ 161 27) - 1))] σ (fun r1 σ1 => (r1 = 0 ∨ r1 = 1) ∧ Q r1 σ1))) : Tri (d + 1) M_R_isBase [vA 161, vI x1] σ Q :=
  Tri_intro rfl (Nat.le_of_ble_eq_true rfl) (ls := [vA 161, vI x1]) rfl (fun hok => L_iload_n dR_isBase_0 rfl (L_i2l dR_isBase_1 (L_lconst (x := 0) dR_isBase_2 rfl inJ_0 (L_aload_n dR_isBase_3 rfl (L_getf fw_R_253 rfl dR_isBase_4 ⟨ob_161, L_iconst dR_isBase_7 in_1 (L_isub dR_isBase_8 (L_i2l dR_isBase_9 (L_callSI rfl cs_R_isIn (As := [vJ x1, vJ 0, vJ (w32 ((σ 161 27) - 1))]) rfl (tk8 47 rfl rfl) rfl (Nat.le_of_ble_eq_true rfl) dR_isBase_10 (Tri.mono ((h (hok _ (List.mem_of_getElem? (i := 1) rfl)))) (fun r1 σ1 q1 => L_zreturn rfl dR_isBase_13 q1)))))⟩)))))
theorem dR_isVector_0 : decode prog_14_method_63_code 0 = .ok (.lload_n 1, 1) := by decide +kernel
theorem dR_isVector_1 : decode prog_14_method_63_code 1 = .ok (.lconst 0, 1) := by decide +kernel
theorem dR_isVector_2 : decode prog_14_method_63_code 2 = .ok (.aload_n 0, 1) := by decide +kernel
theorem dR_isVector_3 : decode prog_14_method_63_code 3 = .ok (.invokevirtual 323, 3) := by decide +kernel
theorem dR_isVector_6 : decode prog_14_method_63_code 6 = .ok (.iconst 1, 1) := by decide +kernel
theorem dR_isVector_7 : decode prog_14_method_63_code 7 = .ok (.isub, 1) := by decide +kernel
theorem dR_isVector_8 : decode prog_14_method_63_code 8 = .ok (.i2l, 1) := by decide +kernel
theorem dR_isVector_9 : decode prog_14_method_63_code 9 = .ok (.invokestatic 167, 3) := by decide +kernel
theorem dR_isVector_12 : decode prog_14_method_63_code 12 = .ok (.ireturn, 1) := by decide +kernel
theorem t_R_isVector {d : Nat} {x1 : Int} {σ : SG} {Q : Int → SG → Prop} (h : inJ x1 → (Tri d M_R_vectors [vA 161] σ (fun r1 σ1 => Tri d M_R_isIn [vJ x1, vJ 0, vJ (w32 (r1 - 1))] σ1 (fun r2 σ2 => (r2 = 0 ∨ r2 = 1) ∧ Q r2 σ2)))) : Tri (d + 1) M_R_isVector [vA 161, vJ x1] σ Q :=
  Tri_intro rfl (Nat.le_of_ble_eq_true rfl) (ls := [vA 161, vJ x1, vU]) rfl (fun hok => L_lload_n dR_isVector_0 rfl (L_lconst (x := 0) dR_isVector_1 rfl inJ_0 (L_aload_n dR_isVector_2 rfl (L_callVI rfl cv_R_vectors (As := []) rfl (tk8 145 rfl rfl) rfl (Nat.le_of_ble_eq_true rfl) dR_isVector_3 ⟨ob_161, Tri.mono ((h (hok _ (List.mem_of_getElem? (i := 1) rfl)))) (fun r1 σ1 q1 => L_iconst dR_isVector_6 in_1 (L_isub dR_isVector_7 (L_i2l dR_isVector_8 (L_callSI rfl cs_R_isIn (As := [vJ x1, vJ 0, vJ (w32 (r1 - 1))]) rfl (tk8 47 rfl rfl) rfl (Nat.le_of_ble_eq_true rfl) dR_isVector_9 (Tri.mono q1 (fun r2 σ2 q2 => L_zreturn rfl dR_isVector_12 q2))))))⟩))))
theorem dR_isShelf_0 : decode prog_14_method_64_code 0 = .ok (.iload_n 0, 1) := by decide +kernel
theorem dR_isShelf_1 : decode prog_14_method_64_code 1 = .ok (.i2l, 1) := by decide +kernel
theorem dR_isShelf_2 : decode prog_14_method_64_code 2 = .ok (.lconst 0, 1) := by decide +kernel
theorem dR_isShelf_3 : decode prog_14_method_64_code 3 = .ok (.ldc2_w 165, 3) := by decide +kernel
theorem dR_isShelf_6 : decode prog_14_method_64_code 6 = .ok (.invokestatic 167, 3) := by decide +kernel
theorem dR_isShelf_9 : decode prog_14_method_64_code 9 = .ok (.ireturn, 1) := by decide +kernel
theorem t_R_isShelf {d : Nat} {x0 : Int} {σ : SG} {Q : Int → SG → Prop} (h : inI x0 → (Tri d M_R_isIn [vJ x0, vJ 0, vJ 3] σ (fun r1 σ1 => (r1 = 0 ∨ r1 = 1) ∧ Q r1 σ1))) : Tri (d + 1) M_R_isShelf [vI x0] σ Q :=
  Tri_intro rfl (Nat.le_of_ble_eq_true rfl) (ls := [vI x0]) rfl (fun hok => L_iload_n dR_isShelf_0 rfl (L_i2l dR_isShelf_1 (L_lconst (x := 0) dR_isShelf_2 rfl inJ_0 (L_ldc2 (x := 3) (tk8 116 rfl rfl) rfl inJ_3 dR_isShelf_3 (L_callSI rfl cs_R_isIn (As := [vJ x0, vJ 0, vJ 3]) rfl (tk8 47 rfl rfl) rfl (Nat.le_of_ble_eq_true rfl) dR_isShelf_6 (Tri.mono ((h (hok _ (List.mem_of_getElem? (i := 0) rfl)))) (fun r1 σ1 q1 => L_zreturn rfl dR_isShelf_9 q1)))))))
theorem dR_parts2_0 : decode prog_14_method_65_code 0 = .ok (.iload_n 1, 1) := by decide +kernel
theorem dR_parts2_1 : decode prog_14_method_65_code 1 = .ok (.istore 4, 2) := by decide +kernel
theorem dR_parts2_3 : decode prog_14_method_65_code 3 = .ok (.iconst 0, 1) := by decide +kernel
theorem dR_parts2_4 : decode prog_14_method_65_code 4 = .ok (.istore 5, 2) := by decide +kernel
theorem dR_parts2_6 : decode prog_14_method_65_code 6 = .ok (.iload 5, 2) := by decide +kernel
theorem dR_parts2_8 : decode prog_14_method_65_code 8 = .ok (.aload_n 0, 1) := by decide +kernel
theorem dR_parts2_9 : decode prog_14_method_65_code 9 = .ok (.getfield 253, 3) := by decide +kernel
theorem dR_parts2_12 : decode prog_14_method_65_code 12 = .ok (.if_icmp .ge 31, 3) := by decide +kernel
theorem dR_parts2_15 : decode prog_14_method_65_code 15 = .ok (.aload_n 2, 1) := by decide +kernel
theorem dR_parts2_16 : decode prog_14_method_65_code 16 = .ok (.iload_n 3, 1) := by decide +kernel
theorem dR_parts2_17 : decode prog_14_method_65_code 17 = .ok (.iload 5, 2) := by decide +kernel
theorem dR_parts2_19 : decode prog_14_method_65_code 19 = .ok (.iadd, 1) := by decide +kernel
theorem dR_parts2_20 : decode prog_14_method_65_code 20 = .ok (.iload 4, 2) := by decide +kernel
theorem dR_parts2_22 : decode prog_14_method_65_code 22 = .ok (.aload_n 0, 1) := by decide +kernel
theorem dR_parts2_23 : decode prog_14_method_65_code 23 = .ok (.getfield 250, 3) := by decide +kernel
theorem dR_parts2_26 : decode prog_14_method_65_code 26 = .ok (.irem, 1) := by decide +kernel
theorem dR_parts2_27 : decode prog_14_method_65_code 27 = .ok (.iastore, 1) := by decide +kernel
theorem dR_parts2_28 : decode prog_14_method_65_code 28 = .ok (.iload 4, 2) := by decide +kernel
theorem dR_parts2_30 : decode prog_14_method_65_code 30 = .ok (.aload_n 0, 1) := by decide +kernel
theorem dR_parts2_31 : decode prog_14_method_65_code 31 = .ok (.getfield 250, 3) := by decide +kernel
theorem dR_parts2_34 : decode prog_14_method_65_code 34 = .ok (.idiv, 1) := by decide +kernel
theorem dR_parts2_35 : decode prog_14_method_65_code 35 = .ok (.istore 4, 2) := by decide +kernel
theorem dR_parts2_37 : decode prog_14_method_65_code 37 = .ok (.iinc 5 1, 3) := by decide +kernel
theorem dR_parts2_40 : decode prog_14_method_65_code 40 = .ok (.goto (-34), 3) := by decide +kernel
theorem dR_parts2_43 : decode prog_14_method_65_code 43 = .ok (.return_, 1) := by decide +kernel
theorem t_R_parts2 {d : Nat} {x1 x2 x3 : Int} {σ : SG} {Q : Int → SG → Prop} (h : inI x1 → inI x3 → (L (d + 1) M_R_parts2 6 [vA 161, vU, vA x2, vI x3, vI x1, vI 0] [] σ Q)) : Tri (d + 1) M_R_parts2 [vA 161, vI x1, vA x2, vI x3] σ Q :=
  Tri_intro rfl (Nat.le_of_ble_eq_true rfl) (ls := [vA 161, vI x1, vA x2, vI x3, vU, vU]) rfl (fun hok => L_iload_n dR_parts2_0 rfl (L_istore dR_parts2_1 (by decide) (L_iconst dR_parts2_3 in_0 (L_istore dR_parts2_4 (by decide) (L_weak [true, false, true, true, true, true] ((h (hok _ (List.mem_of_getElem? (i := 1) rfl)) (hok _ (List.mem_of_getElem? (i := 3) rfl)))))))))
theorem s_R_parts2_6 {d : Nat} {x2 x3 x4 x5 : Int} {σ : SG} {Q : Int → SG → Prop} (h : (σ 161 27 ≤ x5 → Q 0 σ) ∧ (x5 < σ 161 27 → σ 161 26 ≠ 0 ∧ wrok 100 x2 (w32 (x3 + x5)) ∧ (∀ σ2, σ2 = up σ x2 (w32 (x3 + x5)) (x4.tmod (σ 161 26)) → σ2 161 26 ≠ 0 ∧ L (d + 1) M_R_parts2 6 [vA 161, vU, vA x2, vI x3, vI (w32 (x4.tdiv (σ2 161 26))), vI (w32 (x5 + 1))] [] σ2 Q))) : L (d + 1) M_R_parts2 6 [vA 161, vU, vA x2, vI x3, vI x4, vI x5] [] σ Q :=
  L_iload dR_parts2_6 rfl (L_aload_n dR_parts2_8 rfl (L_getf fw_R_253 rfl dR_parts2_9 ⟨ob_161, L_icmp_ge dR_parts2_12 (by decide) ⟨fun c1 => L_return rfl dR_parts2_43 (h.1 c1), fun c1 => L_aload_n dR_parts2_15 rfl (L_iload_n dR_parts2_16 rfl (L_iload dR_parts2_17 rfl (L_iadd dR_parts2_19 (L_iload dR_parts2_20 rfl (L_aload_n dR_parts2_22 rfl (L_getf fw_R_250 rfl dR_parts2_23 ⟨ob_161, L_irem dR_parts2_26 ⟨(h.2 c1).1, L_iastoreN dR_parts2_27 ⟨(h.2 c1).2.1, fun σ2 e2 => L_iload dR_parts2_28 rfl (L_aload_n dR_parts2_30 rfl (L_getf fw_R_250 rfl dR_parts2_31 ⟨ob_161, L_idiv dR_parts2_34 ⟨((h.2 c1).2.2 σ2 e2).1, L_istore dR_parts2_35 (by decide) (L_iinc dR_parts2_37 rfl (by decide) (L_goto dR_parts2_40 (by decide) (((h.2 c1).2.2 σ2 e2).2)))⟩⟩))⟩⟩⟩))))))⟩⟩))
theorem dR_numberOfVector_0 : decode prog_14_method_66_code 0 = .ok (.iconst 0, 1) := by decide +kernel
theorem dR_numberOfVector_1 : decode prog_14_method_66_code 1 = .ok (.istore_n 3, 1) := by decide +kernel
theorem dR_numberOfVector_2 : decode prog_14_method_66_code 2 = .ok (.aload_n 0, 1) := by decide +kernel
theorem dR_numberOfVector_3 : decode prog_14_method_66_code 3 = .ok (.getfield 253, 3) := by decide +kernel
theorem dR_numberOfVector_6 : decode prog_14_method_66_code 6 = .ok (.iconst 1, 1) := by decide +kernel
theorem dR_numberOfVector_7 : decode prog_14_method_66_code 7 = .ok (.isub, 1) := by decide +kernel
theorem dR_numberOfVector_8 : decode prog_14_method_66_code 8 = .ok (.istore 4, 2) := by decide +kernel
theorem dR_numberOfVector_10 : decode prog_14_method_66_code 10 = .ok (.iload 4, 2) := by decide +kernel
theorem dR_numberOfVector_12 : decode prog_14_method_66_code 12 = .ok (.ifCond .lt 23, 3) := by decide +kernel
theorem dR_numberOfVector_15 : decode prog_14_method_66_code 15 = .ok (.iload_n 3, 1) := by decide +kernel
theorem dR_numberOfVector_16 : decode prog_14_method_66_code 16 = .ok (.aload_n 0, 1) := by decide +kernel
theorem dR_numberOfVector_17 : decode prog_14_method_66_code 17 = .ok (.getfield 250, 3) := by decide +kernel
theorem dR_numberOfVector_20 : decode prog_14_method_66_code 20 = .ok (.imul, 1) := by decide +kernel
theorem dR_numberOfVector_21 : decode prog_14_method_66_code 21 = .ok (.aload_n 1, 1) := by decide +kernel
theorem dR_numberOfVector_22 : decode prog_14_method_66_code 22 = .ok (.iload_n 2, 1) := by decide +kernel
theorem dR_numberOfVector_23 : decode prog_14_method_66_code 23 = .ok (.iload 4, 2) := by decide +kernel
theorem dR_numberOfVector_25 : decode prog_14_method_66_code 25 = .ok (.iadd, 1) := by decide +kernel
theorem dR_numberOfVector_26 : decode prog_14_method_66_code 26 = .ok (.iaload, 1) := by decide +kernel
theorem dR_numberOfVector_27 : decode prog_14_method_66_code 27 = .ok (.iadd, 1) := by decide +kernel
theorem dR_numberOfVector_28 : decode prog_14_method_66_code 28 = .ok (.istore_n 3, 1) := by decide +kernel
theorem dR_numberOfVector_29 : decode prog_14_method_66_code 29 = .ok (.iinc 4 (-1), 3) := by decide +kernel
theorem dR_numberOfVector_32 : decode prog_14_method_66_code 32 = .ok (.goto (-22), 3) := by decide +kernel
theorem dR_numberOfVector_35 : decode prog_14_method_66_code 35 = .ok (.iload_n 3, 1) := by decide +kernel
theorem dR_numberOfVector_36 : decode prog_14_method_66_code 36 = .ok (.ireturn, 1) := by decide +kernel
theorem t_R_numberOfVector {d : Nat} {x1 x2 : Int} {σ : SG} {Q : Int → SG → Prop} (h : inI x2 → (L (d + 1) M_R_numberOfVector 10 [vA 161, vA x1, vI x2, vI 0, vI (w32 ((σ 161 27) - 1))] [] σ Q)) : Tri (d + 1) M_R_numberOfVector [vA 161, vA x1, vI x2] σ Q :=
  Tri_intro rfl (Nat.le_of_ble_eq_true rfl) (ls := [vA 161, vA x1, vI x2, vU, vU]) rfl (fun hok => L_iconst dR_numberOfVector_0 in_0 (L_istore_n dR_numberOfVector_1 (by decide) (L_aload_n dR_numberOfVector_2 rfl (L_getf fw_R_253 rfl dR_numberOfVector_3 ⟨ob_161, L_iconst dR_numberOfVector_6 in_1 (L_isub dR_numberOfVector_7 (L_istore dR_numberOfVector_8 (by decide) ((h (hok _ (List.mem_of_getElem? (i := 2) rfl))))))⟩))))
theorem s_R_numberOfVector_10 {d : Nat} {x1 x2 x3 x4 : Int} {σ : SG} {Q : Int → SG → Prop} (h : (x4 < 0 → Q x3 σ) ∧ (0 ≤ x4 → rdok 100 x1 (w32 (x2 + x4)) ∧ L (d + 1) M_R_numberOfVector 10 [vA 161, vA x1, vI x2, vI (w32 ((w32 (x3 * (σ 161 26))) + (σ x1 (w32 (x2 + x4))))), vI (w32 (x4 + (-1)))] [] σ Q)) : L (d + 1) M_R_numberOfVector 10 [vA 161, vA x1, vI x2, vI x3, vI x4] [] σ Q :=
  L_iload dR_numberOfVector_10 rfl (L_if_lt dR_numberOfVector_12 (by decide) ⟨fun c1 => L_iload_n dR_numberOfVector_35 rfl (L_ireturn rfl dR_numberOfVector_36 (h.1 c1)), fun c1 => L_iload_n dR_numberOfVector_15 rfl (L_aload_n dR_numberOfVector_16 rfl (L_getf fw_R_250 rfl dR_numberOfVector_17 ⟨ob_161, L_imul dR_numberOfVector_20 (L_aload_n dR_numberOfVector_21 rfl (L_iload_n dR_numberOfVector_22 rfl (L_iload dR_numberOfVector_23 rfl (L_iadd dR_numberOfVector_25 (L_iaload dR_numberOfVector_26 ⟨(h.2 c1).1, L_iadd dR_numberOfVector_27 (L_istore_n dR_numberOfVector_28 (by decide) (L_iinc dR_numberOfVector_29 rfl (by decide) (L_goto dR_numberOfVector_32 (by decide) ((h.2 c1).2))))⟩)))))⟩))⟩)
theorem dR_unit_0 : decode prog_14_method_67_code 0 = .ok (.iconst 0, 1) := by decide +kernel
theorem dR_unit_1 : decode prog_14_method_67_code 1 = .ok (.istore_n 3, 1) := by decide +kernel
theorem dR_unit_2 : decode prog_14_method_67_code 2 = .ok (.iload_n 3, 1) := by decide +kernel
theorem dR_unit_3 : decode prog_14_method_67_code 3 = .ok (.aload_n 0, 1) := by decide +kernel
theorem dR_unit_4 : decode prog_14_method_67_code 4 = .ok (.getfield 253, 3) := by decide +kernel
theorem dR_unit_7 : decode prog_14_method_67_code 7 = .ok (.if_icmp .ge 22, 3) := by decide +kernel
theorem dR_unit_10 : decode prog_14_method_67_code 10 = .ok (.aload_n 2, 1) := by decide +kernel
theorem dR_unit_11 : decode prog_14_method_67_code 11 = .ok (.iload_n 3, 1) := by decide +kernel
theorem dR_unit_12 : decode prog_14_method_67_code 12 = .ok (.iload_n 3, 1) := by decide +kernel
theorem dR_unit_13 : decode prog_14_method_67_code 13 = .ok (.iload_n 1, 1) := by decide +kernel
theorem dR_unit_14 : decode prog_14_method_67_code 14 = .ok (.if_icmp .ne 7, 3) := by decide +kernel
theorem dR_unit_17 : decode prog_14_method_67_code 17 = .ok (.iconst 1, 1) := by decide +kernel
theorem dR_unit_18 : decode prog_14_method_67_code 18 = .ok (.goto 4, 3) := by decide +kernel
theorem dR_unit_21 : decode prog_14_method_67_code 21 = .ok (.iconst 0, 1) := by decide +kernel
theorem dR_unit_22 : decode prog_14_method_67_code 22 = .ok (.iastore, 1) := by decide +kernel
theorem dR_unit_23 : decode prog_14_method_67_code 23 = .ok (.iinc 3 1, 3) := by decide +kernel
theorem dR_unit_26 : decode prog_14_method_67_code 26 = .ok (.goto (-24), 3) := by decide +kernel
theorem dR_unit_29 : decode prog_14_method_67_code 29 = .ok (.return_, 1) := by decide +kernel
theorem t_R_unit {d : Nat} {x1 x2 : Int} {σ : SG} {Q : Int → SG → Prop} (h : inI x1 → (L (d + 1) M_R_unit 2 [vA 161, vI x1, vA x2, vI 0] [] σ Q)) : Tri (d + 1) M_R_unit [vA 161, vI x1, vA x2] σ Q :=
  Tri_intro rfl (Nat.le_of_ble_eq_true rfl) (ls := [vA 161, vI x1, vA x2, vU]) rfl (fun hok => L_iconst dR_unit_0 in_0 (L_istore_n dR_unit_1 (by decide) ((h (hok _ (List.mem_of_getElem? (i := 1) rfl))))))
theorem s_R_unit_2 {d : Nat} {x1 x2 x3 : Int} {σ : SG} {Q : Int → SG → Prop} (h : (σ 161 27 ≤ x3 → Q 0 σ) ∧ (x3 < σ 161 27 → (x3 ≠ x1 → wrok 100 x2 x3 ∧ (∀ σ3, σ3 = up σ x2 x3 0 → L (d + 1) M_R_unit 2 [vA 161, vI x1, vA x2, vI (w32 (x3 + 1))] [] σ3 Q)) ∧ (x3 = x1 → wrok 100 x2 x3 ∧ (∀ σ4, σ4 = up σ x2 x3 1 → L (d + 1) M_R_unit 2 [vA 161, vI x1, vA x2, vI (w32 (x3 + 1))] [] σ4 Q)))) : L (d + 1) M_R_unit 2 [vA 161, vI x1, vA x2, vI x3] [] σ Q :=
  L_iload_n dR_unit_2 rfl (L_aload_n dR_unit_3 rfl (L_getf fw_R_253 rfl dR_unit_4 ⟨ob_161, L_icmp_ge dR_unit_7 (by decide) ⟨fun c1 => L_return rfl dR_unit_29 (h.1 c1), fun c1 => L_aload_n dR_unit_10 rfl (L_iload_n dR_unit_11 rfl (L_iload_n dR_unit_12 rfl (L_iload_n dR_unit_13 rfl (L_icmp_ne dR_unit_14 (by decide) ⟨fun c2 => L_iconst dR_unit_21 in_0 (L_iastoreN dR_unit_22 ⟨((h.2 c1).1 c2).1, fun σ3 e3 => L_iinc dR_unit_23 rfl (by decide) (L_goto dR_unit_26 (by decide) (((h.2 c1).1 c2).2 σ3 e3))⟩), fun c2 => L_iconst dR_unit_17 in_1 (L_goto dR_unit_18 (by decide) (L_iastoreN dR_unit_22 ⟨((h.2 c1).2 c2).1, fun σ4 e4 => L_iinc dR_unit_23 rfl (by decide) (L_goto dR_unit_26 (by decide) (((h.2 c1).2 c2).2 σ4 e4))⟩))⟩))))⟩⟩))
theorem dR_inverse_0 : decode prog_14_method_68_code 0 = .ok (.iconst 1, 1) := by decide +kernel
theorem dR_inverse_1 : decode prog_14_method_68_code 1 = .ok (.istore_n 2, 1) := by decide +kernel
theorem dR_inverse_2 : decode prog_14_method_68_code 2 = .ok (.iload_n 2, 1) := by decide +kernel
theorem dR_inverse_3 : decode prog_14_method_68_code 3 = .ok (.iload_n 1, 1) := by decide +kernel
theorem dR_inverse_4 : decode prog_14_method_68_code 4 = .ok (.imul, 1) := by decide +kernel
theorem dR_inverse_5 : decode prog_14_method_68_code 5 = .ok (.aload_n 0, 1) := by decide +kernel
theorem dR_inverse_6 : decode prog_14_method_68_code 6 = .ok (.getfield 250, 3) := by decide +kernel
theorem dR_inverse_9 : decode prog_14_method_68_code 9 = .ok (.irem, 1) := by decide +kernel
theorem dR_inverse_10 : decode prog_14_method_68_code 10 = .ok (.iconst 1, 1) := by decide +kernel
theorem dR_inverse_11 : decode prog_14_method_68_code 11 = .ok (.if_icmp .eq 9, 3) := by decide +kernel
theorem dR_inverse_14 : decode prog_14_method_68_code 14 = .ok (.iinc 2 1, 3) := by decide +kernel
theorem dR_inverse_17 : decode prog_14_method_68_code 17 = .ok (.goto (-15), 3) := by decide +kernel
theorem dR_inverse_20 : decode prog_14_method_68_code 20 = .ok (.iload_n 2, 1) := by decide +kernel
theorem dR_inverse_21 : decode prog_14_method_68_code 21 = .ok (.ireturn, 1) := by decide +kernel
theorem t_R_inverse {d : Nat} {x1 : Int} {σ : SG} {Q : Int → SG → Prop} (h : inI x1 → (L (d + 1) M_R_inverse 2 [vA 161, vI x1, vI 1] [] σ Q)) : Tri (d + 1) M_R_inverse [vA 161, vI x1] σ Q :=
  Tri_intro rfl (Nat.le_of_ble_eq_true rfl) (ls := [vA 161, vI x1, vU]) rfl (fun hok => L_iconst dR_inverse_0 in_1 (L_istore_n dR_inverse_1 (by decide) ((h (hok _ (List.mem_of_getElem? (i := 1) rfl))))))
theorem s_R_inverse_2 {d : Nat} {x1 x2 : Int} {σ : SG} {Q : Int → SG → Prop} (h : σ 161 26 ≠ 0 ∧ ((w32 (x2 * x1)).tmod (σ 161 26) = 1 → Q x2 σ) ∧ ((w32 (x2 * x1)).tmod (σ 161 26) ≠ 1 → L (d + 1) M_R_inverse 2 [vA 161, vI x1, vI (w32 (x2 + 1))] [] σ Q)) : L (d + 1) M_R_inverse 2 [vA 161, vI x1, vI x2] [] σ Q :=
  L_iload_n dR_inverse_2 rfl (L_iload_n dR_inverse_3 rfl (L_imul dR_inverse_4 (L_aload_n dR_inverse_5 rfl (L_getf fw_R_250 rfl dR_inverse_6 ⟨ob_161, L_irem dR_inverse_9 ⟨h.1, L_iconst dR_inverse_10 in_1 (L_icmp_eq dR_inverse_11 (by decide) ⟨fun c1 => L_iload_n dR_inverse_20 rfl (L_ireturn rfl dR_inverse_21 (h.2.1 c1)), fun c1 => L_iinc dR_inverse_14 rfl (by decide) (L_goto dR_inverse_17 (by decide) (h.2.2 c1))⟩)⟩⟩))))
theorem dR_bracketOf_0 : decode prog_14_method_69_code 0 = .ok (.iconst 0, 1) := by decide +kernel
theorem dR_bracketOf_1 : decode prog_14_method_69_code 1 = .ok (.istore 6, 2) := by decide +kernel
theorem dR_bracketOf_3 : decode prog_14_method_69_code 3 = .ok (.iload 6, 2) := by decide +kernel
theorem dR_bracketOf_5 : decode prog_14_method_69_code 5 = .ok (.aload_n 0, 1) := by decide +kernel
theorem dR_bracketOf_6 : decode prog_14_method_69_code 6 = .ok (.getfield 253, 3) := by decide +kernel
theorem dR_bracketOf_9 : decode prog_14_method_69_code 9 = .ok (.if_icmp .ge 90, 3) := by decide +kernel
theorem dR_bracketOf_12 : decode prog_14_method_69_code 12 = .ok (.iconst 0, 1) := by decide +kernel
theorem dR_bracketOf_13 : decode prog_14_method_69_code 13 = .ok (.istore 7, 2) := by decide +kernel
theorem dR_bracketOf_15 : decode prog_14_method_69_code 15 = .ok (.iconst 0, 1) := by decide +kernel
theorem dR_bracketOf_16 : decode prog_14_method_69_code 16 = .ok (.istore 8, 2) := by decide +kernel
theorem dR_bracketOf_18 : decode prog_14_method_69_code 18 = .ok (.iload 8, 2) := by decide +kernel
theorem dR_bracketOf_20 : decode prog_14_method_69_code 20 = .ok (.aload_n 0, 1) := by decide +kernel
theorem dR_bracketOf_21 : decode prog_14_method_69_code 21 = .ok (.getfield 253, 3) := by decide +kernel
theorem dR_bracketOf_24 : decode prog_14_method_69_code 24 = .ok (.if_icmp .ge 57, 3) := by decide +kernel
theorem dR_bracketOf_27 : decode prog_14_method_69_code 27 = .ok (.iconst 0, 1) := by decide +kernel
theorem dR_bracketOf_28 : decode prog_14_method_69_code 28 = .ok (.istore 9, 2) := by decide +kernel
theorem dR_bracketOf_30 : decode prog_14_method_69_code 30 = .ok (.iload 9, 2) := by decide +kernel
theorem dR_bracketOf_32 : decode prog_14_method_69_code 32 = .ok (.aload_n 0, 1) := by decide +kernel
theorem dR_bracketOf_33 : decode prog_14_method_69_code 33 = .ok (.getfield 253, 3) := by decide +kernel
theorem dR_bracketOf_36 : decode prog_14_method_69_code 36 = .ok (.if_icmp .ge 39, 3) := by decide +kernel
theorem dR_bracketOf_39 : decode prog_14_method_69_code 39 = .ok (.iload 7, 2) := by decide +kernel
theorem dR_bracketOf_41 : decode prog_14_method_69_code 41 = .ok (.aload_n 1, 1) := by decide +kernel
theorem dR_bracketOf_42 : decode prog_14_method_69_code 42 = .ok (.iload_n 2, 1) := by decide +kernel
theorem dR_bracketOf_43 : decode prog_14_method_69_code 43 = .ok (.iload 8, 2) := by decide +kernel
theorem dR_bracketOf_45 : decode prog_14_method_69_code 45 = .ok (.iadd, 1) := by decide +kernel
theorem dR_bracketOf_46 : decode prog_14_method_69_code 46 = .ok (.iaload, 1) := by decide +kernel
theorem dR_bracketOf_47 : decode prog_14_method_69_code 47 = .ok (.aload_n 3, 1) := by decide +kernel
theorem dR_bracketOf_48 : decode prog_14_method_69_code 48 = .ok (.iload 4, 2) := by decide +kernel
theorem dR_bracketOf_50 : decode prog_14_method_69_code 50 = .ok (.iload 9, 2) := by decide +kernel
theorem dR_bracketOf_52 : decode prog_14_method_69_code 52 = .ok (.iadd, 1) := by decide +kernel
theorem dR_bracketOf_53 : decode prog_14_method_69_code 53 = .ok (.iaload, 1) := by decide +kernel
theorem dR_bracketOf_54 : decode prog_14_method_69_code 54 = .ok (.imul, 1) := by decide +kernel
theorem dR_bracketOf_55 : decode prog_14_method_69_code 55 = .ok (.aload_n 0, 1) := by decide +kernel
theorem dR_bracketOf_56 : decode prog_14_method_69_code 56 = .ok (.iload 8, 2) := by decide +kernel
theorem dR_bracketOf_58 : decode prog_14_method_69_code 58 = .ok (.iload 9, 2) := by decide +kernel
theorem dR_bracketOf_60 : decode prog_14_method_69_code 60 = .ok (.iload 6, 2) := by decide +kernel
theorem dR_bracketOf_62 : decode prog_14_method_69_code 62 = .ok (.invokevirtual 327, 3) := by decide +kernel
theorem dR_bracketOf_65 : decode prog_14_method_69_code 65 = .ok (.imul, 1) := by decide +kernel
theorem dR_bracketOf_66 : decode prog_14_method_69_code 66 = .ok (.iadd, 1) := by decide +kernel
theorem dR_bracketOf_67 : decode prog_14_method_69_code 67 = .ok (.istore 7, 2) := by decide +kernel
theorem dR_bracketOf_69 : decode prog_14_method_69_code 69 = .ok (.iinc 9 1, 3) := by decide +kernel
theorem dR_bracketOf_72 : decode prog_14_method_69_code 72 = .ok (.goto (-42), 3) := by decide +kernel
theorem dR_bracketOf_75 : decode prog_14_method_69_code 75 = .ok (.iinc 8 1, 3) := by decide +kernel
theorem dR_bracketOf_78 : decode prog_14_method_69_code 78 = .ok (.goto (-60), 3) := by decide +kernel
theorem dR_bracketOf_81 : decode prog_14_method_69_code 81 = .ok (.aload 5, 2) := by decide +kernel
theorem dR_bracketOf_83 : decode prog_14_method_69_code 83 = .ok (.iload 6, 2) := by decide +kernel
theorem dR_bracketOf_85 : decode prog_14_method_69_code 85 = .ok (.iload 7, 2) := by decide +kernel
theorem dR_bracketOf_87 : decode prog_14_method_69_code 87 = .ok (.aload_n 0, 1) := by decide +kernel
theorem dR_bracketOf_88 : decode prog_14_method_69_code 88 = .ok (.getfield 250, 3) := by decide +kernel
theorem dR_bracketOf_91 : decode prog_14_method_69_code 91 = .ok (.irem, 1) := by decide +kernel
theorem dR_bracketOf_92 : decode prog_14_method_69_code 92 = .ok (.iastore, 1) := by decide +kernel
theorem dR_bracketOf_93 : decode prog_14_method_69_code 93 = .ok (.iinc 6 1, 3) := by decide +kernel
theorem dR_bracketOf_96 : decode prog_14_method_69_code 96 = .ok (.goto (-93), 3) := by decide +kernel
theorem dR_bracketOf_99 : decode prog_14_method_69_code 99 = .ok (.return_, 1) := by decide +kernel
theorem t_R_bracketOf {d : Nat} {x1 x2 x3 x4 x5 : Int} {σ : SG} {Q : Int → SG → Prop} (h : inI x2 → inI x4 → (L (d + 1) M_R_bracketOf 3 [vA 161, vA x1, vI x2, vA x3, vI x4, vA x5, vI 0, vU, vU, vU] [] σ Q)) : Tri (d + 1) M_R_bracketOf [vA 161, vA x1, vI x2, vA x3, vI x4, vA x5] σ Q :=
  Tri_intro rfl (Nat.le_of_ble_eq_true rfl) (ls := [vA 161, vA x1, vI x2, vA x3, vI x4, vA x5, vU, vU, vU, vU]) rfl (fun hok => L_iconst dR_bracketOf_0 in_0 (L_istore dR_bracketOf_1 (by decide) ((h (hok _ (List.mem_of_getElem? (i := 2) rfl)) (hok _ (List.mem_of_getElem? (i := 4) rfl))))))
theorem s_R_bracketOf_3 {d : Nat} {x1 x2 x3 x4 x5 x6 : Int} {σ : SG} {Q : Int → SG → Prop} (h : (σ 161 27 ≤ x6 → Q 0 σ) ∧ (x6 < σ 161 27 → L (d + 1) M_R_bracketOf 18 [vA 161, vA x1, vI x2, vA x3, vI x4, vA x5, vI x6, vI 0, vI 0, vU] [] σ Q)) : L (d + 1) M_R_bracketOf 3 [vA 161, vA x1, vI x2, vA x3, vI x4, vA x5, vI x6, vU, vU, vU] [] σ Q :=
  L_iload dR_bracketOf_3 rfl (L_aload_n dR_bracketOf_5 rfl (L_getf fw_R_253 rfl dR_bracketOf_6 ⟨ob_161, L_icmp_ge dR_bracketOf_9 (by decide) ⟨fun c1 => L_return rfl dR_bracketOf_99 (h.1 c1), fun c1 => L_iconst dR_bracketOf_12 in_0 (L_istore dR_bracketOf_13 (by decide) (L_iconst dR_bracketOf_15 in_0 (L_istore dR_bracketOf_16 (by decide) (h.2 c1))))⟩⟩))
theorem s_R_bracketOf_18 {d : Nat} {x1 x2 x3 x4 x5 x6 x7 x8 : Int} {σ : SG} {Q : Int → SG → Prop} (h : (σ 161 27 ≤ x8 → σ 161 26 ≠ 0 ∧ wrok 100 x5 x6 ∧ (∀ σ2, σ2 = up σ x5 x6 (x7.tmod (σ 161 26)) → L (d + 1) M_R_bracketOf 3 [vA 161, vA x1, vI x2, vA x3, vI x4, vA x5, vI (w32 (x6 + 1)), vU, vU, vU] [] σ2 Q)) ∧ (x8 < σ 161 27 → L (d + 1) M_R_bracketOf 30 [vA 161, vA x1, vI x2, vA x3, vI x4, vA x5, vI x6, vI x7, vI x8, vI 0] [] σ Q)) : L (d + 1) M_R_bracketOf 18 [vA 161, vA x1, vI x2, vA x3, vI x4, vA x5, vI x6, vI x7, vI x8, vU] [] σ Q :=
  L_iload dR_bracketOf_18 rfl (L_aload_n dR_bracketOf_20 rfl (L_getf fw_R_253 rfl dR_bracketOf_21 ⟨ob_161, L_icmp_ge dR_bracketOf_24 (by decide) ⟨fun c1 => L_aload dR_bracketOf_81 rfl (L_iload dR_bracketOf_83 rfl (L_iload dR_bracketOf_85 rfl (L_aload_n dR_bracketOf_87 rfl (L_getf fw_R_250 rfl dR_bracketOf_88 ⟨ob_161, L_irem dR_bracketOf_91 ⟨(h.1 c1).1, L_iastoreN dR_bracketOf_92 ⟨(h.1 c1).2.1, fun σ2 e2 => L_iinc dR_bracketOf_93 rfl (by decide) (L_goto dR_bracketOf_96 (by decide) (L_weak [true, true, true, true, true, true, true, false, false, true] ((h.1 c1).2.2 σ2 e2)))⟩⟩⟩)))), fun c1 => L_iconst dR_bracketOf_27 in_0 (L_istore dR_bracketOf_28 (by decide) (h.2 c1))⟩⟩))
theorem s_R_bracketOf_30 {d : Nat} {x1 x2 x3 x4 x5 x6 x7 x8 x9 : Int} {σ : SG} {Q : Int → SG → Prop} (h : (σ 161 27 ≤ x9 → L (d + 1) M_R_bracketOf 18 [vA 161, vA x1, vI x2, vA x3, vI x4, vA x5, vI x6, vI x7, vI (w32 (x8 + 1)), vU] [] σ Q) ∧ (x9 < σ 161 27 → rdok 100 x1 (w32 (x2 + x8)) ∧ rdok 100 x3 (w32 (x4 + x9)) ∧ Tri d M_R_table [vA 161, vI x8, vI x9, vI x6] σ (fun r2 σ2 => L (d + 1) M_R_bracketOf 30 [vA 161, vA x1, vI x2, vA x3, vI x4, vA x5, vI x6, vI (w32 (x7 + (w32 ((w32 ((σ x1 (w32 (x2 + x8))) * (σ x3 (w32 (x4 + x9))))) * r2)))), vI x8, vI (w32 (x9 + 1))] [] σ2 Q))) : L (d + 1) M_R_bracketOf 30 [vA 161, vA x1, vI x2, vA x3, vI x4, vA x5, vI x6, vI x7, vI x8, vI x9] [] σ Q :=
  L_iload dR_bracketOf_30 rfl (L_aload_n dR_bracketOf_32 rfl (L_getf fw_R_253 rfl dR_bracketOf_33 ⟨ob_161, L_icmp_ge dR_bracketOf_36 (by decide) ⟨fun c1 => L_iinc dR_bracketOf_75 rfl (by decide) (L_goto dR_bracketOf_78 (by decide) (L_weak [true, true, true, true, true, true, true, true, true, false] (h.1 c1))), fun c1 => L_iload dR_bracketOf_39 rfl (L_aload_n dR_bracketOf_41 rfl (L_iload_n dR_bracketOf_42 rfl (L_iload dR_bracketOf_43 rfl (L_iadd dR_bracketOf_45 (L_iaload dR_bracketOf_46 ⟨(h.2 c1).1, L_aload_n dR_bracketOf_47 rfl (L_iload dR_bracketOf_48 rfl (L_iload dR_bracketOf_50 rfl (L_iadd dR_bracketOf_52 (L_iaload dR_bracketOf_53 ⟨(h.2 c1).2.1, L_imul dR_bracketOf_54 (L_aload_n dR_bracketOf_55 rfl (L_iload dR_bracketOf_56 rfl (L_iload dR_bracketOf_58 rfl (L_iload dR_bracketOf_60 rfl (L_callVI rfl cv_R_table (As := [vI x8, vI x9, vI x6]) rfl (tk8 121 rfl rfl) rfl (Nat.le_of_ble_eq_true rfl) dR_bracketOf_62 ⟨ob_161, Tri.mono ((h.2 c1).2.2) (fun r2 σ2 q2 => L_imul dR_bracketOf_65 (L_iadd dR_bracketOf_66 (L_istore dR_bracketOf_67 (by decide) (L_iinc dR_bracketOf_69 rfl (by decide) (L_goto dR_bracketOf_72 (by decide) q2)))))⟩)))))⟩))))⟩)))))⟩⟩))
theorem dR_leadOf_0 : decode prog_14_method_70_code 0 = .ok (.iconst 0, 1) := by decide +kernel
theorem dR_leadOf_1 : decode prog_14_method_70_code 1 = .ok (.istore_n 3, 1) := by decide +kernel
theorem dR_leadOf_2 : decode prog_14_method_70_code 2 = .ok (.iload_n 3, 1) := by decide +kernel
theorem dR_leadOf_3 : decode prog_14_method_70_code 3 = .ok (.aload_n 0, 1) := by decide +kernel
theorem dR_leadOf_4 : decode prog_14_method_70_code 4 = .ok (.getfield 253, 3) := by decide +kernel
theorem dR_leadOf_7 : decode prog_14_method_70_code 7 = .ok (.if_icmp .ge 19, 3) := by decide +kernel
theorem dR_leadOf_10 : decode prog_14_method_70_code 10 = .ok (.aload_n 1, 1) := by decide +kernel
theorem dR_leadOf_11 : decode prog_14_method_70_code 11 = .ok (.iload_n 2, 1) := by decide +kernel
theorem dR_leadOf_12 : decode prog_14_method_70_code 12 = .ok (.iload_n 3, 1) := by decide +kernel
theorem dR_leadOf_13 : decode prog_14_method_70_code 13 = .ok (.iadd, 1) := by decide +kernel
theorem dR_leadOf_14 : decode prog_14_method_70_code 14 = .ok (.iaload, 1) := by decide +kernel
theorem dR_leadOf_15 : decode prog_14_method_70_code 15 = .ok (.ifCond .eq 5, 3) := by decide +kernel
theorem dR_leadOf_18 : decode prog_14_method_70_code 18 = .ok (.iload_n 3, 1) := by decide +kernel
theorem dR_leadOf_19 : decode prog_14_method_70_code 19 = .ok (.ireturn, 1) := by decide +kernel
theorem dR_leadOf_20 : decode prog_14_method_70_code 20 = .ok (.iinc 3 1, 3) := by decide +kernel
theorem dR_leadOf_23 : decode prog_14_method_70_code 23 = .ok (.goto (-21), 3) := by decide +kernel
theorem dR_leadOf_26 : decode prog_14_method_70_code 26 = .ok (.iconst (-1), 1) := by decide +kernel
theorem dR_leadOf_27 : decode prog_14_method_70_code 27 = .ok (.ireturn, 1) := by decide +kernel
theorem t_R_leadOf {d : Nat} {x1 x2 : Int} {σ : SG} {Q : Int → SG → Prop} (h : inI x2 → (L (d + 1) M_R_leadOf 2 [vA 161, vA x1, vI x2, vI 0] [] σ Q)) : Tri (d + 1) M_R_leadOf [vA 161, vA x1, vI x2] σ Q :=
  Tri_intro rfl (Nat.le_of_ble_eq_true rfl) (ls := [vA 161, vA x1, vI x2, vU]) rfl (fun hok => L_iconst dR_leadOf_0 in_0 (L_istore_n dR_leadOf_1 (by decide) ((h (hok _ (List.mem_of_getElem? (i := 2) rfl))))))
theorem s_R_leadOf_2 {d : Nat} {x1 x2 x3 : Int} {σ : SG} {Q : Int → SG → Prop} (h : (σ 161 27 ≤ x3 → Q (-1) σ) ∧ (x3 < σ 161 27 → rdok 100 x1 (w32 (x2 + x3)) ∧ (σ x1 (w32 (x2 + x3)) = 0 → L (d + 1) M_R_leadOf 2 [vA 161, vA x1, vI x2, vI (w32 (x3 + 1))] [] σ Q) ∧ (σ x1 (w32 (x2 + x3)) ≠ 0 → Q x3 σ))) : L (d + 1) M_R_leadOf 2 [vA 161, vA x1, vI x2, vI x3] [] σ Q :=
  L_iload_n dR_leadOf_2 rfl (L_aload_n dR_leadOf_3 rfl (L_getf fw_R_253 rfl dR_leadOf_4 ⟨ob_161, L_icmp_ge dR_leadOf_7 (by decide) ⟨fun c1 => L_iconst dR_leadOf_26 in_m1 (L_ireturn rfl dR_leadOf_27 (h.1 c1)), fun c1 => L_aload_n dR_leadOf_10 rfl (L_iload_n dR_leadOf_11 rfl (L_iload_n dR_leadOf_12 rfl (L_iadd dR_leadOf_13 (L_iaload dR_leadOf_14 ⟨(h.2 c1).1, L_if_eq dR_leadOf_15 (by decide) ⟨fun c2 => L_iinc dR_leadOf_20 rfl (by decide) (L_goto dR_leadOf_23 (by decide) ((h.2 c1).2.1 c2)), fun c2 => L_iload_n dR_leadOf_18 rfl (L_ireturn rfl dR_leadOf_19 ((h.2 c1).2.2 c2))⟩⟩))))⟩⟩))
theorem dR_reduce_0 : decode prog_14_method_71_code 0 = .ok (.iconst 0, 1) := by decide +kernel
theorem dR_reduce_1 : decode prog_14_method_71_code 1 = .ok (.istore 5, 2) := by decide +kernel
theorem dR_reduce_3 : decode prog_14_method_71_code 3 = .ok (.iload 5, 2) := by decide +kernel
theorem dR_reduce_5 : decode prog_14_method_71_code 5 = .ok (.aload_n 0, 1) := by decide +kernel
theorem dR_reduce_6 : decode prog_14_method_71_code 6 = .ok (.getfield 253, 3) := by decide +kernel
theorem dR_reduce_9 : decode prog_14_method_71_code 9 = .ok (.if_icmp .ge 23, 3) := by decide +kernel
theorem dR_reduce_12 : decode prog_14_method_71_code 12 = .ok (.aload_n 0, 1) := by decide +kernel
theorem dR_reduce_13 : decode prog_14_method_71_code 13 = .ok (.getfield 95, 3) := by decide +kernel
theorem dR_reduce_16 : decode prog_14_method_71_code 16 = .ok (.iload 5, 2) := by decide +kernel
theorem dR_reduce_18 : decode prog_14_method_71_code 18 = .ok (.aload_n 3, 1) := by decide +kernel
theorem dR_reduce_19 : decode prog_14_method_71_code 19 = .ok (.iload 4, 2) := by decide +kernel
theorem dR_reduce_21 : decode prog_14_method_71_code 21 = .ok (.iload 5, 2) := by decide +kernel
theorem dR_reduce_23 : decode prog_14_method_71_code 23 = .ok (.iadd, 1) := by decide +kernel
theorem dR_reduce_24 : decode prog_14_method_71_code 24 = .ok (.iaload, 1) := by decide +kernel
theorem dR_reduce_25 : decode prog_14_method_71_code 25 = .ok (.iastore, 1) := by decide +kernel
theorem dR_reduce_26 : decode prog_14_method_71_code 26 = .ok (.iinc 5 1, 3) := by decide +kernel
theorem dR_reduce_29 : decode prog_14_method_71_code 29 = .ok (.goto (-26), 3) := by decide +kernel
theorem dR_reduce_32 : decode prog_14_method_71_code 32 = .ok (.iconst 0, 1) := by decide +kernel
theorem dR_reduce_33 : decode prog_14_method_71_code 33 = .ok (.istore 5, 2) := by decide +kernel
theorem dR_reduce_35 : decode prog_14_method_71_code 35 = .ok (.iload 5, 2) := by decide +kernel
theorem dR_reduce_37 : decode prog_14_method_71_code 37 = .ok (.iload_n 2, 1) := by decide +kernel
theorem dR_reduce_38 : decode prog_14_method_71_code 38 = .ok (.if_icmp .ge 82, 3) := by decide +kernel
theorem dR_reduce_41 : decode prog_14_method_71_code 41 = .ok (.aload_n 0, 1) := by decide +kernel
theorem dR_reduce_42 : decode prog_14_method_71_code 42 = .ok (.getfield 95, 3) := by decide +kernel
theorem dR_reduce_45 : decode prog_14_method_71_code 45 = .ok (.aload_n 0, 1) := by decide +kernel
theorem dR_reduce_46 : decode prog_14_method_71_code 46 = .ok (.aload_n 1, 1) := by decide +kernel
theorem dR_reduce_47 : decode prog_14_method_71_code 47 = .ok (.iconst 5, 1) := by decide +kernel
theorem dR_reduce_48 : decode prog_14_method_71_code 48 = .ok (.iload 5, 2) := by decide +kernel
theorem dR_reduce_50 : decode prog_14_method_71_code 50 = .ok (.imul, 1) := by decide +kernel
theorem dR_reduce_51 : decode prog_14_method_71_code 51 = .ok (.invokevirtual 330, 3) := by decide +kernel
theorem dR_reduce_54 : decode prog_14_method_71_code 54 = .ok (.iaload, 1) := by decide +kernel
theorem dR_reduce_55 : decode prog_14_method_71_code 55 = .ok (.istore 6, 2) := by decide +kernel
theorem dR_reduce_57 : decode prog_14_method_71_code 57 = .ok (.iconst 0, 1) := by decide +kernel
theorem dR_reduce_58 : decode prog_14_method_71_code 58 = .ok (.istore 7, 2) := by decide +kernel
theorem dR_reduce_60 : decode prog_14_method_71_code 60 = .ok (.iload 7, 2) := by decide +kernel
theorem dR_reduce_62 : decode prog_14_method_71_code 62 = .ok (.aload_n 0, 1) := by decide +kernel
theorem dR_reduce_63 : decode prog_14_method_71_code 63 = .ok (.getfield 253, 3) := by decide +kernel
theorem dR_reduce_66 : decode prog_14_method_71_code 66 = .ok (.if_icmp .ge 48, 3) := by decide +kernel
theorem dR_reduce_69 : decode prog_14_method_71_code 69 = .ok (.iload 6, 2) := by decide +kernel
theorem dR_reduce_71 : decode prog_14_method_71_code 71 = .ok (.ifCond .eq 43, 3) := by decide +kernel
theorem dR_reduce_74 : decode prog_14_method_71_code 74 = .ok (.aload_n 0, 1) := by decide +kernel
theorem dR_reduce_75 : decode prog_14_method_71_code 75 = .ok (.getfield 95, 3) := by decide +kernel
theorem dR_reduce_78 : decode prog_14_method_71_code 78 = .ok (.iload 7, 2) := by decide +kernel
theorem dR_reduce_80 : decode prog_14_method_71_code 80 = .ok (.aload_n 0, 1) := by decide +kernel
theorem dR_reduce_81 : decode prog_14_method_71_code 81 = .ok (.getfield 95, 3) := by decide +kernel
theorem dR_reduce_84 : decode prog_14_method_71_code 84 = .ok (.iload 7, 2) := by decide +kernel
theorem dR_reduce_86 : decode prog_14_method_71_code 86 = .ok (.iaload, 1) := by decide +kernel
theorem dR_reduce_87 : decode prog_14_method_71_code 87 = .ok (.iload 6, 2) := by decide +kernel
theorem dR_reduce_89 : decode prog_14_method_71_code 89 = .ok (.aload_n 1, 1) := by decide +kernel
theorem dR_reduce_90 : decode prog_14_method_71_code 90 = .ok (.iconst 5, 1) := by decide +kernel
theorem dR_reduce_91 : decode prog_14_method_71_code 91 = .ok (.iload 5, 2) := by decide +kernel
theorem dR_reduce_93 : decode prog_14_method_71_code 93 = .ok (.imul, 1) := by decide +kernel
theorem dR_reduce_94 : decode prog_14_method_71_code 94 = .ok (.iload 7, 2) := by decide +kernel
theorem dR_reduce_96 : decode prog_14_method_71_code 96 = .ok (.iadd, 1) := by decide +kernel
theorem dR_reduce_97 : decode prog_14_method_71_code 97 = .ok (.iaload, 1) := by decide +kernel
theorem dR_reduce_98 : decode prog_14_method_71_code 98 = .ok (.imul, 1) := by decide +kernel
theorem dR_reduce_99 : decode prog_14_method_71_code 99 = .ok (.isub, 1) := by decide +kernel
theorem dR_reduce_100 : decode prog_14_method_71_code 100 = .ok (.aload_n 0, 1) := by decide +kernel
theorem dR_reduce_101 : decode prog_14_method_71_code 101 = .ok (.getfield 250, 3) := by decide +kernel
theorem dR_reduce_104 : decode prog_14_method_71_code 104 = .ok (.invokestatic 264, 3) := by decide +kernel
theorem dR_reduce_107 : decode prog_14_method_71_code 107 = .ok (.iastore, 1) := by decide +kernel
theorem dR_reduce_108 : decode prog_14_method_71_code 108 = .ok (.iinc 7 1, 3) := by decide +kernel
theorem dR_reduce_111 : decode prog_14_method_71_code 111 = .ok (.goto (-51), 3) := by decide +kernel
theorem dR_reduce_114 : decode prog_14_method_71_code 114 = .ok (.iinc 5 1, 3) := by decide +kernel
theorem dR_reduce_117 : decode prog_14_method_71_code 117 = .ok (.goto (-82), 3) := by decide +kernel
theorem dR_reduce_120 : decode prog_14_method_71_code 120 = .ok (.return_, 1) := by decide +kernel
theorem t_R_reduce {d : Nat} {x1 x2 x3 x4 : Int} {σ : SG} {Q : Int → SG → Prop} (h : inI x2 → inI x4 → (L (d + 1) M_R_reduce 3 [vA 161, vA x1, vI x2, vA x3, vI x4, vI 0, vU, vU] [] σ Q)) : Tri (d + 1) M_R_reduce [vA 161, vA x1, vI x2, vA x3, vI x4] σ Q :=
  Tri_intro rfl (Nat.le_of_ble_eq_true rfl) (ls := [vA 161, vA x1, vI x2, vA x3, vI x4, vU, vU, vU]) rfl (fun hok => L_iconst dR_reduce_0 in_0 (L_istore dR_reduce_1 (by decide) ((h (hok _ (List.mem_of_getElem? (i := 2) rfl)) (hok _ (List.mem_of_getElem? (i := 4) rfl))))))
theorem s_R_reduce_3 {d : Nat} {x1 x2 x3 x4 x5 : Int} {σ : SG} {Q : Int → SG → Prop} (h : (σ 161 27 ≤ x5 → L (d + 1) M_R_reduce 35 [vA 161, vA x1, vI x2, vU, vU, vI 0, vU, vU] [] σ Q) ∧ (x5 < σ 161 27 → rdok 100 x3 (w32 (x4 + x5)) ∧ (0 ≤ x5 ∧ x5 < 5) ∧ (∀ σ2, σ2 = up σ 185 x5 (σ x3 (w32 (x4 + x5))) → L (d + 1) M_R_reduce 3 [vA 161, vA x1, vI x2, vA x3, vI x4, vI (w32 (x5 + 1)), vU, vU] [] σ2 Q))) : L (d + 1) M_R_reduce 3 [vA 161, vA x1, vI x2, vA x3, vI x4, vI x5, vU, vU] [] σ Q :=
  L_iload dR_reduce_3 rfl (L_aload_n dR_reduce_5 rfl (L_getf fw_R_253 rfl dR_reduce_6 ⟨ob_161, L_icmp_ge dR_reduce_9 (by decide) ⟨fun c1 => L_iconst dR_reduce_32 in_0 (L_istore dR_reduce_33 (by decide) (L_weak [true, true, true, false, false, true, true, true] (h.1 c1))), fun c1 => L_aload_n dR_reduce_12 rfl (L_getF (b := 185) fw_R_95 rfl rfl (by decide) dR_reduce_13 ⟨ob_161, L_iload dR_reduce_16 rfl (L_aload_n dR_reduce_18 rfl (L_iload dR_reduce_19 rfl (L_iload dR_reduce_21 rfl (L_iadd dR_reduce_23 (L_iaload dR_reduce_24 ⟨(h.2 c1).1, L_iastoreL (by decide) kd_185 dR_reduce_25 ⟨(h.2 c1).2.1, fun σ2 e2 => L_iinc dR_reduce_26 rfl (by decide) (L_goto dR_reduce_29 (by decide) ((h.2 c1).2.2 σ2 e2))⟩⟩)))))⟩)⟩⟩))
theorem s_R_reduce_35 {d : Nat} {x1 x2 x5 : Int} {σ : SG} {Q : Int → SG → Prop} (h : (x2 ≤ x5 → Q 0 σ) ∧ (x5 < x2 → Tri d M_R_leadOf [vA 161, vA x1, vI (w32 (5 * x5))] σ (fun r2 σ2 => (0 ≤ r2 ∧ r2 < 5) ∧ L (d + 1) M_R_reduce 60 [vA 161, vA x1, vI x2, vU, vU, vI x5, vI (σ2 185 r2), vI 0] [] σ2 Q))) : L (d + 1) M_R_reduce 35 [vA 161, vA x1, vI x2, vU, vU, vI x5, vU, vU] [] σ Q :=
  L_iload dR_reduce_35 rfl (L_iload_n dR_reduce_37 rfl (L_icmp_ge dR_reduce_38 (by decide) ⟨fun c1 => L_return rfl dR_reduce_120 (h.1 c1), fun c1 => L_aload_n dR_reduce_41 rfl (L_getF (b := 185) fw_R_95 rfl rfl (by decide) dR_reduce_42 ⟨ob_161, L_aload_n dR_reduce_45 rfl (L_aload_n dR_reduce_46 rfl (L_iconst dR_reduce_47 in_5 (L_iload dR_reduce_48 rfl (L_imul dR_reduce_50 (L_callVI rfl cv_R_leadOf (As := [vA x1, vI (w32 (5 * x5))]) rfl (tk8 185 rfl rfl) rfl (Nat.le_of_ble_eq_true rfl) dR_reduce_51 ⟨ob_161, Tri.mono (h.2 c1) (fun r2 σ2 q2 => L_ialoadL kd_185 dR_reduce_54 ⟨q2.1, L_istore dR_reduce_55 (by decide) (L_iconst dR_reduce_57 in_0 (L_istore dR_reduce_58 (by decide) q2.2))⟩)⟩)))))⟩)⟩))
theorem s_R_reduce_60 {d : Nat} {x1 x2 x5 x6 x7 : Int} {σ : SG} {Q : Int → SG → Prop} (h : (σ 161 27 ≤ x7 → L (d + 1) M_R_reduce 35 [vA 161, vA x1, vI x2, vU, vU, vI (w32 (x5 + 1)), vU, vU] [] σ Q) ∧ (x7 < σ 161 27 → (x6 = 0 → L (d + 1) M_R_reduce 35 [vA 161, vA x1, vI x2, vU, vU, vI (w32 (x5 + 1)), vU, vU] [] σ Q) ∧ (x6 ≠ 0 → (0 ≤ x7 ∧ x7 < 5) ∧ rdok 100 x1 (w32 ((w32 (5 * x5)) + x7)) ∧ Tri d M_R_left [vI (w32 ((σ 185 x7) - (w32 (x6 * (σ x1 (w32 ((w32 (5 * x5)) + x7))))))), vI (σ 161 26)] σ (fun r3 σ3 => (0 ≤ x7 ∧ x7 < 5) ∧ (∀ σ4, σ4 = up σ3 185 x7 r3 → L (d + 1) M_R_reduce 60 [vA 161, vA x1, vI x2, vU, vU, vI x5, vI x6, vI (w32 (x7 + 1))] [] σ4 Q))))) : L (d + 1) M_R_reduce 60 [vA 161, vA x1, vI x2, vU, vU, vI x5, vI x6, vI x7] [] σ Q :=
  L_iload dR_reduce_60 rfl (L_aload_n dR_reduce_62 rfl (L_getf fw_R_253 rfl dR_reduce_63 ⟨ob_161, L_icmp_ge dR_reduce_66 (by decide) ⟨fun c1 => L_iinc dR_reduce_114 rfl (by decide) (L_goto dR_reduce_117 (by decide) (L_weak [true, true, true, true, true, true, false, false] (h.1 c1))), fun c1 => L_iload dR_reduce_69 rfl (L_if_eq dR_reduce_71 (by decide) ⟨fun c2 => L_iinc dR_reduce_114 rfl (by decide) (L_goto dR_reduce_117 (by decide) (L_weak [true, true, true, true, true, true, false, false] ((h.2 c1).1 c2))), fun c2 => L_aload_n dR_reduce_74 rfl (L_getF (b := 185) fw_R_95 rfl rfl (by decide) dR_reduce_75 ⟨ob_161, L_iload dR_reduce_78 rfl (L_aload_n dR_reduce_80 rfl (L_getF (b := 185) fw_R_95 rfl rfl (by decide) dR_reduce_81 ⟨ob_161, L_iload dR_reduce_84 rfl (L_ialoadL kd_185 dR_reduce_86 ⟨((h.2 c1).2 c2).1, L_iload dR_reduce_87 rfl (L_aload_n dR_reduce_89 rfl (L_iconst dR_reduce_90 in_5 (L_iload dR_reduce_91 rfl (L_imul dR_reduce_93 (L_iload dR_reduce_94 rfl (L_iadd dR_reduce_96 (L_iaload dR_reduce_97 ⟨((h.2 c1).2 c2).2.1, L_imul dR_reduce_98 (L_isub dR_reduce_99 (L_aload_n dR_reduce_100 rfl (L_getf fw_R_250 rfl dR_reduce_101 ⟨ob_161, L_callSI rfl cs_R_left (As := [vI (w32 ((σ 185 x7) - (w32 (x6 * (σ x1 (w32 ((w32 (5 * x5)) + x7))))))), vI (σ 161 26)]) rfl (tk8 93 rfl rfl) rfl (Nat.le_of_ble_eq_true rfl) dR_reduce_104 (Tri.mono (((h.2 c1).2 c2).2.2) (fun r3 σ3 q3 => L_iastoreL (by decide) kd_185 dR_reduce_107 ⟨q3.1, fun σ4 e4 => L_iinc dR_reduce_108 rfl (by decide) (L_goto dR_reduce_111 (by decide) (q3.2 σ4 e4))⟩))⟩)))⟩)))))))⟩)⟩))⟩)⟩)⟩⟩))
theorem dR_holds_0 : decode prog_14_method_72_code 0 = .ok (.aload_n 0, 1) := by decide +kernel
theorem dR_holds_1 : decode prog_14_method_72_code 1 = .ok (.aload_n 1, 1) := by decide +kernel
theorem dR_holds_2 : decode prog_14_method_72_code 2 = .ok (.iload_n 2, 1) := by decide +kernel
theorem dR_holds_3 : decode prog_14_method_72_code 3 = .ok (.aload_n 3, 1) := by decide +kernel
theorem dR_holds_4 : decode prog_14_method_72_code 4 = .ok (.iload 4, 2) := by decide +kernel
theorem dR_holds_6 : decode prog_14_method_72_code 6 = .ok (.invokevirtual 334, 3) := by decide +kernel
theorem dR_holds_9 : decode prog_14_method_72_code 9 = .ok (.aload_n 0, 1) := by decide +kernel
theorem dR_holds_10 : decode prog_14_method_72_code 10 = .ok (.aload_n 0, 1) := by decide +kernel
theorem dR_holds_11 : decode prog_14_method_72_code 11 = .ok (.getfield 95, 3) := by decide +kernel
theorem dR_holds_14 : decode prog_14_method_72_code 14 = .ok (.iconst 0, 1) := by decide +kernel
theorem dR_holds_15 : decode prog_14_method_72_code 15 = .ok (.invokevirtual 330, 3) := by decide +kernel
theorem dR_holds_18 : decode prog_14_method_72_code 18 = .ok (.ifCond .ge 7, 3) := by decide +kernel
theorem dR_holds_21 : decode prog_14_method_72_code 21 = .ok (.iconst 1, 1) := by decide +kernel
theorem dR_holds_22 : decode prog_14_method_72_code 22 = .ok (.goto 4, 3) := by decide +kernel
theorem dR_holds_25 : decode prog_14_method_72_code 25 = .ok (.iconst 0, 1) := by decide +kernel
theorem dR_holds_26 : decode prog_14_method_72_code 26 = .ok (.ireturn, 1) := by decide +kernel
theorem t_R_holds {d : Nat} {x1 x2 x3 x4 : Int} {σ : SG} {Q : Int → SG → Prop} (h : inI x2 → inI x4 → (Tri d M_R_reduce [vA 161, vA x1, vI x2, vA x3, vI x4] σ (fun r1 σ1 => Tri d M_R_leadOf [vA 161, vA 185, vI 0] σ1 (fun r2 σ2 => (0 ≤ r2 → Q 0 σ2) ∧ (r2 < 0 → Q 1 σ2))))) : Tri (d + 1) M_R_holds [vA 161, vA x1, vI x2, vA x3, vI x4] σ Q :=
  Tri_intro rfl (Nat.le_of_ble_eq_true rfl) (ls := [vA 161, vA x1, vI x2, vA x3, vI x4]) rfl (fun hok => L_aload_n dR_holds_0 rfl (L_aload_n dR_holds_1 rfl (L_iload_n dR_holds_2 rfl (L_aload_n dR_holds_3 rfl (L_iload dR_holds_4 rfl (L_callVV rfl cv_R_reduce (As := [vA x1, vI x2, vA x3, vI x4]) rfl (tk8 234 rfl rfl) rfl (Nat.le_of_ble_eq_true rfl) dR_holds_6 ⟨ob_161, Tri.mono ((h (hok _ (List.mem_of_getElem? (i := 2) rfl)) (hok _ (List.mem_of_getElem? (i := 4) rfl)))) (fun r1 σ1 q1 => L_aload_n dR_holds_9 rfl (L_aload_n dR_holds_10 rfl (L_getF (b := 185) fw_R_95 rfl rfl (by decide) dR_holds_11 ⟨ob_161, L_iconst dR_holds_14 in_0 (L_callVI rfl cv_R_leadOf (As := [vA 185, vI 0]) rfl (tk8 185 rfl rfl) rfl (Nat.le_of_ble_eq_true rfl) dR_holds_15 ⟨ob_161, Tri.mono q1 (fun r2 σ2 q2 => L_if_ge dR_holds_18 (by decide) ⟨fun c3 => L_iconst dR_holds_25 in_0 (L_zreturn0 rfl dR_holds_26 (q2.1 c3)), fun c3 => L_iconst dR_holds_21 in_1 (L_goto dR_holds_22 (by decide) (L_zreturn1 rfl dR_holds_26 (q2.2 c3)))⟩)⟩)⟩)))⟩))))))
theorem dR_join_0 : decode prog_14_method_73_code 0 = .ok (.aload_n 0, 1) := by decide +kernel
theorem dR_join_1 : decode prog_14_method_73_code 1 = .ok (.aload_n 1, 1) := by decide +kernel
theorem dR_join_2 : decode prog_14_method_73_code 2 = .ok (.iload_n 2, 1) := by decide +kernel
theorem dR_join_3 : decode prog_14_method_73_code 3 = .ok (.aload_n 3, 1) := by decide +kernel
theorem dR_join_4 : decode prog_14_method_73_code 4 = .ok (.iload 4, 2) := by decide +kernel
theorem dR_join_6 : decode prog_14_method_73_code 6 = .ok (.invokevirtual 334, 3) := by decide +kernel
theorem dR_join_9 : decode prog_14_method_73_code 9 = .ok (.aload_n 0, 1) := by decide +kernel
theorem dR_join_10 : decode prog_14_method_73_code 10 = .ok (.aload_n 0, 1) := by decide +kernel
theorem dR_join_11 : decode prog_14_method_73_code 11 = .ok (.getfield 95, 3) := by decide +kernel
theorem dR_join_14 : decode prog_14_method_73_code 14 = .ok (.iconst 0, 1) := by decide +kernel
theorem dR_join_15 : decode prog_14_method_73_code 15 = .ok (.invokevirtual 330, 3) := by decide +kernel
theorem dR_join_18 : decode prog_14_method_73_code 18 = .ok (.istore 5, 2) := by decide +kernel
theorem dR_join_20 : decode prog_14_method_73_code 20 = .ok (.iload 5, 2) := by decide +kernel
theorem dR_join_22 : decode prog_14_method_73_code 22 = .ok (.ifCond .ge 5, 3) := by decide +kernel
theorem dR_join_25 : decode prog_14_method_73_code 25 = .ok (.iload_n 2, 1) := by decide +kernel
theorem dR_join_26 : decode prog_14_method_73_code 26 = .ok (.ireturn, 1) := by decide +kernel
theorem dR_join_27 : decode prog_14_method_73_code 27 = .ok (.aload_n 0, 1) := by decide +kernel
theorem dR_join_28 : decode prog_14_method_73_code 28 = .ok (.aload_n 0, 1) := by decide +kernel
theorem dR_join_29 : decode prog_14_method_73_code 29 = .ok (.getfield 95, 3) := by decide +kernel
theorem dR_join_32 : decode prog_14_method_73_code 32 = .ok (.iload 5, 2) := by decide +kernel
theorem dR_join_34 : decode prog_14_method_73_code 34 = .ok (.iaload, 1) := by decide +kernel
theorem dR_join_35 : decode prog_14_method_73_code 35 = .ok (.invokevirtual 337, 3) := by decide +kernel
theorem dR_join_38 : decode prog_14_method_73_code 38 = .ok (.istore 6, 2) := by decide +kernel
theorem dR_join_40 : decode prog_14_method_73_code 40 = .ok (.iconst 0, 1) := by decide +kernel
theorem dR_join_41 : decode prog_14_method_73_code 41 = .ok (.istore 7, 2) := by decide +kernel
theorem dR_join_43 : decode prog_14_method_73_code 43 = .ok (.iload 7, 2) := by decide +kernel
theorem dR_join_45 : decode prog_14_method_73_code 45 = .ok (.aload_n 0, 1) := by decide +kernel
theorem dR_join_46 : decode prog_14_method_73_code 46 = .ok (.getfield 253, 3) := by decide +kernel
theorem dR_join_49 : decode prog_14_method_73_code 49 = .ok (.if_icmp .ge 31, 3) := by decide +kernel
theorem dR_join_52 : decode prog_14_method_73_code 52 = .ok (.aload_n 0, 1) := by decide +kernel
theorem dR_join_53 : decode prog_14_method_73_code 53 = .ok (.getfield 95, 3) := by decide +kernel
theorem dR_join_56 : decode prog_14_method_73_code 56 = .ok (.iload 7, 2) := by decide +kernel
theorem dR_join_58 : decode prog_14_method_73_code 58 = .ok (.aload_n 0, 1) := by decide +kernel
theorem dR_join_59 : decode prog_14_method_73_code 59 = .ok (.getfield 95, 3) := by decide +kernel
theorem dR_join_62 : decode prog_14_method_73_code 62 = .ok (.iload 7, 2) := by decide +kernel
theorem dR_join_64 : decode prog_14_method_73_code 64 = .ok (.iaload, 1) := by decide +kernel
theorem dR_join_65 : decode prog_14_method_73_code 65 = .ok (.iload 6, 2) := by decide +kernel
theorem dR_join_67 : decode prog_14_method_73_code 67 = .ok (.imul, 1) := by decide +kernel
theorem dR_join_68 : decode prog_14_method_73_code 68 = .ok (.aload_n 0, 1) := by decide +kernel
theorem dR_join_69 : decode prog_14_method_73_code 69 = .ok (.getfield 250, 3) := by decide +kernel
theorem dR_join_72 : decode prog_14_method_73_code 72 = .ok (.irem, 1) := by decide +kernel
theorem dR_join_73 : decode prog_14_method_73_code 73 = .ok (.iastore, 1) := by decide +kernel
theorem dR_join_74 : decode prog_14_method_73_code 74 = .ok (.iinc 7 1, 3) := by decide +kernel
theorem dR_join_77 : decode prog_14_method_73_code 77 = .ok (.goto (-34), 3) := by decide +kernel
theorem dR_join_80 : decode prog_14_method_73_code 80 = .ok (.iconst 0, 1) := by decide +kernel
theorem dR_join_81 : decode prog_14_method_73_code 81 = .ok (.istore 7, 2) := by decide +kernel
theorem dR_join_83 : decode prog_14_method_73_code 83 = .ok (.iconst 0, 1) := by decide +kernel
theorem dR_join_84 : decode prog_14_method_73_code 84 = .ok (.istore 8, 2) := by decide +kernel
theorem dR_join_86 : decode prog_14_method_73_code 86 = .ok (.iload 8, 2) := by decide +kernel
theorem dR_join_88 : decode prog_14_method_73_code 88 = .ok (.iload_n 2, 1) := by decide +kernel
theorem dR_join_89 : decode prog_14_method_73_code 89 = .ok (.if_icmp .ge 94, 3) := by decide +kernel
theorem dR_join_92 : decode prog_14_method_73_code 92 = .ok (.aload_n 1, 1) := by decide +kernel
theorem dR_join_93 : decode prog_14_method_73_code 93 = .ok (.iconst 5, 1) := by decide +kernel
theorem dR_join_94 : decode prog_14_method_73_code 94 = .ok (.iload 8, 2) := by decide +kernel
theorem dR_join_96 : decode prog_14_method_73_code 96 = .ok (.imul, 1) := by decide +kernel
theorem dR_join_97 : decode prog_14_method_73_code 97 = .ok (.iload 5, 2) := by decide +kernel
theorem dR_join_99 : decode prog_14_method_73_code 99 = .ok (.iadd, 1) := by decide +kernel
theorem dR_join_100 : decode prog_14_method_73_code 100 = .ok (.iaload, 1) := by decide +kernel
theorem dR_join_101 : decode prog_14_method_73_code 101 = .ok (.istore 9, 2) := by decide +kernel
theorem dR_join_103 : decode prog_14_method_73_code 103 = .ok (.iconst 0, 1) := by decide +kernel
theorem dR_join_104 : decode prog_14_method_73_code 104 = .ok (.istore 10, 2) := by decide +kernel
theorem dR_join_106 : decode prog_14_method_73_code 106 = .ok (.iload 10, 2) := by decide +kernel
theorem dR_join_108 : decode prog_14_method_73_code 108 = .ok (.aload_n 0, 1) := by decide +kernel
theorem dR_join_109 : decode prog_14_method_73_code 109 = .ok (.getfield 253, 3) := by decide +kernel
theorem dR_join_112 : decode prog_14_method_73_code 112 = .ok (.if_icmp .ge 45, 3) := by decide +kernel
theorem dR_join_115 : decode prog_14_method_73_code 115 = .ok (.aload_n 1, 1) := by decide +kernel
theorem dR_join_116 : decode prog_14_method_73_code 116 = .ok (.iconst 5, 1) := by decide +kernel
theorem dR_join_117 : decode prog_14_method_73_code 117 = .ok (.iload 8, 2) := by decide +kernel
theorem dR_join_119 : decode prog_14_method_73_code 119 = .ok (.imul, 1) := by decide +kernel
theorem dR_join_120 : decode prog_14_method_73_code 120 = .ok (.iload 10, 2) := by decide +kernel
theorem dR_join_122 : decode prog_14_method_73_code 122 = .ok (.iadd, 1) := by decide +kernel
theorem dR_join_123 : decode prog_14_method_73_code 123 = .ok (.aload_n 1, 1) := by decide +kernel
theorem dR_join_124 : decode prog_14_method_73_code 124 = .ok (.iconst 5, 1) := by decide +kernel
theorem dR_join_125 : decode prog_14_method_73_code 125 = .ok (.iload 8, 2) := by decide +kernel
theorem dR_join_127 : decode prog_14_method_73_code 127 = .ok (.imul, 1) := by decide +kernel
theorem dR_join_128 : decode prog_14_method_73_code 128 = .ok (.iload 10, 2) := by decide +kernel
theorem dR_join_130 : decode prog_14_method_73_code 130 = .ok (.iadd, 1) := by decide +kernel
theorem dR_join_131 : decode prog_14_method_73_code 131 = .ok (.iaload, 1) := by decide +kernel
theorem dR_join_132 : decode prog_14_method_73_code 132 = .ok (.iload 9, 2) := by decide +kernel
theorem dR_join_134 : decode prog_14_method_73_code 134 = .ok (.aload_n 0, 1) := by decide +kernel
theorem dR_join_135 : decode prog_14_method_73_code 135 = .ok (.getfield 95, 3) := by decide +kernel
theorem dR_join_138 : decode prog_14_method_73_code 138 = .ok (.iload 10, 2) := by decide +kernel
theorem dR_join_140 : decode prog_14_method_73_code 140 = .ok (.iaload, 1) := by decide +kernel
theorem dR_join_141 : decode prog_14_method_73_code 141 = .ok (.imul, 1) := by decide +kernel
theorem dR_join_142 : decode prog_14_method_73_code 142 = .ok (.isub, 1) := by decide +kernel
theorem dR_join_143 : decode prog_14_method_73_code 143 = .ok (.aload_n 0, 1) := by decide +kernel
theorem dR_join_144 : decode prog_14_method_73_code 144 = .ok (.getfield 250, 3) := by decide +kernel
theorem dR_join_147 : decode prog_14_method_73_code 147 = .ok (.invokestatic 264, 3) := by decide +kernel
theorem dR_join_150 : decode prog_14_method_73_code 150 = .ok (.iastore, 1) := by decide +kernel
theorem dR_join_151 : decode prog_14_method_73_code 151 = .ok (.iinc 10 1, 3) := by decide +kernel
theorem dR_join_154 : decode prog_14_method_73_code 154 = .ok (.goto (-48), 3) := by decide +kernel
theorem dR_join_157 : decode prog_14_method_73_code 157 = .ok (.aload_n 0, 1) := by decide +kernel
theorem dR_join_158 : decode prog_14_method_73_code 158 = .ok (.aload_n 1, 1) := by decide +kernel
theorem dR_join_159 : decode prog_14_method_73_code 159 = .ok (.iconst 5, 1) := by decide +kernel
theorem dR_join_160 : decode prog_14_method_73_code 160 = .ok (.iload 8, 2) := by decide +kernel
theorem dR_join_162 : decode prog_14_method_73_code 162 = .ok (.imul, 1) := by decide +kernel
theorem dR_join_163 : decode prog_14_method_73_code 163 = .ok (.invokevirtual 330, 3) := by decide +kernel
theorem dR_join_166 : decode prog_14_method_73_code 166 = .ok (.iload 5, 2) := by decide +kernel
theorem dR_join_168 : decode prog_14_method_73_code 168 = .ok (.if_icmp .ge 9, 3) := by decide +kernel
theorem dR_join_171 : decode prog_14_method_73_code 171 = .ok (.iload 8, 2) := by decide +kernel
theorem dR_join_173 : decode prog_14_method_73_code 173 = .ok (.iconst 1, 1) := by decide +kernel
theorem dR_join_174 : decode prog_14_method_73_code 174 = .ok (.iadd, 1) := by decide +kernel
theorem dR_join_175 : decode prog_14_method_73_code 175 = .ok (.istore 7, 2) := by decide +kernel
theorem dR_join_177 : decode prog_14_method_73_code 177 = .ok (.iinc 8 1, 3) := by decide +kernel
theorem dR_join_180 : decode prog_14_method_73_code 180 = .ok (.goto (-94), 3) := by decide +kernel
theorem dR_join_183 : decode prog_14_method_73_code 183 = .ok (.iconst 5, 1) := by decide +kernel
theorem dR_join_184 : decode prog_14_method_73_code 184 = .ok (.iload_n 2, 1) := by decide +kernel
theorem dR_join_185 : decode prog_14_method_73_code 185 = .ok (.imul, 1) := by decide +kernel
theorem dR_join_186 : decode prog_14_method_73_code 186 = .ok (.iconst 1, 1) := by decide +kernel
theorem dR_join_187 : decode prog_14_method_73_code 187 = .ok (.isub, 1) := by decide +kernel
theorem dR_join_188 : decode prog_14_method_73_code 188 = .ok (.istore 8, 2) := by decide +kernel
theorem dR_join_190 : decode prog_14_method_73_code 190 = .ok (.iload 8, 2) := by decide +kernel
theorem dR_join_192 : decode prog_14_method_73_code 192 = .ok (.iconst 5, 1) := by decide +kernel
theorem dR_join_193 : decode prog_14_method_73_code 193 = .ok (.iload 7, 2) := by decide +kernel
theorem dR_join_195 : decode prog_14_method_73_code 195 = .ok (.imul, 1) := by decide +kernel
theorem dR_join_196 : decode prog_14_method_73_code 196 = .ok (.if_icmp .lt 19, 3) := by decide +kernel
theorem dR_join_199 : decode prog_14_method_73_code 199 = .ok (.aload_n 1, 1) := by decide +kernel
theorem dR_join_200 : decode prog_14_method_73_code 200 = .ok (.iload 8, 2) := by decide +kernel
theorem dR_join_202 : decode prog_14_method_73_code 202 = .ok (.iconst 5, 1) := by decide +kernel
theorem dR_join_203 : decode prog_14_method_73_code 203 = .ok (.iadd, 1) := by decide +kernel
theorem dR_join_204 : decode prog_14_method_73_code 204 = .ok (.aload_n 1, 1) := by decide +kernel
theorem dR_join_205 : decode prog_14_method_73_code 205 = .ok (.iload 8, 2) := by decide +kernel
theorem dR_join_207 : decode prog_14_method_73_code 207 = .ok (.iaload, 1) := by decide +kernel
theorem dR_join_208 : decode prog_14_method_73_code 208 = .ok (.iastore, 1) := by decide +kernel
theorem dR_join_209 : decode prog_14_method_73_code 209 = .ok (.iinc 8 (-1), 3) := by decide +kernel
theorem dR_join_212 : decode prog_14_method_73_code 212 = .ok (.goto (-22), 3) := by decide +kernel
theorem dR_join_215 : decode prog_14_method_73_code 215 = .ok (.iconst 0, 1) := by decide +kernel
theorem dR_join_216 : decode prog_14_method_73_code 216 = .ok (.istore 8, 2) := by decide +kernel
theorem dR_join_218 : decode prog_14_method_73_code 218 = .ok (.iload 8, 2) := by decide +kernel
theorem dR_join_220 : decode prog_14_method_73_code 220 = .ok (.aload_n 0, 1) := by decide +kernel
theorem dR_join_221 : decode prog_14_method_73_code 221 = .ok (.getfield 253, 3) := by decide +kernel
theorem dR_join_224 : decode prog_14_method_73_code 224 = .ok (.if_icmp .ge 25, 3) := by decide +kernel
theorem dR_join_227 : decode prog_14_method_73_code 227 = .ok (.aload_n 1, 1) := by decide +kernel
theorem dR_join_228 : decode prog_14_method_73_code 228 = .ok (.iconst 5, 1) := by decide +kernel
theorem dR_join_229 : decode prog_14_method_73_code 229 = .ok (.iload 7, 2) := by decide +kernel
theorem dR_join_231 : decode prog_14_method_73_code 231 = .ok (.imul, 1) := by decide +kernel
theorem dR_join_232 : decode prog_14_method_73_code 232 = .ok (.iload 8, 2) := by decide +kernel
theorem dR_join_234 : decode prog_14_method_73_code 234 = .ok (.iadd, 1) := by decide +kernel
theorem dR_join_235 : decode prog_14_method_73_code 235 = .ok (.aload_n 0, 1) := by decide +kernel
theorem dR_join_236 : decode prog_14_method_73_code 236 = .ok (.getfield 95, 3) := by decide +kernel
theorem dR_join_239 : decode prog_14_method_73_code 239 = .ok (.iload 8, 2) := by decide +kernel
theorem dR_join_241 : decode prog_14_method_73_code 241 = .ok (.iaload, 1) := by decide +kernel
theorem dR_join_242 : decode prog_14_method_73_code 242 = .ok (.iastore, 1) := by decide +kernel
theorem dR_join_243 : decode prog_14_method_73_code 243 = .ok (.iinc 8 1, 3) := by decide +kernel
theorem dR_join_246 : decode prog_14_method_73_code 246 = .ok (.goto (-28), 3) := by decide +kernel
theorem dR_join_249 : decode prog_14_method_73_code 249 = .ok (.iload_n 2, 1) := by decide +kernel
theorem dR_join_250 : decode prog_14_method_73_code 250 = .ok (.iconst 1, 1) := by decide +kernel
theorem dR_join_251 : decode prog_14_method_73_code 251 = .ok (.iadd, 1) := by decide +kernel
theorem dR_join_252 : decode prog_14_method_73_code 252 = .ok (.ireturn, 1) := by decide +kernel
theorem t_R_join {d : Nat} {x1 x2 x3 x4 : Int} {σ : SG} {Q : Int → SG → Prop} (h : inI x2 → inI x4 → (Tri d M_R_reduce [vA 161, vA x1, vI x2, vA x3, vI x4] σ (fun r1 σ1 => Tri d M_R_leadOf [vA 161, vA 185, vI 0] σ1 (fun r2 σ2 => (0 ≤ r2 → (0 ≤ r2 ∧ r2 < 5) ∧ Tri d M_R_inverse [vA 161, vI (σ2 185 r2)] σ2 (fun r4 σ4 => L (d + 1) M_R_join 43 [vA 161, vA x1, vI x2, vU, vU, vI r2, vI r4, vI 0, vU, vU, vU] [] σ4 Q)) ∧ (r2 < 0 → Q x2 σ2))))) : Tri (d + 1) M_R_join [vA 161, vA x1, vI x2, vA x3, vI x4] σ Q :=
  Tri_intro rfl (Nat.le_of_ble_eq_true rfl) (ls := [vA 161, vA x1, vI x2, vA x3, vI x4, vU, vU, vU, vU, vU, vU]) rfl (fun hok => L_aload_n dR_join_0 rfl (L_aload_n dR_join_1 rfl (L_iload_n dR_join_2 rfl (L_aload_n dR_join_3 rfl (L_iload dR_join_4 rfl (L_callVV rfl cv_R_reduce (As := [vA x1, vI x2, vA x3, vI x4]) rfl (tk8 234 rfl rfl) rfl (Nat.le_of_ble_eq_true rfl) dR_join_6 ⟨ob_161, Tri.mono ((h (hok _ (List.mem_of_getElem? (i := 2) rfl)) (hok _ (List.mem_of_getElem? (i := 4) rfl)))) (fun r1 σ1 q1 => L_aload_n dR_join_9 rfl (L_aload_n dR_join_10 rfl (L_getF (b := 185) fw_R_95 rfl rfl (by decide) dR_join_11 ⟨ob_161, L_iconst dR_join_14 in_0 (L_callVI rfl cv_R_leadOf (As := [vA 185, vI 0]) rfl (tk8 185 rfl rfl) rfl (Nat.le_of_ble_eq_true rfl) dR_join_15 ⟨ob_161, Tri.mono q1 (fun r2 σ2 q2 => L_istore dR_join_18 (by decide) (L_iload dR_join_20 rfl (L_if_ge dR_join_22 (by decide) ⟨fun c3 => L_aload_n dR_join_27 rfl (L_aload_n dR_join_28 rfl (L_getF (b := 185) fw_R_95 rfl rfl (by decide) dR_join_29 ⟨ob_161, L_iload dR_join_32 rfl (L_ialoadL kd_185 dR_join_34 ⟨(q2.1 c3).1, L_callVI rfl cv_R_inverse (As := [vI (σ2 185 r2)]) rfl (tk8 238 rfl rfl) rfl (Nat.le_of_ble_eq_true rfl) dR_join_35 ⟨ob_161, Tri.mono ((q2.1 c3).2) (fun r4 σ4 q4 => L_istore dR_join_38 (by decide) (L_iconst dR_join_40 in_0 (L_istore dR_join_41 (by decide) (L_weak [true, true, true, false, false, true, true, true, true, true, true] q4))))⟩⟩)⟩)), fun c3 => L_iload_n dR_join_25 rfl (L_ireturn rfl dR_join_26 (q2.2 c3))⟩)))⟩)⟩)))⟩))))))
theorem s_R_join_43 {d : Nat} {x1 x2 x5 x6 x7 : Int} {σ : SG} {Q : Int → SG → Prop} (h : (σ 161 27 ≤ x7 → L (d + 1) M_R_join 86 [vA 161, vA x1, vI x2, vU, vU, vI x5, vU, vI 0, vI 0, vU, vU] [] σ Q) ∧ (x7 < σ 161 27 → (0 ≤ x7 ∧ x7 < 5) ∧ σ 161 26 ≠ 0 ∧ (0 ≤ x7 ∧ x7 < 5) ∧ (∀ σ2, σ2 = up σ 185 x7 ((w32 ((σ 185 x7) * x6)).tmod (σ 161 26)) → L (d + 1) M_R_join 43 [vA 161, vA x1, vI x2, vU, vU, vI x5, vI x6, vI (w32 (x7 + 1)), vU, vU, vU] [] σ2 Q))) : L (d + 1) M_R_join 43 [vA 161, vA x1, vI x2, vU, vU, vI x5, vI x6, vI x7, vU, vU, vU] [] σ Q :=
  L_iload dR_join_43 rfl (L_aload_n dR_join_45 rfl (L_getf fw_R_253 rfl dR_join_46 ⟨ob_161, L_icmp_ge dR_join_49 (by decide) ⟨fun c1 => L_iconst dR_join_80 in_0 (L_istore dR_join_81 (by decide) (L_iconst dR_join_83 in_0 (L_istore dR_join_84 (by decide) (L_weak [true, true, true, true, true, true, false, true, true, true, true] (h.1 c1))))), fun c1 => L_aload_n dR_join_52 rfl (L_getF (b := 185) fw_R_95 rfl rfl (by decide) dR_join_53 ⟨ob_161, L_iload dR_join_56 rfl (L_aload_n dR_join_58 rfl (L_getF (b := 185) fw_R_95 rfl rfl (by decide) dR_join_59 ⟨ob_161, L_iload dR_join_62 rfl (L_ialoadL kd_185 dR_join_64 ⟨(h.2 c1).1, L_iload dR_join_65 rfl (L_imul dR_join_67 (L_aload_n dR_join_68 rfl (L_getf fw_R_250 rfl dR_join_69 ⟨ob_161, L_irem dR_join_72 ⟨(h.2 c1).2.1, L_iastoreL (by decide) kd_185 dR_join_73 ⟨(h.2 c1).2.2.1, fun σ2 e2 => L_iinc dR_join_74 rfl (by decide) (L_goto dR_join_77 (by decide) ((h.2 c1).2.2.2 σ2 e2))⟩⟩⟩)))⟩)⟩))⟩)⟩⟩))
theorem s_R_join_86 {d : Nat} {x1 x2 x5 x7 x8 : Int} {σ : SG} {Q : Int → SG → Prop} (h : (x2 ≤ x8 → L (d + 1) M_R_join 190 [vA 161, vA x1, vI x2, vU, vU, vU, vU, vI x7, vI (w32 ((w32 (5 * x2)) - 1)), vU, vU] [] σ Q) ∧ (x8 < x2 → rdok 100 x1 (w32 ((w32 (5 * x8)) + x5)) ∧ L (d + 1) M_R_join 106 [vA 161, vA x1, vI x2, vU, vU, vI x5, vU, vI x7, vI x8, vI (σ x1 (w32 ((w32 (5 * x8)) + x5))), vI 0] [] σ Q)) : L (d + 1) M_R_join 86 [vA 161, vA x1, vI x2, vU, vU, vI x5, vU, vI x7, vI x8, vU, vU] [] σ Q :=
  L_iload dR_join_86 rfl (L_iload_n dR_join_88 rfl (L_icmp_ge dR_join_89 (by decide) ⟨fun c1 => L_iconst dR_join_183 in_5 (L_iload_n dR_join_184 rfl (L_imul dR_join_185 (L_iconst dR_join_186 in_1 (L_isub dR_join_187 (L_istore dR_join_188 (by decide) (L_weak [true, true, true, true, true, false, true, true, true, true, true] (h.1 c1))))))), fun c1 => L_aload_n dR_join_92 rfl (L_iconst dR_join_93 in_5 (L_iload dR_join_94 rfl (L_imul dR_join_96 (L_iload dR_join_97 rfl (L_iadd dR_join_99 (L_iaload dR_join_100 ⟨(h.2 c1).1, L_istore dR_join_101 (by decide) (L_iconst dR_join_103 in_0 (L_istore dR_join_104 (by decide) ((h.2 c1).2)))⟩))))))⟩))
theorem s_R_join_190 {d : Nat} {x1 x2 x7 x8 : Int} {σ : SG} {Q : Int → SG → Prop} (h : (x8 < w32 (5 * x7) → L (d + 1) M_R_join 218 [vA 161, vA x1, vI x2, vU, vU, vU, vU, vI x7, vI 0, vU, vU] [] σ Q) ∧ (w32 (5 * x7) ≤ x8 → rdok 100 x1 x8 ∧ wrok 100 x1 (w32 (x8 + 5)) ∧ (∀ σ2, σ2 = up σ x1 (w32 (x8 + 5)) (σ x1 x8) → L (d + 1) M_R_join 190 [vA 161, vA x1, vI x2, vU, vU, vU, vU, vI x7, vI (w32 (x8 + (-1))), vU, vU] [] σ2 Q))) : L (d + 1) M_R_join 190 [vA 161, vA x1, vI x2, vU, vU, vU, vU, vI x7, vI x8, vU, vU] [] σ Q :=
  L_iload dR_join_190 rfl (L_iconst dR_join_192 in_5 (L_iload dR_join_193 rfl (L_imul dR_join_195 (L_icmp_lt dR_join_196 (by decide) ⟨fun c1 => L_iconst dR_join_215 in_0 (L_istore dR_join_216 (by decide) (h.1 c1)), fun c1 => L_aload_n dR_join_199 rfl (L_iload dR_join_200 rfl (L_iconst dR_join_202 in_5 (L_iadd dR_join_203 (L_aload_n dR_join_204 rfl (L_iload dR_join_205 rfl (L_iaload dR_join_207 ⟨(h.2 c1).1, L_iastoreN dR_join_208 ⟨(h.2 c1).2.1, fun σ2 e2 => L_iinc dR_join_209 rfl (by decide) (L_goto dR_join_212 (by decide) ((h.2 c1).2.2 σ2 e2))⟩⟩))))))⟩))))
theorem s_R_join_106 {d : Nat} {x1 x2 x5 x7 x8 x9 x10 : Int} {σ : SG} {Q : Int → SG → Prop} (h : (σ 161 27 ≤ x10 → Tri d M_R_leadOf [vA 161, vA x1, vI (w32 (5 * x8))] σ (fun r2 σ2 => (x5 ≤ r2 → L (d + 1) M_R_join 86 [vA 161, vA x1, vI x2, vU, vU, vI x5, vU, vI x7, vI (w32 (x8 + 1)), vU, vU] [] σ2 Q) ∧ (r2 < x5 → L (d + 1) M_R_join 86 [vA 161, vA x1, vI x2, vU, vU, vI x5, vU, vI (w32 (x8 + 1)), vI (w32 (x8 + 1)), vU, vU] [] σ2 Q))) ∧ (x10 < σ 161 27 → rdok 100 x1 (w32 ((w32 (5 * x8)) + x10)) ∧ (0 ≤ x10 ∧ x10 < 5) ∧ Tri d M_R_left [vI (w32 ((σ x1 (w32 ((w32 (5 * x8)) + x10))) - (w32 (x9 * (σ 185 x10))))), vI (σ 161 26)] σ (fun r4 σ4 => wrok 100 x1 (w32 ((w32 (5 * x8)) + x10)) ∧ (∀ σ5, σ5 = up σ4 x1 (w32 ((w32 (5 * x8)) + x10)) r4 → L (d + 1) M_R_join 106 [vA 161, vA x1, vI x2, vU, vU, vI x5, vU, vI x7, vI x8, vI x9, vI (w32 (x10 + 1))] [] σ5 Q)))) : L (d + 1) M_R_join 106 [vA 161, vA x1, vI x2, vU, vU, vI x5, vU, vI x7, vI x8, vI x9, vI x10] [] σ Q :=
  L_iload dR_join_106 rfl (L_aload_n dR_join_108 rfl (L_getf fw_R_253 rfl dR_join_109 ⟨ob_161, L_icmp_ge dR_join_112 (by decide) ⟨fun c1 => L_aload_n dR_join_157 rfl (L_aload_n dR_join_158 rfl (L_iconst dR_join_159 in_5 (L_iload dR_join_160 rfl (L_imul dR_join_162 (L_callVI rfl cv_R_leadOf (As := [vA x1, vI (w32 (5 * x8))]) rfl (tk8 185 rfl rfl) rfl (Nat.le_of_ble_eq_true rfl) dR_join_163 ⟨ob_161, Tri.mono (h.1 c1) (fun r2 σ2 q2 => L_iload dR_join_166 rfl (L_icmp_ge dR_join_168 (by decide) ⟨fun c3 => L_iinc dR_join_177 rfl (by decide) (L_goto dR_join_180 (by decide) (L_weak [true, true, true, true, true, true, true, true, true, false, false] (q2.1 c3))), fun c3 => L_iload dR_join_171 rfl (L_iconst dR_join_173 in_1 (L_iadd dR_join_174 (L_istore dR_join_175 (by decide) (L_iinc dR_join_177 rfl (by decide) (L_goto dR_join_180 (by decide) (L_weak [true, true, true, true, true, true, true, true, true, false, false] (q2.2 c3)))))))⟩))⟩))))), fun c1 => L_aload_n dR_join_115 rfl (L_iconst dR_join_116 in_5 (L_iload dR_join_117 rfl (L_imul dR_join_119 (L_iload dR_join_120 rfl (L_iadd dR_join_122 (L_aload_n dR_join_123 rfl (L_iconst dR_join_124 in_5 (L_iload dR_join_125 rfl (L_imul dR_join_127 (L_iload dR_join_128 rfl (L_iadd dR_join_130 (L_iaload dR_join_131 ⟨(h.2 c1).1, L_iload dR_join_132 rfl (L_aload_n dR_join_134 rfl (L_getF (b := 185) fw_R_95 rfl rfl (by decide) dR_join_135 ⟨ob_161, L_iload dR_join_138 rfl (L_ialoadL kd_185 dR_join_140 ⟨(h.2 c1).2.1, L_imul dR_join_141 (L_isub dR_join_142 (L_aload_n dR_join_143 rfl (L_getf fw_R_250 rfl dR_join_144 ⟨ob_161, L_callSI rfl cs_R_left (As := [vI (w32 ((σ x1 (w32 ((w32 (5 * x8)) + x10))) - (w32 (x9 * (σ 185 x10))))), vI (σ 161 26)]) rfl (tk8 93 rfl rfl) rfl (Nat.le_of_ble_eq_true rfl) dR_join_147 (Tri.mono ((h.2 c1).2.2) (fun r4 σ4 q4 => L_iastoreN dR_join_150 ⟨q4.1, fun σ5 e5 => L_iinc dR_join_151 rfl (by decide) (L_goto dR_join_154 (by decide) (q4.2 σ5 e5))⟩))⟩)))⟩)⟩))⟩))))))))))))⟩⟩))
theorem s_R_join_218 {d : Nat} {x1 x2 x7 x8 : Int} {σ : SG} {Q : Int → SG → Prop} (h : (σ 161 27 ≤ x8 → Q (w32 (x2 + 1)) σ) ∧ (x8 < σ 161 27 → (0 ≤ x8 ∧ x8 < 5) ∧ wrok 100 x1 (w32 ((w32 (5 * x7)) + x8)) ∧ (∀ σ2, σ2 = up σ x1 (w32 ((w32 (5 * x7)) + x8)) (σ 185 x8) → L (d + 1) M_R_join 218 [vA 161, vA x1, vI x2, vU, vU, vU, vU, vI x7, vI (w32 (x8 + 1)), vU, vU] [] σ2 Q))) : L (d + 1) M_R_join 218 [vA 161, vA x1, vI x2, vU, vU, vU, vU, vI x7, vI x8, vU, vU] [] σ Q :=
  L_iload dR_join_218 rfl (L_aload_n dR_join_220 rfl (L_getf fw_R_253 rfl dR_join_221 ⟨ob_161, L_icmp_ge dR_join_224 (by decide) ⟨fun c1 => L_iload_n dR_join_249 rfl (L_iconst dR_join_250 in_1 (L_iadd dR_join_251 (L_ireturn rfl dR_join_252 (h.1 c1)))), fun c1 => L_aload_n dR_join_227 rfl (L_iconst dR_join_228 in_5 (L_iload dR_join_229 rfl (L_imul dR_join_231 (L_iload dR_join_232 rfl (L_iadd dR_join_234 (L_aload_n dR_join_235 rfl (L_getF (b := 185) fw_R_95 rfl rfl (by decide) dR_join_236 ⟨ob_161, L_iload dR_join_239 rfl (L_ialoadL kd_185 dR_join_241 ⟨(h.2 c1).1, L_iastoreN dR_join_242 ⟨(h.2 c1).2.1, fun σ2 e2 => L_iinc dR_join_243 rfl (by decide) (L_goto dR_join_246 (by decide) ((h.2 c1).2.2 σ2 e2))⟩⟩)⟩)))))))⟩⟩))
theorem dR_copySpan_0 : decode prog_14_method_74_code 0 = .ok (.iconst 0, 1) := by decide +kernel
theorem dR_copySpan_1 : decode prog_14_method_74_code 1 = .ok (.istore_n 3, 1) := by decide +kernel
theorem dR_copySpan_2 : decode prog_14_method_74_code 2 = .ok (.iload_n 3, 1) := by decide +kernel
theorem dR_copySpan_3 : decode prog_14_method_74_code 3 = .ok (.bipush 25, 2) := by decide +kernel
theorem dR_copySpan_5 : decode prog_14_method_74_code 5 = .ok (.if_icmp .ge 15, 3) := by decide +kernel
theorem dR_copySpan_8 : decode prog_14_method_74_code 8 = .ok (.aload_n 2, 1) := by decide +kernel
theorem dR_copySpan_9 : decode prog_14_method_74_code 9 = .ok (.iload_n 3, 1) := by decide +kernel
theorem dR_copySpan_10 : decode prog_14_method_74_code 10 = .ok (.aload_n 1, 1) := by decide +kernel
theorem dR_copySpan_11 : decode prog_14_method_74_code 11 = .ok (.iload_n 3, 1) := by decide +kernel
theorem dR_copySpan_12 : decode prog_14_method_74_code 12 = .ok (.iaload, 1) := by decide +kernel
theorem dR_copySpan_13 : decode prog_14_method_74_code 13 = .ok (.iastore, 1) := by decide +kernel
theorem dR_copySpan_14 : decode prog_14_method_74_code 14 = .ok (.iinc 3 1, 3) := by decide +kernel
theorem dR_copySpan_17 : decode prog_14_method_74_code 17 = .ok (.goto (-15), 3) := by decide +kernel
theorem dR_copySpan_20 : decode prog_14_method_74_code 20 = .ok (.return_, 1) := by decide +kernel
theorem t_R_copySpan {d : Nat} {x1 x2 : Int} {σ : SG} {Q : Int → SG → Prop} (h : L (d + 1) M_R_copySpan 2 [vU, vA x1, vA x2, vI 0] [] σ Q) : Tri (d + 1) M_R_copySpan [vA 161, vA x1, vA x2] σ Q :=
  Tri_intro rfl (Nat.le_of_ble_eq_true rfl) (ls := [vA 161, vA x1, vA x2, vU]) rfl (fun hok => L_iconst dR_copySpan_0 in_0 (L_istore_n dR_copySpan_1 (by decide) (L_weak [false, true, true, true] (h))))
theorem s_R_copySpan_2 {d : Nat} {x1 x2 x3 : Int} {σ : SG} {Q : Int → SG → Prop} (h : (25 ≤ x3 → Q 0 σ) ∧ (x3 < 25 → rdok 100 x1 x3 ∧ wrok 100 x2 x3 ∧ (∀ σ2, σ2 = up σ x2 x3 (σ x1 x3) → L (d + 1) M_R_copySpan 2 [vU, vA x1, vA x2, vI (w32 (x3 + 1))] [] σ2 Q))) : L (d + 1) M_R_copySpan 2 [vU, vA x1, vA x2, vI x3] [] σ Q :=
  L_iload_n dR_copySpan_2 rfl (L_bipush dR_copySpan_3 bp_25 in_25 (L_icmp_ge dR_copySpan_5 (by decide) ⟨fun c1 => L_return rfl dR_copySpan_20 (h.1 c1), fun c1 => L_aload_n dR_copySpan_8 rfl (L_iload_n dR_copySpan_9 rfl (L_aload_n dR_copySpan_10 rfl (L_iload_n dR_copySpan_11 rfl (L_iaload dR_copySpan_12 ⟨(h.2 c1).1, L_iastoreN dR_copySpan_13 ⟨(h.2 c1).2.1, fun σ2 e2 => L_iinc dR_copySpan_14 rfl (by decide) (L_goto dR_copySpan_17 (by decide) ((h.2 c1).2.2 σ2 e2))⟩⟩))))⟩))
theorem dR_wholeSpan_0 : decode prog_14_method_75_code 0 = .ok (.iconst 0, 1) := by decide +kernel
theorem dR_wholeSpan_1 : decode prog_14_method_75_code 1 = .ok (.istore_n 2, 1) := by decide +kernel
theorem dR_wholeSpan_2 : decode prog_14_method_75_code 2 = .ok (.iload_n 2, 1) := by decide +kernel
theorem dR_wholeSpan_3 : decode prog_14_method_75_code 3 = .ok (.aload_n 0, 1) := by decide +kernel
theorem dR_wholeSpan_4 : decode prog_14_method_75_code 4 = .ok (.getfield 253, 3) := by decide +kernel
theorem dR_wholeSpan_7 : decode prog_14_method_75_code 7 = .ok (.if_icmp .ge 42, 3) := by decide +kernel
theorem dR_wholeSpan_10 : decode prog_14_method_75_code 10 = .ok (.iconst 0, 1) := by decide +kernel
theorem dR_wholeSpan_11 : decode prog_14_method_75_code 11 = .ok (.istore_n 3, 1) := by decide +kernel
theorem dR_wholeSpan_12 : decode prog_14_method_75_code 12 = .ok (.iload_n 3, 1) := by decide +kernel
theorem dR_wholeSpan_13 : decode prog_14_method_75_code 13 = .ok (.aload_n 0, 1) := by decide +kernel
theorem dR_wholeSpan_14 : decode prog_14_method_75_code 14 = .ok (.getfield 253, 3) := by decide +kernel
theorem dR_wholeSpan_17 : decode prog_14_method_75_code 17 = .ok (.if_icmp .ge 26, 3) := by decide +kernel
theorem dR_wholeSpan_20 : decode prog_14_method_75_code 20 = .ok (.aload_n 1, 1) := by decide +kernel
theorem dR_wholeSpan_21 : decode prog_14_method_75_code 21 = .ok (.iconst 5, 1) := by decide +kernel
theorem dR_wholeSpan_22 : decode prog_14_method_75_code 22 = .ok (.iload_n 2, 1) := by decide +kernel
theorem dR_wholeSpan_23 : decode prog_14_method_75_code 23 = .ok (.imul, 1) := by decide +kernel
theorem dR_wholeSpan_24 : decode prog_14_method_75_code 24 = .ok (.iload_n 3, 1) := by decide +kernel
theorem dR_wholeSpan_25 : decode prog_14_method_75_code 25 = .ok (.iadd, 1) := by decide +kernel
theorem dR_wholeSpan_26 : decode prog_14_method_75_code 26 = .ok (.iload_n 2, 1) := by decide +kernel
theorem dR_wholeSpan_27 : decode prog_14_method_75_code 27 = .ok (.iload_n 3, 1) := by decide +kernel
theorem dR_wholeSpan_28 : decode prog_14_method_75_code 28 = .ok (.if_icmp .ne 7, 3) := by decide +kernel
theorem dR_wholeSpan_31 : decode prog_14_method_75_code 31 = .ok (.iconst 1, 1) := by decide +kernel
theorem dR_wholeSpan_32 : decode prog_14_method_75_code 32 = .ok (.goto 4, 3) := by decide +kernel
theorem dR_wholeSpan_35 : decode prog_14_method_75_code 35 = .ok (.iconst 0, 1) := by decide +kernel
theorem dR_wholeSpan_36 : decode prog_14_method_75_code 36 = .ok (.iastore, 1) := by decide +kernel
theorem dR_wholeSpan_37 : decode prog_14_method_75_code 37 = .ok (.iinc 3 1, 3) := by decide +kernel
theorem dR_wholeSpan_40 : decode prog_14_method_75_code 40 = .ok (.goto (-28), 3) := by decide +kernel
theorem dR_wholeSpan_43 : decode prog_14_method_75_code 43 = .ok (.iinc 2 1, 3) := by decide +kernel
theorem dR_wholeSpan_46 : decode prog_14_method_75_code 46 = .ok (.goto (-44), 3) := by decide +kernel
theorem dR_wholeSpan_49 : decode prog_14_method_75_code 49 = .ok (.aload_n 0, 1) := by decide +kernel
theorem dR_wholeSpan_50 : decode prog_14_method_75_code 50 = .ok (.getfield 253, 3) := by decide +kernel
theorem dR_wholeSpan_53 : decode prog_14_method_75_code 53 = .ok (.ireturn, 1) := by decide +kernel
theorem t_R_wholeSpan {d : Nat} {x1 : Int} {σ : SG} {Q : Int → SG → Prop} (h : L (d + 1) M_R_wholeSpan 2 [vA 161, vA x1, vI 0, vU] [] σ Q) : Tri (d + 1) M_R_wholeSpan [vA 161, vA x1] σ Q :=
  Tri_intro rfl (Nat.le_of_ble_eq_true rfl) (ls := [vA 161, vA x1, vU, vU]) rfl (fun hok => L_iconst dR_wholeSpan_0 in_0 (L_istore_n dR_wholeSpan_1 (by decide) (h)))
theorem s_R_wholeSpan_2 {d : Nat} {x1 x2 : Int} {σ : SG} {Q : Int → SG → Prop} (h : (σ 161 27 ≤ x2 → Q (σ 161 27) σ) ∧ (x2 < σ 161 27 → L (d + 1) M_R_wholeSpan 12 [vA 161, vA x1, vI x2, vI 0] [] σ Q)) : L (d + 1) M_R_wholeSpan 2 [vA 161, vA x1, vI x2, vU] [] σ Q :=
  L_iload_n dR_wholeSpan_2 rfl (L_aload_n dR_wholeSpan_3 rfl (L_getf fw_R_253 rfl dR_wholeSpan_4 ⟨ob_161, L_icmp_ge dR_wholeSpan_7 (by decide) ⟨fun c1 => L_aload_n dR_wholeSpan_49 rfl (L_getf fw_R_253 rfl dR_wholeSpan_50 ⟨ob_161, L_ireturn rfl dR_wholeSpan_53 (h.1 c1)⟩), fun c1 => L_iconst dR_wholeSpan_10 in_0 (L_istore_n dR_wholeSpan_11 (by decide) (h.2 c1))⟩⟩))
theorem s_R_wholeSpan_12 {d : Nat} {x1 x2 x3 : Int} {σ : SG} {Q : Int → SG → Prop} (h : (σ 161 27 ≤ x3 → L (d + 1) M_R_wholeSpan 2 [vA 161, vA x1, vI (w32 (x2 + 1)), vU] [] σ Q) ∧ (x3 < σ 161 27 → (x2 ≠ x3 → wrok 100 x1 (w32 ((w32 (5 * x2)) + x3)) ∧ (∀ σ3, σ3 = up σ x1 (w32 ((w32 (5 * x2)) + x3)) 0 → L (d + 1) M_R_wholeSpan 12 [vA 161, vA x1, vI x2, vI (w32 (x3 + 1))] [] σ3 Q)) ∧ (x2 = x3 → wrok 100 x1 (w32 ((w32 (5 * x2)) + x3)) ∧ (∀ σ4, σ4 = up σ x1 (w32 ((w32 (5 * x2)) + x3)) 1 → L (d + 1) M_R_wholeSpan 12 [vA 161, vA x1, vI x2, vI (w32 (x3 + 1))] [] σ4 Q)))) : L (d + 1) M_R_wholeSpan 12 [vA 161, vA x1, vI x2, vI x3] [] σ Q :=
  L_iload_n dR_wholeSpan_12 rfl (L_aload_n dR_wholeSpan_13 rfl (L_getf fw_R_253 rfl dR_wholeSpan_14 ⟨ob_161, L_icmp_ge dR_wholeSpan_17 (by decide) ⟨fun c1 => L_iinc dR_wholeSpan_43 rfl (by decide) (L_goto dR_wholeSpan_46 (by decide) (L_weak [true, true, true, false] (h.1 c1))), fun c1 => L_aload_n dR_wholeSpan_20 rfl (L_iconst dR_wholeSpan_21 in_5 (L_iload_n dR_wholeSpan_22 rfl (L_imul dR_wholeSpan_23 (L_iload_n dR_wholeSpan_24 rfl (L_iadd dR_wholeSpan_25 (L_iload_n dR_wholeSpan_26 rfl (L_iload_n dR_wholeSpan_27 rfl (L_icmp_ne dR_wholeSpan_28 (by decide) ⟨fun c2 => L_iconst dR_wholeSpan_35 in_0 (L_iastoreN dR_wholeSpan_36 ⟨((h.2 c1).1 c2).1, fun σ3 e3 => L_iinc dR_wholeSpan_37 rfl (by decide) (L_goto dR_wholeSpan_40 (by decide) (((h.2 c1).1 c2).2 σ3 e3))⟩), fun c2 => L_iconst dR_wholeSpan_31 in_1 (L_goto dR_wholeSpan_32 (by decide) (L_iastoreN dR_wholeSpan_36 ⟨((h.2 c1).2 c2).1, fun σ4 e4 => L_iinc dR_wholeSpan_37 rfl (by decide) (L_goto dR_wholeSpan_40 (by decide) (((h.2 c1).2 c2).2 σ4 e4))⟩))⟩))))))))⟩⟩))
theorem dR_brackets_0 : decode prog_14_method_76_code 0 = .ok (.iconst 0, 1) := by decide +kernel
theorem dR_brackets_1 : decode prog_14_method_76_code 1 = .ok (.istore 6, 2) := by decide +kernel
theorem dR_brackets_3 : decode prog_14_method_76_code 3 = .ok (.iconst 0, 1) := by decide +kernel
theorem dR_brackets_4 : decode prog_14_method_76_code 4 = .ok (.istore 7, 2) := by decide +kernel
theorem dR_brackets_6 : decode prog_14_method_76_code 6 = .ok (.iload 7, 2) := by decide +kernel
theorem dR_brackets_8 : decode prog_14_method_76_code 8 = .ok (.iload_n 2, 1) := by decide +kernel
theorem dR_brackets_9 : decode prog_14_method_76_code 9 = .ok (.if_icmp .ge 58, 3) := by decide +kernel
theorem dR_brackets_12 : decode prog_14_method_76_code 12 = .ok (.iconst 0, 1) := by decide +kernel
theorem dR_brackets_13 : decode prog_14_method_76_code 13 = .ok (.istore 8, 2) := by decide +kernel
theorem dR_brackets_15 : decode prog_14_method_76_code 15 = .ok (.iload 8, 2) := by decide +kernel
theorem dR_brackets_17 : decode prog_14_method_76_code 17 = .ok (.iload 4, 2) := by decide +kernel
theorem dR_brackets_19 : decode prog_14_method_76_code 19 = .ok (.if_icmp .ge 42, 3) := by decide +kernel
theorem dR_brackets_22 : decode prog_14_method_76_code 22 = .ok (.aload_n 0, 1) := by decide +kernel
theorem dR_brackets_23 : decode prog_14_method_76_code 23 = .ok (.aload_n 1, 1) := by decide +kernel
theorem dR_brackets_24 : decode prog_14_method_76_code 24 = .ok (.iconst 5, 1) := by decide +kernel
theorem dR_brackets_25 : decode prog_14_method_76_code 25 = .ok (.iload 7, 2) := by decide +kernel
theorem dR_brackets_27 : decode prog_14_method_76_code 27 = .ok (.imul, 1) := by decide +kernel
theorem dR_brackets_28 : decode prog_14_method_76_code 28 = .ok (.aload_n 3, 1) := by decide +kernel
theorem dR_brackets_29 : decode prog_14_method_76_code 29 = .ok (.iconst 5, 1) := by decide +kernel
theorem dR_brackets_30 : decode prog_14_method_76_code 30 = .ok (.iload 8, 2) := by decide +kernel
theorem dR_brackets_32 : decode prog_14_method_76_code 32 = .ok (.imul, 1) := by decide +kernel
theorem dR_brackets_33 : decode prog_14_method_76_code 33 = .ok (.aload_n 0, 1) := by decide +kernel
theorem dR_brackets_34 : decode prog_14_method_76_code 34 = .ok (.getfield 71, 3) := by decide +kernel
theorem dR_brackets_37 : decode prog_14_method_76_code 37 = .ok (.invokevirtual 340, 3) := by decide +kernel
theorem dR_brackets_40 : decode prog_14_method_76_code 40 = .ok (.aload_n 0, 1) := by decide +kernel
theorem dR_brackets_41 : decode prog_14_method_76_code 41 = .ok (.aload 5, 2) := by decide +kernel
theorem dR_brackets_43 : decode prog_14_method_76_code 43 = .ok (.iload 6, 2) := by decide +kernel
theorem dR_brackets_45 : decode prog_14_method_76_code 45 = .ok (.aload_n 0, 1) := by decide +kernel
theorem dR_brackets_46 : decode prog_14_method_76_code 46 = .ok (.getfield 71, 3) := by decide +kernel
theorem dR_brackets_49 : decode prog_14_method_76_code 49 = .ok (.iconst 0, 1) := by decide +kernel
theorem dR_brackets_50 : decode prog_14_method_76_code 50 = .ok (.invokevirtual 344, 3) := by decide +kernel
theorem dR_brackets_53 : decode prog_14_method_76_code 53 = .ok (.istore 6, 2) := by decide +kernel
theorem dR_brackets_55 : decode prog_14_method_76_code 55 = .ok (.iinc 8 1, 3) := by decide +kernel
theorem dR_brackets_58 : decode prog_14_method_76_code 58 = .ok (.goto (-43), 3) := by decide +kernel
theorem dR_brackets_61 : decode prog_14_method_76_code 61 = .ok (.iinc 7 1, 3) := by decide +kernel
theorem dR_brackets_64 : decode prog_14_method_76_code 64 = .ok (.goto (-58), 3) := by decide +kernel
theorem dR_brackets_67 : decode prog_14_method_76_code 67 = .ok (.iload 6, 2) := by decide +kernel
theorem dR_brackets_69 : decode prog_14_method_76_code 69 = .ok (.ireturn, 1) := by decide +kernel
theorem t_R_brackets {d : Nat} {x1 x2 x3 x4 x5 : Int} {σ : SG} {Q : Int → SG → Prop} (h : inI x2 → inI x4 → (L (d + 1) M_R_brackets 6 [vA 161, vA x1, vI x2, vA x3, vI x4, vA x5, vI 0, vI 0, vU] [] σ Q)) : Tri (d + 1) M_R_brackets [vA 161, vA x1, vI x2, vA x3, vI x4, vA x5] σ Q :=
  Tri_intro rfl (Nat.le_of_ble_eq_true rfl) (ls := [vA 161, vA x1, vI x2, vA x3, vI x4, vA x5, vU, vU, vU]) rfl (fun hok => L_iconst dR_brackets_0 in_0 (L_istore dR_brackets_1 (by decide) (L_iconst dR_brackets_3 in_0 (L_istore dR_brackets_4 (by decide) ((h (hok _ (List.mem_of_getElem? (i := 2) rfl)) (hok _ (List.mem_of_getElem? (i := 4) rfl))))))))
theorem s_R_brackets_6 {d : Nat} {x1 x2 x3 x4 x5 x6 x7 : Int} {σ : SG} {Q : Int → SG → Prop} (h : (x2 ≤ x7 → Q x6 σ) ∧ (x7 < x2 → L (d + 1) M_R_brackets 15 [vA 161, vA x1, vI x2, vA x3, vI x4, vA x5, vI x6, vI x7, vI 0] [] σ Q)) : L (d + 1) M_R_brackets 6 [vA 161, vA x1, vI x2, vA x3, vI x4, vA x5, vI x6, vI x7, vU] [] σ Q :=
  L_iload dR_brackets_6 rfl (L_iload_n dR_brackets_8 rfl (L_icmp_ge dR_brackets_9 (by decide) ⟨fun c1 => L_iload dR_brackets_67 rfl (L_ireturn rfl dR_brackets_69 (h.1 c1)), fun c1 => L_iconst dR_brackets_12 in_0 (L_istore dR_brackets_13 (by decide) (h.2 c1))⟩))
theorem s_R_brackets_15 {d : Nat} {x1 x2 x3 x4 x5 x6 x7 x8 : Int} {σ : SG} {Q : Int → SG → Prop} (h : (x4 ≤ x8 → L (d + 1) M_R_brackets 6 [vA 161, vA x1, vI x2, vA x3, vI x4, vA x5, vI x6, vI (w32 (x7 + 1)), vU] [] σ Q) ∧ (x8 < x4 → Tri d M_R_bracketOf [vA 161, vA x1, vI (w32 (5 * x7)), vA x3, vI (w32 (5 * x8)), vA 178] σ (fun r2 σ2 => Tri d M_R_join [vA 161, vA x5, vI x6, vA 178, vI 0] σ2 (fun r3 σ3 => L (d + 1) M_R_brackets 15 [vA 161, vA x1, vI x2, vA x3, vI x4, vA x5, vI r3, vI x7, vI (w32 (x8 + 1))] [] σ3 Q)))) : L (d + 1) M_R_brackets 15 [vA 161, vA x1, vI x2, vA x3, vI x4, vA x5, vI x6, vI x7, vI x8] [] σ Q :=
  L_iload dR_brackets_15 rfl (L_iload dR_brackets_17 rfl (L_icmp_ge dR_brackets_19 (by decide) ⟨fun c1 => L_iinc dR_brackets_61 rfl (by decide) (L_goto dR_brackets_64 (by decide) (L_weak [true, true, true, true, true, true, true, true, false] (h.1 c1))), fun c1 => L_aload_n dR_brackets_22 rfl (L_aload_n dR_brackets_23 rfl (L_iconst dR_brackets_24 in_5 (L_iload dR_brackets_25 rfl (L_imul dR_brackets_27 (L_aload_n dR_brackets_28 rfl (L_iconst dR_brackets_29 in_5 (L_iload dR_brackets_30 rfl (L_imul dR_brackets_32 (L_aload_n dR_brackets_33 rfl (L_getF (b := 178) fw_R_71 rfl rfl (by decide) dR_brackets_34 ⟨ob_161, L_callVV rfl cv_R_bracketOf (As := [vA x1, vI (w32 (5 * x7)), vA x3, vI (w32 (5 * x8)), vA 178]) rfl (tk8 157 rfl rfl) rfl (Nat.le_of_ble_eq_true rfl) dR_brackets_37 ⟨ob_161, Tri.mono (h.2 c1) (fun r2 σ2 q2 => L_aload_n dR_brackets_40 rfl (L_aload dR_brackets_41 rfl (L_iload dR_brackets_43 rfl (L_aload_n dR_brackets_45 rfl (L_getF (b := 178) fw_R_71 rfl rfl (by decide) dR_brackets_46 ⟨ob_161, L_iconst dR_brackets_49 in_0 (L_callVI rfl cv_R_join (As := [vA x5, vI x6, vA 178, vI 0]) rfl (tk8 230 rfl rfl) rfl (Nat.le_of_ble_eq_true rfl) dR_brackets_50 ⟨ob_161, Tri.mono q2 (fun r3 σ3 q3 => L_istore dR_brackets_53 (by decide) (L_iinc dR_brackets_55 rfl (by decide) (L_goto dR_brackets_58 (by decide) q3)))⟩)⟩)))))⟩⟩))))))))))⟩))
theorem dR_many_0 : decode prog_14_method_77_code 0 = .ok (.aload_n 0, 1) := by decide +kernel
theorem dR_many_1 : decode prog_14_method_77_code 1 = .ok (.iconst 0, 1) := by decide +kernel
theorem dR_many_2 : decode prog_14_method_77_code 2 = .ok (.putfield 132, 3) := by decide +kernel
theorem dR_many_5 : decode prog_14_method_77_code 5 = .ok (.aload_n 0, 1) := by decide +kernel
theorem dR_many_6 : decode prog_14_method_77_code 6 = .ok (.iconst 0, 1) := by decide +kernel
theorem dR_many_7 : decode prog_14_method_77_code 7 = .ok (.putfield 135, 3) := by decide +kernel
theorem dR_many_10 : decode prog_14_method_77_code 10 = .ok (.aload_n 0, 1) := by decide +kernel
theorem dR_many_11 : decode prog_14_method_77_code 11 = .ok (.invokevirtual 348, 3) := by decide +kernel
theorem dR_many_14 : decode prog_14_method_77_code 14 = .ok (.iload_n 1, 1) := by decide +kernel
theorem dR_many_15 : decode prog_14_method_77_code 15 = .ok (.i2l, 1) := by decide +kernel
theorem dR_many_16 : decode prog_14_method_77_code 16 = .ok (.lconst 0, 1) := by decide +kernel
theorem dR_many_17 : decode prog_14_method_77_code 17 = .ok (.ldc2_w 165, 3) := by decide +kernel
theorem dR_many_20 : decode prog_14_method_77_code 20 = .ok (.invokestatic 167, 3) := by decide +kernel
theorem dR_many_23 : decode prog_14_method_77_code 23 = .ok (.ifCond .ne 9, 3) := by decide +kernel
theorem dR_many_26 : decode prog_14_method_77_code 26 = .ok (.aload_n 0, 1) := by decide +kernel
theorem dR_many_27 : decode prog_14_method_77_code 27 = .ok (.iconst 5, 1) := by decide +kernel
theorem dR_many_28 : decode prog_14_method_77_code 28 = .ok (.invokevirtual 351, 3) := by decide +kernel
theorem dR_many_31 : decode prog_14_method_77_code 31 = .ok (.ireturn, 1) := by decide +kernel
theorem dR_many_32 : decode prog_14_method_77_code 32 = .ok (.iload_n 1, 1) := by decide +kernel
theorem dR_many_33 : decode prog_14_method_77_code 33 = .ok (.iconst 2, 1) := by decide +kernel
theorem dR_many_34 : decode prog_14_method_77_code 34 = .ok (.if_icmp .ge 19, 3) := by decide +kernel
theorem dR_many_37 : decode prog_14_method_77_code 37 = .ok (.iload_n 1, 1) := by decide +kernel
theorem dR_many_38 : decode prog_14_method_77_code 38 = .ok (.ifCond .ne 10, 3) := by decide +kernel
theorem dR_many_41 : decode prog_14_method_77_code 41 = .ok (.aload_n 0, 1) := by decide +kernel
theorem dR_many_42 : decode prog_14_method_77_code 42 = .ok (.getfield 250, 3) := by decide +kernel
theorem dR_many_45 : decode prog_14_method_77_code 45 = .ok (.goto 7, 3) := by decide +kernel
theorem dR_many_48 : decode prog_14_method_77_code 48 = .ok (.aload_n 0, 1) := by decide +kernel
theorem dR_many_49 : decode prog_14_method_77_code 49 = .ok (.getfield 253, 3) := by decide +kernel
theorem dR_many_52 : decode prog_14_method_77_code 52 = .ok (.ireturn, 1) := by decide +kernel
theorem dR_many_53 : decode prog_14_method_77_code 53 = .ok (.iconst 0, 1) := by decide +kernel
theorem dR_many_54 : decode prog_14_method_77_code 54 = .ok (.istore_n 2, 1) := by decide +kernel
theorem dR_many_55 : decode prog_14_method_77_code 55 = .ok (.iload_n 1, 1) := by decide +kernel
theorem dR_many_56 : decode prog_14_method_77_code 56 = .ok (.iconst 2, 1) := by decide +kernel
theorem dR_many_57 : decode prog_14_method_77_code 57 = .ok (.if_icmp .ne 77, 3) := by decide +kernel
theorem dR_many_60 : decode prog_14_method_77_code 60 = .ok (.iconst 0, 1) := by decide +kernel
theorem dR_many_61 : decode prog_14_method_77_code 61 = .ok (.istore_n 3, 1) := by decide +kernel
theorem dR_many_62 : decode prog_14_method_77_code 62 = .ok (.iload_n 3, 1) := by decide +kernel
theorem dR_many_63 : decode prog_14_method_77_code 63 = .ok (.aload_n 0, 1) := by decide +kernel
theorem dR_many_64 : decode prog_14_method_77_code 64 = .ok (.getfield 253, 3) := by decide +kernel
theorem dR_many_67 : decode prog_14_method_77_code 67 = .ok (.if_icmp .ge 67, 3) := by decide +kernel
theorem dR_many_70 : decode prog_14_method_77_code 70 = .ok (.iload_n 3, 1) := by decide +kernel
theorem dR_many_71 : decode prog_14_method_77_code 71 = .ok (.iconst 1, 1) := by decide +kernel
theorem dR_many_72 : decode prog_14_method_77_code 72 = .ok (.iadd, 1) := by decide +kernel
theorem dR_many_73 : decode prog_14_method_77_code 73 = .ok (.istore 4, 2) := by decide +kernel
theorem dR_many_75 : decode prog_14_method_77_code 75 = .ok (.iload 4, 2) := by decide +kernel
theorem dR_many_77 : decode prog_14_method_77_code 77 = .ok (.aload_n 0, 1) := by decide +kernel
theorem dR_many_78 : decode prog_14_method_77_code 78 = .ok (.getfield 253, 3) := by decide +kernel
theorem dR_many_81 : decode prog_14_method_77_code 81 = .ok (.if_icmp .ge 47, 3) := by decide +kernel
theorem dR_many_84 : decode prog_14_method_77_code 84 = .ok (.iconst 0, 1) := by decide +kernel
theorem dR_many_85 : decode prog_14_method_77_code 85 = .ok (.istore 5, 2) := by decide +kernel
theorem dR_many_87 : decode prog_14_method_77_code 87 = .ok (.iload 5, 2) := by decide +kernel
theorem dR_many_89 : decode prog_14_method_77_code 89 = .ok (.aload_n 0, 1) := by decide +kernel
theorem dR_many_90 : decode prog_14_method_77_code 90 = .ok (.getfield 253, 3) := by decide +kernel
theorem dR_many_93 : decode prog_14_method_77_code 93 = .ok (.if_icmp .ge 29, 3) := by decide +kernel
theorem dR_many_96 : decode prog_14_method_77_code 96 = .ok (.iload_n 2, 1) := by decide +kernel
theorem dR_many_97 : decode prog_14_method_77_code 97 = .ok (.aload_n 0, 1) := by decide +kernel
theorem dR_many_98 : decode prog_14_method_77_code 98 = .ok (.iload_n 3, 1) := by decide +kernel
theorem dR_many_99 : decode prog_14_method_77_code 99 = .ok (.iload 4, 2) := by decide +kernel
theorem dR_many_101 : decode prog_14_method_77_code 101 = .ok (.iload 5, 2) := by decide +kernel
theorem dR_many_103 : decode prog_14_method_77_code 103 = .ok (.invokevirtual 327, 3) := by decide +kernel
theorem dR_many_106 : decode prog_14_method_77_code 106 = .ok (.ifCond .ne 7, 3) := by decide +kernel
theorem dR_many_109 : decode prog_14_method_77_code 109 = .ok (.iconst 0, 1) := by decide +kernel
theorem dR_many_110 : decode prog_14_method_77_code 110 = .ok (.goto 4, 3) := by decide +kernel
theorem dR_many_113 : decode prog_14_method_77_code 113 = .ok (.iconst 1, 1) := by decide +kernel
theorem dR_many_114 : decode prog_14_method_77_code 114 = .ok (.iadd, 1) := by decide +kernel
theorem dR_many_115 : decode prog_14_method_77_code 115 = .ok (.istore_n 2, 1) := by decide +kernel
theorem dR_many_116 : decode prog_14_method_77_code 116 = .ok (.iinc 5 1, 3) := by decide +kernel
theorem dR_many_119 : decode prog_14_method_77_code 119 = .ok (.goto (-32), 3) := by decide +kernel
theorem dR_many_122 : decode prog_14_method_77_code 122 = .ok (.iinc 4 1, 3) := by decide +kernel
theorem dR_many_125 : decode prog_14_method_77_code 125 = .ok (.goto (-50), 3) := by decide +kernel
theorem dR_many_128 : decode prog_14_method_77_code 128 = .ok (.iinc 3 1, 3) := by decide +kernel
theorem dR_many_131 : decode prog_14_method_77_code 131 = .ok (.goto (-69), 3) := by decide +kernel
theorem dR_many_134 : decode prog_14_method_77_code 134 = .ok (.iload_n 1, 1) := by decide +kernel
theorem dR_many_135 : decode prog_14_method_77_code 135 = .ok (.iconst 3, 1) := by decide +kernel
theorem dR_many_136 : decode prog_14_method_77_code 136 = .ok (.if_icmp .ne 40, 3) := by decide +kernel
theorem dR_many_139 : decode prog_14_method_77_code 139 = .ok (.iconst 0, 1) := by decide +kernel
theorem dR_many_140 : decode prog_14_method_77_code 140 = .ok (.istore_n 3, 1) := by decide +kernel
theorem dR_many_141 : decode prog_14_method_77_code 141 = .ok (.iload_n 3, 1) := by decide +kernel
theorem dR_many_142 : decode prog_14_method_77_code 142 = .ok (.iconst 4, 1) := by decide +kernel
theorem dR_many_143 : decode prog_14_method_77_code 143 = .ok (.if_icmp .ge 33, 3) := by decide +kernel
theorem dR_many_146 : decode prog_14_method_77_code 146 = .ok (.iload_n 2, 1) := by decide +kernel
theorem dR_many_147 : decode prog_14_method_77_code 147 = .ok (.aload_n 0, 1) := by decide +kernel
theorem dR_many_148 : decode prog_14_method_77_code 148 = .ok (.getfield 35, 3) := by decide +kernel
theorem dR_many_151 : decode prog_14_method_77_code 151 = .ok (.bipush 127, 2) := by decide +kernel
theorem dR_many_153 : decode prog_14_method_77_code 153 = .ok (.iload_n 3, 1) := by decide +kernel
theorem dR_many_154 : decode prog_14_method_77_code 154 = .ok (.iconst 1, 1) := by decide +kernel
theorem dR_many_155 : decode prog_14_method_77_code 155 = .ok (.iadd, 1) := by decide +kernel
theorem dR_many_156 : decode prog_14_method_77_code 156 = .ok (.imul, 1) := by decide +kernel
theorem dR_many_157 : decode prog_14_method_77_code 157 = .ok (.iaload, 1) := by decide +kernel
theorem dR_many_158 : decode prog_14_method_77_code 158 = .ok (.ifCond .ne 7, 3) := by decide +kernel
theorem dR_many_161 : decode prog_14_method_77_code 161 = .ok (.iconst 0, 1) := by decide +kernel
theorem dR_many_162 : decode prog_14_method_77_code 162 = .ok (.goto 6, 3) := by decide +kernel
theorem dR_many_165 : decode prog_14_method_77_code 165 = .ok (.iconst 1, 1) := by decide +kernel
theorem dR_many_166 : decode prog_14_method_77_code 166 = .ok (.iload_n 3, 1) := by decide +kernel
theorem dR_many_167 : decode prog_14_method_77_code 167 = .ok (.ishl, 1) := by decide +kernel
theorem dR_many_168 : decode prog_14_method_77_code 168 = .ok (.ior, 1) := by decide +kernel
theorem dR_many_169 : decode prog_14_method_77_code 169 = .ok (.istore_n 2, 1) := by decide +kernel
theorem dR_many_170 : decode prog_14_method_77_code 170 = .ok (.iinc 3 1, 3) := by decide +kernel
theorem dR_many_173 : decode prog_14_method_77_code 173 = .ok (.goto (-32), 3) := by decide +kernel
theorem dR_many_176 : decode prog_14_method_77_code 176 = .ok (.iload_n 2, 1) := by decide +kernel
theorem dR_many_177 : decode prog_14_method_77_code 177 = .ok (.ireturn, 1) := by decide +kernel
theorem t_R_many {d : Nat} {x1 : Int} {σ : SG} {Q : Int → SG → Prop} (h : inI x1 → ((∀ σ1, σ1 = up σ 161 1 0 → (∀ σ2, σ2 = up σ1 161 0 0 → Tri d M_R_askNow [vA 161] σ2 (fun r3 σ3 => Tri d M_R_isIn [vJ x1, vJ 0, vJ 3] σ3 (fun r4 σ4 => (r4 ≠ 0 → (2 ≤ x1 → (x1 ≠ 2 → (x1 ≠ 3 → Q 0 σ4) ∧ (x1 = 3 → L (d + 1) M_R_many 141 [vA 161, vU, vI 0, vI 0, vU, vU] [] σ4 Q)) ∧ (x1 = 2 → L (d + 1) M_R_many 62 [vA 161, vI x1, vI 0, vI 0, vU, vU] [] σ4 Q)) ∧ (x1 < 2 → (x1 ≠ 0 → Q (σ4 161 27) σ4) ∧ (x1 = 0 → Q (σ4 161 26) σ4))) ∧ (r4 = 0 → Tri d M_R_refuse [vA 161, vI 5] σ4 (fun r10 σ10 => Q r10 σ10)))))))) : Tri (d + 1) M_R_many [vA 161, vI x1] σ Q :=
  Tri_intro rfl (Nat.le_of_ble_eq_true rfl) (ls := [vA 161, vI x1, vU, vU, vU, vU]) rfl (fun hok => L_aload_n dR_many_0 rfl (L_iconst dR_many_1 in_0 (L_putfN fp_R_132 rfl rfl (fun _ => ⟨rfl, rfl⟩) dR_many_2 ⟨ob_161, fun σ1 e1 => L_aload_n dR_many_5 rfl (L_iconst dR_many_6 in_0 (L_putfN fp_R_135 rfl rfl (fun _ => ⟨rfl, rfl⟩) dR_many_7 ⟨ob_161, fun σ2 e2 => L_aload_n dR_many_10 rfl (L_callVV rfl cv_R_askNow (As := []) rfl (tk8 108 rfl rfl) rfl (Nat.le_of_ble_eq_true rfl) dR_many_11 ⟨ob_161, Tri.mono (((h (hok _ (List.mem_of_getElem? (i := 1) rfl))) σ1 e1) σ2 e2) (fun r3 σ3 q3 => L_iload_n dR_many_14 rfl (L_i2l dR_many_15 (L_lconst (x := 0) dR_many_16 rfl inJ_0 (L_ldc2 (x := 3) (tk8 116 rfl rfl) rfl inJ_3 dR_many_17 (L_callSI rfl cs_R_isIn (As := [vJ x1, vJ 0, vJ 3]) rfl (tk8 47 rfl rfl) rfl (Nat.le_of_ble_eq_true rfl) dR_many_20 (Tri.mono q3 (fun r4 σ4 q4 => L_if_ne dR_many_23 (by decide) ⟨fun c5 => L_iload_n dR_many_32 rfl (L_iconst dR_many_33 in_2 (L_icmp_ge dR_many_34 (by decide) ⟨fun c6 => L_iconst dR_many_53 in_0 (L_istore_n dR_many_54 (by decide) (L_iload_n dR_many_55 rfl (L_iconst dR_many_56 in_2 (L_icmp_ne dR_many_57 (by decide) ⟨fun c7 => L_iload_n dR_many_134 rfl (L_iconst dR_many_135 in_3 (L_icmp_ne dR_many_136 (by decide) ⟨fun c8 => L_iload_n dR_many_176 rfl (L_ireturn rfl dR_many_177 ((((q4.1 c5).1 c6).1 c7).1 c8)), fun c8 => L_iconst dR_many_139 in_0 (L_istore_n dR_many_140 (by decide) (L_weak [true, false, true, true, true, true] ((((q4.1 c5).1 c6).1 c7).2 c8)))⟩)), fun c7 => L_iconst dR_many_60 in_0 (L_istore_n dR_many_61 (by decide) (((q4.1 c5).1 c6).2 c7))⟩)))), fun c6 => L_iload_n dR_many_37 rfl (L_if_ne dR_many_38 (by decide) ⟨fun c9 => L_aload_n dR_many_48 rfl (L_getf fw_R_253 rfl dR_many_49 ⟨ob_161, L_ireturn rfl dR_many_52 (((q4.1 c5).2 c6).1 c9)⟩), fun c9 => L_aload_n dR_many_41 rfl (L_getf fw_R_250 rfl dR_many_42 ⟨ob_161, L_goto dR_many_45 (by decide) (L_ireturn rfl dR_many_52 (((q4.1 c5).2 c6).2 c9))⟩)⟩)⟩)), fun c5 => L_aload_n dR_many_26 rfl (L_iconst dR_many_27 in_5 (L_callVI rfl cv_R_refuse (As := [vI 5]) rfl (tk8 117 rfl rfl) rfl (Nat.le_of_ble_eq_true rfl) dR_many_28 ⟨ob_161, Tri.mono (q4.2 c5) (fun r10 σ10 q10 => L_ireturn rfl dR_many_31 q10)⟩))⟩)))))))⟩)⟩))⟩)))
theorem s_R_many_141 {d : Nat} {x2 x3 : Int} {σ : SG} {Q : Int → SG → Prop} (h : (4 ≤ x3 → Q x2 σ) ∧ (x3 < 4 → (0 ≤ w32 (127 * (w32 (x3 + 1))) ∧ w32 (127 * (w32 (x3 + 1))) < 3440) ∧ (σ 166 (w32 (127 * (w32 (x3 + 1)))) ≠ 0 → L (d + 1) M_R_many 141 [vA 161, vU, vI (or32 x2 (shl32 1 x3)), vI (w32 (x3 + 1)), vU, vU] [] σ Q) ∧ (σ 166 (w32 (127 * (w32 (x3 + 1)))) = 0 → L (d + 1) M_R_many 141 [vA 161, vU, vI (or32 x2 0), vI (w32 (x3 + 1)), vU, vU] [] σ Q))) : L (d + 1) M_R_many 141 [vA 161, vU, vI x2, vI x3, vU, vU] [] σ Q :=
  L_iload_n dR_many_141 rfl (L_iconst dR_many_142 in_4 (L_icmp_ge dR_many_143 (by decide) ⟨fun c1 => L_iload_n dR_many_176 rfl (L_ireturn rfl dR_many_177 (h.1 c1)), fun c1 => L_iload_n dR_many_146 rfl (L_aload_n dR_many_147 rfl (L_getF (b := 166) fw_R_35 rfl rfl (by decide) dR_many_148 ⟨ob_161, L_bipush dR_many_151 bp_127 in_127 (L_iload_n dR_many_153 rfl (L_iconst dR_many_154 in_1 (L_iadd dR_many_155 (L_imul dR_many_156 (L_ialoadL kd_166 dR_many_157 ⟨(h.2 c1).1, L_if_ne dR_many_158 (by decide) ⟨fun c2 => L_iconst dR_many_165 in_1 (L_iload_n dR_many_166 rfl (L_ishl dR_many_167 (L_ior dR_many_168 (L_istore_n dR_many_169 (by decide) (L_iinc dR_many_170 rfl (by decide) (L_goto dR_many_173 (by decide) ((h.2 c1).2.1 c2))))))), fun c2 => L_iconst dR_many_161 in_0 (L_goto dR_many_162 (by decide) (L_ior dR_many_168 (L_istore_n dR_many_169 (by decide) (L_iinc dR_many_170 rfl (by decide) (L_goto dR_many_173 (by decide) ((h.2 c1).2.2 c2))))))⟩⟩)))))⟩))⟩))
theorem s_R_many_62 {d : Nat} {x1 x2 x3 : Int} {σ : SG} {Q : Int → SG → Prop} (h : (σ 161 27 ≤ x3 → (x1 ≠ 3 → Q x2 σ) ∧ (x1 = 3 → L (d + 1) M_R_many 141 [vA 161, vU, vI x2, vI 0, vU, vU] [] σ Q)) ∧ (x3 < σ 161 27 → L (d + 1) M_R_many 75 [vA 161, vI x1, vI x2, vI x3, vI (w32 (x3 + 1)), vU] [] σ Q)) : L (d + 1) M_R_many 62 [vA 161, vI x1, vI x2, vI x3, vU, vU] [] σ Q :=
  L_iload_n dR_many_62 rfl (L_aload_n dR_many_63 rfl (L_getf fw_R_253 rfl dR_many_64 ⟨ob_161, L_icmp_ge dR_many_67 (by decide) ⟨fun c1 => L_iload_n dR_many_134 rfl (L_iconst dR_many_135 in_3 (L_icmp_ne dR_many_136 (by decide) ⟨fun c2 => L_iload_n dR_many_176 rfl (L_ireturn rfl dR_many_177 ((h.1 c1).1 c2)), fun c2 => L_iconst dR_many_139 in_0 (L_istore_n dR_many_140 (by decide) (L_weak [true, false, true, true, true, true] ((h.1 c1).2 c2)))⟩)), fun c1 => L_iload_n dR_many_70 rfl (L_iconst dR_many_71 in_1 (L_iadd dR_many_72 (L_istore dR_many_73 (by decide) (h.2 c1))))⟩⟩))
theorem s_R_many_75 {d : Nat} {x1 x2 x3 x4 : Int} {σ : SG} {Q : Int → SG → Prop} (h : (σ 161 27 ≤ x4 → L (d + 1) M_R_many 62 [vA 161, vI x1, vI x2, vI (w32 (x3 + 1)), vU, vU] [] σ Q) ∧ (x4 < σ 161 27 → L (d + 1) M_R_many 87 [vA 161, vI x1, vI x2, vI x3, vI x4, vI 0] [] σ Q)) : L (d + 1) M_R_many 75 [vA 161, vI x1, vI x2, vI x3, vI x4, vU] [] σ Q :=
  L_iload dR_many_75 rfl (L_aload_n dR_many_77 rfl (L_getf fw_R_253 rfl dR_many_78 ⟨ob_161, L_icmp_ge dR_many_81 (by decide) ⟨fun c1 => L_iinc dR_many_128 rfl (by decide) (L_goto dR_many_131 (by decide) (L_weak [true, true, true, true, false, true] (h.1 c1))), fun c1 => L_iconst dR_many_84 in_0 (L_istore dR_many_85 (by decide) (h.2 c1))⟩⟩))
theorem s_R_many_87 {d : Nat} {x1 x2 x3 x4 x5 : Int} {σ : SG} {Q : Int → SG → Prop} (h : (σ 161 27 ≤ x5 → L (d + 1) M_R_many 75 [vA 161, vI x1, vI x2, vI x3, vI (w32 (x4 + 1)), vU] [] σ Q) ∧ (x5 < σ 161 27 → Tri d M_R_table [vA 161, vI x3, vI x4, vI x5] σ (fun r2 σ2 => (r2 ≠ 0 → L (d + 1) M_R_many 87 [vA 161, vI x1, vI (w32 (x2 + 1)), vI x3, vI x4, vI (w32 (x5 + 1))] [] σ2 Q) ∧ (r2 = 0 → L (d + 1) M_R_many 87 [vA 161, vI x1, vI (w32 (x2 + 0)), vI x3, vI x4, vI (w32 (x5 + 1))] [] σ2 Q)))) : L (d + 1) M_R_many 87 [vA 161, vI x1, vI x2, vI x3, vI x4, vI x5] [] σ Q :=
  L_iload dR_many_87 rfl (L_aload_n dR_many_89 rfl (L_getf fw_R_253 rfl dR_many_90 ⟨ob_161, L_icmp_ge dR_many_93 (by decide) ⟨fun c1 => L_iinc dR_many_122 rfl (by decide) (L_goto dR_many_125 (by decide) (L_weak [true, true, true, true, true, false] (h.1 c1))), fun c1 => L_iload_n dR_many_96 rfl (L_aload_n dR_many_97 rfl (L_iload_n dR_many_98 rfl (L_iload dR_many_99 rfl (L_iload dR_many_101 rfl (L_callVI rfl cv_R_table (As := [vI x3, vI x4, vI x5]) rfl (tk8 121 rfl rfl) rfl (Nat.le_of_ble_eq_true rfl) dR_many_103 ⟨ob_161, Tri.mono (h.2 c1) (fun r2 σ2 q2 => L_if_ne dR_many_106 (by decide) ⟨fun c3 => L_iconst dR_many_113 in_1 (L_iadd dR_many_114 (L_istore_n dR_many_115 (by decide) (L_iinc dR_many_116 rfl (by decide) (L_goto dR_many_119 (by decide) (q2.1 c3))))), fun c3 => L_iconst dR_many_109 in_0 (L_goto dR_many_110 (by decide) (L_iadd dR_many_114 (L_istore_n dR_many_115 (by decide) (L_iinc dR_many_116 rfl (by decide) (L_goto dR_many_119 (by decide) (q2.2 c3))))))⟩)⟩)))))⟩⟩))
theorem dR_constant_0 : decode prog_14_method_78_code 0 = .ok (.aload_n 0, 1) := by decide +kernel
theorem dR_constant_1 : decode prog_14_method_78_code 1 = .ok (.iconst 0, 1) := by decide +kernel
theorem dR_constant_2 : decode prog_14_method_78_code 2 = .ok (.putfield 132, 3) := by decide +kernel
theorem dR_constant_5 : decode prog_14_method_78_code 5 = .ok (.aload_n 0, 1) := by decide +kernel
theorem dR_constant_6 : decode prog_14_method_78_code 6 = .ok (.iconst 0, 1) := by decide +kernel
theorem dR_constant_7 : decode prog_14_method_78_code 7 = .ok (.putfield 135, 3) := by decide +kernel
theorem dR_constant_10 : decode prog_14_method_78_code 10 = .ok (.aload_n 0, 1) := by decide +kernel
theorem dR_constant_11 : decode prog_14_method_78_code 11 = .ok (.invokevirtual 348, 3) := by decide +kernel
theorem dR_constant_14 : decode prog_14_method_78_code 14 = .ok (.aload_n 0, 1) := by decide +kernel
theorem dR_constant_15 : decode prog_14_method_78_code 15 = .ok (.iload_n 1, 1) := by decide +kernel
theorem dR_constant_16 : decode prog_14_method_78_code 16 = .ok (.invokevirtual 354, 3) := by decide +kernel
theorem dR_constant_19 : decode prog_14_method_78_code 19 = .ok (.ifCond .eq 29, 3) := by decide +kernel
theorem dR_constant_22 : decode prog_14_method_78_code 22 = .ok (.aload_n 0, 1) := by decide +kernel
theorem dR_constant_23 : decode prog_14_method_78_code 23 = .ok (.iload_n 2, 1) := by decide +kernel
theorem dR_constant_24 : decode prog_14_method_78_code 24 = .ok (.invokevirtual 354, 3) := by decide +kernel
theorem dR_constant_27 : decode prog_14_method_78_code 27 = .ok (.ifCond .eq 21, 3) := by decide +kernel
theorem dR_constant_30 : decode prog_14_method_78_code 30 = .ok (.aload_n 0, 1) := by decide +kernel
theorem dR_constant_31 : decode prog_14_method_78_code 31 = .ok (.iload_n 3, 1) := by decide +kernel
theorem dR_constant_32 : decode prog_14_method_78_code 32 = .ok (.invokevirtual 354, 3) := by decide +kernel
theorem dR_constant_35 : decode prog_14_method_78_code 35 = .ok (.ifCond .eq 13, 3) := by decide +kernel
theorem dR_constant_38 : decode prog_14_method_78_code 38 = .ok (.aload_n 0, 1) := by decide +kernel
theorem dR_constant_39 : decode prog_14_method_78_code 39 = .ok (.iload_n 1, 1) := by decide +kernel
theorem dR_constant_40 : decode prog_14_method_78_code 40 = .ok (.iload_n 2, 1) := by decide +kernel
theorem dR_constant_41 : decode prog_14_method_78_code 41 = .ok (.iload_n 3, 1) := by decide +kernel
theorem dR_constant_42 : decode prog_14_method_78_code 42 = .ok (.invokevirtual 327, 3) := by decide +kernel
theorem dR_constant_45 : decode prog_14_method_78_code 45 = .ok (.goto 8, 3) := by decide +kernel
theorem dR_constant_48 : decode prog_14_method_78_code 48 = .ok (.aload_n 0, 1) := by decide +kernel
theorem dR_constant_49 : decode prog_14_method_78_code 49 = .ok (.iconst 2, 1) := by decide +kernel
theorem dR_constant_50 : decode prog_14_method_78_code 50 = .ok (.invokevirtual 351, 3) := by decide +kernel
theorem dR_constant_53 : decode prog_14_method_78_code 53 = .ok (.ireturn, 1) := by decide +kernel
theorem t_R_constant {d : Nat} {x1 x2 x3 : Int} {σ : SG} {Q : Int → SG → Prop} (h : inI x1 → inI x2 → inI x3 → ((∀ σ1, σ1 = up σ 161 1 0 → (∀ σ2, σ2 = up σ1 161 0 0 → Tri d M_R_askNow [vA 161] σ2 (fun r3 σ3 => Tri d M_R_isBase [vA 161, vI x1] σ3 (fun r4 σ4 => (r4 = 0 → Tri d M_R_refuse [vA 161, vI 2] σ4 (fun r6 σ6 => Q r6 σ6)) ∧ (r4 ≠ 0 → Tri d M_R_isBase [vA 161, vI x2] σ4 (fun r7 σ7 => (r7 = 0 → Tri d M_R_refuse [vA 161, vI 2] σ7 (fun r9 σ9 => Q r9 σ9)) ∧ (r7 ≠ 0 → Tri d M_R_isBase [vA 161, vI x3] σ7 (fun r10 σ10 => (r10 = 0 → Tri d M_R_refuse [vA 161, vI 2] σ10 (fun r12 σ12 => Q r12 σ12)) ∧ (r10 ≠ 0 → Tri d M_R_table [vA 161, vI x1, vI x2, vI x3] σ10 (fun r13 σ13 => Q r13 σ13)))))))))))) : Tri (d + 1) M_R_constant [vA 161, vI x1, vI x2, vI x3] σ Q :=
  Tri_intro rfl (Nat.le_of_ble_eq_true rfl) (ls := [vA 161, vI x1, vI x2, vI x3]) rfl (fun hok => L_aload_n dR_constant_0 rfl (L_iconst dR_constant_1 in_0 (L_putfN fp_R_132 rfl rfl (fun _ => ⟨rfl, rfl⟩) dR_constant_2 ⟨ob_161, fun σ1 e1 => L_aload_n dR_constant_5 rfl (L_iconst dR_constant_6 in_0 (L_putfN fp_R_135 rfl rfl (fun _ => ⟨rfl, rfl⟩) dR_constant_7 ⟨ob_161, fun σ2 e2 => L_aload_n dR_constant_10 rfl (L_callVV rfl cv_R_askNow (As := []) rfl (tk8 108 rfl rfl) rfl (Nat.le_of_ble_eq_true rfl) dR_constant_11 ⟨ob_161, Tri.mono (((h (hok _ (List.mem_of_getElem? (i := 1) rfl)) (hok _ (List.mem_of_getElem? (i := 2) rfl)) (hok _ (List.mem_of_getElem? (i := 3) rfl))) σ1 e1) σ2 e2) (fun r3 σ3 q3 => L_aload_n dR_constant_14 rfl (L_iload_n dR_constant_15 rfl (L_callVI rfl cv_R_isBase (As := [vI x1]) rfl (tk8 129 rfl rfl) rfl (Nat.le_of_ble_eq_true rfl) dR_constant_16 ⟨ob_161, Tri.mono q3 (fun r4 σ4 q4 => L_if_eq dR_constant_19 (by decide) ⟨fun c5 => L_aload_n dR_constant_48 rfl (L_iconst dR_constant_49 in_2 (L_callVI rfl cv_R_refuse (As := [vI 2]) rfl (tk8 117 rfl rfl) rfl (Nat.le_of_ble_eq_true rfl) dR_constant_50 ⟨ob_161, Tri.mono (q4.1 c5) (fun r6 σ6 q6 => L_ireturn rfl dR_constant_53 q6)⟩)), fun c5 => L_aload_n dR_constant_22 rfl (L_iload_n dR_constant_23 rfl (L_callVI rfl cv_R_isBase (As := [vI x2]) rfl (tk8 129 rfl rfl) rfl (Nat.le_of_ble_eq_true rfl) dR_constant_24 ⟨ob_161, Tri.mono (q4.2 c5) (fun r7 σ7 q7 => L_if_eq dR_constant_27 (by decide) ⟨fun c8 => L_aload_n dR_constant_48 rfl (L_iconst dR_constant_49 in_2 (L_callVI rfl cv_R_refuse (As := [vI 2]) rfl (tk8 117 rfl rfl) rfl (Nat.le_of_ble_eq_true rfl) dR_constant_50 ⟨ob_161, Tri.mono (q7.1 c8) (fun r9 σ9 q9 => L_ireturn rfl dR_constant_53 q9)⟩)), fun c8 => L_aload_n dR_constant_30 rfl (L_iload_n dR_constant_31 rfl (L_callVI rfl cv_R_isBase (As := [vI x3]) rfl (tk8 129 rfl rfl) rfl (Nat.le_of_ble_eq_true rfl) dR_constant_32 ⟨ob_161, Tri.mono (q7.2 c8) (fun r10 σ10 q10 => L_if_eq dR_constant_35 (by decide) ⟨fun c11 => L_aload_n dR_constant_48 rfl (L_iconst dR_constant_49 in_2 (L_callVI rfl cv_R_refuse (As := [vI 2]) rfl (tk8 117 rfl rfl) rfl (Nat.le_of_ble_eq_true rfl) dR_constant_50 ⟨ob_161, Tri.mono (q10.1 c11) (fun r12 σ12 q12 => L_ireturn rfl dR_constant_53 q12)⟩)), fun c11 => L_aload_n dR_constant_38 rfl (L_iload_n dR_constant_39 rfl (L_iload_n dR_constant_40 rfl (L_iload_n dR_constant_41 rfl (L_callVI rfl cv_R_table (As := [vI x1, vI x2, vI x3]) rfl (tk8 121 rfl rfl) rfl (Nat.le_of_ble_eq_true rfl) dR_constant_42 ⟨ob_161, Tri.mono (q10.2 c11) (fun r13 σ13 q13 => L_goto dR_constant_45 (by decide) (L_ireturn rfl dR_constant_53 q13))⟩))))⟩)⟩))⟩)⟩))⟩)⟩)))⟩)⟩))⟩)))
theorem dR_put_0 : decode prog_14_method_79_code 0 = .ok (.aload_n 0, 1) := by decide +kernel
theorem dR_put_1 : decode prog_14_method_79_code 1 = .ok (.iconst 0, 1) := by decide +kernel
theorem dR_put_2 : decode prog_14_method_79_code 2 = .ok (.putfield 132, 3) := by decide +kernel
theorem dR_put_5 : decode prog_14_method_79_code 5 = .ok (.aload_n 0, 1) := by decide +kernel
theorem dR_put_6 : decode prog_14_method_79_code 6 = .ok (.iconst 0, 1) := by decide +kernel
theorem dR_put_7 : decode prog_14_method_79_code 7 = .ok (.putfield 135, 3) := by decide +kernel
theorem dR_put_10 : decode prog_14_method_79_code 10 = .ok (.aload_n 0, 1) := by decide +kernel
theorem dR_put_11 : decode prog_14_method_79_code 11 = .ok (.invokevirtual 348, 3) := by decide +kernel
theorem dR_put_14 : decode prog_14_method_79_code 14 = .ok (.aload_n 0, 1) := by decide +kernel
theorem dR_put_15 : decode prog_14_method_79_code 15 = .ok (.iload_n 1, 1) := by decide +kernel
theorem dR_put_16 : decode prog_14_method_79_code 16 = .ok (.invokevirtual 354, 3) := by decide +kernel
theorem dR_put_19 : decode prog_14_method_79_code 19 = .ok (.ifCond .eq 19, 3) := by decide +kernel
theorem dR_put_22 : decode prog_14_method_79_code 22 = .ok (.aload_n 0, 1) := by decide +kernel
theorem dR_put_23 : decode prog_14_method_79_code 23 = .ok (.iload_n 2, 1) := by decide +kernel
theorem dR_put_24 : decode prog_14_method_79_code 24 = .ok (.invokevirtual 354, 3) := by decide +kernel
theorem dR_put_27 : decode prog_14_method_79_code 27 = .ok (.ifCond .eq 11, 3) := by decide +kernel
theorem dR_put_30 : decode prog_14_method_79_code 30 = .ok (.aload_n 0, 1) := by decide +kernel
theorem dR_put_31 : decode prog_14_method_79_code 31 = .ok (.iload_n 3, 1) := by decide +kernel
theorem dR_put_32 : decode prog_14_method_79_code 32 = .ok (.invokevirtual 354, 3) := by decide +kernel
theorem dR_put_35 : decode prog_14_method_79_code 35 = .ok (.ifCond .ne 9, 3) := by decide +kernel
theorem dR_put_38 : decode prog_14_method_79_code 38 = .ok (.aload_n 0, 1) := by decide +kernel
theorem dR_put_39 : decode prog_14_method_79_code 39 = .ok (.iconst 2, 1) := by decide +kernel
theorem dR_put_40 : decode prog_14_method_79_code 40 = .ok (.invokevirtual 147, 3) := by decide +kernel
theorem dR_put_43 : decode prog_14_method_79_code 43 = .ok (.ireturn, 1) := by decide +kernel
theorem dR_put_44 : decode prog_14_method_79_code 44 = .ok (.iload_n 1, 1) := by decide +kernel
theorem dR_put_45 : decode prog_14_method_79_code 45 = .ok (.iload_n 2, 1) := by decide +kernel
theorem dR_put_46 : decode prog_14_method_79_code 46 = .ok (.if_icmp .ge 20, 3) := by decide +kernel
theorem dR_put_49 : decode prog_14_method_79_code 49 = .ok (.iload 4, 2) := by decide +kernel
theorem dR_put_51 : decode prog_14_method_79_code 51 = .ok (.i2l, 1) := by decide +kernel
theorem dR_put_52 : decode prog_14_method_79_code 52 = .ok (.lconst 0, 1) := by decide +kernel
theorem dR_put_53 : decode prog_14_method_79_code 53 = .ok (.aload_n 0, 1) := by decide +kernel
theorem dR_put_54 : decode prog_14_method_79_code 54 = .ok (.getfield 250, 3) := by decide +kernel
theorem dR_put_57 : decode prog_14_method_79_code 57 = .ok (.iconst 1, 1) := by decide +kernel
theorem dR_put_58 : decode prog_14_method_79_code 58 = .ok (.isub, 1) := by decide +kernel
theorem dR_put_59 : decode prog_14_method_79_code 59 = .ok (.i2l, 1) := by decide +kernel
theorem dR_put_60 : decode prog_14_method_79_code 60 = .ok (.invokestatic 167, 3) := by decide +kernel
theorem dR_put_63 : decode prog_14_method_79_code 63 = .ok (.ifCond .ne 9, 3) := by decide +kernel
theorem dR_put_66 : decode prog_14_method_79_code 66 = .ok (.aload_n 0, 1) := by decide +kernel
theorem dR_put_67 : decode prog_14_method_79_code 67 = .ok (.iconst 5, 1) := by decide +kernel
theorem dR_put_68 : decode prog_14_method_79_code 68 = .ok (.invokevirtual 147, 3) := by decide +kernel
theorem dR_put_71 : decode prog_14_method_79_code 71 = .ok (.ireturn, 1) := by decide +kernel
theorem dR_put_72 : decode prog_14_method_79_code 72 = .ok (.aload_n 0, 1) := by decide +kernel
theorem dR_put_73 : decode prog_14_method_79_code 73 = .ok (.getfield 35, 3) := by decide +kernel
theorem dR_put_76 : decode prog_14_method_79_code 76 = .ok (.iconst 0, 1) := by decide +kernel
theorem dR_put_77 : decode prog_14_method_79_code 77 = .ok (.iload_n 1, 1) := by decide +kernel
theorem dR_put_78 : decode prog_14_method_79_code 78 = .ok (.iload_n 2, 1) := by decide +kernel
theorem dR_put_79 : decode prog_14_method_79_code 79 = .ok (.iload_n 3, 1) := by decide +kernel
theorem dR_put_80 : decode prog_14_method_79_code 80 = .ok (.iload 4, 2) := by decide +kernel
theorem dR_put_82 : decode prog_14_method_79_code 82 = .ok (.invokestatic 283, 3) := by decide +kernel
theorem dR_put_85 : decode prog_14_method_79_code 85 = .ok (.iconst 1, 1) := by decide +kernel
theorem dR_put_86 : decode prog_14_method_79_code 86 = .ok (.ireturn, 1) := by decide +kernel
theorem t_R_put {d : Nat} {x1 x2 x3 x4 : Int} {σ : SG} {Q : Int → SG → Prop} (h : inI x1 → inI x2 → inI x3 → inI x4 → ((∀ σ1, σ1 = up σ 161 1 0 → (∀ σ2, σ2 = up σ1 161 0 0 → Tri d M_R_askNow [vA 161] σ2 (fun r3 σ3 => Tri d M_R_isBase [vA 161, vI x1] σ3 (fun r4 σ4 => (r4 = 0 → Tri d M_R_no [vA 161, vI 2] σ4 (fun r6 σ6 => (r6 = 0 ∨ r6 = 1) ∧ Q r6 σ6)) ∧ (r4 ≠ 0 → Tri d M_R_isBase [vA 161, vI x2] σ4 (fun r7 σ7 => (r7 = 0 → Tri d M_R_no [vA 161, vI 2] σ7 (fun r9 σ9 => (r9 = 0 ∨ r9 = 1) ∧ Q r9 σ9)) ∧ (r7 ≠ 0 → Tri d M_R_isBase [vA 161, vI x3] σ7 (fun r10 σ10 => (r10 ≠ 0 → (x2 ≤ x1 → Tri d M_R_no [vA 161, vI 5] σ10 (fun r13 σ13 => (r13 = 0 ∨ r13 = 1) ∧ Q r13 σ13)) ∧ (x1 < x2 → Tri d M_R_isIn [vJ x4, vJ 0, vJ (w32 ((σ10 161 26) - 1))] σ10 (fun r14 σ14 => (r14 ≠ 0 → Tri d M_R_set [vA 166, vI 0, vI x1, vI x2, vI x3, vI x4] σ14 (fun r16 σ16 => Q 1 σ16)) ∧ (r14 = 0 → Tri d M_R_no [vA 161, vI 5] σ14 (fun r17 σ17 => (r17 = 0 ∨ r17 = 1) ∧ Q r17 σ17))))) ∧ (r10 = 0 → Tri d M_R_no [vA 161, vI 2] σ10 (fun r18 σ18 => (r18 = 0 ∨ r18 = 1) ∧ Q r18 σ18)))))))))))) : Tri (d + 1) M_R_put [vA 161, vI x1, vI x2, vI x3, vI x4] σ Q :=
  Tri_intro rfl (Nat.le_of_ble_eq_true rfl) (ls := [vA 161, vI x1, vI x2, vI x3, vI x4]) rfl (fun hok => L_aload_n dR_put_0 rfl (L_iconst dR_put_1 in_0 (L_putfN fp_R_132 rfl rfl (fun _ => ⟨rfl, rfl⟩) dR_put_2 ⟨ob_161, fun σ1 e1 => L_aload_n dR_put_5 rfl (L_iconst dR_put_6 in_0 (L_putfN fp_R_135 rfl rfl (fun _ => ⟨rfl, rfl⟩) dR_put_7 ⟨ob_161, fun σ2 e2 => L_aload_n dR_put_10 rfl (L_callVV rfl cv_R_askNow (As := []) rfl (tk8 108 rfl rfl) rfl (Nat.le_of_ble_eq_true rfl) dR_put_11 ⟨ob_161, Tri.mono (((h (hok _ (List.mem_of_getElem? (i := 1) rfl)) (hok _ (List.mem_of_getElem? (i := 2) rfl)) (hok _ (List.mem_of_getElem? (i := 3) rfl)) (hok _ (List.mem_of_getElem? (i := 4) rfl))) σ1 e1) σ2 e2) (fun r3 σ3 q3 => L_aload_n dR_put_14 rfl (L_iload_n dR_put_15 rfl (L_callVI rfl cv_R_isBase (As := [vI x1]) rfl (tk8 129 rfl rfl) rfl (Nat.le_of_ble_eq_true rfl) dR_put_16 ⟨ob_161, Tri.mono q3 (fun r4 σ4 q4 => L_if_eq dR_put_19 (by decide) ⟨fun c5 => L_aload_n dR_put_38 rfl (L_iconst dR_put_39 in_2 (L_callVI rfl cv_R_no (As := [vI 2]) rfl (tk7 188 rfl rfl) rfl (Nat.le_of_ble_eq_true rfl) dR_put_40 ⟨ob_161, Tri.mono (q4.1 c5) (fun r6 σ6 q6 => L_zreturn rfl dR_put_43 q6)⟩)), fun c5 => L_aload_n dR_put_22 rfl (L_iload_n dR_put_23 rfl (L_callVI rfl cv_R_isBase (As := [vI x2]) rfl (tk8 129 rfl rfl) rfl (Nat.le_of_ble_eq_true rfl) dR_put_24 ⟨ob_161, Tri.mono (q4.2 c5) (fun r7 σ7 q7 => L_if_eq dR_put_27 (by decide) ⟨fun c8 => L_aload_n dR_put_38 rfl (L_iconst dR_put_39 in_2 (L_callVI rfl cv_R_no (As := [vI 2]) rfl (tk7 188 rfl rfl) rfl (Nat.le_of_ble_eq_true rfl) dR_put_40 ⟨ob_161, Tri.mono (q7.1 c8) (fun r9 σ9 q9 => L_zreturn rfl dR_put_43 q9)⟩)), fun c8 => L_aload_n dR_put_30 rfl (L_iload_n dR_put_31 rfl (L_callVI rfl cv_R_isBase (As := [vI x3]) rfl (tk8 129 rfl rfl) rfl (Nat.le_of_ble_eq_true rfl) dR_put_32 ⟨ob_161, Tri.mono (q7.2 c8) (fun r10 σ10 q10 => L_if_ne dR_put_35 (by decide) ⟨fun c11 => L_iload_n dR_put_44 rfl (L_iload_n dR_put_45 rfl (L_icmp_ge dR_put_46 (by decide) ⟨fun c12 => L_aload_n dR_put_66 rfl (L_iconst dR_put_67 in_5 (L_callVI rfl cv_R_no (As := [vI 5]) rfl (tk7 188 rfl rfl) rfl (Nat.le_of_ble_eq_true rfl) dR_put_68 ⟨ob_161, Tri.mono ((q10.1 c11).1 c12) (fun r13 σ13 q13 => L_zreturn rfl dR_put_71 q13)⟩)), fun c12 => L_iload dR_put_49 rfl (L_i2l dR_put_51 (L_lconst (x := 0) dR_put_52 rfl inJ_0 (L_aload_n dR_put_53 rfl (L_getf fw_R_250 rfl dR_put_54 ⟨ob_161, L_iconst dR_put_57 in_1 (L_isub dR_put_58 (L_i2l dR_put_59 (L_callSI rfl cs_R_isIn (As := [vJ x4, vJ 0, vJ (w32 ((σ10 161 26) - 1))]) rfl (tk8 47 rfl rfl) rfl (Nat.le_of_ble_eq_true rfl) dR_put_60 (Tri.mono ((q10.1 c11).2 c12) (fun r14 σ14 q14 => L_if_ne dR_put_63 (by decide) ⟨fun c15 => L_aload_n dR_put_72 rfl (L_getF (b := 166) fw_R_35 rfl rfl (by decide) dR_put_73 ⟨ob_161, L_iconst dR_put_76 in_0 (L_iload_n dR_put_77 rfl (L_iload_n dR_put_78 rfl (L_iload_n dR_put_79 rfl (L_iload dR_put_80 rfl (L_callSV rfl cs_R_set (As := [vA 166, vI 0, vI x1, vI x2, vI x3, vI x4]) rfl (tk8 90 rfl rfl) rfl (Nat.le_of_ble_eq_true rfl) dR_put_82 (Tri.mono (q14.1 c15) (fun r16 σ16 q16 => L_iconst dR_put_85 in_1 (L_zreturn1 rfl dR_put_86 q16))))))))⟩), fun c15 => L_aload_n dR_put_66 rfl (L_iconst dR_put_67 in_5 (L_callVI rfl cv_R_no (As := [vI 5]) rfl (tk7 188 rfl rfl) rfl (Nat.le_of_ble_eq_true rfl) dR_put_68 ⟨ob_161, Tri.mono (q14.2 c15) (fun r17 σ17 q17 => L_zreturn rfl dR_put_71 q17)⟩))⟩)))))⟩))))⟩)), fun c11 => L_aload_n dR_put_38 rfl (L_iconst dR_put_39 in_2 (L_callVI rfl cv_R_no (As := [vI 2]) rfl (tk7 188 rfl rfl) rfl (Nat.le_of_ble_eq_true rfl) dR_put_40 ⟨ob_161, Tri.mono (q10.2 c11) (fun r18 σ18 q18 => L_zreturn rfl dR_put_43 q18)⟩))⟩)⟩))⟩)⟩))⟩)⟩)))⟩)⟩))⟩)))
theorem dR_bracket_0 : decode prog_14_method_80_code 0 = .ok (.aload_n 0, 1) := by decide +kernel
theorem dR_bracket_1 : decode prog_14_method_80_code 1 = .ok (.iconst 0, 1) := by decide +kernel
theorem dR_bracket_2 : decode prog_14_method_80_code 2 = .ok (.putfield 132, 3) := by decide +kernel
theorem dR_bracket_5 : decode prog_14_method_80_code 5 = .ok (.aload_n 0, 1) := by decide +kernel
theorem dR_bracket_6 : decode prog_14_method_80_code 6 = .ok (.iconst 0, 1) := by decide +kernel
theorem dR_bracket_7 : decode prog_14_method_80_code 7 = .ok (.putfield 135, 3) := by decide +kernel
theorem dR_bracket_10 : decode prog_14_method_80_code 10 = .ok (.aload_n 0, 1) := by decide +kernel
theorem dR_bracket_11 : decode prog_14_method_80_code 11 = .ok (.invokevirtual 348, 3) := by decide +kernel
theorem dR_bracket_14 : decode prog_14_method_80_code 14 = .ok (.aload_n 0, 1) := by decide +kernel
theorem dR_bracket_15 : decode prog_14_method_80_code 15 = .ok (.iload_n 1, 1) := by decide +kernel
theorem dR_bracket_16 : decode prog_14_method_80_code 16 = .ok (.i2l, 1) := by decide +kernel
theorem dR_bracket_17 : decode prog_14_method_80_code 17 = .ok (.invokevirtual 357, 3) := by decide +kernel
theorem dR_bracket_20 : decode prog_14_method_80_code 20 = .ok (.ifCond .eq 12, 3) := by decide +kernel
theorem dR_bracket_23 : decode prog_14_method_80_code 23 = .ok (.aload_n 0, 1) := by decide +kernel
theorem dR_bracket_24 : decode prog_14_method_80_code 24 = .ok (.iload_n 2, 1) := by decide +kernel
theorem dR_bracket_25 : decode prog_14_method_80_code 25 = .ok (.i2l, 1) := by decide +kernel
theorem dR_bracket_26 : decode prog_14_method_80_code 26 = .ok (.invokevirtual 357, 3) := by decide +kernel
theorem dR_bracket_29 : decode prog_14_method_80_code 29 = .ok (.ifCond .ne 9, 3) := by decide +kernel
theorem dR_bracket_32 : decode prog_14_method_80_code 32 = .ok (.aload_n 0, 1) := by decide +kernel
theorem dR_bracket_33 : decode prog_14_method_80_code 33 = .ok (.iconst 2, 1) := by decide +kernel
theorem dR_bracket_34 : decode prog_14_method_80_code 34 = .ok (.invokevirtual 351, 3) := by decide +kernel
theorem dR_bracket_37 : decode prog_14_method_80_code 37 = .ok (.ireturn, 1) := by decide +kernel
theorem dR_bracket_38 : decode prog_14_method_80_code 38 = .ok (.aload_n 0, 1) := by decide +kernel
theorem dR_bracket_39 : decode prog_14_method_80_code 39 = .ok (.iload_n 1, 1) := by decide +kernel
theorem dR_bracket_40 : decode prog_14_method_80_code 40 = .ok (.aload_n 0, 1) := by decide +kernel
theorem dR_bracket_41 : decode prog_14_method_80_code 41 = .ok (.getfield 62, 3) := by decide +kernel
theorem dR_bracket_44 : decode prog_14_method_80_code 44 = .ok (.iconst 0, 1) := by decide +kernel
theorem dR_bracket_45 : decode prog_14_method_80_code 45 = .ok (.invokevirtual 360, 3) := by decide +kernel
theorem dR_bracket_48 : decode prog_14_method_80_code 48 = .ok (.aload_n 0, 1) := by decide +kernel
theorem dR_bracket_49 : decode prog_14_method_80_code 49 = .ok (.iload_n 2, 1) := by decide +kernel
theorem dR_bracket_50 : decode prog_14_method_80_code 50 = .ok (.aload_n 0, 1) := by decide +kernel
theorem dR_bracket_51 : decode prog_14_method_80_code 51 = .ok (.getfield 65, 3) := by decide +kernel
theorem dR_bracket_54 : decode prog_14_method_80_code 54 = .ok (.iconst 0, 1) := by decide +kernel
theorem dR_bracket_55 : decode prog_14_method_80_code 55 = .ok (.invokevirtual 360, 3) := by decide +kernel
theorem dR_bracket_58 : decode prog_14_method_80_code 58 = .ok (.aload_n 0, 1) := by decide +kernel
theorem dR_bracket_59 : decode prog_14_method_80_code 59 = .ok (.aload_n 0, 1) := by decide +kernel
theorem dR_bracket_60 : decode prog_14_method_80_code 60 = .ok (.getfield 62, 3) := by decide +kernel
theorem dR_bracket_63 : decode prog_14_method_80_code 63 = .ok (.iconst 0, 1) := by decide +kernel
theorem dR_bracket_64 : decode prog_14_method_80_code 64 = .ok (.aload_n 0, 1) := by decide +kernel
theorem dR_bracket_65 : decode prog_14_method_80_code 65 = .ok (.getfield 65, 3) := by decide +kernel
theorem dR_bracket_68 : decode prog_14_method_80_code 68 = .ok (.iconst 0, 1) := by decide +kernel
theorem dR_bracket_69 : decode prog_14_method_80_code 69 = .ok (.aload_n 0, 1) := by decide +kernel
theorem dR_bracket_70 : decode prog_14_method_80_code 70 = .ok (.getfield 68, 3) := by decide +kernel
theorem dR_bracket_73 : decode prog_14_method_80_code 73 = .ok (.invokevirtual 340, 3) := by decide +kernel
theorem dR_bracket_76 : decode prog_14_method_80_code 76 = .ok (.aload_n 0, 1) := by decide +kernel
theorem dR_bracket_77 : decode prog_14_method_80_code 77 = .ok (.aload_n 0, 1) := by decide +kernel
theorem dR_bracket_78 : decode prog_14_method_80_code 78 = .ok (.getfield 68, 3) := by decide +kernel
theorem dR_bracket_81 : decode prog_14_method_80_code 81 = .ok (.iconst 0, 1) := by decide +kernel
theorem dR_bracket_82 : decode prog_14_method_80_code 82 = .ok (.invokevirtual 364, 3) := by decide +kernel
theorem dR_bracket_85 : decode prog_14_method_80_code 85 = .ok (.ireturn, 1) := by decide +kernel
theorem t_R_bracket {d : Nat} {x1 x2 : Int} {σ : SG} {Q : Int → SG → Prop} (h : inI x1 → inI x2 → ((∀ σ1, σ1 = up σ 161 1 0 → (∀ σ2, σ2 = up σ1 161 0 0 → Tri d M_R_askNow [vA 161] σ2 (fun r3 σ3 => Tri d M_R_isVector [vA 161, vJ x1] σ3 (fun r4 σ4 => (r4 = 0 → Tri d M_R_refuse [vA 161, vI 2] σ4 (fun r6 σ6 => Q r6 σ6)) ∧ (r4 ≠ 0 → Tri d M_R_isVector [vA 161, vJ x2] σ4 (fun r7 σ7 => (r7 ≠ 0 → Tri d M_R_parts2 [vA 161, vI x1, vA 175, vI 0] σ7 (fun r9 σ9 => Tri d M_R_parts2 [vA 161, vI x2, vA 176, vI 0] σ9 (fun r10 σ10 => Tri d M_R_bracketOf [vA 161, vA 175, vI 0, vA 176, vI 0, vA 177] σ10 (fun r11 σ11 => Tri d M_R_numberOfVector [vA 161, vA 177, vI 0] σ11 (fun r12 σ12 => Q r12 σ12))))) ∧ (r7 = 0 → Tri d M_R_refuse [vA 161, vI 2] σ7 (fun r13 σ13 => Q r13 σ13)))))))))) : Tri (d + 1) M_R_bracket [vA 161, vI x1, vI x2] σ Q :=
  Tri_intro rfl (Nat.le_of_ble_eq_true rfl) (ls := [vA 161, vI x1, vI x2]) rfl (fun hok => L_aload_n dR_bracket_0 rfl (L_iconst dR_bracket_1 in_0 (L_putfN fp_R_132 rfl rfl (fun _ => ⟨rfl, rfl⟩) dR_bracket_2 ⟨ob_161, fun σ1 e1 => L_aload_n dR_bracket_5 rfl (L_iconst dR_bracket_6 in_0 (L_putfN fp_R_135 rfl rfl (fun _ => ⟨rfl, rfl⟩) dR_bracket_7 ⟨ob_161, fun σ2 e2 => L_aload_n dR_bracket_10 rfl (L_callVV rfl cv_R_askNow (As := []) rfl (tk8 108 rfl rfl) rfl (Nat.le_of_ble_eq_true rfl) dR_bracket_11 ⟨ob_161, Tri.mono (((h (hok _ (List.mem_of_getElem? (i := 1) rfl)) (hok _ (List.mem_of_getElem? (i := 2) rfl))) σ1 e1) σ2 e2) (fun r3 σ3 q3 => L_aload_n dR_bracket_14 rfl (L_iload_n dR_bracket_15 rfl (L_i2l dR_bracket_16 (L_callVI rfl cv_R_isVector (As := [vJ x1]) rfl (tk8 141 rfl rfl) rfl (Nat.le_of_ble_eq_true rfl) dR_bracket_17 ⟨ob_161, Tri.mono q3 (fun r4 σ4 q4 => L_if_eq dR_bracket_20 (by decide) ⟨fun c5 => L_aload_n dR_bracket_32 rfl (L_iconst dR_bracket_33 in_2 (L_callVI rfl cv_R_refuse (As := [vI 2]) rfl (tk8 117 rfl rfl) rfl (Nat.le_of_ble_eq_true rfl) dR_bracket_34 ⟨ob_161, Tri.mono (q4.1 c5) (fun r6 σ6 q6 => L_ireturn rfl dR_bracket_37 q6)⟩)), fun c5 => L_aload_n dR_bracket_23 rfl (L_iload_n dR_bracket_24 rfl (L_i2l dR_bracket_25 (L_callVI rfl cv_R_isVector (As := [vJ x2]) rfl (tk8 141 rfl rfl) rfl (Nat.le_of_ble_eq_true rfl) dR_bracket_26 ⟨ob_161, Tri.mono (q4.2 c5) (fun r7 σ7 q7 => L_if_ne dR_bracket_29 (by decide) ⟨fun c8 => L_aload_n dR_bracket_38 rfl (L_iload_n dR_bracket_39 rfl (L_aload_n dR_bracket_40 rfl (L_getF (b := 175) fw_R_62 rfl rfl (by decide) dR_bracket_41 ⟨ob_161, L_iconst dR_bracket_44 in_0 (L_callVV rfl cv_R_parts2 (As := [vI x1, vA 175, vI 0]) rfl (tk8 153 rfl rfl) rfl (Nat.le_of_ble_eq_true rfl) dR_bracket_45 ⟨ob_161, Tri.mono (q7.1 c8) (fun r9 σ9 q9 => L_aload_n dR_bracket_48 rfl (L_iload_n dR_bracket_49 rfl (L_aload_n dR_bracket_50 rfl (L_getF (b := 176) fw_R_65 rfl rfl (by decide) dR_bracket_51 ⟨ob_161, L_iconst dR_bracket_54 in_0 (L_callVV rfl cv_R_parts2 (As := [vI x2, vA 176, vI 0]) rfl (tk8 153 rfl rfl) rfl (Nat.le_of_ble_eq_true rfl) dR_bracket_55 ⟨ob_161, Tri.mono q9 (fun r10 σ10 q10 => L_aload_n dR_bracket_58 rfl (L_aload_n dR_bracket_59 rfl (L_getF (b := 175) fw_R_62 rfl rfl (by decide) dR_bracket_60 ⟨ob_161, L_iconst dR_bracket_63 in_0 (L_aload_n dR_bracket_64 rfl (L_getF (b := 176) fw_R_65 rfl rfl (by decide) dR_bracket_65 ⟨ob_161, L_iconst dR_bracket_68 in_0 (L_aload_n dR_bracket_69 rfl (L_getF (b := 177) fw_R_68 rfl rfl (by decide) dR_bracket_70 ⟨ob_161, L_callVV rfl cv_R_bracketOf (As := [vA 175, vI 0, vA 176, vI 0, vA 177]) rfl (tk8 157 rfl rfl) rfl (Nat.le_of_ble_eq_true rfl) dR_bracket_73 ⟨ob_161, Tri.mono q10 (fun r11 σ11 q11 => L_aload_n dR_bracket_76 rfl (L_aload_n dR_bracket_77 rfl (L_getF (b := 177) fw_R_68 rfl rfl (by decide) dR_bracket_78 ⟨ob_161, L_iconst dR_bracket_81 in_0 (L_callVI rfl cv_R_numberOfVector (As := [vA 177, vI 0]) rfl (tk8 161 rfl rfl) rfl (Nat.le_of_ble_eq_true rfl) dR_bracket_82 ⟨ob_161, Tri.mono q11 (fun r12 σ12 q12 => L_ireturn rfl dR_bracket_85 q12)⟩)⟩)))⟩⟩))⟩))⟩)))⟩)⟩))))⟩)⟩))), fun c8 => L_aload_n dR_bracket_32 rfl (L_iconst dR_bracket_33 in_2 (L_callVI rfl cv_R_refuse (As := [vI 2]) rfl (tk8 117 rfl rfl) rfl (Nat.le_of_ble_eq_true rfl) dR_bracket_34 ⟨ob_161, Tri.mono (q7.2 c8) (fun r13 σ13 q13 => L_ireturn rfl dR_bracket_37 q13)⟩))⟩)⟩)))⟩)⟩))))⟩)⟩))⟩)))
theorem dR_addJacobi_0 : decode prog_14_method_81_code 0 = .ok (.aload_n 0, 1) := by decide +kernel
theorem dR_addJacobi_1 : decode prog_14_method_81_code 1 = .ok (.iload_n 2, 1) := by decide +kernel
theorem dR_addJacobi_2 : decode prog_14_method_81_code 2 = .ok (.aload_n 0, 1) := by decide +kernel
theorem dR_addJacobi_3 : decode prog_14_method_81_code 3 = .ok (.getfield 62, 3) := by decide +kernel
theorem dR_addJacobi_6 : decode prog_14_method_81_code 6 = .ok (.invokevirtual 367, 3) := by decide +kernel
theorem dR_addJacobi_9 : decode prog_14_method_81_code 9 = .ok (.aload_n 0, 1) := by decide +kernel
theorem dR_addJacobi_10 : decode prog_14_method_81_code 10 = .ok (.iload_n 3, 1) := by decide +kernel
theorem dR_addJacobi_11 : decode prog_14_method_81_code 11 = .ok (.aload_n 0, 1) := by decide +kernel
theorem dR_addJacobi_12 : decode prog_14_method_81_code 12 = .ok (.getfield 65, 3) := by decide +kernel
theorem dR_addJacobi_15 : decode prog_14_method_81_code 15 = .ok (.invokevirtual 367, 3) := by decide +kernel
theorem dR_addJacobi_18 : decode prog_14_method_81_code 18 = .ok (.aload_n 0, 1) := by decide +kernel
theorem dR_addJacobi_19 : decode prog_14_method_81_code 19 = .ok (.aload_n 0, 1) := by decide +kernel
theorem dR_addJacobi_20 : decode prog_14_method_81_code 20 = .ok (.getfield 62, 3) := by decide +kernel
theorem dR_addJacobi_23 : decode prog_14_method_81_code 23 = .ok (.iconst 0, 1) := by decide +kernel
theorem dR_addJacobi_24 : decode prog_14_method_81_code 24 = .ok (.aload_n 0, 1) := by decide +kernel
theorem dR_addJacobi_25 : decode prog_14_method_81_code 25 = .ok (.getfield 65, 3) := by decide +kernel
theorem dR_addJacobi_28 : decode prog_14_method_81_code 28 = .ok (.iconst 0, 1) := by decide +kernel
theorem dR_addJacobi_29 : decode prog_14_method_81_code 29 = .ok (.aload_n 0, 1) := by decide +kernel
theorem dR_addJacobi_30 : decode prog_14_method_81_code 30 = .ok (.getfield 68, 3) := by decide +kernel
theorem dR_addJacobi_33 : decode prog_14_method_81_code 33 = .ok (.invokevirtual 340, 3) := by decide +kernel
theorem dR_addJacobi_36 : decode prog_14_method_81_code 36 = .ok (.aload_n 0, 1) := by decide +kernel
theorem dR_addJacobi_37 : decode prog_14_method_81_code 37 = .ok (.iload_n 1, 1) := by decide +kernel
theorem dR_addJacobi_38 : decode prog_14_method_81_code 38 = .ok (.aload_n 0, 1) := by decide +kernel
theorem dR_addJacobi_39 : decode prog_14_method_81_code 39 = .ok (.getfield 62, 3) := by decide +kernel
theorem dR_addJacobi_42 : decode prog_14_method_81_code 42 = .ok (.invokevirtual 367, 3) := by decide +kernel
theorem dR_addJacobi_45 : decode prog_14_method_81_code 45 = .ok (.aload_n 0, 1) := by decide +kernel
theorem dR_addJacobi_46 : decode prog_14_method_81_code 46 = .ok (.aload_n 0, 1) := by decide +kernel
theorem dR_addJacobi_47 : decode prog_14_method_81_code 47 = .ok (.getfield 62, 3) := by decide +kernel
theorem dR_addJacobi_50 : decode prog_14_method_81_code 50 = .ok (.iconst 0, 1) := by decide +kernel
theorem dR_addJacobi_51 : decode prog_14_method_81_code 51 = .ok (.aload_n 0, 1) := by decide +kernel
theorem dR_addJacobi_52 : decode prog_14_method_81_code 52 = .ok (.getfield 68, 3) := by decide +kernel
theorem dR_addJacobi_55 : decode prog_14_method_81_code 55 = .ok (.iconst 0, 1) := by decide +kernel
theorem dR_addJacobi_56 : decode prog_14_method_81_code 56 = .ok (.aload_n 0, 1) := by decide +kernel
theorem dR_addJacobi_57 : decode prog_14_method_81_code 57 = .ok (.getfield 71, 3) := by decide +kernel
theorem dR_addJacobi_60 : decode prog_14_method_81_code 60 = .ok (.invokevirtual 340, 3) := by decide +kernel
theorem dR_addJacobi_63 : decode prog_14_method_81_code 63 = .ok (.iconst 0, 1) := by decide +kernel
theorem dR_addJacobi_64 : decode prog_14_method_81_code 64 = .ok (.istore 5, 2) := by decide +kernel
theorem dR_addJacobi_66 : decode prog_14_method_81_code 66 = .ok (.iload 5, 2) := by decide +kernel
theorem dR_addJacobi_68 : decode prog_14_method_81_code 68 = .ok (.aload_n 0, 1) := by decide +kernel
theorem dR_addJacobi_69 : decode prog_14_method_81_code 69 = .ok (.getfield 253, 3) := by decide +kernel
theorem dR_addJacobi_72 : decode prog_14_method_81_code 72 = .ok (.if_icmp .ge 32, 3) := by decide +kernel
theorem dR_addJacobi_75 : decode prog_14_method_81_code 75 = .ok (.aload 4, 2) := by decide +kernel
theorem dR_addJacobi_77 : decode prog_14_method_81_code 77 = .ok (.iload 5, 2) := by decide +kernel
theorem dR_addJacobi_79 : decode prog_14_method_81_code 79 = .ok (.aload 4, 2) := by decide +kernel
theorem dR_addJacobi_81 : decode prog_14_method_81_code 81 = .ok (.iload 5, 2) := by decide +kernel
theorem dR_addJacobi_83 : decode prog_14_method_81_code 83 = .ok (.iaload, 1) := by decide +kernel
theorem dR_addJacobi_84 : decode prog_14_method_81_code 84 = .ok (.aload_n 0, 1) := by decide +kernel
theorem dR_addJacobi_85 : decode prog_14_method_81_code 85 = .ok (.getfield 71, 3) := by decide +kernel
theorem dR_addJacobi_88 : decode prog_14_method_81_code 88 = .ok (.iload 5, 2) := by decide +kernel
theorem dR_addJacobi_90 : decode prog_14_method_81_code 90 = .ok (.iaload, 1) := by decide +kernel
theorem dR_addJacobi_91 : decode prog_14_method_81_code 91 = .ok (.iadd, 1) := by decide +kernel
theorem dR_addJacobi_92 : decode prog_14_method_81_code 92 = .ok (.aload_n 0, 1) := by decide +kernel
theorem dR_addJacobi_93 : decode prog_14_method_81_code 93 = .ok (.getfield 250, 3) := by decide +kernel
theorem dR_addJacobi_96 : decode prog_14_method_81_code 96 = .ok (.irem, 1) := by decide +kernel
theorem dR_addJacobi_97 : decode prog_14_method_81_code 97 = .ok (.iastore, 1) := by decide +kernel
theorem dR_addJacobi_98 : decode prog_14_method_81_code 98 = .ok (.iinc 5 1, 3) := by decide +kernel
theorem dR_addJacobi_101 : decode prog_14_method_81_code 101 = .ok (.goto (-35), 3) := by decide +kernel
theorem dR_addJacobi_104 : decode prog_14_method_81_code 104 = .ok (.return_, 1) := by decide +kernel
theorem t_R_addJacobi {d : Nat} {x1 x2 x3 x4 : Int} {σ : SG} {Q : Int → SG → Prop} (h : inI x1 → inI x2 → inI x3 → (Tri d M_R_unit [vA 161, vI x2, vA 175] σ (fun r1 σ1 => Tri d M_R_unit [vA 161, vI x3, vA 176] σ1 (fun r2 σ2 => Tri d M_R_bracketOf [vA 161, vA 175, vI 0, vA 176, vI 0, vA 177] σ2 (fun r3 σ3 => Tri d M_R_unit [vA 161, vI x1, vA 175] σ3 (fun r4 σ4 => Tri d M_R_bracketOf [vA 161, vA 175, vI 0, vA 177, vI 0, vA 178] σ4 (fun r5 σ5 => L (d + 1) M_R_addJacobi 66 [vA 161, vU, vU, vU, vA x4, vI 0] [] σ5 Q))))))) : Tri (d + 1) M_R_addJacobi [vA 161, vI x1, vI x2, vI x3, vA x4] σ Q :=
  Tri_intro rfl (Nat.le_of_ble_eq_true rfl) (ls := [vA 161, vI x1, vI x2, vI x3, vA x4, vU]) rfl (fun hok => L_aload_n dR_addJacobi_0 rfl (L_iload_n dR_addJacobi_1 rfl (L_aload_n dR_addJacobi_2 rfl (L_getF (b := 175) fw_R_62 rfl rfl (by decide) dR_addJacobi_3 ⟨ob_161, L_callVV rfl cv_R_unit (As := [vI x2, vA 175]) rfl (tk8 181 rfl rfl) rfl (Nat.le_of_ble_eq_true rfl) dR_addJacobi_6 ⟨ob_161, Tri.mono ((h (hok _ (List.mem_of_getElem? (i := 1) rfl)) (hok _ (List.mem_of_getElem? (i := 2) rfl)) (hok _ (List.mem_of_getElem? (i := 3) rfl)))) (fun r1 σ1 q1 => L_aload_n dR_addJacobi_9 rfl (L_iload_n dR_addJacobi_10 rfl (L_aload_n dR_addJacobi_11 rfl (L_getF (b := 176) fw_R_65 rfl rfl (by decide) dR_addJacobi_12 ⟨ob_161, L_callVV rfl cv_R_unit (As := [vI x3, vA 176]) rfl (tk8 181 rfl rfl) rfl (Nat.le_of_ble_eq_true rfl) dR_addJacobi_15 ⟨ob_161, Tri.mono q1 (fun r2 σ2 q2 => L_aload_n dR_addJacobi_18 rfl (L_aload_n dR_addJacobi_19 rfl (L_getF (b := 175) fw_R_62 rfl rfl (by decide) dR_addJacobi_20 ⟨ob_161, L_iconst dR_addJacobi_23 in_0 (L_aload_n dR_addJacobi_24 rfl (L_getF (b := 176) fw_R_65 rfl rfl (by decide) dR_addJacobi_25 ⟨ob_161, L_iconst dR_addJacobi_28 in_0 (L_aload_n dR_addJacobi_29 rfl (L_getF (b := 177) fw_R_68 rfl rfl (by decide) dR_addJacobi_30 ⟨ob_161, L_callVV rfl cv_R_bracketOf (As := [vA 175, vI 0, vA 176, vI 0, vA 177]) rfl (tk8 157 rfl rfl) rfl (Nat.le_of_ble_eq_true rfl) dR_addJacobi_33 ⟨ob_161, Tri.mono q2 (fun r3 σ3 q3 => L_aload_n dR_addJacobi_36 rfl (L_iload_n dR_addJacobi_37 rfl (L_aload_n dR_addJacobi_38 rfl (L_getF (b := 175) fw_R_62 rfl rfl (by decide) dR_addJacobi_39 ⟨ob_161, L_callVV rfl cv_R_unit (As := [vI x1, vA 175]) rfl (tk8 181 rfl rfl) rfl (Nat.le_of_ble_eq_true rfl) dR_addJacobi_42 ⟨ob_161, Tri.mono q3 (fun r4 σ4 q4 => L_aload_n dR_addJacobi_45 rfl (L_aload_n dR_addJacobi_46 rfl (L_getF (b := 175) fw_R_62 rfl rfl (by decide) dR_addJacobi_47 ⟨ob_161, L_iconst dR_addJacobi_50 in_0 (L_aload_n dR_addJacobi_51 rfl (L_getF (b := 177) fw_R_68 rfl rfl (by decide) dR_addJacobi_52 ⟨ob_161, L_iconst dR_addJacobi_55 in_0 (L_aload_n dR_addJacobi_56 rfl (L_getF (b := 178) fw_R_71 rfl rfl (by decide) dR_addJacobi_57 ⟨ob_161, L_callVV rfl cv_R_bracketOf (As := [vA 175, vI 0, vA 177, vI 0, vA 178]) rfl (tk8 157 rfl rfl) rfl (Nat.le_of_ble_eq_true rfl) dR_addJacobi_60 ⟨ob_161, Tri.mono q4 (fun r5 σ5 q5 => L_iconst dR_addJacobi_63 in_0 (L_istore dR_addJacobi_64 (by decide) (L_weak [true, false, false, false, true, true] q5)))⟩⟩))⟩))⟩)))⟩⟩))))⟩⟩))⟩))⟩)))⟩⟩))))⟩⟩))))
theorem s_R_addJacobi_66 {d : Nat} {x4 x5 : Int} {σ : SG} {Q : Int → SG → Prop} (h : (σ 161 27 ≤ x5 → Q 0 σ) ∧ (x5 < σ 161 27 → rdok 100 x4 x5 ∧ (0 ≤ x5 ∧ x5 < 5) ∧ σ 161 26 ≠ 0 ∧ wrok 100 x4 x5 ∧ (∀ σ2, σ2 = up σ x4 x5 ((w32 ((σ x4 x5) + (σ 178 x5))).tmod (σ 161 26)) → L (d + 1) M_R_addJacobi 66 [vA 161, vU, vU, vU, vA x4, vI (w32 (x5 + 1))] [] σ2 Q))) : L (d + 1) M_R_addJacobi 66 [vA 161, vU, vU, vU, vA x4, vI x5] [] σ Q :=
  L_iload dR_addJacobi_66 rfl (L_aload_n dR_addJacobi_68 rfl (L_getf fw_R_253 rfl dR_addJacobi_69 ⟨ob_161, L_icmp_ge dR_addJacobi_72 (by decide) ⟨fun c1 => L_return rfl dR_addJacobi_104 (h.1 c1), fun c1 => L_aload dR_addJacobi_75 rfl (L_iload dR_addJacobi_77 rfl (L_aload dR_addJacobi_79 rfl (L_iload dR_addJacobi_81 rfl (L_iaload dR_addJacobi_83 ⟨(h.2 c1).1, L_aload_n dR_addJacobi_84 rfl (L_getF (b := 178) fw_R_71 rfl rfl (by decide) dR_addJacobi_85 ⟨ob_161, L_iload dR_addJacobi_88 rfl (L_ialoadL kd_178 dR_addJacobi_90 ⟨(h.2 c1).2.1, L_iadd dR_addJacobi_91 (L_aload_n dR_addJacobi_92 rfl (L_getf fw_R_250 rfl dR_addJacobi_93 ⟨ob_161, L_irem dR_addJacobi_96 ⟨(h.2 c1).2.2.1, L_iastoreN dR_addJacobi_97 ⟨(h.2 c1).2.2.2.1, fun σ2 e2 => L_iinc dR_addJacobi_98 rfl (by decide) (L_goto dR_addJacobi_101 (by decide) ((h.2 c1).2.2.2.2 σ2 e2))⟩⟩⟩))⟩)⟩)⟩))))⟩⟩))
theorem dR_breaks_0 : decode prog_14_method_82_code 0 = .ok (.iconst 0, 1) := by decide +kernel
theorem dR_breaks_1 : decode prog_14_method_82_code 1 = .ok (.istore 4, 2) := by decide +kernel
theorem dR_breaks_3 : decode prog_14_method_82_code 3 = .ok (.iload 4, 2) := by decide +kernel
theorem dR_breaks_5 : decode prog_14_method_82_code 5 = .ok (.iconst 5, 1) := by decide +kernel
theorem dR_breaks_6 : decode prog_14_method_82_code 6 = .ok (.if_icmp .ge 17, 3) := by decide +kernel
theorem dR_breaks_9 : decode prog_14_method_82_code 9 = .ok (.aload_n 0, 1) := by decide +kernel
theorem dR_breaks_10 : decode prog_14_method_82_code 10 = .ok (.getfield 98, 3) := by decide +kernel
theorem dR_breaks_13 : decode prog_14_method_82_code 13 = .ok (.iload 4, 2) := by decide +kernel
theorem dR_breaks_15 : decode prog_14_method_82_code 15 = .ok (.iconst 0, 1) := by decide +kernel
theorem dR_breaks_16 : decode prog_14_method_82_code 16 = .ok (.iastore, 1) := by decide +kernel
theorem dR_breaks_17 : decode prog_14_method_82_code 17 = .ok (.iinc 4 1, 3) := by decide +kernel
theorem dR_breaks_20 : decode prog_14_method_82_code 20 = .ok (.goto (-17), 3) := by decide +kernel
theorem dR_breaks_23 : decode prog_14_method_82_code 23 = .ok (.aload_n 0, 1) := by decide +kernel
theorem dR_breaks_24 : decode prog_14_method_82_code 24 = .ok (.iload_n 1, 1) := by decide +kernel
theorem dR_breaks_25 : decode prog_14_method_82_code 25 = .ok (.iload_n 2, 1) := by decide +kernel
theorem dR_breaks_26 : decode prog_14_method_82_code 26 = .ok (.iload_n 3, 1) := by decide +kernel
theorem dR_breaks_27 : decode prog_14_method_82_code 27 = .ok (.aload_n 0, 1) := by decide +kernel
theorem dR_breaks_28 : decode prog_14_method_82_code 28 = .ok (.getfield 98, 3) := by decide +kernel
theorem dR_breaks_31 : decode prog_14_method_82_code 31 = .ok (.invokevirtual 371, 3) := by decide +kernel
theorem dR_breaks_34 : decode prog_14_method_82_code 34 = .ok (.aload_n 0, 1) := by decide +kernel
theorem dR_breaks_35 : decode prog_14_method_82_code 35 = .ok (.iload_n 2, 1) := by decide +kernel
theorem dR_breaks_36 : decode prog_14_method_82_code 36 = .ok (.iload_n 3, 1) := by decide +kernel
theorem dR_breaks_37 : decode prog_14_method_82_code 37 = .ok (.iload_n 1, 1) := by decide +kernel
theorem dR_breaks_38 : decode prog_14_method_82_code 38 = .ok (.aload_n 0, 1) := by decide +kernel
theorem dR_breaks_39 : decode prog_14_method_82_code 39 = .ok (.getfield 98, 3) := by decide +kernel
theorem dR_breaks_42 : decode prog_14_method_82_code 42 = .ok (.invokevirtual 371, 3) := by decide +kernel
theorem dR_breaks_45 : decode prog_14_method_82_code 45 = .ok (.aload_n 0, 1) := by decide +kernel
theorem dR_breaks_46 : decode prog_14_method_82_code 46 = .ok (.iload_n 3, 1) := by decide +kernel
theorem dR_breaks_47 : decode prog_14_method_82_code 47 = .ok (.iload_n 1, 1) := by decide +kernel
theorem dR_breaks_48 : decode prog_14_method_82_code 48 = .ok (.iload_n 2, 1) := by decide +kernel
theorem dR_breaks_49 : decode prog_14_method_82_code 49 = .ok (.aload_n 0, 1) := by decide +kernel
theorem dR_breaks_50 : decode prog_14_method_82_code 50 = .ok (.getfield 98, 3) := by decide +kernel
theorem dR_breaks_53 : decode prog_14_method_82_code 53 = .ok (.invokevirtual 371, 3) := by decide +kernel
theorem dR_breaks_56 : decode prog_14_method_82_code 56 = .ok (.aload_n 0, 1) := by decide +kernel
theorem dR_breaks_57 : decode prog_14_method_82_code 57 = .ok (.aload_n 0, 1) := by decide +kernel
theorem dR_breaks_58 : decode prog_14_method_82_code 58 = .ok (.getfield 98, 3) := by decide +kernel
theorem dR_breaks_61 : decode prog_14_method_82_code 61 = .ok (.iconst 0, 1) := by decide +kernel
theorem dR_breaks_62 : decode prog_14_method_82_code 62 = .ok (.invokevirtual 330, 3) := by decide +kernel
theorem dR_breaks_65 : decode prog_14_method_82_code 65 = .ok (.ifCond .lt 7, 3) := by decide +kernel
theorem dR_breaks_68 : decode prog_14_method_82_code 68 = .ok (.iconst 1, 1) := by decide +kernel
theorem dR_breaks_69 : decode prog_14_method_82_code 69 = .ok (.goto 4, 3) := by decide +kernel
theorem dR_breaks_72 : decode prog_14_method_82_code 72 = .ok (.iconst 0, 1) := by decide +kernel
theorem dR_breaks_73 : decode prog_14_method_82_code 73 = .ok (.ireturn, 1) := by decide +kernel
theorem t_R_breaks {d : Nat} {x1 x2 x3 : Int} {σ : SG} {Q : Int → SG → Prop} (h : inI x1 → inI x2 → inI x3 → (L (d + 1) M_R_breaks 3 [vA 161, vI x1, vI x2, vI x3, vI 0] [] σ Q)) : Tri (d + 1) M_R_breaks [vA 161, vI x1, vI x2, vI x3] σ Q :=
  Tri_intro rfl (Nat.le_of_ble_eq_true rfl) (ls := [vA 161, vI x1, vI x2, vI x3, vU]) rfl (fun hok => L_iconst dR_breaks_0 in_0 (L_istore dR_breaks_1 (by decide) ((h (hok _ (List.mem_of_getElem? (i := 1) rfl)) (hok _ (List.mem_of_getElem? (i := 2) rfl)) (hok _ (List.mem_of_getElem? (i := 3) rfl))))))
theorem s_R_breaks_3 {d : Nat} {x1 x2 x3 x4 : Int} {σ : SG} {Q : Int → SG → Prop} (h : (5 ≤ x4 → Tri d M_R_addJacobi [vA 161, vI x1, vI x2, vI x3, vA 186] σ (fun r2 σ2 => Tri d M_R_addJacobi [vA 161, vI x2, vI x3, vI x1, vA 186] σ2 (fun r3 σ3 => Tri d M_R_addJacobi [vA 161, vI x3, vI x1, vI x2, vA 186] σ3 (fun r4 σ4 => Tri d M_R_leadOf [vA 161, vA 186, vI 0] σ4 (fun r5 σ5 => (r5 < 0 → Q 0 σ5) ∧ (0 ≤ r5 → Q 1 σ5)))))) ∧ (x4 < 5 → (0 ≤ x4 ∧ x4 < 5) ∧ (∀ σ7, σ7 = up σ 186 x4 0 → L (d + 1) M_R_breaks 3 [vA 161, vI x1, vI x2, vI x3, vI (w32 (x4 + 1))] [] σ7 Q))) : L (d + 1) M_R_breaks 3 [vA 161, vI x1, vI x2, vI x3, vI x4] [] σ Q :=
  L_iload dR_breaks_3 rfl (L_iconst dR_breaks_5 in_5 (L_icmp_ge dR_breaks_6 (by decide) ⟨fun c1 => L_aload_n dR_breaks_23 rfl (L_iload_n dR_breaks_24 rfl (L_iload_n dR_breaks_25 rfl (L_iload_n dR_breaks_26 rfl (L_aload_n dR_breaks_27 rfl (L_getF (b := 186) fw_R_98 rfl rfl (by decide) dR_breaks_28 ⟨ob_161, L_callVV rfl cv_R_addJacobi (As := [vI x1, vI x2, vI x3, vA 186]) rfl (tk8 177 rfl rfl) rfl (Nat.le_of_ble_eq_true rfl) dR_breaks_31 ⟨ob_161, Tri.mono (h.1 c1) (fun r2 σ2 q2 => L_aload_n dR_breaks_34 rfl (L_iload_n dR_breaks_35 rfl (L_iload_n dR_breaks_36 rfl (L_iload_n dR_breaks_37 rfl (L_aload_n dR_breaks_38 rfl (L_getF (b := 186) fw_R_98 rfl rfl (by decide) dR_breaks_39 ⟨ob_161, L_callVV rfl cv_R_addJacobi (As := [vI x2, vI x3, vI x1, vA 186]) rfl (tk8 177 rfl rfl) rfl (Nat.le_of_ble_eq_true rfl) dR_breaks_42 ⟨ob_161, Tri.mono q2 (fun r3 σ3 q3 => L_aload_n dR_breaks_45 rfl (L_iload_n dR_breaks_46 rfl (L_iload_n dR_breaks_47 rfl (L_iload_n dR_breaks_48 rfl (L_aload_n dR_breaks_49 rfl (L_getF (b := 186) fw_R_98 rfl rfl (by decide) dR_breaks_50 ⟨ob_161, L_callVV rfl cv_R_addJacobi (As := [vI x3, vI x1, vI x2, vA 186]) rfl (tk8 177 rfl rfl) rfl (Nat.le_of_ble_eq_true rfl) dR_breaks_53 ⟨ob_161, Tri.mono q3 (fun r4 σ4 q4 => L_aload_n dR_breaks_56 rfl (L_aload_n dR_breaks_57 rfl (L_getF (b := 186) fw_R_98 rfl rfl (by decide) dR_breaks_58 ⟨ob_161, L_iconst dR_breaks_61 in_0 (L_callVI rfl cv_R_leadOf (As := [vA 186, vI 0]) rfl (tk8 185 rfl rfl) rfl (Nat.le_of_ble_eq_true rfl) dR_breaks_62 ⟨ob_161, Tri.mono q4 (fun r5 σ5 q5 => L_if_lt dR_breaks_65 (by decide) ⟨fun c6 => L_iconst dR_breaks_72 in_0 (L_zreturn0 rfl dR_breaks_73 (q5.1 c6)), fun c6 => L_iconst dR_breaks_68 in_1 (L_goto dR_breaks_69 (by decide) (L_zreturn1 rfl dR_breaks_73 (q5.2 c6)))⟩)⟩)⟩)))⟩⟩))))))⟩⟩))))))⟩⟩))))), fun c1 => L_aload_n dR_breaks_9 rfl (L_getF (b := 186) fw_R_98 rfl rfl (by decide) dR_breaks_10 ⟨ob_161, L_iload dR_breaks_13 rfl (L_iconst dR_breaks_15 in_0 (L_iastoreL (by decide) kd_186 dR_breaks_16 ⟨(h.2 c1).1, fun σ7 e7 => L_iinc dR_breaks_17 rfl (by decide) (L_goto dR_breaks_20 (by decide) ((h.2 c1).2 σ7 e7))⟩))⟩)⟩))
theorem dR_isLawful_0 : decode prog_14_method_83_code 0 = .ok (.iconst 0, 1) := by decide +kernel
theorem dR_isLawful_1 : decode prog_14_method_83_code 1 = .ok (.istore_n 1, 1) := by decide +kernel
theorem dR_isLawful_2 : decode prog_14_method_83_code 2 = .ok (.iload_n 1, 1) := by decide +kernel
theorem dR_isLawful_3 : decode prog_14_method_83_code 3 = .ok (.aload_n 0, 1) := by decide +kernel
theorem dR_isLawful_4 : decode prog_14_method_83_code 4 = .ok (.getfield 253, 3) := by decide +kernel
theorem dR_isLawful_7 : decode prog_14_method_83_code 7 = .ok (.if_icmp .ge 57, 3) := by decide +kernel
theorem dR_isLawful_10 : decode prog_14_method_83_code 10 = .ok (.iload_n 1, 1) := by decide +kernel
theorem dR_isLawful_11 : decode prog_14_method_83_code 11 = .ok (.iconst 1, 1) := by decide +kernel
theorem dR_isLawful_12 : decode prog_14_method_83_code 12 = .ok (.iadd, 1) := by decide +kernel
theorem dR_isLawful_13 : decode prog_14_method_83_code 13 = .ok (.istore_n 2, 1) := by decide +kernel
theorem dR_isLawful_14 : decode prog_14_method_83_code 14 = .ok (.iload_n 2, 1) := by decide +kernel
theorem dR_isLawful_15 : decode prog_14_method_83_code 15 = .ok (.aload_n 0, 1) := by decide +kernel
theorem dR_isLawful_16 : decode prog_14_method_83_code 16 = .ok (.getfield 253, 3) := by decide +kernel
theorem dR_isLawful_19 : decode prog_14_method_83_code 19 = .ok (.if_icmp .ge 39, 3) := by decide +kernel
theorem dR_isLawful_22 : decode prog_14_method_83_code 22 = .ok (.iload_n 2, 1) := by decide +kernel
theorem dR_isLawful_23 : decode prog_14_method_83_code 23 = .ok (.iconst 1, 1) := by decide +kernel
theorem dR_isLawful_24 : decode prog_14_method_83_code 24 = .ok (.iadd, 1) := by decide +kernel
theorem dR_isLawful_25 : decode prog_14_method_83_code 25 = .ok (.istore_n 3, 1) := by decide +kernel
theorem dR_isLawful_26 : decode prog_14_method_83_code 26 = .ok (.iload_n 3, 1) := by decide +kernel
theorem dR_isLawful_27 : decode prog_14_method_83_code 27 = .ok (.aload_n 0, 1) := by decide +kernel
theorem dR_isLawful_28 : decode prog_14_method_83_code 28 = .ok (.getfield 253, 3) := by decide +kernel
theorem dR_isLawful_31 : decode prog_14_method_83_code 31 = .ok (.if_icmp .ge 21, 3) := by decide +kernel
theorem dR_isLawful_34 : decode prog_14_method_83_code 34 = .ok (.aload_n 0, 1) := by decide +kernel
theorem dR_isLawful_35 : decode prog_14_method_83_code 35 = .ok (.iload_n 1, 1) := by decide +kernel
theorem dR_isLawful_36 : decode prog_14_method_83_code 36 = .ok (.iload_n 2, 1) := by decide +kernel
theorem dR_isLawful_37 : decode prog_14_method_83_code 37 = .ok (.iload_n 3, 1) := by decide +kernel
theorem dR_isLawful_38 : decode prog_14_method_83_code 38 = .ok (.invokevirtual 375, 3) := by decide +kernel
theorem dR_isLawful_41 : decode prog_14_method_83_code 41 = .ok (.ifCond .eq 5, 3) := by decide +kernel
theorem dR_isLawful_44 : decode prog_14_method_83_code 44 = .ok (.iconst 0, 1) := by decide +kernel
theorem dR_isLawful_45 : decode prog_14_method_83_code 45 = .ok (.ireturn, 1) := by decide +kernel
theorem dR_isLawful_46 : decode prog_14_method_83_code 46 = .ok (.iinc 3 1, 3) := by decide +kernel
theorem dR_isLawful_49 : decode prog_14_method_83_code 49 = .ok (.goto (-23), 3) := by decide +kernel
theorem dR_isLawful_52 : decode prog_14_method_83_code 52 = .ok (.iinc 2 1, 3) := by decide +kernel
theorem dR_isLawful_55 : decode prog_14_method_83_code 55 = .ok (.goto (-41), 3) := by decide +kernel
theorem dR_isLawful_58 : decode prog_14_method_83_code 58 = .ok (.iinc 1 1, 3) := by decide +kernel
theorem dR_isLawful_61 : decode prog_14_method_83_code 61 = .ok (.goto (-59), 3) := by decide +kernel
theorem dR_isLawful_64 : decode prog_14_method_83_code 64 = .ok (.iconst 1, 1) := by decide +kernel
theorem dR_isLawful_65 : decode prog_14_method_83_code 65 = .ok (.ireturn, 1) := by decide +kernel
theorem t_R_isLawful {d : Nat} {σ : SG} {Q : Int → SG → Prop} (h : L (d + 1) M_R_isLawful 2 [vA 161, vI 0, vU, vU] [] σ Q) : Tri (d + 1) M_R_isLawful [vA 161] σ Q :=
  Tri_intro rfl (Nat.le_of_ble_eq_true rfl) (ls := [vA 161, vU, vU, vU]) rfl (fun hok => L_iconst dR_isLawful_0 in_0 (L_istore_n dR_isLawful_1 (by decide) (h)))
theorem s_R_isLawful_2 {d : Nat} {x1 : Int} {σ : SG} {Q : Int → SG → Prop} (h : (σ 161 27 ≤ x1 → Q 1 σ) ∧ (x1 < σ 161 27 → L (d + 1) M_R_isLawful 14 [vA 161, vI x1, vI (w32 (x1 + 1)), vU] [] σ Q)) : L (d + 1) M_R_isLawful 2 [vA 161, vI x1, vU, vU] [] σ Q :=
  L_iload_n dR_isLawful_2 rfl (L_aload_n dR_isLawful_3 rfl (L_getf fw_R_253 rfl dR_isLawful_4 ⟨ob_161, L_icmp_ge dR_isLawful_7 (by decide) ⟨fun c1 => L_iconst dR_isLawful_64 in_1 (L_zreturn1 rfl dR_isLawful_65 (h.1 c1)), fun c1 => L_iload_n dR_isLawful_10 rfl (L_iconst dR_isLawful_11 in_1 (L_iadd dR_isLawful_12 (L_istore_n dR_isLawful_13 (by decide) (h.2 c1))))⟩⟩))
theorem s_R_isLawful_14 {d : Nat} {x1 x2 : Int} {σ : SG} {Q : Int → SG → Prop} (h : (σ 161 27 ≤ x2 → L (d + 1) M_R_isLawful 2 [vA 161, vI (w32 (x1 + 1)), vU, vU] [] σ Q) ∧ (x2 < σ 161 27 → L (d + 1) M_R_isLawful 26 [vA 161, vI x1, vI x2, vI (w32 (x2 + 1))] [] σ Q)) : L (d + 1) M_R_isLawful 14 [vA 161, vI x1, vI x2, vU] [] σ Q :=
  L_iload_n dR_isLawful_14 rfl (L_aload_n dR_isLawful_15 rfl (L_getf fw_R_253 rfl dR_isLawful_16 ⟨ob_161, L_icmp_ge dR_isLawful_19 (by decide) ⟨fun c1 => L_iinc dR_isLawful_58 rfl (by decide) (L_goto dR_isLawful_61 (by decide) (L_weak [true, true, false, true] (h.1 c1))), fun c1 => L_iload_n dR_isLawful_22 rfl (L_iconst dR_isLawful_23 in_1 (L_iadd dR_isLawful_24 (L_istore_n dR_isLawful_25 (by decide) (h.2 c1))))⟩⟩))
theorem s_R_isLawful_26 {d : Nat} {x1 x2 x3 : Int} {σ : SG} {Q : Int → SG → Prop} (h : (σ 161 27 ≤ x3 → L (d + 1) M_R_isLawful 14 [vA 161, vI x1, vI (w32 (x2 + 1)), vU] [] σ Q) ∧ (x3 < σ 161 27 → Tri d M_R_breaks [vA 161, vI x1, vI x2, vI x3] σ (fun r2 σ2 => (r2 = 0 → L (d + 1) M_R_isLawful 26 [vA 161, vI x1, vI x2, vI (w32 (x3 + 1))] [] σ2 Q) ∧ (r2 ≠ 0 → Q 0 σ2)))) : L (d + 1) M_R_isLawful 26 [vA 161, vI x1, vI x2, vI x3] [] σ Q :=
  L_iload_n dR_isLawful_26 rfl (L_aload_n dR_isLawful_27 rfl (L_getf fw_R_253 rfl dR_isLawful_28 ⟨ob_161, L_icmp_ge dR_isLawful_31 (by decide) ⟨fun c1 => L_iinc dR_isLawful_52 rfl (by decide) (L_goto dR_isLawful_55 (by decide) (L_weak [true, true, true, false] (h.1 c1))), fun c1 => L_aload_n dR_isLawful_34 rfl (L_iload_n dR_isLawful_35 rfl (L_iload_n dR_isLawful_36 rfl (L_iload_n dR_isLawful_37 rfl (L_callVI rfl cv_R_breaks (As := [vI x1, vI x2, vI x3]) rfl (tk8 173 rfl rfl) rfl (Nat.le_of_ble_eq_true rfl) dR_isLawful_38 ⟨ob_161, Tri.mono (h.2 c1) (fun r2 σ2 q2 => L_if_eq dR_isLawful_41 (by decide) ⟨fun c3 => L_iinc dR_isLawful_46 rfl (by decide) (L_goto dR_isLawful_49 (by decide) (q2.1 c3)), fun c3 => L_iconst dR_isLawful_44 in_0 (L_zreturn0 rfl dR_isLawful_45 (q2.2 c3))⟩)⟩))))⟩⟩))
theorem dR_lawful_0 : decode prog_14_method_84_code 0 = .ok (.aload_n 0, 1) := by decide +kernel
theorem dR_lawful_1 : decode prog_14_method_84_code 1 = .ok (.iconst 0, 1) := by decide +kernel
theorem dR_lawful_2 : decode prog_14_method_84_code 2 = .ok (.putfield 132, 3) := by decide +kernel
theorem dR_lawful_5 : decode prog_14_method_84_code 5 = .ok (.aload_n 0, 1) := by decide +kernel
theorem dR_lawful_6 : decode prog_14_method_84_code 6 = .ok (.iconst 0, 1) := by decide +kernel
theorem dR_lawful_7 : decode prog_14_method_84_code 7 = .ok (.putfield 135, 3) := by decide +kernel
theorem dR_lawful_10 : decode prog_14_method_84_code 10 = .ok (.aload_n 0, 1) := by decide +kernel
theorem dR_lawful_11 : decode prog_14_method_84_code 11 = .ok (.invokevirtual 348, 3) := by decide +kernel
theorem dR_lawful_14 : decode prog_14_method_84_code 14 = .ok (.aload_n 0, 1) := by decide +kernel
theorem dR_lawful_15 : decode prog_14_method_84_code 15 = .ok (.invokevirtual 379, 3) := by decide +kernel
theorem dR_lawful_18 : decode prog_14_method_84_code 18 = .ok (.ifCond .eq 7, 3) := by decide +kernel
theorem dR_lawful_21 : decode prog_14_method_84_code 21 = .ok (.iconst 1, 1) := by decide +kernel
theorem dR_lawful_22 : decode prog_14_method_84_code 22 = .ok (.goto 4, 3) := by decide +kernel
theorem dR_lawful_25 : decode prog_14_method_84_code 25 = .ok (.iconst 0, 1) := by decide +kernel
theorem dR_lawful_26 : decode prog_14_method_84_code 26 = .ok (.ireturn, 1) := by decide +kernel
theorem t_R_lawful {d : Nat} {σ : SG} {Q : Int → SG → Prop} (h : (∀ σ1, σ1 = up σ 161 1 0 → (∀ σ2, σ2 = up σ1 161 0 0 → Tri d M_R_askNow [vA 161] σ2 (fun r3 σ3 => Tri d M_R_isLawful [vA 161] σ3 (fun r4 σ4 => (r4 = 0 → Q 0 σ4) ∧ (r4 ≠ 0 → Q 1 σ4)))))) : Tri (d + 1) M_R_lawful [vA 161] σ Q :=
  Tri_intro rfl (Nat.le_of_ble_eq_true rfl) (ls := [vA 161]) rfl (fun hok => L_aload_n dR_lawful_0 rfl (L_iconst dR_lawful_1 in_0 (L_putfN fp_R_132 rfl rfl (fun _ => ⟨rfl, rfl⟩) dR_lawful_2 ⟨ob_161, fun σ1 e1 => L_aload_n dR_lawful_5 rfl (L_iconst dR_lawful_6 in_0 (L_putfN fp_R_135 rfl rfl (fun _ => ⟨rfl, rfl⟩) dR_lawful_7 ⟨ob_161, fun σ2 e2 => L_aload_n dR_lawful_10 rfl (L_callVV rfl cv_R_askNow (As := []) rfl (tk8 108 rfl rfl) rfl (Nat.le_of_ble_eq_true rfl) dR_lawful_11 ⟨ob_161, Tri.mono ((h σ1 e1) σ2 e2) (fun r3 σ3 q3 => L_aload_n dR_lawful_14 rfl (L_callVI rfl cv_R_isLawful (As := []) rfl (tk8 169 rfl rfl) rfl (Nat.le_of_ble_eq_true rfl) dR_lawful_15 ⟨ob_161, Tri.mono q3 (fun r4 σ4 q4 => L_if_eq dR_lawful_18 (by decide) ⟨fun c5 => L_iconst dR_lawful_25 in_0 (L_ireturn rfl dR_lawful_26 (q4.1 c5)), fun c5 => L_iconst dR_lawful_21 in_1 (L_goto dR_lawful_22 (by decide) (L_ireturn rfl dR_lawful_26 (q4.2 c5)))⟩)⟩))⟩)⟩))⟩)))
theorem dR_failing_0 : decode prog_14_method_85_code 0 = .ok (.aload_n 0, 1) := by decide +kernel
theorem dR_failing_1 : decode prog_14_method_85_code 1 = .ok (.iconst 0, 1) := by decide +kernel
theorem dR_failing_2 : decode prog_14_method_85_code 2 = .ok (.putfield 132, 3) := by decide +kernel
theorem dR_failing_5 : decode prog_14_method_85_code 5 = .ok (.aload_n 0, 1) := by decide +kernel
theorem dR_failing_6 : decode prog_14_method_85_code 6 = .ok (.iconst 0, 1) := by decide +kernel
theorem dR_failing_7 : decode prog_14_method_85_code 7 = .ok (.putfield 135, 3) := by decide +kernel
theorem dR_failing_10 : decode prog_14_method_85_code 10 = .ok (.aload_n 0, 1) := by decide +kernel
theorem dR_failing_11 : decode prog_14_method_85_code 11 = .ok (.invokevirtual 348, 3) := by decide +kernel
theorem dR_failing_14 : decode prog_14_method_85_code 14 = .ok (.iload_n 1, 1) := by decide +kernel
theorem dR_failing_15 : decode prog_14_method_85_code 15 = .ok (.i2l, 1) := by decide +kernel
theorem dR_failing_16 : decode prog_14_method_85_code 16 = .ok (.lconst 0, 1) := by decide +kernel
theorem dR_failing_17 : decode prog_14_method_85_code 17 = .ok (.ldc2_w 382, 3) := by decide +kernel
theorem dR_failing_20 : decode prog_14_method_85_code 20 = .ok (.invokestatic 167, 3) := by decide +kernel
theorem dR_failing_23 : decode prog_14_method_85_code 23 = .ok (.ifCond .ne 9, 3) := by decide +kernel
theorem dR_failing_26 : decode prog_14_method_85_code 26 = .ok (.aload_n 0, 1) := by decide +kernel
theorem dR_failing_27 : decode prog_14_method_85_code 27 = .ok (.iconst 5, 1) := by decide +kernel
theorem dR_failing_28 : decode prog_14_method_85_code 28 = .ok (.invokevirtual 351, 3) := by decide +kernel
theorem dR_failing_31 : decode prog_14_method_85_code 31 = .ok (.ireturn, 1) := by decide +kernel
theorem dR_failing_32 : decode prog_14_method_85_code 32 = .ok (.iconst 0, 1) := by decide +kernel
theorem dR_failing_33 : decode prog_14_method_85_code 33 = .ok (.istore_n 2, 1) := by decide +kernel
theorem dR_failing_34 : decode prog_14_method_85_code 34 = .ok (.iload_n 2, 1) := by decide +kernel
theorem dR_failing_35 : decode prog_14_method_85_code 35 = .ok (.aload_n 0, 1) := by decide +kernel
theorem dR_failing_36 : decode prog_14_method_85_code 36 = .ok (.getfield 253, 3) := by decide +kernel
theorem dR_failing_39 : decode prog_14_method_85_code 39 = .ok (.if_icmp .ge 78, 3) := by decide +kernel
theorem dR_failing_42 : decode prog_14_method_85_code 42 = .ok (.iload_n 2, 1) := by decide +kernel
theorem dR_failing_43 : decode prog_14_method_85_code 43 = .ok (.iconst 1, 1) := by decide +kernel
theorem dR_failing_44 : decode prog_14_method_85_code 44 = .ok (.iadd, 1) := by decide +kernel
theorem dR_failing_45 : decode prog_14_method_85_code 45 = .ok (.istore_n 3, 1) := by decide +kernel
theorem dR_failing_46 : decode prog_14_method_85_code 46 = .ok (.iload_n 3, 1) := by decide +kernel
theorem dR_failing_47 : decode prog_14_method_85_code 47 = .ok (.aload_n 0, 1) := by decide +kernel
theorem dR_failing_48 : decode prog_14_method_85_code 48 = .ok (.getfield 253, 3) := by decide +kernel
theorem dR_failing_51 : decode prog_14_method_85_code 51 = .ok (.if_icmp .ge 60, 3) := by decide +kernel
theorem dR_failing_54 : decode prog_14_method_85_code 54 = .ok (.iload_n 3, 1) := by decide +kernel
theorem dR_failing_55 : decode prog_14_method_85_code 55 = .ok (.iconst 1, 1) := by decide +kernel
theorem dR_failing_56 : decode prog_14_method_85_code 56 = .ok (.iadd, 1) := by decide +kernel
theorem dR_failing_57 : decode prog_14_method_85_code 57 = .ok (.istore 4, 2) := by decide +kernel
theorem dR_failing_59 : decode prog_14_method_85_code 59 = .ok (.iload 4, 2) := by decide +kernel
theorem dR_failing_61 : decode prog_14_method_85_code 61 = .ok (.aload_n 0, 1) := by decide +kernel
theorem dR_failing_62 : decode prog_14_method_85_code 62 = .ok (.getfield 253, 3) := by decide +kernel
theorem dR_failing_65 : decode prog_14_method_85_code 65 = .ok (.if_icmp .ge 40, 3) := by decide +kernel
theorem dR_failing_68 : decode prog_14_method_85_code 68 = .ok (.aload_n 0, 1) := by decide +kernel
theorem dR_failing_69 : decode prog_14_method_85_code 69 = .ok (.iload_n 2, 1) := by decide +kernel
theorem dR_failing_70 : decode prog_14_method_85_code 70 = .ok (.iload_n 3, 1) := by decide +kernel
theorem dR_failing_71 : decode prog_14_method_85_code 71 = .ok (.iload 4, 2) := by decide +kernel
theorem dR_failing_73 : decode prog_14_method_85_code 73 = .ok (.invokevirtual 375, 3) := by decide +kernel
theorem dR_failing_76 : decode prog_14_method_85_code 76 = .ok (.ifCond .eq 23, 3) := by decide +kernel
theorem dR_failing_79 : decode prog_14_method_85_code 79 = .ok (.iload_n 1, 1) := by decide +kernel
theorem dR_failing_80 : decode prog_14_method_85_code 80 = .ok (.ifCond .ne 7, 3) := by decide +kernel
theorem dR_failing_83 : decode prog_14_method_85_code 83 = .ok (.iload_n 2, 1) := by decide +kernel
theorem dR_failing_84 : decode prog_14_method_85_code 84 = .ok (.goto 14, 3) := by decide +kernel
theorem dR_failing_87 : decode prog_14_method_85_code 87 = .ok (.iload_n 1, 1) := by decide +kernel
theorem dR_failing_88 : decode prog_14_method_85_code 88 = .ok (.iconst 1, 1) := by decide +kernel
theorem dR_failing_89 : decode prog_14_method_85_code 89 = .ok (.if_icmp .ne 7, 3) := by decide +kernel
theorem dR_failing_92 : decode prog_14_method_85_code 92 = .ok (.iload_n 3, 1) := by decide +kernel
theorem dR_failing_93 : decode prog_14_method_85_code 93 = .ok (.goto 5, 3) := by decide +kernel
theorem dR_failing_96 : decode prog_14_method_85_code 96 = .ok (.iload 4, 2) := by decide +kernel
theorem dR_failing_98 : decode prog_14_method_85_code 98 = .ok (.ireturn, 1) := by decide +kernel
theorem dR_failing_99 : decode prog_14_method_85_code 99 = .ok (.iinc 4 1, 3) := by decide +kernel
theorem dR_failing_102 : decode prog_14_method_85_code 102 = .ok (.goto (-43), 3) := by decide +kernel
theorem dR_failing_105 : decode prog_14_method_85_code 105 = .ok (.iinc 3 1, 3) := by decide +kernel
theorem dR_failing_108 : decode prog_14_method_85_code 108 = .ok (.goto (-62), 3) := by decide +kernel
theorem dR_failing_111 : decode prog_14_method_85_code 111 = .ok (.iinc 2 1, 3) := by decide +kernel
theorem dR_failing_114 : decode prog_14_method_85_code 114 = .ok (.goto (-80), 3) := by decide +kernel
theorem dR_failing_117 : decode prog_14_method_85_code 117 = .ok (.aload_n 0, 1) := by decide +kernel
theorem dR_failing_118 : decode prog_14_method_85_code 118 = .ok (.bipush 8, 2) := by decide +kernel
theorem dR_failing_120 : decode prog_14_method_85_code 120 = .ok (.invokevirtual 351, 3) := by decide +kernel
theorem dR_failing_123 : decode prog_14_method_85_code 123 = .ok (.ireturn, 1) := by decide +kernel
theorem t_R_failing {d : Nat} {x1 : Int} {σ : SG} {Q : Int → SG → Prop} (h : inI x1 → ((∀ σ1, σ1 = up σ 161 1 0 → (∀ σ2, σ2 = up σ1 161 0 0 → Tri d M_R_askNow [vA 161] σ2 (fun r3 σ3 => Tri d M_R_isIn [vJ x1, vJ 0, vJ 2] σ3 (fun r4 σ4 => (r4 ≠ 0 → L (d + 1) M_R_failing 34 [vA 161, vI x1, vI 0, vU, vU] [] σ4 Q) ∧ (r4 = 0 → Tri d M_R_refuse [vA 161, vI 5] σ4 (fun r6 σ6 => Q r6 σ6)))))))) : Tri (d + 1) M_R_failing [vA 161, vI x1] σ Q :=
  Tri_intro rfl (Nat.le_of_ble_eq_true rfl) (ls := [vA 161, vI x1, vU, vU, vU]) rfl (fun hok => L_aload_n dR_failing_0 rfl (L_iconst dR_failing_1 in_0 (L_putfN fp_R_132 rfl rfl (fun _ => ⟨rfl, rfl⟩) dR_failing_2 ⟨ob_161, fun σ1 e1 => L_aload_n dR_failing_5 rfl (L_iconst dR_failing_6 in_0 (L_putfN fp_R_135 rfl rfl (fun _ => ⟨rfl, rfl⟩) dR_failing_7 ⟨ob_161, fun σ2 e2 => L_aload_n dR_failing_10 rfl (L_callVV rfl cv_R_askNow (As := []) rfl (tk8 108 rfl rfl) rfl (Nat.le_of_ble_eq_true rfl) dR_failing_11 ⟨ob_161, Tri.mono (((h (hok _ (List.mem_of_getElem? (i := 1) rfl))) σ1 e1) σ2 e2) (fun r3 σ3 q3 => L_iload_n dR_failing_14 rfl (L_i2l dR_failing_15 (L_lconst (x := 0) dR_failing_16 rfl inJ_0 (L_ldc2 (x := 2) (tk8 193 rfl rfl) rfl inJ_2 dR_failing_17 (L_callSI rfl cs_R_isIn (As := [vJ x1, vJ 0, vJ 2]) rfl (tk8 47 rfl rfl) rfl (Nat.le_of_ble_eq_true rfl) dR_failing_20 (Tri.mono q3 (fun r4 σ4 q4 => L_if_ne dR_failing_23 (by decide) ⟨fun c5 => L_iconst dR_failing_32 in_0 (L_istore_n dR_failing_33 (by decide) (q4.1 c5)), fun c5 => L_aload_n dR_failing_26 rfl (L_iconst dR_failing_27 in_5 (L_callVI rfl cv_R_refuse (As := [vI 5]) rfl (tk8 117 rfl rfl) rfl (Nat.le_of_ble_eq_true rfl) dR_failing_28 ⟨ob_161, Tri.mono (q4.2 c5) (fun r6 σ6 q6 => L_ireturn rfl dR_failing_31 q6)⟩))⟩)))))))⟩)⟩))⟩)))
theorem s_R_failing_34 {d : Nat} {x1 x2 : Int} {σ : SG} {Q : Int → SG → Prop} (h : (σ 161 27 ≤ x2 → Tri d M_R_refuse [vA 161, vI 8] σ (fun r2 σ2 => Q r2 σ2)) ∧ (x2 < σ 161 27 → L (d + 1) M_R_failing 46 [vA 161, vI x1, vI x2, vI (w32 (x2 + 1)), vU] [] σ Q)) : L (d + 1) M_R_failing 34 [vA 161, vI x1, vI x2, vU, vU] [] σ Q :=
  L_iload_n dR_failing_34 rfl (L_aload_n dR_failing_35 rfl (L_getf fw_R_253 rfl dR_failing_36 ⟨ob_161, L_icmp_ge dR_failing_39 (by decide) ⟨fun c1 => L_aload_n dR_failing_117 rfl (L_bipush dR_failing_118 bp_8 in_8 (L_callVI rfl cv_R_refuse (As := [vI 8]) rfl (tk8 117 rfl rfl) rfl (Nat.le_of_ble_eq_true rfl) dR_failing_120 ⟨ob_161, Tri.mono (h.1 c1) (fun r2 σ2 q2 => L_ireturn rfl dR_failing_123 q2)⟩)), fun c1 => L_iload_n dR_failing_42 rfl (L_iconst dR_failing_43 in_1 (L_iadd dR_failing_44 (L_istore_n dR_failing_45 (by decide) (h.2 c1))))⟩⟩))
theorem s_R_failing_46 {d : Nat} {x1 x2 x3 : Int} {σ : SG} {Q : Int → SG → Prop} (h : (σ 161 27 ≤ x3 → L (d + 1) M_R_failing 34 [vA 161, vI x1, vI (w32 (x2 + 1)), vU, vU] [] σ Q) ∧ (x3 < σ 161 27 → L (d + 1) M_R_failing 59 [vA 161, vI x1, vI x2, vI x3, vI (w32 (x3 + 1))] [] σ Q)) : L (d + 1) M_R_failing 46 [vA 161, vI x1, vI x2, vI x3, vU] [] σ Q :=
  L_iload_n dR_failing_46 rfl (L_aload_n dR_failing_47 rfl (L_getf fw_R_253 rfl dR_failing_48 ⟨ob_161, L_icmp_ge dR_failing_51 (by decide) ⟨fun c1 => L_iinc dR_failing_111 rfl (by decide) (L_goto dR_failing_114 (by decide) (L_weak [true, true, true, false, true] (h.1 c1))), fun c1 => L_iload_n dR_failing_54 rfl (L_iconst dR_failing_55 in_1 (L_iadd dR_failing_56 (L_istore dR_failing_57 (by decide) (h.2 c1))))⟩⟩))
theorem s_R_failing_59 {d : Nat} {x1 x2 x3 x4 : Int} {σ : SG} {Q : Int → SG → Prop} (h : (σ 161 27 ≤ x4 → L (d + 1) M_R_failing 46 [vA 161, vI x1, vI x2, vI (w32 (x3 + 1)), vU] [] σ Q) ∧ (x4 < σ 161 27 → Tri d M_R_breaks [vA 161, vI x2, vI x3, vI x4] σ (fun r2 σ2 => (r2 = 0 → L (d + 1) M_R_failing 59 [vA 161, vI x1, vI x2, vI x3, vI (w32 (x4 + 1))] [] σ2 Q) ∧ (r2 ≠ 0 → (x1 ≠ 0 → (x1 ≠ 1 → Q x4 σ2) ∧ (x1 = 1 → Q x3 σ2)) ∧ (x1 = 0 → Q x2 σ2))))) : L (d + 1) M_R_failing 59 [vA 161, vI x1, vI x2, vI x3, vI x4] [] σ Q :=
  L_iload dR_failing_59 rfl (L_aload_n dR_failing_61 rfl (L_getf fw_R_253 rfl dR_failing_62 ⟨ob_161, L_icmp_ge dR_failing_65 (by decide) ⟨fun c1 => L_iinc dR_failing_105 rfl (by decide) (L_goto dR_failing_108 (by decide) (L_weak [true, true, true, true, false] (h.1 c1))), fun c1 => L_aload_n dR_failing_68 rfl (L_iload_n dR_failing_69 rfl (L_iload_n dR_failing_70 rfl (L_iload dR_failing_71 rfl (L_callVI rfl cv_R_breaks (As := [vI x2, vI x3, vI x4]) rfl (tk8 173 rfl rfl) rfl (Nat.le_of_ble_eq_true rfl) dR_failing_73 ⟨ob_161, Tri.mono (h.2 c1) (fun r2 σ2 q2 => L_if_eq dR_failing_76 (by decide) ⟨fun c3 => L_iinc dR_failing_99 rfl (by decide) (L_goto dR_failing_102 (by decide) (q2.1 c3)), fun c3 => L_iload_n dR_failing_79 rfl (L_if_ne dR_failing_80 (by decide) ⟨fun c4 => L_iload_n dR_failing_87 rfl (L_iconst dR_failing_88 in_1 (L_icmp_ne dR_failing_89 (by decide) ⟨fun c5 => L_iload dR_failing_96 rfl (L_ireturn rfl dR_failing_98 (((q2.2 c3).1 c4).1 c5)), fun c5 => L_iload_n dR_failing_92 rfl (L_goto dR_failing_93 (by decide) (L_ireturn rfl dR_failing_98 (((q2.2 c3).1 c4).2 c5)))⟩)), fun c4 => L_iload_n dR_failing_83 rfl (L_goto dR_failing_84 (by decide) (L_ireturn rfl dR_failing_98 ((q2.2 c3).2 c4)))⟩)⟩)⟩))))⟩⟩))
theorem dR_isEmpty_0 : decode prog_14_method_86_code 0 = .ok (.aload_n 0, 1) := by decide +kernel
theorem dR_isEmpty_1 : decode prog_14_method_86_code 1 = .ok (.getfield 35, 3) := by decide +kernel
theorem dR_isEmpty_4 : decode prog_14_method_86_code 4 = .ok (.bipush 127, 2) := by decide +kernel
theorem dR_isEmpty_6 : decode prog_14_method_86_code 6 = .ok (.iload_n 1, 1) := by decide +kernel
theorem dR_isEmpty_7 : decode prog_14_method_86_code 7 = .ok (.iconst 1, 1) := by decide +kernel
theorem dR_isEmpty_8 : decode prog_14_method_86_code 8 = .ok (.iadd, 1) := by decide +kernel
theorem dR_isEmpty_9 : decode prog_14_method_86_code 9 = .ok (.imul, 1) := by decide +kernel
theorem dR_isEmpty_10 : decode prog_14_method_86_code 10 = .ok (.iaload, 1) := by decide +kernel
theorem dR_isEmpty_11 : decode prog_14_method_86_code 11 = .ok (.ifCond .ne 7, 3) := by decide +kernel
theorem dR_isEmpty_14 : decode prog_14_method_86_code 14 = .ok (.iconst 1, 1) := by decide +kernel
theorem dR_isEmpty_15 : decode prog_14_method_86_code 15 = .ok (.goto 4, 3) := by decide +kernel
theorem dR_isEmpty_18 : decode prog_14_method_86_code 18 = .ok (.iconst 0, 1) := by decide +kernel
theorem dR_isEmpty_19 : decode prog_14_method_86_code 19 = .ok (.ireturn, 1) := by decide +kernel
theorem t_R_isEmpty {d : Nat} {x1 : Int} {σ : SG} {Q : Int → SG → Prop} (h : inI x1 → ((0 ≤ w32 (127 * (w32 (x1 + 1))) ∧ w32 (127 * (w32 (x1 + 1))) < 3440) ∧ (σ 166 (w32 (127 * (w32 (x1 + 1)))) ≠ 0 → Q 0 σ) ∧ (σ 166 (w32 (127 * (w32 (x1 + 1)))) = 0 → Q 1 σ))) : Tri (d + 1) M_R_isEmpty [vA 161, vI x1] σ Q :=
  Tri_intro rfl (Nat.le_of_ble_eq_true rfl) (ls := [vA 161, vI x1]) rfl (fun hok => L_aload_n dR_isEmpty_0 rfl (L_getF (b := 166) fw_R_35 rfl rfl (by decide) dR_isEmpty_1 ⟨ob_161, L_bipush dR_isEmpty_4 bp_127 in_127 (L_iload_n dR_isEmpty_6 rfl (L_iconst dR_isEmpty_7 in_1 (L_iadd dR_isEmpty_8 (L_imul dR_isEmpty_9 (L_ialoadL kd_166 dR_isEmpty_10 ⟨(h (hok _ (List.mem_of_getElem? (i := 1) rfl))).1, L_if_ne dR_isEmpty_11 (by decide) ⟨fun c1 => L_iconst dR_isEmpty_18 in_0 (L_zreturn0 rfl dR_isEmpty_19 ((h (hok _ (List.mem_of_getElem? (i := 1) rfl))).2.1 c1)), fun c1 => L_iconst dR_isEmpty_14 in_1 (L_goto dR_isEmpty_15 (by decide) (L_zreturn1 rfl dR_isEmpty_19 ((h (hok _ (List.mem_of_getElem? (i := 1) rfl))).2.2 c1)))⟩⟩)))))⟩))
theorem dR_keep_0 : decode prog_14_method_87_code 0 = .ok (.aload_n 0, 1) := by decide +kernel
theorem dR_keep_1 : decode prog_14_method_87_code 1 = .ok (.iconst 0, 1) := by decide +kernel
theorem dR_keep_2 : decode prog_14_method_87_code 2 = .ok (.putfield 132, 3) := by decide +kernel
theorem dR_keep_5 : decode prog_14_method_87_code 5 = .ok (.aload_n 0, 1) := by decide +kernel
theorem dR_keep_6 : decode prog_14_method_87_code 6 = .ok (.iconst 0, 1) := by decide +kernel
theorem dR_keep_7 : decode prog_14_method_87_code 7 = .ok (.putfield 135, 3) := by decide +kernel
theorem dR_keep_10 : decode prog_14_method_87_code 10 = .ok (.iload_n 1, 1) := by decide +kernel
theorem dR_keep_11 : decode prog_14_method_87_code 11 = .ok (.invokestatic 384, 3) := by decide +kernel
theorem dR_keep_14 : decode prog_14_method_87_code 14 = .ok (.ifCond .ne 9, 3) := by decide +kernel
theorem dR_keep_17 : decode prog_14_method_87_code 17 = .ok (.aload_n 0, 1) := by decide +kernel
theorem dR_keep_18 : decode prog_14_method_87_code 18 = .ok (.iconst 2, 1) := by decide +kernel
theorem dR_keep_19 : decode prog_14_method_87_code 19 = .ok (.invokevirtual 147, 3) := by decide +kernel
theorem dR_keep_22 : decode prog_14_method_87_code 22 = .ok (.ireturn, 1) := by decide +kernel
theorem dR_keep_23 : decode prog_14_method_87_code 23 = .ok (.aload_n 0, 1) := by decide +kernel
theorem dR_keep_24 : decode prog_14_method_87_code 24 = .ok (.aload_n 0, 1) := by decide +kernel
theorem dR_keep_25 : decode prog_14_method_87_code 25 = .ok (.getfield 35, 3) := by decide +kernel
theorem dR_keep_28 : decode prog_14_method_87_code 28 = .ok (.iconst 0, 1) := by decide +kernel
theorem dR_keep_29 : decode prog_14_method_87_code 29 = .ok (.aload_n 0, 1) := by decide +kernel
theorem dR_keep_30 : decode prog_14_method_87_code 30 = .ok (.getfield 35, 3) := by decide +kernel
theorem dR_keep_33 : decode prog_14_method_87_code 33 = .ok (.bipush 127, 2) := by decide +kernel
theorem dR_keep_35 : decode prog_14_method_87_code 35 = .ok (.iload_n 1, 1) := by decide +kernel
theorem dR_keep_36 : decode prog_14_method_87_code 36 = .ok (.iconst 1, 1) := by decide +kernel
theorem dR_keep_37 : decode prog_14_method_87_code 37 = .ok (.iadd, 1) := by decide +kernel
theorem dR_keep_38 : decode prog_14_method_87_code 38 = .ok (.imul, 1) := by decide +kernel
theorem dR_keep_39 : decode prog_14_method_87_code 39 = .ok (.invokevirtual 316, 3) := by decide +kernel
theorem dR_keep_42 : decode prog_14_method_87_code 42 = .ok (.iconst 1, 1) := by decide +kernel
theorem dR_keep_43 : decode prog_14_method_87_code 43 = .ok (.ireturn, 1) := by decide +kernel
theorem t_R_keep {d : Nat} {x1 : Int} {σ : SG} {Q : Int → SG → Prop} (h : inI x1 → ((∀ σ1, σ1 = up σ 161 1 0 → (∀ σ2, σ2 = up σ1 161 0 0 → Tri d M_R_isShelf [vI x1] σ2 (fun r3 σ3 => (r3 ≠ 0 → Tri d M_R_move [vA 161, vA 166, vI 0, vA 166, vI (w32 (127 * (w32 (x1 + 1))))] σ3 (fun r5 σ5 => Q 1 σ5)) ∧ (r3 = 0 → Tri d M_R_no [vA 161, vI 2] σ3 (fun r6 σ6 => (r6 = 0 ∨ r6 = 1) ∧ Q r6 σ6))))))) : Tri (d + 1) M_R_keep [vA 161, vI x1] σ Q :=
  Tri_intro rfl (Nat.le_of_ble_eq_true rfl) (ls := [vA 161, vI x1]) rfl (fun hok => L_aload_n dR_keep_0 rfl (L_iconst dR_keep_1 in_0 (L_putfN fp_R_132 rfl rfl (fun _ => ⟨rfl, rfl⟩) dR_keep_2 ⟨ob_161, fun σ1 e1 => L_aload_n dR_keep_5 rfl (L_iconst dR_keep_6 in_0 (L_putfN fp_R_135 rfl rfl (fun _ => ⟨rfl, rfl⟩) dR_keep_7 ⟨ob_161, fun σ2 e2 => L_iload_n dR_keep_10 rfl (L_callSI rfl cs_R_isShelf (As := [vI x1]) rfl (tk8 198 rfl rfl) rfl (Nat.le_of_ble_eq_true rfl) dR_keep_11 (Tri.mono (((h (hok _ (List.mem_of_getElem? (i := 1) rfl))) σ1 e1) σ2 e2) (fun r3 σ3 q3 => L_if_ne dR_keep_14 (by decide) ⟨fun c4 => L_aload_n dR_keep_23 rfl (L_aload_n dR_keep_24 rfl (L_getF (b := 166) fw_R_35 rfl rfl (by decide) dR_keep_25 ⟨ob_161, L_iconst dR_keep_28 in_0 (L_aload_n dR_keep_29 rfl (L_getF (b := 166) fw_R_35 rfl rfl (by decide) dR_keep_30 ⟨ob_161, L_bipush dR_keep_33 bp_127 in_127 (L_iload_n dR_keep_35 rfl (L_iconst dR_keep_36 in_1 (L_iadd dR_keep_37 (L_imul dR_keep_38 (L_callVV rfl cv_R_move (As := [vA 166, vI 0, vA 166, vI (w32 (127 * (w32 (x1 + 1))))]) rfl (tk8 100 rfl rfl) rfl (Nat.le_of_ble_eq_true rfl) dR_keep_39 ⟨ob_161, Tri.mono (q3.1 c4) (fun r5 σ5 q5 => L_iconst dR_keep_42 in_1 (L_zreturn1 rfl dR_keep_43 q5))⟩)))))⟩))⟩)), fun c4 => L_aload_n dR_keep_17 rfl (L_iconst dR_keep_18 in_2 (L_callVI rfl cv_R_no (As := [vI 2]) rfl (tk7 188 rfl rfl) rfl (Nat.le_of_ble_eq_true rfl) dR_keep_19 ⟨ob_161, Tri.mono (q3.2 c4) (fun r6 σ6 q6 => L_zreturn rfl dR_keep_22 q6)⟩))⟩)))⟩))⟩)))
theorem dR_take_0 : decode prog_14_method_88_code 0 = .ok (.aload_n 0, 1) := by decide +kernel
theorem dR_take_1 : decode prog_14_method_88_code 1 = .ok (.iconst 0, 1) := by decide +kernel
theorem dR_take_2 : decode prog_14_method_88_code 2 = .ok (.putfield 132, 3) := by decide +kernel
theorem dR_take_5 : decode prog_14_method_88_code 5 = .ok (.aload_n 0, 1) := by decide +kernel
theorem dR_take_6 : decode prog_14_method_88_code 6 = .ok (.iconst 0, 1) := by decide +kernel
theorem dR_take_7 : decode prog_14_method_88_code 7 = .ok (.putfield 135, 3) := by decide +kernel
theorem dR_take_10 : decode prog_14_method_88_code 10 = .ok (.iload_n 1, 1) := by decide +kernel
theorem dR_take_11 : decode prog_14_method_88_code 11 = .ok (.invokestatic 384, 3) := by decide +kernel
theorem dR_take_14 : decode prog_14_method_88_code 14 = .ok (.ifCond .ne 9, 3) := by decide +kernel
theorem dR_take_17 : decode prog_14_method_88_code 17 = .ok (.aload_n 0, 1) := by decide +kernel
theorem dR_take_18 : decode prog_14_method_88_code 18 = .ok (.iconst 2, 1) := by decide +kernel
theorem dR_take_19 : decode prog_14_method_88_code 19 = .ok (.invokevirtual 147, 3) := by decide +kernel
theorem dR_take_22 : decode prog_14_method_88_code 22 = .ok (.ireturn, 1) := by decide +kernel
theorem dR_take_23 : decode prog_14_method_88_code 23 = .ok (.aload_n 0, 1) := by decide +kernel
theorem dR_take_24 : decode prog_14_method_88_code 24 = .ok (.iload_n 1, 1) := by decide +kernel
theorem dR_take_25 : decode prog_14_method_88_code 25 = .ok (.invokevirtual 387, 3) := by decide +kernel
theorem dR_take_28 : decode prog_14_method_88_code 28 = .ok (.ifCond .eq 10, 3) := by decide +kernel
theorem dR_take_31 : decode prog_14_method_88_code 31 = .ok (.aload_n 0, 1) := by decide +kernel
theorem dR_take_32 : decode prog_14_method_88_code 32 = .ok (.bipush 8, 2) := by decide +kernel
theorem dR_take_34 : decode prog_14_method_88_code 34 = .ok (.invokevirtual 147, 3) := by decide +kernel
theorem dR_take_37 : decode prog_14_method_88_code 37 = .ok (.ireturn, 1) := by decide +kernel
theorem dR_take_38 : decode prog_14_method_88_code 38 = .ok (.aload_n 0, 1) := by decide +kernel
theorem dR_take_39 : decode prog_14_method_88_code 39 = .ok (.aload_n 0, 1) := by decide +kernel
theorem dR_take_40 : decode prog_14_method_88_code 40 = .ok (.getfield 35, 3) := by decide +kernel
theorem dR_take_43 : decode prog_14_method_88_code 43 = .ok (.bipush 127, 2) := by decide +kernel
theorem dR_take_45 : decode prog_14_method_88_code 45 = .ok (.iload_n 1, 1) := by decide +kernel
theorem dR_take_46 : decode prog_14_method_88_code 46 = .ok (.iconst 1, 1) := by decide +kernel
theorem dR_take_47 : decode prog_14_method_88_code 47 = .ok (.iadd, 1) := by decide +kernel
theorem dR_take_48 : decode prog_14_method_88_code 48 = .ok (.imul, 1) := by decide +kernel
theorem dR_take_49 : decode prog_14_method_88_code 49 = .ok (.aload_n 0, 1) := by decide +kernel
theorem dR_take_50 : decode prog_14_method_88_code 50 = .ok (.getfield 35, 3) := by decide +kernel
theorem dR_take_53 : decode prog_14_method_88_code 53 = .ok (.iconst 0, 1) := by decide +kernel
theorem dR_take_54 : decode prog_14_method_88_code 54 = .ok (.invokevirtual 316, 3) := by decide +kernel
theorem dR_take_57 : decode prog_14_method_88_code 57 = .ok (.iconst 1, 1) := by decide +kernel
theorem dR_take_58 : decode prog_14_method_88_code 58 = .ok (.ireturn, 1) := by decide +kernel
theorem t_R_take {d : Nat} {x1 : Int} {σ : SG} {Q : Int → SG → Prop} (h : inI x1 → ((∀ σ1, σ1 = up σ 161 1 0 → (∀ σ2, σ2 = up σ1 161 0 0 → Tri d M_R_isShelf [vI x1] σ2 (fun r3 σ3 => (r3 ≠ 0 → Tri d M_R_isEmpty [vA 161, vI x1] σ3 (fun r5 σ5 => (r5 = 0 → Tri d M_R_move [vA 161, vA 166, vI (w32 (127 * (w32 (x1 + 1)))), vA 166, vI 0] σ5 (fun r7 σ7 => Q 1 σ7)) ∧ (r5 ≠ 0 → Tri d M_R_no [vA 161, vI 8] σ5 (fun r8 σ8 => (r8 = 0 ∨ r8 = 1) ∧ Q r8 σ8)))) ∧ (r3 = 0 → Tri d M_R_no [vA 161, vI 2] σ3 (fun r9 σ9 => (r9 = 0 ∨ r9 = 1) ∧ Q r9 σ9))))))) : Tri (d + 1) M_R_take [vA 161, vI x1] σ Q :=
  Tri_intro rfl (Nat.le_of_ble_eq_true rfl) (ls := [vA 161, vI x1]) rfl (fun hok => L_aload_n dR_take_0 rfl (L_iconst dR_take_1 in_0 (L_putfN fp_R_132 rfl rfl (fun _ => ⟨rfl, rfl⟩) dR_take_2 ⟨ob_161, fun σ1 e1 => L_aload_n dR_take_5 rfl (L_iconst dR_take_6 in_0 (L_putfN fp_R_135 rfl rfl (fun _ => ⟨rfl, rfl⟩) dR_take_7 ⟨ob_161, fun σ2 e2 => L_iload_n dR_take_10 rfl (L_callSI rfl cs_R_isShelf (As := [vI x1]) rfl (tk8 198 rfl rfl) rfl (Nat.le_of_ble_eq_true rfl) dR_take_11 (Tri.mono (((h (hok _ (List.mem_of_getElem? (i := 1) rfl))) σ1 e1) σ2 e2) (fun r3 σ3 q3 => L_if_ne dR_take_14 (by decide) ⟨fun c4 => L_aload_n dR_take_23 rfl (L_iload_n dR_take_24 rfl (L_callVI rfl cv_R_isEmpty (As := [vI x1]) rfl (tk8 205 rfl rfl) rfl (Nat.le_of_ble_eq_true rfl) dR_take_25 ⟨ob_161, Tri.mono (q3.1 c4) (fun r5 σ5 q5 => L_if_eq dR_take_28 (by decide) ⟨fun c6 => L_aload_n dR_take_38 rfl (L_aload_n dR_take_39 rfl (L_getF (b := 166) fw_R_35 rfl rfl (by decide) dR_take_40 ⟨ob_161, L_bipush dR_take_43 bp_127 in_127 (L_iload_n dR_take_45 rfl (L_iconst dR_take_46 in_1 (L_iadd dR_take_47 (L_imul dR_take_48 (L_aload_n dR_take_49 rfl (L_getF (b := 166) fw_R_35 rfl rfl (by decide) dR_take_50 ⟨ob_161, L_iconst dR_take_53 in_0 (L_callVV rfl cv_R_move (As := [vA 166, vI (w32 (127 * (w32 (x1 + 1)))), vA 166, vI 0]) rfl (tk8 100 rfl rfl) rfl (Nat.le_of_ble_eq_true rfl) dR_take_54 ⟨ob_161, Tri.mono (q5.1 c6) (fun r7 σ7 q7 => L_iconst dR_take_57 in_1 (L_zreturn1 rfl dR_take_58 q7))⟩)⟩))))))⟩)), fun c6 => L_aload_n dR_take_31 rfl (L_bipush dR_take_32 bp_8 in_8 (L_callVI rfl cv_R_no (As := [vI 8]) rfl (tk7 188 rfl rfl) rfl (Nat.le_of_ble_eq_true rfl) dR_take_34 ⟨ob_161, Tri.mono (q5.2 c6) (fun r8 σ8 q8 => L_zreturn rfl dR_take_37 q8)⟩))⟩)⟩)), fun c4 => L_aload_n dR_take_17 rfl (L_iconst dR_take_18 in_2 (L_callVI rfl cv_R_no (As := [vI 2]) rfl (tk7 188 rfl rfl) rfl (Nat.le_of_ble_eq_true rfl) dR_take_19 ⟨ob_161, Tri.mono (q3.2 c4) (fun r9 σ9 q9 => L_zreturn rfl dR_take_22 q9)⟩))⟩)))⟩))⟩)))
theorem dR_made_0 : decode prog_14_method_89_code 0 = .ok (.iconst 0, 1) := by decide +kernel
theorem dR_made_1 : decode prog_14_method_89_code 1 = .ok (.istore 4, 2) := by decide +kernel
theorem dR_made_3 : decode prog_14_method_89_code 3 = .ok (.iconst 0, 1) := by decide +kernel
theorem dR_made_4 : decode prog_14_method_89_code 4 = .ok (.istore 5, 2) := by decide +kernel
theorem dR_made_6 : decode prog_14_method_89_code 6 = .ok (.iload 5, 2) := by decide +kernel
theorem dR_made_8 : decode prog_14_method_89_code 8 = .ok (.iload_n 2, 1) := by decide +kernel
theorem dR_made_9 : decode prog_14_method_89_code 9 = .ok (.if_icmp .ge 43, 3) := by decide +kernel
theorem dR_made_12 : decode prog_14_method_89_code 12 = .ok (.aload_n 0, 1) := by decide +kernel
theorem dR_made_13 : decode prog_14_method_89_code 13 = .ok (.aload_n 0, 1) := by decide +kernel
theorem dR_made_14 : decode prog_14_method_89_code 14 = .ok (.iload_n 1, 1) := by decide +kernel
theorem dR_made_15 : decode prog_14_method_89_code 15 = .ok (.iload 5, 2) := by decide +kernel
theorem dR_made_17 : decode prog_14_method_89_code 17 = .ok (.invokevirtual 390, 3) := by decide +kernel
theorem dR_made_20 : decode prog_14_method_89_code 20 = .ok (.l2i, 1) := by decide +kernel
theorem dR_made_21 : decode prog_14_method_89_code 21 = .ok (.aload_n 0, 1) := by decide +kernel
theorem dR_made_22 : decode prog_14_method_89_code 22 = .ok (.getfield 62, 3) := by decide +kernel
theorem dR_made_25 : decode prog_14_method_89_code 25 = .ok (.iconst 0, 1) := by decide +kernel
theorem dR_made_26 : decode prog_14_method_89_code 26 = .ok (.invokevirtual 360, 3) := by decide +kernel
theorem dR_made_29 : decode prog_14_method_89_code 29 = .ok (.aload_n 0, 1) := by decide +kernel
theorem dR_made_30 : decode prog_14_method_89_code 30 = .ok (.aload_n 0, 1) := by decide +kernel
theorem dR_made_31 : decode prog_14_method_89_code 31 = .ok (.getfield 53, 3) := by decide +kernel
theorem dR_made_34 : decode prog_14_method_89_code 34 = .ok (.iload 4, 2) := by decide +kernel
theorem dR_made_36 : decode prog_14_method_89_code 36 = .ok (.aload_n 0, 1) := by decide +kernel
theorem dR_made_37 : decode prog_14_method_89_code 37 = .ok (.getfield 62, 3) := by decide +kernel
theorem dR_made_40 : decode prog_14_method_89_code 40 = .ok (.iconst 0, 1) := by decide +kernel
theorem dR_made_41 : decode prog_14_method_89_code 41 = .ok (.invokevirtual 344, 3) := by decide +kernel
theorem dR_made_44 : decode prog_14_method_89_code 44 = .ok (.istore 4, 2) := by decide +kernel
theorem dR_made_46 : decode prog_14_method_89_code 46 = .ok (.iinc 5 1, 3) := by decide +kernel
theorem dR_made_49 : decode prog_14_method_89_code 49 = .ok (.goto (-43), 3) := by decide +kernel
theorem dR_made_52 : decode prog_14_method_89_code 52 = .ok (.iconst (-1), 1) := by decide +kernel
theorem dR_made_53 : decode prog_14_method_89_code 53 = .ok (.istore 5, 2) := by decide +kernel
theorem dR_made_55 : decode prog_14_method_89_code 55 = .ok (.iload_n 3, 1) := by decide +kernel
theorem dR_made_56 : decode prog_14_method_89_code 56 = .ok (.ifCond .le 139, 3) := by decide +kernel
theorem dR_made_59 : decode prog_14_method_89_code 59 = .ok (.iload 5, 2) := by decide +kernel
theorem dR_made_61 : decode prog_14_method_89_code 61 = .ok (.iload 4, 2) := by decide +kernel
theorem dR_made_63 : decode prog_14_method_89_code 63 = .ok (.if_icmp .eq 132, 3) := by decide +kernel
theorem dR_made_66 : decode prog_14_method_89_code 66 = .ok (.iload 4, 2) := by decide +kernel
theorem dR_made_68 : decode prog_14_method_89_code 68 = .ok (.istore 5, 2) := by decide +kernel
theorem dR_made_70 : decode prog_14_method_89_code 70 = .ok (.aload_n 0, 1) := by decide +kernel
theorem dR_made_71 : decode prog_14_method_89_code 71 = .ok (.aload_n 0, 1) := by decide +kernel
theorem dR_made_72 : decode prog_14_method_89_code 72 = .ok (.getfield 53, 3) := by decide +kernel
theorem dR_made_75 : decode prog_14_method_89_code 75 = .ok (.aload_n 0, 1) := by decide +kernel
theorem dR_made_76 : decode prog_14_method_89_code 76 = .ok (.getfield 56, 3) := by decide +kernel
theorem dR_made_79 : decode prog_14_method_89_code 79 = .ok (.invokevirtual 394, 3) := by decide +kernel
theorem dR_made_82 : decode prog_14_method_89_code 82 = .ok (.iload_n 3, 1) := by decide +kernel
theorem dR_made_83 : decode prog_14_method_89_code 83 = .ok (.iconst 1, 1) := by decide +kernel
theorem dR_made_84 : decode prog_14_method_89_code 84 = .ok (.if_icmp .ne 8, 3) := by decide +kernel
theorem dR_made_87 : decode prog_14_method_89_code 87 = .ok (.iload 5, 2) := by decide +kernel
theorem dR_made_89 : decode prog_14_method_89_code 89 = .ok (.goto 11, 3) := by decide +kernel
theorem dR_made_92 : decode prog_14_method_89_code 92 = .ok (.aload_n 0, 1) := by decide +kernel
theorem dR_made_93 : decode prog_14_method_89_code 93 = .ok (.aload_n 0, 1) := by decide +kernel
theorem dR_made_94 : decode prog_14_method_89_code 94 = .ok (.getfield 59, 3) := by decide +kernel
theorem dR_made_97 : decode prog_14_method_89_code 97 = .ok (.invokevirtual 398, 3) := by decide +kernel
theorem dR_made_100 : decode prog_14_method_89_code 100 = .ok (.istore 6, 2) := by decide +kernel
theorem dR_made_102 : decode prog_14_method_89_code 102 = .ok (.iload_n 3, 1) := by decide +kernel
theorem dR_made_103 : decode prog_14_method_89_code 103 = .ok (.iconst 1, 1) := by decide +kernel
theorem dR_made_104 : decode prog_14_method_89_code 104 = .ok (.if_icmp .ne 15, 3) := by decide +kernel
theorem dR_made_107 : decode prog_14_method_89_code 107 = .ok (.aload_n 0, 1) := by decide +kernel
theorem dR_made_108 : decode prog_14_method_89_code 108 = .ok (.aload_n 0, 1) := by decide +kernel
theorem dR_made_109 : decode prog_14_method_89_code 109 = .ok (.getfield 53, 3) := by decide +kernel
theorem dR_made_112 : decode prog_14_method_89_code 112 = .ok (.aload_n 0, 1) := by decide +kernel
theorem dR_made_113 : decode prog_14_method_89_code 113 = .ok (.getfield 59, 3) := by decide +kernel
theorem dR_made_116 : decode prog_14_method_89_code 116 = .ok (.invokevirtual 394, 3) := by decide +kernel
theorem dR_made_119 : decode prog_14_method_89_code 119 = .ok (.iconst 0, 1) := by decide +kernel
theorem dR_made_120 : decode prog_14_method_89_code 120 = .ok (.istore 7, 2) := by decide +kernel
theorem dR_made_122 : decode prog_14_method_89_code 122 = .ok (.iload 7, 2) := by decide +kernel
theorem dR_made_124 : decode prog_14_method_89_code 124 = .ok (.iload 5, 2) := by decide +kernel
theorem dR_made_126 : decode prog_14_method_89_code 126 = .ok (.if_icmp .ge 66, 3) := by decide +kernel
theorem dR_made_129 : decode prog_14_method_89_code 129 = .ok (.iconst 0, 1) := by decide +kernel
theorem dR_made_130 : decode prog_14_method_89_code 130 = .ok (.istore 8, 2) := by decide +kernel
theorem dR_made_132 : decode prog_14_method_89_code 132 = .ok (.iload 8, 2) := by decide +kernel
theorem dR_made_134 : decode prog_14_method_89_code 134 = .ok (.iload 6, 2) := by decide +kernel
theorem dR_made_136 : decode prog_14_method_89_code 136 = .ok (.if_icmp .ge 50, 3) := by decide +kernel
theorem dR_made_139 : decode prog_14_method_89_code 139 = .ok (.aload_n 0, 1) := by decide +kernel
theorem dR_made_140 : decode prog_14_method_89_code 140 = .ok (.aload_n 0, 1) := by decide +kernel
theorem dR_made_141 : decode prog_14_method_89_code 141 = .ok (.getfield 56, 3) := by decide +kernel
theorem dR_made_144 : decode prog_14_method_89_code 144 = .ok (.iconst 5, 1) := by decide +kernel
theorem dR_made_145 : decode prog_14_method_89_code 145 = .ok (.iload 7, 2) := by decide +kernel
theorem dR_made_147 : decode prog_14_method_89_code 147 = .ok (.imul, 1) := by decide +kernel
theorem dR_made_148 : decode prog_14_method_89_code 148 = .ok (.aload_n 0, 1) := by decide +kernel
theorem dR_made_149 : decode prog_14_method_89_code 149 = .ok (.getfield 59, 3) := by decide +kernel
theorem dR_made_152 : decode prog_14_method_89_code 152 = .ok (.iconst 5, 1) := by decide +kernel
theorem dR_made_153 : decode prog_14_method_89_code 153 = .ok (.iload 8, 2) := by decide +kernel
theorem dR_made_155 : decode prog_14_method_89_code 155 = .ok (.imul, 1) := by decide +kernel
theorem dR_made_156 : decode prog_14_method_89_code 156 = .ok (.aload_n 0, 1) := by decide +kernel
theorem dR_made_157 : decode prog_14_method_89_code 157 = .ok (.getfield 71, 3) := by decide +kernel
theorem dR_made_160 : decode prog_14_method_89_code 160 = .ok (.invokevirtual 340, 3) := by decide +kernel
theorem dR_made_163 : decode prog_14_method_89_code 163 = .ok (.aload_n 0, 1) := by decide +kernel
theorem dR_made_164 : decode prog_14_method_89_code 164 = .ok (.aload_n 0, 1) := by decide +kernel
theorem dR_made_165 : decode prog_14_method_89_code 165 = .ok (.getfield 53, 3) := by decide +kernel
theorem dR_made_168 : decode prog_14_method_89_code 168 = .ok (.iload 4, 2) := by decide +kernel
theorem dR_made_170 : decode prog_14_method_89_code 170 = .ok (.aload_n 0, 1) := by decide +kernel
theorem dR_made_171 : decode prog_14_method_89_code 171 = .ok (.getfield 71, 3) := by decide +kernel
theorem dR_made_174 : decode prog_14_method_89_code 174 = .ok (.iconst 0, 1) := by decide +kernel
theorem dR_made_175 : decode prog_14_method_89_code 175 = .ok (.invokevirtual 344, 3) := by decide +kernel
theorem dR_made_178 : decode prog_14_method_89_code 178 = .ok (.istore 4, 2) := by decide +kernel
theorem dR_made_180 : decode prog_14_method_89_code 180 = .ok (.iinc 8 1, 3) := by decide +kernel
theorem dR_made_183 : decode prog_14_method_89_code 183 = .ok (.goto (-51), 3) := by decide +kernel
theorem dR_made_186 : decode prog_14_method_89_code 186 = .ok (.iinc 7 1, 3) := by decide +kernel
theorem dR_made_189 : decode prog_14_method_89_code 189 = .ok (.goto (-67), 3) := by decide +kernel
theorem dR_made_192 : decode prog_14_method_89_code 192 = .ok (.goto (-137), 3) := by decide +kernel
theorem dR_made_195 : decode prog_14_method_89_code 195 = .ok (.iload 4, 2) := by decide +kernel
theorem dR_made_197 : decode prog_14_method_89_code 197 = .ok (.ireturn, 1) := by decide +kernel
theorem t_R_made {d : Nat} {x1 x2 x3 : Int} {σ : SG} {Q : Int → SG → Prop} (h : inI x1 → inI x2 → inI x3 → (L (d + 1) M_R_made 6 [vA 161, vI x1, vI x2, vI x3, vI 0, vI 0, vU, vU, vU] [] σ Q)) : Tri (d + 1) M_R_made [vA 161, vI x1, vI x2, vI x3] σ Q :=
  Tri_intro rfl (Nat.le_of_ble_eq_true rfl) (ls := [vA 161, vI x1, vI x2, vI x3, vU, vU, vU, vU, vU]) rfl (fun hok => L_iconst dR_made_0 in_0 (L_istore dR_made_1 (by decide) (L_iconst dR_made_3 in_0 (L_istore dR_made_4 (by decide) ((h (hok _ (List.mem_of_getElem? (i := 1) rfl)) (hok _ (List.mem_of_getElem? (i := 2) rfl)) (hok _ (List.mem_of_getElem? (i := 3) rfl))))))))
theorem s_R_made_6 {d : Nat} {x1 x2 x3 x4 x5 : Int} {σ : SG} {Q : Int → SG → Prop} (h : (x2 ≤ x5 → L (d + 1) M_R_made 55 [vA 161, vU, vU, vI x3, vI x4, vI (-1), vU, vU, vU] [] σ Q) ∧ (x5 < x2 → Tri d M_R_numberOf [vA 161, vI x1, vI x5] σ (fun r2 σ2 => Tri d M_R_parts2 [vA 161, vI (w32 r2), vA 175, vI 0] σ2 (fun r3 σ3 => Tri d M_R_join [vA 161, vA 172, vI x4, vA 175, vI 0] σ3 (fun r4 σ4 => L (d + 1) M_R_made 6 [vA 161, vI x1, vI x2, vI x3, vI r4, vI (w32 (x5 + 1)), vU, vU, vU] [] σ4 Q))))) : L (d + 1) M_R_made 6 [vA 161, vI x1, vI x2, vI x3, vI x4, vI x5, vU, vU, vU] [] σ Q :=
  L_iload dR_made_6 rfl (L_iload_n dR_made_8 rfl (L_icmp_ge dR_made_9 (by decide) ⟨fun c1 => L_iconst dR_made_52 in_m1 (L_istore dR_made_53 (by decide) (L_weak [true, false, false, true, true, true, true, true, true] (h.1 c1))), fun c1 => L_aload_n dR_made_12 rfl (L_aload_n dR_made_13 rfl (L_iload_n dR_made_14 rfl (L_iload dR_made_15 rfl (L_callVJ rfl cv_R_numberOf (As := [vI x1, vI x5]) rfl (tk8 222 rfl rfl) rfl (Nat.le_of_ble_eq_true rfl) dR_made_17 ⟨ob_161, Tri.mono (h.2 c1) (fun r2 σ2 q2 => L_l2i dR_made_20 (L_aload_n dR_made_21 rfl (L_getF (b := 175) fw_R_62 rfl rfl (by decide) dR_made_22 ⟨ob_161, L_iconst dR_made_25 in_0 (L_callVV rfl cv_R_parts2 (As := [vI (w32 r2), vA 175, vI 0]) rfl (tk8 153 rfl rfl) rfl (Nat.le_of_ble_eq_true rfl) dR_made_26 ⟨ob_161, Tri.mono q2 (fun r3 σ3 q3 => L_aload_n dR_made_29 rfl (L_aload_n dR_made_30 rfl (L_getF (b := 172) fw_R_53 rfl rfl (by decide) dR_made_31 ⟨ob_161, L_iload dR_made_34 rfl (L_aload_n dR_made_36 rfl (L_getF (b := 175) fw_R_62 rfl rfl (by decide) dR_made_37 ⟨ob_161, L_iconst dR_made_40 in_0 (L_callVI rfl cv_R_join (As := [vA 172, vI x4, vA 175, vI 0]) rfl (tk8 230 rfl rfl) rfl (Nat.le_of_ble_eq_true rfl) dR_made_41 ⟨ob_161, Tri.mono q3 (fun r4 σ4 q4 => L_istore dR_made_44 (by decide) (L_iinc dR_made_46 rfl (by decide) (L_goto dR_made_49 (by decide) q4)))⟩)⟩))⟩)))⟩)⟩)))⟩))))⟩))
theorem s_R_made_55 {d : Nat} {x3 x4 x5 : Int} {σ : SG} {Q : Int → SG → Prop} (h : (x3 ≤ 0 → Q x4 σ) ∧ (0 < x3 → (x5 = x4 → Q x4 σ) ∧ (x5 ≠ x4 → Tri d M_R_copySpan [vA 161, vA 172, vA 173] σ (fun r3 σ3 => (x3 ≠ 1 → Tri d M_R_wholeSpan [vA 161, vA 174] σ3 (fun r5 σ5 => L (d + 1) M_R_made 100 [vA 161, vU, vU, vI x3, vI x4, vI x4, vU, vU, vU] [vI r5] σ5 Q)) ∧ (x3 = 1 → L (d + 1) M_R_made 100 [vA 161, vU, vU, vI x3, vI x4, vI x4, vU, vU, vU] [vI x4] σ3 Q))))) : L (d + 1) M_R_made 55 [vA 161, vU, vU, vI x3, vI x4, vI x5, vU, vU, vU] [] σ Q :=
  L_iload_n dR_made_55 rfl (L_if_le dR_made_56 (by decide) ⟨fun c1 => L_iload dR_made_195 rfl (L_ireturn rfl dR_made_197 (h.1 c1)), fun c1 => L_iload dR_made_59 rfl (L_iload dR_made_61 rfl (L_icmp_eq dR_made_63 (by decide) ⟨fun c2 => L_iload dR_made_195 rfl (L_ireturn rfl dR_made_197 ((h.2 c1).1 c2)), fun c2 => L_iload dR_made_66 rfl (L_istore dR_made_68 (by decide) (L_aload_n dR_made_70 rfl (L_aload_n dR_made_71 rfl (L_getF (b := 172) fw_R_53 rfl rfl (by decide) dR_made_72 ⟨ob_161, L_aload_n dR_made_75 rfl (L_getF (b := 173) fw_R_56 rfl rfl (by decide) dR_made_76 ⟨ob_161, L_callVV rfl cv_R_copySpan (As := [vA 172, vA 173]) rfl (tk9 2 rfl rfl) rfl (Nat.le_of_ble_eq_true rfl) dR_made_79 ⟨ob_161, Tri.mono ((h.2 c1).2 c2) (fun r3 σ3 q3 => L_iload_n dR_made_82 rfl (L_iconst dR_made_83 in_1 (L_icmp_ne dR_made_84 (by decide) ⟨fun c4 => L_aload_n dR_made_92 rfl (L_aload_n dR_made_93 rfl (L_getF (b := 174) fw_R_59 rfl rfl (by decide) dR_made_94 ⟨ob_161, L_callVI rfl cv_R_wholeSpan (As := [vA 174]) rfl (tk9 6 rfl rfl) rfl (Nat.le_of_ble_eq_true rfl) dR_made_97 ⟨ob_161, Tri.mono (q3.1 c4) (fun r5 σ5 q5 => q5)⟩⟩)), fun c4 => L_iload dR_made_87 rfl (L_goto dR_made_89 (by decide) (q3.2 c4))⟩)))⟩⟩)⟩))))⟩))⟩)
theorem s_R_made_100 {d : Nat} {x3 x4 x5 y0 : Int} {σ : SG} {Q : Int → SG → Prop} (h : (x3 ≠ 1 → L (d + 1) M_R_made 122 [vA 161, vU, vU, vI x3, vI x4, vI x5, vI y0, vI 0, vU] [] σ Q) ∧ (x3 = 1 → Tri d M_R_copySpan [vA 161, vA 172, vA 174] σ (fun r2 σ2 => L (d + 1) M_R_made 122 [vA 161, vU, vU, vI x3, vI x4, vI x5, vI y0, vI 0, vU] [] σ2 Q))) : L (d + 1) M_R_made 100 [vA 161, vU, vU, vI x3, vI x4, vI x5, vU, vU, vU] [vI y0] σ Q :=
  L_istore dR_made_100 (by decide) (L_iload_n dR_made_102 rfl (L_iconst dR_made_103 in_1 (L_icmp_ne dR_made_104 (by decide) ⟨fun c1 => L_iconst dR_made_119 in_0 (L_istore dR_made_120 (by decide) (h.1 c1)), fun c1 => L_aload_n dR_made_107 rfl (L_aload_n dR_made_108 rfl (L_getF (b := 172) fw_R_53 rfl rfl (by decide) dR_made_109 ⟨ob_161, L_aload_n dR_made_112 rfl (L_getF (b := 174) fw_R_59 rfl rfl (by decide) dR_made_113 ⟨ob_161, L_callVV rfl cv_R_copySpan (As := [vA 172, vA 174]) rfl (tk9 2 rfl rfl) rfl (Nat.le_of_ble_eq_true rfl) dR_made_116 ⟨ob_161, Tri.mono (h.2 c1) (fun r2 σ2 q2 => L_iconst dR_made_119 in_0 (L_istore dR_made_120 (by decide) q2))⟩⟩)⟩))⟩)))
theorem s_R_made_122 {d : Nat} {x3 x4 x5 x6 x7 : Int} {σ : SG} {Q : Int → SG → Prop} (h : (x5 ≤ x7 → L (d + 1) M_R_made 55 [vA 161, vU, vU, vI x3, vI x4, vI x5, vU, vU, vU] [] σ Q) ∧ (x7 < x5 → L (d + 1) M_R_made 132 [vA 161, vU, vU, vI x3, vI x4, vI x5, vI x6, vI x7, vI 0] [] σ Q)) : L (d + 1) M_R_made 122 [vA 161, vU, vU, vI x3, vI x4, vI x5, vI x6, vI x7, vU] [] σ Q :=
  L_iload dR_made_122 rfl (L_iload dR_made_124 rfl (L_icmp_ge dR_made_126 (by decide) ⟨fun c1 => L_goto dR_made_192 (by decide) (L_weak [true, true, true, true, true, true, false, false, true] (h.1 c1)), fun c1 => L_iconst dR_made_129 in_0 (L_istore dR_made_130 (by decide) (h.2 c1))⟩))
theorem s_R_made_132 {d : Nat} {x3 x4 x5 x6 x7 x8 : Int} {σ : SG} {Q : Int → SG → Prop} (h : (x6 ≤ x8 → L (d + 1) M_R_made 122 [vA 161, vU, vU, vI x3, vI x4, vI x5, vI x6, vI (w32 (x7 + 1)), vU] [] σ Q) ∧ (x8 < x6 → Tri d M_R_bracketOf [vA 161, vA 173, vI (w32 (5 * x7)), vA 174, vI (w32 (5 * x8)), vA 178] σ (fun r2 σ2 => Tri d M_R_join [vA 161, vA 172, vI x4, vA 178, vI 0] σ2 (fun r3 σ3 => L (d + 1) M_R_made 132 [vA 161, vU, vU, vI x3, vI r3, vI x5, vI x6, vI x7, vI (w32 (x8 + 1))] [] σ3 Q)))) : L (d + 1) M_R_made 132 [vA 161, vU, vU, vI x3, vI x4, vI x5, vI x6, vI x7, vI x8] [] σ Q :=
  L_iload dR_made_132 rfl (L_iload dR_made_134 rfl (L_icmp_ge dR_made_136 (by decide) ⟨fun c1 => L_iinc dR_made_186 rfl (by decide) (L_goto dR_made_189 (by decide) (L_weak [true, true, true, true, true, true, true, true, false] (h.1 c1))), fun c1 => L_aload_n dR_made_139 rfl (L_aload_n dR_made_140 rfl (L_getF (b := 173) fw_R_56 rfl rfl (by decide) dR_made_141 ⟨ob_161, L_iconst dR_made_144 in_5 (L_iload dR_made_145 rfl (L_imul dR_made_147 (L_aload_n dR_made_148 rfl (L_getF (b := 174) fw_R_59 rfl rfl (by decide) dR_made_149 ⟨ob_161, L_iconst dR_made_152 in_5 (L_iload dR_made_153 rfl (L_imul dR_made_155 (L_aload_n dR_made_156 rfl (L_getF (b := 178) fw_R_71 rfl rfl (by decide) dR_made_157 ⟨ob_161, L_callVV rfl cv_R_bracketOf (As := [vA 173, vI (w32 (5 * x7)), vA 174, vI (w32 (5 * x8)), vA 178]) rfl (tk8 157 rfl rfl) rfl (Nat.le_of_ble_eq_true rfl) dR_made_160 ⟨ob_161, Tri.mono (h.2 c1) (fun r2 σ2 q2 => L_aload_n dR_made_163 rfl (L_aload_n dR_made_164 rfl (L_getF (b := 172) fw_R_53 rfl rfl (by decide) dR_made_165 ⟨ob_161, L_iload dR_made_168 rfl (L_aload_n dR_made_170 rfl (L_getF (b := 178) fw_R_71 rfl rfl (by decide) dR_made_171 ⟨ob_161, L_iconst dR_made_174 in_0 (L_callVI rfl cv_R_join (As := [vA 172, vI x4, vA 178, vI 0]) rfl (tk8 230 rfl rfl) rfl (Nat.le_of_ble_eq_true rfl) dR_made_175 ⟨ob_161, Tri.mono q2 (fun r3 σ3 q3 => L_istore dR_made_178 (by decide) (L_iinc dR_made_180 rfl (by decide) (L_goto dR_made_183 (by decide) q3)))⟩)⟩))⟩)))⟩⟩))))⟩))))⟩))⟩))
theorem dR_wrongVectors_0 : decode prog_14_method_90_code 0 = .ok (.aload_n 0, 1) := by decide +kernel
theorem dR_wrongVectors_1 : decode prog_14_method_90_code 1 = .ok (.getfield 17, 3) := by decide +kernel
theorem dR_wrongVectors_4 : decode prog_14_method_90_code 4 = .ok (.iload_n 1, 1) := by decide +kernel
theorem dR_wrongVectors_5 : decode prog_14_method_90_code 5 = .ok (.iaload, 1) := by decide +kernel
theorem dR_wrongVectors_6 : decode prog_14_method_90_code 6 = .ok (.iload_n 2, 1) := by decide +kernel
theorem dR_wrongVectors_7 : decode prog_14_method_90_code 7 = .ok (.if_icmp .ge 5, 3) := by decide +kernel
theorem dR_wrongVectors_10 : decode prog_14_method_90_code 10 = .ok (.iconst 4, 1) := by decide +kernel
theorem dR_wrongVectors_11 : decode prog_14_method_90_code 11 = .ok (.ireturn, 1) := by decide +kernel
theorem dR_wrongVectors_12 : decode prog_14_method_90_code 12 = .ok (.iconst 0, 1) := by decide +kernel
theorem dR_wrongVectors_13 : decode prog_14_method_90_code 13 = .ok (.istore_n 3, 1) := by decide +kernel
theorem dR_wrongVectors_14 : decode prog_14_method_90_code 14 = .ok (.iload_n 3, 1) := by decide +kernel
theorem dR_wrongVectors_15 : decode prog_14_method_90_code 15 = .ok (.iload_n 2, 1) := by decide +kernel
theorem dR_wrongVectors_16 : decode prog_14_method_90_code 16 = .ok (.if_icmp .ge 24, 3) := by decide +kernel
theorem dR_wrongVectors_19 : decode prog_14_method_90_code 19 = .ok (.aload_n 0, 1) := by decide +kernel
theorem dR_wrongVectors_20 : decode prog_14_method_90_code 20 = .ok (.aload_n 0, 1) := by decide +kernel
theorem dR_wrongVectors_21 : decode prog_14_method_90_code 21 = .ok (.iload_n 1, 1) := by decide +kernel
theorem dR_wrongVectors_22 : decode prog_14_method_90_code 22 = .ok (.iload_n 3, 1) := by decide +kernel
theorem dR_wrongVectors_23 : decode prog_14_method_90_code 23 = .ok (.invokevirtual 390, 3) := by decide +kernel
theorem dR_wrongVectors_26 : decode prog_14_method_90_code 26 = .ok (.invokevirtual 357, 3) := by decide +kernel
theorem dR_wrongVectors_29 : decode prog_14_method_90_code 29 = .ok (.ifCond .ne 5, 3) := by decide +kernel
theorem dR_wrongVectors_32 : decode prog_14_method_90_code 32 = .ok (.iconst 5, 1) := by decide +kernel
theorem dR_wrongVectors_33 : decode prog_14_method_90_code 33 = .ok (.ireturn, 1) := by decide +kernel
theorem dR_wrongVectors_34 : decode prog_14_method_90_code 34 = .ok (.iinc 3 1, 3) := by decide +kernel
theorem dR_wrongVectors_37 : decode prog_14_method_90_code 37 = .ok (.goto (-23), 3) := by decide +kernel
theorem dR_wrongVectors_40 : decode prog_14_method_90_code 40 = .ok (.iconst 0, 1) := by decide +kernel
theorem dR_wrongVectors_41 : decode prog_14_method_90_code 41 = .ok (.ireturn, 1) := by decide +kernel
theorem t_R_wrongVectors {d : Nat} {x1 x2 : Int} {σ : SG} {Q : Int → SG → Prop} (h : inI x1 → inI x2 → ((0 ≤ x1 ∧ x1 < 4) ∧ (x2 ≤ σ 163 x1 → L (d + 1) M_R_wrongVectors 14 [vA 161, vI x1, vI x2, vI 0] [] σ Q) ∧ (σ 163 x1 < x2 → Q 4 σ))) : Tri (d + 1) M_R_wrongVectors [vA 161, vI x1, vI x2] σ Q :=
  Tri_intro rfl (Nat.le_of_ble_eq_true rfl) (ls := [vA 161, vI x1, vI x2, vU]) rfl (fun hok => L_aload_n dR_wrongVectors_0 rfl (L_getF (b := 163) fw_R_17 rfl rfl (by decide) dR_wrongVectors_1 ⟨ob_161, L_iload_n dR_wrongVectors_4 rfl (L_ialoadL kd_163 dR_wrongVectors_5 ⟨(h (hok _ (List.mem_of_getElem? (i := 1) rfl)) (hok _ (List.mem_of_getElem? (i := 2) rfl))).1, L_iload_n dR_wrongVectors_6 rfl (L_icmp_ge dR_wrongVectors_7 (by decide) ⟨fun c1 => L_iconst dR_wrongVectors_12 in_0 (L_istore_n dR_wrongVectors_13 (by decide) ((h (hok _ (List.mem_of_getElem? (i := 1) rfl)) (hok _ (List.mem_of_getElem? (i := 2) rfl))).2.1 c1)), fun c1 => L_iconst dR_wrongVectors_10 in_4 (L_ireturn rfl dR_wrongVectors_11 ((h (hok _ (List.mem_of_getElem? (i := 1) rfl)) (hok _ (List.mem_of_getElem? (i := 2) rfl))).2.2 c1))⟩)⟩)⟩))
theorem s_R_wrongVectors_14 {d : Nat} {x1 x2 x3 : Int} {σ : SG} {Q : Int → SG → Prop} (h : (x2 ≤ x3 → Q 0 σ) ∧ (x3 < x2 → Tri d M_R_numberOf [vA 161, vI x1, vI x3] σ (fun r2 σ2 => Tri d M_R_isVector [vA 161, vJ r2] σ2 (fun r3 σ3 => (r3 ≠ 0 → L (d + 1) M_R_wrongVectors 14 [vA 161, vI x1, vI x2, vI (w32 (x3 + 1))] [] σ3 Q) ∧ (r3 = 0 → Q 5 σ3))))) : L (d + 1) M_R_wrongVectors 14 [vA 161, vI x1, vI x2, vI x3] [] σ Q :=
  L_iload_n dR_wrongVectors_14 rfl (L_iload_n dR_wrongVectors_15 rfl (L_icmp_ge dR_wrongVectors_16 (by decide) ⟨fun c1 => L_iconst dR_wrongVectors_40 in_0 (L_ireturn rfl dR_wrongVectors_41 (h.1 c1)), fun c1 => L_aload_n dR_wrongVectors_19 rfl (L_aload_n dR_wrongVectors_20 rfl (L_iload_n dR_wrongVectors_21 rfl (L_iload_n dR_wrongVectors_22 rfl (L_callVJ rfl cv_R_numberOf (As := [vI x1, vI x3]) rfl (tk8 222 rfl rfl) rfl (Nat.le_of_ble_eq_true rfl) dR_wrongVectors_23 ⟨ob_161, Tri.mono (h.2 c1) (fun r2 σ2 q2 => L_callVI rfl cv_R_isVector (As := [vJ r2]) rfl (tk8 141 rfl rfl) rfl (Nat.le_of_ble_eq_true rfl) dR_wrongVectors_26 ⟨ob_161, Tri.mono q2 (fun r3 σ3 q3 => L_if_ne dR_wrongVectors_29 (by decide) ⟨fun c4 => L_iinc dR_wrongVectors_34 rfl (by decide) (L_goto dR_wrongVectors_37 (by decide) (q3.1 c4)), fun c4 => L_iconst dR_wrongVectors_32 in_5 (L_ireturn rfl dR_wrongVectors_33 (q3.2 c4))⟩)⟩)⟩))))⟩))
theorem dR_span_0 : decode prog_14_method_91_code 0 = .ok (.aload_n 0, 1) := by decide +kernel
theorem dR_span_1 : decode prog_14_method_91_code 1 = .ok (.iconst 0, 1) := by decide +kernel
theorem dR_span_2 : decode prog_14_method_91_code 2 = .ok (.putfield 132, 3) := by decide +kernel
theorem dR_span_5 : decode prog_14_method_91_code 5 = .ok (.aload_n 0, 1) := by decide +kernel
theorem dR_span_6 : decode prog_14_method_91_code 6 = .ok (.iconst 0, 1) := by decide +kernel
theorem dR_span_7 : decode prog_14_method_91_code 7 = .ok (.putfield 135, 3) := by decide +kernel
theorem dR_span_10 : decode prog_14_method_91_code 10 = .ok (.aload_n 0, 1) := by decide +kernel
theorem dR_span_11 : decode prog_14_method_91_code 11 = .ok (.invokevirtual 348, 3) := by decide +kernel
theorem dR_span_14 : decode prog_14_method_91_code 14 = .ok (.aload_n 0, 1) := by decide +kernel
theorem dR_span_15 : decode prog_14_method_91_code 15 = .ok (.iload_n 1, 1) := by decide +kernel
theorem dR_span_16 : decode prog_14_method_91_code 16 = .ok (.invokevirtual 402, 3) := by decide +kernel
theorem dR_span_19 : decode prog_14_method_91_code 19 = .ok (.ifCond .ne 9, 3) := by decide +kernel
theorem dR_span_22 : decode prog_14_method_91_code 22 = .ok (.aload_n 0, 1) := by decide +kernel
theorem dR_span_23 : decode prog_14_method_91_code 23 = .ok (.iconst 1, 1) := by decide +kernel
theorem dR_span_24 : decode prog_14_method_91_code 24 = .ok (.invokevirtual 351, 3) := by decide +kernel
theorem dR_span_27 : decode prog_14_method_91_code 27 = .ok (.ireturn, 1) := by decide +kernel
theorem dR_span_28 : decode prog_14_method_91_code 28 = .ok (.aload_n 0, 1) := by decide +kernel
theorem dR_span_29 : decode prog_14_method_91_code 29 = .ok (.getfield 17, 3) := by decide +kernel
theorem dR_span_32 : decode prog_14_method_91_code 32 = .ok (.iload_n 1, 1) := by decide +kernel
theorem dR_span_33 : decode prog_14_method_91_code 33 = .ok (.iaload, 1) := by decide +kernel
theorem dR_span_34 : decode prog_14_method_91_code 34 = .ok (.ifCond .ge 9, 3) := by decide +kernel
theorem dR_span_37 : decode prog_14_method_91_code 37 = .ok (.aload_n 0, 1) := by decide +kernel
theorem dR_span_38 : decode prog_14_method_91_code 38 = .ok (.iconst 3, 1) := by decide +kernel
theorem dR_span_39 : decode prog_14_method_91_code 39 = .ok (.invokevirtual 351, 3) := by decide +kernel
theorem dR_span_42 : decode prog_14_method_91_code 42 = .ok (.ireturn, 1) := by decide +kernel
theorem dR_span_43 : decode prog_14_method_91_code 43 = .ok (.iload_n 2, 1) := by decide +kernel
theorem dR_span_44 : decode prog_14_method_91_code 44 = .ok (.i2l, 1) := by decide +kernel
theorem dR_span_45 : decode prog_14_method_91_code 45 = .ok (.lconst 0, 1) := by decide +kernel
theorem dR_span_46 : decode prog_14_method_91_code 46 = .ok (.ldc2_w 405, 3) := by decide +kernel
theorem dR_span_49 : decode prog_14_method_91_code 49 = .ok (.invokestatic 167, 3) := by decide +kernel
theorem dR_span_52 : decode prog_14_method_91_code 52 = .ok (.ifCond .eq 15, 3) := by decide +kernel
theorem dR_span_55 : decode prog_14_method_91_code 55 = .ok (.iload_n 3, 1) := by decide +kernel
theorem dR_span_56 : decode prog_14_method_91_code 56 = .ok (.i2l, 1) := by decide +kernel
theorem dR_span_57 : decode prog_14_method_91_code 57 = .ok (.lconst 0, 1) := by decide +kernel
theorem dR_span_58 : decode prog_14_method_91_code 58 = .ok (.ldc2_w 382, 3) := by decide +kernel
theorem dR_span_61 : decode prog_14_method_91_code 61 = .ok (.invokestatic 167, 3) := by decide +kernel
theorem dR_span_64 : decode prog_14_method_91_code 64 = .ok (.ifCond .ne 9, 3) := by decide +kernel
theorem dR_span_67 : decode prog_14_method_91_code 67 = .ok (.aload_n 0, 1) := by decide +kernel
theorem dR_span_68 : decode prog_14_method_91_code 68 = .ok (.iconst 5, 1) := by decide +kernel
theorem dR_span_69 : decode prog_14_method_91_code 69 = .ok (.invokevirtual 351, 3) := by decide +kernel
theorem dR_span_72 : decode prog_14_method_91_code 72 = .ok (.ireturn, 1) := by decide +kernel
theorem dR_span_73 : decode prog_14_method_91_code 73 = .ok (.aload_n 0, 1) := by decide +kernel
theorem dR_span_74 : decode prog_14_method_91_code 74 = .ok (.iload_n 1, 1) := by decide +kernel
theorem dR_span_75 : decode prog_14_method_91_code 75 = .ok (.iload_n 2, 1) := by decide +kernel
theorem dR_span_76 : decode prog_14_method_91_code 76 = .ok (.invokevirtual 407, 3) := by decide +kernel
theorem dR_span_79 : decode prog_14_method_91_code 79 = .ok (.istore 4, 2) := by decide +kernel
theorem dR_span_81 : decode prog_14_method_91_code 81 = .ok (.iload 4, 2) := by decide +kernel
theorem dR_span_83 : decode prog_14_method_91_code 83 = .ok (.ifCond .le 12, 3) := by decide +kernel
theorem dR_span_86 : decode prog_14_method_91_code 86 = .ok (.aload_n 0, 1) := by decide +kernel
theorem dR_span_87 : decode prog_14_method_91_code 87 = .ok (.iload 4, 2) := by decide +kernel
theorem dR_span_89 : decode prog_14_method_91_code 89 = .ok (.invokevirtual 351, 3) := by decide +kernel
theorem dR_span_92 : decode prog_14_method_91_code 92 = .ok (.goto 10, 3) := by decide +kernel
theorem dR_span_95 : decode prog_14_method_91_code 95 = .ok (.aload_n 0, 1) := by decide +kernel
theorem dR_span_96 : decode prog_14_method_91_code 96 = .ok (.iload_n 1, 1) := by decide +kernel
theorem dR_span_97 : decode prog_14_method_91_code 97 = .ok (.iload_n 2, 1) := by decide +kernel
theorem dR_span_98 : decode prog_14_method_91_code 98 = .ok (.iload_n 3, 1) := by decide +kernel
theorem dR_span_99 : decode prog_14_method_91_code 99 = .ok (.invokevirtual 410, 3) := by decide +kernel
theorem dR_span_102 : decode prog_14_method_91_code 102 = .ok (.ireturn, 1) := by decide +kernel
theorem t_R_span {d : Nat} {x1 x2 x3 : Int} {σ : SG} {Q : Int → SG → Prop} (h : inI x1 → inI x2 → inI x3 → ((∀ σ1, σ1 = up σ 161 1 0 → (∀ σ2, σ2 = up σ1 161 0 0 → Tri d M_R_askNow [vA 161] σ2 (fun r3 σ3 => Tri d M_R_isTray [vA 161, vI x1] σ3 (fun r4 σ4 => (r4 ≠ 0 → (0 ≤ x1 ∧ x1 < 4) ∧ (0 ≤ σ4 163 x1 → Tri d M_R_isIn [vJ x2, vJ 0, vJ 20] σ4 (fun r7 σ7 => (r7 = 0 → Tri d M_R_refuse [vA 161, vI 5] σ7 (fun r9 σ9 => Q r9 σ9)) ∧ (r7 ≠ 0 → Tri d M_R_isIn [vJ x3, vJ 0, vJ 2] σ7 (fun r10 σ10 => (r10 ≠ 0 → Tri d M_R_wrongVectors [vA 161, vI x1, vI x2] σ10 (fun r12 σ12 => (r12 ≤ 0 → Tri d M_R_made [vA 161, vI x1, vI x2, vI x3] σ12 (fun r14 σ14 => Q r14 σ14)) ∧ (0 < r12 → Tri d M_R_refuse [vA 161, vI r12] σ12 (fun r15 σ15 => Q r15 σ15)))) ∧ (r10 = 0 → Tri d M_R_refuse [vA 161, vI 5] σ10 (fun r16 σ16 => Q r16 σ16)))))) ∧ (σ4 163 x1 < 0 → Tri d M_R_refuse [vA 161, vI 3] σ4 (fun r17 σ17 => Q r17 σ17))) ∧ (r4 = 0 → Tri d M_R_refuse [vA 161, vI 1] σ4 (fun r18 σ18 => Q r18 σ18)))))))) : Tri (d + 1) M_R_span [vA 161, vI x1, vI x2, vI x3] σ Q :=
  Tri_intro rfl (Nat.le_of_ble_eq_true rfl) (ls := [vA 161, vI x1, vI x2, vI x3, vU]) rfl (fun hok => L_aload_n dR_span_0 rfl (L_iconst dR_span_1 in_0 (L_putfN fp_R_132 rfl rfl (fun _ => ⟨rfl, rfl⟩) dR_span_2 ⟨ob_161, fun σ1 e1 => L_aload_n dR_span_5 rfl (L_iconst dR_span_6 in_0 (L_putfN fp_R_135 rfl rfl (fun _ => ⟨rfl, rfl⟩) dR_span_7 ⟨ob_161, fun σ2 e2 => L_aload_n dR_span_10 rfl (L_callVV rfl cv_R_askNow (As := []) rfl (tk8 108 rfl rfl) rfl (Nat.le_of_ble_eq_true rfl) dR_span_11 ⟨ob_161, Tri.mono (((h (hok _ (List.mem_of_getElem? (i := 1) rfl)) (hok _ (List.mem_of_getElem? (i := 2) rfl)) (hok _ (List.mem_of_getElem? (i := 3) rfl))) σ1 e1) σ2 e2) (fun r3 σ3 q3 => L_aload_n dR_span_14 rfl (L_iload_n dR_span_15 rfl (L_callVI rfl cv_R_isTray (As := [vI x1]) rfl (tk8 213 rfl rfl) rfl (Nat.le_of_ble_eq_true rfl) dR_span_16 ⟨ob_161, Tri.mono q3 (fun r4 σ4 q4 => L_if_ne dR_span_19 (by decide) ⟨fun c5 => L_aload_n dR_span_28 rfl (L_getF (b := 163) fw_R_17 rfl rfl (by decide) dR_span_29 ⟨ob_161, L_iload_n dR_span_32 rfl (L_ialoadL kd_163 dR_span_33 ⟨(q4.1 c5).1, L_if_ge dR_span_34 (by decide) ⟨fun c6 => L_iload_n dR_span_43 rfl (L_i2l dR_span_44 (L_lconst (x := 0) dR_span_45 rfl inJ_0 (L_ldc2 (x := 20) (tk8 217 rfl rfl) rfl inJ_20 dR_span_46 (L_callSI rfl cs_R_isIn (As := [vJ x2, vJ 0, vJ 20]) rfl (tk8 47 rfl rfl) rfl (Nat.le_of_ble_eq_true rfl) dR_span_49 (Tri.mono ((q4.1 c5).2.1 c6) (fun r7 σ7 q7 => L_if_eq dR_span_52 (by decide) ⟨fun c8 => L_aload_n dR_span_67 rfl (L_iconst dR_span_68 in_5 (L_callVI rfl cv_R_refuse (As := [vI 5]) rfl (tk8 117 rfl rfl) rfl (Nat.le_of_ble_eq_true rfl) dR_span_69 ⟨ob_161, Tri.mono (q7.1 c8) (fun r9 σ9 q9 => L_ireturn rfl dR_span_72 q9)⟩)), fun c8 => L_iload_n dR_span_55 rfl (L_i2l dR_span_56 (L_lconst (x := 0) dR_span_57 rfl inJ_0 (L_ldc2 (x := 2) (tk8 193 rfl rfl) rfl inJ_2 dR_span_58 (L_callSI rfl cs_R_isIn (As := [vJ x3, vJ 0, vJ 2]) rfl (tk8 47 rfl rfl) rfl (Nat.le_of_ble_eq_true rfl) dR_span_61 (Tri.mono (q7.2 c8) (fun r10 σ10 q10 => L_if_ne dR_span_64 (by decide) ⟨fun c11 => L_aload_n dR_span_73 rfl (L_iload_n dR_span_74 rfl (L_iload_n dR_span_75 rfl (L_callVI rfl cv_R_wrongVectors (As := [vI x1, vI x2]) rfl (tk8 218 rfl rfl) rfl (Nat.le_of_ble_eq_true rfl) dR_span_76 ⟨ob_161, Tri.mono (q10.1 c11) (fun r12 σ12 q12 => L_istore dR_span_79 (by decide) (L_iload dR_span_81 rfl (L_if_le dR_span_83 (by decide) ⟨fun c13 => L_aload_n dR_span_95 rfl (L_iload_n dR_span_96 rfl (L_iload_n dR_span_97 rfl (L_iload_n dR_span_98 rfl (L_callVI rfl cv_R_made (As := [vI x1, vI x2, vI x3]) rfl (tk8 226 rfl rfl) rfl (Nat.le_of_ble_eq_true rfl) dR_span_99 ⟨ob_161, Tri.mono (q12.1 c13) (fun r14 σ14 q14 => L_ireturn rfl dR_span_102 q14)⟩)))), fun c13 => L_aload_n dR_span_86 rfl (L_iload dR_span_87 rfl (L_callVI rfl cv_R_refuse (As := [vI r12]) rfl (tk8 117 rfl rfl) rfl (Nat.le_of_ble_eq_true rfl) dR_span_89 ⟨ob_161, Tri.mono (q12.2 c13) (fun r15 σ15 q15 => L_goto dR_span_92 (by decide) (L_ireturn rfl dR_span_102 q15))⟩))⟩)))⟩))), fun c11 => L_aload_n dR_span_67 rfl (L_iconst dR_span_68 in_5 (L_callVI rfl cv_R_refuse (As := [vI 5]) rfl (tk8 117 rfl rfl) rfl (Nat.le_of_ble_eq_true rfl) dR_span_69 ⟨ob_161, Tri.mono (q10.2 c11) (fun r16 σ16 q16 => L_ireturn rfl dR_span_72 q16)⟩))⟩))))))⟩)))))), fun c6 => L_aload_n dR_span_37 rfl (L_iconst dR_span_38 in_3 (L_callVI rfl cv_R_refuse (As := [vI 3]) rfl (tk8 117 rfl rfl) rfl (Nat.le_of_ble_eq_true rfl) dR_span_39 ⟨ob_161, Tri.mono ((q4.1 c5).2.2 c6) (fun r17 σ17 q17 => L_ireturn rfl dR_span_42 q17)⟩))⟩⟩)⟩), fun c5 => L_aload_n dR_span_22 rfl (L_iconst dR_span_23 in_1 (L_callVI rfl cv_R_refuse (As := [vI 1]) rfl (tk8 117 rfl rfl) rfl (Nat.le_of_ble_eq_true rfl) dR_span_24 ⟨ob_161, Tri.mono (q4.2 c5) (fun r18 σ18 q18 => L_ireturn rfl dR_span_27 q18)⟩))⟩)⟩)))⟩)⟩))⟩)))
theorem dR_seriesOf_0 : decode prog_14_method_92_code 0 = .ok (.aload_n 0, 1) := by decide +kernel
theorem dR_seriesOf_1 : decode prog_14_method_92_code 1 = .ok (.aload_n 0, 1) := by decide +kernel
theorem dR_seriesOf_2 : decode prog_14_method_92_code 2 = .ok (.getfield 47, 3) := by decide +kernel
theorem dR_seriesOf_5 : decode prog_14_method_92_code 5 = .ok (.invokevirtual 398, 3) := by decide +kernel
theorem dR_seriesOf_8 : decode prog_14_method_92_code 8 = .ok (.istore_n 3, 1) := by decide +kernel
theorem dR_seriesOf_9 : decode prog_14_method_92_code 9 = .ok (.iconst 0, 1) := by decide +kernel
theorem dR_seriesOf_10 : decode prog_14_method_92_code 10 = .ok (.istore 4, 2) := by decide +kernel
theorem dR_seriesOf_12 : decode prog_14_method_92_code 12 = .ok (.iload 4, 2) := by decide +kernel
theorem dR_seriesOf_14 : decode prog_14_method_92_code 14 = .ok (.iload_n 1, 1) := by decide +kernel
theorem dR_seriesOf_15 : decode prog_14_method_92_code 15 = .ok (.if_icmp .ge 75, 3) := by decide +kernel
theorem dR_seriesOf_18 : decode prog_14_method_92_code 18 = .ok (.iload_n 2, 1) := by decide +kernel
theorem dR_seriesOf_19 : decode prog_14_method_92_code 19 = .ok (.ifCond .eq 14, 3) := by decide +kernel
theorem dR_seriesOf_22 : decode prog_14_method_92_code 22 = .ok (.aload_n 0, 1) := by decide +kernel
theorem dR_seriesOf_23 : decode prog_14_method_92_code 23 = .ok (.aload_n 0, 1) := by decide +kernel
theorem dR_seriesOf_24 : decode prog_14_method_92_code 24 = .ok (.getfield 59, 3) := by decide +kernel
theorem dR_seriesOf_27 : decode prog_14_method_92_code 27 = .ok (.invokevirtual 398, 3) := by decide +kernel
theorem dR_seriesOf_30 : decode prog_14_method_92_code 30 = .ok (.goto 4, 3) := by decide +kernel
theorem dR_seriesOf_33 : decode prog_14_method_92_code 33 = .ok (.iload_n 3, 1) := by decide +kernel
theorem dR_seriesOf_34 : decode prog_14_method_92_code 34 = .ok (.istore 5, 2) := by decide +kernel
theorem dR_seriesOf_36 : decode prog_14_method_92_code 36 = .ok (.iload_n 2, 1) := by decide +kernel
theorem dR_seriesOf_37 : decode prog_14_method_92_code 37 = .ok (.ifCond .ne 15, 3) := by decide +kernel
theorem dR_seriesOf_40 : decode prog_14_method_92_code 40 = .ok (.aload_n 0, 1) := by decide +kernel
theorem dR_seriesOf_41 : decode prog_14_method_92_code 41 = .ok (.aload_n 0, 1) := by decide +kernel
theorem dR_seriesOf_42 : decode prog_14_method_92_code 42 = .ok (.getfield 47, 3) := by decide +kernel
theorem dR_seriesOf_45 : decode prog_14_method_92_code 45 = .ok (.aload_n 0, 1) := by decide +kernel
theorem dR_seriesOf_46 : decode prog_14_method_92_code 46 = .ok (.getfield 59, 3) := by decide +kernel
theorem dR_seriesOf_49 : decode prog_14_method_92_code 49 = .ok (.invokevirtual 394, 3) := by decide +kernel
theorem dR_seriesOf_52 : decode prog_14_method_92_code 52 = .ok (.aload_n 0, 1) := by decide +kernel
theorem dR_seriesOf_53 : decode prog_14_method_92_code 53 = .ok (.aload_n 0, 1) := by decide +kernel
theorem dR_seriesOf_54 : decode prog_14_method_92_code 54 = .ok (.getfield 47, 3) := by decide +kernel
theorem dR_seriesOf_57 : decode prog_14_method_92_code 57 = .ok (.iload_n 3, 1) := by decide +kernel
theorem dR_seriesOf_58 : decode prog_14_method_92_code 58 = .ok (.aload_n 0, 1) := by decide +kernel
theorem dR_seriesOf_59 : decode prog_14_method_92_code 59 = .ok (.getfield 59, 3) := by decide +kernel
theorem dR_seriesOf_62 : decode prog_14_method_92_code 62 = .ok (.iload 5, 2) := by decide +kernel
theorem dR_seriesOf_64 : decode prog_14_method_92_code 64 = .ok (.aload_n 0, 1) := by decide +kernel
theorem dR_seriesOf_65 : decode prog_14_method_92_code 65 = .ok (.getfield 50, 3) := by decide +kernel
theorem dR_seriesOf_68 : decode prog_14_method_92_code 68 = .ok (.invokevirtual 413, 3) := by decide +kernel
theorem dR_seriesOf_71 : decode prog_14_method_92_code 71 = .ok (.istore_n 3, 1) := by decide +kernel
theorem dR_seriesOf_72 : decode prog_14_method_92_code 72 = .ok (.aload_n 0, 1) := by decide +kernel
theorem dR_seriesOf_73 : decode prog_14_method_92_code 73 = .ok (.aload_n 0, 1) := by decide +kernel
theorem dR_seriesOf_74 : decode prog_14_method_92_code 74 = .ok (.getfield 50, 3) := by decide +kernel
theorem dR_seriesOf_77 : decode prog_14_method_92_code 77 = .ok (.aload_n 0, 1) := by decide +kernel
theorem dR_seriesOf_78 : decode prog_14_method_92_code 78 = .ok (.getfield 47, 3) := by decide +kernel
theorem dR_seriesOf_81 : decode prog_14_method_92_code 81 = .ok (.invokevirtual 394, 3) := by decide +kernel
theorem dR_seriesOf_84 : decode prog_14_method_92_code 84 = .ok (.iinc 4 1, 3) := by decide +kernel
theorem dR_seriesOf_87 : decode prog_14_method_92_code 87 = .ok (.goto (-75), 3) := by decide +kernel
theorem dR_seriesOf_90 : decode prog_14_method_92_code 90 = .ok (.iload_n 3, 1) := by decide +kernel
theorem dR_seriesOf_91 : decode prog_14_method_92_code 91 = .ok (.ireturn, 1) := by decide +kernel
theorem t_R_seriesOf {d : Nat} {x1 x2 : Int} {σ : SG} {Q : Int → SG → Prop} (h : inI x1 → inI x2 → (Tri d M_R_wholeSpan [vA 161, vA 170] σ (fun r1 σ1 => L (d + 1) M_R_seriesOf 12 [vA 161, vI x1, vI x2, vI r1, vI 0, vU] [] σ1 Q))) : Tri (d + 1) M_R_seriesOf [vA 161, vI x1, vI x2] σ Q :=
  Tri_intro rfl (Nat.le_of_ble_eq_true rfl) (ls := [vA 161, vI x1, vI x2, vU, vU, vU]) rfl (fun hok => L_aload_n dR_seriesOf_0 rfl (L_aload_n dR_seriesOf_1 rfl (L_getF (b := 170) fw_R_47 rfl rfl (by decide) dR_seriesOf_2 ⟨ob_161, L_callVI rfl cv_R_wholeSpan (As := [vA 170]) rfl (tk9 6 rfl rfl) rfl (Nat.le_of_ble_eq_true rfl) dR_seriesOf_5 ⟨ob_161, Tri.mono ((h (hok _ (List.mem_of_getElem? (i := 1) rfl)) (hok _ (List.mem_of_getElem? (i := 2) rfl)))) (fun r1 σ1 q1 => L_istore_n dR_seriesOf_8 (by decide) (L_iconst dR_seriesOf_9 in_0 (L_istore dR_seriesOf_10 (by decide) q1)))⟩⟩)))
theorem s_R_seriesOf_12 {d : Nat} {x1 x2 x3 x4 : Int} {σ : SG} {Q : Int → SG → Prop} (h : (x1 ≤ x4 → Q x3 σ) ∧ (x4 < x1 → (x2 = 0 → (x2 ≠ 0 → L (d + 1) M_R_seriesOf 52 [vA 161, vI x1, vI x2, vI x3, vI x4, vI x3] [] σ Q) ∧ (x2 = 0 → Tri d M_R_copySpan [vA 161, vA 170, vA 174] σ (fun r4 σ4 => L (d + 1) M_R_seriesOf 52 [vA 161, vI x1, vI x2, vI x3, vI x4, vI x3] [] σ4 Q))) ∧ (x2 ≠ 0 → Tri d M_R_wholeSpan [vA 161, vA 174] σ (fun r5 σ5 => (x2 ≠ 0 → L (d + 1) M_R_seriesOf 52 [vA 161, vI x1, vI x2, vI x3, vI x4, vI r5] [] σ5 Q) ∧ (x2 = 0 → Tri d M_R_copySpan [vA 161, vA 170, vA 174] σ5 (fun r7 σ7 => L (d + 1) M_R_seriesOf 52 [vA 161, vI x1, vI x2, vI x3, vI x4, vI r5] [] σ7 Q)))))) : L (d + 1) M_R_seriesOf 12 [vA 161, vI x1, vI x2, vI x3, vI x4, vU] [] σ Q :=
  L_iload dR_seriesOf_12 rfl (L_iload_n dR_seriesOf_14 rfl (L_icmp_ge dR_seriesOf_15 (by decide) ⟨fun c1 => L_iload_n dR_seriesOf_90 rfl (L_ireturn rfl dR_seriesOf_91 (h.1 c1)), fun c1 => L_iload_n dR_seriesOf_18 rfl (L_if_eq dR_seriesOf_19 (by decide) ⟨fun c2 => L_iload_n dR_seriesOf_33 rfl (L_istore dR_seriesOf_34 (by decide) (L_iload_n dR_seriesOf_36 rfl (L_if_ne dR_seriesOf_37 (by decide) ⟨fun c3 => (((h.2 c1).1 c2).1 c3), fun c3 => L_aload_n dR_seriesOf_40 rfl (L_aload_n dR_seriesOf_41 rfl (L_getF (b := 170) fw_R_47 rfl rfl (by decide) dR_seriesOf_42 ⟨ob_161, L_aload_n dR_seriesOf_45 rfl (L_getF (b := 174) fw_R_59 rfl rfl (by decide) dR_seriesOf_46 ⟨ob_161, L_callVV rfl cv_R_copySpan (As := [vA 170, vA 174]) rfl (tk9 2 rfl rfl) rfl (Nat.le_of_ble_eq_true rfl) dR_seriesOf_49 ⟨ob_161, Tri.mono (((h.2 c1).1 c2).2 c3) (fun r4 σ4 q4 => q4)⟩⟩)⟩))⟩))), fun c2 => L_aload_n dR_seriesOf_22 rfl (L_aload_n dR_seriesOf_23 rfl (L_getF (b := 174) fw_R_59 rfl rfl (by decide) dR_seriesOf_24 ⟨ob_161, L_callVI rfl cv_R_wholeSpan (As := [vA 174]) rfl (tk9 6 rfl rfl) rfl (Nat.le_of_ble_eq_true rfl) dR_seriesOf_27 ⟨ob_161, Tri.mono ((h.2 c1).2 c2) (fun r5 σ5 q5 => L_goto dR_seriesOf_30 (by decide) (L_istore dR_seriesOf_34 (by decide) (L_iload_n dR_seriesOf_36 rfl (L_if_ne dR_seriesOf_37 (by decide) ⟨fun c6 => (q5.1 c6), fun c6 => L_aload_n dR_seriesOf_40 rfl (L_aload_n dR_seriesOf_41 rfl (L_getF (b := 170) fw_R_47 rfl rfl (by decide) dR_seriesOf_42 ⟨ob_161, L_aload_n dR_seriesOf_45 rfl (L_getF (b := 174) fw_R_59 rfl rfl (by decide) dR_seriesOf_46 ⟨ob_161, L_callVV rfl cv_R_copySpan (As := [vA 170, vA 174]) rfl (tk9 2 rfl rfl) rfl (Nat.le_of_ble_eq_true rfl) dR_seriesOf_49 ⟨ob_161, Tri.mono (q5.2 c6) (fun r7 σ7 q7 => q7)⟩⟩)⟩))⟩))))⟩⟩))⟩)⟩))
theorem s_R_seriesOf_52 {d : Nat} {x1 x2 x3 x4 x5 : Int} {σ : SG} {Q : Int → SG → Prop} (h : Tri d M_R_brackets [vA 161, vA 170, vI x3, vA 174, vI x5, vA 171] σ (fun r1 σ1 => Tri d M_R_copySpan [vA 161, vA 171, vA 170] σ1 (fun r2 σ2 => L (d + 1) M_R_seriesOf 12 [vA 161, vI x1, vI x2, vI r1, vI (w32 (x4 + 1)), vU] [] σ2 Q))) : L (d + 1) M_R_seriesOf 52 [vA 161, vI x1, vI x2, vI x3, vI x4, vI x5] [] σ Q :=
  L_aload_n dR_seriesOf_52 rfl (L_aload_n dR_seriesOf_53 rfl (L_getF (b := 170) fw_R_47 rfl rfl (by decide) dR_seriesOf_54 ⟨ob_161, L_iload_n dR_seriesOf_57 rfl (L_aload_n dR_seriesOf_58 rfl (L_getF (b := 174) fw_R_59 rfl rfl (by decide) dR_seriesOf_59 ⟨ob_161, L_iload dR_seriesOf_62 rfl (L_aload_n dR_seriesOf_64 rfl (L_getF (b := 171) fw_R_50 rfl rfl (by decide) dR_seriesOf_65 ⟨ob_161, L_callVI rfl cv_R_brackets (As := [vA 170, vI x3, vA 174, vI x5, vA 171]) rfl (tk9 19 rfl rfl) rfl (Nat.le_of_ble_eq_true rfl) dR_seriesOf_68 ⟨ob_161, Tri.mono h (fun r1 σ1 q1 => L_istore_n dR_seriesOf_71 (by decide) (L_aload_n dR_seriesOf_72 rfl (L_aload_n dR_seriesOf_73 rfl (L_getF (b := 171) fw_R_50 rfl rfl (by decide) dR_seriesOf_74 ⟨ob_161, L_aload_n dR_seriesOf_77 rfl (L_getF (b := 170) fw_R_47 rfl rfl (by decide) dR_seriesOf_78 ⟨ob_161, L_callVV rfl cv_R_copySpan (As := [vA 171, vA 170]) rfl (tk9 2 rfl rfl) rfl (Nat.le_of_ble_eq_true rfl) dR_seriesOf_81 ⟨ob_161, Tri.mono q1 (fun r2 σ2 q2 => L_iinc dR_seriesOf_84 rfl (by decide) (L_goto dR_seriesOf_87 (by decide) (L_weak [true, true, true, true, true, false] q2)))⟩⟩)⟩))))⟩⟩))⟩))⟩))
theorem dR_derived_0 : decode prog_14_method_93_code 0 = .ok (.aload_n 0, 1) := by decide +kernel
theorem dR_derived_1 : decode prog_14_method_93_code 1 = .ok (.iconst 0, 1) := by decide +kernel
theorem dR_derived_2 : decode prog_14_method_93_code 2 = .ok (.putfield 132, 3) := by decide +kernel
theorem dR_derived_5 : decode prog_14_method_93_code 5 = .ok (.aload_n 0, 1) := by decide +kernel
theorem dR_derived_6 : decode prog_14_method_93_code 6 = .ok (.iconst 0, 1) := by decide +kernel
theorem dR_derived_7 : decode prog_14_method_93_code 7 = .ok (.putfield 135, 3) := by decide +kernel
theorem dR_derived_10 : decode prog_14_method_93_code 10 = .ok (.aload_n 0, 1) := by decide +kernel
theorem dR_derived_11 : decode prog_14_method_93_code 11 = .ok (.invokevirtual 348, 3) := by decide +kernel
theorem dR_derived_14 : decode prog_14_method_93_code 14 = .ok (.iload_n 1, 1) := by decide +kernel
theorem dR_derived_15 : decode prog_14_method_93_code 15 = .ok (.i2l, 1) := by decide +kernel
theorem dR_derived_16 : decode prog_14_method_93_code 16 = .ok (.lconst 0, 1) := by decide +kernel
theorem dR_derived_17 : decode prog_14_method_93_code 17 = .ok (.ldc2_w 417, 3) := by decide +kernel
theorem dR_derived_20 : decode prog_14_method_93_code 20 = .ok (.invokestatic 167, 3) := by decide +kernel
theorem dR_derived_23 : decode prog_14_method_93_code 23 = .ok (.ifCond .eq 12, 3) := by decide +kernel
theorem dR_derived_26 : decode prog_14_method_93_code 26 = .ok (.aload_n 0, 1) := by decide +kernel
theorem dR_derived_27 : decode prog_14_method_93_code 27 = .ok (.iload_n 1, 1) := by decide +kernel
theorem dR_derived_28 : decode prog_14_method_93_code 28 = .ok (.iconst 0, 1) := by decide +kernel
theorem dR_derived_29 : decode prog_14_method_93_code 29 = .ok (.invokevirtual 419, 3) := by decide +kernel
theorem dR_derived_32 : decode prog_14_method_93_code 32 = .ok (.goto 8, 3) := by decide +kernel
theorem dR_derived_35 : decode prog_14_method_93_code 35 = .ok (.aload_n 0, 1) := by decide +kernel
theorem dR_derived_36 : decode prog_14_method_93_code 36 = .ok (.iconst 5, 1) := by decide +kernel
theorem dR_derived_37 : decode prog_14_method_93_code 37 = .ok (.invokevirtual 351, 3) := by decide +kernel
theorem dR_derived_40 : decode prog_14_method_93_code 40 = .ok (.ireturn, 1) := by decide +kernel
theorem t_R_derived {d : Nat} {x1 : Int} {σ : SG} {Q : Int → SG → Prop} (h : inI x1 → ((∀ σ1, σ1 = up σ 161 1 0 → (∀ σ2, σ2 = up σ1 161 0 0 → Tri d M_R_askNow [vA 161] σ2 (fun r3 σ3 => Tri d M_R_isIn [vJ x1, vJ 0, vJ 9] σ3 (fun r4 σ4 => (r4 = 0 → Tri d M_R_refuse [vA 161, vI 5] σ4 (fun r6 σ6 => Q r6 σ6)) ∧ (r4 ≠ 0 → Tri d M_R_seriesOf [vA 161, vI x1, vI 0] σ4 (fun r7 σ7 => Q r7 σ7)))))))) : Tri (d + 1) M_R_derived [vA 161, vI x1] σ Q :=
  Tri_intro rfl (Nat.le_of_ble_eq_true rfl) (ls := [vA 161, vI x1]) rfl (fun hok => L_aload_n dR_derived_0 rfl (L_iconst dR_derived_1 in_0 (L_putfN fp_R_132 rfl rfl (fun _ => ⟨rfl, rfl⟩) dR_derived_2 ⟨ob_161, fun σ1 e1 => L_aload_n dR_derived_5 rfl (L_iconst dR_derived_6 in_0 (L_putfN fp_R_135 rfl rfl (fun _ => ⟨rfl, rfl⟩) dR_derived_7 ⟨ob_161, fun σ2 e2 => L_aload_n dR_derived_10 rfl (L_callVV rfl cv_R_askNow (As := []) rfl (tk8 108 rfl rfl) rfl (Nat.le_of_ble_eq_true rfl) dR_derived_11 ⟨ob_161, Tri.mono (((h (hok _ (List.mem_of_getElem? (i := 1) rfl))) σ1 e1) σ2 e2) (fun r3 σ3 q3 => L_iload_n dR_derived_14 rfl (L_i2l dR_derived_15 (L_lconst (x := 0) dR_derived_16 rfl inJ_0 (L_ldc2 (x := 9) (tk9 14 rfl rfl) rfl inJ_9 dR_derived_17 (L_callSI rfl cs_R_isIn (As := [vJ x1, vJ 0, vJ 9]) rfl (tk8 47 rfl rfl) rfl (Nat.le_of_ble_eq_true rfl) dR_derived_20 (Tri.mono q3 (fun r4 σ4 q4 => L_if_eq dR_derived_23 (by decide) ⟨fun c5 => L_aload_n dR_derived_35 rfl (L_iconst dR_derived_36 in_5 (L_callVI rfl cv_R_refuse (As := [vI 5]) rfl (tk8 117 rfl rfl) rfl (Nat.le_of_ble_eq_true rfl) dR_derived_37 ⟨ob_161, Tri.mono (q4.1 c5) (fun r6 σ6 q6 => L_ireturn rfl dR_derived_40 q6)⟩)), fun c5 => L_aload_n dR_derived_26 rfl (L_iload_n dR_derived_27 rfl (L_iconst dR_derived_28 in_0 (L_callVI rfl cv_R_seriesOf (As := [vI x1, vI 0]) rfl (tk9 15 rfl rfl) rfl (Nat.le_of_ble_eq_true rfl) dR_derived_29 ⟨ob_161, Tri.mono (q4.2 c5) (fun r7 σ7 q7 => L_goto dR_derived_32 (by decide) (L_ireturn rfl dR_derived_40 q7))⟩)))⟩)))))))⟩)⟩))⟩)))
theorem dR_lower_0 : decode prog_14_method_94_code 0 = .ok (.aload_n 0, 1) := by decide +kernel
theorem dR_lower_1 : decode prog_14_method_94_code 1 = .ok (.iconst 0, 1) := by decide +kernel
theorem dR_lower_2 : decode prog_14_method_94_code 2 = .ok (.putfield 132, 3) := by decide +kernel
theorem dR_lower_5 : decode prog_14_method_94_code 5 = .ok (.aload_n 0, 1) := by decide +kernel
theorem dR_lower_6 : decode prog_14_method_94_code 6 = .ok (.iconst 0, 1) := by decide +kernel
theorem dR_lower_7 : decode prog_14_method_94_code 7 = .ok (.putfield 135, 3) := by decide +kernel
theorem dR_lower_10 : decode prog_14_method_94_code 10 = .ok (.aload_n 0, 1) := by decide +kernel
theorem dR_lower_11 : decode prog_14_method_94_code 11 = .ok (.invokevirtual 348, 3) := by decide +kernel
theorem dR_lower_14 : decode prog_14_method_94_code 14 = .ok (.iload_n 1, 1) := by decide +kernel
theorem dR_lower_15 : decode prog_14_method_94_code 15 = .ok (.i2l, 1) := by decide +kernel
theorem dR_lower_16 : decode prog_14_method_94_code 16 = .ok (.lconst 0, 1) := by decide +kernel
theorem dR_lower_17 : decode prog_14_method_94_code 17 = .ok (.ldc2_w 417, 3) := by decide +kernel
theorem dR_lower_20 : decode prog_14_method_94_code 20 = .ok (.invokestatic 167, 3) := by decide +kernel
theorem dR_lower_23 : decode prog_14_method_94_code 23 = .ok (.ifCond .eq 12, 3) := by decide +kernel
theorem dR_lower_26 : decode prog_14_method_94_code 26 = .ok (.aload_n 0, 1) := by decide +kernel
theorem dR_lower_27 : decode prog_14_method_94_code 27 = .ok (.iload_n 1, 1) := by decide +kernel
theorem dR_lower_28 : decode prog_14_method_94_code 28 = .ok (.iconst 1, 1) := by decide +kernel
theorem dR_lower_29 : decode prog_14_method_94_code 29 = .ok (.invokevirtual 419, 3) := by decide +kernel
theorem dR_lower_32 : decode prog_14_method_94_code 32 = .ok (.goto 8, 3) := by decide +kernel
theorem dR_lower_35 : decode prog_14_method_94_code 35 = .ok (.aload_n 0, 1) := by decide +kernel
theorem dR_lower_36 : decode prog_14_method_94_code 36 = .ok (.iconst 5, 1) := by decide +kernel
theorem dR_lower_37 : decode prog_14_method_94_code 37 = .ok (.invokevirtual 351, 3) := by decide +kernel
theorem dR_lower_40 : decode prog_14_method_94_code 40 = .ok (.ireturn, 1) := by decide +kernel
theorem t_R_lower {d : Nat} {x1 : Int} {σ : SG} {Q : Int → SG → Prop} (h : inI x1 → ((∀ σ1, σ1 = up σ 161 1 0 → (∀ σ2, σ2 = up σ1 161 0 0 → Tri d M_R_askNow [vA 161] σ2 (fun r3 σ3 => Tri d M_R_isIn [vJ x1, vJ 0, vJ 9] σ3 (fun r4 σ4 => (r4 = 0 → Tri d M_R_refuse [vA 161, vI 5] σ4 (fun r6 σ6 => Q r6 σ6)) ∧ (r4 ≠ 0 → Tri d M_R_seriesOf [vA 161, vI x1, vI 1] σ4 (fun r7 σ7 => Q r7 σ7)))))))) : Tri (d + 1) M_R_lower [vA 161, vI x1] σ Q :=
  Tri_intro rfl (Nat.le_of_ble_eq_true rfl) (ls := [vA 161, vI x1]) rfl (fun hok => L_aload_n dR_lower_0 rfl (L_iconst dR_lower_1 in_0 (L_putfN fp_R_132 rfl rfl (fun _ => ⟨rfl, rfl⟩) dR_lower_2 ⟨ob_161, fun σ1 e1 => L_aload_n dR_lower_5 rfl (L_iconst dR_lower_6 in_0 (L_putfN fp_R_135 rfl rfl (fun _ => ⟨rfl, rfl⟩) dR_lower_7 ⟨ob_161, fun σ2 e2 => L_aload_n dR_lower_10 rfl (L_callVV rfl cv_R_askNow (As := []) rfl (tk8 108 rfl rfl) rfl (Nat.le_of_ble_eq_true rfl) dR_lower_11 ⟨ob_161, Tri.mono (((h (hok _ (List.mem_of_getElem? (i := 1) rfl))) σ1 e1) σ2 e2) (fun r3 σ3 q3 => L_iload_n dR_lower_14 rfl (L_i2l dR_lower_15 (L_lconst (x := 0) dR_lower_16 rfl inJ_0 (L_ldc2 (x := 9) (tk9 14 rfl rfl) rfl inJ_9 dR_lower_17 (L_callSI rfl cs_R_isIn (As := [vJ x1, vJ 0, vJ 9]) rfl (tk8 47 rfl rfl) rfl (Nat.le_of_ble_eq_true rfl) dR_lower_20 (Tri.mono q3 (fun r4 σ4 q4 => L_if_eq dR_lower_23 (by decide) ⟨fun c5 => L_aload_n dR_lower_35 rfl (L_iconst dR_lower_36 in_5 (L_callVI rfl cv_R_refuse (As := [vI 5]) rfl (tk8 117 rfl rfl) rfl (Nat.le_of_ble_eq_true rfl) dR_lower_37 ⟨ob_161, Tri.mono (q4.1 c5) (fun r6 σ6 q6 => L_ireturn rfl dR_lower_40 q6)⟩)), fun c5 => L_aload_n dR_lower_26 rfl (L_iload_n dR_lower_27 rfl (L_iconst dR_lower_28 in_1 (L_callVI rfl cv_R_seriesOf (As := [vI x1, vI 1]) rfl (tk9 15 rfl rfl) rfl (Nat.le_of_ble_eq_true rfl) dR_lower_29 ⟨ob_161, Tri.mono (q4.2 c5) (fun r7 σ7 q7 => L_goto dR_lower_32 (by decide) (L_ireturn rfl dR_lower_40 q7))⟩)))⟩)))))))⟩)⟩))⟩)))
theorem dR_noRows_0 : decode prog_14_method_95_code 0 = .ok (.aload_n 0, 1) := by decide +kernel
theorem dR_noRows_1 : decode prog_14_method_95_code 1 = .ok (.iconst 0, 1) := by decide +kernel
theorem dR_noRows_2 : decode prog_14_method_95_code 2 = .ok (.putfield 423, 3) := by decide +kernel
theorem dR_noRows_5 : decode prog_14_method_95_code 5 = .ok (.return_, 1) := by decide +kernel
theorem t_R_noRows {d : Nat} {σ : SG} {Q : Int → SG → Prop} (h : (∀ σ1, σ1 = up σ 161 39 0 → Q 0 σ1)) : Tri (d + 1) M_R_noRows [vA 161] σ Q :=
  Tri_intro rfl (Nat.le_of_ble_eq_true rfl) (ls := [vA 161]) rfl (fun hok => L_aload_n dR_noRows_0 rfl (L_iconst dR_noRows_1 in_0 (L_putfN fp_R_423 rfl rfl (fun _ => ⟨rfl, rfl⟩) dR_noRows_2 ⟨ob_161, fun σ1 e1 => L_return rfl dR_noRows_5 (h σ1 e1)⟩)))
theorem dR_leadOfRow_0 : decode prog_14_method_96_code 0 = .ok (.iconst 0, 1) := by decide +kernel
theorem dR_leadOfRow_1 : decode prog_14_method_96_code 1 = .ok (.istore 4, 2) := by decide +kernel
theorem dR_leadOfRow_3 : decode prog_14_method_96_code 3 = .ok (.iload 4, 2) := by decide +kernel
theorem dR_leadOfRow_5 : decode prog_14_method_96_code 5 = .ok (.iload_n 3, 1) := by decide +kernel
theorem dR_leadOfRow_6 : decode prog_14_method_96_code 6 = .ok (.if_icmp .ge 21, 3) := by decide +kernel
theorem dR_leadOfRow_9 : decode prog_14_method_96_code 9 = .ok (.aload_n 1, 1) := by decide +kernel
theorem dR_leadOfRow_10 : decode prog_14_method_96_code 10 = .ok (.iload_n 2, 1) := by decide +kernel
theorem dR_leadOfRow_11 : decode prog_14_method_96_code 11 = .ok (.iload 4, 2) := by decide +kernel
theorem dR_leadOfRow_13 : decode prog_14_method_96_code 13 = .ok (.iadd, 1) := by decide +kernel
theorem dR_leadOfRow_14 : decode prog_14_method_96_code 14 = .ok (.iaload, 1) := by decide +kernel
theorem dR_leadOfRow_15 : decode prog_14_method_96_code 15 = .ok (.ifCond .eq 6, 3) := by decide +kernel
theorem dR_leadOfRow_18 : decode prog_14_method_96_code 18 = .ok (.iload 4, 2) := by decide +kernel
theorem dR_leadOfRow_20 : decode prog_14_method_96_code 20 = .ok (.ireturn, 1) := by decide +kernel
theorem dR_leadOfRow_21 : decode prog_14_method_96_code 21 = .ok (.iinc 4 1, 3) := by decide +kernel
theorem dR_leadOfRow_24 : decode prog_14_method_96_code 24 = .ok (.goto (-21), 3) := by decide +kernel
theorem dR_leadOfRow_27 : decode prog_14_method_96_code 27 = .ok (.iconst (-1), 1) := by decide +kernel
theorem dR_leadOfRow_28 : decode prog_14_method_96_code 28 = .ok (.ireturn, 1) := by decide +kernel
theorem t_R_leadOfRow {d : Nat} {x1 x2 x3 : Int} {σ : SG} {Q : Int → SG → Prop} (h : inI x2 → inI x3 → (L (d + 1) M_R_leadOfRow 3 [vU, vA x1, vI x2, vI x3, vI 0] [] σ Q)) : Tri (d + 1) M_R_leadOfRow [vA 161, vA x1, vI x2, vI x3] σ Q :=
  Tri_intro rfl (Nat.le_of_ble_eq_true rfl) (ls := [vA 161, vA x1, vI x2, vI x3, vU]) rfl (fun hok => L_iconst dR_leadOfRow_0 in_0 (L_istore dR_leadOfRow_1 (by decide) (L_weak [false, true, true, true, true] ((h (hok _ (List.mem_of_getElem? (i := 2) rfl)) (hok _ (List.mem_of_getElem? (i := 3) rfl)))))))
theorem s_R_leadOfRow_3 {d : Nat} {x1 x2 x3 x4 : Int} {σ : SG} {Q : Int → SG → Prop} (h : (x3 ≤ x4 → Q (-1) σ) ∧ (x4 < x3 → rdok 100 x1 (w32 (x2 + x4)) ∧ (σ x1 (w32 (x2 + x4)) = 0 → L (d + 1) M_R_leadOfRow 3 [vU, vA x1, vI x2, vI x3, vI (w32 (x4 + 1))] [] σ Q) ∧ (σ x1 (w32 (x2 + x4)) ≠ 0 → Q x4 σ))) : L (d + 1) M_R_leadOfRow 3 [vU, vA x1, vI x2, vI x3, vI x4] [] σ Q :=
  L_iload dR_leadOfRow_3 rfl (L_iload_n dR_leadOfRow_5 rfl (L_icmp_ge dR_leadOfRow_6 (by decide) ⟨fun c1 => L_iconst dR_leadOfRow_27 in_m1 (L_ireturn rfl dR_leadOfRow_28 (h.1 c1)), fun c1 => L_aload_n dR_leadOfRow_9 rfl (L_iload_n dR_leadOfRow_10 rfl (L_iload dR_leadOfRow_11 rfl (L_iadd dR_leadOfRow_13 (L_iaload dR_leadOfRow_14 ⟨(h.2 c1).1, L_if_eq dR_leadOfRow_15 (by decide) ⟨fun c2 => L_iinc dR_leadOfRow_21 rfl (by decide) (L_goto dR_leadOfRow_24 (by decide) ((h.2 c1).2.1 c2)), fun c2 => L_iload dR_leadOfRow_18 rfl (L_ireturn rfl dR_leadOfRow_20 ((h.2 c1).2.2 c2))⟩⟩))))⟩))
theorem dR_addEquation_0 : decode prog_14_method_97_code 0 = .ok (.iconst 0, 1) := by decide +kernel
theorem dR_addEquation_1 : decode prog_14_method_97_code 1 = .ok (.istore_n 2, 1) := by decide +kernel
theorem dR_addEquation_2 : decode prog_14_method_97_code 2 = .ok (.iload_n 2, 1) := by decide +kernel
theorem dR_addEquation_3 : decode prog_14_method_97_code 3 = .ok (.aload_n 0, 1) := by decide +kernel
theorem dR_addEquation_4 : decode prog_14_method_97_code 4 = .ok (.getfield 423, 3) := by decide +kernel
theorem dR_addEquation_7 : decode prog_14_method_97_code 7 = .ok (.if_icmp .ge 83, 3) := by decide +kernel
theorem dR_addEquation_10 : decode prog_14_method_97_code 10 = .ok (.aload_n 0, 1) := by decide +kernel
theorem dR_addEquation_11 : decode prog_14_method_97_code 11 = .ok (.getfield 77, 3) := by decide +kernel
theorem dR_addEquation_14 : decode prog_14_method_97_code 14 = .ok (.aload_n 0, 1) := by decide +kernel
theorem dR_addEquation_15 : decode prog_14_method_97_code 15 = .ok (.aload_n 0, 1) := by decide +kernel
theorem dR_addEquation_16 : decode prog_14_method_97_code 16 = .ok (.getfield 74, 3) := by decide +kernel
theorem dR_addEquation_19 : decode prog_14_method_97_code 19 = .ok (.bipush 30, 2) := by decide +kernel
theorem dR_addEquation_21 : decode prog_14_method_97_code 21 = .ok (.iload_n 2, 1) := by decide +kernel
theorem dR_addEquation_22 : decode prog_14_method_97_code 22 = .ok (.imul, 1) := by decide +kernel
theorem dR_addEquation_23 : decode prog_14_method_97_code 23 = .ok (.iload_n 1, 1) := by decide +kernel
theorem dR_addEquation_24 : decode prog_14_method_97_code 24 = .ok (.invokevirtual 426, 3) := by decide +kernel
theorem dR_addEquation_27 : decode prog_14_method_97_code 27 = .ok (.iaload, 1) := by decide +kernel
theorem dR_addEquation_28 : decode prog_14_method_97_code 28 = .ok (.istore_n 3, 1) := by decide +kernel
theorem dR_addEquation_29 : decode prog_14_method_97_code 29 = .ok (.iconst 0, 1) := by decide +kernel
theorem dR_addEquation_30 : decode prog_14_method_97_code 30 = .ok (.istore 4, 2) := by decide +kernel
theorem dR_addEquation_32 : decode prog_14_method_97_code 32 = .ok (.iload 4, 2) := by decide +kernel
theorem dR_addEquation_34 : decode prog_14_method_97_code 34 = .ok (.iload_n 1, 1) := by decide +kernel
theorem dR_addEquation_35 : decode prog_14_method_97_code 35 = .ok (.if_icmp .ge 49, 3) := by decide +kernel
theorem dR_addEquation_38 : decode prog_14_method_97_code 38 = .ok (.iload_n 3, 1) := by decide +kernel
theorem dR_addEquation_39 : decode prog_14_method_97_code 39 = .ok (.ifCond .eq 45, 3) := by decide +kernel
theorem dR_addEquation_42 : decode prog_14_method_97_code 42 = .ok (.aload_n 0, 1) := by decide +kernel
theorem dR_addEquation_43 : decode prog_14_method_97_code 43 = .ok (.getfield 77, 3) := by decide +kernel
theorem dR_addEquation_46 : decode prog_14_method_97_code 46 = .ok (.iload 4, 2) := by decide +kernel
theorem dR_addEquation_48 : decode prog_14_method_97_code 48 = .ok (.aload_n 0, 1) := by decide +kernel
theorem dR_addEquation_49 : decode prog_14_method_97_code 49 = .ok (.getfield 77, 3) := by decide +kernel
theorem dR_addEquation_52 : decode prog_14_method_97_code 52 = .ok (.iload 4, 2) := by decide +kernel
theorem dR_addEquation_54 : decode prog_14_method_97_code 54 = .ok (.iaload, 1) := by decide +kernel
theorem dR_addEquation_55 : decode prog_14_method_97_code 55 = .ok (.iload_n 3, 1) := by decide +kernel
theorem dR_addEquation_56 : decode prog_14_method_97_code 56 = .ok (.aload_n 0, 1) := by decide +kernel
theorem dR_addEquation_57 : decode prog_14_method_97_code 57 = .ok (.getfield 74, 3) := by decide +kernel
theorem dR_addEquation_60 : decode prog_14_method_97_code 60 = .ok (.bipush 30, 2) := by decide +kernel
theorem dR_addEquation_62 : decode prog_14_method_97_code 62 = .ok (.iload_n 2, 1) := by decide +kernel
theorem dR_addEquation_63 : decode prog_14_method_97_code 63 = .ok (.imul, 1) := by decide +kernel
theorem dR_addEquation_64 : decode prog_14_method_97_code 64 = .ok (.iload 4, 2) := by decide +kernel
theorem dR_addEquation_66 : decode prog_14_method_97_code 66 = .ok (.iadd, 1) := by decide +kernel
theorem dR_addEquation_67 : decode prog_14_method_97_code 67 = .ok (.iaload, 1) := by decide +kernel
theorem dR_addEquation_68 : decode prog_14_method_97_code 68 = .ok (.imul, 1) := by decide +kernel
theorem dR_addEquation_69 : decode prog_14_method_97_code 69 = .ok (.isub, 1) := by decide +kernel
theorem dR_addEquation_70 : decode prog_14_method_97_code 70 = .ok (.aload_n 0, 1) := by decide +kernel
theorem dR_addEquation_71 : decode prog_14_method_97_code 71 = .ok (.getfield 250, 3) := by decide +kernel
theorem dR_addEquation_74 : decode prog_14_method_97_code 74 = .ok (.invokestatic 264, 3) := by decide +kernel
theorem dR_addEquation_77 : decode prog_14_method_97_code 77 = .ok (.iastore, 1) := by decide +kernel
theorem dR_addEquation_78 : decode prog_14_method_97_code 78 = .ok (.iinc 4 1, 3) := by decide +kernel
theorem dR_addEquation_81 : decode prog_14_method_97_code 81 = .ok (.goto (-49), 3) := by decide +kernel
theorem dR_addEquation_84 : decode prog_14_method_97_code 84 = .ok (.iinc 2 1, 3) := by decide +kernel
theorem dR_addEquation_87 : decode prog_14_method_97_code 87 = .ok (.goto (-85), 3) := by decide +kernel
theorem dR_addEquation_90 : decode prog_14_method_97_code 90 = .ok (.aload_n 0, 1) := by decide +kernel
theorem dR_addEquation_91 : decode prog_14_method_97_code 91 = .ok (.aload_n 0, 1) := by decide +kernel
theorem dR_addEquation_92 : decode prog_14_method_97_code 92 = .ok (.getfield 77, 3) := by decide +kernel
theorem dR_addEquation_95 : decode prog_14_method_97_code 95 = .ok (.iconst 0, 1) := by decide +kernel
theorem dR_addEquation_96 : decode prog_14_method_97_code 96 = .ok (.iload_n 1, 1) := by decide +kernel
theorem dR_addEquation_97 : decode prog_14_method_97_code 97 = .ok (.invokevirtual 426, 3) := by decide +kernel
theorem dR_addEquation_100 : decode prog_14_method_97_code 100 = .ok (.istore_n 2, 1) := by decide +kernel
theorem dR_addEquation_101 : decode prog_14_method_97_code 101 = .ok (.iload_n 2, 1) := by decide +kernel
theorem dR_addEquation_102 : decode prog_14_method_97_code 102 = .ok (.ifCond .ge 4, 3) := by decide +kernel
theorem dR_addEquation_105 : decode prog_14_method_97_code 105 = .ok (.return_, 1) := by decide +kernel
theorem dR_addEquation_106 : decode prog_14_method_97_code 106 = .ok (.aload_n 0, 1) := by decide +kernel
theorem dR_addEquation_107 : decode prog_14_method_97_code 107 = .ok (.aload_n 0, 1) := by decide +kernel
theorem dR_addEquation_108 : decode prog_14_method_97_code 108 = .ok (.getfield 77, 3) := by decide +kernel
theorem dR_addEquation_111 : decode prog_14_method_97_code 111 = .ok (.iload_n 2, 1) := by decide +kernel
theorem dR_addEquation_112 : decode prog_14_method_97_code 112 = .ok (.iaload, 1) := by decide +kernel
theorem dR_addEquation_113 : decode prog_14_method_97_code 113 = .ok (.invokevirtual 337, 3) := by decide +kernel
theorem dR_addEquation_116 : decode prog_14_method_97_code 116 = .ok (.istore_n 3, 1) := by decide +kernel
theorem dR_addEquation_117 : decode prog_14_method_97_code 117 = .ok (.iconst 0, 1) := by decide +kernel
theorem dR_addEquation_118 : decode prog_14_method_97_code 118 = .ok (.istore 4, 2) := by decide +kernel
theorem dR_addEquation_120 : decode prog_14_method_97_code 120 = .ok (.iload 4, 2) := by decide +kernel
theorem dR_addEquation_122 : decode prog_14_method_97_code 122 = .ok (.iload_n 1, 1) := by decide +kernel
theorem dR_addEquation_123 : decode prog_14_method_97_code 123 = .ok (.if_icmp .ge 38, 3) := by decide +kernel
theorem dR_addEquation_126 : decode prog_14_method_97_code 126 = .ok (.aload_n 0, 1) := by decide +kernel
theorem dR_addEquation_127 : decode prog_14_method_97_code 127 = .ok (.getfield 74, 3) := by decide +kernel
theorem dR_addEquation_130 : decode prog_14_method_97_code 130 = .ok (.bipush 30, 2) := by decide +kernel
theorem dR_addEquation_132 : decode prog_14_method_97_code 132 = .ok (.aload_n 0, 1) := by decide +kernel
theorem dR_addEquation_133 : decode prog_14_method_97_code 133 = .ok (.getfield 423, 3) := by decide +kernel
theorem dR_addEquation_136 : decode prog_14_method_97_code 136 = .ok (.imul, 1) := by decide +kernel
theorem dR_addEquation_137 : decode prog_14_method_97_code 137 = .ok (.iload 4, 2) := by decide +kernel
theorem dR_addEquation_139 : decode prog_14_method_97_code 139 = .ok (.iadd, 1) := by decide +kernel
theorem dR_addEquation_140 : decode prog_14_method_97_code 140 = .ok (.aload_n 0, 1) := by decide +kernel
theorem dR_addEquation_141 : decode prog_14_method_97_code 141 = .ok (.getfield 77, 3) := by decide +kernel
theorem dR_addEquation_144 : decode prog_14_method_97_code 144 = .ok (.iload 4, 2) := by decide +kernel
theorem dR_addEquation_146 : decode prog_14_method_97_code 146 = .ok (.iaload, 1) := by decide +kernel
theorem dR_addEquation_147 : decode prog_14_method_97_code 147 = .ok (.iload_n 3, 1) := by decide +kernel
theorem dR_addEquation_148 : decode prog_14_method_97_code 148 = .ok (.imul, 1) := by decide +kernel
theorem dR_addEquation_149 : decode prog_14_method_97_code 149 = .ok (.aload_n 0, 1) := by decide +kernel
theorem dR_addEquation_150 : decode prog_14_method_97_code 150 = .ok (.getfield 250, 3) := by decide +kernel
theorem dR_addEquation_153 : decode prog_14_method_97_code 153 = .ok (.irem, 1) := by decide +kernel
theorem dR_addEquation_154 : decode prog_14_method_97_code 154 = .ok (.iastore, 1) := by decide +kernel
theorem dR_addEquation_155 : decode prog_14_method_97_code 155 = .ok (.iinc 4 1, 3) := by decide +kernel
theorem dR_addEquation_158 : decode prog_14_method_97_code 158 = .ok (.goto (-38), 3) := by decide +kernel
theorem dR_addEquation_161 : decode prog_14_method_97_code 161 = .ok (.iconst 0, 1) := by decide +kernel
theorem dR_addEquation_162 : decode prog_14_method_97_code 162 = .ok (.istore 4, 2) := by decide +kernel
theorem dR_addEquation_164 : decode prog_14_method_97_code 164 = .ok (.iload 4, 2) := by decide +kernel
theorem dR_addEquation_166 : decode prog_14_method_97_code 166 = .ok (.aload_n 0, 1) := by decide +kernel
theorem dR_addEquation_167 : decode prog_14_method_97_code 167 = .ok (.getfield 423, 3) := by decide +kernel
theorem dR_addEquation_170 : decode prog_14_method_97_code 170 = .ok (.if_icmp .ge 95, 3) := by decide +kernel
theorem dR_addEquation_173 : decode prog_14_method_97_code 173 = .ok (.aload_n 0, 1) := by decide +kernel
theorem dR_addEquation_174 : decode prog_14_method_97_code 174 = .ok (.getfield 74, 3) := by decide +kernel
theorem dR_addEquation_177 : decode prog_14_method_97_code 177 = .ok (.bipush 30, 2) := by decide +kernel
theorem dR_addEquation_179 : decode prog_14_method_97_code 179 = .ok (.iload 4, 2) := by decide +kernel
theorem dR_addEquation_181 : decode prog_14_method_97_code 181 = .ok (.imul, 1) := by decide +kernel
theorem dR_addEquation_182 : decode prog_14_method_97_code 182 = .ok (.iload_n 2, 1) := by decide +kernel
theorem dR_addEquation_183 : decode prog_14_method_97_code 183 = .ok (.iadd, 1) := by decide +kernel
theorem dR_addEquation_184 : decode prog_14_method_97_code 184 = .ok (.iaload, 1) := by decide +kernel
theorem dR_addEquation_185 : decode prog_14_method_97_code 185 = .ok (.istore 5, 2) := by decide +kernel
theorem dR_addEquation_187 : decode prog_14_method_97_code 187 = .ok (.iconst 0, 1) := by decide +kernel
theorem dR_addEquation_188 : decode prog_14_method_97_code 188 = .ok (.istore 6, 2) := by decide +kernel
theorem dR_addEquation_190 : decode prog_14_method_97_code 190 = .ok (.iload 6, 2) := by decide +kernel
theorem dR_addEquation_192 : decode prog_14_method_97_code 192 = .ok (.iload_n 1, 1) := by decide +kernel
theorem dR_addEquation_193 : decode prog_14_method_97_code 193 = .ok (.if_icmp .ge 66, 3) := by decide +kernel
theorem dR_addEquation_196 : decode prog_14_method_97_code 196 = .ok (.iload 5, 2) := by decide +kernel
theorem dR_addEquation_198 : decode prog_14_method_97_code 198 = .ok (.ifCond .eq 61, 3) := by decide +kernel
theorem dR_addEquation_201 : decode prog_14_method_97_code 201 = .ok (.aload_n 0, 1) := by decide +kernel
theorem dR_addEquation_202 : decode prog_14_method_97_code 202 = .ok (.getfield 74, 3) := by decide +kernel
theorem dR_addEquation_205 : decode prog_14_method_97_code 205 = .ok (.bipush 30, 2) := by decide +kernel
theorem dR_addEquation_207 : decode prog_14_method_97_code 207 = .ok (.iload 4, 2) := by decide +kernel
theorem dR_addEquation_209 : decode prog_14_method_97_code 209 = .ok (.imul, 1) := by decide +kernel
theorem dR_addEquation_210 : decode prog_14_method_97_code 210 = .ok (.iload 6, 2) := by decide +kernel
theorem dR_addEquation_212 : decode prog_14_method_97_code 212 = .ok (.iadd, 1) := by decide +kernel
theorem dR_addEquation_213 : decode prog_14_method_97_code 213 = .ok (.aload_n 0, 1) := by decide +kernel
theorem dR_addEquation_214 : decode prog_14_method_97_code 214 = .ok (.getfield 74, 3) := by decide +kernel
theorem dR_addEquation_217 : decode prog_14_method_97_code 217 = .ok (.bipush 30, 2) := by decide +kernel
theorem dR_addEquation_219 : decode prog_14_method_97_code 219 = .ok (.iload 4, 2) := by decide +kernel
theorem dR_addEquation_221 : decode prog_14_method_97_code 221 = .ok (.imul, 1) := by decide +kernel
theorem dR_addEquation_222 : decode prog_14_method_97_code 222 = .ok (.iload 6, 2) := by decide +kernel
theorem dR_addEquation_224 : decode prog_14_method_97_code 224 = .ok (.iadd, 1) := by decide +kernel
theorem dR_addEquation_225 : decode prog_14_method_97_code 225 = .ok (.iaload, 1) := by decide +kernel
theorem dR_addEquation_226 : decode prog_14_method_97_code 226 = .ok (.iload 5, 2) := by decide +kernel
theorem dR_addEquation_228 : decode prog_14_method_97_code 228 = .ok (.aload_n 0, 1) := by decide +kernel
theorem dR_addEquation_229 : decode prog_14_method_97_code 229 = .ok (.getfield 74, 3) := by decide +kernel
theorem dR_addEquation_232 : decode prog_14_method_97_code 232 = .ok (.bipush 30, 2) := by decide +kernel
theorem dR_addEquation_234 : decode prog_14_method_97_code 234 = .ok (.aload_n 0, 1) := by decide +kernel
theorem dR_addEquation_235 : decode prog_14_method_97_code 235 = .ok (.getfield 423, 3) := by decide +kernel
theorem dR_addEquation_238 : decode prog_14_method_97_code 238 = .ok (.imul, 1) := by decide +kernel
theorem dR_addEquation_239 : decode prog_14_method_97_code 239 = .ok (.iload 6, 2) := by decide +kernel
theorem dR_addEquation_241 : decode prog_14_method_97_code 241 = .ok (.iadd, 1) := by decide +kernel
theorem dR_addEquation_242 : decode prog_14_method_97_code 242 = .ok (.iaload, 1) := by decide +kernel
theorem dR_addEquation_243 : decode prog_14_method_97_code 243 = .ok (.imul, 1) := by decide +kernel
theorem dR_addEquation_244 : decode prog_14_method_97_code 244 = .ok (.isub, 1) := by decide +kernel
theorem dR_addEquation_245 : decode prog_14_method_97_code 245 = .ok (.aload_n 0, 1) := by decide +kernel
theorem dR_addEquation_246 : decode prog_14_method_97_code 246 = .ok (.getfield 250, 3) := by decide +kernel
theorem dR_addEquation_249 : decode prog_14_method_97_code 249 = .ok (.invokestatic 264, 3) := by decide +kernel
theorem dR_addEquation_252 : decode prog_14_method_97_code 252 = .ok (.iastore, 1) := by decide +kernel
theorem dR_addEquation_253 : decode prog_14_method_97_code 253 = .ok (.iinc 6 1, 3) := by decide +kernel
theorem dR_addEquation_256 : decode prog_14_method_97_code 256 = .ok (.goto (-66), 3) := by decide +kernel
theorem dR_addEquation_259 : decode prog_14_method_97_code 259 = .ok (.iinc 4 1, 3) := by decide +kernel
theorem dR_addEquation_262 : decode prog_14_method_97_code 262 = .ok (.goto (-98), 3) := by decide +kernel
theorem dR_addEquation_265 : decode prog_14_method_97_code 265 = .ok (.aload_n 0, 1) := by decide +kernel
theorem dR_addEquation_266 : decode prog_14_method_97_code 266 = .ok (.dup, 1) := by decide +kernel
theorem dR_addEquation_267 : decode prog_14_method_97_code 267 = .ok (.getfield 423, 3) := by decide +kernel
theorem dR_addEquation_270 : decode prog_14_method_97_code 270 = .ok (.iconst 1, 1) := by decide +kernel
theorem dR_addEquation_271 : decode prog_14_method_97_code 271 = .ok (.iadd, 1) := by decide +kernel
theorem dR_addEquation_272 : decode prog_14_method_97_code 272 = .ok (.putfield 423, 3) := by decide +kernel
theorem dR_addEquation_275 : decode prog_14_method_97_code 275 = .ok (.return_, 1) := by decide +kernel
theorem t_R_addEquation {d : Nat} {x1 : Int} {σ : SG} {Q : Int → SG → Prop} (h : inI x1 → (L (d + 1) M_R_addEquation 2 [vA 161, vI x1, vI 0, vU, vU, vU, vU] [] σ Q)) : Tri (d + 1) M_R_addEquation [vA 161, vI x1] σ Q :=
  Tri_intro rfl (Nat.le_of_ble_eq_true rfl) (ls := [vA 161, vI x1, vU, vU, vU, vU, vU]) rfl (fun hok => L_iconst dR_addEquation_0 in_0 (L_istore_n dR_addEquation_1 (by decide) ((h (hok _ (List.mem_of_getElem? (i := 1) rfl))))))
theorem s_R_addEquation_2 {d : Nat} {x1 x2 : Int} {σ : SG} {Q : Int → SG → Prop} (h : (σ 161 39 ≤ x2 → Tri d M_R_leadOfRow [vA 161, vA 180, vI 0, vI x1] σ (fun r2 σ2 => (0 ≤ r2 → (0 ≤ r2 ∧ r2 < 30) ∧ Tri d M_R_inverse [vA 161, vI (σ2 180 r2)] σ2 (fun r4 σ4 => L (d + 1) M_R_addEquation 120 [vA 161, vI x1, vI r2, vI r4, vI 0, vU, vU] [] σ4 Q)) ∧ (r2 < 0 → Q 0 σ2))) ∧ (x2 < σ 161 39 → Tri d M_R_leadOfRow [vA 161, vA 179, vI (w32 (30 * x2)), vI x1] σ (fun r5 σ5 => (0 ≤ r5 ∧ r5 < 30) ∧ L (d + 1) M_R_addEquation 32 [vA 161, vI x1, vI x2, vI (σ5 180 r5), vI 0, vU, vU] [] σ5 Q))) : L (d + 1) M_R_addEquation 2 [vA 161, vI x1, vI x2, vU, vU, vU, vU] [] σ Q :=
  L_iload_n dR_addEquation_2 rfl (L_aload_n dR_addEquation_3 rfl (L_getf fw_R_423 rfl dR_addEquation_4 ⟨ob_161, L_icmp_ge dR_addEquation_7 (by decide) ⟨fun c1 => L_aload_n dR_addEquation_90 rfl (L_aload_n dR_addEquation_91 rfl (L_getF (b := 180) fw_R_77 rfl rfl (by decide) dR_addEquation_92 ⟨ob_161, L_iconst dR_addEquation_95 in_0 (L_iload_n dR_addEquation_96 rfl (L_callVI rfl cv_R_leadOfRow (As := [vA 180, vI 0, vI x1]) rfl (tk9 43 rfl rfl) rfl (Nat.le_of_ble_eq_true rfl) dR_addEquation_97 ⟨ob_161, Tri.mono (h.1 c1) (fun r2 σ2 q2 => L_istore_n dR_addEquation_100 (by decide) (L_iload_n dR_addEquation_101 rfl (L_if_ge dR_addEquation_102 (by decide) ⟨fun c3 => L_aload_n dR_addEquation_106 rfl (L_aload_n dR_addEquation_107 rfl (L_getF (b := 180) fw_R_77 rfl rfl (by decide) dR_addEquation_108 ⟨ob_161, L_iload_n dR_addEquation_111 rfl (L_ialoadL kd_180 dR_addEquation_112 ⟨(q2.1 c3).1, L_callVI rfl cv_R_inverse (As := [vI (σ2 180 r2)]) rfl (tk8 238 rfl rfl) rfl (Nat.le_of_ble_eq_true rfl) dR_addEquation_113 ⟨ob_161, Tri.mono ((q2.1 c3).2) (fun r4 σ4 q4 => L_istore_n dR_addEquation_116 (by decide) (L_iconst dR_addEquation_117 in_0 (L_istore dR_addEquation_118 (by decide) q4)))⟩⟩)⟩)), fun c3 => L_return rfl dR_addEquation_105 (q2.2 c3)⟩)))⟩))⟩)), fun c1 => L_aload_n dR_addEquation_10 rfl (L_getF (b := 180) fw_R_77 rfl rfl (by decide) dR_addEquation_11 ⟨ob_161, L_aload_n dR_addEquation_14 rfl (L_aload_n dR_addEquation_15 rfl (L_getF (b := 179) fw_R_74 rfl rfl (by decide) dR_addEquation_16 ⟨ob_161, L_bipush dR_addEquation_19 bp_30 in_30 (L_iload_n dR_addEquation_21 rfl (L_imul dR_addEquation_22 (L_iload_n dR_addEquation_23 rfl (L_callVI rfl cv_R_leadOfRow (As := [vA 179, vI (w32 (30 * x2)), vI x1]) rfl (tk9 43 rfl rfl) rfl (Nat.le_of_ble_eq_true rfl) dR_addEquation_24 ⟨ob_161, Tri.mono (h.2 c1) (fun r5 σ5 q5 => L_ialoadL kd_180 dR_addEquation_27 ⟨q5.1, L_istore_n dR_addEquation_28 (by decide) (L_iconst dR_addEquation_29 in_0 (L_istore dR_addEquation_30 (by decide) q5.2))⟩)⟩))))⟩))⟩)⟩⟩))
theorem s_R_addEquation_120 {d : Nat} {x1 x2 x3 x4 : Int} {σ : SG} {Q : Int → SG → Prop} (h : (x1 ≤ x4 → L (d + 1) M_R_addEquation 164 [vA 161, vI x1, vI x2, vU, vI 0, vU, vU] [] σ Q) ∧ (x4 < x1 → (0 ≤ x4 ∧ x4 < 30) ∧ σ 161 26 ≠ 0 ∧ (0 ≤ w32 ((w32 (30 * (σ 161 39))) + x4) ∧ w32 ((w32 (30 * (σ 161 39))) + x4) < 1800) ∧ (∀ σ2, σ2 = up σ 179 (w32 ((w32 (30 * (σ 161 39))) + x4)) ((w32 ((σ 180 x4) * x3)).tmod (σ 161 26)) → L (d + 1) M_R_addEquation 120 [vA 161, vI x1, vI x2, vI x3, vI (w32 (x4 + 1)), vU, vU] [] σ2 Q))) : L (d + 1) M_R_addEquation 120 [vA 161, vI x1, vI x2, vI x3, vI x4, vU, vU] [] σ Q :=
  L_iload dR_addEquation_120 rfl (L_iload_n dR_addEquation_122 rfl (L_icmp_ge dR_addEquation_123 (by decide) ⟨fun c1 => L_iconst dR_addEquation_161 in_0 (L_istore dR_addEquation_162 (by decide) (L_weak [true, true, true, false, true, true, true] (h.1 c1))), fun c1 => L_aload_n dR_addEquation_126 rfl (L_getF (b := 179) fw_R_74 rfl rfl (by decide) dR_addEquation_127 ⟨ob_161, L_bipush dR_addEquation_130 bp_30 in_30 (L_aload_n dR_addEquation_132 rfl (L_getf fw_R_423 rfl dR_addEquation_133 ⟨ob_161, L_imul dR_addEquation_136 (L_iload dR_addEquation_137 rfl (L_iadd dR_addEquation_139 (L_aload_n dR_addEquation_140 rfl (L_getF (b := 180) fw_R_77 rfl rfl (by decide) dR_addEquation_141 ⟨ob_161, L_iload dR_addEquation_144 rfl (L_ialoadL kd_180 dR_addEquation_146 ⟨(h.2 c1).1, L_iload_n dR_addEquation_147 rfl (L_imul dR_addEquation_148 (L_aload_n dR_addEquation_149 rfl (L_getf fw_R_250 rfl dR_addEquation_150 ⟨ob_161, L_irem dR_addEquation_153 ⟨(h.2 c1).2.1, L_iastoreL (by decide) kd_179 dR_addEquation_154 ⟨(h.2 c1).2.2.1, fun σ2 e2 => L_iinc dR_addEquation_155 rfl (by decide) (L_goto dR_addEquation_158 (by decide) ((h.2 c1).2.2.2 σ2 e2))⟩⟩⟩)))⟩)⟩))))⟩))⟩)⟩))
theorem s_R_addEquation_32 {d : Nat} {x1 x2 x3 x4 : Int} {σ : SG} {Q : Int → SG → Prop} (h : (x1 ≤ x4 → L (d + 1) M_R_addEquation 2 [vA 161, vI x1, vI (w32 (x2 + 1)), vU, vU, vU, vU] [] σ Q) ∧ (x4 < x1 → (x3 = 0 → L (d + 1) M_R_addEquation 2 [vA 161, vI x1, vI (w32 (x2 + 1)), vU, vU, vU, vU] [] σ Q) ∧ (x3 ≠ 0 → (0 ≤ x4 ∧ x4 < 30) ∧ (0 ≤ w32 ((w32 (30 * x2)) + x4) ∧ w32 ((w32 (30 * x2)) + x4) < 1800) ∧ Tri d M_R_left [vI (w32 ((σ 180 x4) - (w32 (x3 * (σ 179 (w32 ((w32 (30 * x2)) + x4))))))), vI (σ 161 26)] σ (fun r3 σ3 => (0 ≤ x4 ∧ x4 < 30) ∧ (∀ σ4, σ4 = up σ3 180 x4 r3 → L (d + 1) M_R_addEquation 32 [vA 161, vI x1, vI x2, vI x3, vI (w32 (x4 + 1)), vU, vU] [] σ4 Q))))) : L (d + 1) M_R_addEquation 32 [vA 161, vI x1, vI x2, vI x3, vI x4, vU, vU] [] σ Q :=
  L_iload dR_addEquation_32 rfl (L_iload_n dR_addEquation_34 rfl (L_icmp_ge dR_addEquation_35 (by decide) ⟨fun c1 => L_iinc dR_addEquation_84 rfl (by decide) (L_goto dR_addEquation_87 (by decide) (L_weak [true, true, true, false, false, true, true] (h.1 c1))), fun c1 => L_iload_n dR_addEquation_38 rfl (L_if_eq dR_addEquation_39 (by decide) ⟨fun c2 => L_iinc dR_addEquation_84 rfl (by decide) (L_goto dR_addEquation_87 (by decide) (L_weak [true, true, true, false, false, true, true] ((h.2 c1).1 c2))), fun c2 => L_aload_n dR_addEquation_42 rfl (L_getF (b := 180) fw_R_77 rfl rfl (by decide) dR_addEquation_43 ⟨ob_161, L_iload dR_addEquation_46 rfl (L_aload_n dR_addEquation_48 rfl (L_getF (b := 180) fw_R_77 rfl rfl (by decide) dR_addEquation_49 ⟨ob_161, L_iload dR_addEquation_52 rfl (L_ialoadL kd_180 dR_addEquation_54 ⟨((h.2 c1).2 c2).1, L_iload_n dR_addEquation_55 rfl (L_aload_n dR_addEquation_56 rfl (L_getF (b := 179) fw_R_74 rfl rfl (by decide) dR_addEquation_57 ⟨ob_161, L_bipush dR_addEquation_60 bp_30 in_30 (L_iload_n dR_addEquation_62 rfl (L_imul dR_addEquation_63 (L_iload dR_addEquation_64 rfl (L_iadd dR_addEquation_66 (L_ialoadL kd_179 dR_addEquation_67 ⟨((h.2 c1).2 c2).2.1, L_imul dR_addEquation_68 (L_isub dR_addEquation_69 (L_aload_n dR_addEquation_70 rfl (L_getf fw_R_250 rfl dR_addEquation_71 ⟨ob_161, L_callSI rfl cs_R_left (As := [vI (w32 ((σ 180 x4) - (w32 (x3 * (σ 179 (w32 ((w32 (30 * x2)) + x4))))))), vI (σ 161 26)]) rfl (tk8 93 rfl rfl) rfl (Nat.le_of_ble_eq_true rfl) dR_addEquation_74 (Tri.mono (((h.2 c1).2 c2).2.2) (fun r3 σ3 q3 => L_iastoreL (by decide) kd_180 dR_addEquation_77 ⟨q3.1, fun σ4 e4 => L_iinc dR_addEquation_78 rfl (by decide) (L_goto dR_addEquation_81 (by decide) (q3.2 σ4 e4))⟩))⟩)))⟩)))))⟩))⟩)⟩))⟩)⟩)⟩))
theorem s_R_addEquation_164 {d : Nat} {x1 x2 x4 : Int} {σ : SG} {Q : Int → SG → Prop} (h : (σ 161 39 ≤ x4 → (∀ σ2, σ2 = up σ 161 39 (w32 ((σ 161 39) + 1)) → Q 0 σ2)) ∧ (x4 < σ 161 39 → (0 ≤ w32 ((w32 (30 * x4)) + x2) ∧ w32 ((w32 (30 * x4)) + x2) < 1800) ∧ L (d + 1) M_R_addEquation 190 [vA 161, vI x1, vI x2, vU, vI x4, vI (σ 179 (w32 ((w32 (30 * x4)) + x2))), vI 0] [] σ Q)) : L (d + 1) M_R_addEquation 164 [vA 161, vI x1, vI x2, vU, vI x4, vU, vU] [] σ Q :=
  L_iload dR_addEquation_164 rfl (L_aload_n dR_addEquation_166 rfl (L_getf fw_R_423 rfl dR_addEquation_167 ⟨ob_161, L_icmp_ge dR_addEquation_170 (by decide) ⟨fun c1 => L_aload_n dR_addEquation_265 rfl (L_dup dR_addEquation_266 n21 (L_getf fw_R_423 rfl dR_addEquation_267 ⟨ob_161, L_iconst dR_addEquation_270 in_1 (L_iadd dR_addEquation_271 (L_putfN fp_R_423 rfl rfl (fun _ => ⟨rfl, rfl⟩) dR_addEquation_272 ⟨ob_161, fun σ2 e2 => L_return rfl dR_addEquation_275 ((h.1 c1) σ2 e2)⟩))⟩)), fun c1 => L_aload_n dR_addEquation_173 rfl (L_getF (b := 179) fw_R_74 rfl rfl (by decide) dR_addEquation_174 ⟨ob_161, L_bipush dR_addEquation_177 bp_30 in_30 (L_iload dR_addEquation_179 rfl (L_imul dR_addEquation_181 (L_iload_n dR_addEquation_182 rfl (L_iadd dR_addEquation_183 (L_ialoadL kd_179 dR_addEquation_184 ⟨(h.2 c1).1, L_istore dR_addEquation_185 (by decide) (L_iconst dR_addEquation_187 in_0 (L_istore dR_addEquation_188 (by decide) ((h.2 c1).2)))⟩)))))⟩)⟩⟩))
theorem s_R_addEquation_190 {d : Nat} {x1 x2 x4 x5 x6 : Int} {σ : SG} {Q : Int → SG → Prop} (h : (x1 ≤ x6 → L (d + 1) M_R_addEquation 164 [vA 161, vI x1, vI x2, vU, vI (w32 (x4 + 1)), vU, vU] [] σ Q) ∧ (x6 < x1 → (x5 = 0 → L (d + 1) M_R_addEquation 164 [vA 161, vI x1, vI x2, vU, vI (w32 (x4 + 1)), vU, vU] [] σ Q) ∧ (x5 ≠ 0 → (0 ≤ w32 ((w32 (30 * x4)) + x6) ∧ w32 ((w32 (30 * x4)) + x6) < 1800) ∧ (0 ≤ w32 ((w32 (30 * (σ 161 39))) + x6) ∧ w32 ((w32 (30 * (σ 161 39))) + x6) < 1800) ∧ Tri d M_R_left [vI (w32 ((σ 179 (w32 ((w32 (30 * x4)) + x6))) - (w32 (x5 * (σ 179 (w32 ((w32 (30 * (σ 161 39))) + x6))))))), vI (σ 161 26)] σ (fun r3 σ3 => (0 ≤ w32 ((w32 (30 * x4)) + x6) ∧ w32 ((w32 (30 * x4)) + x6) < 1800) ∧ (∀ σ4, σ4 = up σ3 179 (w32 ((w32 (30 * x4)) + x6)) r3 → L (d + 1) M_R_addEquation 190 [vA 161, vI x1, vI x2, vU, vI x4, vI x5, vI (w32 (x6 + 1))] [] σ4 Q))))) : L (d + 1) M_R_addEquation 190 [vA 161, vI x1, vI x2, vU, vI x4, vI x5, vI x6] [] σ Q :=
  L_iload dR_addEquation_190 rfl (L_iload_n dR_addEquation_192 rfl (L_icmp_ge dR_addEquation_193 (by decide) ⟨fun c1 => L_iinc dR_addEquation_259 rfl (by decide) (L_goto dR_addEquation_262 (by decide) (L_weak [true, true, true, true, true, false, false] (h.1 c1))), fun c1 => L_iload dR_addEquation_196 rfl (L_if_eq dR_addEquation_198 (by decide) ⟨fun c2 => L_iinc dR_addEquation_259 rfl (by decide) (L_goto dR_addEquation_262 (by decide) (L_weak [true, true, true, true, true, false, false] ((h.2 c1).1 c2))), fun c2 => L_aload_n dR_addEquation_201 rfl (L_getF (b := 179) fw_R_74 rfl rfl (by decide) dR_addEquation_202 ⟨ob_161, L_bipush dR_addEquation_205 bp_30 in_30 (L_iload dR_addEquation_207 rfl (L_imul dR_addEquation_209 (L_iload dR_addEquation_210 rfl (L_iadd dR_addEquation_212 (L_aload_n dR_addEquation_213 rfl (L_getF (b := 179) fw_R_74 rfl rfl (by decide) dR_addEquation_214 ⟨ob_161, L_bipush dR_addEquation_217 bp_30 in_30 (L_iload dR_addEquation_219 rfl (L_imul dR_addEquation_221 (L_iload dR_addEquation_222 rfl (L_iadd dR_addEquation_224 (L_ialoadL kd_179 dR_addEquation_225 ⟨((h.2 c1).2 c2).1, L_iload dR_addEquation_226 rfl (L_aload_n dR_addEquation_228 rfl (L_getF (b := 179) fw_R_74 rfl rfl (by decide) dR_addEquation_229 ⟨ob_161, L_bipush dR_addEquation_232 bp_30 in_30 (L_aload_n dR_addEquation_234 rfl (L_getf fw_R_423 rfl dR_addEquation_235 ⟨ob_161, L_imul dR_addEquation_238 (L_iload dR_addEquation_239 rfl (L_iadd dR_addEquation_241 (L_ialoadL kd_179 dR_addEquation_242 ⟨((h.2 c1).2 c2).2.1, L_imul dR_addEquation_243 (L_isub dR_addEquation_244 (L_aload_n dR_addEquation_245 rfl (L_getf fw_R_250 rfl dR_addEquation_246 ⟨ob_161, L_callSI rfl cs_R_left (As := [vI (w32 ((σ 179 (w32 ((w32 (30 * x4)) + x6))) - (w32 (x5 * (σ 179 (w32 ((w32 (30 * (σ 161 39))) + x6))))))), vI (σ 161 26)]) rfl (tk8 93 rfl rfl) rfl (Nat.le_of_ble_eq_true rfl) dR_addEquation_249 (Tri.mono (((h.2 c1).2 c2).2.2) (fun r3 σ3 q3 => L_iastoreL (by decide) kd_179 dR_addEquation_252 ⟨q3.1, fun σ4 e4 => L_iinc dR_addEquation_253 rfl (by decide) (L_goto dR_addEquation_256 (by decide) (q3.2 σ4 e4))⟩))⟩)))⟩)))⟩))⟩))⟩)))))⟩))))))⟩)⟩)⟩))
theorem dR_centreSize_0 : decode prog_14_method_98_code 0 = .ok (.aload_n 0, 1) := by decide +kernel
theorem dR_centreSize_1 : decode prog_14_method_98_code 1 = .ok (.invokevirtual 430, 3) := by decide +kernel
theorem dR_centreSize_4 : decode prog_14_method_98_code 4 = .ok (.iconst 0, 1) := by decide +kernel
theorem dR_centreSize_5 : decode prog_14_method_98_code 5 = .ok (.istore_n 1, 1) := by decide +kernel
theorem dR_centreSize_6 : decode prog_14_method_98_code 6 = .ok (.iload_n 1, 1) := by decide +kernel
theorem dR_centreSize_7 : decode prog_14_method_98_code 7 = .ok (.aload_n 0, 1) := by decide +kernel
theorem dR_centreSize_8 : decode prog_14_method_98_code 8 = .ok (.getfield 253, 3) := by decide +kernel
theorem dR_centreSize_11 : decode prog_14_method_98_code 11 = .ok (.if_icmp .ge 62, 3) := by decide +kernel
theorem dR_centreSize_14 : decode prog_14_method_98_code 14 = .ok (.iconst 0, 1) := by decide +kernel
theorem dR_centreSize_15 : decode prog_14_method_98_code 15 = .ok (.istore_n 2, 1) := by decide +kernel
theorem dR_centreSize_16 : decode prog_14_method_98_code 16 = .ok (.iload_n 2, 1) := by decide +kernel
theorem dR_centreSize_17 : decode prog_14_method_98_code 17 = .ok (.aload_n 0, 1) := by decide +kernel
theorem dR_centreSize_18 : decode prog_14_method_98_code 18 = .ok (.getfield 253, 3) := by decide +kernel
theorem dR_centreSize_21 : decode prog_14_method_98_code 21 = .ok (.if_icmp .ge 46, 3) := by decide +kernel
theorem dR_centreSize_24 : decode prog_14_method_98_code 24 = .ok (.iconst 0, 1) := by decide +kernel
theorem dR_centreSize_25 : decode prog_14_method_98_code 25 = .ok (.istore_n 3, 1) := by decide +kernel
theorem dR_centreSize_26 : decode prog_14_method_98_code 26 = .ok (.iload_n 3, 1) := by decide +kernel
theorem dR_centreSize_27 : decode prog_14_method_98_code 27 = .ok (.aload_n 0, 1) := by decide +kernel
theorem dR_centreSize_28 : decode prog_14_method_98_code 28 = .ok (.getfield 253, 3) := by decide +kernel
theorem dR_centreSize_31 : decode prog_14_method_98_code 31 = .ok (.if_icmp .ge 22, 3) := by decide +kernel
theorem dR_centreSize_34 : decode prog_14_method_98_code 34 = .ok (.aload_n 0, 1) := by decide +kernel
theorem dR_centreSize_35 : decode prog_14_method_98_code 35 = .ok (.getfield 77, 3) := by decide +kernel
theorem dR_centreSize_38 : decode prog_14_method_98_code 38 = .ok (.iload_n 3, 1) := by decide +kernel
theorem dR_centreSize_39 : decode prog_14_method_98_code 39 = .ok (.aload_n 0, 1) := by decide +kernel
theorem dR_centreSize_40 : decode prog_14_method_98_code 40 = .ok (.iload_n 3, 1) := by decide +kernel
theorem dR_centreSize_41 : decode prog_14_method_98_code 41 = .ok (.iload_n 1, 1) := by decide +kernel
theorem dR_centreSize_42 : decode prog_14_method_98_code 42 = .ok (.iload_n 2, 1) := by decide +kernel
theorem dR_centreSize_43 : decode prog_14_method_98_code 43 = .ok (.invokevirtual 327, 3) := by decide +kernel
theorem dR_centreSize_46 : decode prog_14_method_98_code 46 = .ok (.iastore, 1) := by decide +kernel
theorem dR_centreSize_47 : decode prog_14_method_98_code 47 = .ok (.iinc 3 1, 3) := by decide +kernel
theorem dR_centreSize_50 : decode prog_14_method_98_code 50 = .ok (.goto (-24), 3) := by decide +kernel
theorem dR_centreSize_53 : decode prog_14_method_98_code 53 = .ok (.aload_n 0, 1) := by decide +kernel
theorem dR_centreSize_54 : decode prog_14_method_98_code 54 = .ok (.aload_n 0, 1) := by decide +kernel
theorem dR_centreSize_55 : decode prog_14_method_98_code 55 = .ok (.getfield 253, 3) := by decide +kernel
theorem dR_centreSize_58 : decode prog_14_method_98_code 58 = .ok (.invokevirtual 433, 3) := by decide +kernel
theorem dR_centreSize_61 : decode prog_14_method_98_code 61 = .ok (.iinc 2 1, 3) := by decide +kernel
theorem dR_centreSize_64 : decode prog_14_method_98_code 64 = .ok (.goto (-48), 3) := by decide +kernel
theorem dR_centreSize_67 : decode prog_14_method_98_code 67 = .ok (.iinc 1 1, 3) := by decide +kernel
theorem dR_centreSize_70 : decode prog_14_method_98_code 70 = .ok (.goto (-64), 3) := by decide +kernel
theorem dR_centreSize_73 : decode prog_14_method_98_code 73 = .ok (.aload_n 0, 1) := by decide +kernel
theorem dR_centreSize_74 : decode prog_14_method_98_code 74 = .ok (.getfield 253, 3) := by decide +kernel
theorem dR_centreSize_77 : decode prog_14_method_98_code 77 = .ok (.aload_n 0, 1) := by decide +kernel
theorem dR_centreSize_78 : decode prog_14_method_98_code 78 = .ok (.getfield 423, 3) := by decide +kernel
theorem dR_centreSize_81 : decode prog_14_method_98_code 81 = .ok (.isub, 1) := by decide +kernel
theorem dR_centreSize_82 : decode prog_14_method_98_code 82 = .ok (.ireturn, 1) := by decide +kernel
theorem t_R_centreSize {d : Nat} {σ : SG} {Q : Int → SG → Prop} (h : Tri d M_R_noRows [vA 161] σ (fun r1 σ1 => L (d + 1) M_R_centreSize 6 [vA 161, vI 0, vU, vU] [] σ1 Q)) : Tri (d + 1) M_R_centreSize [vA 161] σ Q :=
  Tri_intro rfl (Nat.le_of_ble_eq_true rfl) (ls := [vA 161, vU, vU, vU]) rfl (fun hok => L_aload_n dR_centreSize_0 rfl (L_callVV rfl cv_R_noRows (As := []) rfl (tk9 35 rfl rfl) rfl (Nat.le_of_ble_eq_true rfl) dR_centreSize_1 ⟨ob_161, Tri.mono (h) (fun r1 σ1 q1 => L_iconst dR_centreSize_4 in_0 (L_istore_n dR_centreSize_5 (by decide) q1))⟩))
theorem s_R_centreSize_6 {d : Nat} {x1 : Int} {σ : SG} {Q : Int → SG → Prop} (h : (σ 161 27 ≤ x1 → Q (w32 ((σ 161 27) - (σ 161 39))) σ) ∧ (x1 < σ 161 27 → L (d + 1) M_R_centreSize 16 [vA 161, vI x1, vI 0, vU] [] σ Q)) : L (d + 1) M_R_centreSize 6 [vA 161, vI x1, vU, vU] [] σ Q :=
  L_iload_n dR_centreSize_6 rfl (L_aload_n dR_centreSize_7 rfl (L_getf fw_R_253 rfl dR_centreSize_8 ⟨ob_161, L_icmp_ge dR_centreSize_11 (by decide) ⟨fun c1 => L_aload_n dR_centreSize_73 rfl (L_getf fw_R_253 rfl dR_centreSize_74 ⟨ob_161, L_aload_n dR_centreSize_77 rfl (L_getf fw_R_423 rfl dR_centreSize_78 ⟨ob_161, L_isub dR_centreSize_81 (L_ireturn rfl dR_centreSize_82 (h.1 c1))⟩)⟩), fun c1 => L_iconst dR_centreSize_14 in_0 (L_istore_n dR_centreSize_15 (by decide) (h.2 c1))⟩⟩))
theorem s_R_centreSize_16 {d : Nat} {x1 x2 : Int} {σ : SG} {Q : Int → SG → Prop} (h : (σ 161 27 ≤ x2 → L (d + 1) M_R_centreSize 6 [vA 161, vI (w32 (x1 + 1)), vU, vU] [] σ Q) ∧ (x2 < σ 161 27 → L (d + 1) M_R_centreSize 26 [vA 161, vI x1, vI x2, vI 0] [] σ Q)) : L (d + 1) M_R_centreSize 16 [vA 161, vI x1, vI x2, vU] [] σ Q :=
  L_iload_n dR_centreSize_16 rfl (L_aload_n dR_centreSize_17 rfl (L_getf fw_R_253 rfl dR_centreSize_18 ⟨ob_161, L_icmp_ge dR_centreSize_21 (by decide) ⟨fun c1 => L_iinc dR_centreSize_67 rfl (by decide) (L_goto dR_centreSize_70 (by decide) (L_weak [true, true, false, true] (h.1 c1))), fun c1 => L_iconst dR_centreSize_24 in_0 (L_istore_n dR_centreSize_25 (by decide) (h.2 c1))⟩⟩))
theorem s_R_centreSize_26 {d : Nat} {x1 x2 x3 : Int} {σ : SG} {Q : Int → SG → Prop} (h : (σ 161 27 ≤ x3 → Tri d M_R_addEquation [vA 161, vI (σ 161 27)] σ (fun r2 σ2 => L (d + 1) M_R_centreSize 16 [vA 161, vI x1, vI (w32 (x2 + 1)), vU] [] σ2 Q)) ∧ (x3 < σ 161 27 → Tri d M_R_table [vA 161, vI x3, vI x1, vI x2] σ (fun r3 σ3 => (0 ≤ x3 ∧ x3 < 30) ∧ (∀ σ4, σ4 = up σ3 180 x3 r3 → L (d + 1) M_R_centreSize 26 [vA 161, vI x1, vI x2, vI (w32 (x3 + 1))] [] σ4 Q)))) : L (d + 1) M_R_centreSize 26 [vA 161, vI x1, vI x2, vI x3] [] σ Q :=
  L_iload_n dR_centreSize_26 rfl (L_aload_n dR_centreSize_27 rfl (L_getf fw_R_253 rfl dR_centreSize_28 ⟨ob_161, L_icmp_ge dR_centreSize_31 (by decide) ⟨fun c1 => L_aload_n dR_centreSize_53 rfl (L_aload_n dR_centreSize_54 rfl (L_getf fw_R_253 rfl dR_centreSize_55 ⟨ob_161, L_callVV rfl cv_R_addEquation (As := [vI (σ 161 27)]) rfl (tk9 39 rfl rfl) rfl (Nat.le_of_ble_eq_true rfl) dR_centreSize_58 ⟨ob_161, Tri.mono (h.1 c1) (fun r2 σ2 q2 => L_iinc dR_centreSize_61 rfl (by decide) (L_goto dR_centreSize_64 (by decide) (L_weak [true, true, true, false] q2)))⟩⟩)), fun c1 => L_aload_n dR_centreSize_34 rfl (L_getF (b := 180) fw_R_77 rfl rfl (by decide) dR_centreSize_35 ⟨ob_161, L_iload_n dR_centreSize_38 rfl (L_aload_n dR_centreSize_39 rfl (L_iload_n dR_centreSize_40 rfl (L_iload_n dR_centreSize_41 rfl (L_iload_n dR_centreSize_42 rfl (L_callVI rfl cv_R_table (As := [vI x3, vI x1, vI x2]) rfl (tk8 121 rfl rfl) rfl (Nat.le_of_ble_eq_true rfl) dR_centreSize_43 ⟨ob_161, Tri.mono (h.2 c1) (fun r3 σ3 q3 => L_iastoreL (by decide) kd_180 dR_centreSize_46 ⟨q3.1, fun σ4 e4 => L_iinc dR_centreSize_47 rfl (by decide) (L_goto dR_centreSize_50 (by decide) (q3.2 σ4 e4))⟩)⟩)))))⟩)⟩⟩))
theorem dR_centre_0 : decode prog_14_method_99_code 0 = .ok (.aload_n 0, 1) := by decide +kernel
theorem dR_centre_1 : decode prog_14_method_99_code 1 = .ok (.iconst 0, 1) := by decide +kernel
theorem dR_centre_2 : decode prog_14_method_99_code 2 = .ok (.putfield 132, 3) := by decide +kernel
theorem dR_centre_5 : decode prog_14_method_99_code 5 = .ok (.aload_n 0, 1) := by decide +kernel
theorem dR_centre_6 : decode prog_14_method_99_code 6 = .ok (.iconst 0, 1) := by decide +kernel
theorem dR_centre_7 : decode prog_14_method_99_code 7 = .ok (.putfield 135, 3) := by decide +kernel
theorem dR_centre_10 : decode prog_14_method_99_code 10 = .ok (.aload_n 0, 1) := by decide +kernel
theorem dR_centre_11 : decode prog_14_method_99_code 11 = .ok (.invokevirtual 348, 3) := by decide +kernel
theorem dR_centre_14 : decode prog_14_method_99_code 14 = .ok (.aload_n 0, 1) := by decide +kernel
theorem dR_centre_15 : decode prog_14_method_99_code 15 = .ok (.invokevirtual 436, 3) := by decide +kernel
theorem dR_centre_18 : decode prog_14_method_99_code 18 = .ok (.ireturn, 1) := by decide +kernel
theorem t_R_centre {d : Nat} {σ : SG} {Q : Int → SG → Prop} (h : (∀ σ1, σ1 = up σ 161 1 0 → (∀ σ2, σ2 = up σ1 161 0 0 → Tri d M_R_askNow [vA 161] σ2 (fun r3 σ3 => Tri d M_R_centreSize [vA 161] σ3 (fun r4 σ4 => Q r4 σ4))))) : Tri (d + 1) M_R_centre [vA 161] σ Q :=
  Tri_intro rfl (Nat.le_of_ble_eq_true rfl) (ls := [vA 161]) rfl (fun hok => L_aload_n dR_centre_0 rfl (L_iconst dR_centre_1 in_0 (L_putfN fp_R_132 rfl rfl (fun _ => ⟨rfl, rfl⟩) dR_centre_2 ⟨ob_161, fun σ1 e1 => L_aload_n dR_centre_5 rfl (L_iconst dR_centre_6 in_0 (L_putfN fp_R_135 rfl rfl (fun _ => ⟨rfl, rfl⟩) dR_centre_7 ⟨ob_161, fun σ2 e2 => L_aload_n dR_centre_10 rfl (L_callVV rfl cv_R_askNow (As := []) rfl (tk8 108 rfl rfl) rfl (Nat.le_of_ble_eq_true rfl) dR_centre_11 ⟨ob_161, Tri.mono ((h σ1 e1) σ2 e2) (fun r3 σ3 q3 => L_aload_n dR_centre_14 rfl (L_callVI rfl cv_R_centreSize (As := []) rfl (tk9 31 rfl rfl) rfl (Nat.le_of_ble_eq_true rfl) dR_centre_15 ⟨ob_161, Tri.mono q3 (fun r4 σ4 q4 => L_ireturn rfl dR_centre_18 q4)⟩))⟩)⟩))⟩)))
theorem dR_rankOf_0 : decode prog_14_method_100_code 0 = .ok (.aload_n 0, 1) := by decide +kernel
theorem dR_rankOf_1 : decode prog_14_method_100_code 1 = .ok (.iload_n 1, 1) := by decide +kernel
theorem dR_rankOf_2 : decode prog_14_method_100_code 2 = .ok (.aload_n 0, 1) := by decide +kernel
theorem dR_rankOf_3 : decode prog_14_method_100_code 3 = .ok (.getfield 62, 3) := by decide +kernel
theorem dR_rankOf_6 : decode prog_14_method_100_code 6 = .ok (.iconst 0, 1) := by decide +kernel
theorem dR_rankOf_7 : decode prog_14_method_100_code 7 = .ok (.invokevirtual 360, 3) := by decide +kernel
theorem dR_rankOf_10 : decode prog_14_method_100_code 10 = .ok (.iconst 0, 1) := by decide +kernel
theorem dR_rankOf_11 : decode prog_14_method_100_code 11 = .ok (.istore_n 2, 1) := by decide +kernel
theorem dR_rankOf_12 : decode prog_14_method_100_code 12 = .ok (.iconst 0, 1) := by decide +kernel
theorem dR_rankOf_13 : decode prog_14_method_100_code 13 = .ok (.istore_n 3, 1) := by decide +kernel
theorem dR_rankOf_14 : decode prog_14_method_100_code 14 = .ok (.iload_n 3, 1) := by decide +kernel
theorem dR_rankOf_15 : decode prog_14_method_100_code 15 = .ok (.aload_n 0, 1) := by decide +kernel
theorem dR_rankOf_16 : decode prog_14_method_100_code 16 = .ok (.getfield 253, 3) := by decide +kernel
theorem dR_rankOf_19 : decode prog_14_method_100_code 19 = .ok (.if_icmp .ge 51, 3) := by decide +kernel
theorem dR_rankOf_22 : decode prog_14_method_100_code 22 = .ok (.aload_n 0, 1) := by decide +kernel
theorem dR_rankOf_23 : decode prog_14_method_100_code 23 = .ok (.iload_n 3, 1) := by decide +kernel
theorem dR_rankOf_24 : decode prog_14_method_100_code 24 = .ok (.aload_n 0, 1) := by decide +kernel
theorem dR_rankOf_25 : decode prog_14_method_100_code 25 = .ok (.getfield 65, 3) := by decide +kernel
theorem dR_rankOf_28 : decode prog_14_method_100_code 28 = .ok (.invokevirtual 367, 3) := by decide +kernel
theorem dR_rankOf_31 : decode prog_14_method_100_code 31 = .ok (.aload_n 0, 1) := by decide +kernel
theorem dR_rankOf_32 : decode prog_14_method_100_code 32 = .ok (.aload_n 0, 1) := by decide +kernel
theorem dR_rankOf_33 : decode prog_14_method_100_code 33 = .ok (.getfield 62, 3) := by decide +kernel
theorem dR_rankOf_36 : decode prog_14_method_100_code 36 = .ok (.iconst 0, 1) := by decide +kernel
theorem dR_rankOf_37 : decode prog_14_method_100_code 37 = .ok (.aload_n 0, 1) := by decide +kernel
theorem dR_rankOf_38 : decode prog_14_method_100_code 38 = .ok (.getfield 65, 3) := by decide +kernel
theorem dR_rankOf_41 : decode prog_14_method_100_code 41 = .ok (.iconst 0, 1) := by decide +kernel
theorem dR_rankOf_42 : decode prog_14_method_100_code 42 = .ok (.aload_n 0, 1) := by decide +kernel
theorem dR_rankOf_43 : decode prog_14_method_100_code 43 = .ok (.getfield 68, 3) := by decide +kernel
theorem dR_rankOf_46 : decode prog_14_method_100_code 46 = .ok (.invokevirtual 340, 3) := by decide +kernel
theorem dR_rankOf_49 : decode prog_14_method_100_code 49 = .ok (.aload_n 0, 1) := by decide +kernel
theorem dR_rankOf_50 : decode prog_14_method_100_code 50 = .ok (.aload_n 0, 1) := by decide +kernel
theorem dR_rankOf_51 : decode prog_14_method_100_code 51 = .ok (.getfield 50, 3) := by decide +kernel
theorem dR_rankOf_54 : decode prog_14_method_100_code 54 = .ok (.iload_n 2, 1) := by decide +kernel
theorem dR_rankOf_55 : decode prog_14_method_100_code 55 = .ok (.aload_n 0, 1) := by decide +kernel
theorem dR_rankOf_56 : decode prog_14_method_100_code 56 = .ok (.getfield 68, 3) := by decide +kernel
theorem dR_rankOf_59 : decode prog_14_method_100_code 59 = .ok (.iconst 0, 1) := by decide +kernel
theorem dR_rankOf_60 : decode prog_14_method_100_code 60 = .ok (.invokevirtual 344, 3) := by decide +kernel
theorem dR_rankOf_63 : decode prog_14_method_100_code 63 = .ok (.istore_n 2, 1) := by decide +kernel
theorem dR_rankOf_64 : decode prog_14_method_100_code 64 = .ok (.iinc 3 1, 3) := by decide +kernel
theorem dR_rankOf_67 : decode prog_14_method_100_code 67 = .ok (.goto (-53), 3) := by decide +kernel
theorem dR_rankOf_70 : decode prog_14_method_100_code 70 = .ok (.iload_n 2, 1) := by decide +kernel
theorem dR_rankOf_71 : decode prog_14_method_100_code 71 = .ok (.ireturn, 1) := by decide +kernel
theorem t_R_rankOf {d : Nat} {x1 : Int} {σ : SG} {Q : Int → SG → Prop} (h : inI x1 → (Tri d M_R_parts2 [vA 161, vI x1, vA 175, vI 0] σ (fun r1 σ1 => L (d + 1) M_R_rankOf 14 [vA 161, vU, vI 0, vI 0] [] σ1 Q))) : Tri (d + 1) M_R_rankOf [vA 161, vI x1] σ Q :=
  Tri_intro rfl (Nat.le_of_ble_eq_true rfl) (ls := [vA 161, vI x1, vU, vU]) rfl (fun hok => L_aload_n dR_rankOf_0 rfl (L_iload_n dR_rankOf_1 rfl (L_aload_n dR_rankOf_2 rfl (L_getF (b := 175) fw_R_62 rfl rfl (by decide) dR_rankOf_3 ⟨ob_161, L_iconst dR_rankOf_6 in_0 (L_callVV rfl cv_R_parts2 (As := [vI x1, vA 175, vI 0]) rfl (tk8 153 rfl rfl) rfl (Nat.le_of_ble_eq_true rfl) dR_rankOf_7 ⟨ob_161, Tri.mono ((h (hok _ (List.mem_of_getElem? (i := 1) rfl)))) (fun r1 σ1 q1 => L_iconst dR_rankOf_10 in_0 (L_istore_n dR_rankOf_11 (by decide) (L_iconst dR_rankOf_12 in_0 (L_istore_n dR_rankOf_13 (by decide) (L_weak [true, false, true, true] q1)))))⟩)⟩))))
theorem s_R_rankOf_14 {d : Nat} {x2 x3 : Int} {σ : SG} {Q : Int → SG → Prop} (h : (σ 161 27 ≤ x3 → Q x2 σ) ∧ (x3 < σ 161 27 → Tri d M_R_unit [vA 161, vI x3, vA 176] σ (fun r2 σ2 => Tri d M_R_bracketOf [vA 161, vA 175, vI 0, vA 176, vI 0, vA 177] σ2 (fun r3 σ3 => Tri d M_R_join [vA 161, vA 171, vI x2, vA 177, vI 0] σ3 (fun r4 σ4 => L (d + 1) M_R_rankOf 14 [vA 161, vU, vI r4, vI (w32 (x3 + 1))] [] σ4 Q))))) : L (d + 1) M_R_rankOf 14 [vA 161, vU, vI x2, vI x3] [] σ Q :=
  L_iload_n dR_rankOf_14 rfl (L_aload_n dR_rankOf_15 rfl (L_getf fw_R_253 rfl dR_rankOf_16 ⟨ob_161, L_icmp_ge dR_rankOf_19 (by decide) ⟨fun c1 => L_iload_n dR_rankOf_70 rfl (L_ireturn rfl dR_rankOf_71 (h.1 c1)), fun c1 => L_aload_n dR_rankOf_22 rfl (L_iload_n dR_rankOf_23 rfl (L_aload_n dR_rankOf_24 rfl (L_getF (b := 176) fw_R_65 rfl rfl (by decide) dR_rankOf_25 ⟨ob_161, L_callVV rfl cv_R_unit (As := [vI x3, vA 176]) rfl (tk8 181 rfl rfl) rfl (Nat.le_of_ble_eq_true rfl) dR_rankOf_28 ⟨ob_161, Tri.mono (h.2 c1) (fun r2 σ2 q2 => L_aload_n dR_rankOf_31 rfl (L_aload_n dR_rankOf_32 rfl (L_getF (b := 175) fw_R_62 rfl rfl (by decide) dR_rankOf_33 ⟨ob_161, L_iconst dR_rankOf_36 in_0 (L_aload_n dR_rankOf_37 rfl (L_getF (b := 176) fw_R_65 rfl rfl (by decide) dR_rankOf_38 ⟨ob_161, L_iconst dR_rankOf_41 in_0 (L_aload_n dR_rankOf_42 rfl (L_getF (b := 177) fw_R_68 rfl rfl (by decide) dR_rankOf_43 ⟨ob_161, L_callVV rfl cv_R_bracketOf (As := [vA 175, vI 0, vA 176, vI 0, vA 177]) rfl (tk8 157 rfl rfl) rfl (Nat.le_of_ble_eq_true rfl) dR_rankOf_46 ⟨ob_161, Tri.mono q2 (fun r3 σ3 q3 => L_aload_n dR_rankOf_49 rfl (L_aload_n dR_rankOf_50 rfl (L_getF (b := 171) fw_R_50 rfl rfl (by decide) dR_rankOf_51 ⟨ob_161, L_iload_n dR_rankOf_54 rfl (L_aload_n dR_rankOf_55 rfl (L_getF (b := 177) fw_R_68 rfl rfl (by decide) dR_rankOf_56 ⟨ob_161, L_iconst dR_rankOf_59 in_0 (L_callVI rfl cv_R_join (As := [vA 171, vI x2, vA 177, vI 0]) rfl (tk8 230 rfl rfl) rfl (Nat.le_of_ble_eq_true rfl) dR_rankOf_60 ⟨ob_161, Tri.mono q3 (fun r4 σ4 q4 => L_istore_n dR_rankOf_63 (by decide) (L_iinc dR_rankOf_64 rfl (by decide) (L_goto dR_rankOf_67 (by decide) q4)))⟩)⟩))⟩)))⟩⟩))⟩))⟩)))⟩⟩)))⟩⟩))
theorem dR_centralizer_0 : decode prog_14_method_101_code 0 = .ok (.aload_n 0, 1) := by decide +kernel
theorem dR_centralizer_1 : decode prog_14_method_101_code 1 = .ok (.iconst 0, 1) := by decide +kernel
theorem dR_centralizer_2 : decode prog_14_method_101_code 2 = .ok (.putfield 132, 3) := by decide +kernel
theorem dR_centralizer_5 : decode prog_14_method_101_code 5 = .ok (.aload_n 0, 1) := by decide +kernel
theorem dR_centralizer_6 : decode prog_14_method_101_code 6 = .ok (.iconst 0, 1) := by decide +kernel
theorem dR_centralizer_7 : decode prog_14_method_101_code 7 = .ok (.putfield 135, 3) := by decide +kernel
theorem dR_centralizer_10 : decode prog_14_method_101_code 10 = .ok (.aload_n 0, 1) := by decide +kernel
theorem dR_centralizer_11 : decode prog_14_method_101_code 11 = .ok (.invokevirtual 348, 3) := by decide +kernel
theorem dR_centralizer_14 : decode prog_14_method_101_code 14 = .ok (.aload_n 0, 1) := by decide +kernel
theorem dR_centralizer_15 : decode prog_14_method_101_code 15 = .ok (.iload_n 1, 1) := by decide +kernel
theorem dR_centralizer_16 : decode prog_14_method_101_code 16 = .ok (.i2l, 1) := by decide +kernel
theorem dR_centralizer_17 : decode prog_14_method_101_code 17 = .ok (.invokevirtual 357, 3) := by decide +kernel
theorem dR_centralizer_20 : decode prog_14_method_101_code 20 = .ok (.ifCond .eq 16, 3) := by decide +kernel
theorem dR_centralizer_23 : decode prog_14_method_101_code 23 = .ok (.aload_n 0, 1) := by decide +kernel
theorem dR_centralizer_24 : decode prog_14_method_101_code 24 = .ok (.getfield 253, 3) := by decide +kernel
theorem dR_centralizer_27 : decode prog_14_method_101_code 27 = .ok (.aload_n 0, 1) := by decide +kernel
theorem dR_centralizer_28 : decode prog_14_method_101_code 28 = .ok (.iload_n 1, 1) := by decide +kernel
theorem dR_centralizer_29 : decode prog_14_method_101_code 29 = .ok (.invokevirtual 439, 3) := by decide +kernel
theorem dR_centralizer_32 : decode prog_14_method_101_code 32 = .ok (.isub, 1) := by decide +kernel
theorem dR_centralizer_33 : decode prog_14_method_101_code 33 = .ok (.goto 8, 3) := by decide +kernel
theorem dR_centralizer_36 : decode prog_14_method_101_code 36 = .ok (.aload_n 0, 1) := by decide +kernel
theorem dR_centralizer_37 : decode prog_14_method_101_code 37 = .ok (.iconst 2, 1) := by decide +kernel
theorem dR_centralizer_38 : decode prog_14_method_101_code 38 = .ok (.invokevirtual 351, 3) := by decide +kernel
theorem dR_centralizer_41 : decode prog_14_method_101_code 41 = .ok (.ireturn, 1) := by decide +kernel
theorem t_R_centralizer {d : Nat} {x1 : Int} {σ : SG} {Q : Int → SG → Prop} (h : inI x1 → ((∀ σ1, σ1 = up σ 161 1 0 → (∀ σ2, σ2 = up σ1 161 0 0 → Tri d M_R_askNow [vA 161] σ2 (fun r3 σ3 => Tri d M_R_isVector [vA 161, vJ x1] σ3 (fun r4 σ4 => (r4 = 0 → Tri d M_R_refuse [vA 161, vI 2] σ4 (fun r6 σ6 => Q r6 σ6)) ∧ (r4 ≠ 0 → Tri d M_R_rankOf [vA 161, vI x1] σ4 (fun r7 σ7 => Q (w32 ((σ4 161 27) - r7)) σ7)))))))) : Tri (d + 1) M_R_centralizer [vA 161, vI x1] σ Q :=
  Tri_intro rfl (Nat.le_of_ble_eq_true rfl) (ls := [vA 161, vI x1]) rfl (fun hok => L_aload_n dR_centralizer_0 rfl (L_iconst dR_centralizer_1 in_0 (L_putfN fp_R_132 rfl rfl (fun _ => ⟨rfl, rfl⟩) dR_centralizer_2 ⟨ob_161, fun σ1 e1 => L_aload_n dR_centralizer_5 rfl (L_iconst dR_centralizer_6 in_0 (L_putfN fp_R_135 rfl rfl (fun _ => ⟨rfl, rfl⟩) dR_centralizer_7 ⟨ob_161, fun σ2 e2 => L_aload_n dR_centralizer_10 rfl (L_callVV rfl cv_R_askNow (As := []) rfl (tk8 108 rfl rfl) rfl (Nat.le_of_ble_eq_true rfl) dR_centralizer_11 ⟨ob_161, Tri.mono (((h (hok _ (List.mem_of_getElem? (i := 1) rfl))) σ1 e1) σ2 e2) (fun r3 σ3 q3 => L_aload_n dR_centralizer_14 rfl (L_iload_n dR_centralizer_15 rfl (L_i2l dR_centralizer_16 (L_callVI rfl cv_R_isVector (As := [vJ x1]) rfl (tk8 141 rfl rfl) rfl (Nat.le_of_ble_eq_true rfl) dR_centralizer_17 ⟨ob_161, Tri.mono q3 (fun r4 σ4 q4 => L_if_eq dR_centralizer_20 (by decide) ⟨fun c5 => L_aload_n dR_centralizer_36 rfl (L_iconst dR_centralizer_37 in_2 (L_callVI rfl cv_R_refuse (As := [vI 2]) rfl (tk8 117 rfl rfl) rfl (Nat.le_of_ble_eq_true rfl) dR_centralizer_38 ⟨ob_161, Tri.mono (q4.1 c5) (fun r6 σ6 q6 => L_ireturn rfl dR_centralizer_41 q6)⟩)), fun c5 => L_aload_n dR_centralizer_23 rfl (L_getf fw_R_253 rfl dR_centralizer_24 ⟨ob_161, L_aload_n dR_centralizer_27 rfl (L_iload_n dR_centralizer_28 rfl (L_callVI rfl cv_R_rankOf (As := [vI x1]) rfl (tk9 51 rfl rfl) rfl (Nat.le_of_ble_eq_true rfl) dR_centralizer_29 ⟨ob_161, Tri.mono (q4.2 c5) (fun r7 σ7 q7 => L_isub dR_centralizer_32 (L_goto dR_centralizer_33 (by decide) (L_ireturn rfl dR_centralizer_41 q7)))⟩))⟩)⟩)⟩))))⟩)⟩))⟩)))
theorem dR_rank_0 : decode prog_14_method_102_code 0 = .ok (.aload_n 0, 1) := by decide +kernel
theorem dR_rank_1 : decode prog_14_method_102_code 1 = .ok (.iconst 0, 1) := by decide +kernel
theorem dR_rank_2 : decode prog_14_method_102_code 2 = .ok (.putfield 132, 3) := by decide +kernel
theorem dR_rank_5 : decode prog_14_method_102_code 5 = .ok (.aload_n 0, 1) := by decide +kernel
theorem dR_rank_6 : decode prog_14_method_102_code 6 = .ok (.iconst 0, 1) := by decide +kernel
theorem dR_rank_7 : decode prog_14_method_102_code 7 = .ok (.putfield 135, 3) := by decide +kernel
theorem dR_rank_10 : decode prog_14_method_102_code 10 = .ok (.aload_n 0, 1) := by decide +kernel
theorem dR_rank_11 : decode prog_14_method_102_code 11 = .ok (.invokevirtual 348, 3) := by decide +kernel
theorem dR_rank_14 : decode prog_14_method_102_code 14 = .ok (.aload_n 0, 1) := by decide +kernel
theorem dR_rank_15 : decode prog_14_method_102_code 15 = .ok (.iload_n 1, 1) := by decide +kernel
theorem dR_rank_16 : decode prog_14_method_102_code 16 = .ok (.i2l, 1) := by decide +kernel
theorem dR_rank_17 : decode prog_14_method_102_code 17 = .ok (.invokevirtual 357, 3) := by decide +kernel
theorem dR_rank_20 : decode prog_14_method_102_code 20 = .ok (.ifCond .eq 11, 3) := by decide +kernel
theorem dR_rank_23 : decode prog_14_method_102_code 23 = .ok (.aload_n 0, 1) := by decide +kernel
theorem dR_rank_24 : decode prog_14_method_102_code 24 = .ok (.iload_n 1, 1) := by decide +kernel
theorem dR_rank_25 : decode prog_14_method_102_code 25 = .ok (.invokevirtual 439, 3) := by decide +kernel
theorem dR_rank_28 : decode prog_14_method_102_code 28 = .ok (.goto 8, 3) := by decide +kernel
theorem dR_rank_31 : decode prog_14_method_102_code 31 = .ok (.aload_n 0, 1) := by decide +kernel
theorem dR_rank_32 : decode prog_14_method_102_code 32 = .ok (.iconst 2, 1) := by decide +kernel
theorem dR_rank_33 : decode prog_14_method_102_code 33 = .ok (.invokevirtual 351, 3) := by decide +kernel
theorem dR_rank_36 : decode prog_14_method_102_code 36 = .ok (.ireturn, 1) := by decide +kernel
theorem t_R_rank {d : Nat} {x1 : Int} {σ : SG} {Q : Int → SG → Prop} (h : inI x1 → ((∀ σ1, σ1 = up σ 161 1 0 → (∀ σ2, σ2 = up σ1 161 0 0 → Tri d M_R_askNow [vA 161] σ2 (fun r3 σ3 => Tri d M_R_isVector [vA 161, vJ x1] σ3 (fun r4 σ4 => (r4 = 0 → Tri d M_R_refuse [vA 161, vI 2] σ4 (fun r6 σ6 => Q r6 σ6)) ∧ (r4 ≠ 0 → Tri d M_R_rankOf [vA 161, vI x1] σ4 (fun r7 σ7 => Q r7 σ7)))))))) : Tri (d + 1) M_R_rank [vA 161, vI x1] σ Q :=
  Tri_intro rfl (Nat.le_of_ble_eq_true rfl) (ls := [vA 161, vI x1]) rfl (fun hok => L_aload_n dR_rank_0 rfl (L_iconst dR_rank_1 in_0 (L_putfN fp_R_132 rfl rfl (fun _ => ⟨rfl, rfl⟩) dR_rank_2 ⟨ob_161, fun σ1 e1 => L_aload_n dR_rank_5 rfl (L_iconst dR_rank_6 in_0 (L_putfN fp_R_135 rfl rfl (fun _ => ⟨rfl, rfl⟩) dR_rank_7 ⟨ob_161, fun σ2 e2 => L_aload_n dR_rank_10 rfl (L_callVV rfl cv_R_askNow (As := []) rfl (tk8 108 rfl rfl) rfl (Nat.le_of_ble_eq_true rfl) dR_rank_11 ⟨ob_161, Tri.mono (((h (hok _ (List.mem_of_getElem? (i := 1) rfl))) σ1 e1) σ2 e2) (fun r3 σ3 q3 => L_aload_n dR_rank_14 rfl (L_iload_n dR_rank_15 rfl (L_i2l dR_rank_16 (L_callVI rfl cv_R_isVector (As := [vJ x1]) rfl (tk8 141 rfl rfl) rfl (Nat.le_of_ble_eq_true rfl) dR_rank_17 ⟨ob_161, Tri.mono q3 (fun r4 σ4 q4 => L_if_eq dR_rank_20 (by decide) ⟨fun c5 => L_aload_n dR_rank_31 rfl (L_iconst dR_rank_32 in_2 (L_callVI rfl cv_R_refuse (As := [vI 2]) rfl (tk8 117 rfl rfl) rfl (Nat.le_of_ble_eq_true rfl) dR_rank_33 ⟨ob_161, Tri.mono (q4.1 c5) (fun r6 σ6 q6 => L_ireturn rfl dR_rank_36 q6)⟩)), fun c5 => L_aload_n dR_rank_23 rfl (L_iload_n dR_rank_24 rfl (L_callVI rfl cv_R_rankOf (As := [vI x1]) rfl (tk9 51 rfl rfl) rfl (Nat.le_of_ble_eq_true rfl) dR_rank_25 ⟨ob_161, Tri.mono (q4.2 c5) (fun r7 σ7 q7 => L_goto dR_rank_28 (by decide) (L_ireturn rfl dR_rank_36 q7))⟩))⟩)⟩))))⟩)⟩))⟩)))
